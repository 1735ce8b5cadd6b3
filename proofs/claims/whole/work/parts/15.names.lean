abbrev wsJ00 : List Cond := u_ws RJ0 TJ0 4
