/-! the class's infer: all of it -/
section CIA
variable {κ : oKv} {Tt T0 mo y cnt : Nat} {A B : Nat → Nat} {D : cDt} {V : oSt} {nm : Nat → Option Nat} {U : List Nat} {kk f pp ee : Nat → Int32}
set_option maxHeartbeats 2000000 in
/-- **infer() gives the equations of the tree** -/
theorem c_infer (hH : wH κ Tt mo y cnt A V nm pp U) (hcn : cnt ≤ 2000) (t : tT) : cInf κ Tt T0 mo y cnt A B D V nm kk f pp ee U t ∧ cAr κ Tt T0 mo y cnt A B D V nm kk f pp ee U t ∧ ∀ tg d z a b, t = .inner tg d z a b → cInf κ Tt T0 mo y cnt A B D V nm kk f pp ee U a ∧ cInf κ Tt T0 mo y cnt A B D V nm kk f pp ee U b := by
  induction t with
  | leaf => exact ⟨fun env σ s g T m fk lo i j n _ _ _ _ _ _ _ h => (by cases h), ar_0 hH, fun _ _ _ _ _ h => by cases h⟩
  | inner tg d z a b Ia Ib =>
    refine ⟨fun env σ s g T m fk lo i j n hc hr hj hd hnd hln hw wf hk hsn hE hWU h hM hn => ?_, ar_all hH Ia.1 Ib.2.1, fun _ _ _ _ _ e => by injection e with _ _ _ e1 e2; subst e1; subst e2; exact ⟨Ia.1, Ib.1⟩⟩
    have hc0 := hc
    by_cases hs : mSat s.1
    rotate_left
    · exact c_infF hH env m i j n hd hWU h hs (by omega) hc
    rcases wf with ⟨c, _⟩ | ⟨c, _⟩ | ⟨-, wf⟩
    · cases c
    · cases c
    have rg : tg ≠ 31 → i ≤ d.1 ∧ d.1 < j := fun c => by
      unfold tRg at hr
      rw [if_neg c] at hr
      exact ⟨hr.1.1, hr.1.2.1⟩
    rcases wf with ⟨rfl, h1, wa, wb⟩ | ⟨rfl, ⟨h1, h2, h3, h4⟩, wa, wb⟩ | ⟨rfl, h1, wa⟩ | ⟨rfl, h1, wb⟩ | ⟨rfl, h1, wb⟩ | ⟨rfl, h1, ⟨h2, h3⟩, wa⟩ | ⟨hg, h1, h2, rfl, rfl⟩ | ⟨hg, ⟨h1, h2⟩, rfl, rfl⟩ | ⟨hg, ⟨h1, h2⟩, rfl, rfl⟩ | ⟨rfl, h1, h2⟩ | ⟨rfl, h1, wa⟩ | ⟨rfl, ⟨h1, h2⟩, wa, h3⟩ | ⟨rfl, h1, h2⟩ | ⟨rfl, ⟨h1, h2⟩, wa, wb⟩
    · exact in_1 hH Ia.1 Ib.1 hc hr hj hd hnd hln hw wa wb hk hsn hE hWU h hs hM hn
    · exact in_2 hH Ia.1 Ib.1 hc hr hj hd hnd hln hw h1 wa wb hk hsn hE hWU h hs hM hn
    · exact in_3 hH Ia.1 hc hr hj hd hnd hln hw wa hk hsn hE hWU h hs hM hn
    · cases b with
      | leaf => cases wb
      | inner tg' d' z' a' b' =>
        rcases wb with ⟨-, rfl, ⟨e1, e2⟩, wa', wb'⟩ | ⟨c, _⟩ | ⟨c, _⟩
        · obtain ⟨Ja, Jb⟩ := Ib.2.2 31 d' z' a' b' rfl
          exact in_4 hH Ja Jb hc hr hj hd hnd hln hw h1 e1 e2 wa' wb' hk hsn hE hWU h hs hM hn
        · cases c
        · cases c
    · exact in_5 hH Ib.1 hc hr hj hd hnd hln hw h1 wb hk hsn hE hWU h hs hM hn
    · exact in_6 hH Ia.1 hc hr hj hd hnd hln hw wa hk hsn hE hWU h hs hM hn
    · rcases hg with rfl | rfl
      · have hw : plW (cFd f pp ee) env (sEv d.2.2.2.1.2) ++ (plW (cFd f pp ee) env (sEv d.2.2.2.2.2) ++ ([] ++ [])) = [] := hw
        have hln : (sEv d.2.2.2.1.2 ++ (sEv d.2.2.2.2.2 ++ ([] ++ []))).length ≤ 2000 := hln
        rw [List.length_append] at hln
        have hn : max 0 0 + 2 + 6 ≤ n := hn
        obtain ⟨n, rfl⟩ : ∃ n', n = n' + 6 := ⟨n - 6, by omega⟩
        obtain ⟨l, c, su, c1, -⟩ := hc.2
        have P := pl_7 (n := n) hH h hc (by omega) (List.append_eq_nil_iff.mp hw).1
        obtain ⟨σ', v, g', T', q1, q2, q3, q4, q5, q6, q7⟩ := c_pl (n := n + 5) hH c1 (by show 8 < 21; omega) rfl (by decide) rfl (rg (by decide)) h hs P
        exact ⟨σ', v, g', T', q1, q2, q3, q4, q5, q6, q7, hc0⟩
      · have hw : plW (cFd f pp ee) env (sEv d.2.2.2.1.2) ++ (plW (cFd f pp ee) env (sEv d.2.2.2.2.2) ++ ([] ++ [])) = [] := hw
        have hln : (sEv d.2.2.2.1.2 ++ (sEv d.2.2.2.2.2 ++ ([] ++ []))).length ≤ 2000 := hln
        rw [List.length_append] at hln
        have hn : max 0 0 + 2 + 6 ≤ n := hn
        obtain ⟨n, rfl⟩ : ∃ n', n = n' + 6 := ⟨n - 6, by omega⟩
        obtain ⟨su, sq⟩ := hc
        have sq' := sq
        obtain ⟨pa', na, ta, cap', pc, ep, -⟩ := sq'
        have al := hsn.1 (Or.inl rfl)
        have e10 : d.2.2.2.1.1 = d.1 := hr.1.2.2.1 rfl
        have P := pl_10 (n := n) hH h sq (by omega) (List.append_eq_nil_iff.mp hw).1 (mSu f pp ee env d.2.2.2.1.2 s) (by
          by_cases c2 : tAl kk d.2.2.2.1 = 1
          · exact Or.inl ⟨c2, al.mp c2, rfl⟩
          · refine Or.inr ⟨c2, ?_⟩
            unfold mSu
            rw [if_neg (fun z => c2 (al.mpr z))])
        obtain ⟨σ', v, g', T', q1, q2, q3, q4, q5, q6, q7⟩ := c_pl (n := n + 5) (w := d.1) hH ep (by show 8 < 21; omega) rfl (by decide) (by show some (Value.int (pp d.2.2.2.1.1)) = _; rw [e10]) (rg (by decide)) h hs P
        exact ⟨σ', v, g', T', q1, q2, q3, q4, q5, q6, q7, hc0⟩
    · rcases hg with rfl | rfl | rfl
      · have hn : max 0 0 + 2 + 6 ≤ n := hn
        obtain ⟨n, rfl⟩ : ∃ n', n = n' + 6 := ⟨n - 6, by omega⟩
        obtain ⟨σ', v, g', T', q1, q2, q3, q4, q5, q6, q7⟩ := c_pl (n := n + 5) hH hc.2 (by show 8 < 21; omega) rfl (by decide) rfl (rg (by decide)) h hs (pl_bas (n := n + 3) (k := 1) (x := 202) (code := 223) h hc.2 rfl (by decide) rfl (Or.inr (Or.inl ⟨rfl, rfl⟩)))
        exact ⟨σ', v, g', T', q1, q2, q3, q4, q5, q6, q7, hc0⟩
      · have hn : max 0 0 + 2 + 6 ≤ n := hn
        obtain ⟨n, rfl⟩ : ∃ n', n = n' + 6 := ⟨n - 6, by omega⟩
        obtain ⟨σ', v, g', T', q1, q2, q3, q4, q5, q6, q7⟩ := c_pl (n := n + 5) hH hc.2 (by show 8 < 21; omega) rfl (by decide) rfl (rg (by decide)) h hs (pl_bas (n := n + 3) (k := 1) (x := 202) (code := 205) h hc.2 rfl (by decide) rfl (Or.inl ⟨rfl, rfl⟩))
        exact ⟨σ', v, g', T', q1, q2, q3, q4, q5, q6, q7, hc0⟩
      · have hn : max 0 0 + 2 + 6 ≤ n := hn
        obtain ⟨n, rfl⟩ : ∃ n', n = n' + 6 := ⟨n - 6, by omega⟩
        obtain ⟨σ', v, g', T', q1, q2, q3, q4, q5, q6, q7⟩ := c_pl (n := n + 5) hH hc.2 (by show 8 < 21; omega) rfl (by decide) rfl (rg (by decide)) h hs (pl_bas (n := n + 3) (k := 3) (x := 213) (code := 216) h hc.2 rfl (by decide) rfl (Or.inr (Or.inr ⟨rfl, rfl⟩)))
        exact ⟨σ', v, g', T', q1, q2, q3, q4, q5, q6, q7, hc0⟩
    · rcases hg with rfl | rfl | rfl
      · have hw : plW (cFd f pp ee) env (sEv d.2.2.2.1.2) ++ (plW (cFd f pp ee) env (sEv d.2.2.2.2.2) ++ ([] ++ [])) = [] := hw
        have hln : (sEv d.2.2.2.1.2 ++ (sEv d.2.2.2.2.2 ++ ([] ++ []))).length ≤ 2000 := hln
        simp only [List.length_append] at hln
        have hn : max 0 0 + 2 + 6 ≤ n := hn
        obtain ⟨n, rfl⟩ : ∃ n', n = n' + 6 := ⟨n - 6, by omega⟩
        obtain ⟨-, l, r, su, su', c1, c2, c3⟩ := hc
        have P := pl_2 (n := n) hH h c1 rfl rfl rfl (Or.inl rfl) c2 c3 (by omega) ⟨(List.append_eq_nil_iff.mp hw).1, (List.append_eq_nil_iff.mp (List.append_eq_nil_iff.mp hw).2).1⟩
        obtain ⟨σ', v, g', T', q1, q2, q3, q4, q5, q6, q7⟩ := c_pl (n := n + 5) hH c1 (by show 8 < 21; omega) rfl (by decide) rfl (rg (by decide)) h hs P
        exact ⟨σ', v, g', T', q1, q2, q3, q4, q5, q6, q7, hc0⟩
      · have hw : plW (cFd f pp ee) env (sEv d.2.2.2.1.2) ++ (plW (cFd f pp ee) env (sEv d.2.2.2.2.2) ++ ([] ++ [])) = [] := hw
        have hln : (sEv d.2.2.2.1.2 ++ (sEv d.2.2.2.2.2 ++ ([] ++ []))).length ≤ 2000 := hln
        simp only [List.length_append] at hln
        have hn : max 0 0 + 2 + 6 ≤ n := hn
        obtain ⟨n, rfl⟩ : ∃ n', n = n' + 6 := ⟨n - 6, by omega⟩
        obtain ⟨-, l, r, c, su, su', c1, c2, c3, -⟩ := hc
        have P := pl_2 (n := n) hH h c1 rfl rfl rfl (Or.inr (Or.inl rfl)) c2 c3 (by omega) ⟨(List.append_eq_nil_iff.mp hw).1, (List.append_eq_nil_iff.mp (List.append_eq_nil_iff.mp hw).2).1⟩
        obtain ⟨σ', v, g', T', q1, q2, q3, q4, q5, q6, q7⟩ := c_pl (n := n + 5) hH c1 (by show 8 < 21; omega) rfl (by decide) rfl (rg (by decide)) h hs P
        exact ⟨σ', v, g', T', q1, q2, q3, q4, q5, q6, q7, hc0⟩
      · have hw : plW (cFd f pp ee) env (sEv d.2.2.2.1.2) ++ (plW (cFd f pp ee) env (sEv d.2.2.2.2.2) ++ ([] ++ [])) = [] := hw
        have hln : (sEv d.2.2.2.1.2 ++ (sEv d.2.2.2.2.2 ++ ([] ++ []))).length ≤ 2000 := hln
        simp only [List.length_append] at hln
        have hn : max 0 0 + 2 + 6 ≤ n := hn
        obtain ⟨n, rfl⟩ : ∃ n', n = n' + 6 := ⟨n - 6, by omega⟩
        obtain ⟨-, l, r, c, su, su', c1, c2, c3, -⟩ := hc
        have P := pl_2 (n := n) hH h c1 rfl rfl rfl (Or.inr (Or.inr rfl)) c2 c3 (by omega) ⟨(List.append_eq_nil_iff.mp hw).1, (List.append_eq_nil_iff.mp (List.append_eq_nil_iff.mp hw).2).1⟩
        obtain ⟨σ', v, g', T', q1, q2, q3, q4, q5, q6, q7⟩ := c_pl (n := n + 5) hH c1 (by show 8 < 21; omega) rfl (by decide) rfl (rg (by decide)) h hs P
        exact ⟨σ', v, g', T', q1, q2, q3, q4, q5, q6, q7, hc0⟩
    · have hw : usW (cFd f pp ee) d.1 env ++ plW (cFd f pp ee) env (sEv d.2.2.2.1.2) = [] := hw
      have hln : ([d.1] ++ sEv d.2.2.2.1.2).length ≤ 2000 := hln
      simp only [List.length_append] at hln
      have hn : max (tDc a) (tDc b) + 2 + 6 ≤ n := hn
      obtain ⟨n, rfl⟩ : ∃ n', n = n' + 6 := ⟨n - 6, by omega⟩
      obtain ⟨u1, u2⟩ := List.append_eq_nil_iff.mp hw
      obtain ⟨l, nd, su, c1, -⟩ := hc.2
      have P := pl_14 (n := n) hH h hc (by omega) u1 u2
      obtain ⟨σ', v, g', T', q1, q2, q3, q4, q5, q6, q7⟩ := c_pl (n := n + 5) (w := d.1) (i := i) (j := j) hH c1 (by show 8 < 21; omega) rfl (by decide) rfl (rg (by decide)) h hs P
      exact ⟨σ', v, g', T', q1, q2, q3, by omega, q5, q6, q7, hc0⟩
    · exact in_15 hH hcn Ia.2.1 hc hr hj hd hnd hln hw wa hk hsn hE hWU h hs hM hn
    · exact in_16 hH Ia.1 hc hr hj hd hnd hln hw h1 h2 wa h3 hk hsn hE hWU h hs hM hn
    · have hw : plW (cFd f pp ee) env (sEv d.2.2.2.1.2) ++ usW (cFd f pp ee) d.2.1 env = [] := hw
      have hln : (sEv d.2.2.2.1.2 ++ [d.2.1]).length ≤ 2000 := hln
      simp only [List.length_append] at hln
      have hn : max (tDc a) (tDc b) + 2 + 6 ≤ n := hn
      obtain ⟨n, rfl⟩ : ∃ n', n = n' + 6 := ⟨n - 6, by omega⟩
      obtain ⟨u1, u2⟩ := List.append_eq_nil_iff.mp hw
      obtain ⟨l, su, c1, -⟩ := hc.2
      have P := pl_18 (n := n) hH h hc (by omega) u2 u1
      obtain ⟨σ', v, g', T', q1, q2, q3, q4, q5, q6, q7⟩ := c_pl (n := n + 5) (w := d.1) (i := i) (j := j) hH c1 (by show 8 < 21; omega) rfl (by decide) rfl (rg (by decide)) h hs P
      exact ⟨σ', v, g', T', q1, q2, q3, by omega, q5, q6, q7, hc0⟩
    · exact in_19 hH Ia.1 Ib.1 hc hr hj hd hnd hln hw wa wb hk hsn hE hWU h hs hM hn
end CIA
