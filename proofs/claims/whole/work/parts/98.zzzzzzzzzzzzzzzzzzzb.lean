/-! nodes and atoms of all conditions gone through -/
/-- ATOMS of tests; matches -/
def csA : List (gCd × Bool) → Nat
  | [] => 0
  | (.inl c, _) :: r => tAt c.1 + csA r
  | (.inr _, _) :: r => csA r
def csM : List (gCd × Bool) → Nat
  | [] => 0
  | (.inl _, _) :: r => csM r
  | (.inr _, _) :: r => csM r + 1
section CSS
variable {T cnt H : Nat} {f pp ee R : Nat → Int32} {sl : gN → Nat}
theorem cs_sum : ∀ (cs : List (gCd × Bool)), (∀ c h, (Sum.inl c, h) ∈ cs → cWf cnt c.1 false ∧ dNh c.1 ≤ H) → (cs.map (fun x => (cdM T f pp ee R sl x.1).1)).sum ≤ csA cs * (H + 2) + csM cs ∧ (cs.map (fun x => (cdM T f pp ee R sl x.1).2.1)).sum = csA cs + csM cs
  | [], _ => ⟨Nat.zero_le _, rfl⟩
  | (.inl c, h) :: r, hc => by
    obtain ⟨i1, i2⟩ := cs_sum r (fun c h hm => hc c h (List.mem_cons_of_mem _ hm))
    obtain ⟨w, hh⟩ := hc c h (List.mem_cons_self ..)
    obtain ⟨n1, n2⟩ := (dW_n (T := T) (f := f) (pp := pp) (ee := ee) (env := c.2) (sl := fun u => sl (.inl u)) (ti := nuO R) c.1 false w).1 rfl false dZ
    have n3 := ((dNn_le c.1 false H w hh).1 rfl).1
    rw [List.map_cons, List.sum_cons, List.map_cons, List.sum_cons, i2]
    have e1 : (cdM T f pp ee R sl (.inl c)).1 = dNn c.1 := n1
    have e2 : (cdM T f pp ee R sl (.inl c)).2.1 = tAt c.1 := n2
    rw [e1, e2]
    show dNn c.1 + _ ≤ (tAt c.1 + csA r) * (H + 2) + csM r ∧ tAt c.1 + (csA r + csM r) = tAt c.1 + csA r + csM r
    rw [Nat.add_mul]
    omega
  | (.inr l, h) :: r, hc => by
    obtain ⟨i1, i2⟩ := cs_sum r (fun c h hm => hc c h (List.mem_cons_of_mem _ hm))
    rw [List.map_cons, List.sum_cons, List.map_cons, List.sum_cons, i2]
    show 1 + _ ≤ csA r * (H + 2) + (csM r + 1) ∧ 1 + (csA r + csM r) = csA r + (csM r + 1)
    omega
/-- within what can be asked -/
theorem cs_ok {cs : List (gCd × Bool)} (hc : ∀ c h, (Sum.inl c, h) ∈ cs → cWf cnt c.1 false ∧ dNh c.1 ≤ 32) (hA : csA cs ≤ 6) (hM : csM cs ≤ 32) : ∀ sl : gN → Nat, (cs.map (fun x => (cdM T f pp ee R sl x.1).1)).sum ≤ 400 ∧ (cs.map (fun x => (cdM T f pp ee R sl x.1).2.1)).sum ≤ 40 := fun sl => by
  obtain ⟨a, b⟩ := cs_sum (T := T) (f := f) (pp := pp) (ee := ee) (R := R) (sl := sl) cs hc
  omega
end CSS
