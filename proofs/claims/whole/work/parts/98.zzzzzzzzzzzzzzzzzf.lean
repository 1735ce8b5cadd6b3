/-! the reference: CASES lie one behind the other, all INSTANCES are left at first; all that richOf() calls keeps it (made by wip/pigen.py) -/
def iI (τ : zSt) : Prop := ∃ (c e : Nat) (fa fb : Nat → Nat), (τ.1 98 = nI c ∧ c ≤ 64) ∧ (τ.1 99 = nI e ∧ e ≤ 8000) ∧ (∀ i, i < c → τ.2.2.1 61 i = nI (fa i) ∧ τ.2.2.1 62 i = nI (fb i) ∧ fa i ≤ fb i ∧ fb i ≤ e ∧ ∀ j, i < j → j < c → fb i ≤ fa j) ∧ ∀ j, j < e → ¬ τ.2.2.1 65 j = 0
/-- while the CASE c is made -/
def iJ (c : Nat) (τ : zSt) : Prop := ∃ (e : Nat) (fa fb : Nat → Nat), (τ.1 98 = nI (c + 1) ∧ c < 64) ∧ (τ.1 99 = nI e ∧ e ≤ 8000) ∧ (τ.2.2.1 61 c = nI (fa c) ∧ fa c ≤ e) ∧ (∀ i, i < c → τ.2.2.1 61 i = nI (fa i) ∧ τ.2.2.1 62 i = nI (fb i) ∧ fa i ≤ fb i ∧ fb i ≤ fa c ∧ ∀ j, i < j → j < c → fb i ≤ fa j) ∧ ∀ j, j < e → ¬ τ.2.2.1 65 j = 0
def PIr (r : zRs) : Prop := ∀ w, r = some w → iI w.2
theorem PIr_none : PIr none := fun w h => by cases h
theorem PIr_some {x : Option Value} {σ : zSt} (h : iI σ) : PIr (some (x, σ)) := fun w e => by
  injection e with e
  rw [← e]
  exact h
theorem PIr_zgw {b : Bool} {r : zRs} (h : b = true → PIr r) : PIr (zgd b r) := by
  unfold zgd
  split
  · rename_i c
    exact h c
  · exact PIr_none
theorem PIr_zgd {b : Bool} {r : zRs} (h : PIr r) : PIr (zgd b r) := PIr_zgw (fun _ => h)
theorem PIr_let {s : zSt} {f : zSt → zRs} (h : PIr (f s)) : PIr (zlet s f) := h
theorem PIr_ite {c : Prop} [Decidable c] {a b : zRs} (h : PIr a) (g : PIr b) : PIr (if c then a else b) := by
  split
  · exact h
  · exact g
theorem PIr_zci {r : zRs} {f : Int32 → zSt → zRs} (h : PIr r) (g : ∀ x s, iI s → PIr (f x s)) : PIr (zci r f) := by
  unfold zci
  split
  · exact g _ _ (h _ rfl)
  · exact PIr_none
theorem PIr_zcv {r : zRs} {f : zSt → zRs} (h : PIr r) (g : ∀ s, iI s → PIr (f s)) : PIr (zcv r f) := by
  unfold zcv
  split
  · exact g _ (h _ rfl)
  · exact PIr_none
theorem iI_zA {k : Nat} {f : Nat → Int32} {σ : zSt} (h1 : k ≠ 61) (h2 : k ≠ 62) (h3 : k ≠ 65) (h : iI σ) : iI (zA σ k f) := by
  unfold iI zA
  simp only [if_neg (fun e : 61 = k => h1 e.symm), if_neg (fun e : 62 = k => h2 e.symm), if_neg (fun e : 65 = k => h3 e.symm)]
  exact h
theorem iI_zI {k : Nat} {v : Int32} {σ : zSt} (h1 : k ≠ 98) (h2 : k ≠ 99) (h : iI σ) : iI (zI σ k v) := by
  unfold iI zI
  simp only [if_neg (fun e : 98 = k => h1 e.symm), if_neg (fun e : 99 = k => h2 e.symm)]
  exact h
theorem zin_lt {e m : Nat} (he : e < 2 ^ 31) (g : zin (nI e) m = true) : e < m := by
  have g := of_decide_eq_true g
  rw [nI_toInt he] at g
  omega
theorem iI_zG {k : Nat} {f : Nat → Int64} {σ : zSt} (h : iI σ) : iI (zG σ k f) := h
theorem iI_zJ {k : Nat} {v : Int64} {σ : zSt} (h : iI σ) : iI (zJ σ k v) := h
theorem iJ_zA {c k : Nat} {f : Nat → Int32} {σ : zSt} (h1 : k ≠ 61) (h2 : k ≠ 62) (h3 : k ≠ 65) (h : iJ c σ) : iJ c (zA σ k f) := by
  unfold iJ zA
  simp only [if_neg (fun e : 61 = k => h1 e.symm), if_neg (fun e : 62 = k => h2 e.symm), if_neg (fun e : 65 = k => h3 e.symm)]
  exact h
/-- what is called keeps it -/
def cQi (h0 : Nat) (call : zCl) : Prop := (∀ (x1 : Int32), ∀ σ, iI σ → PIr (call 16 [.ref h0, .int x1] σ)) ∧ (∀ (x1 : Int32), ∀ σ, iI σ → PIr (call 38 [.ref h0, .int x1] σ)) ∧ (∀ (x1 : Int32), ∀ σ, iI σ → PIr (call 42 [.ref h0, .int x1] σ)) ∧ (∀ (x1 : Int32), ∀ σ, iI σ → PIr (call 48 [.ref h0, .int x1] σ)) ∧ (∀ (x1 : Int32), ∀ σ, iI σ → PIr (call 52 [.ref h0, .int x1] σ)) ∧ (∀ σ, iI σ → PIr (call 53 [.ref h0] σ)) ∧ (∀ (x1 : Int32) (x2 : Int32), ∀ σ, iI σ → PIr (call 54 [.ref h0, .int x1, .int x2] σ)) ∧ (∀ (x1 : Int32) (x2 : Int32), ∀ σ, iI σ → PIr (call 55 [.ref h0, .int x1, .int x2] σ)) ∧ (∀ (x1 : Int32), ∀ σ, iI σ → PIr (call 57 [.ref h0, .int x1] σ)) ∧ (∀ (x1 : Int32) (x2 : Int32) (x3 : Int32) (x4 : Int32) (x5 : Int32), ∀ σ, iI σ → PIr (call 67 [.ref h0, .int x1, .int x2, .int x3, .int x4, .int x5] σ)) ∧ (∀ (x1 : Int32) (x2 : Int32) (x3 : Int32), ∀ σ, iI σ → PIr (call 68 [.ref h0, .int x1, .int x2, .int x3] σ)) ∧ (∀ (x1 : Int32) (x2 : Int32) (x3 : Int32) (x4 : Int64) (x6 : Int32), ∀ σ, iI σ → PIr (call 69 [.ref h0, .int x1, .int x2, .int x3, .long x4, .int x6] σ)) ∧ (∀ (x1 : Int32), ∀ σ, iI σ → PIr (call 70 [.ref h0, .int x1] σ)) ∧ (∀ (x0 : Int32), ∀ σ, iI σ → PIr (call 71 [.int x0] σ)) ∧ (∀ (x1 : Int32), ∀ σ, iI σ → PIr (call 72 [.ref h0, .int x1] σ)) ∧ (∀ (x1 : Int32) (x2 : Int32) (x3 : Int32), ∀ σ, iI σ → PIr (call 73 [.ref h0, .int x1, .int x2, .int x3] σ)) ∧ (∀ (x1 : Int32) (x2 : Int32) (x3 : Int32), ∀ σ, iI σ → PIr (call 74 [.ref h0, .int x1, .int x2, .int x3] σ)) ∧ (∀ (x1 : Int32), ∀ σ, iI σ → PIr (call 75 [.ref h0, .int x1] σ)) ∧ (∀ (x1 : Int32) (x2 : Int32) (x3 : Int32), ∀ σ, iI σ → PIr (call 76 [.ref h0, .int x1, .int x2, .int x3] σ)) ∧ (∀ (x1 : Int32) (x2 : Int32) (x3 : Int32) (x4 : Int32) (x5 : Int64), ∀ σ, iI σ → PIr (call 77 [.ref h0, .int x1, .int x2, .int x3, .int x4, .long x5] σ)) ∧ (∀ (x1 : Int32) (x2 : Int32) (x3 : Int32) (x4 : Int32), ∀ σ, iI σ → PIr (call 78 [.ref h0, .int x1, .int x2, .int x3, .int x4] σ)) ∧ (∀ (x1 : Int32) (x2 : Int32) (x3 : Int32) (x4 : Int32) (x5 : Int32) (x6 : Int32), ∀ σ, iI σ → PIr (call 79 [.ref h0, .int x1, .int x2, .int x3, .int x4, .int x5, .int x6] σ)) ∧ (∀ (x1 : Int32), ∀ σ, iI σ → PIr (call 80 [.ref h0, .int x1] σ)) ∧ (∀ (x1 : Int32) (x2 : Int32) (x3 : Int32), ∀ σ, iI σ → PIr (call 81 [.ref h0, .int x1, .int x2, .int x3] σ)) ∧ (∀ (x1 : Int32) (x2 : Int32) (x3 : Int32), ∀ σ, iI σ → PIr (call 82 [.ref h0, .int x1, .int x2, .int x3] σ)) ∧ (∀ (x1 : Int32) (x2 : Int32) (x3 : Int32), ∀ σ, iI σ → PIr (call 83 [.ref h0, .int x1, .int x2, .int x3] σ))
theorem cQi.c16 {h0 : Nat} {call : zCl} (hc : cQi h0 call) (x1 : Int32) (σ : zSt) (h : iI σ) : PIr (call 16 [.ref h0, .int x1] σ) := hc.1 x1 σ h
theorem cQi.c38 {h0 : Nat} {call : zCl} (hc : cQi h0 call) (x1 : Int32) (σ : zSt) (h : iI σ) : PIr (call 38 [.ref h0, .int x1] σ) := hc.2.1 x1 σ h
theorem cQi.c42 {h0 : Nat} {call : zCl} (hc : cQi h0 call) (x1 : Int32) (σ : zSt) (h : iI σ) : PIr (call 42 [.ref h0, .int x1] σ) := hc.2.2.1 x1 σ h
theorem cQi.c48 {h0 : Nat} {call : zCl} (hc : cQi h0 call) (x1 : Int32) (σ : zSt) (h : iI σ) : PIr (call 48 [.ref h0, .int x1] σ) := hc.2.2.2.1 x1 σ h
theorem cQi.c52 {h0 : Nat} {call : zCl} (hc : cQi h0 call) (x1 : Int32) (σ : zSt) (h : iI σ) : PIr (call 52 [.ref h0, .int x1] σ) := hc.2.2.2.2.1 x1 σ h
theorem cQi.c53 {h0 : Nat} {call : zCl} (hc : cQi h0 call)  (σ : zSt) (h : iI σ) : PIr (call 53 [.ref h0] σ) := hc.2.2.2.2.2.1  σ h
theorem cQi.c54 {h0 : Nat} {call : zCl} (hc : cQi h0 call) (x1 : Int32) (x2 : Int32) (σ : zSt) (h : iI σ) : PIr (call 54 [.ref h0, .int x1, .int x2] σ) := hc.2.2.2.2.2.2.1 x1 x2 σ h
theorem cQi.c55 {h0 : Nat} {call : zCl} (hc : cQi h0 call) (x1 : Int32) (x2 : Int32) (σ : zSt) (h : iI σ) : PIr (call 55 [.ref h0, .int x1, .int x2] σ) := hc.2.2.2.2.2.2.2.1 x1 x2 σ h
theorem cQi.c57 {h0 : Nat} {call : zCl} (hc : cQi h0 call) (x1 : Int32) (σ : zSt) (h : iI σ) : PIr (call 57 [.ref h0, .int x1] σ) := hc.2.2.2.2.2.2.2.2.1 x1 σ h
theorem cQi.c67 {h0 : Nat} {call : zCl} (hc : cQi h0 call) (x1 : Int32) (x2 : Int32) (x3 : Int32) (x4 : Int32) (x5 : Int32) (σ : zSt) (h : iI σ) : PIr (call 67 [.ref h0, .int x1, .int x2, .int x3, .int x4, .int x5] σ) := hc.2.2.2.2.2.2.2.2.2.1 x1 x2 x3 x4 x5 σ h
theorem cQi.c68 {h0 : Nat} {call : zCl} (hc : cQi h0 call) (x1 : Int32) (x2 : Int32) (x3 : Int32) (σ : zSt) (h : iI σ) : PIr (call 68 [.ref h0, .int x1, .int x2, .int x3] σ) := hc.2.2.2.2.2.2.2.2.2.2.1 x1 x2 x3 σ h
theorem cQi.c69 {h0 : Nat} {call : zCl} (hc : cQi h0 call) (x1 : Int32) (x2 : Int32) (x3 : Int32) (x4 : Int64) (x6 : Int32) (σ : zSt) (h : iI σ) : PIr (call 69 [.ref h0, .int x1, .int x2, .int x3, .long x4, .int x6] σ) := hc.2.2.2.2.2.2.2.2.2.2.2.1 x1 x2 x3 x4 x6 σ h
theorem cQi.c70 {h0 : Nat} {call : zCl} (hc : cQi h0 call) (x1 : Int32) (σ : zSt) (h : iI σ) : PIr (call 70 [.ref h0, .int x1] σ) := hc.2.2.2.2.2.2.2.2.2.2.2.2.1 x1 σ h
theorem cQi.c71 {h0 : Nat} {call : zCl} (hc : cQi h0 call) (x0 : Int32) (σ : zSt) (h : iI σ) : PIr (call 71 [.int x0] σ) := hc.2.2.2.2.2.2.2.2.2.2.2.2.2.1 x0 σ h
theorem cQi.c72 {h0 : Nat} {call : zCl} (hc : cQi h0 call) (x1 : Int32) (σ : zSt) (h : iI σ) : PIr (call 72 [.ref h0, .int x1] σ) := hc.2.2.2.2.2.2.2.2.2.2.2.2.2.2.1 x1 σ h
theorem cQi.c73 {h0 : Nat} {call : zCl} (hc : cQi h0 call) (x1 : Int32) (x2 : Int32) (x3 : Int32) (σ : zSt) (h : iI σ) : PIr (call 73 [.ref h0, .int x1, .int x2, .int x3] σ) := hc.2.2.2.2.2.2.2.2.2.2.2.2.2.2.2.1 x1 x2 x3 σ h
theorem cQi.c74 {h0 : Nat} {call : zCl} (hc : cQi h0 call) (x1 : Int32) (x2 : Int32) (x3 : Int32) (σ : zSt) (h : iI σ) : PIr (call 74 [.ref h0, .int x1, .int x2, .int x3] σ) := hc.2.2.2.2.2.2.2.2.2.2.2.2.2.2.2.2.1 x1 x2 x3 σ h
theorem cQi.c75 {h0 : Nat} {call : zCl} (hc : cQi h0 call) (x1 : Int32) (σ : zSt) (h : iI σ) : PIr (call 75 [.ref h0, .int x1] σ) := hc.2.2.2.2.2.2.2.2.2.2.2.2.2.2.2.2.2.1 x1 σ h
theorem cQi.c76 {h0 : Nat} {call : zCl} (hc : cQi h0 call) (x1 : Int32) (x2 : Int32) (x3 : Int32) (σ : zSt) (h : iI σ) : PIr (call 76 [.ref h0, .int x1, .int x2, .int x3] σ) := hc.2.2.2.2.2.2.2.2.2.2.2.2.2.2.2.2.2.2.1 x1 x2 x3 σ h
theorem cQi.c77 {h0 : Nat} {call : zCl} (hc : cQi h0 call) (x1 : Int32) (x2 : Int32) (x3 : Int32) (x4 : Int32) (x5 : Int64) (σ : zSt) (h : iI σ) : PIr (call 77 [.ref h0, .int x1, .int x2, .int x3, .int x4, .long x5] σ) := hc.2.2.2.2.2.2.2.2.2.2.2.2.2.2.2.2.2.2.2.1 x1 x2 x3 x4 x5 σ h
theorem cQi.c78 {h0 : Nat} {call : zCl} (hc : cQi h0 call) (x1 : Int32) (x2 : Int32) (x3 : Int32) (x4 : Int32) (σ : zSt) (h : iI σ) : PIr (call 78 [.ref h0, .int x1, .int x2, .int x3, .int x4] σ) := hc.2.2.2.2.2.2.2.2.2.2.2.2.2.2.2.2.2.2.2.2.1 x1 x2 x3 x4 σ h
theorem cQi.c79 {h0 : Nat} {call : zCl} (hc : cQi h0 call) (x1 : Int32) (x2 : Int32) (x3 : Int32) (x4 : Int32) (x5 : Int32) (x6 : Int32) (σ : zSt) (h : iI σ) : PIr (call 79 [.ref h0, .int x1, .int x2, .int x3, .int x4, .int x5, .int x6] σ) := hc.2.2.2.2.2.2.2.2.2.2.2.2.2.2.2.2.2.2.2.2.2.1 x1 x2 x3 x4 x5 x6 σ h
theorem cQi.c80 {h0 : Nat} {call : zCl} (hc : cQi h0 call) (x1 : Int32) (σ : zSt) (h : iI σ) : PIr (call 80 [.ref h0, .int x1] σ) := hc.2.2.2.2.2.2.2.2.2.2.2.2.2.2.2.2.2.2.2.2.2.2.1 x1 σ h
theorem cQi.c81 {h0 : Nat} {call : zCl} (hc : cQi h0 call) (x1 : Int32) (x2 : Int32) (x3 : Int32) (σ : zSt) (h : iI σ) : PIr (call 81 [.ref h0, .int x1, .int x2, .int x3] σ) := hc.2.2.2.2.2.2.2.2.2.2.2.2.2.2.2.2.2.2.2.2.2.2.2.1 x1 x2 x3 σ h
theorem cQi.c82 {h0 : Nat} {call : zCl} (hc : cQi h0 call) (x1 : Int32) (x2 : Int32) (x3 : Int32) (σ : zSt) (h : iI σ) : PIr (call 82 [.ref h0, .int x1, .int x2, .int x3] σ) := hc.2.2.2.2.2.2.2.2.2.2.2.2.2.2.2.2.2.2.2.2.2.2.2.2.1 x1 x2 x3 σ h
theorem cQi.c83 {h0 : Nat} {call : zCl} (hc : cQi h0 call) (x1 : Int32) (x2 : Int32) (x3 : Int32) (σ : zSt) (h : iI σ) : PIr (call 83 [.ref h0, .int x1, .int x2, .int x3] σ) := hc.2.2.2.2.2.2.2.2.2.2.2.2.2.2.2.2.2.2.2.2.2.2.2.2.2 x1 x2 x3 σ h
section PIG
variable {n h0 : Nat} {call : zCl} {qs : List Nat} {ks : Nat → Nat}
theorem pi_l_numberOf_9  (hc : cQi h0 call)  : ∀ (t : Nat) (x0 : Int32) (x1 : Int32) (x2 : Int32) (σ : zSt), iI σ → PIr (l_numberOf_9 n call h0 qs ks  t x0 x1 x2 σ) := by
  intro t
  induction t with
  | zero => intros; exact PIr_none
  | succ t ih =>
    intro x0 x1 x2 σ h
    rw [l_numberOf_9]
    repeat' (with_reducible (first | assumption | (refine PIr_zgd ?_) | (refine PIr_let ?_) | (refine PIr_ite ?_ ?_) | (refine PIr_some ?_) | (refine iI_zA (by decide) (by decide) (by decide) ?_) | (refine iI_zI (by decide) (by decide) ?_) | (refine iI_zG ?_) | (refine iI_zJ ?_) | (refine ih _ _ _ _ ?_)))
theorem pi_b_numberOf  {x1 : Int32} {σ : zSt} (hc : cQi h0 call)  (h : iI σ) : PIr (b_numberOf n call h0 qs ks  x1 σ) := by
  unfold b_numberOf
  repeat' (with_reducible (first | assumption | (refine PIr_zgd ?_) | (refine PIr_let ?_) | (refine PIr_ite ?_ ?_) | (refine PIr_some ?_) | (refine iI_zA (by decide) (by decide) (by decide) ?_) | (refine iI_zI (by decide) (by decide) ?_) | (refine iI_zG ?_) | (refine iI_zJ ?_) | (refine pi_l_numberOf_9 hc  _ _ _ _ _ ?_)))
theorem pi_l_parameters_2  (hc : cQi h0 call)  : ∀ (t : Nat) (x0 : Int32) (x1 : Int32) (σ : zSt), iI σ → PIr (l_parameters_2 n call h0 qs ks  t x0 x1 σ) := by
  intro t
  induction t with
  | zero => intros; exact PIr_none
  | succ t ih =>
    intro x0 x1 σ h
    rw [l_parameters_2]
    repeat' (with_reducible (first | assumption | (refine PIr_zgd ?_) | (refine PIr_let ?_) | (refine PIr_ite ?_ ?_) | (refine PIr_some ?_) | (refine iI_zA (by decide) (by decide) (by decide) ?_) | (refine iI_zI (by decide) (by decide) ?_) | (refine iI_zG ?_) | (refine iI_zJ ?_) | (refine ih _ _ _ ?_)))
theorem pi_b_parameters  {x1 : Int32} {σ : zSt} (hc : cQi h0 call)  (h : iI σ) : PIr (b_parameters n call h0 qs ks  x1 σ) := by
  unfold b_parameters
  repeat' (with_reducible (first | assumption | (refine PIr_zgd ?_) | (refine PIr_let ?_) | (refine PIr_ite ?_ ?_) | (refine PIr_some ?_) | (refine iI_zA (by decide) (by decide) (by decide) ?_) | (refine iI_zI (by decide) (by decide) ?_) | (refine iI_zG ?_) | (refine iI_zJ ?_) | (refine pi_l_parameters_2 hc  _ _ _ _ ?_)))
theorem pi_l_real_2  (hc : cQi h0 call)  : ∀ (t : Nat) (x0 : Int32) (σ : zSt), iI σ → PIr (l_real_2 n call h0 qs ks  t x0 σ) := by
  intro t
  induction t with
  | zero => intros; exact PIr_none
  | succ t ih =>
    intro x0 σ h
    rw [l_real_2]
    repeat' (with_reducible (first | assumption | (refine PIr_zgd ?_) | (refine PIr_let ?_) | (refine PIr_ite ?_ ?_) | (refine PIr_some ?_) | (refine iI_zA (by decide) (by decide) (by decide) ?_) | (refine iI_zI (by decide) (by decide) ?_) | (refine iI_zG ?_) | (refine iI_zJ ?_) | (refine ih _ _ ?_)))
theorem pi_b_real  {x1 : Int32} {σ : zSt} (hc : cQi h0 call)  (h : iI σ) : PIr (b_real n call h0 qs ks  x1 σ) := by
  unfold b_real
  repeat' (with_reducible (first | assumption | (refine PIr_zgd ?_) | (refine PIr_let ?_) | (refine PIr_ite ?_ ?_) | (refine PIr_some ?_) | (refine iI_zA (by decide) (by decide) (by decide) ?_) | (refine iI_zI (by decide) (by decide) ?_) | (refine iI_zG ?_) | (refine iI_zJ ?_) | (refine pi_l_real_2 hc  _ _ _ ?_)))
theorem pi_b_isName  {x1 : Int32} {σ : zSt} (hc : cQi h0 call)  (h : iI σ) : PIr (b_isName n call h0 qs ks  x1 σ) := by
  unfold b_isName
  repeat' (with_reducible (first | assumption | (refine PIr_zgd ?_) | (refine PIr_let ?_) | (refine PIr_ite ?_ ?_) | (refine PIr_some ?_) | (refine iI_zA (by decide) (by decide) (by decide) ?_) | (refine iI_zI (by decide) (by decide) ?_) | (refine iI_zG ?_) | (refine iI_zJ ?_)))
theorem pi_b_sort  {x1 : Int32} {σ : zSt} (hc : cQi h0 call)  (h : iI σ) : PIr (b_sort n call h0 qs ks  x1 σ) := by
  unfold b_sort
  repeat' (with_reducible (first | assumption | (refine PIr_zgd ?_) | (refine PIr_let ?_) | (refine PIr_ite ?_ ?_) | (refine PIr_some ?_) | (refine iI_zA (by decide) (by decide) (by decide) ?_) | (refine iI_zI (by decide) (by decide) ?_) | (refine iI_zG ?_) | (refine iI_zJ ?_) | (refine PIr_zci (cQi.c42 hc _ _ ?_) (fun _ _ _ => ?_))))
theorem pi_b_clearLine   {σ : zSt} (hc : cQi h0 call)  (h : iI σ) : PIr (b_clearLine n call h0 qs ks   σ) := by
  unfold b_clearLine
  repeat' (with_reducible (first | assumption | (refine PIr_zgd ?_) | (refine PIr_let ?_) | (refine PIr_ite ?_ ?_) | (refine PIr_some ?_) | (refine iI_zA (by decide) (by decide) (by decide) ?_) | (refine iI_zI (by decide) (by decide) ?_) | (refine iI_zG ?_) | (refine iI_zJ ?_)))
theorem pi_j_addName_58  {x2 : Int32} {x3 : Int32} {σ : zSt} (hc : cQi h0 call)  (h : iI σ) : PIr (j_addName_58 n call h0 qs ks  x2 x3 σ) := by
  unfold j_addName_58
  repeat' (with_reducible (first | assumption | (refine PIr_zgd ?_) | (refine PIr_let ?_) | (refine PIr_ite ?_ ?_) | (refine PIr_some ?_) | (refine iI_zA (by decide) (by decide) (by decide) ?_) | (refine iI_zI (by decide) (by decide) ?_) | (refine iI_zG ?_) | (refine iI_zJ ?_)))
theorem pi_j_addName_26  {x1 : Int32} {x2 : Int32} {x3 : Int32} {σ : zSt} (hc : cQi h0 call)  (h : iI σ) : PIr (j_addName_26 n call h0 qs ks  x1 x2 x3 σ) := by
  unfold j_addName_26
  repeat' (with_reducible (first | assumption | (refine PIr_zgd ?_) | (refine PIr_let ?_) | (refine PIr_ite ?_ ?_) | (refine PIr_some ?_) | (refine iI_zA (by decide) (by decide) (by decide) ?_) | (refine iI_zI (by decide) (by decide) ?_) | (refine iI_zG ?_) | (refine iI_zJ ?_) | (refine pi_j_addName_58 hc  ?_)))
theorem pi_l_addName_2  (hc : cQi h0 call)  : ∀ (t : Nat) (x0 : Int32) (x1 : Int32) (x2 : Int32) (σ : zSt), iI σ → PIr (l_addName_2 n call h0 qs ks  t x0 x1 x2 σ) := by
  intro t
  induction t with
  | zero => intros; exact PIr_none
  | succ t ih =>
    intro x0 x1 x2 σ h
    rw [l_addName_2]
    repeat' (with_reducible (first | assumption | (refine PIr_zgd ?_) | (refine PIr_let ?_) | (refine PIr_ite ?_ ?_) | (refine PIr_some ?_) | (refine iI_zA (by decide) (by decide) (by decide) ?_) | (refine iI_zI (by decide) (by decide) ?_) | (refine iI_zG ?_) | (refine iI_zJ ?_) | (refine pi_j_addName_26 hc  ?_) | (refine ih _ _ _ _ ?_)))
theorem pi_b_addName  {x1 : Int32} {x2 : Int32} {σ : zSt} (hc : cQi h0 call)  (h : iI σ) : PIr (b_addName n call h0 qs ks  x1 x2 σ) := by
  unfold b_addName
  repeat' (with_reducible (first | assumption | (refine PIr_zgd ?_) | (refine PIr_let ?_) | (refine PIr_ite ?_ ?_) | (refine PIr_some ?_) | (refine iI_zA (by decide) (by decide) (by decide) ?_) | (refine iI_zI (by decide) (by decide) ?_) | (refine iI_zG ?_) | (refine iI_zJ ?_) | (refine pi_l_addName_2 hc  _ _ _ _ _ ?_)))
theorem pi_j_addSum_89 {k7 : Int32 → Int32 → Int32 → zSt → zRs} {x1 : Int32} {x2 : Int32} {x3 : Int32} {σ : zSt} (hc : cQi h0 call) (hk7 : ∀ (a0 : Int32) (a1 : Int32) (a2 : Int32), ∀ σ, iI σ → PIr (k7 a0 a1 a2 σ)) (h : iI σ) : PIr (j_addSum_89 n call h0 qs ks k7 x1 x2 x3 σ) := by
  unfold j_addSum_89
  repeat' (with_reducible (first | assumption | (refine PIr_zgd ?_) | (refine PIr_let ?_) | (refine PIr_ite ?_ ?_) | (refine PIr_some ?_) | (refine iI_zA (by decide) (by decide) (by decide) ?_) | (refine iI_zI (by decide) (by decide) ?_) | (refine iI_zG ?_) | (refine iI_zJ ?_) | (refine hk7 _ _ _ _ ?_)))
theorem pi_l_addSum_7  (hc : cQi h0 call)  : ∀ (t : Nat) (x0 : Int32) (x1 : Int32) (x2 : Int32) (σ : zSt), iI σ → PIr (l_addSum_7 n call h0 qs ks  t x0 x1 x2 σ) := by
  intro t
  induction t with
  | zero => intros; exact PIr_none
  | succ t ih =>
    intro x0 x1 x2 σ h
    rw [l_addSum_7]
    repeat' (with_reducible (first | assumption | (refine PIr_zgd ?_) | (refine PIr_let ?_) | (refine PIr_ite ?_ ?_) | (refine PIr_some ?_) | (refine iI_zA (by decide) (by decide) (by decide) ?_) | (refine iI_zI (by decide) (by decide) ?_) | (refine iI_zG ?_) | (refine iI_zJ ?_) | (refine PIr_zci (cQi.c16 hc _ _ ?_) (fun _ _ _ => ?_)) | (refine PIr_zcv (cQi.c54 hc _ _ _ ?_) (fun _ _ => ?_)) | (refine pi_j_addSum_89 hc ih ?_)))
theorem pi_b_addSum  {x1 : Int32} {x2 : Int32} {σ : zSt} (hc : cQi h0 call)  (h : iI σ) : PIr (b_addSum n call h0 qs ks  x1 x2 σ) := by
  unfold b_addSum
  repeat' (with_reducible (first | assumption | (refine PIr_zgd ?_) | (refine PIr_let ?_) | (refine PIr_ite ?_ ?_) | (refine PIr_some ?_) | (refine iI_zA (by decide) (by decide) (by decide) ?_) | (refine iI_zI (by decide) (by decide) ?_) | (refine iI_zG ?_) | (refine iI_zJ ?_) | (refine pi_l_addSum_7 hc  _ _ _ _ _ ?_)))
theorem pi_j_isTerm_45   {σ : zSt} (hc : cQi h0 call)  (h : iI σ) : PIr (j_isTerm_45 n call h0 qs ks   σ) := by
  unfold j_isTerm_45
  repeat' (with_reducible (first | assumption | (refine PIr_zgd ?_) | (refine PIr_let ?_) | (refine PIr_ite ?_ ?_) | (refine PIr_some ?_) | (refine iI_zA (by decide) (by decide) (by decide) ?_) | (refine iI_zI (by decide) (by decide) ?_) | (refine iI_zG ?_) | (refine iI_zJ ?_)))
theorem pi_b_isTerm  {x1 : Int32} {σ : zSt} (hc : cQi h0 call)  (h : iI σ) : PIr (b_isTerm n call h0 qs ks  x1 σ) := by
  unfold b_isTerm
  repeat' (with_reducible (first | assumption | (refine PIr_zgd ?_) | (refine PIr_let ?_) | (refine PIr_ite ?_ ?_) | (refine PIr_some ?_) | (refine iI_zA (by decide) (by decide) (by decide) ?_) | (refine iI_zI (by decide) (by decide) ?_) | (refine iI_zG ?_) | (refine iI_zJ ?_) | (refine PIr_zcv (cQi.c53 hc  _ ?_) (fun _ _ => ?_)) | (refine PIr_zcv (cQi.c55 hc _ _ _ ?_) (fun _ _ => ?_)) | (refine pi_j_isTerm_45 hc  ?_)))
theorem pi_b_rich  {x1 : Int32} {x2 : Int32} {x3 : Int32} {x4 : Int32} {x5 : Int32} {σ : zSt} (hc : cQi h0 call)  (h : iI σ) : PIr (b_rich n call h0 qs ks  x1 x2 x3 x4 x5 σ) := by
  unfold b_rich
  repeat' (with_reducible (first | assumption | (refine PIr_zgd ?_) | (refine PIr_let ?_) | (refine PIr_ite ?_ ?_) | (refine PIr_some ?_) | (refine iI_zA (by decide) (by decide) (by decide) ?_) | (refine iI_zI (by decide) (by decide) ?_) | (refine iI_zG ?_) | (refine iI_zJ ?_)))
theorem pi_b_said  {x1 : Int32} {x2 : Int32} {x3 : Int32} {σ : zSt} (hc : cQi h0 call)  (h : iI σ) : PIr (b_said n call h0 qs ks  x1 x2 x3 σ) := by
  unfold b_said
  repeat' (with_reducible (first | assumption | (refine PIr_zgd ?_) | (refine PIr_let ?_) | (refine PIr_ite ?_ ?_) | (refine PIr_some ?_) | (refine iI_zA (by decide) (by decide) (by decide) ?_) | (refine iI_zI (by decide) (by decide) ?_) | (refine iI_zG ?_) | (refine iI_zJ ?_)))
theorem pi_b_fact  {x1 : Int32} {x2 : Int32} {x3 : Int32} {x4 : Int64} {x6 : Int32} {σ : zSt} (hc : cQi h0 call)  (h : iI σ) : PIr (b_fact n call h0 qs ks  x1 x2 x3 x4 x6 σ) := by
  unfold b_fact
  repeat' (with_reducible (first | assumption | (refine PIr_zgd ?_) | (refine PIr_let ?_) | (refine PIr_ite ?_ ?_) | (refine PIr_some ?_) | (refine iI_zA (by decide) (by decide) (by decide) ?_) | (refine iI_zI (by decide) (by decide) ?_) | (refine iI_zG ?_) | (refine iI_zJ ?_)))
theorem pi_b_isSum  {x1 : Int32} {σ : zSt} (hc : cQi h0 call)  (h : iI σ) : PIr (b_isSum n call h0 qs ks  x1 σ) := by
  unfold b_isSum
  repeat' (with_reducible (first | assumption | (refine PIr_zgd ?_) | (refine PIr_let ?_) | (refine PIr_ite ?_ ?_) | (refine PIr_some ?_) | (refine iI_zA (by decide) (by decide) (by decide) ?_) | (refine iI_zI (by decide) (by decide) ?_) | (refine iI_zG ?_) | (refine iI_zJ ?_) | (refine PIr_zci (cQi.c57 hc _ _ ?_) (fun _ _ _ => ?_)) | (refine PIr_zci (cQi.c69 hc _ _ _ _ _ _ ?_) (fun _ _ _ => ?_))))
theorem pi_j_isSaid_15   {σ : zSt} (hc : cQi h0 call)  (h : iI σ) : PIr (j_isSaid_15 n call h0 qs ks   σ) := by
  unfold j_isSaid_15
  repeat' (with_reducible (first | assumption | (refine PIr_zgd ?_) | (refine PIr_let ?_) | (refine PIr_ite ?_ ?_) | (refine PIr_some ?_) | (refine iI_zA (by decide) (by decide) (by decide) ?_) | (refine iI_zI (by decide) (by decide) ?_) | (refine iI_zG ?_) | (refine iI_zJ ?_)))
theorem pi_b_isSaid  {x0 : Int32} {σ : zSt} (hc : cQi h0 call)  (h : iI σ) : PIr (b_isSaid n call h0 qs ks  x0 σ) := by
  unfold b_isSaid
  repeat' (with_reducible (first | assumption | (refine PIr_zgd ?_) | (refine PIr_let ?_) | (refine PIr_ite ?_ ?_) | (refine PIr_some ?_) | (refine iI_zA (by decide) (by decide) (by decide) ?_) | (refine iI_zI (by decide) (by decide) ?_) | (refine iI_zG ?_) | (refine iI_zJ ?_) | (refine pi_j_isSaid_15 hc  ?_)))
theorem pi_j_plainType_20  {t1 : Int32} {t2 : Int32} {σ : zSt} (hc : cQi h0 call)  (h : iI σ) : PIr (j_plainType_20 n call h0 qs ks  t1 t2 σ) := by
  unfold j_plainType_20
  repeat' (with_reducible (first | assumption | (refine PIr_zgd ?_) | (refine PIr_let ?_) | (refine PIr_ite ?_ ?_) | (refine PIr_some ?_) | (refine iI_zA (by decide) (by decide) (by decide) ?_) | (refine iI_zI (by decide) (by decide) ?_) | (refine iI_zG ?_) | (refine iI_zJ ?_) | (refine PIr_zci (cQi.c67 hc _ _ _ _ _ _ ?_) (fun _ _ _ => ?_))))
theorem pi_b_plainType  {x1 : Int32} {σ : zSt} (hc : cQi h0 call)  (h : iI σ) : PIr (b_plainType n call h0 qs ks  x1 σ) := by
  unfold b_plainType
  repeat' (with_reducible (first | assumption | (refine PIr_zgd ?_) | (refine PIr_let ?_) | (refine PIr_ite ?_ ?_) | (refine PIr_some ?_) | (refine iI_zA (by decide) (by decide) (by decide) ?_) | (refine iI_zI (by decide) (by decide) ?_) | (refine iI_zG ?_) | (refine iI_zJ ?_) | (refine PIr_zci (cQi.c68 hc _ _ _ _ ?_) (fun _ _ _ => ?_)) | (refine PIr_zci (cQi.c71 hc _ _ ?_) (fun _ _ _ => ?_)) | (refine pi_j_plainType_20 hc  ?_)))
theorem pi_j_knows_91  {t1 : Int32} {t2 : Int32} {σ : zSt} (hc : cQi h0 call)  (h : iI σ) : PIr (j_knows_91 n call h0 qs ks  t1 t2 σ) := by
  unfold j_knows_91
  repeat' (with_reducible (first | assumption | (refine PIr_zgd ?_) | (refine PIr_let ?_) | (refine PIr_ite ?_ ?_) | (refine PIr_some ?_) | (refine iI_zA (by decide) (by decide) (by decide) ?_) | (refine iI_zI (by decide) (by decide) ?_) | (refine iI_zG ?_) | (refine iI_zJ ?_)))
theorem pi_j_knows_70  {x2 : Int32} {x3 : Int32} {t1 : Int32} {t2 : Int32} {σ : zSt} (hc : cQi h0 call)  (h : iI σ) : PIr (j_knows_70 n call h0 qs ks  x2 x3 t1 t2 σ) := by
  unfold j_knows_70
  repeat' (with_reducible (first | assumption | (refine PIr_zgd ?_) | (refine PIr_let ?_) | (refine PIr_ite ?_ ?_) | (refine PIr_some ?_) | (refine iI_zA (by decide) (by decide) (by decide) ?_) | (refine iI_zI (by decide) (by decide) ?_) | (refine iI_zG ?_) | (refine iI_zJ ?_) | (refine pi_j_knows_91 hc  ?_)))
theorem pi_j_knows_65  {x2 : Int32} {x3 : Int32} {t1 : Int32} {σ : zSt} (hc : cQi h0 call)  (h : iI σ) : PIr (j_knows_65 n call h0 qs ks  x2 x3 t1 σ) := by
  unfold j_knows_65
  repeat' (with_reducible (first | assumption | (refine PIr_zgd ?_) | (refine PIr_let ?_) | (refine PIr_ite ?_ ?_) | (refine PIr_some ?_) | (refine iI_zA (by decide) (by decide) (by decide) ?_) | (refine iI_zI (by decide) (by decide) ?_) | (refine iI_zG ?_) | (refine iI_zJ ?_) | (refine pi_j_knows_70 hc  ?_)))
theorem pi_b_knows  {x1 : Int32} {x2 : Int32} {x3 : Int32} {σ : zSt} (hc : cQi h0 call)  (h : iI σ) : PIr (b_knows n call h0 qs ks  x1 x2 x3 σ) := by
  unfold b_knows
  repeat' (with_reducible (first | assumption | (refine PIr_zgd ?_) | (refine PIr_let ?_) | (refine PIr_ite ?_ ?_) | (refine PIr_some ?_) | (refine iI_zA (by decide) (by decide) (by decide) ?_) | (refine iI_zI (by decide) (by decide) ?_) | (refine iI_zG ?_) | (refine iI_zJ ?_) | (refine pi_j_knows_65 hc  ?_) | (refine pi_j_knows_70 hc  ?_)))
theorem pi_b_gone  {x1 : Int32} {x2 : Int32} {x3 : Int32} {σ : zSt} (hc : cQi h0 call)  (h : iI σ) : PIr (b_gone n call h0 qs ks  x1 x2 x3 σ) := by
  unfold b_gone
  repeat' (with_reducible (first | assumption | (refine PIr_zgd ?_) | (refine PIr_let ?_) | (refine PIr_ite ?_ ?_) | (refine PIr_some ?_) | (refine iI_zA (by decide) (by decide) (by decide) ?_) | (refine iI_zI (by decide) (by decide) ?_) | (refine iI_zG ?_) | (refine iI_zJ ?_)))
theorem pi_l_namesAt_55  (hc : cQi h0 call)  : ∀ (t : Nat) (x0 : Int32) (x1 : Int32) (σ : zSt), iI σ → PIr (l_namesAt_55 n call h0 qs ks  t x0 x1 σ) := by
  intro t
  induction t with
  | zero => intros; exact PIr_none
  | succ t ih =>
    intro x0 x1 σ h
    rw [l_namesAt_55]
    repeat' (with_reducible (first | assumption | (refine PIr_zgd ?_) | (refine PIr_let ?_) | (refine PIr_ite ?_ ?_) | (refine PIr_some ?_) | (refine iI_zA (by decide) (by decide) (by decide) ?_) | (refine iI_zI (by decide) (by decide) ?_) | (refine iI_zG ?_) | (refine iI_zJ ?_) | (refine ih _ _ _ ?_)))
theorem pi_j_namesAt_43 {k4 : Int32 → Int32 → zSt → zRs} {x2 : Int32} {x3 : Int32} {σ : zSt} (hc : cQi h0 call) (hk4 : ∀ (a0 : Int32) (a1 : Int32), ∀ σ, iI σ → PIr (k4 a0 a1 σ)) (h : iI σ) : PIr (j_namesAt_43 n call h0 qs ks k4 x2 x3 σ) := by
  unfold j_namesAt_43
  repeat' (with_reducible (first | assumption | (refine PIr_zgd ?_) | (refine PIr_let ?_) | (refine PIr_ite ?_ ?_) | (refine PIr_some ?_) | (refine iI_zA (by decide) (by decide) (by decide) ?_) | (refine iI_zI (by decide) (by decide) ?_) | (refine iI_zG ?_) | (refine iI_zJ ?_) | (refine hk4 _ _ _ ?_)))
theorem pi_l_namesAt_4  (hc : cQi h0 call)  : ∀ (t : Nat) (x0 : Int32) (x1 : Int32) (σ : zSt), iI σ → PIr (l_namesAt_4 n call h0 qs ks  t x0 x1 σ) := by
  intro t
  induction t with
  | zero => intros; exact PIr_none
  | succ t ih =>
    intro x0 x1 σ h
    rw [l_namesAt_4]
    repeat' (with_reducible (first | assumption | (refine PIr_zgd ?_) | (refine PIr_let ?_) | (refine PIr_ite ?_ ?_) | (refine PIr_some ?_) | (refine iI_zA (by decide) (by decide) (by decide) ?_) | (refine iI_zI (by decide) (by decide) ?_) | (refine iI_zG ?_) | (refine iI_zJ ?_) | (refine PIr_zci (cQi.c71 hc _ _ ?_) (fun _ _ _ => ?_)) | (refine pi_l_namesAt_55 hc  _ _ _ _ ?_) | (refine pi_j_namesAt_43 hc ih ?_)))
theorem pi_b_namesAt  {x1 : Int32} {σ : zSt} (hc : cQi h0 call)  (h : iI σ) : PIr (b_namesAt n call h0 qs ks  x1 σ) := by
  unfold b_namesAt
  repeat' (with_reducible (first | assumption | (refine PIr_zgd ?_) | (refine PIr_let ?_) | (refine PIr_ite ?_ ?_) | (refine PIr_some ?_) | (refine iI_zA (by decide) (by decide) (by decide) ?_) | (refine iI_zI (by decide) (by decide) ?_) | (refine iI_zG ?_) | (refine iI_zJ ?_) | (refine pi_l_namesAt_4 hc  _ _ _ _ ?_)))
theorem pi_j_template_222  {x6 : Int32} {x7 : Int32} {x9 : Int32} {σ : zSt} (hc : cQi h0 call)  (h : iI σ) : PIr (j_template_222 n call h0 qs ks  x6 x7 x9 σ) := by
  unfold j_template_222
  repeat' (with_reducible (first | assumption | (refine PIr_zgd ?_) | (refine PIr_let ?_) | (refine PIr_ite ?_ ?_) | (refine PIr_some ?_) | (refine iI_zA (by decide) (by decide) (by decide) ?_) | (refine iI_zI (by decide) (by decide) ?_) | (refine iI_zG ?_) | (refine iI_zJ ?_) | (refine PIr_zci (cQi.c67 hc _ _ _ _ _ _ ?_) (fun _ _ _ => ?_))))
theorem pi_j_template_202  {x6 : Int32} {x7 : Int32} {x8 : Int32} {t1 : Int32} {t2 : Int32} {t3 : Int32} {σ : zSt} (hc : cQi h0 call)  (h : iI σ) : PIr (j_template_202 n call h0 qs ks  x6 x7 x8 t1 t2 t3 σ) := by
  unfold j_template_202
  repeat' (with_reducible (first | assumption | (refine PIr_zgd ?_) | (refine PIr_let ?_) | (refine PIr_ite ?_ ?_) | (refine PIr_some ?_) | (refine iI_zA (by decide) (by decide) (by decide) ?_) | (refine iI_zI (by decide) (by decide) ?_) | (refine iI_zG ?_) | (refine iI_zJ ?_) | (refine PIr_zci (cQi.c76 hc _ _ _ _ ?_) (fun _ _ _ => ?_)) | (refine pi_j_template_222 hc  ?_)))
theorem pi_j_template_180  {x2 : Int32} {x3 : Int32} {x4 : Int32} {x6 : Int32} {x7 : Int32} {x8 : Int32} {σ : zSt} (hc : cQi h0 call)  (h : iI σ) : PIr (j_template_180 n call h0 qs ks  x2 x3 x4 x6 x7 x8 σ) := by
  unfold j_template_180
  repeat' (with_reducible (first | assumption | (refine PIr_zgd ?_) | (refine PIr_let ?_) | (refine PIr_ite ?_ ?_) | (refine PIr_some ?_) | (refine iI_zA (by decide) (by decide) (by decide) ?_) | (refine iI_zI (by decide) (by decide) ?_) | (refine iI_zG ?_) | (refine iI_zJ ?_) | (refine pi_j_template_202 hc  ?_)))
theorem pi_j_template_153  {x2 : Int32} {x3 : Int32} {x4 : Int32} {x6 : Int32} {x7 : Int32} {x8 : Int32} {t1 : Int32} {t2 : Int32} {σ : zSt} (hc : cQi h0 call)  (h : iI σ) : PIr (j_template_153 n call h0 qs ks  x2 x3 x4 x6 x7 x8 t1 t2 σ) := by
  unfold j_template_153
  repeat' (with_reducible (first | assumption | (refine PIr_zgd ?_) | (refine PIr_let ?_) | (refine PIr_ite ?_ ?_) | (refine PIr_some ?_) | (refine iI_zA (by decide) (by decide) (by decide) ?_) | (refine iI_zI (by decide) (by decide) ?_) | (refine iI_zG ?_) | (refine iI_zJ ?_) | (refine pi_j_template_180 hc  ?_)))
theorem pi_j_template_130  {x2 : Int32} {x3 : Int32} {x4 : Int32} {x6 : Int32} {x7 : Int32} {x8 : Int32} {t1 : Int32} {t2 : Int32} {σ : zSt} (hc : cQi h0 call)  (h : iI σ) : PIr (j_template_130 n call h0 qs ks  x2 x3 x4 x6 x7 x8 t1 t2 σ) := by
  unfold j_template_130
  repeat' (with_reducible (first | assumption | (refine PIr_zgd ?_) | (refine PIr_let ?_) | (refine PIr_ite ?_ ?_) | (refine PIr_some ?_) | (refine iI_zA (by decide) (by decide) (by decide) ?_) | (refine iI_zI (by decide) (by decide) ?_) | (refine iI_zG ?_) | (refine iI_zJ ?_) | (refine pi_j_template_153 hc  ?_)))
theorem pi_j_template_125  {x2 : Int32} {x3 : Int32} {x4 : Int32} {x6 : Int32} {x7 : Int32} {x8 : Int32} {t1 : Int32} {σ : zSt} (hc : cQi h0 call)  (h : iI σ) : PIr (j_template_125 n call h0 qs ks  x2 x3 x4 x6 x7 x8 t1 σ) := by
  unfold j_template_125
  repeat' (with_reducible (first | assumption | (refine PIr_zgd ?_) | (refine PIr_let ?_) | (refine PIr_ite ?_ ?_) | (refine PIr_some ?_) | (refine iI_zA (by decide) (by decide) (by decide) ?_) | (refine iI_zI (by decide) (by decide) ?_) | (refine iI_zG ?_) | (refine iI_zJ ?_) | (refine pi_j_template_130 hc  ?_)))
theorem pi_j_template_70  {x2 : Int32} {x3 : Int32} {x4 : Int32} {x6 : Int32} {σ : zSt} (hc : cQi h0 call)  (h : iI σ) : PIr (j_template_70 n call h0 qs ks  x2 x3 x4 x6 σ) := by
  unfold j_template_70
  repeat' (with_reducible (first | assumption | (refine PIr_zgd ?_) | (refine PIr_let ?_) | (refine PIr_ite ?_ ?_) | (refine PIr_some ?_) | (refine iI_zA (by decide) (by decide) (by decide) ?_) | (refine iI_zI (by decide) (by decide) ?_) | (refine iI_zG ?_) | (refine iI_zJ ?_) | (refine PIr_zci (cQi.c71 hc _ _ ?_) (fun _ _ _ => ?_)) | (refine PIr_zci (cQi.c76 hc _ _ _ _ ?_) (fun _ _ _ => ?_)) | (refine pi_j_template_125 hc  ?_) | (refine pi_j_template_130 hc  ?_)))
theorem pi_j_template_54  {x2 : Int32} {x3 : Int32} {x4 : Int32} {t0 : Int32} {σ : zSt} (hc : cQi h0 call)  (h : iI σ) : PIr (j_template_54 n call h0 qs ks  x2 x3 x4 t0 σ) := by
  unfold j_template_54
  repeat' (with_reducible (first | assumption | (refine PIr_zgd ?_) | (refine PIr_let ?_) | (refine PIr_ite ?_ ?_) | (refine PIr_some ?_) | (refine iI_zA (by decide) (by decide) (by decide) ?_) | (refine iI_zI (by decide) (by decide) ?_) | (refine iI_zG ?_) | (refine iI_zJ ?_) | (refine pi_j_template_70 hc  ?_)))
theorem pi_b_put  {x1 : Int32} {x2 : Int32} {x3 : Int32} {x4 : Int32} {x5 : Int64} {σ : zSt} (hc : cQi h0 call)  (h : iI σ) : PIr (b_put n call h0 qs ks  x1 x2 x3 x4 x5 σ) := by
  unfold b_put
  repeat' (with_reducible (first | assumption | (refine PIr_zgd ?_) | (refine PIr_let ?_) | (refine PIr_ite ?_ ?_) | (refine PIr_some ?_) | (refine iI_zA (by decide) (by decide) (by decide) ?_) | (refine iI_zI (by decide) (by decide) ?_) | (refine iI_zG ?_) | (refine iI_zJ ?_) | (refine PIr_zci (cQi.c67 hc _ _ _ _ _ _ ?_) (fun _ _ _ => ?_)) | (refine PIr_zci (cQi.c68 hc _ _ _ _ ?_) (fun _ _ _ => ?_)) | (refine PIr_zci (cQi.c77 hc _ _ _ _ _ _ ?_) (fun _ _ _ => ?_))))
theorem pi_j_mustFit_128  {x2 : Int32} {x4 : Int32} {x5 : Int32} {t0 : Int32} {σ : zSt} (hc : cQi h0 call)  (h : iI σ) : PIr (j_mustFit_128 n call h0 qs ks  x2 x4 x5 t0 σ) := by
  unfold j_mustFit_128
  repeat' (with_reducible (first | assumption | (refine PIr_zgd ?_) | (refine PIr_let ?_) | (refine PIr_ite ?_ ?_) | (refine PIr_some ?_) | (refine iI_zA (by decide) (by decide) (by decide) ?_) | (refine iI_zI (by decide) (by decide) ?_) | (refine iI_zG ?_) | (refine iI_zJ ?_) | (refine PIr_zcv (cQi.c78 hc _ _ _ _ _ ?_) (fun _ _ => ?_))))
theorem pi_j_mustFit_122  {x1 : Int32} {x2 : Int32} {x4 : Int32} {x5 : Int32} {σ : zSt} (hc : cQi h0 call)  (h : iI σ) : PIr (j_mustFit_122 n call h0 qs ks  x1 x2 x4 x5 σ) := by
  unfold j_mustFit_122
  repeat' (with_reducible (first | assumption | (refine PIr_zgd ?_) | (refine PIr_let ?_) | (refine PIr_ite ?_ ?_) | (refine PIr_some ?_) | (refine iI_zA (by decide) (by decide) (by decide) ?_) | (refine iI_zI (by decide) (by decide) ?_) | (refine iI_zG ?_) | (refine iI_zJ ?_) | (refine pi_j_mustFit_128 hc  ?_)))
theorem pi_b_mustFit  {x1 : Int32} {x2 : Int32} {x3 : Int32} {x4 : Int32} {σ : zSt} (hc : cQi h0 call)  (h : iI σ) : PIr (b_mustFit n call h0 qs ks  x1 x2 x3 x4 σ) := by
  unfold b_mustFit
  repeat' (with_reducible (first | assumption | (refine PIr_zgd ?_) | (refine PIr_let ?_) | (refine PIr_ite ?_ ?_) | (refine PIr_some ?_) | (refine iI_zA (by decide) (by decide) (by decide) ?_) | (refine iI_zI (by decide) (by decide) ?_) | (refine iI_zG ?_) | (refine iI_zJ ?_) | (refine PIr_zci (cQi.c71 hc _ _ ?_) (fun _ _ _ => ?_)) | (refine PIr_zci (cQi.c73 hc _ _ _ _ ?_) (fun _ _ _ => ?_)) | (refine PIr_zci (cQi.c77 hc _ _ _ _ _ _ ?_) (fun _ _ _ => ?_)) | (refine PIr_zcv (cQi.c78 hc _ _ _ _ _ ?_) (fun _ _ => ?_)) | (refine pi_j_mustFit_122 hc  ?_) | (refine pi_j_mustFit_128 hc  ?_)))
theorem pi_b_mustBeSo  {x1 : Int32} {x2 : Int32} {x3 : Int32} {x4 : Int32} {x5 : Int32} {x6 : Int32} {σ : zSt} (hc : cQi h0 call)  (h : iI σ) : PIr (b_mustBeSo n call h0 qs ks  x1 x2 x3 x4 x5 x6 σ) := by
  unfold b_mustBeSo
  repeat' (with_reducible (first | assumption | (refine PIr_zgd ?_) | (refine PIr_let ?_) | (refine PIr_ite ?_ ?_) | (refine PIr_some ?_) | (refine iI_zA (by decide) (by decide) (by decide) ?_) | (refine iI_zI (by decide) (by decide) ?_) | (refine iI_zG ?_) | (refine iI_zJ ?_)))
theorem pi_b_ofName  {x1 : Int32} {σ : zSt} (hc : cQi h0 call)  (h : iI σ) : PIr (b_ofName n call h0 qs ks  x1 σ) := by
  unfold b_ofName
  repeat' (with_reducible (first | assumption | (refine PIr_zgd ?_) | (refine PIr_let ?_) | (refine PIr_ite ?_ ?_) | (refine PIr_some ?_) | (refine iI_zA (by decide) (by decide) (by decide) ?_) | (refine iI_zI (by decide) (by decide) ?_) | (refine iI_zG ?_) | (refine iI_zJ ?_) | (refine PIr_zci (cQi.c67 hc _ _ _ _ _ _ ?_) (fun _ _ _ => ?_)) | (refine PIr_zci (cQi.c68 hc _ _ _ _ ?_) (fun _ _ _ => ?_)) | (refine PIr_zci (cQi.c69 hc _ _ _ _ _ _ ?_) (fun _ _ _ => ?_)) | (refine PIr_zci (cQi.c71 hc _ _ ?_) (fun _ _ _ => ?_))))
theorem pi_j_ofSign_263   {σ : zSt} (hc : cQi h0 call)  (h : iI σ) : PIr (j_ofSign_263 n call h0 qs ks   σ) := by
  unfold j_ofSign_263
  repeat' (with_reducible (first | assumption | (refine PIr_zgd ?_) | (refine PIr_let ?_) | (refine PIr_ite ?_ ?_) | (refine PIr_some ?_) | (refine iI_zA (by decide) (by decide) (by decide) ?_) | (refine iI_zI (by decide) (by decide) ?_) | (refine iI_zG ?_) | (refine iI_zJ ?_) | (refine PIr_zci (cQi.c72 hc _ _ ?_) (fun _ _ _ => ?_))))
theorem pi_j_ofSign_195  {x1 : Int32} {x4 : Int32} {x6 : Int64} {σ : zSt} (hc : cQi h0 call)  (h : iI σ) : PIr (j_ofSign_195 n call h0 qs ks  x1 x4 x6 σ) := by
  unfold j_ofSign_195
  repeat' (with_reducible (first | assumption | (refine PIr_zgd ?_) | (refine PIr_let ?_) | (refine PIr_ite ?_ ?_) | (refine PIr_some ?_) | (refine iI_zA (by decide) (by decide) (by decide) ?_) | (refine iI_zI (by decide) (by decide) ?_) | (refine iI_zG ?_) | (refine iI_zJ ?_) | (refine PIr_zci (cQi.c67 hc _ _ _ _ _ _ ?_) (fun _ _ _ => ?_)) | (refine PIr_zci (cQi.c68 hc _ _ _ _ ?_) (fun _ _ _ => ?_)) | (refine PIr_zci (cQi.c69 hc _ _ _ _ _ _ ?_) (fun _ _ _ => ?_)) | (refine PIr_zcv (cQi.c53 hc  _ ?_) (fun _ _ => ?_)) | (refine PIr_zcv (cQi.c55 hc _ _ _ ?_) (fun _ _ => ?_)) | (refine pi_j_ofSign_263 hc  ?_)))
theorem pi_j_ofSign_139  {x1 : Int32} {x4 : Int32} {x5 : Int32} {x6 : Int64} {σ : zSt} (hc : cQi h0 call)  (h : iI σ) : PIr (j_ofSign_139 n call h0 qs ks  x1 x4 x5 x6 σ) := by
  unfold j_ofSign_139
  repeat' (with_reducible (first | assumption | (refine PIr_zgd ?_) | (refine PIr_let ?_) | (refine PIr_ite ?_ ?_) | (refine PIr_some ?_) | (refine iI_zA (by decide) (by decide) (by decide) ?_) | (refine iI_zI (by decide) (by decide) ?_) | (refine iI_zG ?_) | (refine iI_zJ ?_) | (refine PIr_zci (cQi.c67 hc _ _ _ _ _ _ ?_) (fun _ _ _ => ?_)) | (refine PIr_zci (cQi.c68 hc _ _ _ _ ?_) (fun _ _ _ => ?_)) | (refine PIr_zci (cQi.c69 hc _ _ _ _ _ _ ?_) (fun _ _ _ => ?_)) | (refine pi_j_ofSign_195 hc  ?_)))
theorem pi_j_ofSign_100  {x1 : Int32} {x2 : Int32} {x3 : Int32} {x4 : Int32} {t0 : Int32} {σ : zSt} (hc : cQi h0 call)  (h : iI σ) : PIr (j_ofSign_100 n call h0 qs ks  x1 x2 x3 x4 t0 σ) := by
  unfold j_ofSign_100
  repeat' (with_reducible (first | assumption | (refine PIr_zgd ?_) | (refine PIr_let ?_) | (refine PIr_ite ?_ ?_) | (refine PIr_some ?_) | (refine iI_zA (by decide) (by decide) (by decide) ?_) | (refine iI_zI (by decide) (by decide) ?_) | (refine iI_zG ?_) | (refine iI_zJ ?_) | (refine PIr_zcv (cQi.c79 hc _ _ _ _ _ _ _ ?_) (fun _ _ => ?_)) | (refine pi_j_ofSign_139 hc  ?_)))
theorem pi_j_ofSign_99  {x1 : Int32} {x2 : Int32} {x3 : Int32} {x4 : Int32} {σ : zSt} (hc : cQi h0 call)  (h : iI σ) : PIr (j_ofSign_99 n call h0 qs ks  x1 x2 x3 x4 σ) := by
  unfold j_ofSign_99
  repeat' (with_reducible (first | assumption | (refine PIr_zgd ?_) | (refine PIr_let ?_) | (refine PIr_ite ?_ ?_) | (refine PIr_some ?_) | (refine iI_zA (by decide) (by decide) (by decide) ?_) | (refine iI_zI (by decide) (by decide) ?_) | (refine iI_zG ?_) | (refine iI_zJ ?_) | (refine pi_j_ofSign_100 hc  ?_)))
theorem pi_j_ofSign_27  {x1 : Int32} {x2 : Int32} {x3 : Int32} {t0 : Int32} {σ : zSt} (hc : cQi h0 call)  (h : iI σ) : PIr (j_ofSign_27 n call h0 qs ks  x1 x2 x3 t0 σ) := by
  unfold j_ofSign_27
  repeat' (with_reducible (first | assumption | (refine PIr_zgd ?_) | (refine PIr_let ?_) | (refine PIr_ite ?_ ?_) | (refine PIr_some ?_) | (refine iI_zA (by decide) (by decide) (by decide) ?_) | (refine iI_zI (by decide) (by decide) ?_) | (refine iI_zG ?_) | (refine iI_zJ ?_) | (refine pi_j_ofSign_100 hc  ?_) | (refine pi_j_ofSign_99 hc  ?_)))
theorem pi_b_ofSign  {x1 : Int32} {x2 : Int32} {x3 : Int32} {σ : zSt} (hc : cQi h0 call)  (h : iI σ) : PIr (b_ofSign n call h0 qs ks  x1 x2 x3 σ) := by
  unfold b_ofSign
  repeat' (with_reducible (first | assumption | (refine PIr_zgd ?_) | (refine PIr_let ?_) | (refine PIr_ite ?_ ?_) | (refine PIr_some ?_) | (refine iI_zA (by decide) (by decide) (by decide) ?_) | (refine iI_zI (by decide) (by decide) ?_) | (refine iI_zG ?_) | (refine iI_zJ ?_) | (refine PIr_zcv (cQi.c53 hc  _ ?_) (fun _ _ => ?_)) | (refine PIr_zcv (cQi.c55 hc _ _ _ ?_) (fun _ _ => ?_)) | (refine pi_j_ofSign_27 hc  ?_)))
theorem pi_j_ofCall_268 {k21 : Int32 → Int32 → Int32 → Int32 → Int32 → zSt → zRs} {x1 : Int32} {x2 : Int32} {x3 : Int32} {x4 : Int32} {x5 : Int32} {σ : zSt} (hc : cQi h0 call) (hk21 : ∀ (a0 : Int32) (a1 : Int32) (a2 : Int32) (a3 : Int32) (a4 : Int32), ∀ σ, iI σ → PIr (k21 a0 a1 a2 a3 a4 σ)) (h : iI σ) : PIr (j_ofCall_268 n call h0 qs ks k21 x1 x2 x3 x4 x5 σ) := by
  unfold j_ofCall_268
  repeat' (with_reducible (first | assumption | (refine PIr_zgd ?_) | (refine PIr_let ?_) | (refine PIr_ite ?_ ?_) | (refine PIr_some ?_) | (refine iI_zA (by decide) (by decide) (by decide) ?_) | (refine iI_zI (by decide) (by decide) ?_) | (refine iI_zG ?_) | (refine iI_zJ ?_) | (refine hk21 _ _ _ _ _ _ ?_)))
theorem pi_j_ofCall_247 {k21 : Int32 → Int32 → Int32 → Int32 → Int32 → zSt → zRs} {x1 : Int32} {x2 : Int32} {x3 : Int32} {x5 : Int32} {t1 : Int32} {t2 : Int32} {t3 : Int32} {t4 : Int32} {σ : zSt} (hc : cQi h0 call) (hk21 : ∀ (a0 : Int32) (a1 : Int32) (a2 : Int32) (a3 : Int32) (a4 : Int32), ∀ σ, iI σ → PIr (k21 a0 a1 a2 a3 a4 σ)) (h : iI σ) : PIr (j_ofCall_247 n call h0 qs ks k21 x1 x2 x3 x5 t1 t2 t3 t4 σ) := by
  unfold j_ofCall_247
  repeat' (with_reducible (first | assumption | (refine PIr_zgd ?_) | (refine PIr_let ?_) | (refine PIr_ite ?_ ?_) | (refine PIr_some ?_) | (refine iI_zA (by decide) (by decide) (by decide) ?_) | (refine iI_zI (by decide) (by decide) ?_) | (refine iI_zG ?_) | (refine iI_zJ ?_) | (refine PIr_zci (cQi.c77 hc _ _ _ _ _ _ ?_) (fun _ _ _ => ?_)) | (refine pi_j_ofCall_268 hc hk21 ?_) | (refine hk21 _ _ _ _ _ _ ?_)))
theorem pi_j_ofCall_230 {k21 : Int32 → Int32 → Int32 → Int32 → Int32 → zSt → zRs} {x1 : Int32} {x2 : Int32} {x3 : Int32} {x5 : Int32} {t1 : Int32} {t2 : Int32} {t3 : Int32} {σ : zSt} (hc : cQi h0 call) (hk21 : ∀ (a0 : Int32) (a1 : Int32) (a2 : Int32) (a3 : Int32) (a4 : Int32), ∀ σ, iI σ → PIr (k21 a0 a1 a2 a3 a4 σ)) (h : iI σ) : PIr (j_ofCall_230 n call h0 qs ks k21 x1 x2 x3 x5 t1 t2 t3 σ) := by
  unfold j_ofCall_230
  repeat' (with_reducible (first | assumption | (refine PIr_zgd ?_) | (refine PIr_let ?_) | (refine PIr_ite ?_ ?_) | (refine PIr_some ?_) | (refine iI_zA (by decide) (by decide) (by decide) ?_) | (refine iI_zI (by decide) (by decide) ?_) | (refine iI_zG ?_) | (refine iI_zJ ?_) | (refine pi_j_ofCall_247 hc hk21 ?_) | (refine hk21 _ _ _ _ _ _ ?_)))
theorem pi_j_ofCall_154 {k21 : Int32 → Int32 → Int32 → Int32 → Int32 → zSt → zRs} {x1 : Int32} {x2 : Int32} {x3 : Int32} {x4 : Int32} {x5 : Int32} {x7 : Int32} {x8 : Int32} {σ : zSt} (hc : cQi h0 call) (hk21 : ∀ (a0 : Int32) (a1 : Int32) (a2 : Int32) (a3 : Int32) (a4 : Int32), ∀ σ, iI σ → PIr (k21 a0 a1 a2 a3 a4 σ)) (h : iI σ) : PIr (j_ofCall_154 n call h0 qs ks k21 x1 x2 x3 x4 x5 x7 x8 σ) := by
  unfold j_ofCall_154
  repeat' (with_reducible (first | assumption | (refine PIr_zgd ?_) | (refine PIr_let ?_) | (refine PIr_ite ?_ ?_) | (refine PIr_some ?_) | (refine iI_zA (by decide) (by decide) (by decide) ?_) | (refine iI_zI (by decide) (by decide) ?_) | (refine iI_zG ?_) | (refine iI_zJ ?_) | (refine PIr_zci (cQi.c57 hc _ _ ?_) (fun _ _ _ => ?_)) | (refine PIr_zci (cQi.c71 hc _ _ ?_) (fun _ _ _ => ?_)) | (refine PIr_zcv (cQi.c78 hc _ _ _ _ _ ?_) (fun _ _ => ?_)) | (refine pi_j_ofCall_268 hc hk21 ?_) | (refine pi_j_ofCall_230 hc hk21 ?_) | (refine hk21 _ _ _ _ _ _ ?_)))
theorem pi_l_ofCall_21  (hc : cQi h0 call)  : ∀ (t : Nat) (x0 : Int32) (x1 : Int32) (x2 : Int32) (x3 : Int32) (x4 : Int32) (σ : zSt), iI σ → PIr (l_ofCall_21 n call h0 qs ks  t x0 x1 x2 x3 x4 σ) := by
  intro t
  induction t with
  | zero => intros; exact PIr_none
  | succ t ih =>
    intro x0 x1 x2 x3 x4 σ h
    rw [l_ofCall_21]
    repeat' (with_reducible (first | assumption | (refine PIr_zgd ?_) | (refine PIr_let ?_) | (refine PIr_ite ?_ ?_) | (refine PIr_some ?_) | (refine iI_zA (by decide) (by decide) (by decide) ?_) | (refine iI_zI (by decide) (by decide) ?_) | (refine iI_zG ?_) | (refine iI_zJ ?_) | (refine PIr_zci (cQi.c48 hc _ _ ?_) (fun _ _ _ => ?_)) | (refine PIr_zci (cQi.c67 hc _ _ _ _ _ _ ?_) (fun _ _ _ => ?_)) | (refine PIr_zci (cQi.c68 hc _ _ _ _ ?_) (fun _ _ _ => ?_)) | (refine PIr_zci (cQi.c70 hc _ _ ?_) (fun _ _ _ => ?_)) | (refine PIr_zci (cQi.c72 hc _ _ ?_) (fun _ _ _ => ?_)) | (refine PIr_zci (cQi.c80 hc _ _ ?_) (fun _ _ _ => ?_)) | (refine PIr_zci (cQi.c83 hc _ _ _ _ ?_) (fun _ _ _ => ?_)) | (refine pi_j_ofCall_154 hc ih ?_)))
theorem pi_b_ofCall  {x1 : Int32} {x2 : Int32} {x3 : Int32} {σ : zSt} (hc : cQi h0 call)  (h : iI σ) : PIr (b_ofCall n call h0 qs ks  x1 x2 x3 σ) := by
  unfold b_ofCall
  repeat' (with_reducible (first | assumption | (refine PIr_zgd ?_) | (refine PIr_let ?_) | (refine PIr_ite ?_ ?_) | (refine PIr_some ?_) | (refine iI_zA (by decide) (by decide) (by decide) ?_) | (refine iI_zI (by decide) (by decide) ?_) | (refine iI_zG ?_) | (refine iI_zJ ?_) | (refine pi_l_ofCall_21 hc  _ _ _ _ _ _ _ ?_)))
theorem pi_l_richOf_290  (hc : cQi h0 call)  : ∀ (t : Nat) (x0 : Int32) (x1 : Int32) (x2 : Int32) (x3 : Int32) (x4 : Int32) (x5 : Int32) (x6 : Int32) (x7 : Int32) (σ : zSt), iI σ → PIr (l_richOf_290 n call h0 qs ks  t x0 x1 x2 x3 x4 x5 x6 x7 σ) := by
  intro t
  induction t with
  | zero => intros; exact PIr_none
  | succ t ih =>
    intro x0 x1 x2 x3 x4 x5 x6 x7 σ h
    rw [l_richOf_290]
    repeat' (with_reducible (first | assumption | (refine PIr_zgd ?_) | (refine PIr_let ?_) | (refine PIr_ite ?_ ?_) | (refine PIr_some ?_) | (refine iI_zA (by decide) (by decide) (by decide) ?_) | (refine iI_zI (by decide) (by decide) ?_) | (refine iI_zG ?_) | (refine iI_zJ ?_) | (refine PIr_zci (cQi.c73 hc _ _ _ _ ?_) (fun _ _ _ => ?_)) | (refine PIr_zci (cQi.c83 hc _ _ _ _ ?_) (fun _ _ _ => ?_)) | (refine PIr_zcv (cQi.c78 hc _ _ _ _ _ ?_) (fun _ _ => ?_)) | (refine ih _ _ _ _ _ _ _ _ _ ?_)))
theorem pi_b_richOf  {x1 : Int32} {x2 : Int32} {x3 : Int32} {σ : zSt} (hc : cQi h0 call)  (h : iI σ) : PIr (b_richOf n call h0 qs ks  x1 x2 x3 σ) := by
  unfold b_richOf
  repeat' (with_reducible (first | assumption | (refine PIr_zgd ?_) | (refine PIr_let ?_) | (refine PIr_ite ?_ ?_) | (refine PIr_some ?_) | (refine iI_zA (by decide) (by decide) (by decide) ?_) | (refine iI_zI (by decide) (by decide) ?_) | (refine iI_zG ?_) | (refine iI_zJ ?_) | (refine PIr_zci (cQi.c38 hc _ _ ?_) (fun _ _ _ => ?_)) | (refine PIr_zci (cQi.c48 hc _ _ ?_) (fun _ _ _ => ?_)) | (refine PIr_zci (cQi.c67 hc _ _ _ _ _ _ ?_) (fun _ _ _ => ?_)) | (refine PIr_zci (cQi.c68 hc _ _ _ _ ?_) (fun _ _ _ => ?_)) | (refine PIr_zci (cQi.c69 hc _ _ _ _ _ _ ?_) (fun _ _ _ => ?_)) | (refine PIr_zci (cQi.c70 hc _ _ ?_) (fun _ _ _ => ?_)) | (refine PIr_zci (cQi.c72 hc _ _ ?_) (fun _ _ _ => ?_)) | (refine PIr_zci (cQi.c73 hc _ _ _ _ ?_) (fun _ _ _ => ?_)) | (refine PIr_zci (cQi.c74 hc _ _ _ _ ?_) (fun _ _ _ => ?_)) | (refine PIr_zci (cQi.c76 hc _ _ _ _ ?_) (fun _ _ _ => ?_)) | (refine PIr_zci (cQi.c80 hc _ _ ?_) (fun _ _ _ => ?_)) | (refine PIr_zci (cQi.c81 hc _ _ _ _ ?_) (fun _ _ _ => ?_)) | (refine PIr_zci (cQi.c82 hc _ _ _ _ ?_) (fun _ _ _ => ?_)) | (refine PIr_zci (cQi.c83 hc _ _ _ _ ?_) (fun _ _ _ => ?_)) | (refine PIr_zcv (cQi.c75 hc _ _ ?_) (fun _ _ => ?_)) | (refine PIr_zcv (cQi.c78 hc _ _ _ _ _ ?_) (fun _ _ => ?_)) | (refine PIr_zcv (cQi.c79 hc _ _ _ _ _ _ _ ?_) (fun _ _ => ?_)) | (refine pi_l_richOf_290 hc  _ _ _ _ _ _ _ _ _ _ ?_)))
theorem pi_j390 {c : Nat} {k293 : Int32 → Int32 → Int32 → zSt → zRs} {k325 : Int32 → Int32 → Int32 → Int32 → zSt → zRs} {x5 x7 x8 t1 t2 : Int32} {σ : zSt} (h325 : ∀ (a d e : Int32), ∀ σ, iJ c σ → PIr (k325 a (nI c) d e σ)) (h : iJ c σ) : PIr (j_template_390 n call h0 qs ks k293 k325 x5 (nI c) x7 x8 t1 t2 σ) := by
  unfold j_template_390
  refine PIr_zgd (PIr_let ?_)
  have h1 : iJ c (zA σ 64 (upd (σ.2.2.1 64) (t1).toNatClampNeg t2)) := iJ_zA (by decide) (by decide) (by decide) h
  generalize zA σ 64 (upd (σ.2.2.1 64) (t1).toNatClampNeg t2) = s at h1
  show PIr (zgd (zin (s.1 99) 8000) _)
  refine PIr_zgw (fun g => PIr_let (PIr_let (h325 _ _ _ _ ?_)))
  obtain ⟨e, fa, fb, h2, ⟨h3, h3'⟩, h4, h5, h6⟩ := h1
  rw [h3] at g
  have e8 : e < 8000 := zin_lt (by omega) g
  have cl : (s.1 99).toNatClampNeg = e := by rw [h3, nI_clamp (by omega)]
  have key : ∀ (F : Nat → Int32) (w : Int32), w = nI (e + 1) → (∀ j, j < e + 1 → ¬ F j = 0) → iJ c (zI (zA s 65 F) 99 w) := fun F w hw hF => by
    unfold iJ zI zA
    simp only [if_neg (show ¬ 98 = 99 by decide), if_true, if_neg (show ¬ 61 = 65 by decide), if_neg (show ¬ 62 = 65 by decide)]
    exact ⟨e + 1, fa, fb, h2, ⟨hw, e8⟩, ⟨h4.1, Nat.le_succ_of_le h4.2⟩, h5, hF⟩
  refine key _ _ (by show s.1 99 + 1 = nI (e + 1); rw [h3, nI_p1]) (fun j hj => ?_)
  rw [cl]
  unfold upd
  by_cases z : j = e
  · rw [if_pos z]; decide
  · rw [if_neg z]; exact h6 j (by omega)
theorem pi_j346 {c : Nat} {k293 : Int32 → Int32 → Int32 → zSt → zRs} {k325 : Int32 → Int32 → Int32 → Int32 → zSt → zRs} {x5 x7 x8 t0 t1 : Int32} {σ : zSt} (h293 : ∀ (a d : Int32), ∀ σ, iJ c σ → PIr (k293 a (nI c) d σ)) (h325 : ∀ (a d e : Int32), ∀ σ, iJ c σ → PIr (k325 a (nI c) d e σ)) (h : iJ c σ) : PIr (j_template_346 n call h0 qs ks k293 k325 x5 (nI c) x7 x8 t0 t1 σ) := by
  unfold j_template_346
  refine PIr_ite ?_ (PIr_zgd (PIr_let (PIr_zgd (PIr_ite (PIr_zgd ?_) ?_))))
  · unfold j_template_417
    exact h293 _ _ _ h
  · exact pi_j390 h325 (iJ_zA (by decide) (by decide) (by decide) h)
  · exact pi_j390 h325 (iJ_zA (by decide) (by decide) (by decide) h)
theorem pi_l325 {c : Nat} {k293 : Int32 → Int32 → Int32 → zSt → zRs} (h293 : ∀ (a d : Int32), ∀ σ, iJ c σ → PIr (k293 a (nI c) d σ)) : ∀ (t : Nat) (x5 x7 x8 : Int32) (σ : zSt), iJ c σ → PIr (l_template_325 n call h0 qs ks k293 t x5 (nI c) x7 x8 σ) := by
  intro t
  induction t with
  | zero => intros; exact PIr_none
  | succ t ih =>
    intro x5 x7 x8 σ h
    rw [l_template_325]
    exact PIr_zgd (PIr_ite (pi_j346 h293 ih h) (pi_j346 h293 ih h))
theorem pi_l293 {c : Nat} (hc : cQi h0 call) : ∀ (t : Nat) (x5 x7 : Int32) (σ : zSt), iJ c σ → PIr (l_template_293 n call h0 qs ks t x5 (nI c) x7 σ) := by
  intro t
  induction t with
  | zero => intros; exact PIr_none
  | succ t ih =>
    intro x5 x7 σ h
    rw [l_template_293]
    refine PIr_ite (PIr_zgd (PIr_let ?_)) (PIr_zgd (PIr_zgd (PIr_ite (pi_l325 ih _ _ _ _ _ h) ?_)))
    · have hI : iI (zA σ 62 (upd (σ.2.2.1 62) (nI c).toNatClampNeg (σ.1 99))) := by
        obtain ⟨e, fa, fb, ⟨h2, h2'⟩, ⟨h3, h3'⟩, ⟨h4, h4'⟩, h5, h6⟩ := h
        have cl : (nI c).toNatClampNeg = c := nI_clamp (by omega)
        refine ⟨c + 1, e, fa, fun i => if i = c then e else fb i, ⟨h2, by omega⟩, ⟨h3, h3'⟩, fun i hi => ?_, h6⟩
        show σ.2.2.1 61 i = nI (fa i) ∧ upd (σ.2.2.1 62) (nI c).toNatClampNeg (σ.1 99) i = nI (if i = c then e else fb i) ∧ fa i ≤ (if i = c then e else fb i) ∧ (if i = c then e else fb i) ≤ e ∧ ∀ j, i < j → j < c + 1 → (if i = c then e else fb i) ≤ fa j
        rw [cl, h3]
        unfold upd
        by_cases z : i = c
        · subst z
          rw [if_pos rfl, if_pos rfl]
          exact ⟨h4, rfl, h4', Nat.le_refl _, fun j h7 h8 => by omega⟩
        · rw [if_neg z, if_neg z]
          obtain ⟨q1, q2, q3, q4, q5⟩ := h5 i (by omega)
          refine ⟨q1, q2, q3, by omega, fun j h7 h8 => ?_⟩
          by_cases y : j = c
          · rw [y]; exact q4
          · exact q5 j h7 (by omega)
      exact PIr_zci (cQi.c68 hc _ _ _ _ hI) (fun _ _ h => PIr_zci (cQi.c67 hc _ _ _ _ _ _ h) (fun _ _ h => PIr_some h))
    · unfold j_template_417
      exact ih _ _ _ h
theorem pi_j278 {c e : Nat} {fa fb : Nat → Nat} {x5 t2 : Int32} {σ : zSt} (hc : cQi h0 call) (h98 : σ.1 98 = nI (c + 1)) (hcc : c ≤ 64) (h99 : σ.1 99 = nI e) (he : e ≤ 8000) (hf : ∀ i, i < c → σ.2.2.1 61 i = nI (fa i) ∧ σ.2.2.1 62 i = nI (fb i) ∧ fa i ≤ fb i ∧ fb i ≤ e ∧ ∀ j, i < j → j < c → fb i ≤ fa j) (h65 : ∀ j, j < e → ¬ σ.2.2.1 65 j = 0) : PIr (j_template_278 n call h0 qs ks x5 (nI c) (nI c) t2 σ) := by
  unfold j_template_278
  refine PIr_zgw (fun g => PIr_let (PIr_zgd (PIr_let (pi_l293 hc _ _ _ _ ?_))))
  have c6 : c < 64 := zin_lt (by omega) g
  have cl : (nI c).toNatClampNeg = c := nI_clamp (by omega)
  refine ⟨e, fun i => if i = c then e else fa i, fb, ⟨h98, c6⟩, ⟨h99, he⟩, ⟨?_, by show (if c = c then e else fa c) ≤ e; rw [if_pos rfl]; exact Nat.le_refl _⟩, fun i hi => ?_, h65⟩
  · show upd (σ.2.2.1 61) (nI c).toNatClampNeg (σ.1 99) c = nI (if c = c then e else fa c)
    rw [cl, h99, if_pos rfl]
    exact if_pos rfl
  · show upd (σ.2.2.1 61) (nI c).toNatClampNeg (σ.1 99) i = nI (if i = c then e else fa i) ∧ _ ∧ (if i = c then e else fa i) ≤ _ ∧ _ ≤ (if c = c then e else fa c) ∧ ∀ j, i < j → j < c → _ ≤ (if j = c then e else fa j)
    obtain ⟨q1, q2, q3, q4, q5⟩ := hf i hi
    rw [cl, if_neg (show ¬ i = c by omega), if_pos rfl]
    refine ⟨(if_neg (show ¬ i = c by omega)).trans q1, q2, q3, q4, fun j h7 h8 => ?_⟩
    rw [if_neg (show ¬ j = c by omega)]
    exact q5 j h7 h8
theorem pi_b_template {x1 x2 x3 : Int32} {σ : zSt} (hc : cQi h0 call) (h : iI σ) : PIr (b_template n call h0 qs ks x1 x2 x3 σ) := by
  unfold b_template
  refine PIr_zci (cQi.c42 hc _ _ h) (fun r3 s1 h1 => PIr_zci (cQi.c52 hc _ _ h1) (fun r6 s4 h4 => PIr_ite (PIr_zci (cQi.c72 hc _ _ h4) (fun _ _ h => PIr_some h)) (PIr_ite (PIr_ite (pi_j_template_54 hc h4) (PIr_zgd (pi_j_template_54 hc h4))) (PIr_let ?_))))
  obtain ⟨c, e, fa, fb, ⟨a1, a2⟩, ⟨a3, a4⟩, a5, a6⟩ := h4
  have go : ∀ t2, PIr (j_template_278 n call h0 qs ks r6 (s4.1 98) (s4.1 98) t2 (zI s4 98 (s4.1 98 + 1))) := fun t2 => by
    rw [a1]
    refine pi_j278 hc ?_ a2 (e := e) ?_ a4 a5 a6
    · show nI c + 1 = _
      rw [nI_p1]
    · exact a3
  exact PIr_ite (go _) (PIr_ite (go _) (go _))
/-- **all of them, however deep** -/
theorem cQi_zF (T : Nat) : ∀ n, cQi h0 (zF h0 qs ks T n) := by
  intro n
  induction n with
  | zero =>
    refine ⟨?_, ?_, ?_, ?_, ?_, ?_, ?_, ?_, ?_, ?_, ?_, ?_, ?_, ?_, ?_, ?_, ?_, ?_, ?_, ?_, ?_, ?_, ?_, ?_, ?_, ?_⟩ <;> (intros; exact fun w e => by cases e)
  | succ n hc =>
    refine ⟨?_, ?_, ?_, ?_, ?_, ?_, ?_, ?_, ?_, ?_, ?_, ?_, ?_, ?_, ?_, ?_, ?_, ?_, ?_, ?_, ?_, ?_, ?_, ?_, ?_, ?_⟩
    · intro x1 σ h
      rw [zE_numberOf]
      exact pi_b_numberOf hc h
    · intro x1 σ h
      rw [zE_parameters]
      exact pi_b_parameters hc h
    · intro x1 σ h
      rw [zE_real]
      exact pi_b_real hc h
    · intro x1 σ h
      rw [zE_isName]
      exact pi_b_isName hc h
    · intro x1 σ h
      rw [zE_sort]
      exact pi_b_sort hc h
    · intro  σ h
      rw [zE_clearLine]
      exact pi_b_clearLine hc h
    · intro x1 x2 σ h
      rw [zE_addName]
      exact pi_b_addName hc h
    · intro x1 x2 σ h
      rw [zE_addSum]
      exact pi_b_addSum hc h
    · intro x1 σ h
      rw [zE_isTerm]
      exact pi_b_isTerm hc h
    · intro x1 x2 x3 x4 x5 σ h
      rw [zE_rich]
      exact pi_b_rich hc h
    · intro x1 x2 x3 σ h
      rw [zE_said]
      exact pi_b_said hc h
    · intro x1 x2 x3 x4 x6 σ h
      rw [zE_fact]
      exact pi_b_fact hc h
    · intro x1 σ h
      rw [zE_isSum]
      exact pi_b_isSum hc h
    · intro x0 σ h
      rw [zE_isSaid]
      exact pi_b_isSaid hc h
    · intro x1 σ h
      rw [zE_plainType]
      exact pi_b_plainType hc h
    · intro x1 x2 x3 σ h
      rw [zE_knows]
      exact pi_b_knows hc h
    · intro x1 x2 x3 σ h
      rw [zE_gone]
      exact pi_b_gone hc h
    · intro x1 σ h
      rw [zE_namesAt]
      exact pi_b_namesAt hc h
    · intro x1 x2 x3 σ h
      rw [zE_template]
      exact pi_b_template hc h
    · intro x1 x2 x3 x4 x5 σ h
      rw [zE_put]
      exact pi_b_put hc h
    · intro x1 x2 x3 x4 σ h
      rw [zE_mustFit]
      exact pi_b_mustFit hc h
    · intro x1 x2 x3 x4 x5 x6 σ h
      rw [zE_mustBeSo]
      exact pi_b_mustBeSo hc h
    · intro x1 σ h
      rw [zE_ofName]
      exact pi_b_ofName hc h
    · intro x1 x2 x3 σ h
      rw [zE_ofSign]
      exact pi_b_ofSign hc h
    · intro x1 x2 x3 σ h
      rw [zE_ofCall]
      exact pi_b_ofCall hc h
    · intro x1 x2 x3 σ h
      rw [zE_richOf]
      exact pi_b_richOf hc h
end PIG
