/-! type(): what a told NAME's type says can be printed -/
/-- of a bool nothing is said -/
def nbL (A : gTy) : Prop := ∀ x, A.1 = .inl x → yK x.1 = 3 → x.2 = []
theorem nbL.tp (key : Nat) (y : tY) (ns : List Nat) (sc : List gEn) : nbL (gTp key y ns sc) := fun x h => by cases h
theorem nbL.pl (y : tY) : nbL (gPl y) := fun x h _ => by injection h with h; rw [← h]
theorem nbL.eq {y : tY} (t : gTe) (hy : yK y ≠ 3) : nbL (gEq y t) := fun x h w => by
  injection h with h
  rw [← h] at w
  exact absurd w hy
theorem nbL.tk {A : gTy} (h : nbL A) : nbL (gTk A) := by
  obtain ⟨A1, G⟩ := A
  cases A1 with
  | inl x => exact h
  | inr m => exact fun x h => by cases h
theorem nbL.an {A : gTy} (h : nbL A) : nbL (gAn A) := by
  obtain ⟨A1, G⟩ := A
  cases A1 with
  | inl x => exact h
  | inr m => exact fun x h => by cases h
theorem nbL.pu {A : gTy} (h : nbL A) (x : gN) (t : gTe) : nbL (gPu A x t) := h
theorem nbL.tn {w : Nat} {A : gTy} {s : gSt} (hA : nbL A) (hs : ∀ u, nbL (s.1 u)) : ∀ u, nbL ((gTn w A s).1 u) := fun u => by
  show nbL (if u = w then A else s.1 u)
  split
  · exact hA
  · exact hs u
theorem gMs_n3 {y : tY} (h : gMs y = true) : yK y ≠ 3 := fun z => by
  unfold gMs at h
  rw [z] at h
  cases h
section NBL
variable {T : Nat} {f pp ee : Nat → Int32} {tE tN : Nat → tY}
theorem nbL.on {s : gSt} (u : Nat) (hs : ∀ u, nbL (s.1 u)) : nbL (gOn u s) := by
  unfold gOn
  split
  · rename_i c
    exact nbL.eq _ (gMs_n3 c)
  · exact hs u
theorem nbL.su {s : gSt} (env : List Nat) (ps : List tP) (hs : ∀ u, nbL (s.1 u)) : nbL (gSu T f pp ee env ps s) := by
  unfold gSu
  split
  · exact nbL.on _ hs
  · split
    · exact nbL.eq _ (by decide)
    · exact nbL.pl _
theorem nbL.sg (g : Nat) (env : List Nat) (p1 p2 : List tP) : nbL (gSg T f pp ee g env p1 p2) := by
  unfold gSg
  split
  · intro x h w
    injection h with h
    rw [← h] at w
    have w : (2 : Nat) = 3 := w
    omega
  · split
    · exact nbL.eq _ (by decide)
    · exact nbL.pl _
theorem gPa_nb : ∀ (q w : Nat) (A : gTy) (sc : List gEn) (s : gSt), nbL A → (∀ u, nbL (s.1 u)) → nbL (gPa q w A sc s).2.1 ∧ ∀ u, nbL ((gPa q w A sc s).2.2.1 u)
  | 0, _, _, _, _, hA, hs => ⟨hA, hs⟩
  | q + 1, w, A, sc, s, hA, hs => gPa_nb q (w + 1) (gAn A) (gNm (.inl w) (gTk A) sc) (gTn w (gTk A) s) hA.an (nbL.tn hA.tk hs)
set_option maxHeartbeats 1000000 in
theorem gWk_nb : ∀ (t : tT) (env : List Nat) (sc : List gEn) (A : gTy) (s : gSt), nbL A → (∀ u, nbL (s.1 u)) → nbL (gWk T f pp ee tE tN t env sc A s).2 ∧ ∀ u, nbL ((gWk T f pp ee tE tN t env sc A s).1.1 u)
  | .leaf, env, sc, A, s, hA, hs => ⟨hA, hs⟩
  | .inner g d z a b, env, sc, A, s, hA, hs => by
    have Ia := fun env' sc' A' s' => gWk_nb a env' sc' A' s'
    have Ib := fun env' sc' A' s' => gWk_nb b env' sc' A' s'
    rw [gWk]
    by_cases c1 : g = 1
    · rw [if_pos c1]
      obtain ⟨a1, a2⟩ := Ia env sc A s hA hs
      exact ⟨nbL.tp _ _ _ _, (Ib _ _ A _ hA (nbL.tn a1 a2)).2⟩
    rw [if_neg c1]
    by_cases c2 : g = 2
    · rw [if_pos c2]
      dsimp only
      have P := gPa_nb d.2.1 (d.1 + 3) (gTp (2 * d.1 + 1) (tN (d.1 + 2)) (List.range' (d.1 + 3) d.2.1) sc) sc (gTn (d.1 + 2) (gTp (2 * d.1 + 1) (tN (d.1 + 2)) (List.range' (d.1 + 3) d.2.1) sc) s) (nbL.tp _ _ _ _) (nbL.tn (nbL.tp _ _ _ _) hs)
      refine ⟨nbL.tp _ _ _ _, (Ib _ _ A _ hA ?_).2⟩
      exact (Ia _ _ A _ hA P.2).2
    rw [if_neg c2]
    by_cases c3 : g = 3
    · rw [if_pos c3]
      dsimp only
      exact ⟨nbL.tp _ _ _ _, (Ia _ _ A _ hA (nbL.tn (nbL.tk (nbL.tp _ _ _ _)) hs)).2⟩
    rw [if_neg c3]
    by_cases c4 : g = 4
    · rw [if_pos c4]
      exact ⟨nbL.tp _ _ _ _, (Ib _ _ _ _ (nbL.tp _ _ _ _) hs).2⟩
    rw [if_neg c4]
    by_cases c5 : g = 5
    · rw [if_pos c5]
      exact Ib _ _ _ _ hA hs
    rw [if_neg c5]
    by_cases c6 : g = 6
    · rw [if_pos c6]
      exact Ia _ _ _ _ hA hs
    rw [if_neg c6]
    by_cases c7 : g = 7
    · rw [if_pos c7]
      refine ⟨?_, hs⟩
      dsimp only
      split
      · exact nbL.eq _ (by decide)
      · exact nbL.pl _
    rw [if_neg c7]
    by_cases c8 : g = 8 ∨ g = 9
    · rw [if_pos c8]
      exact ⟨nbL.pl _, hs⟩
    rw [if_neg c8]
    by_cases c10 : g = 10
    · rw [if_pos c10]
      exact ⟨nbL.su _ _ hs, hs⟩
    rw [if_neg c10]
    by_cases c11 : g = 11 ∨ g = 12 ∨ g = 13
    · rw [if_pos c11]
      refine ⟨nbL.sg _ _ _ _, ?_⟩
      dsimp only
      split
      · exact hs
      · exact hs
    rw [if_neg c11]
    by_cases c14 : g = 14
    · rw [if_pos c14]
      exact ⟨nbL.pl _, hs⟩
    rw [if_neg c14]
    by_cases c15 : g = 15
    · rw [if_pos c15]
      exact Ia _ _ _ _ (hs _) hs
    rw [if_neg c15]
    by_cases c16 : g = 16
    · rw [if_pos c16]
      exact Ia _ _ _ _ hA hs
    rw [if_neg c16]
    by_cases c17 : g = 17
    · rw [if_pos c17]
      exact ⟨nbL.eq _ (by decide), hs⟩
    rw [if_neg c17]
    by_cases c18 : g = 18
    · rw [if_pos c18]
      exact ⟨nbL.eq _ (by decide), hs⟩
    rw [if_neg c18]
    by_cases c19 : g = 19
    · rw [if_pos c19]
      dsimp only
      refine ⟨nbL.tp _ _ _ _, (Ib _ _ A _ hA (nbL.tn (nbL.eq _ (by decide)) (nbL.tn (nbL.pl _) ?_))).2⟩
      exact (Ia _ _ A s hA hs).2
    rw [if_neg c19]
    by_cases c31 : g = 31
    · rw [if_pos c31]
      dsimp only
      refine ⟨hA, (Ib _ _ A _ hA ?_).2⟩
      exact (Ia _ _ A s hA hs).2
    rw [if_neg c31]
    by_cases c33 : g = 33
    · rw [if_pos c33]
      by_cases w : gMs (yL (gSy A)) = true
      · rw [if_pos w]
        exact Ib _ _ _ _ (hA.an.pu _ _) hs
      · rw [if_neg w]
        exact Ib _ _ _ _ hA.an hs
    rw [if_neg c33]
    by_cases c34 : g = 34
    · rw [if_pos c34]
      dsimp only
      refine Ib _ _ _ _ hA.an ?_
      exact (Ia _ _ A s hA hs).2
    rw [if_neg c34]
    by_cases c35 : g = 35
    · rw [if_pos c35]
      exact Ib _ _ _ _ hA.an hs
    rw [if_neg c35]
    exact ⟨hA, hs⟩
theorem gIs_nb : ∀ (r : List (Nat × Nat)) (sc : List gEn) (s : gSt), (∀ u, nbL (s.1 u)) → ∀ u, nbL ((gIs r sc s).2.1 u)
  | [], _, _, hs => hs
  | y :: r, sc, s, hs => gIs_nb r _ _ (nbL.tn (nbL.pl _) hs)
/-- NAMES of a TEMPLATE are told within -/
theorem tLe_ns : ∀ (t : tT) (env : List Nat) (m : gTm), m ∈ tLe tE tN t env → ∀ w, w ∈ m.2.2.2.1 → w ∈ wW t
  | .leaf, env, m, h, w, hw => by cases h
  | .inner g d z a b, env, m, h, w, hw => by
    have Ia := fun env' h' => tLe_ns a env' m h' w hw
    have Ib := fun env' h' => tLe_ns b env' m h' w hw
    unfold tLe at h
    unfold wW
    by_cases c1 : g = 1
    · rw [if_pos c1] at h ⊢
      rcases List.mem_cons.mp h with h | h
      · rw [h] at hw; cases hw
      · rcases List.mem_append.mp h with h | h
        · exact List.mem_append_left _ (Ia _ h)
        · exact List.mem_append_right _ (List.mem_append_right _ (Ib _ h))
    rw [if_neg c1] at h ⊢
    by_cases c19 : g = 19
    · rw [if_pos c19] at h
      rw [if_neg (by omega), if_neg (by omega), if_neg (by omega), if_neg (by omega), if_pos c19]
      rcases List.mem_cons.mp h with h | h
      · rw [h] at hw; cases hw
      · rcases List.mem_append.mp h with h | h
        · exact List.mem_append_left _ (Ia _ h)
        · exact List.mem_append_right _ (List.mem_append_right _ (Ib _ h))
    rw [if_neg c19] at h
    by_cases c2 : g = 2
    · rw [if_pos c2] at h ⊢
      rcases List.mem_cons.mp h with h | h
      · rw [h] at hw; cases hw
      · rcases List.mem_cons.mp h with h | h
        · rw [h] at hw
          exact List.mem_append_right _ (List.mem_append_left _ hw)
        · rcases List.mem_append.mp h with h | h
          · exact List.mem_append_right _ (List.mem_append_right _ (List.mem_append_left _ (Ia _ h)))
          · exact List.mem_append_right _ (List.mem_append_right _ (List.mem_append_right _ (Ib _ h)))
    rw [if_neg c2] at h ⊢
    by_cases c3 : g = 3
    · rw [if_pos c3] at h ⊢
      rcases List.mem_cons.mp h with h | h
      · rw [h] at hw
        exact List.mem_append_left _ hw
      · exact List.mem_append_right _ (Ia _ h)
    rw [if_neg c3] at h ⊢
    by_cases c4 : g = 4
    · rw [if_pos c4] at h
      rw [if_pos (Or.inl c4)]
      rcases List.mem_cons.mp h with h | h
      · rw [h] at hw; cases hw
      · exact Ib _ h
    rw [if_neg c4] at h
    by_cases c5 : g = 5 ∨ g = 33 ∨ g = 35
    · rw [if_pos c5] at h
      rw [if_pos (Or.inr c5)]
      exact Ib _ h
    rw [if_neg c5] at h
    rw [if_neg (by omega)]
    by_cases c6 : g = 6 ∨ g = 15 ∨ g = 16
    · rw [if_pos c6] at h ⊢
      exact Ia _ h
    rw [if_neg c6] at h ⊢
    rw [if_neg c19]
    by_cases c31 : g = 31 ∨ g = 34
    · rw [if_pos c31] at h ⊢
      rcases List.mem_append.mp h with h | h
      · exact List.mem_append_left _ (Ia _ h)
      · exact List.mem_append_right _ (Ib _ h)
    rw [if_neg c31] at h
    cases h
theorem rtO_ns {Lp : Nat → Prop} : ∀ (l : List gTm) (k : Nat), (∀ m, m ∈ l → ∀ w, w ∈ m.2.2.2.1 → Lp w) → ∀ w, w ∈ (rtO l k).2.2.2.1 → Lp w
  | [], k, _, w, hw => by cases hw
  | m :: l, k, h, w, hw => by
    unfold rtO at hw
    split at hw
    · exact h m (List.mem_cons_self ..) w hw
    · exact rtO_ns l k (fun m' hm => h m' (List.mem_cons_of_mem _ hm)) w hw
theorem mGo_nx : ∀ (p : List Bool) (m : gTm) (w : Nat), w ∈ (mGo m p).2.2.2.1 → w ∈ m.2.2.2.1
  | [], _, _, h => h
  | b :: p, m, w, h => by
    have := mGo_nx p _ w h
    split at this
    · exact List.mem_of_mem_tail this
    · cases this
end NBL
