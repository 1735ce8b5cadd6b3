/-! ROOM: what a call takes beyond its letters -/
section TGF
variable {ρ : Nat → Nat × Nat} {tE tN : Nat → tY} {Un : List ((Nat × Nat) × Nat)} {Ls W : List Nat} {l : List (Nat × tY × List Nat)}
/-- **a unit's arrows and the TEMPLATES of funs** -/
theorem tl_gf (h : tlH ρ tE tN Un Ls W l) {id0 : Nat × Nat} {m0 : Nat} (hu : (id0, m0) ∈ Un) : yAr (uY tE tN id0) + (l.filter fuP).length ≤ tlN l + 1 := by
  obtain ⟨x0, hx0, hid⟩ := h.wh hu
  have G : ∀ x, x ∈ l → yG x.2.1 := h.2.2.2.2.1
  have A0 : yAr (uY tE tN id0) ≤ yAr x0.2.1 := by
    rcases hid with ⟨i1, i2⟩ | ⟨j0, u0, i1, i2⟩
    · rw [i2]; exact Nat.le_refl _
    · obtain ⟨n1, n2, n3, -⟩ := h.nm (k := x0.1) (Y := x0.2.1) hx0 i1
      have is := h.is (k := x0.1) (Y := x0.2.1) hx0 n1
      have sp : j0 < ySp x0.2.1 := ySp_k (G x0 hx0) (yIs_1 is)
      have e := yLa_le (G x0 hx0) sp
      have e2 : yLa x0.2.1 j0 = yAr (tN u0) := by unfold yLa; rw [n2]
      rw [i2, uY_p]
      omega
  have K := (su_ki (fun x : Nat × tY × List Nat => yAr x.2.1) fuP l (fun x hx hp => by
    have ne : x.2.2 ≠ [] := by
      unfold fuP at hp
      exact of_decide_eq_true ((Bool.and_eq_true _ _).mp hp).1
    have pos : 0 < x.2.2.length := List.length_pos_iff.mpr ne
    obtain ⟨u, hu'⟩ : ∃ u, x.2.2[0]? = some u := ⟨_, List.getElem?_eq_getElem pos⟩
    obtain ⟨n1, n2, n3, -⟩ := h.nm (k := x.1) (Y := x.2.1) hx hu'
    have is := h.is (k := x.1) (Y := x.2.1) hx n1
    have sp : 0 < ySp x.2.1 := ySp_k (G x hx) (yIs_1 is)
    have e := yLa_le (G x hx) sp
    show 1 ≤ yAr x.2.1
    omega)).2 x0 hx0
  have e : tlN l = (l.map (fun x : Nat × tY × List Nat => yAr x.2.1)).sum := rfl
  rw [e]
  have K : yAr x0.2.1 + (l.filter fuP).length ≤ (l.map (fun x : Nat × tY × List Nat => yAr x.2.1)).sum + 1 := K
  omega
end TGF
section TXG
variable {T len cnt j N S P Q x0 : Nat} {kk pp ee f fc : Nat → Int32} {xs : List tQ} {is : List (Nat × Nat)} {e : tT} {α : Nat → tY} {g' : gG} {ρ' : Nat → tY} {τ : zSt}
/-- a unit's arrows and the functions that are ARGS -/
theorem tx_gf (hT : 2010 ≤ T) (hp : pgT T len cnt j kk pp ee f fc xs is e α) (hR : pgR T len cnt kk pp ee f xs is e α N S P Q x0 g' ρ' τ) {id0 : Nat × Nat} {m0 : Nat} (hu : (id0, m0) ∈ gUn (pTN f pp ee is e α) e (is.map Prod.fst)) : yAr (uY (pTE f pp ee is e α) (pTN f pp ee is e α) id0) + gfN e ≤ tlN (tLs (pTE f pp ee is e α) (pTN f pp ee is e α) e) + 1 := by
  obtain ⟨⟨-, -, -, -, -, f3, -⟩, -, -, w0, nd, gok⟩ := tx_1 hT hp hR.2.1
  obtain ⟨ρ, H⟩ := tx_tl hT hp hR
  obtain ⟨-, -, -, -, -, ⟨⟨g1, g2, -⟩, -⟩, -⟩ := hp
  have q := (gf_le (tE := pTE f pp ee is e α) (tN := pTN f pp ee is e α) e f3 0 g2).1
  have := tl_gf H hu
  omega
end TXG
/-- what a function ARG takes beyond the letters of an ARG, in eighths -/
def xfE (wt : Nat) (y : tY) (p q : Nat) : Nat := (8 * (yCo y + 2 * ((p + q) * yMs y)) + wt * (yAr y + 1)) - 3584
theorem kIt_f {y : tY} (h : yK y = 1) (p q : Nat) : kIt y p q + 19 ≤ yCo y + 2 * ((p + q) * yMs y) := by
  have m := gMs_f h
  have e1 := fCp_fCo y p q
  rw [fCo_eq] at e1
  have e2 : 60 ≤ yCo y := by
    obtain ⟨a, b, e⟩ := yK_1 h
    rw [e]
    unfold yCo
    have := yAr_0 (u := ()) (v := ()) (a := a) (b := b)
    unfold yAr at this
    omega
  have t := t15_le q
  have e3 : yCo y = 84 * yMs y + 60 * yUn y + 4 * yDl y := rfl
  unfold kIt
  rw [m, if_neg (by decide)]
  omega
theorem kIm_f {y : tY} (h : yK y = 1) (wt p q : Nat) : kIm wt y p q ≤ 3432 + xfE wt y p q := by
  have k := kIt_f h p q
  have l := Nat.mul_le_mul_left wt (yFn_A y)
  unfold kIm xfE kIu
  rw [if_pos h]
  omega
theorem kIm_n {y : tY} (h : yK y ≠ 1) (wt p q : Nat) : kIm wt y p q ≤ 16 * q + wt := by
  have f := fCp_nf y p q h
  have l : yFn y ≤ 1 := by
    cases y with
    | leaf => exact Nat.le_refl _
    | inner k u v a b =>
      have c : k ≠ 0 := fun z => h (by rw [z]; rfl)
      unfold yFn
      rw [if_neg c]
      split <;> omega
  have l2 := Nat.mul_le_mul_left wt l
  have t := t15_le q
  unfold kIm kIu kIt
  rw [if_neg h, f]
  split
  · omega
  · omega
/-- what a call's ARGS take beyond their letters, in eighths -/
def nEs (wt : Nat) (P : tY → Nat) : Nat → tY → Nat → Nat
  | 0, _, _ => 0
  | k + 1, y, q => (if yK (yL y) = 1 then xfE wt (yL y) (P (yL y)) q else 16 * q + wt - 960) + nEs wt P k (yR y) (q + 1)
theorem kB_nE (wt : Nat) (P : tY → Nat) : ∀ (k : Nat) (y : tY) (q : Nat), kB wt P k y q ≤ 8 * lcA k y + nEs wt P k y q
  | 0, _, _ => Nat.zero_le _
  | k + 1, y, q => by
    have ih := kB_nE wt P k (yR y) (q + 1)
    show kIm wt (yL y) (P (yL y)) q + kB wt P k (yR y) (q + 1) ≤ 8 * ((if yK (yL y) = 1 then 429 else 120) + lcA k (yR y)) + ((if yK (yL y) = 1 then xfE wt (yL y) (P (yL y)) q else 16 * q + wt - 960) + nEs wt P k (yR y) (q + 1))
    by_cases c : yK (yL y) = 1
    · rw [if_pos c, if_pos c]
      have := kIm_f c wt (P (yL y)) q
      omega
    · rw [if_neg c, if_neg c]
      have := kIm_n c wt (P (yL y)) q
      omega
/-- **a call takes no more than its letters and what its ARGS take beyond theirs, less 816** -/
theorem kB_lc (wt : Nat) (P : tY → Nat) (k : Nat) (y : tY) (q : Nat) : kB wt P k y q ≤ 8 * lc y k + (nEs wt P k y q - 6528) := by
  have h := kB_nE wt P k y q
  unfold lc
  by_cases c : k = 0
  · subst c
    exact Nat.zero_le _
  · rw [if_neg c]
    have := Nat.le_max_left (309 + lcA k y) (274 * k + 155)
    omega
