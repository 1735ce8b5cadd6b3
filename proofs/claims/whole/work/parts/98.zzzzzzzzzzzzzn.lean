/-! the reference's types of a NAME, of an S -/
/-- rows and fields that the tree and its simple types need -/
def uTf (V τ : zSt) : Prop := (∀ k, k ∉ uCt → k ≠ 63 → k ≠ 126 → τ.1 k = V.1 k) ∧ (∀ k, k ≠ 64 → τ.2.1 k = V.2.1 k) ∧ ∀ k, k ≤ 39 → τ.2.2.1 k = V.2.2.1 k
theorem uCo_lo {k : Nat} (h : k ≤ 39) : uCo k = none := by
  unfold uCo
  repeat rw [if_neg (by omega)]
/-- what else stays: types of told NAMES, lengths and sizes -/
def uKr (Γ : uGm) (τ τ' : zSt) : Prop := τ'.2.2.1 74 = τ.2.2.1 74 ∧ uIk Γ τ τ'
section UFM
variable {ks : Nat → Nat} {qs : List Nat} {T n h0 len cnt N S P A : Nat} {L env : List Nat} {kk pp ee f : Nat → Int32} {Γ : uGm} {v v' : Nat → Nat} {V τ τ' τ'' : zSt} {CD : tT → Nat → Prop}
theorem uTf.rf (V : zSt) : uTf V V := ⟨fun _ _ _ _ => rfl, fun _ _ => rfl, fun _ _ => rfl⟩
theorem uTf.fr (h : uTf V τ) (g : uFr v τ τ') : uTf V τ' := ⟨fun k a b c => (g.1 k a b c).trans (h.1 k a b c), fun k a => (g.2.1 k a).trans (h.2.1 k a), fun k a => funext fun i => (g.n (k := k) (i := i) (by unfold uAy; omega) (uCo_lo a)).trans (congrFun (h.2.2 k a) i)⟩
theorem uTf.r (h : uTf V τ) {k : Nat} (hk : k ≤ 39) (i : Nat) : τ.2.2.1 k i = V.2.2.1 k i := congrFun (h.2.2 k hk) i
theorem gFm.fr (h : gFm τ τ') (v : Nat → Nat) : uFr v τ τ' := ⟨fun k _ b _ => h.1 k b, h.2.1, fun k a i _ => congrFun (h.2.2.1 k (fun e => a (by unfold uAy; omega)) (fun e => a (by unfold uAy; omega))) i, fun k i _ => congrFun (congrFun h.2.2.2 k) i⟩
theorem gFm.vn (h : gFm τ τ') (g : uVn τ v) : uVn τ' v := fun k hk => by rw [h.1 k (fun e => by subst e; exact absurd hk (by decide))]; exact g k hk
theorem gFm.kr (h : gFm τ τ') : uKr Γ τ τ' := ⟨h.2.2.1 74 (by decide) (by decide), by rw [h.2.2.1 66 (by decide) (by decide)], fun x _ w => by
  unfold uIs at w ⊢
  rw [h.2.2.1 66 (by decide) (by decide), h.2.2.1 67 (by decide) (by decide)]
  exact w⟩
theorem uKr.rf (τ : zSt) : uKr Γ τ τ := ⟨rfl, rfl, fun _ _ h => h⟩
theorem uKr.tr (h : uKr Γ τ τ') (g : uKr Γ τ' τ'') : uKr Γ τ τ'' := ⟨g.1.trans h.1, h.2.tr g.2⟩
theorem uKe.kr (h : uKe τ τ') : uKr Γ τ τ' := ⟨h.1 74 (by unfold uAy; omega), h.ik⟩
theorem rLh.ku (H : rLh T len cnt S P L env V kk pp ee f) (fm : uTf V τ) : rLh T len cnt S P L env τ kk pp ee f := ⟨H.1, H.2.1.keep (fm.2.2 1 (by decide)) (fm.2.2 3 (by decide)) (fm.2.2 4 (by decide)) (fm.2.2 5 (by decide)), by rw [fm.2.2 32 (by decide)]; exact H.2.2.1, H.2.2.2⟩
theorem uTf.sm {x : Nat} {t : tS} (fm : uTf V τ) (h : rSm pp V S P x t) : rSm pp τ S P x t := by
  have at' : rAt 0 0 S P 0 V τ := ⟨fun m _ _ => funext fun k => fm.r (by omega) m, fun k j a b _ => fm.r (by omega) j, fun k j a b _ => fm.r (by omega) j, fun m _ => funext fun k => fm.r (by omega) m⟩
  exact at'.sm h (Nat.le_refl _) (Nat.le_refl _)
/-- numbers of an S, added -/
def sNw (T : Nat) (f pp ee : Nat → Int32) (ps : List tP) : Prop := ∀ p, p ∈ ps → p.1 = 0 → (nW T f pp ee p.2.2).toInt ≠ -2147483648
theorem sg_64 (b : Bool) (x : Int32) (h : x.toInt ≠ -2147483648) : (sg b * 1).toInt64 * x.toInt64 = (sg b * x).toInt64 := by
  have h1 := Int32.le_toInt x
  have h2 := Int32.toInt_lt x
  rw [← Int64.toInt_inj]
  cases b
  · show ((1 * 1 : Int32).toInt64 * x.toInt64).toInt = ((1 : Int32) * x).toInt64.toInt
    rw [show (1 * 1 : Int32).toInt64 = 1 from rfl, Int64.one_mul, Int32.one_mul]
  · show ((-1 * 1 : Int32).toInt64 * x.toInt64).toInt = ((-1 : Int32) * x).toInt64.toInt
    rw [show (-1 * 1 : Int32).toInt64 = -1 from rfl, Int64.toInt_mul, Int32.toInt_toInt64, Int32.toInt_toInt64, Int32.toInt_mul, show (-1 : Int64).toInt = -1 from rfl, show (-1 : Int32).toInt = -1 from rfl, Int.bmod_eq_of_le (by omega) (by omega), Int.bmod_eq_of_le (by omega) (by omega)]
theorem nLs_pl : ∀ (ps : List tP) (l : Int64), sNw T f pp ee ps → nLs T f pp ee 1 ps l = ps.foldl (fun x p => if p.1 = 0 then x + (sg p.2.1 * nW T f pp ee p.2.2).toInt64 else x) l
  | [], _, _ => rfl
  | p :: ps, l, h => by
    have I := fun l => nLs_pl ps l (fun q hq => h q (List.mem_cons_of_mem _ hq))
    show nLs T f pp ee 1 ps (if p.1 = 0 then _ else _) = ps.foldl _ (if p.1 = 0 then _ else _)
    rw [I]
    by_cases c : p.1 = 0
    · rw [if_pos c, if_pos c, sg_64 _ _ (h p (List.mem_cons_self ..) c)]
    · rw [if_neg c, if_neg c]
theorem nLs_s {ps : List tP} (h : sNw T f pp ee ps) : nLs T f pp ee 1 ps 0 = sPl T f pp ee ps := nLs_pl ps 0 h
/-- a type with the FACT v = te -/
theorem r_eq1 {te : gTe} {k : Nat} {l r : tY} (hk : k = 1 ∨ k = 3 ∨ k = 4) (hV : uVn τ v) (h75 : v 75 < 40000) (h79 : v 79 < 24000) (h85 : v 85 < 12000) : ∃ τ1 τ2 τ3, zF h0 qs ks T (n + 1) 69 [.ref h0, .int 0, .int (uTe Γ te).1, .int (uTe Γ te).2.1, .long (uTe Γ te).2.2, .int (-1)] τ = some (some (.int (nI (v 85))), τ1) ∧ zF h0 qs ks T (n + 1) 68 [.ref h0, .int (-1), .int (nI (v 85)), .int (-1)] τ1 = some (some (.int (nI (v 79))), τ2) ∧ zF h0 qs ks T (n + 1) 67 [.ref h0, .int (nI (uK k)), .int (nI (v 79)), .int (-1), .int (-1), .int (-1)] τ2 = some (some (.int (nI (v 75))), τ3) ∧ uVn τ3 (uAd v 1 1 1 0) ∧ uFr v τ τ3 ∧ uKe τ τ3 ∧ uTy Γ (uAd v 1 1 1 0) τ3 (.inner k () () l r) (v 75) (gEq (.inner k () () l r) te) := by
  obtain ⟨τ1, a1, a2, a3, ⟨a4, a5, a6, a7, a8⟩, a9⟩ := r_fact (h0 := h0) (qs := qs) (ks := ks) (T := T) (n := n) (x1 := 0) (x2 := (uTe Γ te).1) (x3 := (uTe Γ te).2.1) (x4 := (uTe Γ te).2.2) (x6 := -1) hV h85
  obtain ⟨τ2, b1, b2, b3, ⟨b4, b5, b6⟩, b9⟩ := r_said (h0 := h0) (qs := qs) (ks := ks) (T := T) (n := n) (x1 := -1) (x2 := nI (v 85)) (x3 := -1) a2 (by rw [uUp_ne v (by decide)]; exact h79)
  rw [uUp_ne v (show (79 : Nat) ≠ 85 by decide)] at b1 b4 b5 b6
  obtain ⟨τ3, c1, c2, c3, ⟨c4, c5, c6, c7, c8⟩, c9⟩ := r_rich (h0 := h0) (qs := qs) (ks := ks) (T := T) (n := n) (x1 := nI (uK k)) (x2 := nI (v 79)) (x3 := -1) (x4 := -1) (x5 := -1) b2 (by rw [uUp_ne _ (by decide), uUp_ne v (by decide)]; exact h75)
  rw [uUp_ne _ (show (75 : Nat) ≠ 79 by decide), uUp_ne v (show (75 : Nat) ≠ 85 by decide)] at c1 c4 c5 c6 c7 c8
  have le1 := uUp_le v 85
  have le2 : ∀ k, v k ≤ uUp (uUp v 85) 79 k := fun k => Nat.le_trans (le1 k) (uUp_le _ 79 k)
  have eA : uUp (uUp (uUp v 85) 79) 75 = uAd v 1 1 1 0 := by
    rw [uUp_75, uUp_79, uUp_85, uAd_ad, uAd_ad]
  rw [eA] at c2
  have k1 : uKe τ τ1 := ⟨a9.1, a9.2.1, a9.2.2.1, a9.2.2.2⟩
  have k2 : uKe τ1 τ2 := ⟨b9.1, b9.2.1, b9.2.2.1, b9.2.2.2⟩
  have k3 : uKe τ2 τ3 := ⟨c9.1, c9.2.1, c9.2.2.1, c9.2.2.2⟩
  have f13 : uFr (uUp v 85) τ1 τ3 := b3.tr c3 (uUp_le _ 79)
  have A75 : uAd v 1 1 1 0 75 = v 75 + 1 := rfl
  have A79 : uAd v 1 1 1 0 79 = v 79 + 1 := rfl
  have A85 : uAd v 1 1 1 0 85 = v 85 + 1 := rfl
  refine ⟨τ1, τ2, τ3, a1, b1, c1, c2, (a3.tr b3 le1).tr c3 le2, (k1.tr k2).tr k3, by rw [A75]; omega, rfl, ?_⟩
  rw [if_neg (by omega)]
  refine ⟨by omega, c4, fun _ => ⟨v 79, c5, by rw [A79]; omega, ?_, ?_⟩⟩
  · show τ3.2.2.1 49 (v 79) = -1
    rw [c3.r (k := 49) (c := 79) rfl (by unfold uAy; omega) (by rw [uUp_at, uUp_ne v (by decide)]; omega)]
    exact b6
  · refine ⟨?_, v 85, ⟨?_, by rw [A85]; omega⟩, ?_, ?_, ?_⟩
    · rw [c3.r (k := 47) (c := 79) rfl (by unfold uAy; omega) (by rw [uUp_at, uUp_ne v (by decide)]; omega)]
      exact b4
    · rw [c3.r (k := 48) (c := 79) rfl (by unfold uAy; omega) (by rw [uUp_at, uUp_ne v (by decide)]; omega)]
      exact b5
    · rw [f13.r (k := 50) (c := 85) rfl (by unfold uAy; omega) (by rw [uUp_at]; omega)]
      exact a4
    · rw [f13.r (k := 51) (c := 85) rfl (by unfold uAy; omega) (by rw [uUp_at]; omega), f13.r (k := 52) (c := 85) rfl (by unfold uAy; omega) (by rw [uUp_at]; omega), f13.l (k := 54) (c := 85) rfl (by rw [uUp_at]; omega), a5, a6, a8]
    · show τ3.2.2.1 53 (v 85) = -1
      rw [f13.r (k := 53) (c := 85) rfl (by unfold uAy; omega) (by rw [uUp_at]; omega)]
      exact a7
/-- a type that says nothing: said(), rich() -/
theorem r_pl1 {k : Nat} {l r : tY} (hk : k = 1 ∨ k = 3 ∨ k = 4) (hV : uVn τ v) (h75 : v 75 < 40000) (h79 : v 79 < 24000) : ∃ τ2 τ3, zF h0 qs ks T (n + 1) 68 [.ref h0, .int (-1), .int (-1), .int (-1)] τ = some (some (.int (nI (v 79))), τ2) ∧ zF h0 qs ks T (n + 1) 67 [.ref h0, .int (nI (uK k)), .int (nI (v 79)), .int (-1), .int (-1), .int (-1)] τ2 = some (some (.int (nI (v 75))), τ3) ∧ uVn τ3 (uAd v 1 1 0 0) ∧ uFr v τ τ3 ∧ uKe τ τ3 ∧ uTy Γ (uAd v 1 1 0 0) τ3 (.inner k () () l r) (v 75) (gPl (.inner k () () l r)) := by
  obtain ⟨τ2, b1, b2, b3, ⟨b4, b5, b6⟩, b9⟩ := r_said (h0 := h0) (qs := qs) (ks := ks) (T := T) (n := n) (x1 := -1) (x2 := -1) (x3 := -1) hV h79
  obtain ⟨τ3, c1, c2, c3, ⟨c4, c5, c6, c7, c8⟩, c9⟩ := r_rich (h0 := h0) (qs := qs) (ks := ks) (T := T) (n := n) (x1 := nI (uK k)) (x2 := nI (v 79)) (x3 := -1) (x4 := -1) (x5 := -1) b2 (by rw [uUp_ne v (by decide)]; exact h75)
  rw [uUp_ne v (show (75 : Nat) ≠ 79 by decide)] at c1 c4 c5 c6 c7 c8
  have eA : uUp (uUp v 79) 75 = uAd v 1 1 0 0 := by
    rw [uUp_75, uUp_79, uAd_ad]
  rw [eA] at c2
  have k2 : uKe τ τ2 := ⟨b9.1, b9.2.1, b9.2.2.1, b9.2.2.2⟩
  have k3 : uKe τ2 τ3 := ⟨c9.1, c9.2.1, c9.2.2.1, c9.2.2.2⟩
  have A75 : uAd v 1 1 0 0 75 = v 75 + 1 := rfl
  have A79 : uAd v 1 1 0 0 79 = v 79 + 1 := rfl
  refine ⟨τ2, τ3, b1, c1, c2, b3.tr c3 (uUp_le v 79), k2.tr k3, by rw [A75]; omega, rfl, ?_⟩
  rw [if_neg (by omega)]
  refine ⟨by omega, c4, fun _ => ⟨v 79, c5, by rw [A79]; omega, ?_, ?_, ?_⟩⟩
  · show τ3.2.2.1 49 (v 79) = -1
    rw [c3.r (k := 49) (c := 79) rfl (by unfold uAy; omega) (by rw [uUp_at]; omega)]
    exact b6
  · rw [c3.r (k := 47) (c := 79) rfl (by unfold uAy; omega) (by rw [uUp_at]; omega)]
    exact b4
  · show τ3.2.2.1 48 (v 79) = -1
    rw [c3.r (k := 48) (c := 79) rfl (by unfold uAy; omega) (by rw [uUp_at]; omega)]
    exact b5
/-- plainType(): bool -/
theorem r_pl2 {l r : tY} (hV : uVn τ v) (h75 : v 75 < 40000) : ∃ τ3, zF h0 qs ks T (n + 2) 72 [.ref h0, .int 2] τ = some (some (.int (nI (v 75))), τ3) ∧ uVn τ3 (uAd v 1 0 0 0) ∧ uFr v τ τ3 ∧ uKe τ τ3 ∧ uTy Γ (uAd v 1 0 0 0) τ3 (.inner 2 () () l r) (v 75) (gPl (.inner 2 () () l r)) := by
  obtain ⟨τ3, c1, c2, c3, ⟨c4, c5, c6, c7, c8⟩, c9⟩ := r_rich (h0 := h0) (qs := qs) (ks := ks) (T := T) (n := n) (x1 := 2) (x2 := -1) (x3 := -1) (x4 := -1) (x5 := -1) hV h75
  rw [uUp_75] at c2
  refine ⟨τ3, ?_, c2, c3, ⟨c9.1, c9.2.1, c9.2.2.1, c9.2.2.2⟩, by show v 75 < v 75 + 1; omega, rfl, ?_⟩
  · rw [zE_plainType]
    unfold b_plainType j_plainType_20
    rw [r_isSaid, zci_at, if_pos (by decide), c1, zci_at]
  · rw [if_neg (by decide)]
    exact ⟨by decide, c4, fun w => absurd rfl w⟩
/-- plainType(): int -/
theorem r_pl3 {l r : tY} (hV : uVn τ v) (h75 : v 75 < 40000) (h79 : v 79 < 24000) : ∃ τ3, zF h0 qs ks T (n + 2) 72 [.ref h0, .int 1] τ = some (some (.int (nI (v 75))), τ3) ∧ uVn τ3 (uAd v 1 1 0 0) ∧ uFr v τ τ3 ∧ uKe τ τ3 ∧ uTy Γ (uAd v 1 1 0 0) τ3 (.inner 1 () () l r) (v 75) (gPl (.inner 1 () () l r)) := by
  obtain ⟨τ2, τ3, a1, a2, a3⟩ := r_pl1 (h0 := h0) (qs := qs) (ks := ks) (T := T) (n := n) (Γ := Γ) (k := 1) (l := l) (r := r) (Or.inl rfl) hV h75 h79
  refine ⟨τ3, ?_, a3⟩
  rw [zE_plainType]
  unfold b_plainType j_plainType_20
  have a2 : zF h0 qs ks T (n + 1) 67 [.ref h0, .int 1, .int (nI (v 79)), .int (-1), .int (-1), .int (-1)] τ2 = _ := a2
  rw [r_isSaid, zci_at, if_neg (by decide), a1, zci_at, a2, zci_at]
end UFM
