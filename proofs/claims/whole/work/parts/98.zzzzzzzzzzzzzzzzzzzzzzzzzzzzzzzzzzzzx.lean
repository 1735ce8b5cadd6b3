/-! type(): told NAMES behind accepted() -/
theorem fQk_cg {α : Type} {p q : Nat → Bool} : ∀ (l : List α) (k : Nat), (∀ i, k ≤ i → i < k + l.length → p i = q i) → fQk p k l = fQk q k l
  | [], _, _ => rfl
  | x :: l, k, h => by
    have e0 := h k (Nat.le_refl _) (by show k < k + (l.length + 1); omega)
    have e1 := fQk_cg l (k + 1) (fun i h1 h2 => h i (by omega) (by show i < k + (l.length + 1); omega))
    unfold fQk
    rw [e0, e1]
section TYX
variable {κ : oKv} {T sz len cnt j n lo p jd o pa ph ta th lenJ x N S P A x0 u : Nat} {kk pp ee f fc R6 fb fr fz fn : Nat → Int32} {xs : List tQ} {is : List (Nat × Nat)} {e : tT} {α : Nat → tY} {B : Nat → Nat} {V : oSt} {D : cDt} {at2 cd' : Nat} {am2 : Int32} {nm : Nat → Option Nat} {e0 : Nat} {g g' : gG} {ρ ρ' : Nat → tY} {lv : Int32} {σ σ' : oSt} {τ v : zSt} {q0 : Nat → gTy} {A0 : gTy} {yc : tY} {inv : Nat → gN} {K : Int} {fs : List Value} {al al' : gAl}
/-- INSTANCES of told types are the same on both sides -/
theorem ty_sy (hT : 2010 ≤ T) (hp : pgT T len cnt j kk pp ee f fc xs is e α) (hR : pgR T len cnt kk pp ee f xs is e α N S P A x0 g' ρ' τ) (hi : pGi T f pp ee xs is e α (τ.2.2.1 32) inv) (mx : gMx f pp ee (pTE f pp ee is e α) (pTN f pp ee is e α) 59 e (is.map Prod.fst)) (h1 : gGr T f pp ee (τ.2.2.1 32) R6 (pGm T f pp ee xs is e α (τ.2.2.1 32) inv) (pFK T f pp ee xs is e α (τ.2.2.1 32) inv (pWk T f pp ee is e α q0 A0).1) (pWk T f pp ee is e α q0 A0).1.2.1 al) (h2 : gGr T f pp ee (τ.2.2.1 32) R6 (pGm T f pp ee xs is e α (τ.2.2.1 32) inv) (pFK T f pp ee xs is e α (τ.2.2.1 32) inv (pWk T f pp ee is e α q0 A0).1) (pWk T f pp ee is e α q0 A0).1.2.1 al') (hu : u ∈ is.map Prod.fst ++ tW e) (X : gTy) (hX : sbT (pTN f pp ee is e α u) ((pWk T f pp ee is e α q0 A0).1.1 u) X) : tSy al (pNq T f pp ee) xs X = tSy al' (pNq T f pp ee) xs X := by
  obtain ⟨gS, S0, -, wf⟩ := tx_gd (q0 := q0) (A0 := A0) hT hp hR hi mx u hu
  obtain ⟨S', wX⟩ := wfT_sb hi.2.1 _ _ X S0 gS wf hX
  unfold tSy gSa
  cases eX : X.1 with
  | inl y => rfl
  | inr m =>
    show List.map _ (fQk (al (m.1, m.2.1)) 0 (gIn (pNq T f pp ee) xs m.2.2.1 m.2.2.2.2)) = List.map _ (fQk (al' (m.1, m.2.1)) 0 (gIn (pNq T f pp ee) xs m.2.2.1 m.2.2.2.2))
    unfold wfT at wX
    rw [eX] at wX
    have eF : pFK T f pp ee xs is e α (τ.2.2.1 32) inv (pWk T f pp ee is e α q0 A0).1 (m.1, m.2.1) = gIn (pNq T f pp ee) xs m.2.2.1 m.2.2.2.2 := by
      unfold pFK fkO
      rw [if_pos ⟨X, m, Or.inr (Or.inr ⟨u, hu, hX⟩), eX, rfl⟩]
      show gIn (pNq T f pp ee) xs (mGo (pRt f pp ee is e α m.1) m.2.1).2.2.1 (mGo (pRt f pp ee is e α m.1) m.2.1).2.2.2.2 = _
      rw [← wX.1.1]
    obtain ⟨l1, l2⟩ := h1.uq h2
    rw [fQk_cg (q := al' (m.1, m.2.1)) _ 0 (fun i _ hi' => ?_)]
    have a1 := l1 (m.1, m.2.1) i (by rw [eF]; omega)
    have a2 := l2 (m.1, m.2.1) i (by rw [eF]; omega)
    cases b1 : al (m.1, m.2.1) i with
    | true => exact (a1 b1).symm
    | false =>
      cases b2 : al' (m.1, m.2.1) i with
      | true => rw [a2 b2] at b1; cases b1
      | false => rfl
/-- told NAMES, on both sides -/
def tyB (Γ : uGm) (lo : Nat × (Nat → Prop)) (na : gN → Nat) (sy : gTy → List gFc) (pp ee f : Nat → Int32) (L : List Nat) (tN : Nat → tY) (q : Nat → gTy) (nm : Nat → Option Nat) (σ : oSt) (v : zSt) : Prop := ∀ i u, L[i]? = some u → tyR Γ pp ee f (fun w => w ∈ L) tN q v i u ∧ tyC lo na Γ (fun w => w ∈ L) sy nm tN q σ u ∧ (∀ X, sbT (tN u) (q u) X → sy X = tSy (alV Γ v) Γ.2.2.1 Γ.2.2.2.1 X) ∧ yW (tN u) ∧ yLv (tN u) ≤ 60 ∧ tSz (tN u) ≤ 119 ∧ (q u).2.length ≤ 100
set_option maxHeartbeats 1000000 in
/-- **behind accepted()** -/
theorem ty_x (hT : 2010 ≤ T) (hp : pgT T len cnt j kk pp ee f fc xs is e α) (hR : pgR T len cnt kk pp ee f xs is e α N S P A x0 g' ρ' τ) (hV : pgV κ T sz len cnt kk pp ee fc xs is e B p V D at2 cd' am2 nm e0 fb fr fz fn) (hS : pgS κ T lo cnt kk pp ee f fc is e α B p V D nm e0 g ρ lv σ) (hpa : pa < lo ∧ ph < lo ∧ ta < lo ∧ th < lo) (cap : pCap T f pp ee xs is e α q0 A0 yc) (hq0 : ∀ u, q0 u = gNtd) (hA0 : nbL A0) (ac : ∀ k, k < 40 → v.2.2.1 k = τ.2.2.1 k) (h : acX κ T lo cnt p jd o pa ph ta th lenJ x kk pp ee f fc xs is e α B V D nm g ρ lv K q0 A0 fs σ σ' τ v) : ∃ Γ Q na sy q, (∀ y, Q y → σ.2.1 ≤ y ∧ y < σ'.2.1) ∧ tyB Γ (lo, Q) na sy pp ee f (is.map Prod.fst ++ tW e) (pTN f pp ee is e α) q nm σ' v := by
  obtain ⟨inv, R6, Ψ, Ls, σ2, ln, ct, cs, w, σ4, Fc, ⟨hi, hd⟩, ⟨J2, F, hu4, gs, hx4⟩, G1, G2⟩ := h
  have mx := cap.1
  have gd := tx_gd (q0 := q0) (A0 := A0) hT hp hR hi mx
  have hnl := tx_nl hR
  have hN := tx_rn hT hp hR.2.1
  have yw : ∀ u, u ∈ is.map Prod.fst ++ tW e → yW (pTN f pp ee is e α u) := fun u hu => J2.yw hu
  have hVn : ∀ w, w ∈ is.map Prod.fst ++ tW e → ∃ b, nm w = some b ∧ lo ≤ b ∧ cNc pp ee fc V b w := fun w hw => by
    obtain ⟨b, b1, b2⟩ := hV.2.2.2.2.2.2.1.2.2.2 w hw
    obtain ⟨b', fs', c, gs', c1, c2, -⟩ := hS.2.2.2.1 w hw
    rw [b1] at c1
    injection c1 with c1
    exact ⟨b, b1, by have := hS.2.1; omega, b2⟩
  refine ⟨pGm T f pp ee xs is e α (τ.2.2.1 32) inv, (wyP Ψ σ2.2.1).2.2.1, Ψ.1, tSy (fun kp => Fc (Ψ.2.1 kp)) (pNq T f pp ee) xs, (pWk T f pp ee is e α q0 A0).1.1, fun y hy => ?_, fun i u hiu => ?_⟩
  · obtain ⟨⟨_, ga⟩, -, -, ⟨g0, g1, -⟩, -⟩ := J2
    have l1 := ga.1.2.2.2.1
    have l2 : σ2.2.1 + 1 ≤ σ4.2.1 := F.2.1.2.2.2
    have l3 : σ'.2.1 = σ4.2.1 := by rw [hu4]; rfl
    rcases hy with hy | hy
    · have a1 := g0 y hy
      have a2 := l1 y hy
      omega
    · omega
  · have hu := List.mem_of_getElem? hiu
    have rr := ty_r hT hp hR hi mx hq0 hA0 rfl rfl hd ac yw hu
    obtain ⟨n1, n2, n3⟩ := hN.at hu
    have ei : nuO (τ.2.2.1 32) u = i := by
      have hnd := hN.2.1
      obtain ⟨i1, i2⟩ := List.getElem?_eq_some_iff.mp hiu
      obtain ⟨i3, i4⟩ := List.getElem?_eq_some_iff.mp n2
      have hnd := List.pairwise_iff_getElem.mp hnd
      rcases Nat.lt_trichotomy (nuO (τ.2.2.1 32) u) i with z | z | z
      · exact absurd (i4.trans i2.symm) (hnd _ _ i3 i1 z)
      · exact z
      · exact absurd (i2.trans i4.symm) (hnd _ _ i1 i3 z)
    rw [ei] at rr
    refine ⟨rr, ?_, fun X hX => ty_sy hT hp hR hi mx G1 G2 hu X hX, yw u hu, ty_lv hp hR (gd u hu) (yw u hu) hu⟩
    obtain ⟨vv, t, -, -, r3, -, r5, -⟩ := rr
    have c := ty_c (Γ := pGm T f pp ee xs is e α (τ.2.2.1 32) inv) hpa J2 F hVn rfl (gd u hu) r3 r5 ((gd u hu).ne (hnl u hu)) rfl rfl (fun _ => rfl)
    rw [hu4]
    exact c.ta (tyA.pt hx4)
/-- what of the reference told NAMES want -/
def tyQ (τ v : zSt) : Prop := (∀ k, k ∉ [0, 2] → k < 101 → v.2.2.1 k = τ.2.2.1 k) ∧ v.2.2.2 54 = τ.2.2.2 54 ∧ v.2.2.2 59 = τ.2.2.2 59
theorem tyQ.rf (τ : zSt) : tyQ τ τ := ⟨fun _ _ _ => rfl, rfl, rfl⟩
theorem tyQ.tr {a b c : zSt} (h : tyQ a b) (h' : tyQ b c) : tyQ a c := ⟨fun k h1 h2 => (h'.1 k h1 h2).trans (h.1 k h1 h2), h'.2.1.trans h.2.1, h'.2.2.trans h.2.2⟩
theorem tyR.cg {Γ : uGm} {Lp : Nat → Prop} {tN : Nat → tY} {q : Nat → gTy} {i : Nat} (k : tyQ τ v) (h : tyR Γ pp ee f Lp tN q τ i u) : tyR Γ pp ee f Lp tN q v i u := by
  obtain ⟨vv, t, h1, h2, h3, h4, h5, ⟨h6, h6', h6''⟩, h7, h8⟩ := h
  refine ⟨vv, t, h1, by rw [k.1 74 (by decide) (by decide)]; exact h2, h3.q ⟨fun c c1 c2 _ _ _ _ => k.1 c (fun z => by simp only [List.mem_cons, List.not_mem_nil, or_false] at z; omega) (by omega), k.2⟩ _ _ _, h4.q (fun c c1 c2 => k.1 c (fun z => by simp only [List.mem_cons, List.not_mem_nil, or_false] at z; omega) (by omega)), h5, ⟨h6, h6', fun w hw => ?_⟩, fun a ha => ?_, h8⟩
  · rw [k.1 30 (by decide) (by decide), k.1 4 (by decide) (by decide), k.1 5 (by decide) (by decide), k.1 1 (by decide) (by decide)]
    exact h6'' w hw
  · rw [k.1 66 (by decide) (by decide), k.1 67 (by decide) (by decide)]
    exact h7 a ha
theorem alV_tq {Γ : uGm} (k : tyQ τ v) : alV Γ v = alV Γ τ := by
  funext kp i
  unfold alV
  rw [k.1 65 (by decide) (by decide), k.1 61 (by decide) (by decide)]
/-- **told NAMES over other calls** -/
theorem tyB.cg {Γ : uGm} {lo : Nat × (Nat → Prop)} {na : gN → Nat} {sy : gTy → List gFc} {L : List Nat} {tN : Nat → tY} {q : Nat → gTy} (k : tyA lo σ σ') (k' : tyQ τ v) (h : tyB Γ lo na sy pp ee f L tN q nm σ τ) : tyB Γ lo na sy pp ee f L tN q nm σ' v := fun i u hu => by
  obtain ⟨h1, h2, h3, h4⟩ := h i u hu
  exact ⟨h1.cg k', h2.ta k, by rw [alV_tq k']; exact h3, h4⟩
end TYX
