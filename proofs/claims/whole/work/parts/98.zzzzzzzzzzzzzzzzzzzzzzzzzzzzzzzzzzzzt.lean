/-! type(): a told NAME of a PROGRAM, as the class has it -/
section TYC
variable {κ : oKv} {T lo cnt p jd o pa ph ta th s ch len0 u t : Nat} {kk pp ee f fc : Nat → Int32} {xs : List tQ} {is : List (Nat × Nat)} {e : tT} {α : Nat → tY} {B : Nat → Nat} {V : oSt} {D : cDt} {nm : Nat → Option Nat} {g : gG} {ρ : Nat → tY} {lv p9 : Int32} {K : Int} {W : gSt} {Ψ : kGh} {Ls : List Nat} {σ0 σ2 σ4 : oSt} {ln : Nat → Nat} {ct : Nat → Nat → Option Nat} {cs : Nat} {Fc : Nat → Nat → Bool} {cf : List Value} {Γ : uGm} {q : Nat → gTy} {vv : Nat → Nat} {v : zSt} {rt : Nat → gTm} {C Bq : Int}
/-- what the class has of a told NAME -/
def tyC (lo : Nat × (Nat → Prop)) (na : gN → Nat) (Γ : uGm) (Lp : Nat → Prop) (sy : gTy → List gFc) (nm : Nat → Option Nat) (tN : Nat → tY) (q : Nat → gTy) (σ : oSt) (u : Nat) : Prop := (∃ gs k w G, σ.1 (na (.inl u)) = some (.inr (6, gs)) ∧ gs[4]? = some (.ref k) ∧ kPk lo σ k w G (cKd (yK (tN u))) ∧ tOr na (nmA Lp (q u)) sy lo σ G (tN u) (q u) w) ∧ (∀ w, Lp w → nm w = some (na (.inl w))) ∧ (∀ a, nmA Lp (q u) a → ∃ gs, σ.1 (na a) = some (.inr (6, gs)) ∧ gs[3]? = some (.int (cKd (yK (Γ.2.2.2.2.1 a)))) ∧ (∀ kp, a = .inr kp → gs[0]? = some .null) ∧ ∀ w, a = .inl w → ∃ r, gs[0]? = some (.ref r)) ∧ ∀ a b, nmA Lp (q u) a → nmA Lp (q u) b → na a = na b → a = b
set_option maxHeartbeats 1000000 in
theorem ty_c (hpa : pa < lo ∧ ph < lo ∧ ta < lo ∧ th < lo) (J2 : jS2 κ T lo cnt p jd kk pp ee f fc xs is e α B V D nm g ρ lv s W Ψ Ls σ2 ln ct cs) (F : fdI (s + 5) (fun i => s + 1 + i) lo (wyP Ψ σ2.2.1).2.2.1 K jd o pa ph ta th ch len0 cf σ0 (onew σ2 (.inl (.int, ln 0, .inl (fun _ => 0))) (ln 0)) σ4 Fc p9) (hV : ∀ w, w ∈ is.map Prod.fst ++ tW e → ∃ b, nm w = some b ∧ lo ≤ b ∧ cNc pp ee fc V b w) (hq : W.1 = q) (gd : gGd Γ C Bq rt (pTN f pp ee is e α) (fun v => v ∈ is.map Prod.fst ++ tW e) q u) (uT : uTy Γ vv v (pTN f pp ee is e α u) t (q u)) (hv : vTy Γ (nmA (fun v => v ∈ is.map Prod.fst ++ tW e) (q u)) (pTN f pp ee is e α u) (q u)) (ntd : q u ≠ gNtd) (g1 : Γ.2.2.1 = pNq T f pp ee) (g2 : Γ.2.2.2.1 = xs) (g3 : ∀ w, Γ.2.2.2.2.1 (.inl w) = pTN f pp ee is e α w) : tyC (lo, (wyP Ψ σ2.2.1).2.2.1) Ψ.1 Γ (fun v => v ∈ is.map Prod.fst ++ tW e) (tSy (fun kp => Fc (Ψ.2.1 kp)) Γ.2.2.1 Γ.2.2.2.1) nm (pTN f pp ee is e α) q σ4 u := by
  obtain ⟨⟨_, ga⟩, -, ⟨vm, -⟩, -, -, ⟨n1, n2⟩, hφ, hT⟩ := J2
  rw [hq, ← g1, ← g2] at hT
  obtain ⟨-, hf, hD, hs, -, -⟩ := F
  have hfr := ga.1.1
  have nla : (onew σ2 (.inl (.int, ln 0, .inl (fun _ => 0))) (ln 0)).1 σ2.2.1 = some (.inl (.int, ln 0, .inl (fun _ => 0))) := onew_eq ..
  have kp : gKp (s + 5) (fun i => s + 1 + i) lo (fun _ => False) σ2 (onew σ2 (.inl (.int, ln 0, .inl (fun _ => 0))) (ln 0)) := (oNl.new hfr).kp hfr ga.1.2.1 (fun x fs hx e => by
    by_cases z : x = σ2.2.1
    · rw [z, nla] at e; cases e
    · rw [onew_ne z, hfr x hx] at e; cases e)
  have new : ∀ {x : Nat} {cc : oC}, σ2.1 x = some cc → (onew σ2 (.inl (.int, ln 0, .inl (fun _ => 0))) (ln 0)).1 x = some cc := fun {x cc} e => by
    rw [onew_ne (fun z => by rw [z, hfr _ (Nat.le_refl _)] at e; cases e)]; exact e
  have n6 : ∀ a gs, σ2.1 a = some (.inr (6, gs)) → ∃ gs', σ4.1 a = some (.inr (6, gs')) ∧ ∀ i, i ≠ 6 → i ≠ 7 → gs'[i]? = gs[i]? := fun a gs h => by
    obtain ⟨gs', e1, -, e3⟩ := hf.2.2.1 a gs (new h)
    exact ⟨gs', e1, e3⟩
  have nL : ∀ w, w ∈ is.map Prod.fst ++ tW e → nm w = some (Ψ.1 (.inl w)) := fun w hw => by rw [hφ]; exact (n1 w hw).1
  obtain ⟨⟨-, hU⟩, fs, k, h1, h2, h3⟩ := hT u ntd
  have h3 := ((h3.sp (W := fun _ => False) kp (wyP.ag Ψ σ2) hfr).mo (E' := fun y b => b = (wyP Ψ σ2.2.1).1 y) (fun x a ⟨v, e1, e2⟩ => by rw [e1, e2]; exact (hφ v).symm))
  have tA : ∀ w, w ∈ is.map Prod.fst ++ tW e → ∃ gs, σ4.1 (Ψ.1 (.inl w)) = some (.inr (6, gs)) ∧ gs[3]? = some (.int (cKd (yK (pTN f pp ee is e α w)))) ∧ ∃ r, gs[0]? = some (.ref r) := fun w hw => by
    obtain ⟨m1, -, -, gs, c, m2, -, -, -, m3⟩ := n1 w hw
    obtain ⟨b, b1, b2, r, _, _, _, _, _, b3, -⟩ := hV w hw
    rw [m1] at b1
    injection b1 with b1
    subst b1
    obtain ⟨gs0, v1, -, v2, -⟩ := vm.2.1 _ _ b2 b3
    obtain ⟨gs', e1, e2⟩ := n6 _ _ m2
    rw [m2] at v1
    injection v1 with v1
    injection v1 with v1
    injection v1 with _ v1
    rw [hφ]
    exact ⟨gs', e1, (e2 3 (by decide) (by decide)).trans m3, r, (e2 0 (by decide) (by decide)).trans (by rw [v1, v2]; rfl)⟩
  obtain ⟨gS, S0, -, wf⟩ := gd
  have tO : ∀ m, (q u).1 = .inr m → m.2.2.1 = pTN f pp ee is e α u ∧ (∀ pth, pUn m.2.2.1 m.2.2.2.1.length pth → ∃ gs, σ4.1 (Ψ.1 (.inr (m.1, m.2.1 ++ pth))) = some (.inr (6, gs)) ∧ gs[3]? = some (.int (cKd (yK (Γ.2.2.2.2.1 (.inr (m.1, m.2.1 ++ pth)))))) ∧ gs[0]? = some .null) ∧ ∃ a b, kNj Ψ.1 m.2.2.1 m a b := fun m em => by
    have hy : m.2.2.1 = pTN f pp ee is e α u := by rw [← gS]; unfold gSy; rw [em]
    have e0 : q u = (.inr m, (q u).2) := by rw [← em]
    rw [e0] at uT h3
    obtain ⟨-, h4, G, -, ⟨-, -, h6⟩, -⟩ := h3
    refine ⟨hy, fun pth hp => ?_, h6⟩
    rw [(uTy.nm _ m t pth uT (by rw [← hy]; exact hp)).2, ← hy]
    exact kTo.nm (Ψ := wyP Ψ σ2.2.1) hf _ m pth h4 hp
  have inj : ∀ a b, nmA (fun v => v ∈ is.map Prod.fst ++ tW e) (q u) a → nmA (fun v => v ∈ is.map Prod.fst ++ tW e) (q u) b → Ψ.1 a = Ψ.1 b → a = b := by
    rintro a b (⟨w, w1, w2⟩ | ⟨m, pth, m1, m2, m3⟩) (⟨w', w1', w2'⟩ | ⟨m', pth', m1', m2', m3'⟩) he
    · rw [w2, w2'] at he ⊢
      rw [hφ, hφ] at he
      rw [n2 w w' w1 w1' he]
    · obtain ⟨gs, e1, -, r, e2⟩ := tA w w1
      obtain ⟨gs', e1', -, e2'⟩ := (tO m' m1').2.1 pth' m2'
      rw [w2, m3'] at he
      rw [he, e1'] at e1
      injection e1 with e1
      injection e1 with e1
      injection e1 with _ e1
      rw [← e1, e2'] at e2
      cases e2
    · obtain ⟨gs, e1, -, r, e2⟩ := tA w' w1'
      obtain ⟨gs', e1', -, e2'⟩ := (tO m m1).2.1 pth m2
      rw [w2', m3] at he
      rw [← he, e1'] at e1
      injection e1 with e1
      injection e1 with e1
      injection e1 with _ e1
      rw [← e1, e2'] at e2
      cases e2
    · rw [m1] at m1'
      injection m1' with m1'
      subst m1'
      rw [m3, m3'] at he ⊢
      obtain ⟨a', b', hk⟩ := (tO m m1).2.2
      rw [kNj.inj _ m pth pth' hk m2 m2' he]
  refine ⟨?_, nL, ?_, inj⟩
  · obtain ⟨gs, e1, e2⟩ := n6 _ _ h1
    rw [← gS]
    obtain ⟨w, G, r1, r2⟩ := tOr_of (Γ := Γ) (Ψ := wyP Ψ σ2.2.1) (Nm := nmA (fun v => v ∈ is.map Prod.fst ++ tW e) (q u)) hpa hf hD hs (by rw [gS]; exact hv) (fun m em p hp => by unfold wfT at wf; rw [em] at wf; exact (wf.2.1.2 p hp).1) h3 (fun x ex => by unfold wfT at wf; rw [ex] at wf; exact wf.1.2.1)
    exact ⟨gs, k, w, G, by rw [hφ]; exact e1, (e2 4 (by decide) (by decide)).trans h2, r1, r2⟩
  · rintro a (⟨w, w1, w2⟩ | ⟨m, pth, m1, m2, m3⟩)
    · obtain ⟨gs, e1, e2, e3⟩ := tA w w1
      rw [w2, g3]
      exact ⟨gs, e1, e2, fun kp h => (by cases h), fun _ _ => e3⟩
    · obtain ⟨gs, e1, e2, e3⟩ := (tO m m1).2.1 pth m2
      rw [m3]
      exact ⟨gs, e1, e2, fun _ _ => e3, fun w h => (by cases h)⟩
end TYC
