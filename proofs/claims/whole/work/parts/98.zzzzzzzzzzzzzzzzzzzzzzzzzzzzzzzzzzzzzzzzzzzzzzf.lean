/-! ROOM: what must FIT in a PROGRAM is at TEMPLATES' places -/
section TXR
variable {T len cnt j N S P A x0 : Nat} {kk pp ee f fc : Nat → Int32} {xs : List tQ} {is : List (Nat × Nat)} {e : tT} {α : Nat → tY} {τ : zSt} {g' : gG} {ρ' : Nat → tY}
theorem tx_ri (hT : 12400 ≤ T) (hp : pgT T len cnt j kk pp ee f fc xs is e α) (hR : pgR T len cnt kk pp ee f xs is e α N S P A x0 g' ρ' τ) (A0 : gTy) : ∀ x, x ∈ (pWk T f pp ee is e α (fun _ => gNtd) A0).1.2.1 → ∃ m, x.2.2.1 = .inr m := by
  have hT2 : 2010 ≤ T := by omega
  obtain ⟨mx, -⟩ := tx_mx hT2 hp hR (fun _ => gNtd)
  obtain ⟨inv, u1, u2, -, -, -⟩ := tx_2 hT2 hp hR
  obtain ⟨-, hq⟩ := tx_3 hT2 hp hR mx u1
  obtain ⟨-, -, -, t10, t11, t12⟩ := tx_1 hT2 hp hR.2.1
  obtain ⟨i1, i2⟩ := pTN_in (f := f) (pp := pp) (ee := ee) (α := α) t11
  obtain ⟨n1, n2, n3⟩ := List.nodup_append.mp t11
  obtain ⟨-, -, -, -, -, ⟨⟨g1, g2, ⟨i0, g3⟩, -⟩, -⟩, -⟩ := hp
  have hi' : ∀ y, y ∈ is → pTN f pp ee is e α y.1 = yB y.2 ∧ uNm (pGm T f pp ee xs is e α (τ.2.2.1 32) inv) (.inl y.1) := fun y hy => ⟨i1 y hy, u1 _ (List.mem_append_left _ (List.mem_map.mpr ⟨y, hy, rfl⟩))⟩
  have E := gIs_w (Γ := pGm T f pp ee xs is e α (τ.2.2.1 32) inv) (C := 10010000) (B := 8008000000002) (rt := pRt f pp ee is e α) (tN := pTN f pp ee is e α) is [] [] ((fun _ => gNtd), [], []) ⟨rfl, trivial, fun u hu => (by cases hu)⟩ hi' (by rw [List.nil_append]; exact n1)
  rw [List.nil_append] at E
  obtain ⟨e1, e2, e3⟩ := E
  have e2 : scC (gIs is [] ((fun _ => gNtd), [], [])).1 = [] := e2
  have e3 : (gIs is [] ((fun _ => gNtd), [], [])).2.2 = ([], []) := e3
  have W := gWk_ri (M := 59) (CB := cbS T cnt kk pp ee f (τ.2.2.1 32) (is.map Prod.fst ++ tW e) 8008000000002 (pTN f pp ee is e α)) (NB := nbS T cnt kk pp ee f (τ.2.2.1 32) (is.map Prod.fst ++ tW e) 8008000000002 (pTN f pp ee is e α)) u2 (by decide) (by decide) e (is.map Prod.fst) (gIs is [] ((fun _ => gNtd), [], [])).1 A0 (gIs is [] ((fun _ => gNtd), [], [])).2 _ (by rw [e2]; exact hq) t12 e1 (aH.e g2.e) (aI.e g2.e)
  intro x hx
  rcases W x hx with z | z
  · rw [e3] at z; cases z
  · exact z
end TXR
/-- **slots: what FITS and TEMPLATES, against what the letters leave** (pXs without its first half) -/
def pXv (T : Nat) (q0 : pgQt) : Prop := match q0 with
  | (_, _, _, _, pp, ee, f, _, xs, is, e, α, _, _, _, _, _, _, _, _, _, _, _, _, _, _, _, _, _, _, _, _, _, _, _, _) => ∀ A0, nbL A0 → 8 * (89 * pnL e + 9 * (xs.length * (is.length + (tW e).length))) + wX T f pp ee (pTE f pp ee is e α) (pTN f pp ee is e α) xs (w125 xs) e (is.map Prod.fst) (gIs is [] ((fun _ => gNtd), [], [])).1 A0 (gIs is [] ((fun _ => gNtd), [], [])).2 ≤ 8 * (11028 + gnL e + 3793 * xs.length + 3513 * is.length)
section PXV
variable {κ : oKv} {T sz x : Nat} {q0 : pgQt} {σ : oSt} {τ : zSt}
theorem pXs_v (hT : 12400 ≤ T) (h : pgB κ T sz x q0 σ τ) (hs : pXv T q0) : pXs T q0 := by
  obtain ⟨len, cnt, j, kk, pp, ee, f, fc, xs, is, e, α, lo, p, B, V, D, at2, cd', am2, nm, e0, fb, fr, fz, fn, g, ρ, lv, N, S, Pq, A, x0, g', ρ'⟩ := q0
  obtain ⟨hp, hV, -, hS, hX, hRf, -⟩ := id h
  exact ⟨fun _ A0 _ => tx_ri hT hp hRf A0, hs⟩
end PXV
/-- **the claim, given the two counts** -/
theorem lPure_v (H : ∀ κ T sz x q0 σ τ, 1000000 ≤ T → pgB κ T sz x q0 σ τ → pXv T q0 ∧ pXc T q0) : lPure := lPure_x (fun κ T sz x q0 σ τ hT h => ⟨pXs_v (by omega) h (H κ T sz x q0 σ τ hT h).1, (H κ T sz x q0 σ τ hT h).2⟩)
