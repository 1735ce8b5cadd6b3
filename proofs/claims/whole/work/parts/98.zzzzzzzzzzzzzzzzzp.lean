/-! what must FIT speaks of what is in scope -/
/-- measured NAMES in scope -/
def nmS (sc : List gEn) : List gN := (scN sc).map Prod.fst
/-- a fit that speaks of what is in scope, made under sc0 -/
def fitW (Γ : uGm) (C B : Int) (rt : Nat → gTm) (tN : Nat → tY) (M : Nat) (sc0 : List gEn) (x : gFit) : Prop := (wfT Γ C B rt (nmS x.1) x.2.1 ∧ wfT Γ C B rt (nmS x.1) x.2.2) ∧ scW Γ C B rt tN (scN x.1) ∧ ((scN x.1).length ≤ M ∧ gSy x.2.1 = gSy x.2.2) ∧ scC x.1 = scC sc0 ∧ (∀ s, s ∈ nmS sc0 → s ∈ nmS x.1) ∧ ∀ u, Sum.inl u ∈ nmS x.1 → Sum.inl u ∈ nmS sc0
section GFW
variable {Γ : uGm} {C B : Int} {rt : Nat → gTm} {tN : Nat → tY} {M : Nat}
theorem nmS_nm (x : gN) (A : gTy) (sc : List gEn) : nmS (gNm x A sc) = if gMs (gSy A) = true then x :: nmS sc else nmS sc := by
  unfold nmS
  rw [scN_nm]
  split <;> rfl
theorem fitW.one {A D : gTy} {sc : List gEn} (hA : wfT Γ C B rt (nmS sc) A) (hD : wfT Γ C B rt (nmS sc) D) (hw : scW Γ C B rt tN (scN sc)) (hl : (scN sc).length ≤ M) (hAD : gSy A = gSy D) : fitW Γ C B rt tN M sc (sc, A, D) := ⟨⟨hA, hD⟩, hw, ⟨hl, hAD⟩, rfl, fun _ h => h, fun _ h => h⟩
theorem gFi_w (hQ : rtQ Γ rt) (hC : 0 ≤ C) : ∀ (y : tY) (A D : gTy) (sc : List gEn), gSy A = y → gSy D = y → wfT Γ C B rt (nmS sc) A → wfT Γ C B rt (nmS sc) D → (∀ m, D.1 = .inr m → m.2.2.2.1 = []) → scW Γ C B rt tN (scN sc) → (∀ k p, Sum.inr (k, p) ∈ nmS sc → ySz y < ySz (mGo (rt k) p).2.2.1) → (scN sc).length + ySx y ≤ M → ∀ x, x ∈ gFi y A D sc → fitW Γ C B rt tN M sc x
  | .leaf, A, D, sc, eA, eD, hA, hD, _, hw, _, hM, x, hx => by
    rw [List.mem_singleton.mp (show x ∈ [(sc, A, D)] from hx)]
    exact fitW.one hA hD hw (by omega) (eA.trans eD.symm)
  | .inner k () () l r, A, D, sc, eA, eD, hA, hD, hn, hw, hz, hM, x, hx => by
    unfold gFi at hx
    by_cases z : k = 0
    · subst z
      rw [if_pos rfl] at hx
      have kA : yK (gSy A) = 1 := by rw [eA]; rfl
      have kD : yK (gSy D) = 1 := by rw [eD]; rfl
      obtain ⟨mA, fA, -⟩ := hA.fn kA
      obtain ⟨mD, fD, -⟩ := hD.fn kD
      have sA : gSy (gTk A) = l ∧ gSy (gAn A) = r := by have := gSy_tk fA; rw [eA] at this; exact this
      have sD : gSy (gTk D) = l ∧ gSy (gAn D) = r := by have := gSy_tk fD; rw [eD] at this; exact this
      have lA : yL (gSy A) = l := by rw [eA]; rfl
      have lD : yL (gSy D) = l := by rw [eD]; rfl
      have hM : (scN sc).length + max (ySx l) (ySx r + if gMs l = true then 1 else 0) ≤ M := hM
      have sz : ySz (.inner 0 () () l r) = ySz l + ySz r + 1 := rfl
      rw [sz] at hz
      rcases List.mem_append.mp hx with hx | hx
      · refine gFi_w hQ hC l (gTk D) (gTk A) sc sD.1 sA.1 (hD.tk kD) (hA.tk kA) (fun m e => ?_) hw (fun k p h => by have := hz k p h; omega) (by omega) x hx
        unfold gTk at e
        rw [fA] at e
        injection e with e
        rw [← e]
        rfl
      · have nD : mD.2.2.2.1 = [] := hn mD fD
        have pD : gPn D = .inr (mD.1, mD.2.1) := by
          unfold gPn
          rw [fD]
          show mPn mD = _
          unfold mPn
          rw [nD]
        have gD : mD = mGo (rt mD.1) mD.2.1 ∧ mD.2.2.1 = .inner 0 () () l r := by
          unfold wfT at hD
          rw [fD] at hD
          unfold gSy at eD
          rw [fD] at eD
          exact ⟨hD.1.1, eD⟩
        have u1 : uNm Γ (gPn D) := by
          have := hQ mD.1 mD.2.1 (by rw [← gD.1, gD.2]; rfl)
          rw [← gD.1] at this
          unfold gPn
          rw [fD]
          exact this
        have new : gPn D ∉ nmS sc := fun h => by
          rw [pD] at h
          have := hz _ _ h
          rw [← gD.1, gD.2, sz] at this
          omega
        have en : nmS (gNm (gPn D) (gTk D) sc) = if gMs l = true then gPn D :: nmS sc else nmS sc := by rw [nmS_nm, sD.1]
        have eS : scN (gNm (gPn D) (gTk D) sc) = if gMs l = true then (gPn D, gTk D) :: scN sc else scN sc := by rw [scN_nm, sD.1]
        have sub : ∀ s, s ∈ nmS sc → s ∈ nmS (gNm (gPn D) (gTk D) sc) := fun s hs => by
          rw [en]
          split
          · exact List.mem_cons_of_mem _ hs
          · exact hs
        have own : gMs l = true → gPn D ∈ nmS (gNm (gPn D) (gTk D) sc) := fun h => by rw [en, if_pos h]; exact List.mem_cons_self ..
        have hw' : scW Γ C B rt tN (scN (gNm (gPn D) (gTk D) sc)) := by
          rw [eS]
          split
          · rename_i gl
            exact ⟨new, u1, ⟨hD.tk kD, by rw [sD.1]; exact gl, by
              rw [sD.1, pD]
              show l = yL (mGo (rt mD.1) mD.2.1).2.2.1
              rw [← gD.1, gD.2]
              rfl, fun kp e => by
              rw [pD] at e
              injection e with e
              rw [← e]
              show yK (mGo (rt mD.1) mD.2.1).2.2.1 = 1
              rw [← gD.1, gD.2]
              rfl⟩, hw⟩
          · exact hw
        have res : fitW Γ C B rt tN M (gNm (gPn D) (gTk D) sc) x := by
          refine gFi_w hQ hC r _ (gAn D) (gNm (gPn D) (gTk D) sc) ?_ sD.2 ?_ (hD.an hQ kD sub (fun h => own (by rw [lD] at h; exact h))) (fun m e => ?_) hw' (fun k p h => ?_) ?_ x hx
          · split
            · exact sA.2
            · exact sA.2
          · by_cases c : gMs l = true ∧ gPn A ≠ gPn D
            · rw [if_pos c]
              exact hA.pu hQ kA sub (by rw [lA]; exact c.1) (fun w e q => by injection q with q; injection q with q1 q2; rw [← q1, ← q2]; exact ⟨u1, Or.inl rfl⟩) ⟨by show -C ≤ 0; omega, hC⟩ (fun w e q => by injection q with q; injection q with q1 q2; rw [← q1]; exact own c.1)
            · rw [if_neg c]
              refine hA.an hQ kA sub (fun h => ?_)
              rw [lA] at h
              have : gPn A = gPn D := Classical.byContradiction fun w => c ⟨h, w⟩
              rw [this]
              exact own h
          · unfold gAn at e
            rw [fD] at e
            injection e with e
            rw [← e]
            show mD.2.2.2.1.tail = []
            rw [nD]
            rfl
          · rw [en] at h
            have : Sum.inr (k, p) ∈ nmS sc ∨ Sum.inr (k, p) = gPn D := by
              split at h
              · exact (List.mem_cons.mp h).symm
              · exact Or.inl h
            rcases this with h | h
            · have := hz k p h; omega
            · rw [pD] at h
              injection h with h
              injection h with h1 h2
              rw [h1, h2, ← gD.1, gD.2, sz]
              omega
          · rw [eS]
            by_cases c : gMs l = true
            · rw [if_pos c] at hM ⊢
              show (scN sc).length + 1 + ySx r ≤ M
              omega
            · rw [if_neg c] at hM ⊢
              omega
        obtain ⟨r1, r2, r3, r4, r5, r6⟩ := res
        refine ⟨r1, r2, r3, r4.trans (scC_nm _ _ _), fun s hs => r5 s (sub s hs), fun u hu => ?_⟩
        have := r6 u hu
        rw [en] at this
        split at this
        · rcases List.mem_cons.mp this with w | w
          · rw [pD] at w; cases w
          · exact w
        · exact this
    · rw [if_neg z] at hx
      by_cases z2 : k = 2
      · rw [if_pos z2] at hx; cases hx
      · rw [if_neg z2] at hx
        rw [List.mem_singleton.mp hx]
        exact fitW.one hA hD hw (by omega) (eA.trans eD.symm)
end GFW
