/-! the reference's richOf(): let rec -/
section URO
variable {ks : Nat → Nat} {qs : List Nat} {T h0 len cnt lo N S P A : Nat} {L env : List Nat} {V τ : zSt} {kk pp ee f : Nat → Int32} {g : gG} {ρ tE tN : Nat → tY} {Γ : uGm} {CD : tT → Nat → Prop} {d : Nat × Nat × Nat × tS × tS} {z : Unit} {a b : tT}
theorem yRs_fn : ∀ (q w : Nat) (r : tY), yRs q (gFn tN q w r) = r
  | 0, _, _ => rfl
  | q + 1, w, r => yRs_fn q (w + 1) r
theorem uGe.atq {v v' v'' : Nat → Nat} {c q : Nat} (h : uGe v v' (cAt c 1)) (g : uGe v' v'' (cAt c q)) : uGe v v'' (cAt c (q + 1)) := fun k => by
  have h1 := h k
  have h2 := g k
  unfold cAt at h1 h2 ⊢
  split <;> simp_all <;> omega
set_option maxHeartbeats 1000000 in
/-- the parameters are told -/
theorem ur_pa {m v0 n : Nat} {x3 x4 x7 : Int32} {q : Nat} {r : tY} (H : uH T len cnt lo N S P A L V kk pp ee f g ρ tN Γ CD) (hm : m < 2100) (t10 : V.2.2.1 10 m = nI v0) (hv0 : v0 + q ≤ 2010) : ∀ (q' i : Nat) (env : List Nat) (sc : List gEn) (s : gSt) (B : gTy) (t9 fu : Nat) (v : Nat → Nat) (τ : zSt) (e : Int32), i + q' = q → uTy Γ v τ (gFn tN q' (v0 + i) r) t9 B → uAl CD pp V S P Γ tN env v τ s → uSc env.length CD Γ v τ sc e x3 → uIq Γ τ sc → (∀ u, u ∈ env → u ∈ L) → (∀ j, j < q' → rTo (V.2.2.1 32) L (v0 + i + j)) → v 109 + q' ≤ 12000 → q' < fu → ∃ τ' v' e' t9', l_richOf_290 T (zF h0 qs ks T (n + 1)) h0 qs ks fu (nI m) x3 x4 (nI q) x7 e (nI t9) (nI i) τ = l_richOf_290 T (zF h0 qs ks T (n + 1)) h0 qs ks (fu - q') (nI m) x3 x4 (nI q) x7 e' (nI t9') (nI q) τ' ∧ uAl CD pp V S P Γ tN (env ++ List.range' (v0 + i) q') v' τ' (gPa q' (v0 + i) B sc s).2.2 ∧ uSc (env ++ List.range' (v0 + i) q').length CD Γ v' τ' (gPa q' (v0 + i) B sc s).1 e' x3 ∧ uIq Γ τ' (gPa q' (v0 + i) B sc s).1 ∧ uGe v v' (cAt 109 q') ∧ (v' 98 = v 98 ∧ v' 100 = v 100) ∧ uFr v τ τ' ∧ uIk Γ τ τ' ∧ uTy Γ v' τ' r t9' (gPa q' (v0 + i) B sc s).2.1 ∧ (gSs (gPa q' (v0 + i) B sc s).1).length = (gSs sc).length + yPm tN q' (v0 + i)
  | 0, i, env, sc, s, B, t9, fu, v, τ, e, hq, ty, al, hs, hq2, hE, hw, hl, hf => by
    obtain rfl : i = q := by omega
    refine ⟨τ, v, e, t9, rfl, ?_, ?_, hq2, (uGe.rf v).mo (fun k => Nat.zero_le _), ⟨rfl, rfl⟩, uFr.rf _ _, ⟨rfl, fun _ _ h => h⟩, ty, rfl⟩
    · rw [show List.range' (v0 + i) 0 = [] from rfl, List.append_nil]; exact al
    · rw [show List.range' (v0 + i) 0 = [] from rfl, List.append_nil]; exact hs
  | q' + 1, i, env, sc, s, B, t9, fu, v, τ, e, hq, ty, al, hs, hq2, hE, hw, hl, hf => by
    obtain ⟨fu, rfl⟩ : ∃ f', fu = f' + 1 := ⟨fu - 1, by omega⟩
    have ty : uTy Γ v τ (.inner 0 () () (tN (v0 + i)) (gFn tN q' (v0 + i + 1) r)) t9 B := ty
    obtain ⟨k1, -, tl, tr, k2, k3, k4, k5⟩ := ty.fn
    have hw0 : rTo (V.2.2.1 32) L (v0 + i) := hw 0 (by omega)
    obtain ⟨u1, u2, u3⟩ := H.to hw0
    obtain ⟨τ1, c1, al1, hs1, hq1, fr1, ik1⟩ := r_tel (h0 := h0) (qs := qs) (ks := ks) (T := T) (n := n) H.2.1 hE u1 al k4 hs hq2 (by omega)
    have g1 := uGe.at1 v 109
    have k5' := uTy.up g1.le fr1 _ _ _ k5
    have t9l : t9 < 40000 := by have h := (al.1 75 (by decide)).2; have e : uLm 75 = 40000 := rfl; omega
    obtain ⟨τ', v', e', t9', d1, d2, d3, d4, d5, d6, d7, d8, d9, d10⟩ := ur_pa H hm t10 hv0 q' (i + 1) (env ++ [v0 + i]) (gNm (.inl (v0 + i)) (gTk B) sc) (gTn (v0 + i) (gTk B) s) (gAn B) tr fu (uUp v 109) τ1 (nI (v 109)) (by omega) k5' al1 (by rw [List.length_append]; exact hs1) hq1 (fun u hu => by
      rcases List.mem_append.mp hu with h | h
      · exact hE u h
      · rw [List.mem_singleton.mp h]; exact u1) (fun j hj => by rw [show v0 + (i + 1) + j = v0 + i + (j + 1) by omega]; exact hw (j + 1) (by omega)) (by rw [uUp_at]; omega) (by omega)
    have eE : env ++ [v0 + i] ++ List.range' (v0 + (i + 1)) q' = env ++ List.range' (v0 + i) (q' + 1) := by
      rw [List.append_assoc, List.range'_succ]
      rfl
    rw [eE] at d2 d3
    have q10 := (al.2.1.r (k := 10) (by decide) m).trans t10
    have q32 := (al.2.1.r (k := 32) (by decide) (v0 + i)).trans u2
    have q46 : τ1.2.2.1 46 t9 = nI tr := by rw [fr1.r (k := 46) (c := 75) rfl (by unfold uAy; omega) k1]; exact k3
    refine ⟨τ', v', e', t9', ?_, d2, d3, d4, g1.atq d5, ⟨by rw [d6.1, uUp_ne v (by decide)], by rw [d6.2, uUp_ne v (by decide)]⟩, fr1.tr d7 g1.le, ik1.tr d8, d9, ?_⟩
    · rw [show fu + 1 - (q' + 1) = fu - q' by omega, ← d1]
      conv => lhs; unfold l_richOf_290
      rw [if_neg (nI_ge (a := i) (b := q) (by omega) (by omega)), zgd_at (zin_n hm (by decide)), nI_clamp (show m < 2 ^ 31 by omega), q10, nI_add, zgd_at (zin_n (show v0 + i < 2010 by omega) (by decide)), zgd_at (zin_n t9l (by decide)), nI_clamp (show v0 + i < 2 ^ 31 by omega), q32, zgd_at (zin_n u3 (by decide)), zlet_at, zgd_at (zin_n u3 (by decide)), nI_clamp (show Γ.1 (.inl (v0 + i)) < 2 ^ 31 by omega), nI_clamp (show t9 < 2 ^ 31 by omega), k2, zA_74, upd_at']
      have c1' : zF h0 qs ks T (n + 1) 73 [.ref h0, .int e, .int (nI (Γ.1 (.inl (v0 + i)))), .int (nI tl)] (zA τ 74 (upd (τ.2.2.1 74) (Γ.1 (.inl (v0 + i))) (nI tl))) = some (some (.int (nI (v 109))), τ1) := c1
      rw [c1', zci_at, zgd_at (zin_n t9l (by decide)), q46, nI_p1]
    · show (gSs (gPa q' (v0 + (i + 1)) (gAn B) (gNm (.inl (v0 + i)) (gTk B) sc) (gTn (v0 + i) (gTk B) s)).1).length = (gSs sc).length + (yM1 (tN (v0 + i)) + yPm tN q' (v0 + i + 1))
      rw [d10, gSs_nm, k4.ms.2.2]
      show _ = _
      rw [show v0 + (i + 1) = v0 + i + 1 from rfl]
      omega
end URO
