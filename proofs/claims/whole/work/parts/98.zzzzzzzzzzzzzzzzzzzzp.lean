/-! the class's gather(): sayInstances() -/
section SAW
variable {κ : oKv} {T n : Nat} {st : Nat} {l : Nat → Nat} {b0 : Nat} {nq : tQ → Int} {xs : List tQ} {Q Q' : Nat → Prop} {σ σ' : oSt} {ch pg : Nat} {cf : List Value} {na : gN → Nat} {S : List gN} {Ls : List Nat} {w ra sa cap : Nat} {kd : Int32} {F : List kFc} {y : tY}
/-- a FACT as cells have it -/
def kFq (na : gN → Nat) (c : gFc) : kFc := (c.1, kTm na c.2)
/-- the QUAL is one of this type -/
theorem bCd_iff {g : Nat} (hg : g ≤ 2) (hy : yK y = 2 ∨ yK y = 4 ∨ yK y = 5) : bCd g = cKd (yK y) ↔ (g = 0 ∧ yK y = 2) ∨ (g = 1 ∧ yK y = 4) ∨ (g = 2 ∧ yK y = 5) := by
  rcases (by omega : g = 0 ∨ g = 1 ∨ g = 2) with rfl | rfl | rfl <;> rcases hy with e | e | e <;> rw [e] <;> decide
theorem gIn_c (x : tQ) (xs : List tQ) : gIn nq (x :: xs) y S = (if (x.1 = 0 ∧ yK y = 2) ∨ (x.1 = 1 ∧ yK y = 4) ∨ (x.1 = 2 ∧ yK y = 5) then (if x.2.2.2.1 = true then S.map (fun s => (x.2.1, (some (s, if x.2.2.1 = true then -1 else 1), nq x))) else [(x.2.1, (none, nq x))]) else []) ++ gIn nq xs y S := rfl
/-- the loop over QUALS -/
theorem c_sa71 (hT : 2010 ≤ T) (hkd : kd = cKd (yK y)) (hy : yK y = 2 ∨ yK y = 4 ∨ yK y = 5) (hnq : ∀ x, x ∈ xs → -1125899906842624 ≤ nq x ∧ nq x ≤ 1125899906842624) (c0 : cf[0]? = some (.ref pg)) (c7 : cf[7]? = some (.ref st)) (c8 : cf[8]? = some (.int (nI S.length))) (hS : S.length ≤ 72) : ∀ (x2 : List tQ) (q t : Nat) (σ : oSt) (F : List kFc), q + x2.length = xs.length → (∀ j, xs[q + j]? = x2[j]?) → x2.length < t → F.length + (gIn nq x2 y S).length ≤ cap → saS st l b0 nq xs Q pg ch cf na S Ls w ra sa cap kd σ F → ∃ σ', ol_X0_sayInstances_71 T (oF κ T (n + 5)) κ t (some ch) (some w) (nI q) σ = some (none, σ') ∧ saS st l b0 nq xs Q pg ch cf na S Ls w ra sa cap kd σ' (F ++ (gIn nq x2 y S).map (kFq na)) ∧ gKx st l b0 w ra sa σ σ' ∧ gPo xs.length Ls σ σ' (3 * x2.length) (8 * x2.length)
  | [], q, t, σ, F, hq, hj, ht, hF, h => by
    obtain ⟨t, rfl⟩ : ∃ t', t = t' + 1 := ⟨t - 1, by omega⟩
    have hq : q = xs.length := hq
    obtain ⟨h1, h2, h3, h4, h5, h6, h7⟩ := id h
    obtain ⟨pf, r4, r5, r6, r7, f4, f5, f6, f7, p0, ⟨p4, p5, p6, p7, p8⟩, ⟨m4, m5, m6, m7⟩, -, xl, pq⟩ := h4
    rw [ol_X0_sayInstances_71, ofd_at h5.1, c0, ovr_rf, obn_at, ofd_at p0, p8, ovi_i, obn_at, if_pos (by rw [hq]; exact Int32.le_refl _)]
    refine ⟨σ, rfl, ?_, gKx.rf, by unfold gPo; exact ⟨by omega, by omega⟩⟩
    show saS st l b0 nq xs Q pg ch cf na S Ls w ra sa cap kd σ (F ++ [])
    rw [List.append_nil]
    exact h
  | x :: x2, q, t, σ, F, hq, hj, ht, hF, h => by
    obtain ⟨t, rfl⟩ : ∃ t', t = t' + 1 := ⟨t - 1, by omega⟩
    have hq : q + (x2.length + 1) = xs.length := hq
    have ht : x2.length + 1 < t + 1 := ht
    have ex : xs[q]? = some x := by have := hj 0; rw [Nat.add_zero] at this; exact this
    have hj' : ∀ j, xs[q + 1 + j]? = x2[j]? := fun j => by have := hj (j + 1); rw [show q + 1 + j = q + (j + 1) by omega]; exact this
    obtain ⟨h1, h2, h3, h4, h5, h6, h7⟩ := id h
    obtain ⟨pf, r4, r5, r6, r7, f4, f5, f6, f7, p0, ⟨p4, p5, p6, p7, p8⟩, ⟨m4, m5, m6, m7⟩, -, xl, pq⟩ := h4
    obtain ⟨e4, e5, e5', e6, e7, e8⟩ := pq q x ex
    have q6 : q < 6 := by omega
    have zq : zin (nI q) 6 = true := zin_n q6 (by decide)
    have cq : (nI q).toNatClampNeg = q := nI_clamp (by omega)
    have r4' : oai σ (some r4) .int (nI q) = some (bCd x.1) := by simp only [oai, m4, zq, and_self, if_true, cq, e4]
    have r5' : oai σ (some r5) .int (nI q) = some (jRc x.2.1) := by simp only [oai, m5, zq, and_self, if_true, cq, e5]
    have r6' : oai σ (some r6) .int (nI q) = some (zSr x.2.2) := by simp only [oai, m6, zq, and_self, if_true, cq, e6]
    have r7' : oai σ (some r7) .int (nI q) = some (f7 q) := by simp only [oai, m7, zq, and_self, if_true, cq]
    obtain ⟨fs, hr, gs, w1, w15, ⟨w0, -⟩, -⟩ := id h1
    rw [hkd] at w0
    have hb := hnq x (List.mem_of_getElem? ex)
    rw [gIn_c] at hF ⊢
    rw [ol_X0_sayInstances_71, ofd_at h5.1, c0, ovr_rf, obn_at, ofd_at p0, p8, ovi_i, obn_at, if_neg (nI_ge (by omega) (by omega)), obn_at, ofd_at p0, p4, ovr_rf, obn_at, r4', obn_at, ofd_at w1, w0, ovi_i, obn_at]
    have next : ∀ (σ1 : oSt) (F1 : List kFc), saS st l b0 nq xs Q pg ch cf na S Ls w ra sa cap kd σ1 F1 → F1.length + (gIn nq x2 y S).length ≤ cap → ∃ σ', ol_X0_sayInstances_71 T (oF κ T (n + 5)) κ t (some ch) (some w) (nI (q + 1)) σ1 = some (none, σ') ∧ saS st l b0 nq xs Q pg ch cf na S Ls w ra sa cap kd σ' (F1 ++ (gIn nq x2 y S).map (kFq na)) ∧ gKx st l b0 w ra sa σ1 σ' ∧ gPo xs.length Ls σ1 σ' (3 * x2.length) (8 * x2.length) := fun σ1 F1 g1 g2 => c_sa71 hT hkd hy hnq c0 c7 c8 hS x2 (q + 1) t σ1 F1 (by omega) hj' (by omega) g2 g1
    by_cases cb : bCd x.1 = cKd (yK y)
    · have cc := (bCd_iff e8 hy).mp cb
      rw [if_pos cc] at hF ⊢
      rw [if_pos cb, obn_at, ofd_at p0, p6, ovr_rf, obn_at, r6', obn_at]
      cases hs : x.2.2.2.1 with
      | false =>
        have z0 : zSr x.2.2 = 0 := by unfold zSr; rw [hs]; rfl
        rw [hs] at hF
        have hF : F.length + (1 + (gIn nq x2 y S).length) ≤ cap := by rw [List.length_append] at hF; exact hF
        rw [if_pos z0, obn_at, ofd_at p0, p5, ovr_rf, obn_at, r5', obn_at, obn_at, ofd_at p0, p7, ovr_rf, obn_at, r7', obn_at]
        obtain ⟨σ2, R2, S2, O2⟩ := c_sof (κ := κ) (T := T) (n := n + 1) (o := none) (v := 0) (p := (f7 q).toInt64) hT (fun y e => by cases e) (Or.inl rfl) h2.1
        rw [if_pos rfl] at S2
        have N2 : ∀ z f, σ.2.1 ≤ z → σ2.1 z = some (.inr (6, f)) → False := fun z f hz e => by
          obtain ⟨g, h', q1, q2, q3, -⟩ := S2
          rcases (by omega : z = σ.2.1 ∨ z = σ.2.1 + 1 ∨ z = σ.2.1 + 2 ∨ σ.2.1 + 3 ≤ z) with u | u | u | u
          · rw [u, q1] at e; cases e
          · rw [u, q2] at e; cases e
          · rw [u, q3] at e; cases e
          · rw [O2.2.1 z (by rw [O2.nx]; exact u)] at e; cases e
        have N6 : oN6 σ σ2 := fun z f hz e => (N2 z f hz e).elim
        obtain ⟨iv2, qn2⟩ := h2.go O2 N6
        obtain ⟨nt2, tu2⟩ := h3.nw h2 O2 N6 (fun z f hz e => (N2 z f hz e).elim)
        have kp2 := fun W => h2.kp (W := W) O2 N6
        have kx : gKx st l b0 w ra sa σ σ2 := gKx.of kp2 (O2.tx h2.1)
        have G2 := h.go kx (h1.sp (kp2 (fun _ => False)) h2.1) iv2 nt2
        have lt : ∀ {x cc}, σ.1 x = some cc → x < σ.2.1 := fun h => Nat.lt_of_not_le (fun e => by rw [h2.1 _ e] at h; cases h)
        have tp : tmP xs.length σ2 Ls = tmP xs.length σ Ls := tmP_cg (fun a ha => by
          obtain ⟨b1, f, b2⟩ := h7.2 a ha
          exact tu2 a b1 (lt b2))
        have P2 : gPo xs.length Ls σ σ2 3 8 := by
          unfold gPo
          rw [tp, O2.2.2]
          exact ⟨by dsimp only; omega, by dsimp only; omega⟩
        have cT : cTq st l b0 Q σ2 σ.2.1 (none, nq x) := ⟨_, _, _, _, _, S2, by rw [Int32.toInt_toInt64]; exact e7, ⟨hb, by have := h2.2.2.1.1; omega, by have := h2.2.2.1.1; omega, fun z => by have := h2.2.2.2.1 _ z; omega⟩, Or.inl ⟨rfl, rfl⟩, qn2 _ (by omega), qn2 _ (by omega)⟩
        have R2 : oF κ T (n + 5) 11 [va_rf none, .int 0, .long (f7 q).toInt64] σ = some (some (va_rf (some σ.2.1)), σ2) := R2
        rw [R2, orn_at]
        obtain ⟨fs2, hr2, gs2, w2, -⟩ := id G2.1
        rw [oob_at w2, obn_at]
        obtain ⟨σ3, R3, G3, K3, P3⟩ := G2.say (κ := κ) (T := T) (n := n + 4) (x := (x.2.1, (none, nq x))) (by omega) e5' cT
        rw [R3, ocv_at]
        unfold oj_X0_sayInstances_200
        rw [nI_p1]
        obtain ⟨σ4, R4, G4, K4, P4⟩ := next σ3 _ G3 (by rw [List.length_append]; show F.length + 1 + _ ≤ cap; omega)
        refine ⟨σ4, R4, ?_, (kx.tr K3).tr K4, ?_⟩
        · rw [if_neg (by decide), List.map_append, ← List.append_assoc]
          exact G4
        · have := (P2.tr P3).tr P4
          obtain ⟨u1, u2⟩ := this
          exact ⟨by rw [List.length_cons]; omega, by rw [List.length_cons]; omega⟩
      | true =>
        have z0 : ¬ zSr x.2.2 = 0 := by unfold zSr; rw [hs, if_pos rfl]; cases x.2.2.1 <;> decide
        rw [hs, if_pos rfl] at hF
        rw [List.length_append, List.length_map] at hF
        rw [if_neg z0]
        unfold oj_X0_sayInstances_141
        rw [ofd_at h5.1, c0, ovr_rf, obn_at, ofd_at p0, p4, ovr_rf, obn_at, r4', obn_at, ofd_at w1, w0, ovi_i, obn_at, if_pos cb]
        obtain ⟨σ3, R3, G3, K3, P3⟩ := c_sa160 (κ := κ) (T := T) (n := n) (k71 := ol_X0_sayInstances_71 T (oF κ T (n + 5)) κ t) hT ex hs e5' hb c0 c7 c8 hS S 0 T σ F (Nat.zero_add _) (fun j => by rw [Nat.zero_add]) (by omega) (by omega) h
        have R3 : ol_X0_sayInstances_160 T (oF κ T (n + 5)) κ (ol_X0_sayInstances_71 T (oF κ T (n + 5)) κ t) T (some ch) (some w) (nI q) 0 σ = _ := R3
        rw [R3]
        obtain ⟨σ4, R4, G4, K4, P4⟩ := next σ3 _ G3 (by rw [List.length_append, List.length_map]; omega)
        refine ⟨σ4, R4, ?_, K3.tr K4, ?_⟩
        · rw [if_pos rfl, List.map_append, List.map_map, ← List.append_assoc]
          exact G4
        · have := P3.tr P4
          obtain ⟨u1, u2⟩ := this
          exact ⟨by rw [List.length_cons]; omega, by rw [List.length_cons]; omega⟩
    · rw [if_neg (fun z => cb ((bCd_iff e8 hy).mpr z))] at hF ⊢
      rw [List.nil_append] at hF ⊢
      rw [if_neg cb]
      unfold oj_X0_sayInstances_141
      rw [ofd_at h5.1, c0, ovr_rf, obn_at, ofd_at p0, p4, ovr_rf, obn_at, r4', obn_at, ofd_at w1, w0, ovi_i, obn_at, if_neg cb]
      unfold oj_X0_sayInstances_200
      rw [nI_p1]
      obtain ⟨σ4, R4, G4, K4, P4⟩ := next σ F h hF
      exact ⟨σ4, R4, G4, K4, by
        obtain ⟨u1, u2⟩ := P4
        exact ⟨by rw [List.length_cons]; omega, by rw [List.length_cons]; omega⟩⟩
/-- how many INSTANCES: the first loop -/
theorem c_sa4 {fs : List Value} (hkd : kd = cKd (yK y)) (hy : yK y = 2 ∨ yK y = 4 ∨ yK y = 5) (qr : qRw st l b0 nq xs Q pg σ) (hc : σ.1 ch = some (.inr (2, cf))) (c0 : cf[0]? = some (.ref pg)) (c8 : cf[8]? = some (.int (nI S.length))) (hS : S.length ≤ 72) (hw : σ.1 w = some (.inr (4, fs))) (w0 : fs[0]? = some (.int kd)) {call : oCl} : ∀ (x2 : List tQ) (q m t : Nat), q + x2.length = xs.length → (∀ j, xs[q + j]? = x2[j]?) → x2.length < t → m + 72 * x2.length ≤ 432 → ol_X0_sayInstances_4 T call κ t (some ch) (some w) (nI m) (nI q) σ = (obn (oob σ (some w) 4) fun a6 => ocv (call 15 [va_rf (some w), .int (nI (m + (gIn nq x2 y S).length))] σ) fun s8 => ol_X0_sayInstances_71 T call κ T (some ch) (some w) 0 s8)
  | [], q, m, t, hq, hj, ht, hm => by
    obtain ⟨t, rfl⟩ : ∃ t', t = t' + 1 := ⟨t - 1, by omega⟩
    have hq : q = xs.length := hq
    obtain ⟨pf, r4, r5, r6, r7, f4, f5, f6, f7, p0, ⟨p4, p5, p6, p7, p8⟩, ⟨m4, m5, m6, m7⟩, -, xl, pq⟩ := qr
    rw [ol_X0_sayInstances_4, ofd_at hc, c0, ovr_rf, obn_at, ofd_at p0, p8, ovi_i, obn_at, if_pos (by rw [hq]; exact Int32.le_refl _)]
    rfl
  | x :: x2, q, m, t, hq, hj, ht, hm => by
    obtain ⟨t, rfl⟩ : ∃ t', t = t' + 1 := ⟨t - 1, by omega⟩
    have hq : q + (x2.length + 1) = xs.length := hq
    have ht : x2.length + 1 < t + 1 := ht
    have hm : m + 72 * (x2.length + 1) ≤ 432 := hm
    have ex : xs[q]? = some x := by have := hj 0; rw [Nat.add_zero] at this; exact this
    have hj' : ∀ j, xs[q + 1 + j]? = x2[j]? := fun j => by have := hj (j + 1); rw [show q + 1 + j = q + (j + 1) by omega]; exact this
    obtain ⟨pf, r4, r5, r6, r7, f4, f5, f6, f7, p0, ⟨p4, p5, p6, p7, p8⟩, ⟨m4, m5, m6, m7⟩, -, xl, pq⟩ := id qr
    obtain ⟨e4, e5, e5', e6, e7, e8⟩ := pq q x ex
    have q6 : q < 6 := by omega
    have zq : zin (nI q) 6 = true := zin_n q6 (by decide)
    have cq : (nI q).toNatClampNeg = q := nI_clamp (by omega)
    have r4' : oai σ (some r4) .int (nI q) = some (bCd x.1) := by simp only [oai, m4, zq, and_self, if_true, cq, e4]
    have r6' : oai σ (some r6) .int (nI q) = some (zSr x.2.2) := by simp only [oai, m6, zq, and_self, if_true, cq, e6]
    have rec' : ∀ k, k ≤ 72 → oj_X0_sayInstances_56 T call κ (ol_X0_sayInstances_4 T call κ t) (some ch) (some w) (nI q) (nI m) (nI k) σ = (obn (oob σ (some w) 4) fun a6 => ocv (call 15 [va_rf (some w), .int (nI (m + k + (gIn nq x2 y S).length))] σ) fun s8 => ol_X0_sayInstances_71 T call κ T (some ch) (some w) 0 s8) := fun k hk => by
      unfold oj_X0_sayInstances_56
      rw [nI_add, nI_p1]
      exact c_sa4 hkd hy qr hc c0 c8 hS hw w0 x2 (q + 1) (m + k) t (by omega) hj' (by omega) (by omega)
    rw [ol_X0_sayInstances_4, ofd_at hc, c0, ovr_rf, obn_at, ofd_at p0, p8, ovi_i, obn_at, if_neg (nI_ge (by omega) (by omega)), obn_at, ofd_at p0, p4, ovr_rf, obn_at, r4', obn_at, ofd_at hw, w0, ovi_i, obn_at, hkd, gIn_c]
    by_cases cb : bCd x.1 = cKd (yK y)
    · have cc := (bCd_iff e8 hy).mp cb
      rw [if_pos cb, if_pos cc, obn_at, ofd_at p0, p6, ovr_rf, obn_at, r6', obn_at]
      cases hs : x.2.2.2.1 with
      | false =>
        have z0 : zSr x.2.2 = 0 := by unfold zSr; rw [hs]; rfl
        rw [if_pos z0, if_neg (by decide)]
        have := rec' 1 (by omega)
        rw [List.length_append, ← Nat.add_assoc]
        exact this
      | true =>
        have z0 : ¬ zSr x.2.2 = 0 := by unfold zSr; rw [hs, if_pos rfl]; cases x.2.2.1 <;> decide
        rw [if_neg z0, if_pos rfl, ofd_at hc, c8, ovi_i, obn_at, List.length_append, List.length_map, ← Nat.add_assoc]
        exact rec' S.length hS
    · rw [if_neg cb, if_neg (fun z => cb ((bCd_iff e8 hy).mpr z)), List.nil_append]
      exact rec' 0 (by omega)
end SAW
