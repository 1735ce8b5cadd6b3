/-! type(): sayType(), the reference -/
theorem rW_a : (545, "->") ∈ zKm ∧ "->".toList.length < 1000 ∧ tTx (zch "->") "->".toList.length 0 = [45, 62] := by decide +kernel
/-- all that is printed of a type can be printed -/
def vTy (Γ : uGm) (Nm : gN → Prop) : tY → gTy → Prop
  | .leaf, _ => False
  | .inner k _ _ a b, A => if k = 0 then Nm (gPn A) ∧ vTy Γ Nm a (gTk A) ∧ vTy Γ Nm b (gAn A) else (∀ c, c ∈ gFa Γ.2.2.1 Γ.2.2.2.1 A → vOk Γ Nm A.2 c) ∧ (gFa Γ.2.2.1 Γ.2.2.2.1 A).length ≤ 900 ∧ (k = 2 → gFa Γ.2.2.1 Γ.2.2.2.1 A = [])
theorem gTk_2 (A : gTy) : (gTk A).2 = A.2 := by
  obtain ⟨A1, G⟩ := A
  cases A1 <;> rfl
theorem gAn_2 (A : gTy) : (gAn A).2 = A.2 := by
  obtain ⟨A1, G⟩ := A
  cases A1 <;> rfl
theorem tSy_mem {al : Nat × List Bool → Nat → Bool} {nq : tQ → Int} {xs : List tQ} {A : gTy} {c : gFc} (h : c ∈ tSy al nq xs A) : ∃ c', c' ∈ gFa nq xs A ∧ tGc A.2 c' = c := by
  obtain ⟨c', m1, m2⟩ := List.mem_map.mp h
  refine ⟨c', ?_, m2⟩
  obtain ⟨A1, G⟩ := A
  match A1, m1 with
  | .inl x, m1 => exact m1
  | .inr m, m1 => exact fQk_sub _ _ _ m1
theorem tSy_len (al : Nat × List Bool → Nat → Bool) (nq : tQ → Int) (xs : List tQ) (A : gTy) : (tSy al nq xs A).length ≤ (gFa nq xs A).length := by
  unfold tSy
  rw [List.length_map]
  obtain ⟨A1, G⟩ := A
  match A1 with
  | .inl x => exact Nat.le_refl _
  | .inr m => exact fQk_len _ _ _
theorem vTy.ok {Γ : uGm} {Nm : gN → Prop} {al : Nat × List Bool → Nat → Bool} : ∀ (y : tY) (A : gTy), vTy Γ Nm y A → tOk Nm (tSy al Γ.2.2.1 Γ.2.2.2.1) y A
  | .leaf, A, h => h.elim
  | .inner k _ _ a b, A, h => by
    unfold vTy at h
    unfold tOk
    by_cases c : k = 0
    · rw [if_pos c] at h ⊢
      exact ⟨h.1, vTy.ok a _ h.2.1, vTy.ok b _ h.2.2⟩
    · rw [if_neg c] at h ⊢
      refine ⟨Nat.le_trans (tSy_len _ _ _ _) h.2.1, fun c' hc a' e he => ?_⟩
      obtain ⟨c1, m1, m2⟩ := tSy_mem hc
      rw [← m2] at he
      exact ((h.1 c1 m1).2.2.2 a' e he).1
section TRW
variable {Γ : uGm} {v : Nat → Nat} {Nm : gN → Prop} {wd : Nat → List Int32} {bk : gN → Nat} {ks : Nat → Nat} {qs : List Nat} {T n h0 sz t : Nat} {κ : oKv} {V τ : zSt} {s : tPs}
theorem uTy_lt : ∀ {y : tY} {t : Nat} {A : gTy}, uTy Γ v V y t A → t < v 75
  | .leaf, _, _, h => h.elim
  | .inner _ _ _ _ _, _, _, h => h.1
theorem uTy_k4 : ∀ {y : tY} {t : Nat} {A : gTy}, uTy Γ v V y t A → (V.2.2.1 42 t = 4 ↔ yK y = 1)
  | .leaf, _, _, h => h.elim
  | .inner k _ _ a b, _, _, h => by
    obtain ⟨-, h42, hk⟩ := uTy.k h
    show _ ↔ k + 1 = 1
    rw [h42]
    by_cases c : k = 0
    · rw [if_pos c, c]
      exact ⟨fun _ => rfl, fun _ => rfl⟩
    · rw [if_neg c]
      constructor
      · intro z
        exfalso
        have : k = 1 ∨ k = 2 ∨ k = 3 ∨ k = 4 := by omega
        rcases this with rfl | rfl | rfl | rfl <;> exact absurd z (by decide)
      · intro z; omega
theorem v_y95 {P : zSt → Prop} {tr : Nat} (hf : lFacts κ ks sz) (hT : 1000 ≤ T) (ht : t < 40000) (h46 : V.2.2.1 46 t = nI tr) (h : rTv Γ.1 Nm V s τ) (hl : s.1.length < 800000000) (ih : ∀ τ1, rTv Γ.1 Nm V (s.1 ++ [45, 62], s.2) τ1 → ∃ τ', zF h0 qs ks T (n + 2) 117 [.ref h0, .int (nI tr)] τ1 = some (none, τ') ∧ P τ') : ∃ τ', j_sayType_95 T (zF h0 qs ks T (n + 2)) h0 qs ks (nI t) τ = some (none, τ') ∧ P τ' := by
  obtain ⟨τ1, r1, r2⟩ := s_wrd (h0 := h0) (qs := qs) (T := T) (n := n) hf rW_a.1 rW_a.2.1 hT h.1 (by omega)
  rw [rW_a.2.2] at r2
  have r3 := h.on r2
  obtain ⟨τ2, q1, q2⟩ := ih τ1 r3
  unfold j_sayType_95
  rw [r1, zcv_at, zgd_at (zin_n ht (by decide)), nI_clamp (show t < 2 ^ 31 by omega), r3.2.2.2.1 46 (by decide) (by decide), h46, q1, zcv_at]
  exact ⟨τ2, rfl, q2⟩
set_option maxHeartbeats 1000000 in
/-- **sayType() (117)**: a type, printed -/
theorem v_type (hf : lFacts κ ks sz) (hT : 8100 ≤ T) (hw : ∀ w, (wd w).length ≤ 3000) (hR : rNmo Γ.1 Nm wd V) (hB : rBk Γ.1 Nm bk V) (hQ : uQr Γ V) (hv : v 85 ≤ 12000) (hv2 : v 91 ≤ 24000) (hv3 : v 79 ≤ 24000) (hv4 : v 98 ≤ 64) (hv5 : v 99 ≤ 8000) (hv6 : v 75 ≤ 40000) (hNm : ∀ D : List gN, D.Nodup → (∀ b, b ∈ D → Nm b) → D.length ≤ 3000) {G : List (gN × gTe)} (hGw : ∀ p, p ∈ G → uNm Γ p.1 ∧ gTw Γ p.2) : ∀ (y : tY) (N t : Nat) (A : gTy) (s : tPs) (τ : zSt), A.2 = G → G.length + 8 + tSz y ≤ N → uTy Γ v V y t A → vTy Γ Nm y A → rTv Γ.1 Nm V s τ → s.2.Nodup → (∀ a, a ∈ s.2 → Nm a) → s.1.length + 6000000 * tSz y < 750000000 → ∃ τ', zF h0 qs ks T N 117 [.ref h0, .int (nI t)] τ = some (none, τ') ∧ rTv Γ.1 Nm V (tTy wd bk (tSy (alV Γ V) Γ.2.2.1 Γ.2.2.2.1) y A s) τ' := by
  intro y
  induction y with
  | leaf => intro N t A s τ _ _ hu; exact hu.elim
  | inner k _ _ a b iha ihb =>
    intro N t A s τ hA hN hu hy h h1 h2 hl
    have ht : t < 40000 := Nat.lt_of_lt_of_le hu.1 hv6
    obtain ⟨-, hsy, hu⟩ := hu
    unfold vTy at hy
    unfold tTy
    unfold tSz at hN hl
    have R : ∀ q, q ≠ 101 → q ≠ 102 → τ.2.2.1 q = V.2.2.1 q := h.2.2.2.1
    by_cases c : k = 0
    · subst c
      rw [if_pos rfl] at hu hy ⊢
      obtain ⟨h42, -, ⟨h44, hnm, -⟩, tl, tr, h45, h46, hul, hur⟩ := hu
      obtain ⟨y1, y2, y3⟩ := hy
      obtain ⟨N, rfl⟩ : ∃ u, N = u + 4 := ⟨N - 4, by omega⟩
      have l2 := hNm s.2 h1 h2
      obtain ⟨τ1, r1, r2⟩ := s_nm (h0 := h0) (qs := qs) (ks := ks) (T := T) (n := N) (wd := wd) (by omega) (hR.cg h) y1 h.1 (by omega) (by omega)
      have r3 := h.on r2
      have n1 := tNm_nd wd (gPn A) s h1
      have n2 : ∀ b, b ∈ (tNm wd (gPn A) s).2 → Nm b := fun b hb => by
        rcases (tNm_D wd (gPn A) s).1 b hb with r | r
        · exact h2 b r
        · rw [r]; exact y1
      have n3 := tNm_L wd hw (gPn A) s
      clear r2
      generalize tNm wd (gPn A) s = s1 at r3 n1 n2 n3 ⊢
      obtain ⟨τ2, p1, p2⟩ := s_put (h0 := h0) (qs := qs) (ks := ks) (T := T) (n := N + 2) (c := 58) r3.1 (by omega)
      have p3 := r3.on p2
      have tlt : tl < 40000 := Nat.lt_of_lt_of_le (uTy_lt hul) hv6
      have k4 := uTy_k4 hul
      have st : zF h0 qs ks T (N + 4) 117 [.ref h0, .int (nI t)] τ = if yK a = 1 then j_sayType_64 T (zF h0 qs ks T (N + 3)) h0 qs ks (nI t) 1 τ2 else j_sayType_64 T (zF h0 qs ks T (N + 3)) h0 qs ks (nI t) 0 τ2 := by
        rw [zE_sayType]
        unfold b_sayType
        rw [zgd_at (zin_n ht (by decide)), nI_clamp (show t < 2 ^ 31 by omega), R 42 (by decide) (by decide), h42, if_neg (by decide), zgd_at (zin_n ht (by decide)), if_pos rfl, zgd_at (zin_n ht (by decide)), R 44 (by decide) (by decide), h44, r1, zcv_at, p1, zcv_at, zgd_at (zin_n ht (by decide)), p3.2.2.2.1 45 (by decide) (by decide), h45, zgd_at (zin_n tlt (by decide)), nI_clamp (show tl < 2 ^ 31 by omega), p3.2.2.2.1 42 (by decide) (by decide)]
        by_cases ca : yK a = 1
        · rw [if_pos (k4.mpr ca), if_pos ca]
        · rw [if_neg (fun z => ca (k4.mp z)), if_neg ca]
      by_cases ca : yK a = 1
      · obtain ⟨τ3, o1, o2⟩ := s_put (h0 := h0) (qs := qs) (ks := ks) (T := T) (n := N + 2) (c := 40) p3.1 (by show (s1.1 ++ [58]).length < _; rw [List.length_append]; show s1.1.length + 1 < _; omega)
        have o3 := p3.on o2
        have len1 : ((s1.1 ++ [58]) ++ [(40 : Int32)]).length = s1.1.length + 2 := by simp only [List.length_append, List.length_cons, List.length_nil]
        obtain ⟨τ4, i1, i2⟩ := iha (N + 3) tl (gTk A) ((s1.1 ++ [58]) ++ [40], s1.2) τ3 ((gTk_2 A).trans hA) (by omega) hul y2 o3 n1 n2 (by show ((s1.1 ++ [58]) ++ [(40 : Int32)]).length + _ < _; rw [len1]; omega)
        obtain ⟨d1, d2, d3⟩ := tTy_D (wd := wd) (bk := bk) (sy := tSy (alV Γ V) Γ.2.2.1 Γ.2.2.2.1) hw a (gTk A) ((s1.1 ++ [58]) ++ [40], s1.2) (vTy.ok a _ y2) n1 n2
        have d3 : _ ≤ ((s1.1 ++ [58]) ++ [(40 : Int32)]).length + _ := d3
        rw [len1] at d3
        simp only [if_pos ca]
        generalize tTy wd bk (tSy (alV Γ V) Γ.2.2.1 Γ.2.2.2.1) a (gTk A) ((s1.1 ++ [58]) ++ [40], s1.2) = s4 at i2 d1 d2 d3 ⊢
        obtain ⟨τ5, e1, e2⟩ := s_put (h0 := h0) (qs := qs) (ks := ks) (T := T) (n := N + 2) (c := 41) i2.1 (by omega)
        have e3 := i2.on e2
        rw [st, if_pos ca]
        unfold j_sayType_64
        rw [if_neg (by decide), o1, zcv_at]
        unfold j_sayType_75
        rw [zgd_at (zin_n ht (by decide)), nI_clamp (show t < 2 ^ 31 by omega), o3.2.2.2.1 45 (by decide) (by decide), h45, i1, zcv_at, if_neg (by decide), e1, zcv_at]
        have len2 : (s4.1 ++ [(41 : Int32)]).length = s4.1.length + 1 := by simp only [List.length_append, List.length_cons, List.length_nil]
        have len3 : ((s4.1 ++ [(41 : Int32)]) ++ [45, 62]).length = s4.1.length + 3 := by simp only [List.length_append, List.length_cons, List.length_nil]
        exact v_y95 (n := N + 1) hf (by omega) ht h46 e3 (by show (s4.1 ++ [(41 : Int32)]).length < _; rw [len2]; omega) (fun τ6 hq => ihb (N + 3) tr (gAn A) _ τ6 ((gAn_2 A).trans hA) (by omega) hur y3 hq d1 d2 (by show ((s4.1 ++ [(41 : Int32)]) ++ [45, 62]).length + _ < _; rw [len3]; omega))
      · have len1 : (s1.1 ++ [(58 : Int32)]).length = s1.1.length + 1 := by simp only [List.length_append, List.length_cons, List.length_nil]
        obtain ⟨τ4, i1, i2⟩ := iha (N + 3) tl (gTk A) (s1.1 ++ [58], s1.2) τ2 ((gTk_2 A).trans hA) (by omega) hul y2 p3 n1 n2 (by show (s1.1 ++ [(58 : Int32)]).length + _ < _; rw [len1]; omega)
        obtain ⟨d1, d2, d3⟩ := tTy_D (wd := wd) (bk := bk) (sy := tSy (alV Γ V) Γ.2.2.1 Γ.2.2.2.1) hw a (gTk A) (s1.1 ++ [58], s1.2) (vTy.ok a _ y2) n1 n2
        have d3 : _ ≤ (s1.1 ++ [(58 : Int32)]).length + _ := d3
        rw [len1] at d3
        simp only [if_neg ca]
        generalize tTy wd bk (tSy (alV Γ V) Γ.2.2.1 Γ.2.2.2.1) a (gTk A) (s1.1 ++ [58], s1.2) = s4 at i2 d1 d2 d3 ⊢
        rw [st, if_neg ca]
        unfold j_sayType_64
        rw [if_pos rfl]
        unfold j_sayType_75
        rw [zgd_at (zin_n ht (by decide)), nI_clamp (show t < 2 ^ 31 by omega), p3.2.2.2.1 45 (by decide) (by decide), h45, i1, zcv_at, if_pos rfl]
        have len3 : (s4.1 ++ [(45 : Int32), 62]).length = s4.1.length + 2 := by simp only [List.length_append, List.length_cons, List.length_nil]
        exact v_y95 (n := N + 1) hf (by omega) ht h46 i2 (by omega) (fun τ6 hq => ihb (N + 3) tr (gAn A) _ τ6 ((gAn_2 A).trans hA) (by omega) hur y3 hq d1 d2 (by show (s4.1 ++ [(45 : Int32), 62]).length + _ < _; rw [len3]; omega))
    · rw [if_neg c] at hu hy ⊢
      obtain ⟨hk4, h42, hsd⟩ := hu
      obtain ⟨y1, y2, y3⟩ := hy
      by_cases c2 : k = 2
      · have e0 : tSy (alV Γ V) Γ.2.2.1 Γ.2.2.2.1 A = [] := by
          have := tSy_len (alV Γ V) Γ.2.2.1 Γ.2.2.2.1 A
          rw [y3 c2] at this
          exact List.eq_nil_of_length_eq_zero (Nat.le_zero.mp this)
        obtain ⟨N, rfl⟩ : ∃ u, N = u + 3 := ⟨N - 3, by omega⟩
        obtain ⟨τ', q1, q2⟩ := s_ybo (h0 := h0) (qs := qs) (T := T) (n := N) (τ0 := τ) hf (by omega) ht (by rw [R 42 (by decide) (by decide), h42, c2]; rfl) h.1 (by omega)
        have e1 : tLef wd bk true (tSy (alV Γ V) Γ.2.2.1 Γ.2.2.2.1 A) (tSy (alV Γ V) Γ.2.2.1 Γ.2.2.2.1 A).length (tKk (cKd (k + 1))) s = (s.1 ++ tKw 1, s.2) := by
          rw [e0, c2]
          show ((s.1 ++ []) ++ tKw 1, s.2) = _
          rw [List.append_nil]
        rw [e1]
        exact ⟨τ', q1, h.on q2⟩
      · obtain ⟨sd, h43, hS⟩ := hsd c2
        obtain ⟨N, rfl⟩ : ∃ u, N = u + 5 := ⟨N - 5, by omega⟩
        exact v_leaf hf hT hw hR hB hQ hv hv2 hv3 hv4 hv5 ht (by omega) h42 h43 hS (fun p hp => hGw p (by rw [← hA]; exact hp)) (by rw [hA]; omega) y1 y2 hNm h h1 h2 (by omega)
end TRW
