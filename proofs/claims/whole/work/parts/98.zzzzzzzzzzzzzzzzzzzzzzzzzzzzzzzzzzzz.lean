/-! type(): INSTANCES, the reference -/
section TRI
variable {Γ : uGm} {v : Nat → Nat} {Nm : gN → Prop} {wd : Nat → List Int32} {bk : gN → Nat} {ks : Nat → Nat} {qs : List Nat} {T n h0 sz sd t cs a : Nat} {κ : oKv} {V τ : zSt} {s : tPs} {G : List (gN × gTe)}
theorem iU_tv {g : gN → Nat} (h : rTv g Nm V s τ) (j : Nat) : iU τ j = iU V j ∧ iQ τ j = iQ V j := by
  have r := h.2.2.2.1
  unfold iU iQ
  rw [r 63 (by decide) (by decide), r 64 (by decide) (by decide), r 24 (by decide) (by decide), r 25 (by decide) (by decide), r 26 (by decide) (by decide)]
  exact ⟨rfl, rfl⟩
set_option maxHeartbeats 1000000 in
theorem s_y228 (hf : lFacts κ ks sz) (hT : 2100 ≤ T) (hw : ∀ w, (wd w).length ≤ 3000) (hR : rNmo Γ.1 Nm wd V) (hB : rBk Γ.1 Nm bk V) (hQ : uQr Γ V) (hv2 : v 91 ≤ 24000) (hsd : sd < 24000) (hcs : cs < 64) (hG : uPu Γ v V G.reverse (V.2.2.1 49 sd)) (hGw : ∀ p, p ∈ G → uNm Γ p.1 ∧ gTw Γ p.2) (hn : G.length + 3 ≤ n) : ∀ (fs : List gFc) (k : Nat) (b : Bool) (F : Nat) (s : tPs) (τ : zSt), (∀ i x, fs[i]? = some x → uIn Γ V (a + k + i) x) → V.2.2.1 62 cs = nI (a + k + fs.length) → a + k + fs.length ≤ 8000 → fs.length < F → (∀ c, c ∈ fs → vOk Γ Nm G c) → rTv Γ.1 Nm V s τ → s.1.length + 3200 * fs.length < 760000000 → s.2.length + fs.length < 4000 → ∃ τ', l_sayType_228 T (zF h0 qs ks T (n + 4)) h0 qs ks F (nI t) (nI sd) (b01 b) (nI cs) (nI (a + k)) τ = j_sayType_305 T (zF h0 qs ks T (n + 4)) h0 qs ks (nI t) (b01 (b && (fQk (fun j => decide (¬ V.2.2.1 65 (a + j) = 0)) k fs).isEmpty)) τ' ∧ rTv Γ.1 Nm V (tFs wd bk b ((fQk (fun j => decide (¬ V.2.2.1 65 (a + j) = 0)) k fs).map (tGc G)) s) τ'
  | [], k, b, F, s, τ, h, h62, h8, hF, hc, hs, hl, hl2 => by
    obtain ⟨F, rfl⟩ : ∃ u, F = u + 1 := ⟨F - 1, by omega⟩
    have h62 : V.2.2.1 62 cs = nI (a + k) := h62
    rw [l_sayType_228, if_neg (nI_pos (by omega)), zgd_at (zin_n hcs (by decide)), nI_clamp (by omega), hs.2.2.2.1 62 (by decide) (by decide), h62, if_pos (nI_le (Nat.le_refl _) (by omega))]
    exact ⟨τ, by cases b <;> rfl, hs⟩
  | c :: fs, k, b, F, s, τ, h, h62, h8, hF, hc, hs, hl, hl2 => by
    obtain ⟨F, rfl⟩ : ∃ u, F = u + 1 := ⟨F - 1, by omega⟩
    obtain ⟨c1, c2, c3, c4⟩ := hc c List.mem_cons_self
    rw [List.length_cons] at hF hl hl2 h62 h8
    have ROW : ∀ k, k ≠ 101 → k ≠ 102 → ∀ {s : tPs} {τ : zSt}, rTv Γ.1 Nm V s τ → τ.2.2.1 k = V.2.2.1 k := fun k k1 k2 {s τ} h => h.2.2.2.1 k k1 k2
    obtain ⟨u1, u2, u3, u4⟩ := uIn_u hQ (h 0 c rfl) c2
    rw [Nat.add_zero] at u1 u2 u3 u4
    have j8 : a + k < 8000 := by omega
    have h' : ∀ i x, fs[i]? = some x → uIn Γ V (a + (k + 1) + i) x := fun i x e => by
      have q := h (i + 1) x e
      rw [show a + (k + 1) + i = a + k + (i + 1) by omega]
      exact q
    have h62' : V.2.2.1 62 cs = nI (a + (k + 1) + fs.length) := by rw [h62]; congr 1; omega
    have hd : l_sayType_228 T (zF h0 qs ks T (n + 4)) h0 qs ks (F + 1) (nI t) (nI sd) (b01 b) (nI cs) (nI (a + k)) τ = if V.2.2.1 65 (a + k) = 0 then j_sayType_299 T (zF h0 qs ks T (n + 4)) h0 qs ks (l_sayType_228 T (zF h0 qs ks T (n + 4)) h0 qs ks F) (nI t) (nI sd) (b01 b) (nI cs) (nI (a + k)) τ else if b01 b = 0 then j_sayType_268 T (zF h0 qs ks T (n + 4)) h0 qs ks (l_sayType_228 T (zF h0 qs ks T (n + 4)) h0 qs ks F) (nI t) (nI sd) (b01 b) (nI cs) (nI (a + k)) τ else zcv (zF h0 qs ks T (n + 4) 112 [.ref h0, .int 123] τ) fun s7 => j_sayType_268 T (zF h0 qs ks T (n + 4)) h0 qs ks (l_sayType_228 T (zF h0 qs ks T (n + 4)) h0 qs ks F) (nI t) (nI sd) (b01 b) (nI cs) (nI (a + k)) s7 := by
      rw [l_sayType_228, if_neg (nI_pos (by omega)), zgd_at (zin_n hcs (by decide)), nI_clamp (show cs < 2 ^ 31 by omega), ROW 62 (by decide) (by decide) hs, h62, if_neg (nI_ge (by omega) (by omega)), zgd_at (zin_n j8 (by decide)), nI_clamp (show a + k < 2 ^ 31 by omega), ROW 65 (by decide) (by decide) hs]
    rw [hd]
    by_cases c65 : V.2.2.1 65 (a + k) = 0
    · have pk : (fun j => decide (¬ V.2.2.1 65 (a + j) = 0)) k = false := decide_eq_false (fun z => z c65)
      have ef : fQk (fun j => decide (¬ V.2.2.1 65 (a + j) = 0)) k (c :: fs) = fQk (fun j => decide (¬ V.2.2.1 65 (a + j) = 0)) (k + 1) fs := by
        rw [fQk, if_neg (fun z => by
          have z : (fun j => decide (¬ V.2.2.1 65 (a + j) = 0)) k = true := z
          rw [pk] at z
          cases z)]
      rw [if_pos c65, ef]
      unfold j_sayType_299
      rw [nI_p1, show a + k + 1 = a + (k + 1) by omega]
      exact s_y228 hf hT hw hR hB hQ hv2 hsd hcs hG hGw hn fs (k + 1) b F s τ h' h62' (by omega) (by omega) (fun c' hh => hc c' (List.mem_cons_of_mem _ hh)) hs (by omega) (by omega)
    · have pk : (fun j => decide (¬ V.2.2.1 65 (a + j) = 0)) k = true := decide_eq_true c65
      have ef : fQk (fun j => decide (¬ V.2.2.1 65 (a + j) = 0)) k (c :: fs) = c :: fQk (fun j => decide (¬ V.2.2.1 65 (a + j) = 0)) (k + 1) fs := by
        rw [fQk, if_pos pk]
      rw [if_neg c65, ef]
      have ONE : ∀ (s1 : tPs) (τ1 : zSt), rTv Γ.1 Nm V s1 τ1 → s1.1.length ≤ s.1.length + 1 → s1.2 = s.2 → ∃ τ', j_sayType_268 T (zF h0 qs ks T (n + 4)) h0 qs ks (l_sayType_228 T (zF h0 qs ks T (n + 4)) h0 qs ks F) (nI t) (nI sd) (b01 b) (nI cs) (nI (a + k)) τ1 = l_sayType_228 T (zF h0 qs ks T (n + 4)) h0 qs ks F (nI t) (nI sd) (b01 false) (nI cs) (nI (a + (k + 1))) τ' ∧ rTv Γ.1 Nm V (tTm wd bk (gRs G c.2) ((s1.1 ++ (if b = true then [118] else [38, 118])) ++ tRl c.1, s1.2)) τ' := fun s1 τ1 k1 ls1 es1 => by
        have hP := rPu.tv k1 _ _ (uPu_r hv2 _ _ hG)
        obtain ⟨i1, i2⟩ := iU_tv k1 (a + k)
        obtain ⟨τ2, a1, a2, a3⟩ := r_insT (h0 := h0) (qs := qs) (ks := ks) (T := T) (n := n + 4) j8 (by rw [i2, ROW 63 (by decide) (by decide) k1]; exact ⟨u2, u3⟩) hP (by rw [List.length_map, List.length_reverse]; omega)
        have k2 := k1.fm a2
        have eu : uOf τ2 = uT4 Γ (gRs G c.2) (gRf G c.2) := by
          rw [a3, i1, u1]
          have q := pIn_g c2 G.reverse (fun p hp => hGw p (List.mem_reverse.mp hp))
          rw [List.reverse_reverse] at q
          exact q
        obtain ⟨τ3, b1, b2⟩ := v_fact (h0 := h0) (qs := qs) (n := n) (wd := wd) (bk := bk) (b := b) hf hT hw hR hB c1 k2 eu c3 c4 (by omega) (by rw [es1]; omega)
        unfold j_sayType_268 j_sayType_299
        rw [zgd_at (zin_n hsd (by decide)), nI_clamp (show sd < 2 ^ 31 by omega), ROW 49 (by decide) (by decide) k1, a1, zcv_at, zgd_at (zin_n j8 (by decide)), nI_clamp (show a + k < 2 ^ 31 by omega), ROW 63 (by decide) (by decide) k2, u3, zgd_at (zin_n u2 (by decide)), nI_clamp (show iQ V (a + k) < 2 ^ 31 by omega), ROW 23 (by decide) (by decide) k2, u4, b1, zcv_at, nI_p1]
        exact ⟨τ3, rfl, b2⟩
      have END : ∀ τ', rTv Γ.1 Nm V (tFa wd bk b (tGc G c) s) τ' → ∃ τ'', l_sayType_228 T (zF h0 qs ks T (n + 4)) h0 qs ks F (nI t) (nI sd) (b01 false) (nI cs) (nI (a + (k + 1))) τ' = j_sayType_305 T (zF h0 qs ks T (n + 4)) h0 qs ks (nI t) (b01 (b && (c :: fQk (fun j => decide (¬ V.2.2.1 65 (a + j) = 0)) (k + 1) fs).isEmpty)) τ'' ∧ rTv Γ.1 Nm V (tFs wd bk b ((c :: fQk (fun j => decide (¬ V.2.2.1 65 (a + j) = 0)) (k + 1) fs).map (tGc G)) s) τ'' := fun τ' kk => by
        have l1 := tTm_L wd bk hw (gRs G c.2) ((s.1 ++ (if b = true then [123, 118] else [38, 118])) ++ tRl c.1, s.2)
        have l1 : (tFa wd bk b (tGc G c) s).1.length ≤ ((s.1 ++ (if b = true then [123, 118] else [38, 118])) ++ tRl c.1).length + 3100 := l1
        have rl := tRl_len c.1
        have wl : (if b = true then [(123 : Int32), 118] else [38, 118]).length = 2 := by split <;> rfl
        rw [List.length_append, List.length_append, wl] at l1
        have d1 := (tTm_D wd bk (gRs G c.2) ((s.1 ++ (if b = true then [123, 118] else [38, 118])) ++ tRl c.1, s.2)).2
        have d1 : (tFa wd bk b (tGc G c) s).2.length ≤ s.2.length + 1 := d1
        obtain ⟨τ'', q1, q2⟩ := s_y228 hf hT hw hR hB hQ hv2 hsd hcs hG hGw hn fs (k + 1) false F _ τ' h' h62' (by omega) (by omega) (fun c' hh => hc c' (List.mem_cons_of_mem _ hh)) kk (by omega) (by omega)
        exact ⟨τ'', by cases b <;> exact q1, q2⟩
      cases b with
      | false =>
        obtain ⟨τ', q1, q2⟩ := ONE s τ hs (by omega) rfl
        rw [if_pos (by decide), q1]
        exact END τ' q2
      | true =>
        obtain ⟨τ1, r1, r2⟩ := s_put (h0 := h0) (qs := qs) (ks := ks) (T := T) (n := n + 3) (c := 123) hs.1 (by omega)
        obtain ⟨τ', q1, q2⟩ := ONE (s.1 ++ [123], s.2) τ1 (hs.on r2) (by show (s.1 ++ [123]).length ≤ _; rw [List.length_append]; exact Nat.le_refl _) rfl
        rw [if_neg (by decide), r1, zcv_at, q1]
        refine END τ' ?_
        have q2 : rTv Γ.1 Nm V (tTm wd bk (gRs G c.2) (((s.1 ++ [123]) ++ [118]) ++ tRl c.1, s.2)) τ' := q2
        rw [List.append_assoc s.1 [123] [118]] at q2
        exact q2
end TRI
