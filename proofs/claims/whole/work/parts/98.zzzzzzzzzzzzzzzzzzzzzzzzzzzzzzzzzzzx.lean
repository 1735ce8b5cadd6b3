/-! type(): told FACTS, the reference -/
section TRX
variable {Γ : uGm} {v : Nat → Nat} {Nm : gN → Prop} {wd : Nat → List Int32} {bk : gN → Nat} {ks : Nat → Nat} {qs : List Nat} {T n h0 sz sd t : Nat} {κ : oKv} {V τ : zSt} {s : tPs} {G : List (gN × gTe)}
theorem rPu.tv {g : gN → Nat} (h : rTv g Nm V s τ) : ∀ (Rs : List oPu) (l : Int32), rPu V l Rs → rPu τ l Rs
  | [], _, z => z
  | p :: Rs, l, ⟨j, b1, b2, b3, b4, b5, b6⟩ => ⟨j, b1, by rw [h.2.2.2.1 55 (by decide) (by decide)]; exact b2, by rw [h.2.2.2.1 56 (by decide) (by decide)]; exact b3, by rw [h.2.2.2.1 57 (by decide) (by decide)]; exact b4, by rw [h.2.2.2.2]; exact b5, by rw [h.2.2.2.1 58 (by decide) (by decide)]; exact rPu.tv h Rs _ b6⟩
/-- a FACT with what is put in -/
def tGc (G : List (gN × gTe)) (c : gFc) : gFc := (c.1, gRs G c.2)
/-- a FACT that can be said -/
def vOk (Γ : uGm) (Nm : gN → Prop) (G : List (gN × gTe)) (c : gFc) : Prop := c.1 ≤ 4 ∧ gTw Γ c.2 ∧ (-1125899906842624 ≤ (gRs G c.2).2 ∧ (gRs G c.2).2 ≤ 1125899906842624) ∧ ∀ a e, (gRs G c.2).1 = some (a, e) → Nm a ∧ (e = 1 ∨ e = -1)
/-- how it goes on behind told FACTS -/
def v130 (T : Nat) (call : zCl) (h0 : Nat) (qs : List Nat) (ks : Nat → Nat) (t sd : Nat) (x3 : Int32) (τ : zSt) : zRs := if 0 ≤ τ.2.2.1 47 sd then zgd (zin (τ.2.2.1 47 sd) 64) (j_sayType_226 T call h0 qs ks (nI t) (nI sd) x3 (τ.2.2.1 47 sd) (τ.2.2.1 61 (τ.2.2.1 47 sd).toNatClampNeg) τ) else j_sayType_226 T call h0 qs ks (nI t) (nI sd) x3 (τ.2.2.1 47 sd) 0 τ
set_option maxHeartbeats 1000000 in
theorem s_y130 (hf : lFacts κ ks sz) (hT : 2100 ≤ T) (hw : ∀ w, (wd w).length ≤ 3000) (hR : rNmo Γ.1 Nm wd V) (hB : rBk Γ.1 Nm bk V) (hv : v 85 ≤ 12000) (hv2 : v 91 ≤ 24000) (hsd : sd < 24000) (hG : uPu Γ v V G.reverse (V.2.2.1 49 sd)) (hGw : ∀ p, p ∈ G → uNm Γ p.1 ∧ gTw Γ p.2) (hn : G.length + 2 ≤ n) : ∀ (fs : List gFc) (l : Int32) (b : Bool) (F : Nat) (s : tPs) (τ : zSt), uFs Γ v V fs l → fs.length < F → (∀ c, c ∈ fs → vOk Γ Nm G c) → rTv Γ.1 Nm V s τ → s.1.length + 3200 * fs.length < 760000000 → s.2.length + fs.length < 4000 → ∃ τ', l_sayType_130 T (zF h0 qs ks T (n + 4)) h0 qs ks F (nI t) (nI sd) (b01 b) l τ = v130 T (zF h0 qs ks T (n + 4)) h0 qs ks t sd (b01 (b && fs.isEmpty)) τ' ∧ rTv Γ.1 Nm V (tFs wd bk b (fs.map (tGc G)) s) τ'
  | [], l, b, F, s, τ, h, hF, hc, hs, hl, hl2 => by
    obtain ⟨F, rfl⟩ : ∃ u, F = u + 1 := ⟨F - 1, by omega⟩
    have h : l = -1 := h
    rw [l_sayType_130, h, if_pos (by decide), zgd_at (zin_n hsd (by decide)), nI_clamp (by omega)]
    exact ⟨τ, by cases b <;> rfl, hs⟩
  | c :: fs, l, b, F, s, τ, ⟨i, ⟨h1, h2⟩, h3, h4, h5⟩, hF, hc, hs, hl, hl2 => by
    obtain ⟨F, rfl⟩ : ∃ u, F = u + 1 := ⟨F - 1, by omega⟩
    have i12 : i < 12000 := by omega
    obtain ⟨c1, c2, c3, c4⟩ := hc c List.mem_cons_self
    rw [List.length_cons] at hF hl hl2
    have ROW : ∀ k, k ≠ 101 → k ≠ 102 → ∀ {s : tPs} {τ : zSt}, rTv Γ.1 Nm V s τ → τ.2.2.1 k = V.2.2.1 k := fun k k1 k2 {s τ} h => h.2.2.2.1 k k1 k2
    have e51 : V.2.2.1 51 i = (uTe Γ c.2).1 := congrArg Prod.fst h4
    have e5b : (V.2.2.1 52 i, V.2.2.2 54 i) = (uTe Γ c.2).2 := congrArg Prod.snd h4
    have e52 : V.2.2.1 52 i = (uTe Γ c.2).2.1 := congrArg Prod.fst e5b
    have e54 : V.2.2.2 54 i = (uTe Γ c.2).2.2 := congrArg Prod.snd e5b
    -- one FACT, the letter { said
    have ONE : ∀ (s1 : tPs) (τ1 : zSt), rTv Γ.1 Nm V s1 τ1 → s1.1.length ≤ s.1.length + 1 → s1.2 = s.2 → ∃ τ', j_sayType_145 T (zF h0 qs ks T (n + 4)) h0 qs ks (l_sayType_130 T (zF h0 qs ks T (n + 4)) h0 qs ks F) (nI t) (nI sd) (b01 b) (nI i) τ1 = l_sayType_130 T (zF h0 qs ks T (n + 4)) h0 qs ks F (nI t) (nI sd) (b01 false) (V.2.2.1 53 i) τ' ∧ rTv Γ.1 Nm V (tTm wd bk (gRs G c.2) ((s1.1 ++ (if b = true then [118] else [38, 118])) ++ tRl c.1, s1.2)) τ' := fun s1 τ1 k1 ls1 es1 => by
      have hP := rPu.tv k1 _ _ (uPu_r hv2 _ _ hG)
      obtain ⟨τ2, a1, a2, a3⟩ := r_termOf (h0 := h0) (qs := qs) (ks := ks) (T := T) (n := n + 4) (nm := V.2.2.1 51 i) (tm := V.2.2.1 52 i) (nu := V.2.2.2 54 i) hP (by rw [List.length_map, List.length_reverse]; omega)
      have k2 := k1.fm a2
      have eu : uOf τ2 = uT4 Γ (gRs G c.2) (gRf G c.2) := by
        rw [a3, e51, e52, e54]
        have q := pIn_g c2 G.reverse (fun p hp => hGw p (List.mem_reverse.mp hp))
        rw [List.reverse_reverse] at q
        rw [← q]
        congr 1
        unfold uT4 uTe
        rcases ex : c.2 with ⟨_ | ⟨y, e⟩, k⟩
        · show ((-1 : Int32), (if (0 : Int32) ≤ -1 then (0 : Int32) else 0), Int64.ofInt k, (0 : Int32)) = (-1, 0, Int64.ofInt k, 0)
          rw [if_neg (by decide)]
        · show (nI (Γ.1 y), (if (0 : Int32) ≤ nI (Γ.1 y) then Int32.ofInt e else 0), Int64.ofInt k, (0 : Int32)) = (nI (Γ.1 y), Int32.ofInt e, Int64.ofInt k, 0)
          have h15 : Γ.1 y < 1500 := (c2 y e (by rw [ex])).1.1
          rw [if_pos (show (0 : Int32) ≤ nI (Γ.1 y) from nI_le (a := 0) (b := Γ.1 y) (by omega) (by omega))]
      obtain ⟨τ3, b1, b2⟩ := v_fact (h0 := h0) (qs := qs) (n := n) (wd := wd) (bk := bk) (b := b) hf hT hw hR hB c1 k2 eu c3 c4 (by omega) (by rw [es1]; omega)
      unfold j_sayType_145
      rw [zgd_at (zin_n i12 (by decide)), zgd_at (zin_n i12 (by decide)), zgd_at (zin_n i12 (by decide)), zgd_at (zin_n hsd (by decide)), nI_clamp (show i < 2 ^ 31 by omega), nI_clamp (show sd < 2 ^ 31 by omega), ROW 51 (by decide) (by decide) k1, ROW 52 (by decide) (by decide) k1, k1.2.2.2.2, ROW 49 (by decide) (by decide) k1, a1, zcv_at, zgd_at (zin_n i12 (by decide)), ROW 50 (by decide) (by decide) k2, h3, b1, zcv_at, zgd_at (zin_n i12 (by decide)), ROW 53 (by decide) (by decide) b2]
      exact ⟨τ3, rfl, b2⟩
    have END : ∀ τ', rTv Γ.1 Nm V (tFa wd bk b (tGc G c) s) τ' → ∃ τ'', l_sayType_130 T (zF h0 qs ks T (n + 4)) h0 qs ks F (nI t) (nI sd) (b01 false) (V.2.2.1 53 i) τ' = v130 T (zF h0 qs ks T (n + 4)) h0 qs ks t sd (b01 (b && (c :: fs).isEmpty)) τ'' ∧ rTv Γ.1 Nm V (tFs wd bk b ((c :: fs).map (tGc G)) s) τ'' := fun τ' k => by
      have l1 := tTm_L wd bk hw (gRs G c.2) ((s.1 ++ (if b = true then [123, 118] else [38, 118])) ++ tRl c.1, s.2)
      have l1 : (tFa wd bk b (tGc G c) s).1.length ≤ ((s.1 ++ (if b = true then [123, 118] else [38, 118])) ++ tRl c.1).length + 3100 := l1
      have rl := tRl_len c.1
      have wl : (if b = true then [(123 : Int32), 118] else [38, 118]).length = 2 := by split <;> rfl
      rw [List.length_append, List.length_append, wl] at l1
      have d1 := (tTm_D wd bk (gRs G c.2) ((s.1 ++ (if b = true then [123, 118] else [38, 118])) ++ tRl c.1, s.2)).2
      have d1 : (tFa wd bk b (tGc G c) s).2.length ≤ s.2.length + 1 := d1
      obtain ⟨τ'', q1, q2⟩ := s_y130 hf hT hw hR hB hv hv2 hsd hG hGw hn fs (V.2.2.1 53 i) false F _ τ' h5 (by omega) (fun c' h' => hc c' (List.mem_cons_of_mem _ h')) k (by omega) (by omega)
      exact ⟨τ'', by cases b <;> exact q1, q2⟩
    rw [l_sayType_130, h1, if_neg (nI_pos (by omega))]
    cases b with
    | false =>
      obtain ⟨τ', q1, q2⟩ := ONE s τ hs (by omega) rfl
      rw [if_pos (by decide), q1]
      exact END τ' q2
    | true =>
      obtain ⟨τ1, r1, r2⟩ := s_put (h0 := h0) (qs := qs) (ks := ks) (T := T) (n := n + 3) (c := 123) hs.1 (by omega)
      obtain ⟨τ', q1, q2⟩ := ONE (s.1 ++ [123], s.2) τ1 (hs.on r2) (by show (s.1 ++ [123]).length ≤ _; rw [List.length_append]; exact Nat.le_refl _) rfl
      rw [if_neg (by decide), r1, zcv_at, q1]
      refine END τ' ?_
      have q2 : rTv Γ.1 Nm V (tTm wd bk (gRs G c.2) (((s.1 ++ [123]) ++ [118]) ++ tRl c.1, s.2)) τ' := q2
      rw [List.append_assoc s.1 [123] [118]] at q2
      exact q2
end TRX
