/-! type(): a leaf, the reference -/
/-- what a leaf says, with what is put in -/
def tSy (al : Nat × List Bool → Nat → Bool) (nq : tQ → Int) (xs : List tQ) (A : gTy) : List gFc := (gSa al nq xs A).map (tGc A.2)
section TRL
variable {Γ : uGm} {v : Nat → Nat} {Nm : gN → Prop} {wd : Nat → List Int32} {bk : gN → Nat} {ks : Nat → Nat} {qs : List Nat} {T n h0 sz sd t k : Nat} {κ : oKv} {V τ : zSt} {s : tPs} {A : gTy}
/-- the end of a leaf -/
theorem v_end {C : List gFc} {b : Bool} (hf : lFacts κ ks sz) (hT : 2100 ≤ T) (ht : t < 40000) (hk : k = 1 ∨ k = 3 ∨ k = 4) (h42 : V.2.2.1 42 t = nI (uK k)) (hb : b = C.isEmpty) (h : rTv Γ.1 Nm V (tFs wd bk true C s) τ) (hl : (tFs wd bk true C s).1.length < 860000000) : ∃ τ', j_sayType_305 T (zF h0 qs ks T (n + 2)) h0 qs ks (nI t) (b01 b) τ = some (none, τ') ∧ rTv Γ.1 Nm V (tLef wd bk true C C.length (tKk (cKd (k + 1))) s) τ' := by
  obtain ⟨τ', r1, r2⟩ := s_y305 (h0 := h0) (qs := qs) (T := T) (n := n) (b := b) hf hT ht h.1 hl
  have kw : (if τ.2.2.1 42 t = 3 then 2 else if τ.2.2.1 42 t = 5 then 3 else 0) = tKk (cKd (k + 1)) := by
    rw [h.2.2.2.1 42 (by decide) (by decide), h42]
    rcases hk with rfl | rfl | rfl <;> decide
  have cb : (if b = true then ([] : List Int32) else [125]) = if C.length = 0 then [] else [125] := by
    rw [hb]
    cases C <;> rfl
  rw [kw, cb] at r2
  exact ⟨τ', r1, h.on r2⟩
theorem fQk_len {α : Type} (p : Nat → Bool) : ∀ (l : List α) (k : Nat), (fQk p k l).length ≤ l.length
  | [], k => Nat.le_refl _
  | x :: l, k => by
    rw [fQk]
    have := fQk_len p l (k + 1)
    split
    · rw [List.length_cons, List.length_cons]; omega
    · rw [List.length_cons]; omega
set_option maxHeartbeats 1000000 in
/-- **sayType() of a leaf** -/
theorem v_leaf (hf : lFacts κ ks sz) (hT : 8100 ≤ T) (hw : ∀ w, (wd w).length ≤ 3000) (hR : rNmo Γ.1 Nm wd V) (hB : rBk Γ.1 Nm bk V) (hQ : uQr Γ V) (hv : v 85 ≤ 12000) (hv2 : v 91 ≤ 24000) (hv3 : v 79 ≤ 24000) (hv4 : v 98 ≤ 64) (hv5 : v 99 ≤ 8000) (ht : t < 40000) (hk : k = 1 ∨ k = 3 ∨ k = 4) (h42 : V.2.2.1 42 t = nI (uK k)) (h43 : V.2.2.1 43 t = nI sd) (hS : uSd Γ v V sd A) (hGw : ∀ p, p ∈ A.2 → uNm Γ p.1 ∧ gTw Γ p.2) (hn : A.2.length + 3 ≤ n) (hok : ∀ c, c ∈ gFa Γ.2.2.1 Γ.2.2.2.1 A → vOk Γ Nm A.2 c) (hfl : (gFa Γ.2.2.1 Γ.2.2.2.1 A).length ≤ 900) (hNm : ∀ D : List gN, D.Nodup → (∀ b, b ∈ D → Nm b) → D.length ≤ 3000) (h : rTv Γ.1 Nm V s τ) (h1 : s.2.Nodup) (h2 : ∀ a, a ∈ s.2 → Nm a) (hl : s.1.length < 750000000) : ∃ τ', zF h0 qs ks T (n + 5) 117 [.ref h0, .int (nI t)] τ = some (none, τ') ∧ rTv Γ.1 Nm V (tLef wd bk true (tSy (alV Γ V) Γ.2.2.1 Γ.2.2.2.1 A) (tSy (alV Γ V) Γ.2.2.1 Γ.2.2.2.1 A).length (tKk (cKd (k + 1))) s) τ' := by
  obtain ⟨g1, g2, g3⟩ := hS
  have hsd : sd < 24000 := by omega
  have l3 := hNm s.2 h1 h2
  have R : ∀ q, q ≠ 101 → q ≠ 102 → τ.2.2.1 q = V.2.2.1 q := h.2.2.2.1
  have st : zF h0 qs ks T (n + 5) 117 [.ref h0, .int (nI t)] τ = l_sayType_130 T (zF h0 qs ks T (n + 4)) h0 qs ks T (nI t) (nI sd) (b01 true) (V.2.2.1 48 sd) τ := by
    rw [zE_sayType]
    unfold b_sayType
    rw [zgd_at (zin_n ht (by decide)), nI_clamp (show t < 2 ^ 31 by omega), R 42 (by decide) (by decide), h42, if_neg (by rcases hk with rfl | rfl | rfl <;> decide), zgd_at (zin_n ht (by decide)), if_neg (by rcases hk with rfl | rfl | rfl <;> decide), zgd_at (zin_n ht (by decide)), R 43 (by decide) (by decide), h43, zgd_at (zin_n hsd (by decide)), nI_clamp (show sd < 2 ^ 31 by omega), R 48 (by decide) (by decide)]
    rfl
  rw [st]
  obtain ⟨A1, G⟩ := A
  match A1, g3, hok, hfl with
  | .inl x, ⟨g4, g5⟩, hok, hfl =>
    have hfl : x.2.length ≤ 900 := hfl
    obtain ⟨τ1, r1, r2⟩ := s_y130 (h0 := h0) (qs := qs) (T := T) (n := n) (wd := wd) (bk := bk) (t := t) hf (by omega) hw hR hB hv hv2 hsd g2 hGw (by omega) x.2 _ true T s τ g5 (by omega) hok h (by omega) (by omega)
    obtain ⟨-, -, e3⟩ := tFs_D wd bk hw Nm (x.2.map (tGc G)) true s (fun c hc a e he => by
      obtain ⟨c', m1, m2⟩ := List.mem_map.mp hc
      rw [← m2] at he
      exact ((hok c' m1).2.2.2 a e he).1) h1 h2
    rw [List.length_map] at e3
    obtain ⟨τ2, q1, q2⟩ := v_end (h0 := h0) (qs := qs) (T := T) (n := n + 2) (C := x.2.map (tGc G)) (b := true && x.2.isEmpty) hf (by omega) ht hk h42 (by cases x.2 <;> rfl) r2 (by omega)
    refine ⟨τ2, ?_, q2⟩
    rw [r1]
    unfold v130 j_sayType_226
    rw [r2.2.2.2.1 47 (by decide) (by decide), g4, if_neg (by decide)]
    obtain ⟨T', rfl⟩ : ∃ u, T = u + 1 := ⟨T - 1, by omega⟩
    rw [l_sayType_228, if_pos (by decide)]
    exact q1
  | .inr m, ⟨g4, g5, c1, a, c2, c3, c4, c5⟩, hok, hfl =>
    have hfl : (gIn Γ.2.2.1 Γ.2.2.2.1 m.2.2.1 m.2.2.2.2).length ≤ 900 := hfl
    have hok : ∀ c, c ∈ gIn Γ.2.2.1 Γ.2.2.2.1 m.2.2.1 m.2.2.2.2 → vOk Γ Nm G c := hok
    obtain ⟨τ1, r1, r2⟩ := s_y130 (h0 := h0) (qs := qs) (T := T) (n := n) (wd := wd) (bk := bk) (t := t) hf (by omega) hw hR hB hv hv2 hsd g2 hGw (by omega) [] _ true T s τ g5 (by show 0 < T; omega) (fun c hc => by cases hc) h (by show s.1.length + 3200 * 0 < _; omega) (by show s.2.length + 0 < _; omega)
    have r2 : rTv Γ.1 Nm V s τ1 := r2
    obtain ⟨τ2, u1, u2⟩ := s_y228 (h0 := h0) (qs := qs) (T := T) (n := n) (wd := wd) (bk := bk) (t := t) (a := a) (cs := Γ.2.1 (m.1, m.2.1)) hf (by omega) hw hR hB hQ hv2 hsd (by omega) g2 hGw hn (gIn Γ.2.2.1 Γ.2.2.2.1 m.2.2.1 m.2.2.2.2) 0 true T s τ1 c5 c3 (by omega) (by omega) hok r2 (by omega) (by omega)
    have ep : (fun j => decide (¬ V.2.2.1 65 (a + j) = 0)) = alV Γ V (m.1, m.2.1) := by
      funext j
      unfold alV
      rw [c2, nI_clamp (by omega)]
    rw [ep] at u1 u2
    have fl := fQk_len (alV Γ V (m.1, m.2.1)) (gIn Γ.2.2.1 Γ.2.2.2.1 m.2.2.1 m.2.2.2.2) 0
    obtain ⟨-, -, e3⟩ := tFs_D wd bk hw Nm ((fQk (alV Γ V (m.1, m.2.1)) 0 (gIn Γ.2.2.1 Γ.2.2.2.1 m.2.2.1 m.2.2.2.2)).map (tGc G)) true s (fun c hc a e he => by
      obtain ⟨c', m1, m2⟩ := List.mem_map.mp hc
      rw [← m2] at he
      have m3 : c' ∈ gIn Γ.2.2.1 Γ.2.2.2.1 m.2.2.1 m.2.2.2.2 := by
        clear he m2 hc u1 u2 fl e
        revert m1
        generalize gIn Γ.2.2.1 Γ.2.2.2.1 m.2.2.1 m.2.2.2.2 = l
        generalize 0 = k0
        induction l generalizing k0 with
        | nil => exact fun z => z
        | cons y l I =>
          intro z
          rw [fQk] at z
          split at z
          · rcases List.mem_cons.mp z with q | q
            · rw [q]; exact List.mem_cons_self
            · exact List.mem_cons_of_mem _ (I _ q)
          · exact List.mem_cons_of_mem _ (I _ z)
      exact ((hok c' m3).2.2.2 a e he).1) h1 h2
    rw [List.length_map] at e3
    obtain ⟨τ3, q1, q2⟩ := v_end (h0 := h0) (qs := qs) (T := T) (n := n + 2) (C := (fQk (alV Γ V (m.1, m.2.1)) 0 (gIn Γ.2.2.1 Γ.2.2.2.1 m.2.2.1 m.2.2.2.2)).map (tGc G)) (b := true && (fQk (alV Γ V (m.1, m.2.1)) 0 (gIn Γ.2.2.1 Γ.2.2.2.1 m.2.2.1 m.2.2.2.2)).isEmpty) hf (by omega) ht hk h42 (by cases fQk (alV Γ V (m.1, m.2.1)) 0 (gIn Γ.2.2.1 Γ.2.2.2.1 m.2.2.1 m.2.2.2.2) <;> rfl) u2 (by omega)
    refine ⟨τ3, ?_, q2⟩
    rw [r1]
    unfold v130 j_sayType_226
    rw [r2.2.2.2.1 47 (by decide) (by decide), g4, r2.2.2.2.1 61 (by decide) (by decide), if_pos (show (0 : Int32) ≤ nI (Γ.2.1 (m.1, m.2.1)) from nI_le (a := 0) (b := Γ.2.1 (m.1, m.2.1)) (by omega) (by omega)), zgd_at (zin_n (by omega) (by decide)), nI_clamp (by omega), c2]
    exact u1.trans q1
end TRL
