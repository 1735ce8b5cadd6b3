/-! type(): FACTS, the reference -/
/-- a NAME's kind in its rows -/
def rBk (g : gN → Nat) (Nm : gN → Prop) (bk : gN → Nat) (τ0 : zSt) : Prop := ∀ a, Nm a → g a < 1501 ∧ bk a = if τ0.2.2.1 66 (g a) = 0 then 0 else if τ0.2.2.1 67 (g a) = 0 then 1 else 2
/-- the term at hand -/
def rTeh (g : gN → Nat) (Nm : gN → Prop) (t : gTe) (τ0 : zSt) : Prop := (τ0.2.1 140 = Int64.ofInt t.2 ∧ (Int64.ofInt t.2).toInt = t.2 ∧ t.2.natAbs ≤ 1000000000000000000) ∧ ((t.1 = none ∧ τ0.1 139 = 0) ∨ ∃ a e, t.1 = some (a, e) ∧ Nm a ∧ (e = 1 ∨ e = -1) ∧ τ0.1 138 = nI (g a) ∧ τ0.1 139 = Int32.ofInt e)
theorem rW_r : ∀ q, q ∈ [(0, 457, "="), (1, 459, "<"), (2, 461, "<="), (3, 463, ">"), (4, 465, ">=")] → (q.2.1, q.2.2) ∈ zKm ∧ q.2.2.toList.length < 1000 ∧ tTx (zch q.2.2) q.2.2.toList.length 0 = tRl q.1 := by decide +kernel
theorem rW_l : ((1013, "len ") ∈ zKm ∧ "len ".toList.length < 1000 ∧ tTx (zch "len ") "len ".toList.length 0 = tLn 1) ∧ ((1011, "size ") ∈ zKm ∧ "size ".toList.length < 1000 ∧ tTx (zch "size ") "size ".toList.length 0 = tLn 2) := by decide +kernel
section TRF
variable {g : gN → Nat} {Nm : gN → Prop} {wd : Nat → List Int32} {bk : gN → Nat} {ks : Nat → Nat} {qs : List Nat} {T n h0 sz : Nat} {κ : oKv} {τ0 τ τ' : zSt} {s : tPs} {L : List Int32} {a : gN} {t : gTe}
theorem s_f155 (hT : 2100 ≤ T) (hE : rTeh g Nm t τ0) (h : rTp g Nm τ0 s τ) (hl : s.1.length < 860000000) : ∃ τ', j_sayFact_155 T (zF h0 qs ks T (n + 2)) h0 qs ks τ = some (none, τ') ∧ rTp g Nm τ0 (s.1 ++ (if t.2 = 0 then [] else tNu (Int64.ofInt t.2)), s.2) τ' := by
  obtain ⟨⟨e1, e2, e3⟩, -⟩ := hE
  have a140 : τ.2.1 140 = Int64.ofInt t.2 := by rw [h.2.2.2.1]; exact e1
  unfold j_sayFact_155
  rw [a140]
  by_cases c : t.2 = 0
  · rw [if_pos ((lg_eq _ 0).mpr (by rw [c]; rfl)), if_pos c, List.append_nil]
    exact ⟨τ, rfl, h⟩
  · obtain ⟨τ1, r1, r2⟩ := s_num (h0 := h0) (qs := qs) (ks := ks) (T := T) (n := n) (v := Int64.ofInt t.2) (by rw [e2]; exact e3) (by omega) h (by omega)
    rw [if_neg (fun z => c (by
      have z := (lg_eq _ 0).mp z
      rw [← e2, z]
      rfl)), r1, zcv_at, if_neg c]
    exact ⟨τ1, rfl, r2⟩
theorem s_f132 {e : Int} (hT : 2100 ≤ T) (hw : ∀ w, (wd w).length ≤ 3000) (hR : rNmo g Nm wd τ0) (hE : rTeh g Nm t τ0) (ht : t.1 = some (a, e)) (h : rTp g Nm τ0 s τ) (hl : s.1.length < 800000000) (hl2 : s.2.length < 4000) : ∃ τ', j_sayFact_132 T (zF h0 qs ks T (n + 3)) h0 qs ks τ = some (none, τ') ∧ rTp g Nm τ0 (((tNm wd a s).1 ++ (if 0 < t.2 then [43] else [])) ++ (if t.2 = 0 then [] else tNu (Int64.ofInt t.2)), (tNm wd a s).2) τ' := by
  obtain ⟨⟨e1, e2, e3⟩, e4⟩ := id hE
  obtain ⟨hNa, a138⟩ : Nm a ∧ τ.1 138 = nI (g a) := by
    rcases e4 with ⟨z, -⟩ | ⟨a', e', z1, z2, -, z3, -⟩
    · rw [ht] at z; cases z
    · rw [ht] at z1
      injection z1 with z1; injection z1 with z1 _
      subst z1
      exact ⟨z2, by rw [h.2.2.1 138 (by decide) (by decide)]; exact z3⟩
  obtain ⟨τ1, r1, r2⟩ := s_nm (h0 := h0) (qs := qs) (ks := ks) (T := T) (n := n) (wd := wd) hT hR hNa h (by omega) hl2
  have ln := tNm_L wd hw a s
  have b140 : τ1.2.1 140 = Int64.ofInt t.2 := by rw [r2.2.2.2.1]; exact e1
  unfold j_sayFact_132
  rw [a138, r1, zcv_at, b140]
  generalize tNm wd a s = s1 at r2 ln ⊢
  by_cases c : 0 < t.2
  · obtain ⟨τ2, v1, v2⟩ := s_put (h0 := h0) (qs := qs) (ks := ks) (T := T) (n := n + 2) (c := 43) r2 (by omega)
    obtain ⟨τ3, w1, w2⟩ := s_f155 (h0 := h0) (qs := qs) (ks := ks) (T := T) (n := n + 1) hT hE v2 (by show (s1.1 ++ [43]).length < _; rw [List.length_append]; show s1.1.length + 1 < _; omega)
    rw [if_neg (fun z => by rw [lg_le0, e2] at z; omega), v1, zcv_at, w1, if_pos c]
    exact ⟨τ3, rfl, w2⟩
  · obtain ⟨τ3, w1, w2⟩ := s_f155 (h0 := h0) (qs := qs) (ks := ks) (T := T) (n := n + 1) hT hE r2 (by omega)
    rw [if_pos (by rw [lg_le0, e2]; omega), w1, if_neg c, List.append_nil]
    exact ⟨τ3, rfl, w2⟩
theorem s_f95 {e : Int} (hf : lFacts κ ks sz) (hT : 2100 ≤ T) (hw : ∀ w, (wd w).length ≤ 3000) (hR : rNmo g Nm wd τ0) (hB : rBk g Nm bk τ0) (hE : rTeh g Nm t τ0) (ht : t.1 = some (a, e)) (h : rTp g Nm τ0 s τ) (hl : s.1.length < 790000000) (hl2 : s.2.length < 4000) : ∃ τ', j_sayFact_95 T (zF h0 qs ks T (n + 3)) h0 qs ks τ = some (none, τ') ∧ rTp g Nm τ0 (((tNm wd a (s.1 ++ tLn (bk a), s.2)).1 ++ (if 0 < t.2 then [43] else [])) ++ (if t.2 = 0 then [] else tNu (Int64.ofInt t.2)), (tNm wd a (s.1 ++ tLn (bk a), s.2)).2) τ' := by
  obtain ⟨-, e4⟩ := id hE
  obtain ⟨hNa, a138⟩ : Nm a ∧ τ.1 138 = nI (g a) := by
    rcases e4 with ⟨z, -⟩ | ⟨a', e', z1, z2, -, z3, -⟩
    · rw [ht] at z; cases z
    · rw [ht] at z1
      injection z1 with z1; injection z1 with z1 _
      subst z1
      exact ⟨z2, by rw [h.2.2.1 138 (by decide) (by decide)]; exact z3⟩
  obtain ⟨b1, b2⟩ := hB a hNa
  have a66 : τ.2.2.1 66 = τ0.2.2.1 66 := h.2.2.2.2.1 66 (by decide) (by decide)
  have a67 : τ.2.2.1 67 = τ0.2.2.1 67 := h.2.2.2.2.1 67 (by decide) (by decide)
  unfold j_sayFact_95 j_sayFact_129
  rw [a138, zgd_at (zin_n b1 (by decide)), nI_clamp (by omega), a66, b2]
  by_cases c1 : τ0.2.2.1 66 (g a) = 0
  · rw [if_pos c1, if_pos c1, show tLn 0 = [] from rfl, List.append_nil]
    exact s_f132 hT hw hR hE ht h (by show s.1.length < _; omega) hl2
  · rw [if_neg c1, if_neg c1, zgd_at (zin_n b1 (by decide)), a67]
    by_cases c2 : τ0.2.2.1 67 (g a) = 0
    · obtain ⟨τ1, r1, r2⟩ := s_wrd (h0 := h0) (qs := qs) (T := T) (n := n + 1) hf rW_l.1.1 rW_l.1.2.1 (by omega) h (by omega)
      rw [rW_l.1.2.2] at r2
      rw [if_pos c2, if_pos c2, r1, zcv_at]
      exact s_f132 hT hw hR hE ht r2 (by show (s.1 ++ tLn 1).length < _; rw [List.length_append]; show s.1.length + 4 < _; omega) hl2
    · obtain ⟨τ1, r1, r2⟩ := s_wrd (h0 := h0) (qs := qs) (T := T) (n := n + 1) hf rW_l.2.1 rW_l.2.2.1 (by omega) h (by omega)
      rw [rW_l.2.2.2] at r2
      rw [if_neg c2, if_neg c2, r1, zcv_at]
      exact s_f132 hT hw hR hE ht r2 (by show (s.1 ++ tLn 2).length < _; rw [List.length_append]; show s.1.length + 5 < _; omega) hl2
theorem s_f63 {r : Nat} {q : Nat × String} (hf : lFacts κ ks sz) (hT : 2100 ≤ T) (hw : ∀ w, (wd w).length ≤ 3000) (hR : rNmo g Nm wd τ0) (hB : rBk g Nm bk τ0) (hE : rTeh g Nm t τ0) (hq : q ∈ zKm ∧ q.2.toList.length < 1000 ∧ tTx (zch q.2) q.2.toList.length 0 = tRl r) (h : rTp g Nm τ0 s τ) (hl : s.1.length < 780000000) (hl2 : s.2.length < 4000) : ∃ τ', j_sayFact_63 T (zF h0 qs ks T (n + 3)) h0 qs ks (ks q.1) τ = some (none, τ') ∧ rTp g Nm τ0 (tTm wd bk t (s.1 ++ tRl r, s.2)) τ' := by
  obtain ⟨τ1, r1, r2⟩ := s_wrd (h0 := h0) (qs := qs) (T := T) (n := n + 1) hf hq.1 hq.2.1 (by omega) h (by omega)
  rw [hq.2.2] at r2
  obtain ⟨⟨e1, e2, e3⟩, e4⟩ := id hE
  have rl := tRl_len r
  have ln : ((s.1 ++ tRl r, s.2) : tPs).1.length = s.1.length + (tRl r).length := List.length_append
  generalize hs1 : ((s.1 ++ tRl r, s.2) : tPs) = s1 at r2 ln ⊢
  have l2 : s1.2.length < 4000 := by rw [← hs1]; exact hl2
  have a140 : τ1.2.1 140 = Int64.ofInt t.2 := by rw [r2.2.2.2.1]; exact e1
  unfold j_sayFact_63 tTm
  rw [r1, zcv_at]
  rcases e4 with ⟨z1, z2⟩ | ⟨a, e, z1, z2, z3, z4, z5⟩
  · have a139 : τ1.1 139 = 0 := by rw [r2.2.2.1 139 (by decide) (by decide)]; exact z2
    obtain ⟨τ2, v1, v2⟩ := s_num (h0 := h0) (qs := qs) (ks := ks) (T := T) (n := n + 1) (v := Int64.ofInt t.2) (by rw [e2]; exact e3) (by omega) r2 (by omega)
    rw [if_pos a139, a140, v1, zcv_at, z1]
    exact ⟨τ2, rfl, v2⟩
  · have a139 : τ1.1 139 = Int32.ofInt e := by rw [r2.2.2.1 139 (by decide) (by decide)]; exact z5
    rw [a139, z1]
    show ∃ τ', _ ∧ rTp g Nm τ0 (((tNm wd a ((s1.1 ++ (if e < 0 then [45] else [])) ++ tLn (bk a), s1.2)).1 ++ (if 0 < t.2 then [43] else [])) ++ (if t.2 = 0 then [] else tNu (Int64.ofInt t.2)), (tNm wd a ((s1.1 ++ (if e < 0 then [45] else [])) ++ tLn (bk a), s1.2)).2) τ'
    rcases z3 with c | c
    · subst c
      rw [if_neg (by decide), if_pos (by decide), if_neg (show ¬ (1 : Int) < 0 by decide), List.append_nil]
      exact s_f95 hf hT hw hR hB hE z1 r2 (by omega) l2
    · subst c
      obtain ⟨τ2, v1, v2⟩ := s_put (h0 := h0) (qs := qs) (ks := ks) (T := T) (n := n + 2) (c := 45) r2 (by omega)
      rw [if_neg (by decide), if_neg (by decide), v1, zcv_at, if_pos (show (-1 : Int) < 0 by decide)]
      exact s_f95 hf hT hw hR hB hE z1 v2 (by show (s1.1 ++ [45]).length < _; rw [List.length_append]; show s1.1.length + 1 < _; omega) l2
/-- **sayFact() (116)** -/
theorem s_fact {r : Nat} {b : Bool} (hf : lFacts κ ks sz) (hT : 2100 ≤ T) (hw : ∀ w, (wd w).length ≤ 3000) (hR : rNmo g Nm wd τ0) (hB : rBk g Nm bk τ0) (hE : rTeh g Nm t τ0) (hr : r ≤ 4) (h : rTp g Nm τ0 s τ) (hl : s.1.length < 770000000) (hl2 : s.2.length < 4000) : ∃ τ', zF h0 qs ks T (n + 4) 116 [.ref h0, .int (nI r), .int (b01 b)] τ = some (none, τ') ∧ rTp g Nm τ0 (tTm wd bk t ((s.1 ++ (if b = true then [118] else [38, 118])) ++ tRl r, s.2)) τ' := by
  rw [zE_sayFact]
  unfold b_sayFact
  have H : ∀ (s : tPs) (τ : zSt), s.1.length < 779000000 → s.2.length < 4000 → rTp g Nm τ0 s τ → ∃ τ', j_sayFact_10 T (zF h0 qs ks T (n + 3)) h0 qs ks (nI r) τ = some (none, τ') ∧ rTp g Nm τ0 (tTm wd bk t ((s.1 ++ [118]) ++ tRl r, s.2)) τ' := fun s τ hl hl2 h => by
    obtain ⟨τ1, r1, r2⟩ := s_put (h0 := h0) (qs := qs) (ks := ks) (T := T) (n := n + 2) (c := 118) h (by omega)
    have l1 : (s.1 ++ [(118 : Int32)]).length < 780000000 := by rw [List.length_append]; show s.1.length + 1 < _; omega
    unfold j_sayFact_10
    rw [r1, zcv_at]
    match r, hr with
    | 0, _ => rw [if_pos (show nI 0 = 0 from rfl)]; exact s_f63 hf hT hw hR hB hE (rW_r (0, 457, "=") (by simp)) r2 l1 hl2
    | 1, _ => rw [if_neg (by decide), if_pos (show nI 1 = 1 from rfl)]; exact s_f63 hf hT hw hR hB hE (rW_r (1, 459, "<") (by simp)) r2 l1 hl2
    | 2, _ => rw [if_neg (by decide), if_neg (by decide), if_pos (show nI 2 = 2 from rfl)]; exact s_f63 hf hT hw hR hB hE (rW_r (2, 461, "<=") (by simp)) r2 l1 hl2
    | 3, _ => rw [if_neg (by decide), if_neg (by decide), if_neg (by decide), if_pos (show nI 3 = 3 from rfl)]; exact s_f63 hf hT hw hR hB hE (rW_r (3, 463, ">") (by simp)) r2 l1 hl2
    | 4, _ => rw [if_neg (by decide), if_neg (by decide), if_neg (by decide), if_neg (by decide)]; exact s_f63 hf hT hw hR hB hE (rW_r (4, 465, ">=") (by simp)) r2 l1 hl2
  cases b with
  | false =>
    obtain ⟨τ1, r1, r2⟩ := s_put (h0 := h0) (qs := qs) (ks := ks) (T := T) (n := n + 2) (c := 38) h (by omega)
    obtain ⟨τ2, v1, v2⟩ := H (s.1 ++ [38], s.2) τ1 (by show (s.1 ++ [38]).length < _; rw [List.length_append]; show s.1.length + 1 < _; omega) hl2 r2
    rw [if_pos (by decide), r1, zcv_at, v1]
    refine ⟨τ2, rfl, ?_⟩
    have v2 : rTp g Nm τ0 (tTm wd bk t (((s.1 ++ [38]) ++ [118]) ++ tRl r, s.2)) τ2 := v2
    rw [List.append_assoc s.1 [38] [118]] at v2
    exact v2
  | true =>
    rw [if_neg (by decide)]
    exact H s τ (by omega) hl2 h
end TRF
