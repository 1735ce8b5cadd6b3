/-! the reference: node, relation, isArgument, part, sum -/
def sg (b : Bool) : Int32 := if b = true then -1 else 1
/-- PARTS from number a on -/
def rPs (τ : zSt) (a : Nat) (ps : List tP) : Prop := ∀ q p, ps[q]? = some p → τ.2.2.1 16 (a + q) = nI p.1 ∧ τ.2.2.1 17 (a + q) = sg p.2.1 ∧ τ.2.2.1 18 (a + q) = nI p.2.2
/-- S number s is this one -/
def rSm (pp : Nat → Int32) (τ : zSt) (S P s : Nat) (t : tS) : Prop := s < S ∧ τ.2.2.1 15 s = pp t.1 ∧ ∃ a, τ.2.2.1 13 s = nI a ∧ τ.2.2.1 14 s = nI (a + t.2.length) ∧ a + t.2.length ≤ P ∧ rPs τ a t.2
theorem zin_n {N c : Nat} (h : N < c) (hc : c < 2 ^ 31) : zin (nI N) c = true := decide_eq_true ⟨by rw [nI_toInt (by omega)]; omega, by rw [nI_toInt (by omega)]; omega⟩
theorem zA1 (τ : zSt) (k : Nat) (g : Nat → Int32) : (zA τ k g).1 = τ.1 := rfl
theorem zI2 (τ : zSt) (k : Nat) (v : Int32) : (zI τ k v).2 = τ.2 := rfl
theorem zIe (τ : zSt) (k : Nat) (v : Int32) : (zI τ k v).1 k = v := if_pos rfl
theorem zIn (τ : zSt) {k j : Nat} (v : Int32) (h : j ≠ k) : (zI τ k v).1 j = τ.1 j := if_neg h
theorem zAe (τ : zSt) (k : Nat) (g : Nat → Int32) : (zA τ k g).2.2.1 k = g := if_pos rfl
theorem zAn (τ : zSt) {k j : Nat} (g : Nat → Int32) (h : j ≠ k) : (zA τ k g).2.2.1 j = τ.2.2.1 j := if_neg h
theorem rAg.pt {N S P A C k j : Nat} {τ τ' : zSt} (h : rAg N S P A C τ τ') (h1 : 16 ≤ k) (h2 : k ≤ 18) (hj : j < P) : τ'.2.2.1 k j = τ.2.2.1 k j := h.2.2.2 k j ⟨fun a b => by omega, fun a b => by omega, fun _ _ => hj, fun a b => by omega, fun a => by omega⟩
theorem rAg.sm {N S P A C k j : Nat} {τ τ' : zSt} (h : rAg N S P A C τ τ') (h1 : 13 ≤ k) (h2 : k ≤ 15) (hj : j < S) : τ'.2.2.1 k j = τ.2.2.1 k j := h.2.2.2 k j ⟨fun a b => by omega, fun _ _ => hj, fun a b => by omega, fun a b => by omega, fun a => by omega⟩
theorem rAg.nd {N S P A C k j : Nat} {τ τ' : zSt} (h : rAg N S P A C τ τ') (h1 : 6 ≤ k) (h2 : k ≤ 12) (hj : j < N) : τ'.2.2.1 k j = τ.2.2.1 k j := h.2.2.2 k j ⟨fun _ _ => hj, fun a b => by omega, fun a b => by omega, fun a b => by omega, fun a => by omega⟩
theorem rAg.ar {N S P A C k j : Nat} {τ τ' : zSt} (h : rAg N S P A C τ τ') (h1 : 19 ≤ k) (h2 : k ≤ 21) (hj : j < A) : τ'.2.2.1 k j = τ.2.2.1 k j := h.2.2.2 k j ⟨fun a b => by omega, fun a b => by omega, fun a b => by omega, fun _ _ => hj, fun a => by omega⟩
theorem rAg.cw {N S P A C j : Nat} {τ τ' : zSt} (h : rAg N S P A C τ τ') (hj : j < C) : τ'.2.2.1 29 j = τ.2.2.1 29 j := h.2.2.2 29 j ⟨fun a b => by omega, fun a b => by omega, fun a b => by omega, fun a b => by omega, fun _ => hj⟩
theorem rPs.ag {N S P A C a : Nat} {τ τ' : zSt} {ps : List tP} (h : rPs τ a ps) (g : rAg N S P A C τ τ') (hP : a + ps.length ≤ P) : rPs τ' a ps := fun q p e => by
  have hq : q < ps.length := by
    by_cases c : q < ps.length
    · exact c
    · rw [List.getElem?_eq_none (by omega)] at e; cases e
  rw [g.pt (by omega) (by omega) (show a + q < P by omega), g.pt (by omega) (by omega) (show a + q < P by omega), g.pt (by omega) (by omega) (show a + q < P by omega)]
  exact h q p e
theorem rSm.ag {pp : Nat → Int32} {N S P A C S' P' s : Nat} {τ τ' : zSt} {t : tS} (h : rSm pp τ S P s t) (g : rAg N S P A C τ τ') (hS : S ≤ S') (hP : P ≤ P') : rSm pp τ' S' P' s t := by
  obtain ⟨h1, h2, a, h3, h4, h5, h6⟩ := h
  refine ⟨by omega, ?_, a, ?_, ?_, by omega, h6.ag g h5⟩
  · rw [g.sm (by omega) (by omega) h1]; exact h2
  · rw [g.sm (by omega) (by omega) h1]; exact h3
  · rw [g.sm (by omega) (by omega) h1]; exact h4
/-- the REL here as the reference says it, and whether an ARG begins here -/
def aRv (kk : Nat → Int32) (s : Sum Nat Nat) : Int32 := match s with
  | .inl _ => -1
  | .inr i => if aRl kk i < 6 then nI (aRl kk i) else -1
def aAv (kk : Nat → Int32) (s : Sum Nat Nat) : Bool := match s with
  | .inl _ => false
  | .inr i => aAr kk i
theorem aRl_b (τ : zSt) : ∀ b1 b2 b3 b4 b5 b6 : Bool, (if b01 b1 = 0 then (if b01 b2 = 0 then (if b01 b3 = 0 then (if b01 b4 = 0 then (if b01 b5 = 0 then (if b01 b6 = 0 then some (some (Value.int (-1)), τ) else some (some (Value.int 5), τ)) else some (some (Value.int 4), τ)) else some (some (Value.int 3), τ)) else some (some (Value.int 2), τ)) else some (some (Value.int 1), τ)) else some (some (Value.int 0), τ)) = some (some (Value.int (if (if b1 = true then 0 else if b2 = true then 1 else if b3 = true then 2 else if b4 = true then 3 else if b5 = true then 4 else if b6 = true then 5 else 6) < 6 then nI (if b1 = true then 0 else if b2 = true then 1 else if b3 = true then 2 else if b4 = true then 3 else if b5 = true then 4 else if b6 = true then 5 else 6) else -1)), τ) := by
  intro b1 b2 b3 b4 b5 b6
  cases b1 <;> cases b2 <;> cases b3 <;> cases b4 <;> cases b5 <;> cases b6 <;> rfl
theorem aAr_b (τ : zSt) : ∀ b3 b4 b5 : Bool, (if b01 b3 = 0 then (if b01 b4 = 0 then (if b01 b5 = 0 then some (some (Value.int 0), τ) else some (some (Value.int 1), τ)) else some (some (Value.int 1), τ)) else some (some (Value.int 1), τ)) = some (some (Value.int (b01 (false || false || b3 || b4 || b5))), τ) := by
  intro b3 b4 b5
  cases b3 <;> cases b4 <;> cases b5 <;> rfl
section RSU
variable {κ : oKv} {ks : Nat → Nat} {qs : List Nat} {T m h0 len cnt sz d N S P A C : Nat} {τ : zSt} {s : Sum Nat Nat} {kk pp ee f : Nat → Int32} {p : Nat × String × Nat}
theorem rR.a (h : rR T len cnt kk pp ee f d τ N S P A C s) {k : Nat} (g : Nat → Int32) (hk : 6 ≤ k) : rR T len cnt kk pp ee f d (zA τ k g) N S P A C s := by
  obtain ⟨h1, h2, h3⟩ := h
  refine ⟨h1.keep (zAn _ _ (by omega)) (zAn _ _ (by omega)) (zAn _ _ (by omega)) (zAn _ _ (by omega)), h2, ?_⟩
  cases s with
  | inl j => exact h3
  | inr i => exact h3
theorem q_node (h : rR T len cnt kk pp ee f d τ N S P A C s) (hN : N < 2100) (hm : 1 ≤ m) (x y : Int32) : ∃ τ', zF h0 qs ks T m 10 [.ref h0, .int x, .int y] τ = some (some (.int (nI N)), τ') ∧ rR T len cnt kk pp ee f d τ' (N + 1) S P A C s ∧ rAg N S P A C τ τ' ∧ (τ'.2.2.1 6 N = x ∧ τ'.2.2.1 7 N = y ∧ τ'.2.2.1 8 N = y) := by
  obtain ⟨n, rfl⟩ : ∃ n, m = n + 1 := ⟨m - 1, by omega⟩
  have hh := h
  obtain ⟨-, ⟨-, h20, -⟩, -⟩ := h
  rw [zE_node]
  unfold b_node
  simp only [zlet, zgd, zA1, h20, zin_n hN (show 2100 < 2 ^ 31 by decide), if_true, nI_clamp (show N < 2 ^ 31 by omega), zIe, nI_1]
  rw [nI_pred]
  refine ⟨_, rfl, ?_, ?_, ?_⟩
  · obtain ⟨h1, ⟨a1, a2, a3, a4, a5, a6⟩, h3⟩ := ((hh.a (upd (τ.2.2.1 6) N x) (by omega : 6 ≤ 6)).a (upd ((zA τ 6 (upd (τ.2.2.1 6) N x)).2.2.1 7) N y) (by omega : 6 ≤ 7)).a (upd ((zA (zA τ 6 (upd (τ.2.2.1 6) N x)) 7 (upd ((zA τ 6 (upd (τ.2.2.1 6) N x)).2.2.1 7) N y)).2.2.1 8) N y) (by omega : 6 ≤ 8)
    refine ⟨h1, ⟨a1, rfl, a3, a4, a5, a6⟩, ?_⟩
    cases s with
    | inl j => exact h3
    | inr i => exact h3
  · exact (((rAg.rf τ).a (rFz.n6 (by omega) (by omega) (Nat.le_refl N))).a (rFz.n6 (by omega) (by omega) (Nat.le_refl N))).a (rFz.n6 (by omega) (by omega) (Nat.le_refl N)) |>.i (by omega)
  · simp only [zI2]
    refine ⟨?_, ?_, ?_⟩
    · rw [zAn _ _ (by decide), zAn _ _ (by decide), zAe, upd_at]
    · rw [zAn _ _ (by decide), zAe, upd_at]
    · rw [zAe, upd_at]
/-- the REL here, or -1 -/
theorem q_rel (hf : lFacts κ ks sz) (hT : 2010 ≤ T) (h : rR T len cnt kk pp ee f d τ N S P A C s) (hm : 3 ≤ m) : zF h0 qs ks T m 18 [.ref h0] τ = some (some (.int (aRv kk s)), τ) := by
  obtain ⟨n, rfl⟩ : ∃ n, m = n + 3 := ⟨m - 3, by omega⟩
  obtain ⟨b1, g1, q1⟩ := q_here (h0 := h0) (qs := qs) (m := n + 2) hf hT h (show (457, "=", 61) ∈ zKp by decide) (by omega)
  obtain ⟨b2, g2, q2⟩ := q_here (h0 := h0) (qs := qs) (m := n + 2) hf hT h (show (459, "<", 60) ∈ zKp by decide) (by omega)
  obtain ⟨b3, g3, q3⟩ := q_here (h0 := h0) (qs := qs) (m := n + 2) hf hT h (show (461, "<=", 300) ∈ zKp by decide) (by omega)
  obtain ⟨b4, g4, q4⟩ := q_here (h0 := h0) (qs := qs) (m := n + 2) hf hT h (show (463, ">", 62) ∈ zKp by decide) (by omega)
  obtain ⟨b5, g5, q5⟩ := q_here (h0 := h0) (qs := qs) (m := n + 2) hf hT h (show (465, ">=", 301) ∈ zKp by decide) (by omega)
  obtain ⟨b6, g6, q6⟩ := q_here (h0 := h0) (qs := qs) (m := n + 2) hf hT h (show (467, "#", 35) ∈ zKp by decide) (by omega)
  rw [zE_relation]
  unfold b_relation
  simp only [g1, g2, g3, g4, g5, g6, zci]
  rw [aRl_b τ b1 b2 b3 b4 b5 b6, q1, q2, q3, q4, q5, q6]
  cases s with
  | inl j => rfl
  | inr i => rfl
theorem q_arg (hf : lFacts κ ks sz) (hT : 2010 ≤ T) (h : rR T len cnt kk pp ee f d τ N S P A C s) (hm : 3 ≤ m) : ∃ b, zF h0 qs ks T m 19 [.ref h0] τ = some (some (.int (b01 b)), τ) ∧ b = aAv kk s := by
  obtain ⟨n, rfl⟩ : ∃ n, m = n + 3 := ⟨m - 3, by omega⟩
  obtain ⟨b1, g1, q1⟩ := q_here (h0 := h0) (qs := qs) (m := n + 2) hf hT h (show (582, "(", 40) ∈ zKp by decide) (by omega)
  obtain ⟨b2, g2, q2⟩ := q_here (h0 := h0) (qs := qs) (m := n + 2) hf hT h (show (578, "true", 223) ∈ zKp by decide) (by omega)
  obtain ⟨b3, g3, q3⟩ := q_here (h0 := h0) (qs := qs) (m := n + 2) hf hT h (show (580, "false", 205) ∈ zKp by decide) (by omega)
  rw [zE_isArgument]
  unfold b_isArgument
  cases s with
  | inl j =>
    rw [if_neg (show ¬ τ.1 11 = 0 by rw [h.2.2.1]; decide)]
    exact ⟨false, rfl, rfl⟩
  | inr i =>
    have hcn := h.1.cn
    have w := h.1
    obtain ⟨o1, o2, o3⟩ := h.2.2
    have k1 := w.k1 o3
    have k2 := w.k2 o3
    rw [if_pos o1]
    simp only [zgd, o2, zin_n (show i < 2010 by omega) (show 2010 < 2 ^ 31 by decide), if_true, nI_clamp (show i < 2 ^ 31 by omega), g1, g2, g3, zci, j_isArgument_63]
    refine ⟨aAr kk i, ?_, rfl⟩
    unfold aAr
    by_cases e1 : aIs kk 1 i = true
    · rw [if_pos (k1.mpr e1), e1]; rfl
    · rw [if_neg (fun e => e1 (k1.mp e)), eq_false_of_ne_true e1]
      by_cases e2 : aIs kk 2 i = true
      · rw [if_pos (k2.mpr e2), e2]; rfl
      · rw [if_neg (fun e => e2 (k2.mp e)), eq_false_of_ne_true e2, aAr_b τ b1 b2 b3, q1, q2, q3]
        rfl
/-- a PART is put down -/
theorem q_p77 {i : Nat} (h : rR T len cnt kk pp ee f d τ N S P A C (.inr i)) (hi : i < cnt) (hP : P ≤ i) (call : zCl) (v x : Int32) : ∃ τ', j_part_77 T call h0 qs ks v x τ = some (none, τ') ∧ rR T len cnt kk pp ee f d τ' N S (P + 1) A C (.inr (i + 1)) ∧ rAg N S P A C τ τ' ∧ (τ'.2.2.1 16 P = x ∧ τ'.2.2.1 17 P = v ∧ τ'.2.2.1 18 P = nI i) := by
  have hcn := h.1.cn
  have hh := h
  obtain ⟨-, ⟨-, -, -, h28, -⟩, -, h10, -⟩ := h
  unfold j_part_77
  simp only [zlet, zgd, zA1, h28, h10, zin_n (show P < 2100 by omega) (show 2100 < 2 ^ 31 by decide), if_true, nI_clamp (show P < 2 ^ 31 by omega), zIe, zIn _ _ (show 10 ≠ 28 by decide), nI_1]
  refine ⟨_, rfl, ?_, ?_, ?_⟩
  · obtain ⟨h1, ⟨a1, a2, a3, a4, a5, a6⟩, h3⟩ := ((hh.a (upd (τ.2.2.1 16) P x) (by omega : 6 ≤ 16)).a (upd ((zA τ 16 (upd (τ.2.2.1 16) P x)).2.2.1 17) P v) (by omega : 6 ≤ 17)).a (upd ((zA (zA τ 16 (upd (τ.2.2.1 16) P x)) 17 (upd ((zA τ 16 (upd (τ.2.2.1 16) P x)).2.2.1 17) P v)).2.2.1 18) P (nI i)) (by omega : 6 ≤ 18)
    exact ⟨h1, ⟨a1, a2, a3, rfl, a5, a6⟩, h3.1, rfl, by omega⟩
  · exact ((((rAg.rf τ).a (rFz.n16 (by omega) (by omega) (Nat.le_refl P))).a (rFz.n16 (by omega) (by omega) (Nat.le_refl P))).a (rFz.n16 (by omega) (by omega) (Nat.le_refl P)) |>.i (by omega)) |>.i (by omega)
  · simp only [zI2]
    refine ⟨?_, ?_, ?_⟩
    · rw [zAn _ _ (by decide), zAn _ _ (by decide), zAe, upd_at]
    · rw [zAn _ _ (by decide), zAe, upd_at]
    · rw [zAe, upd_at]
/-- part behind its len or size: a NAME must stand here -/
theorem q_p55 {i k : Nat} (h : rR T len cnt kk pp ee f d τ N S P A C (.inr i)) (hP : P ≤ i) (hk : 0 < k ∧ k < 4) (hm : 2 ≤ m) (v : Int32) : ∃ τ' P', j_part_55 T (zF h0 qs ks T m) h0 qs ks v (nI k) τ = some (none, τ') ∧ rR T len cnt kk pp ee f d τ' N S P' A C (aMs kk 1 i).st ∧ rAg N S P A C τ τ' ∧ P ≤ P' ∧ P' + i ≤ P + aPo cnt (aMs kk 1 i).st ∧ ((aIs kk 1 i = true) → P' = P + 1 ∧ (τ'.2.2.1 16 P = nI k ∧ τ'.2.2.1 17 P = v ∧ τ'.2.2.1 18 P = nI i)) := by
  have hcn := h.1.cn
  have h10 := h.2.2.2.1
  have hi := h.2.2.2.2
  have k1 := h.1.k1 hi
  unfold j_part_55
  rw [if_neg (show ¬ nI k ≤ 0 from nI_ge (show 0 < k by omega) (by omega))]
  simp only [zgd, h10, zin_n (show i < 2010 by omega) (show 2010 < 2 ^ 31 by decide), if_true, nI_clamp (show i < 2 ^ 31 by omega), aMs]
  by_cases g : aIs kk 1 i = true
  · have hlt := h.1.lt hi (by decide) g
    rw [if_pos (k1.mpr g), if_pos g]
    obtain ⟨τ', e1, e2, e3, e4⟩ := q_p77 (h0 := h0) (qs := qs) (ks := ks) h hlt hP (zF h0 qs ks T m) v (nI k)
    exact ⟨τ', P + 1, e1, e2, e3, by omega, by show P + 1 + i ≤ P + (i + 1); omega, fun _ => ⟨rfl, e4⟩⟩
  · rw [if_neg (fun e => g (k1.mp e)), if_neg g]
    obtain ⟨τ', e1, e2, e3⟩ := q_form (h0 := h0) (qs := qs) (ks := ks) h hm
    simp only [e1, zcv]
    exact ⟨τ', P, rfl, e2, e3, Nat.le_refl _, by show P + i ≤ P + cnt; omega, fun e => absurd e g⟩
/-- part() -/
theorem q_part (hf : lFacts κ ks sz) (hT : 2010 ≤ T) (h : rR T len cnt kk pp ee f d τ N S P A C s) (hP : P ≤ aPo cnt s) (hm : 4 ≤ m) (g : Bool) : ∃ τ' P', zF h0 qs ks T m 20 [.ref h0, .int (sg g)] τ = some (none, τ') ∧ rR T len cnt kk pp ee f d τ' N S P' A C (aTo s (aPt kk g)) ∧ rAg N S P A C τ τ' ∧ P ≤ P' ∧ P' + aPo cnt s ≤ P + aPo cnt (aTo s (aPt kk g)) ∧ (∀ i p j, s = .inr i → aPt kk g i = .inr (p, j) → P' = P + 1 ∧ i < j ∧ (τ'.2.2.1 16 P = nI p.1 ∧ τ'.2.2.1 17 P = sg p.2.1 ∧ τ'.2.2.1 18 P = nI p.2.2)) := by
  obtain ⟨n, rfl⟩ : ∃ n, m = n + 4 := ⟨m - 4, by omega⟩
  rw [zE_part]
  unfold b_part
  cases s with
  | inl j =>
    rw [if_neg (show ¬ τ.1 11 = 0 by rw [h.2.2.1]; decide)]
    exact ⟨τ, P, rfl, h, rAg.rf τ, Nat.le_refl _, Nat.le_refl _, fun i p j e => by cases e⟩
  | inr i =>
    have hcn := h.1.cn
    have hi := h.2.2.2.2
    obtain ⟨b1, τ1, g1, q1, y1, n1⟩ := q_skip (h0 := h0) (qs := qs) (m := n + 3) hf hT h (show (609, "len", 211) ∈ zKp by decide) (by omega)
    obtain ⟨b2, τ2, g2, q2, y2, n2⟩ := q_skip (h0 := h0) (qs := qs) (m := n + 3) hf hT h (show (611, "size", 221) ∈ zKp by decide) (by omega)
    rw [if_pos h.2.2.1, g1]
    simp only [zci, aTo, aPt]
    have hP' : P ≤ i := hP
    -- behind len or size
    have L : ∀ k, 0 < k → k < 4 → ∀ τ1, rR T len cnt kk pp ee f d τ1 N S P A C (.inr (i + 1)) → rAg N S P A C τ τ1 → ∃ τ' P', j_part_55 T (zF h0 qs ks T (n + 3)) h0 qs ks (sg g) (nI k) τ1 = some (none, τ') ∧ rR T len cnt kk pp ee f d τ' N S P' A C ((aMs kk 1 (i + 1)).on fun _ j => (Sum.inr ((k, g, i + 1), j) : aR tP)).st ∧ rAg N S P A C τ τ' ∧ P ≤ P' ∧ P' + i ≤ P + aPo cnt ((aMs kk 1 (i + 1)).on fun _ j => (Sum.inr ((k, g, i + 1), j) : aR tP)).st ∧ (∀ p j, ((aMs kk 1 (i + 1)).on fun _ j => (Sum.inr ((k, g, i + 1), j) : aR tP)) = .inr (p, j) → P' = P + 1 ∧ i < j ∧ (τ'.2.2.1 16 P = nI p.1 ∧ τ'.2.2.1 17 P = sg p.2.1 ∧ τ'.2.2.1 18 P = nI p.2.2)) := fun k hk1 hk2 τ1 hn ha => by
      obtain ⟨τ', P', e1, e2, e3, e4, e5, e6⟩ := q_p55 (h0 := h0) (qs := qs) (ks := ks) (m := n + 3) hn (show P ≤ i + 1 by omega) ⟨hk1, hk2⟩ (by omega) (sg g)
      refine ⟨τ', P', e1, ?_⟩
      have ht := ha.tr e3 (Nat.le_refl _) (Nat.le_refl _) (Nat.le_refl _) (Nat.le_refl _) (Nat.le_refl _)
      by_cases c : aIs kk 1 (i + 1) = true
      · have em : aMs kk 1 (i + 1) = .inr ((), i + 2) := by unfold aMs; rw [if_pos c]
        rw [em] at e2 e5 ⊢
        obtain ⟨e7, e8⟩ := e6 c
        refine ⟨e2, ht, e4, ?_, fun p j e => ?_⟩
        · show P' + i ≤ P + (i + 2); omega
        · cases e; exact ⟨e7, by omega, e8⟩
      · have em : aMs kk 1 (i + 1) = .inl (i + 1) := by unfold aMs; rw [if_neg c]
        rw [em] at e2 e5 ⊢
        refine ⟨e2, ht, e4, ?_, fun p j e => by cases e⟩
        have : P' + (i + 1) ≤ P + cnt := e5
        show P' + i ≤ P + cnt; omega
    cases b1 with
    | true =>
      obtain ⟨i', e0, -, c1, e1, e2⟩ := n1 rfl
      cases e0
      rw [if_neg (show ¬ b01 true = 0 by decide), if_pos c1]
      obtain ⟨τ', P', e1, e2, e3, e4, e5, e6⟩ := L 2 (by omega) (by omega) τ1 e1 e2
      exact ⟨τ', P', e1, e2, e3, e4, e5, fun i' p j e => by cases e; rw [if_pos c1]; exact e6 p j⟩
    | false =>
      have c1 : ¬ aIs kk 211 i = true := fun e => by have : false = aIs kk 211 i := q1; rw [e] at this; cases this
      rw [if_pos (show b01 false = 0 from rfl), if_neg c1, y1 rfl, g2]
      simp only [zci]
      cases b2 with
      | true =>
        obtain ⟨i', e0, -, c2, e1, e2⟩ := n2 rfl
        cases e0
        rw [if_neg (show ¬ b01 true = 0 by decide), if_pos c2]
        obtain ⟨τ', P', e1, e2, e3, e4, e5, e6⟩ := L 3 (by omega) (by omega) τ2 e1 e2
        exact ⟨τ', P', e1, e2, e3, e4, e5, fun i' p j e => by cases e; rw [if_neg c1, if_pos c2]; exact e6 p j⟩
      | false =>
        have c2 : ¬ aIs kk 221 i = true := fun e => by have : false = aIs kk 221 i := q2; rw [e] at this; cases this
        rw [if_pos (show b01 false = 0 from rfl), if_neg c2, y2 rfl]
        have k2 := h.1.k2 hi
        simp only [zgd, h.2.2.2.1, zin_n (show i < 2010 by omega) (show 2010 < 2 ^ 31 by decide), if_true, nI_clamp (show i < 2 ^ 31 by omega)]
        by_cases c3 : aIs kk 2 i = true
        · rw [if_pos (k2.mpr c3), if_pos c3]
          unfold j_part_55
          rw [if_pos (show (0 : Int32) ≤ 0 by decide)]
          have hlt := h.1.lt hi (by decide) c3
          obtain ⟨τ', e1, e2, e3, e4⟩ := q_p77 (h0 := h0) (qs := qs) (ks := ks) h hlt hP' (zF h0 qs ks T (n + 3)) (sg g) 0
          exact ⟨τ', P + 1, e1, e2, e3, by omega, by show P + 1 + i ≤ P + (i + 1); omega, fun i' p j e e' => by
            cases e
            rw [if_neg c1, if_neg c2, if_pos c3] at e'
            cases e'
            exact ⟨rfl, by omega, e4⟩⟩
        · rw [if_neg (fun e => c3 (k2.mp e)), if_neg c3]
          obtain ⟨τ', P', e1, e2, e3, e4, e5, e6⟩ := q_p55 (h0 := h0) (qs := qs) (ks := ks) (m := n + 3) h hP' (show 0 < 1 ∧ 1 < 4 by omega) (by omega) (sg g)
          refine ⟨τ', P', e1, ?_⟩
          by_cases c : aIs kk 1 i = true
          · have em : aMs kk 1 i = .inr ((), i + 1) := by unfold aMs; rw [if_pos c]
            rw [em] at e2 e5 ⊢
            obtain ⟨e7, e8⟩ := e6 c
            refine ⟨e2, e3, e4, e5, fun i' p j e e' => ?_⟩
            cases e
            rw [if_neg c1, if_neg c2, if_neg c3, em] at e'
            cases e'
            exact ⟨e7, by omega, e8⟩
          · have em : aMs kk 1 i = .inl i := by unfold aMs; rw [if_neg c]
            rw [em] at e2 e5 ⊢
            refine ⟨e2, e3, e4, e5, fun i' p j e e' => ?_⟩
            cases e
            rw [if_neg c1, if_neg c2, if_neg c3, em] at e'
            cases e'
end RSU
