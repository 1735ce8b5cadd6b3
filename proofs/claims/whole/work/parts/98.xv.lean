/-! the reference while it reads: where it stands, what it keeps -/
/-- what is kept: all but the places that a reading writes -/
def rFz (N S P A C k j : Nat) : Prop := (6 ≤ k → k ≤ 12 → j < N) ∧ (13 ≤ k → k ≤ 15 → j < S) ∧ (16 ≤ k → k ≤ 18 → j < P) ∧ (19 ≤ k → k ≤ 21 → j < A) ∧ (k = 29 → j < C)
def rAg (N S P A C : Nat) (τ τ' : zSt) : Prop := τ'.2.1 = τ.2.1 ∧ τ'.2.2.2 = τ.2.2.2 ∧ (∀ k, k ≠ 10 → k ≠ 11 → k ≠ 12 → k ≠ 20 → k ≠ 24 → k ≠ 28 → k ≠ 32 → k ≠ 33 → k ≠ 45 → τ'.1 k = τ.1 k) ∧ ∀ k j, rFz N S P A C k j → τ'.2.2.1 k j = τ.2.2.1 k j
theorem rAg.rf {N S P A C : Nat} (τ : zSt) : rAg N S P A C τ τ := ⟨rfl, rfl, fun _ _ _ _ _ _ _ _ _ _ => rfl, fun _ _ _ => rfl⟩
theorem rAg.tr {N S P A C N' S' P' A' C' : Nat} {τ τ' τ'' : zSt} (h : rAg N S P A C τ τ') (h' : rAg N' S' P' A' C' τ' τ'') (hN : N ≤ N') (hS : S ≤ S') (hP : P ≤ P') (hA : A ≤ A') (hC : C ≤ C') : rAg N S P A C τ τ'' := by
  refine ⟨h'.1.trans h.1, h'.2.1.trans h.2.1, fun k a1 a2 a3 a4 a5 a6 a7 a8 a9 => (h'.2.2.1 k a1 a2 a3 a4 a5 a6 a7 a8 a9).trans (h.2.2.1 k a1 a2 a3 a4 a5 a6 a7 a8 a9), fun k j g => ?_⟩
  refine (h'.2.2.2 k j ⟨fun a b => ?_, fun a b => ?_, fun a b => ?_, fun a b => ?_, fun a => ?_⟩).trans (h.2.2.2 k j g)
  · have := g.1 a b; omega
  · have := g.2.1 a b; omega
  · have := g.2.2.1 a b; omega
  · have := g.2.2.2.1 a b; omega
  · have := g.2.2.2.2 a; omega
theorem rAg.i {N S P A C k : Nat} {τ τ' : zSt} {v : Int32} (h : rAg N S P A C τ τ') (hk : k = 10 ∨ k = 11 ∨ k = 12 ∨ k = 20 ∨ k = 24 ∨ k = 28 ∨ k = 32 ∨ k = 33 ∨ k = 45) : rAg N S P A C τ (zI τ' k v) := by
  refine ⟨h.1, h.2.1, fun q a1 a2 a3 a4 a5 a6 a7 a8 a9 => ?_, h.2.2.2⟩
  show (if q = k then v else τ'.1 q) = _
  rw [if_neg (by omega)]
  exact h.2.2.1 q a1 a2 a3 a4 a5 a6 a7 a8 a9
/-- a row is written behind what is kept -/
theorem rAg.a {N S P A C k x : Nat} {τ τ' : zSt} {v : Int32} (h : rAg N S P A C τ τ') (hk : ¬ rFz N S P A C k x) : rAg N S P A C τ (zA τ' k (upd (τ'.2.2.1 k) x v)) := by
  refine ⟨h.1, h.2.1, h.2.2.1, fun q j g => ?_⟩
  show (if q = k then upd (τ'.2.2.1 k) x v else τ'.2.2.1 q) j = _
  by_cases c : q = k
  · subst c
    rw [if_pos rfl]
    have : j ≠ x := fun e => hk (e ▸ g)
    rw [upd_ne _ _ this]
    exact h.2.2.2 q j g
  · rw [if_neg c]
    exact h.2.2.2 q j g
theorem rFz.n6 {N S P A C k x : Nat} (h1 : 6 ≤ k) (h2 : k ≤ 12) (h : N ≤ x) : ¬ rFz N S P A C k x := fun g => by have := g.1 h1 h2; omega
theorem rFz.n13 {N S P A C k x : Nat} (h1 : 13 ≤ k) (h2 : k ≤ 15) (h : S ≤ x) : ¬ rFz N S P A C k x := fun g => by have := g.2.1 h1 h2; omega
theorem rFz.n16 {N S P A C k x : Nat} (h1 : 16 ≤ k) (h2 : k ≤ 18) (h : P ≤ x) : ¬ rFz N S P A C k x := fun g => by have := g.2.2.1 h1 h2; omega
theorem rFz.n19 {N S P A C k x : Nat} (h1 : 19 ≤ k) (h2 : k ≤ 21) (h : A ≤ x) : ¬ rFz N S P A C k x := fun g => by have := g.2.2.2.1 h1 h2; omega
theorem rFz.n29 {N S P A C x : Nat} (h : C ≤ x) : ¬ rFz N S P A C 29 x := fun g => by have := g.2.2.2.2 rfl; omega
theorem rFz.lo {N S P A C k j : Nat} (h : k < 6) : rFz N S P A C k j := ⟨fun a _ => by omega, fun a _ => by omega, fun a _ => by omega, fun a _ => by omega, fun a => by omega⟩
theorem rAg.row {N S P A C k : Nat} {τ τ' : zSt} (h : rAg N S P A C τ τ') (hk : k < 6) : τ'.2.2.1 k = τ.2.2.1 k := funext fun j => h.2.2.2 k j (rFz.lo hk)
theorem rAg.w {N S P A C T len cnt : Nat} {kk pp ee f : Nat → Int32} {τ τ' : zSt} (h : rAg N S P A C τ τ') (hw : rW τ T len cnt kk pp ee f) : rW τ' T len cnt kk pp ee f := hw.keep (h.row (by omega)) (h.row (by omega)) (h.row (by omega)) (h.row (by omega))
/-- at word i without a fault, or with a fault of grammar at word j -/
def rOs (pp : Nat → Int32) (cnt : Nat) (τ : zSt) (s : Sum Nat Nat) : Prop := match s with
  | .inr i => τ.1 11 = 0 ∧ τ.1 10 = nI i ∧ i ≤ cnt
  | .inl j => τ.1 11 = 2 ∧ τ.1 12 = pp j ∧ j ≤ cnt ∧ ∃ w, w ≤ cnt + 1 ∧ τ.1 10 = nI w
def rR (T len cnt : Nat) (kk pp ee f : Nat → Int32) (d : Nat) (τ : zSt) (N S P A C : Nat) (s : Sum Nat Nat) : Prop := rW τ T len cnt kk pp ee f ∧ (τ.1 33 = nI d ∧ τ.1 20 = nI N ∧ τ.1 24 = nI S ∧ τ.1 28 = nI P ∧ τ.1 32 = nI A ∧ τ.1 45 = nI C) ∧ rOs pp cnt τ s
/-- how far a reading stands -/
def aPo (cnt : Nat) (s : Sum Nat Nat) : Nat := match s with
  | .inr i => i
  | .inl _ => cnt
/-- does this word stand here -/
def aHr (kk : Nat → Int32) (k : Nat) (s : Sum Nat Nat) : Bool := match s with
  | .inl _ => false
  | .inr i => aIs kk k i
/-- the word of a fault here -/
def aWr (s : Sum Nat Nat) : Nat := match s with
  | .inl j => j
  | .inr i => i
section RST
variable {κ : oKv} {ks : Nat → Nat} {qs : List Nat} {T m h0 len cnt sz d N S P A C : Nat} {τ : zSt} {s : Sum Nat Nat} {kk pp ee f : Nat → Int32} {p : Nat × String × Nat}
theorem rW.cn (h : rW τ T len cnt kk pp ee f) : cnt ≤ 2000 := by
  have := h.2.2.2.2.2.2
  omega
/-- a code that is none at the end -/
theorem rW.lt (h : rW τ T len cnt kk pp ee f) {i k : Nat} (hi : i ≤ cnt) (hk : 0 < k ∧ k < 400) (g : aIs kk k i = true) : i < cnt := by
  by_cases c : i < cnt
  · exact c
  · exfalso
    have e : i = cnt := by omega
    have g' : kk i = nI k := of_decide_eq_true g
    rw [e, h.2.2.2.2.2.1.1] at g'
    have := nI_inj' (a := 0) (by omega) (by omega) g'
    omega
theorem rW.k1 (h : rW τ T len cnt kk pp ee f) {i : Nat} (hi : i ≤ cnt) : (τ.2.2.1 3 i = 1) ↔ aIs kk 1 i = true := by
  rw [h.kd hi]
  unfold aIs
  rw [decide_eq_true_iff]
  by_cases c : i < cnt
  · rw [if_pos c]
    unfold kMap
    by_cases c1 : kk i = 1
    · rw [if_pos c1]; exact ⟨fun _ => c1, fun _ => rfl⟩
    · rw [if_neg c1]
      by_cases c2 : kk i = 2
      · rw [if_pos c2, c2]; decide
      · rw [if_neg c2]; exact ⟨fun e => absurd e (by decide), fun e => absurd e c1⟩
  · have e : i = cnt := by omega
    rw [if_neg c, e, h.2.2.2.2.2.1.1]; decide
theorem rW.k2 (h : rW τ T len cnt kk pp ee f) {i : Nat} (hi : i ≤ cnt) : (τ.2.2.1 3 i = 2) ↔ aIs kk 2 i = true := by
  rw [h.kd hi]
  unfold aIs
  rw [decide_eq_true_iff]
  by_cases c : i < cnt
  · rw [if_pos c]
    unfold kMap
    by_cases c1 : kk i = 1
    · rw [if_pos c1, c1]; decide
    · rw [if_neg c1]
      by_cases c2 : kk i = 2
      · rw [if_pos c2]; exact ⟨fun _ => c2, fun _ => rfl⟩
      · rw [if_neg c2]; exact ⟨fun e => absurd e (by decide), fun e => absurd e c2⟩
  · have e : i = cnt := by omega
    rw [if_neg c, e, h.2.2.2.2.2.1.1]; decide
theorem rR.wd (h : rR T len cnt kk pp ee f d τ N S P A C s) : ∃ w, w ≤ cnt + 1 ∧ τ.1 10 = nI w := by
  obtain ⟨-, -, h3⟩ := h
  cases s with
  | inl j => exact h3.2.2.2
  | inr i => exact ⟨i, by have := h3.2.2; omega, h3.2.1⟩
/-- to another state that differs in 10, 11, 12 alone -/
theorem rR.to (h : rR T len cnt kk pp ee f d τ N S P A C s) {τ' : zSt} {s' : Sum Nat Nat} (h2 : τ'.2 = τ.2) (hk : ∀ k, k ≠ 10 → k ≠ 11 → k ≠ 12 → τ'.1 k = τ.1 k) (ho : rOs pp cnt τ' s') : rR T len cnt kk pp ee f d τ' N S P A C s' ∧ rAg N S P A C τ τ' := by
  obtain ⟨h1, ⟨a1, a2, a3, a4, a5, a6⟩, -⟩ := h
  refine ⟨⟨h1.keep (by rw [h2]) (by rw [h2]) (by rw [h2]) (by rw [h2]), ⟨?_, ?_, ?_, ?_, ?_, ?_⟩, ho⟩, by rw [h2], by rw [h2], fun k b1 b2 b3 _ _ _ _ _ _ => hk k b1 b2 b3, fun k j _ => by rw [h2]⟩
  · rw [hk 33 (by decide) (by decide) (by decide)]; exact a1
  · rw [hk 20 (by decide) (by decide) (by decide)]; exact a2
  · rw [hk 24 (by decide) (by decide) (by decide)]; exact a3
  · rw [hk 28 (by decide) (by decide) (by decide)]; exact a4
  · rw [hk 32 (by decide) (by decide) (by decide)]; exact a5
  · rw [hk 45 (by decide) (by decide) (by decide)]; exact a6
/-- to the next word -/
theorem rR.nx {i : Nat} (h : rR T len cnt kk pp ee f d τ N S P A C (.inr i)) (hi : i < cnt) : rR T len cnt kk pp ee f d (zI τ 10 (nI (i + 1))) N S P A C (.inr (i + 1)) ∧ rAg N S P A C τ (zI τ 10 (nI (i + 1))) :=
  h.to rfl (fun k a _ _ => by show (if k = 10 then _ else _) = _; rw [if_neg a]) ⟨h.2.2.1, rfl, by omega⟩
/-- to a fault -/
theorem rR.ft {i : Nat} (h : rR T len cnt kk pp ee f d τ N S P A C (.inr i)) : rR T len cnt kk pp ee f d (rFl τ 2 (pp i)) N S P A C (.inl i) ∧ rAg N S P A C τ (rFl τ 2 (pp i)) := by
  have e : rFl τ 2 (pp i) = zI (zI τ 11 2) 12 (pp i) := by unfold rFl; rw [if_pos h.2.2.1]
  rw [e]
  refine h.to rfl (fun k _ a b => ?_) ⟨rfl, rfl, h.2.2.2.2, i, by have := h.2.2.2.2; omega, h.2.2.2.1⟩
  show (if k = 12 then _ else if k = 11 then _ else _) = _
  rw [if_neg b, if_neg a]
theorem rFl_bad {j : Nat} (h : rR T len cnt kk pp ee f d τ N S P A C (.inl j)) (x : Int32) : rFl τ 2 x = τ := by
  unfold rFl
  rw [if_neg]
  rw [h.2.2.1]
  decide
/-- form(): a fault here, if there was none -/
theorem q_form (h : rR T len cnt kk pp ee f d τ N S P A C s) (hm : 2 ≤ m) : ∃ τ', zF h0 qs ks T m 13 [.ref h0] τ = some (none, τ') ∧ rR T len cnt kk pp ee f d τ' N S P A C (.inl (aWr s)) ∧ rAg N S P A C τ τ' := by
  obtain ⟨n, rfl⟩ : ∃ n, m = n + 2 := ⟨m - 2, by omega⟩
  cases s with
  | inr i =>
    refine ⟨_, j_form h.1 h.2.2.2.2 h.2.2.2.1, ?_⟩
    exact h.ft
  | inl j =>
    obtain ⟨w, w1, w2⟩ := h.wd
    refine ⟨τ, ?_, h, rAg.rf τ⟩
    rw [r_form (by have := h.1.cn; omega) w2, rFl_bad h]
theorem q_here (hf : lFacts κ ks sz) (hT : 2010 ≤ T) (h : rR T len cnt kk pp ee f d τ N S P A C s) (hp : p ∈ zKp) (hm : 2 ≤ m) : ∃ b, zF h0 qs ks T m 11 [.ref h0, .ref (ks p.1)] τ = some (some (.int (b01 b)), τ) ∧ b = aHr kk p.2.2 s := by
  obtain ⟨n, rfl⟩ : ∃ n, m = n + 2 := ⟨m - 2, by omega⟩
  cases s with
  | inr i =>
    rw [j_here hf hp h.1 h.2.2.2.2 h.2.2.2.1 hT, decide_eq_true h.2.2.1, Bool.true_and]
    exact ⟨_, rfl, rfl⟩
  | inl j =>
    rw [zE_here]
    unfold b_here
    rw [if_neg (show ¬ τ.1 11 = 0 by rw [h.2.2.1]; decide)]
    exact ⟨false, rfl, rfl⟩
theorem q_skip (hf : lFacts κ ks sz) (hT : 2010 ≤ T) (h : rR T len cnt kk pp ee f d τ N S P A C s) (hp : p ∈ zKp) (hm : 3 ≤ m) : ∃ b τ', zF h0 qs ks T m 12 [.ref h0, .ref (ks p.1)] τ = some (some (.int (b01 b)), τ') ∧ b = aHr kk p.2.2 s ∧ (b = false → τ' = τ) ∧ (b = true → ∃ i, s = .inr i ∧ i < cnt ∧ aIs kk p.2.2 i = true ∧ rR T len cnt kk pp ee f d τ' N S P A C (.inr (i + 1)) ∧ rAg N S P A C τ τ') := by
  obtain ⟨n, rfl⟩ : ∃ n, m = n + 3 := ⟨m - 3, by omega⟩
  obtain ⟨b, hh, hb⟩ := q_here (h0 := h0) (qs := qs) (m := n + 2) hf hT h hp (by omega)
  cases s with
  | inr i =>
    rw [j_skip hf hp h.1 h.2.2.2.2 h.2.2.2.1 hT, decide_eq_true h.2.2.1, Bool.true_and]
    refine ⟨_, _, rfl, rfl, fun e => ?_, fun e => ?_⟩
    · rw [if_neg (fun g => by rw [g] at e; cases e)]
    · have hlt := h.1.lt h.2.2.2.2 (of_decide_eq_true (List.all_eq_true.mp zKp_pos p hp)) e
      rw [if_pos e]
      exact ⟨i, rfl, hlt, e, h.nx hlt⟩
  | inl j =>
    rw [zE_skip]
    unfold b_skip
    rw [hh, hb]
    exact ⟨false, τ, rfl, rfl, fun _ => rfl, fun e => by cases e⟩
theorem q_must (hf : lFacts κ ks sz) (hT : 2010 ≤ T) (h : rR T len cnt kk pp ee f d τ N S P A C s) (hp : p ∈ zKp) (hm : 4 ≤ m) : ∃ τ', zF h0 qs ks T m 14 [.ref h0, .ref (ks p.1)] τ = some (none, τ') ∧ rR T len cnt kk pp ee f d τ' N S P A C (aTo s (aMs kk p.2.2)) ∧ rAg N S P A C τ τ' := by
  obtain ⟨n, rfl⟩ : ∃ n, m = n + 4 := ⟨m - 4, by omega⟩
  obtain ⟨b, τ2, hs, hb, hb0, hb1⟩ := q_skip (h0 := h0) (qs := qs) (m := n + 3) hf hT h hp (by omega)
  obtain ⟨τ1, f1, f2, f3⟩ := q_form (h0 := h0) (qs := qs) (ks := ks) (m := n + 3) h (by omega)
  rw [zE_must]
  unfold b_must
  rw [hs]
  simp only [zci]
  cases b with
  | false =>
    rw [hb0 rfl, if_pos (show b01 false = 0 from rfl)]
    simp only [f1, zcv]
    refine ⟨τ1, rfl, ?_, f3⟩
    cases s with
    | inl j => exact f2
    | inr i =>
      rw [aTo_ok]
      unfold aMs
      rw [if_neg (fun g => by have : false = aIs kk p.2.2 i := hb; rw [g] at this; cases this)]
      exact f2
  | true =>
    obtain ⟨i, e1, -, e2, e3, e4⟩ := hb1 rfl
    rw [if_neg (show ¬ b01 true = 0 by decide)]
    refine ⟨τ2, rfl, ?_, e4⟩
    rw [e1, aTo_ok]
    unfold aMs
    rw [if_pos e2]
    exact e3
theorem q_name (h : rR T len cnt kk pp ee f d τ N S P A C s) (hm : 3 ≤ m) : ∃ (x : Int32) (τ' : zSt), zF h0 qs ks T m 15 [.ref h0] τ = some (some (.int x), τ') ∧ rR T len cnt kk pp ee f d τ' N S P A C (aTo s (aMs kk 1)) ∧ rAg N S P A C τ τ' ∧ ∀ i, s = .inr i → aIs kk 1 i = true → x = nI i := by
  obtain ⟨n, rfl⟩ : ∃ n, m = n + 3 := ⟨m - 3, by omega⟩
  obtain ⟨w, w1, w2⟩ := h.wd
  rw [r_nm (by have := h.1.cn; omega) w2]
  cases s with
  | inl j =>
    rw [if_neg (show ¬ τ.1 11 = 0 by rw [h.2.2.1]; decide)]
    exact ⟨_, _, rfl, h, rAg.rf τ, fun i e => by cases e⟩
  | inr i =>
    have hw : w = i := nI_inj' (by have := h.1.cn; omega) (by have := h.1.cn; have := h.2.2.2.2; omega) (w2.symm.trans h.2.2.2.1)
    subst hw
    rw [if_pos h.2.2.1]
    simp only [aTo, aMs]
    by_cases g : aIs kk 1 w = true
    · rw [if_pos ((h.1.k1 h.2.2.2.2).mpr g), if_pos g]
      have hn := h.nx (h.1.lt h.2.2.2.2 (by decide) g)
      exact ⟨_, _, rfl, hn.1, hn.2, fun i e _ => by cases e; rfl⟩
    · rw [if_neg (fun e => g ((h.1.k1 h.2.2.2.2).mp e)), if_neg g, h.1.pl h.2.2.2.2]
      exact ⟨_, _, rfl, h.ft.1, h.ft.2, fun i e g' => by cases e; exact absurd g' g⟩
end RST
