/-! the class's gather(): shape() as a whole -/
/-- ways in a type -/
def vPt : tY → List Bool → Bool
  | _, [] => true
  | .leaf, _ :: _ => false
  | .inner k _ _ a b, c :: r => decide (k = 0) && (if c = true then vPt b r else vPt a r)
/-- the places of a TEMPLATE lie within a and b, each in its own cell -/
def kTj (Ψ : kGh) : tY → gTm → Nat → Nat → Prop
  | .leaf, m, a, b => a ≤ Ψ.2.1 (m.1, m.2.1) ∧ Ψ.2.1 (m.1, m.2.1) < b
  | .inner k _ _ ya yb, m, a, b => (a ≤ Ψ.2.1 (m.1, m.2.1) ∧ Ψ.2.1 (m.1, m.2.1) < b) ∧ (k = 0 → ∃ c, Ψ.2.1 (m.1, m.2.1) < c ∧ kTj Ψ ya (mTk m) (Ψ.2.1 (m.1, m.2.1) + 1) c ∧ kTj Ψ yb (mAn m) c b)
section KTJ
variable {Ψ Ψ' : kGh}
theorem kTj.ag : ∀ (t : tY) (m : gTm) {a b : Nat}, agB Ψ Ψ' m → kTj Ψ t m a b → kTj Ψ' t m a b
  | .leaf, m, a, b, h, h1 => by
    unfold kTj at h1 ⊢
    rw [h.hd.1]; exact h1
  | .inner k _ _ ya yb, m, a, b, h, h1 => by
    unfold kTj at h1 ⊢
    rw [h.hd.1]
    refine ⟨h1.1, fun z => ?_⟩
    obtain ⟨c, c1, c2, c3⟩ := h1.2 z
    exact ⟨c, c1, kTj.ag ya _ h.tk c2, kTj.ag yb _ h.an c3⟩
theorem kTj.up : ∀ (t : tY) (m : gTm) {a b a' b' : Nat}, a' ≤ a → b ≤ b' → kTj Ψ t m a b → kTj Ψ t m a' b'
  | .leaf, m, a, b, a', b', ha, hb, h1 => ⟨Nat.le_trans ha h1.1, Nat.lt_of_lt_of_le h1.2 hb⟩
  | .inner k _ _ ya yb, m, a, b, a', b', ha, hb, h1 => ⟨⟨Nat.le_trans ha h1.1.1, Nat.lt_of_lt_of_le h1.1.2 hb⟩, fun z => by
    obtain ⟨c, c1, c2, c3⟩ := h1.2 z
    exact ⟨c, c1, c2, kTj.up yb _ (Nat.le_refl _) hb c3⟩⟩
theorem kTj.bd : ∀ (t : tY) (m : gTm) {a b : Nat} (r : List Bool), kTj Ψ t m a b → vPt t r = true → a ≤ Ψ.2.1 (m.1, m.2.1 ++ r) ∧ Ψ.2.1 (m.1, m.2.1 ++ r) < b
  | .leaf, m, a, b, [], h, _ => by rw [List.append_nil]; exact h
  | .leaf, _, _, _, _ :: _, _, v => by cases v
  | .inner k _ _ ya yb, m, a, b, [], h, _ => by rw [List.append_nil]; exact h.1
  | .inner k _ _ ya yb, m, a, b, c :: r, h, v => by
    have v : (decide (k = 0) && (if c = true then vPt yb r else vPt ya r)) = true := v
    rw [Bool.and_eq_true] at v
    obtain ⟨e, e1, e2, e3⟩ := h.2 (of_decide_eq_true v.1)
    obtain ⟨h0, h0'⟩ := h.1
    have v2 := v.2
    cases c with
    | true =>
      have := kTj.bd yb (mAn m) r e3 v2
      have e4 : (mAn m).1 = m.1 ∧ (mAn m).2.1 ++ r = m.2.1 ++ (true :: r) := ⟨rfl, by show m.2.1 ++ [true] ++ r = _; rw [List.append_assoc]; rfl⟩
      rw [e4.1, e4.2] at this
      omega
    | false =>
      have := kTj.bd ya (mTk m) r e2 v2
      have e4 : (mTk m).1 = m.1 ∧ (mTk m).2.1 ++ r = m.2.1 ++ (false :: r) := ⟨rfl, by show m.2.1 ++ [false] ++ r = _; rw [List.append_assoc]; rfl⟩
      rw [e4.1, e4.2] at this
      have e5 := kTj.bd yb (mAn m) [] e3 (by cases yb <;> rfl)
      omega
theorem kTj.inj : ∀ (t : tY) (m : gTm) {a b : Nat} (r r' : List Bool), kTj Ψ t m a b → vPt t r = true → vPt t r' = true → Ψ.2.1 (m.1, m.2.1 ++ r) = Ψ.2.1 (m.1, m.2.1 ++ r') → r = r'
  | _, _, _, _, [], [], _, _, _, _ => rfl
  | .leaf, _, _, _, _ :: _, _, _, v, _, _ => by cases v
  | .leaf, _, _, _, _, _ :: _, _, _, v, _ => by cases v
  | .inner k u1 u2 ya yb, m, a, b, [], c :: r, h, _, v, e => by
    have v : (decide (k = 0) && (if c = true then vPt yb r else vPt ya r)) = true := v
    rw [Bool.and_eq_true] at v
    obtain ⟨e0, e1, e2, e3⟩ := h.2 (of_decide_eq_true v.1)
    have v2 := v.2
    rw [List.append_nil] at e
    cases c with
    | true =>
      have := kTj.bd yb (mAn m) r e3 v2
      have e4 : (mAn m).1 = m.1 ∧ (mAn m).2.1 ++ r = m.2.1 ++ (true :: r) := ⟨rfl, by show m.2.1 ++ [true] ++ r = _; rw [List.append_assoc]; rfl⟩
      rw [e4.1, e4.2, ← e] at this
      omega
    | false =>
      have := kTj.bd ya (mTk m) r e2 v2
      have e4 : (mTk m).1 = m.1 ∧ (mTk m).2.1 ++ r = m.2.1 ++ (false :: r) := ⟨rfl, by show m.2.1 ++ [false] ++ r = _; rw [List.append_assoc]; rfl⟩
      rw [e4.1, e4.2, ← e] at this
      omega
  | .inner k u1 u2 ya yb, m, a, b, c :: r, [], h, v, v', e => by
    have v : (decide (k = 0) && (if c = true then vPt yb r else vPt ya r)) = true := v
    rw [Bool.and_eq_true] at v
    obtain ⟨e0, e1, e2, e3⟩ := h.2 (of_decide_eq_true v.1)
    have v2 := v.2
    rw [List.append_nil] at e
    cases c with
    | true =>
      have := kTj.bd yb (mAn m) r e3 v2
      have e4 : (mAn m).1 = m.1 ∧ (mAn m).2.1 ++ r = m.2.1 ++ (true :: r) := ⟨rfl, by show m.2.1 ++ [true] ++ r = _; rw [List.append_assoc]; rfl⟩
      rw [e4.1, e4.2, e] at this
      omega
    | false =>
      have := kTj.bd ya (mTk m) r e2 v2
      have e4 : (mTk m).1 = m.1 ∧ (mTk m).2.1 ++ r = m.2.1 ++ (false :: r) := ⟨rfl, by show m.2.1 ++ [false] ++ r = _; rw [List.append_assoc]; rfl⟩
      rw [e4.1, e4.2, e] at this
      omega
  | .inner k u1 u2 ya yb, m, a, b, c :: r, c' :: r', h, v, v', e => by
    have v : (decide (k = 0) && (if c = true then vPt yb r else vPt ya r)) = true := v
    have v' : (decide (k = 0) && (if c' = true then vPt yb r' else vPt ya r')) = true := v'
    rw [Bool.and_eq_true] at v v'
    obtain ⟨e0, e1, e2, e3⟩ := h.2 (of_decide_eq_true v.1)
    have v2 := v.2
    have v2' := v'.2
    have t4 : ∀ r, (mAn m).1 = m.1 ∧ (mAn m).2.1 ++ r = m.2.1 ++ (true :: r) := fun r => ⟨rfl, by show m.2.1 ++ [true] ++ r = _; rw [List.append_assoc]; rfl⟩
    have f4 : ∀ r, (mTk m).1 = m.1 ∧ (mTk m).2.1 ++ r = m.2.1 ++ (false :: r) := fun r => ⟨rfl, by show m.2.1 ++ [false] ++ r = _; rw [List.append_assoc]; rfl⟩
    cases c with
    | true =>
      cases c' with
      | true =>
        rw [← (t4 r).2, ← (t4 r').2] at e
        rw [kTj.inj yb (mAn m) r r' e3 v2 v2' e]
      | false =>
        have x1 := kTj.bd yb (mAn m) r e3 v2
        have x2 := kTj.bd ya (mTk m) r' e2 v2'
        rw [(t4 r).1, (t4 r).2] at x1
        rw [(f4 r').1, (f4 r').2, ← e] at x2
        omega
    | false =>
      cases c' with
      | true =>
        have x1 := kTj.bd ya (mTk m) r e2 v2
        have x2 := kTj.bd yb (mAn m) r' e3 v2'
        rw [(f4 r).1, (f4 r).2] at x1
        rw [(t4 r').1, (t4 r').2, ← e] at x2
        omega
      | false =>
        rw [← (f4 r).2, ← (f4 r').2] at e
        rw [kTj.inj ya (mTk m) r r' e2 v2 v2' e]
end KTJ
/-- what shape() leaves: R the answer -/
def shR (st : Nat) (l : Nat → Nat) (b0 : Nat) (nq : tQ → Int) (xs : List tQ) (pg ch ty : Nat) (cf : List Value) (At : Nat → Nat) (mo : Nat) (g : gG) (ρ : Nat → tY) (lv ov : Int32) (y : tY) (m : gTm) (Ψ : kGh) (Ls : List Nat) (σ : oSt) (R : oRs) : Prop := ∃ σ' Ψ' Ls', R = some (some (va_rf (some (Ψ'.2.1 (m.1, m.2.1)))), σ') ∧ (kTo st l b0 nq xs Ψ' σ' y m ∧ kTp (fun x => σ.2.1 ≤ x) Ψ' y m ∧ (kTj Ψ' y m σ.2.1 σ'.2.1 ∧ kNj Ψ'.1 y m σ.2.1 σ'.2.1)) ∧ tpS st l b0 nq xs Ψ'.2.2.1 pg ch ty cf At mo g ρ lv ov Ψ'.1 m.2.2.2.2 Ls' σ' ∧ gDf m σ Ψ Ψ' ∧ (gKp st l b0 (fun x => ∃ w, w ∈ m.2.2.2.1 ∧ x = Ψ.1 (.inl w)) σ σ' ∧ shX st σ σ') ∧ ((∀ z, z ∈ Ls → z ∈ Ls') ∧ ∀ z, z ∈ Ls' → z ∈ Ls ∨ σ.2.1 ≤ z) ∧ gPl2 xs.length Ls Ls' σ σ' (tCn xs y) (tCs xs y m.2.2.2.2.length) ∧ toK Ψ' σ' y m
theorem pth_ne {k : Nat} {p r : List Bool} {b : Bool} : (k, p) ≠ (k, p ++ [b] ++ r) := fun z => by
  have := congrArg List.length (Prod.mk.inj z).2
  rw [List.length_append, List.length_append] at this
  have h1 : [b].length = 1 := rfl
  omega
theorem pth_bn {k : Nat} {p r r' : List Bool} {b c : Bool} (h : b ≠ c) : (k, p ++ [b] ++ r) ≠ (k, p ++ [c] ++ r') := fun z => by
  have := (Prod.mk.inj z).2
  rw [List.append_assoc, List.append_assoc] at this
  have := List.append_cancel_left this
  injection this with this _
  exact h this
theorem mPn_ne {m : gTm} (b : Bool) (r : List Bool) : mPn m ≠ .inr (m.1, m.2.1 ++ [b] ++ r) := by
  unfold mPn
  split
  · intro z
    injection z with z
    exact pth_ne z
  · intro z; cases z
theorem gAt.ag {Ψ : kGh} {m : gTm} {w : Nat} (b : Bool) {m' : gTm} (e1 : m'.1 = m.1) (e2 : m'.2.1 = m.2.1 ++ [b]) : agB Ψ (gAt Ψ m w Ψ.2.2.1) m' := ⟨fun r => by rw [e1, e2]; exact if_neg (fun z => pth_ne z.symm), fun _ => rfl, fun _ => rfl, fun _ _ => rfl⟩
section SHP
variable {κ : oKv} {T : Nat} {st : Nat} {l : Nat → Nat} {b0 : Nat} {nq : tQ → Int} {xs : List tQ} {pg ch ty : Nat} {cf : List Value} {At : Nat → Nat} {mo : Nat} {g : gG} {ρ : Nat → tY} {lv ov : Int32}
set_option maxHeartbeats 1600000 in
/-- **shape()** -/
theorem c_shape (hT : 9010 ≤ T) (hnq : ∀ x, x ∈ xs → -1125899906842624 ≤ nq x ∧ nq x ≤ 1125899906842624) (hcf : cfO pg ty st cf) (y : tY) : ∀ (N c i : Nat) (m : gTm) (nl : Option Nat) (Ψ : kGh) (Ls : List Nat) (σ : oSt), 7 + yDp y ≤ N → ρ c = y → c < g.n → m.2.2.1 = y → tpS st l b0 nq xs Ψ.2.2.1 pg ch ty cf At mo g ρ lv ov Ψ.1 m.2.2.2.2 Ls σ → toN κ nl i Ψ.1 m.2.2.2.1 σ → toB Ψ.1 Ls m.2.2.2.1 y σ → (m.2.2.2.1.map (fun w => Ψ.1 (.inl w))).Nodup → (∀ s, s ∈ m.2.2.2.2 → (∀ w, w ∈ m.2.2.2.1 → Ψ.1 s ≠ Ψ.1 (.inl w)) ∧ ∀ r, s ≠ .inr (m.1, m.2.1 ++ r)) → m.2.2.2.2.length + ySx y ≤ 72 → i + yDp y ≤ 60 → shR st l b0 nq xs pg ch ty cf At mo g ρ lv ov y m Ψ Ls σ (oF κ T N 27 [va_rf (some ch), .int (nI c), va_rf nl, .int (nI i)] σ) := by
  induction y with
  | leaf =>
    intro N c i m nl Ψ Ls σ hN hρ hc hm h tn tb nd sp hS hi
    have yw := h.2.2.2.2.2.2.w _ c (Nat.le_refl _) hc
    rw [hρ] at yw
    exact absurd yw (fun z => z)
  | inner k u1 u2 a b iha ihb =>
    intro N c i m nl Ψ Ls σ hN hρ hc hm h tn tb nd sp hS hi
    have yw := h.2.2.2.2.2.2.w _ c (Nat.le_refl _) hc
    rw [hρ] at yw
    by_cases hk : k = 0
    · subst hk
      have ywa : yW a := yw.1
      have hD : yDp (.inner 0 u1 u2 a b) = max (yDp a) (yDp b) + 1 := rfl
      have hX : ySx (.inner 0 u1 u2 a b) = max (ySx a) (ySx b + if gMs a = true then 1 else 0) := rfl
      rw [hD] at hN hi
      rw [hX] at hS
      obtain ⟨n, rfl⟩ : ∃ n, N = n + 8 := ⟨N - 8, by omega⟩
      have hfr := h.1.1
      have hs0 := h.2.2.2.2.1.ne
      have ck : cKd (yK (ρ c)) = 206 := by rw [hρ]; rfl
      have R := c_sh0 (κ := κ) (T := T) (n := n + 5) (nl := nl) (x3 := nI i) hT hcf h hc
      rw [if_pos ck, if_neg (show ¬ (60 : Int32) < nI i from Int32.not_lt.mpr (nI_le (a := i) (b := 60) (by omega) (by decide))), ck] at R
      have o : oNl σ (onew σ (.inr (4, kF0 206 σ.2.1 none none)) 15) 1 15 := oNl.new hfr
      obtain ⟨t1, tp1, kp1, sh1⟩ := h.nw (W := fun x => (∃ w, w ∈ m.2.2.2.1 ∧ x = Ψ.1 (.inl w)) ∨ σ.2.1 ≤ x) o (fun x fs hx e => by
        by_cases z : x = σ.2.1
        · rw [z, onew_eq] at e; cases e
        · rw [onew_ne z, hfr x hx] at e; cases e)
      have hw1 : (onew σ (.inr (4, kF0 206 σ.2.1 none none)) 15).1 σ.2.1 = some (.inr (4, kF0 206 σ.2.1 none none)) := onew_eq _ _ _
      have n1 : (onew σ (.inr (4, kF0 206 σ.2.1 none none)) 15).2 = (σ.2.1 + 1, σ.2.2.1 + 1, σ.2.2.2 + 15) := o.2.2
      generalize onew σ (.inr (4, kF0 206 σ.2.1 none none)) 15 = σ1 at R t1 tp1 kp1 sh1 hw1 n1
      -- the told list
      have R1 : oF κ T (n + 8) 27 [va_rf (some ch), .int (nI c), va_rf nl, .int (nI i)] σ = oj_X0_shape_51 T (oF κ T (n + 7)) κ (some ch) (nI c) nl (nI i) (some σ.2.1) (if m.2.2.2.1 = [] then (0 : Int32) else 1) σ1 := by
        refine R.trans ?_
        rcases tn.sp sh1 kp1 hs0 (fun _ => rfl) with ⟨e1, e2⟩ | ⟨x, d, cap, len, mc, gl, e1, e2, e3, e4, e5⟩
        · rw [if_pos e1, if_pos e2]; rfl
        · subst e1
          rw [if_neg (by intro z; cases z), oob_at e2.1, obn_at, l_sz e2, oin_at]
          by_cases q : len ≤ i
          · rw [if_pos (nI_le q (by omega)), if_pos (List.length_eq_zero_iff.mp (by omega))]
            rfl
          · rw [if_neg (fun z => absurd z (Int32.not_le.mpr (nI_lt (a := i) (b := len) (by omega) (by omega)))), if_neg (fun z => by rw [z] at e4; have e4 : 0 = len - i := e4; omega)]
      rw [R1]
      clear R R1
      obtain ⟨z0, z1, z7, z8, zl⟩ := hcf.at (.int (nI m.2.2.2.2.length))
      have hk1 : yK (ρ c) = 1 := by rw [hρ]; rfl
      obtain ⟨-, ⟨cl, cr⟩, eρ⟩ := h.2.2.2.2.2.2.fn hc hk1
      rw [hρ] at eρ
      injection eρ with _ _ _ ea eb
      have f1 : ofd σ1 (some ch) 2 1 = some (.ref ty) := (ofd_at t1.2.2.2.1).trans z1
      have tk : oF κ T (n + 7) 23 [va_rf (some ty), .int (nI c)] σ1 = some (some (.int (nI (g.L (gR g c)))), σ1) := c_takenBy (n := n + 5) hT t1.2.2.2.2.2.2 hc hk1
      have oty : ∀ {s : oSt}, yTf ty At mo g ρ lv ov s → oob s (some ty) 12 = some ty := fun {s} q => by
        obtain ⟨F, ⟨y1, -⟩, -⟩ := q
        exact oob_at y1
      have hmL : yL m.2.2.1 = a := by rw [hm]; rfl
      have hmR : yR m.2.2.1 = b := by rw [hm]; rfl
      -- what it takes
      obtain ⟨σ2, Ψ1, Ls1, L1, ⟨L2, L2', L2j⟩, L3, L4, ⟨L5, L5'⟩, ⟨L6, L6'⟩, L7, -⟩ := iha (n + 7) (g.L (gR g c)) 0 (mTk m) none Ψ Ls σ1 (by omega) ea.symm cl hmL t1 (Or.inl ⟨rfl, rfl⟩) (fun j w z => by cases z) List.nodup_nil (fun s hs => ⟨fun w hw => (by cases hw), fun r => by
        have := (sp s hs).2 ([false] ++ r)
        show s ≠ .inr (m.1, m.2.1 ++ [false] ++ r)
        rw [List.append_assoc]; exact this⟩) (by show m.2.2.2.2.length + _ ≤ _; omega) (by omega)
      have L1 : oF κ T (n + 7) 27 [va_rf (some ch), .int (nI (g.L (gR g c))), va_rf none, .int 0] σ1 = some (some (va_rf (some (Ψ1.2.1 (m.1, m.2.1 ++ [false])))), σ2) := L1
      have hw2 := L5'.1 _ _ _ hw1 (by decide) (by decide)
      obtain ⟨A, hA⟩ : ∃ A, A = Ψ1.2.1 (m.1, m.2.1 ++ [false]) := ⟨_, rfl⟩
      rw [← hA] at L1
      have p3 : prW st σ2 σ.2.1 (.inr (4, (kF0 206 σ.2.1 none none).set 3 (.ref A))) := Or.inl ⟨_, _, hw2, rfl⟩
      have L3 : tpS st l b0 nq xs Ψ1.2.2.1 pg ch ty cf At mo g ρ lv ov Ψ1.1 m.2.2.2.2 Ls1 σ2 := L3
      obtain ⟨t3, tp3⟩ := L3.pw p3 (Or.inl ⟨_, hw2⟩)
      have kpa : kTp (fun x => x ≠ σ.2.1) Ψ1 a (mTk m) := kTp.mo (fun x hx => by rw [n1] at hx; dsimp only at hx; omega) a (mTk m) L2'
      have m3 : mvK st l b0 nq xs σ.2.1 (fun _ => False) σ2 (oput σ2 σ.2.1 (.inr (4, (kF0 206 σ.2.1 none none).set 3 (.ref A)))) := mvK.wr p3
      have B3 := m3.1 σ (fun x => (∃ w, w ∈ m.2.2.2.1 ∧ x = Ψ.1 (.inl w)) ∨ σ.2.1 ≤ x) (Nat.le_refl _) hfr (fun _ z => z.elim)
      have B3k := B3.1 (kp1.tr (L5.mo (fun x ⟨w, hw, _⟩ => by cases hw)))
      have B3s := B3.2 (sh1.tr L5')
      have ka3 := m3.2 Ψ1 a (mTk m) kpa L2
      have hw3 : (oput σ2 σ.2.1 (.inr (4, (kF0 206 σ.2.1 none none).set 3 (.ref A)))).1 σ.2.1 = some (.inr (4, (kF0 206 σ.2.1 none none).set 3 (.ref A))) := oput_eq _ _ _
      have s3 : (oput σ2 σ.2.1 (.inr (4, (kF0 206 σ.2.1 none none).set 3 (.ref A)))).2 = σ2.2 := rfl
      unfold oj_X0_shape_51
      rw [f1, ovr_rf, obn_at, oty t1.2.2.2.2.2.2, obn_at, tk, oin_at, oob_at t1.2.2.2.1, obn_at, L1, orn_at, show opf σ2 (some σ.2.1) 4 3 (va_rf (some A)) = some (oput σ2 σ.2.1 (.inr (4, (kF0 206 σ.2.1 none none).set 3 (.ref A)))) from opf_at hw2 (show 3 < 15 by decide), obn_at]
      generalize oput σ2 σ.2.1 (.inr (4, (kF0 206 σ.2.1 none none).set 3 (.ref A))) = σ3 at t3 tp3 B3k B3s ka3 hw3 s3
      have eI : ∀ w, Ψ1.1 (.inl w) = Ψ.1 (.inl w) := fun w => L4.2.1 _ (fun r z => by cases z)
      have eS : ∀ s, s ∈ m.2.2.2.2 → Ψ1.1 s = Ψ.1 s := fun s hs => L4.2.1 _ (fun r z => (sp s hs).2 ([false] ++ r) (by rw [← List.append_assoc]; exact z))
      -- its NAME
      obtain ⟨σ4, na, Ls2, fn, N1, N2, N3, ⟨N4, N5, N6, N7, N8⟩, N9, N10, N11, ⟨N12, N12'⟩, N13, N14, N15⟩ := c_shNm (κ := κ) (T := T) (n := n + 4) (x1 := nI c) t3 hw3 rfl hA ka3 (tn.sp B3s B3k hs0 eI) (tb.sp B3k eI L6) (by rfl) (by
        have : (fun w => Ψ1.1 (Sum.inl w)) = fun w => Ψ.1 (Sum.inl w) := funext eI
        rw [this]; exact nd) (fun s hs => ⟨fun w hw => by rw [eS s hs, eI w]; exact (sp s hs).1 w hw, (sp s hs).2⟩)
      refine (congrArg (shR st l b0 nq xs pg ch ty cf At mo g ρ lv ov (.inner 0 u1 u2 a b) m Ψ Ls σ) N1).mpr ?_
      have B4k := B3k.tr (N9.mo (fun _ z => z.elim))
      have B4s := B3s.tr N10
      obtain ⟨σ5, M1, M2, M3, M4, M5, M6, M7⟩ := c_sh106 (κ := κ) (T := T) (n := n + 6) (x1 := nI c) (nl := nl) (x3 := nI i) (x := mPn m) (a := a) hcf N2 N4 rfl rfl N5 N6 N7.1 ywa N8 (fun q => by rw [if_pos q] at hS; omega)
      have M1 : oj_X0_shape_106 T (oF κ T (n + 7)) κ (some ch) (nI c) nl (nI i) (some σ.2.1) (some σ.2.1) (some (na (mPn m))) σ4 = oj_X0_shape_175 T (oF κ T (n + 7)) κ (some ch) (nI c) nl (nI i) (some σ.2.1) (nI m.2.2.2.2.length) σ5 := M1
      refine (congrArg (shR st l b0 nq xs pg ch ty cf At mo g ρ lv ov (.inner 0 u1 u2 a b) m Ψ Ls σ) M1).mpr ?_
      have B5 := M7.1 σ (fun x => (∃ w, w ∈ m.2.2.2.1 ∧ x = Ψ.1 (.inl w)) ∨ σ.2.1 ≤ x) (Nat.le_refl _) hfr (fun z hz => by
        subst hz
        rcases N15 with ⟨w, q1, q2⟩ | q
        · exact Or.inl ⟨w, q1, by rw [q2, eI w]⟩
        · exact Or.inr (Nat.le_trans B3s.2.2.2 q))
      have B5k := B5.1 B4k
      have B5s := B5.2 B4s
      have nS : ∀ s, s ∈ m.2.2.2.2 → na s = Ψ1.1 s := fun s hs => N11 s (fun z => (sp s hs).2 [] (by rw [List.append_nil]; exact z))
      have nI' : ∀ w, na (.inl w) = Ψ1.1 (.inl w) := fun w => N11 _ (fun z => by cases z)
      have ag12 : agB Ψ1 (na, Ψ1.2) (mTk m) := ⟨fun _ => rfl, fun r => N11 _ (fun z => by injection z with z; exact pth_ne z.symm), nI', nS⟩
      have ka4 : kTo st l b0 nq xs (na, Ψ1.2) σ4 a (mTk m) := kTo.sr (Ψ := Ψ1) (Ψ' := (na, Ψ1.2)) N9 (fun _ _ => Iff.rfl) t3.1.1 a (mTk m) ag12 ka3
      have kpa2 : kTp (fun x => x ≠ σ.2.1) (na, Ψ1.2) a (mTk m) := kTp.ag a (mTk m) ag12 kpa
      have ka5 := M7.2 (na, Ψ1.2) a (mTk m) kpa2 ka4
      have eAn : (mAn m).2.2.2.2 = if gMs a = true then m.2.2.2.2 ++ [mPn m] else m.2.2.2.2 := by
        show (if gMs (yL m.2.2.1) = true then _ else _) = _
        rw [hmL]
      have lAn : (mAn m).2.2.2.2.length = m.2.2.2.2.length + if gMs a = true then 1 else 0 := mAn_st hm
      rw [← eAn] at M2
      obtain ⟨y0, y1, y7, y8, yl⟩ := hcf.at (.int (nI (mAn m).2.2.2.2.length))
      have f15 : ofd σ5 (some ch) 2 1 = some (.ref ty) := (ofd_at M2.2.2.2.1).trans y1
      have an : oF κ T (n + 7) 24 [va_rf (some ty), .int (nI c)] σ5 = some (some (.int (nI (g.R (gR g c)))), σ5) := c_answeredBy (n := n + 5) hT M2.2.2.2.2.2.2 hc hk1
      have e2I : ∀ w, na (.inl w) = Ψ.1 (.inl w) := fun w => (nI' w).trans (eI w)
      -- what it answers
      obtain ⟨σ6, Ψ3, Ls3, Z1, ⟨Z2, Z2', Z2j⟩, Z3, Z4, ⟨Z5, Z5'⟩, ⟨Z6, Z6'⟩, Z7, Z8⟩ := ihb (n + 7) (g.R (gR g c)) (i + 1) (mAn m) nl (na, Ψ1.2) Ls2 σ5 (by omega) eb.symm cr hmR M2 ((tn.sp B5s B5k hs0 e2I).tl) ((tb.sp B5k e2I (fun z hz => N12 z (L6 z hz))).tl) (by
        have : (fun w => (na, Ψ1.2).1 (Sum.inl w)) = fun w => Ψ.1 (Sum.inl w) := funext e2I
        rw [this]
        exact List.Pairwise.sublist (List.Sublist.map _ (List.tail_sublist _)) nd) (fun s hs => by
        rw [eAn] at hs
        have S1 : ∀ s, s ∈ m.2.2.2.2 → (∀ w, w ∈ (mAn m).2.2.2.1 → na s ≠ na (.inl w)) ∧ ∀ r, s ≠ .inr (m.1, m.2.1 ++ [true] ++ r) := fun s hs => ⟨fun w hw => by
          rw [nS s hs, eS s hs, e2I w]
          exact (sp s hs).1 w (List.mem_of_mem_tail hw), fun r => by rw [List.append_assoc]; exact (sp s hs).2 _⟩
        split at hs
        · rcases List.mem_append.mp hs with q | q
          · exact S1 s q
          · rw [List.mem_singleton.mp q]
            exact ⟨fun w hw => N14 w hw, fun r => mPn_ne true r⟩
        · exact S1 s hs) (by rw [lAn]; omega) (by omega)
      obtain ⟨Bt, hB⟩ : ∃ B, B = Ψ3.2.1 (m.1, m.2.1 ++ [true]) := ⟨_, rfl⟩
      have Z1 : oF κ T (n + 7) 27 [va_rf (some ch), .int (nI (g.R (gR g c))), va_rf nl, .int (nI (i + 1))] σ5 = some (some (va_rf (some Bt)), σ6) := by rw [hB]; exact Z1
      have hw6 := Z5'.1 _ _ _ M5 (by decide) (by decide)
      have p7 : prW st σ6 σ.2.1 (.inr (4, (((kF0 206 σ.2.1 none none).set 3 (.ref A)).set 2 (.ref (na (mPn m)))).set 4 (.ref Bt))) := Or.inl ⟨_, _, hw6, rfl⟩
      obtain ⟨t7, tp7⟩ := Z3.pw p7 (Or.inl ⟨_, hw6⟩)
      obtain ⟨t8, tp8, kp8, sh8⟩ := t7.ck (W := fun x => (∃ w, w ∈ m.2.2.2.1 ∧ x = Ψ.1 (.inl w)) ∨ σ.2.1 ≤ x) (S' := m.2.2.2.2) hcf (fun j s hs => by
        rw [eAn]
        split
        · rw [List.getElem?_append_left (by
            by_cases q : j < m.2.2.2.2.length
            · exact q
            · rw [List.getElem?_eq_none (by omega)] at hs; cases hs)]
          exact hs
        · exact hs)
      have hw7 : (oput σ6 σ.2.1 (.inr (4, (((kF0 206 σ.2.1 none none).set 3 (.ref A)).set 2 (.ref (na (mPn m)))).set 4 (.ref Bt)))).1 σ.2.1 = some (.inr (4, (((kF0 206 σ.2.1 none none).set 3 (.ref A)).set 2 (.ref (na (mPn m)))).set 4 (.ref Bt))) := oput_eq _ _ _
      have hc7 := t7.2.2.2.1
      have o8 := opf_at (v := .int (nI m.2.2.2.2.length)) hc7 (show 8 < (cf.set 8 (.int (nI (mAn m).2.2.2.2.length))).length by omega)
      unfold oj_X0_shape_175
      rw [f15, ovr_rf, obn_at, oty M2.2.2.2.2.2.2, obn_at, an, oin_at, oob_at M2.2.2.2.1, obn_at, nI_1, Z1, orn_at, show opf σ6 (some σ.2.1) 4 4 (va_rf (some Bt)) = some (oput σ6 σ.2.1 (.inr (4, (((kF0 206 σ.2.1 none none).set 3 (.ref A)).set 2 (.ref (na (mPn m)))).set 4 (.ref Bt)))) from opf_at hw6 (show 4 < 15 by decide), obn_at, o8, obn_at]
      have B6k := B5k.tr (Z5.mo (fun x ⟨w, q1, q2⟩ => Or.inl ⟨w, List.mem_of_mem_tail q1, by rw [q2]; exact e2I w⟩))
      have B6s := B5s.tr Z5'
      have B7k := p7.fp B6k (Nat.le_refl _) hfr
      have B7s := B6s.fp (y := σ.2.1) (cc := .inr (4, (((kF0 206 σ.2.1 none none).set 3 (.ref A)).set 2 (.ref (na (mPn m)))).set 4 (.ref Bt))) (Nat.le_refl _) hfr
      have s51 : σ.2.1 < σ5.2.1 := by
        have q1 := N10.2.2.2
        have q2 := L5'.2.2.2
        rw [n1] at q2
        dsimp only at q2
        rw [M4]
        rw [s3] at q1
        omega
      have s52 : σ2.2.1 ≤ σ5.2.1 := by
        have q1 := N10.2.2.2
        rw [M4]
        rw [s3] at q1
        exact q1
      have ag23 : agB (na, Ψ1.2) Ψ3 (mTk m) := ⟨fun r => Z4.1 _ _ (fun r' => pth_bn (by decide)), fun r => Z4.2.1 _ (fun r' z => by injection z with z; exact pth_bn (by decide) z), fun w => Z4.2.1 _ (fun r' z => by cases z), fun s hs => Z4.2.1 _ (fun r' z => (sp s hs).2 ([true] ++ r') (by rw [← List.append_assoc]; exact z))⟩
      have kl6 : kTo st l b0 nq xs Ψ3 σ6 a (mTk m) := kTo.sr Z5 Z4.2.2.1 M2.1.1 a (mTk m) ag23 ka5
      have kp3 : kTp (fun x => x ≠ σ.2.1) Ψ3 a (mTk m) := kTp.ag a (mTk m) ag23 kpa2
      have kl7 := kTo.pw p7 a (mTk m) kp3 kl6
      have kl8 := kTo.sr (Ψ := Ψ3) (Ψ' := gAt Ψ3 m σ.2.1 Ψ3.2.2.1) kp8 (fun _ _ => Iff.rfl) t7.1.1 a (mTk m) (gAt.ag false rfl rfl) kl7
      have kr7 := kTo.pw p7 b (mAn m) (kTp.mo (fun x hx => by omega) b (mAn m) Z2') Z2
      have kr8 := kTo.sr (Ψ := Ψ3) (Ψ' := gAt Ψ3 m σ.2.1 Ψ3.2.2.1) kp8 (fun _ _ => Iff.rfl) t7.1.1 b (mAn m) (gAt.ag true rfl rfl) kr7
      have eP : Ψ3.1 (mPn m) = na (mPn m) := Z4.2.1 _ (fun r' z => mPn_ne true r' z)
      have eA : Ψ3.2.1 (m.1, m.2.1 ++ [false]) = A := by
        rw [hA]
        have := ag23.1 []
        rw [List.append_nil] at this
        exact this
      obtain ⟨gs, g1, g2, g3⟩ := Z5.2.1 _ _ M6
      have nw : na (mPn m) ≠ σ.2.1 := fun z => by rw [z, hw6] at g1; cases g1
      have nc : na (mPn m) ≠ ch := fun z => by
        have := Z3.2.2.2.1
        rw [← z, g1] at this; cases this
      have wc : σ.2.1 ≠ ch := fun z => by
        have := Z3.2.2.2.1
        rw [← z, hw6] at this; cases this
      have hw8 : (oput (oput σ6 σ.2.1 (.inr (4, (((kF0 206 σ.2.1 none none).set 3 (.ref A)).set 2 (.ref (na (mPn m)))).set 4 (.ref Bt)))) ch (.inr (2, (cf.set 8 (.int (nI (mAn m).2.2.2.2.length))).set 8 (.int (nI m.2.2.2.2.length))))).1 σ.2.1 = some (.inr (4, (((kF0 206 σ.2.1 none none).set 3 (.ref A)).set 2 (.ref (na (mPn m)))).set 4 (.ref Bt))) := by rw [oput_ne wc]; exact hw7
      have hn8 : (oput (oput σ6 σ.2.1 (.inr (4, (((kF0 206 σ.2.1 none none).set 3 (.ref A)).set 2 (.ref (na (mPn m)))).set 4 (.ref Bt)))) ch (.inr (2, (cf.set 8 (.int (nI (mAn m).2.2.2.2.length))).set 8 (.int (nI m.2.2.2.2.length))))).1 (na (mPn m)) = some (.inr (6, gs)) := by rw [oput_ne nc, oput_ne nw]; exact g1
      have nj : kNj (gAt Ψ3 m σ.2.1 Ψ3.2.2.1).1 (.inner 0 u1 u2 a b) m σ.2.1 σ6.2.1 := by
        have q6 := Z5'.2.2.2
        refine ⟨by omega, fun _ => ⟨σ2.2.1, σ5.2.1, fun z => ?_, s52, kNj.cg a (mTk m) ag23.2.1 (kNj.cg a (mTk m) ag12.2.1 (kNj.up a (mTk m) (by rw [n1]; dsimp only; omega) L2j.2)), Z2j.2⟩⟩
        show σ2.2.1 ≤ Ψ3.1 (mPn m) ∧ Ψ3.1 (mPn m) < σ5.2.1
        rw [eP]
        constructor
        · rcases N15 with ⟨w, q1, -⟩ | q
          · rw [z] at q1; cases q1
          · rw [s3] at q; exact q
        · rw [M4]
          exact Nat.lt_of_not_le (fun w => by rw [N2.1.1 _ w] at N5; cases N5)
      refine ⟨(oput (oput σ6 σ.2.1 (.inr (4, (((kF0 206 σ.2.1 none none).set 3 (.ref A)).set 2 (.ref (na (mPn m)))).set 4 (.ref Bt)))) ch (.inr (2, (cf.set 8 (.int (nI (mAn m).2.2.2.2.length))).set 8 (.int (nI m.2.2.2.2.length))))), gAt Ψ3 m σ.2.1 Ψ3.2.2.1, Ls3, by rw [gAt_at], ⟨?_, ⟨by rw [gAt_at]; exact Nat.le_refl _, fun _ => ⟨kTp.ag a (mTk m) (gAt.ag false rfl rfl) (kTp.ag a (mTk m) ag23 (kTp.ag a (mTk m) ag12 (kTp.mo (fun x hx => by rw [n1] at hx; dsimp only at hx; omega) a (mTk m) L2'))), kTp.ag b (mAn m) (gAt.ag true rfl rfl) (kTp.mo (fun x hx => by omega) b (mAn m) Z2')⟩⟩, ⟨⟨⟨by rw [gAt_at]; exact Nat.le_refl _, by rw [gAt_at]; show σ.2.1 < σ6.2.1; have := Z5'.2.2.2; omega⟩, fun _ => ⟨σ5.2.1, by rw [gAt_at]; exact s51, by rw [gAt_at]; exact kTj.ag a (mTk m) (gAt.ag false rfl rfl) (kTj.ag a (mTk m) ag23 (kTj.ag a (mTk m) ag12 (kTj.up a (mTk m) (by rw [n1]; exact Nat.le_refl _) s52 L2j.1))), kTj.ag b (mAn m) (gAt.ag true rfl rfl) Z2j.1⟩⟩, nj⟩⟩, t8, ⟨fun k p q => ?_, fun x q => ?_, fun x q => ?_, Z4.2.2.2.trans L4.2.2.2⟩, ⟨(B7k.tr kp8).res (fun x f e q => ?_), B7s.tr sh8⟩, ⟨fun z hz => Z6 z (N12 z (L6 z hz)), fun z hz => ?_⟩, ?_, fun _ => ⟨fun w hw => ?_, ?_⟩⟩
      · unfold kTo
        rw [gAt_at, if_pos rfl]
        refine ⟨⟨_, none, none, hw8, rfl, rfl, rfl, by decide, rfl, rfl, Or.inl ⟨rfl, rfl⟩⟩, ⟨⟨_, gs, hw8, ⟨?_, ?_, ?_, rfl⟩, ?_, ?_, ?_⟩, fun s hs => ?_⟩, kl8, kr8⟩
        · show some (Value.ref (na (mPn m))) = some (.ref (Ψ3.1 (mPn m)))
          rw [eP]
        · rw [show (gAt Ψ3 m σ.2.1 Ψ3.2.2.1).2.1 (m.1, m.2.1 ++ [false]) = A from (if_neg (fun z => pth_ne (r := []) (by rw [List.append_nil]; exact z.symm))).trans eA]
          rfl
        · rw [show (gAt Ψ3 m σ.2.1 Ψ3.2.2.1).2.1 (m.1, m.2.1 ++ [true]) = Bt from (if_neg (fun z => pth_ne (r := []) (by rw [List.append_nil]; exact z.symm))).trans hB.symm]
          rfl
        · show (oput _ _ _).1 (Ψ3.1 (mPn m)) = _
          rw [eP]; exact hn8
        · rw [g2, List.length_set]; exact N6
        · exact ⟨by rw [g3 3 (by decide) (fun z => absurd z (by decide)), List.getElem?_set_ne (by decide)]; exact N7.1, fun z => by rw [g3 0 (by decide) (fun z => absurd z (by decide)), List.getElem?_set_ne (by decide)]; exact N7.2 z⟩
        · show Ψ3.1 s ≠ Ψ3.1 (mPn m)
          rw [eP, ag23.2.2.2 s hs]
          exact N13 s hs
      · refine (if_neg (fun z => q [] (by rw [List.append_nil]; exact z))).trans ((Z4.1 k p (fun r z => q ([true] ++ r) (by rw [← List.append_assoc]; exact z))).trans (L4.1 k p (fun r z => q ([false] ++ r) (by rw [← List.append_assoc]; exact z))))
      · exact (Z4.2.1 x (fun r z => q ([true] ++ r) (by rw [← List.append_assoc]; exact z))).trans ((N11 x (fun z => q [] (by rw [List.append_nil]; exact z))).trans (L4.2.1 x (fun r z => q ([false] ++ r) (by rw [← List.append_assoc]; exact z))))
      · exact (Z4.2.2.1 x (by omega)).trans (L4.2.2.1 x (by rw [n1]; dsimp only; omega))
      · rcases q with q | q
        · exact q
        · rw [hfr x q] at e; cases e
      · rcases Z6' z hz with q | q
        · rcases N12' z q with q | q
          · rcases L6' z q with q | q
            · exact Or.inl q
            · right
              rw [n1] at q
              dsimp only at q
              omega
          · exact Or.inr (Nat.le_trans B3s.2.2.2 q)
        · exact Or.inr (by omega)
      · obtain ⟨c1, c2⟩ := L7
        obtain ⟨c3, c4⟩ := N3
        obtain ⟨c5, c6⟩ := Z7
        rw [n1, tp1] at c1 c2
        rw [s3, tp3] at c3 c4
        rw [M4, M3] at c5 c6
        rw [lAn] at c6
        have d1 : tCn xs (.inner 0 u1 u2 a b) = tCn xs a + tCn xs b + (4 + 3 * xs.length) := rfl
        have d2 : tCs xs (.inner 0 u1 u2 a b) m.2.2.2.2.length = tCs xs a m.2.2.2.2.length + tCs xs b (m.2.2.2.2.length + if gMs a = true then 1 else 0) + (29 + 9 * xs.length) := rfl
        have c2 : σ2.2.2.2 + 3 * tmP xs.length σ2 Ls1 ≤ σ.2.2.2 + 15 + 3 * tmP xs.length σ Ls + tCs xs a m.2.2.2.2.length := c2
        have c1 : σ2.2.2.1 + tmP xs.length σ2 Ls1 ≤ σ.2.2.1 + 1 + tmP xs.length σ Ls + tCn xs a := c1
        unfold gPl2
        rw [tp8, tp7, d1, d2]
        show σ6.2.2.1 + tmP xs.length σ6 Ls3 ≤ _ ∧ σ6.2.2.2 + 3 * tmP xs.length σ6 Ls3 ≤ _
        exact ⟨by omega, by omega⟩
      · have ePw : mPn m = .inl w := by
          unfold mPn
          cases q : m.2.2.2.1 with
          | nil => rw [q] at hw; cases hw
          | cons w' tw =>
            rw [q] at hw
            injection hw with hw
            rw [hw]
        refine ⟨gs, ?_, ?_⟩
        · show (oput _ _ _).1 (Ψ3.1 (.inl w)) = _
          rw [← ePw, eP]; exact hn8
        · rw [show (gAt Ψ3 m σ.2.1 Ψ3.2.2.1).2.1 (m.1, m.2.1 ++ [false]) = A from (if_neg (fun z => pth_ne (r := []) (by rw [List.append_nil]; exact z.symm))).trans eA]
          rw [g3 4 (by decide) (fun _ ⟨w', q1, q2⟩ => N14 w' q1 q2)]
          exact List.getElem?_set_self (by omega)
      · have k7 := toK.pw (Ψ := Ψ3) (cc := .inr (4, (((kF0 206 σ.2.1 none none).set 3 (.ref A)).set 2 (.ref (na (mPn m)))).set 4 (.ref Bt))) (x := σ.2.1) (fun f z => by rw [hw6] at z; cases z) b (mAn m) Z8
        have k8 := toK.pw (Ψ := Ψ3) (cc := .inr (2, (cf.set 8 (.int (nI (mAn m).2.2.2.2.length))).set 8 (.int (nI m.2.2.2.2.length)))) (x := ch) (fun f z => by rw [hc7] at z; cases z) b (mAn m) k7
        exact toK.sp (st := st) (l := l) (b0 := b0) (W := fun _ => False) (Ψ := Ψ3) gKp.rf b (mAn m) (fun _ _ z => z) (gAt.ag true rfl rfl) k8
    · obtain ⟨n, rfl⟩ : ∃ n, N = n + 7 := ⟨N - 7, by omega⟩
      obtain ⟨σ', Q', R, r1, r2, r3, r4, r5, r6⟩ := c_shL (κ := κ) (T := T) (n := n) (nl := nl) (x3 := nI i) (W := fun x => ∃ w, w ∈ m.2.2.2.1 ∧ x = Ψ.1 (.inl w)) hT hnq hcf h hc hρ hk (by omega)
      refine ⟨σ', gAt Ψ m σ.2.1 Q', Ls, by rw [gAt_at]; exact R, ⟨r1, ?_⟩, r2, gAt.df r3, ⟨r4, r5⟩, ⟨fun _ z => z, fun _ z => Or.inl z⟩, r6, fun z => absurd z hk⟩
      have lt : σ.2.1 < σ'.2.1 := by
        obtain ⟨fs, gn, ins, k1, -⟩ := r1.hd.f
        by_cases z : σ.2.1 < σ'.2.1
        · exact z
        · rw [gAt_at, r2.1.1 _ (by omega)] at k1; cases k1
      exact ⟨⟨by rw [gAt_at]; exact Nat.le_refl _, fun z => absurd z hk⟩, ⟨⟨by rw [gAt_at]; exact Nat.le_refl _, by rw [gAt_at]; exact lt⟩, fun z => absurd z hk⟩, Nat.le_of_lt lt, fun z => absurd z hk⟩
end SHP
