/-! type(): one printing for both sides; NAMES, the class -/
/-- letters said so far; NAMES without a word, as they were said -/
abbrev tPs : Type := List Int32 × List gN
/-- where a NAME without a word stands among them -/
def tIx (a : gN) : List gN → Nat
  | [] => 0
  | b :: r => if b = a then 0 else tIx a r + 1
/-- a NAME -/
def tNm (wd : Nat → List Int32) (a : gN) (s : tPs) : tPs := match a with
  | .inl w => (s.1 ++ wd w, s.2)
  | .inr k => (s.1 ++ 36 :: tNu (nI (tIx (.inr k) s.2)).toInt64, if tIx (.inr k) s.2 < s.2.length then s.2 else s.2 ++ [.inr k])
/-- a relation, by the reference's codes -/
def tRl (r : Nat) : List Int32 := if r = 0 then [61] else if r = 1 then [60] else if r = 2 then [60, 61] else if r = 3 then [62] else [62, 61]
/-- len, size -/
def tLn (b : Nat) : List Int32 := if b = 1 then [108, 101, 110, 32] else if b = 2 then [115, 105, 122, 101, 32] else []
/-- a TERM; bk: a NAME's kind (0 a number, 1 an array, 2 a list) -/
def tTm (wd : Nat → List Int32) (bk : gN → Nat) (t : gTe) (s : tPs) : tPs := match t.1 with
  | none => (s.1 ++ tNu (Int64.ofInt t.2), s.2)
  | some (a, e) =>
    let s1 := tNm wd a ((s.1 ++ (if e < 0 then [45] else [])) ++ tLn (bk a), s.2)
    ((s1.1 ++ (if 0 < t.2 then [43] else [])) ++ (if t.2 = 0 then [] else tNu (Int64.ofInt t.2)), s1.2)
/-- a FACT, b: the first -/
def tFa (wd : Nat → List Int32) (bk : gN → Nat) (b : Bool) (c : gFc) (s : tPs) : tPs := tTm wd bk c.2 ((s.1 ++ (if b = true then [123, 118] else [38, 118])) ++ tRl c.1, s.2)
def tFs (wd : Nat → List Int32) (bk : gN → Nat) : Bool → List gFc → tPs → tPs
  | _, [], s => s
  | b, c :: l, s => tFs wd bk false l (tFa wd bk b c s)
/-- a kind's word -/
def tKw (k : Nat) : List Int32 := if k = 1 then [98, 111, 111, 108] else if k = 2 then [97, 114, 114, 97, 121] else if k = 3 then [108, 105, 115, 116] else [105, 110, 116]
theorem tIx_le (a : gN) : ∀ l, tIx a l ≤ l.length
  | [] => Nat.le_refl _
  | b :: r => by
    unfold tIx
    rw [List.length_cons]
    have := tIx_le a r
    split <;> omega
theorem tIx_at (a : gN) : ∀ l, tIx a l < l.length → l[tIx a l]? = some a
  | [], h => absurd h (Nat.not_lt_zero _)
  | b :: r, h => by
    unfold tIx at h ⊢
    by_cases c : b = a
    · rw [if_pos c, c]; rfl
    · rw [if_neg c] at h ⊢
      rw [List.length_cons] at h
      rw [List.getElem?_cons_succ]
      exact tIx_at a r (by omega)
theorem tIx_ne (a : gN) : ∀ l j b, j < tIx a l → l[j]? = some b → b ≠ a
  | [], j, b, h, _ => absurd h (Nat.not_lt_zero _)
  | x :: r, j, b, h, e => by
    unfold tIx at h
    by_cases c : x = a
    · rw [if_pos c] at h; omega
    · rw [if_neg c] at h
      match j, h, e with
      | 0, _, e =>
        injection e with e
        rw [← e]; exact c
      | j + 1, h, e => exact tIx_ne a r j b (by omega) e
/-- what lies low -/
def cLw (κ : oKv) (ks : Nat → Nat) (T sz x da : Nat) (σ : oSt) : Prop := lFacts κ ks sz ∧ κ.2.2.1 < sz ∧ (∀ a, a < sz → σ.1 a = none) ∧ sz ≤ σ.2.1 ∧ sz ≤ x ∧ sz ≤ da ∧ 10000 ≤ T
/-- what printing leaves (but for Knowns) -/
def tFr (x nl da0 d0 : Nat) (σ0 : oSt) (da d : Nat) (σ : oSt) : Prop := (∀ q, q < σ0.2.1 → q ≠ x → q ≠ da0 → q ≠ nl → (q ≠ d0 ∨ σ0.1 q = none) → σ.1 q = σ0.1 q) ∧ (da = da0 ∨ σ0.2.1 ≤ da) ∧ (d = d0 ∨ σ0.2.1 ≤ d) ∧ σ0.2.1 ≤ σ.2.1 ∧ ∀ fs0, σ0.1 x = some (.inr (14, fs0)) → ∃ fs, σ.1 x = some (.inr (14, fs)) ∧ ∀ k, k ≠ 7 → k ≠ 9 → fs[k]? = fs0[k]?
/-- the class while it prints -/
def cTp (κ : oKv) (x nl : Nat) (na : gN → Nat) (s : tPs) (cap da d cl : Nat) (σ : oSt) : Prop := (∃ fs, cSy x da fs σ s.1 cap σ ∧ σ.1 x = some (.inr (14, fs)) ∧ fs[10]? = some (.ref nl)) ∧ (s.2.length ≤ 2451 ∧ cl ≤ 3690) ∧ ∃ mc g, cLs κ σ nl d cl s.2.length mc g 6 ∧ ∀ j b, s.2[j]? = some b → g j = some (na b)
/-- what printing costs: cl the list's row -/
def cPyz (σ : oSt) (cap cl : Nat) (u : oSt) (cap' cl' : Nat) : Prop := u.2.2.2 + tPh cap + 4 * cl ≤ σ.2.2.2 + tPh cap' + 4 * cl' ∧ u.2.2.1 + cap + cl ≤ σ.2.2.1 + cap' + cl'
section TSN
variable {κ : oKv} {ks : Nat → Nat} {T n x nl sz da0 da da' da2 d0 d d' d2 cap cap' cap2 cl cl' cl2 : Nat} {na : gN → Nat} {fs fs0 : List Value} {σ0 σ u w : oSt} {s : tPs} {L : List Int32}
theorem cPyz.rf (σ : oSt) (cap cl : Nat) : cPyz σ cap cl σ cap cl := ⟨Nat.le_refl _, Nat.le_refl _⟩
theorem cPyz.tr (h : cPyz σ cap cl u cap' cl') (k : cPyz u cap' cl' w cap2 cl2) : cPyz σ cap cl w cap2 cl2 := by
  obtain ⟨h1, h2⟩ := h
  obtain ⟨k1, k2⟩ := k
  exact ⟨by omega, by omega⟩
theorem cPy.z (h : cPy σ cap u cap') (cl : Nat) : cPyz σ cap cl u cap' cl := by
  obtain ⟨h1, h2⟩ := h
  exact ⟨by omega, by omega⟩
theorem tFr.rf (σ : oSt) (x nl da d : Nat) : tFr x nl da d σ da d σ := ⟨fun _ _ _ _ _ _ => rfl, Or.inl rfl, Or.inl rfl, Nat.le_refl _, fun fs0 h => ⟨fs0, h, fun _ _ _ => rfl⟩⟩
theorem tFr.tr (h : tFr x nl da d σ da' d' u) (k : tFr x nl da' d' u da2 d2 w) : tFr x nl da d σ da2 d2 w := by
  obtain ⟨h1, h2, h3, h4, h5⟩ := h
  obtain ⟨k1, k2, k3, k4, k5⟩ := k
  refine ⟨fun q q1 q2 q3 q4 q5 => ?_, by omega, by omega, by omega, fun fs0 e => ?_⟩
  · have e := h1 q q1 q2 q3 q4 q5
    rw [k1 q (by omega) q2 (by omega) q4 (by
      rcases q5 with r | r
      · exact Or.inl (by omega)
      · exact Or.inr (e.trans r))]
    exact e
  · obtain ⟨f1, a1, a2⟩ := h5 fs0 e
    obtain ⟨f2, b1, b2⟩ := k5 f1 a1
    exact ⟨f2, b1, fun k q1 q2 => (b2 k q1 q2).trans (a2 k q1 q2)⟩
/-- letters more -/
theorem cTp.on (hx : σ.1 x = some (.inr (14, fs))) (h10 : fs[10]? = some (.ref nl)) (hl : s.2.length ≤ 2451 ∧ cl ≤ 3690) (hL : ∃ mc g, cLs κ σ nl d cl s.2.length mc g 6 ∧ ∀ j b, s.2[j]? = some b → g j = some (na b)) (hk : κ.2.2.1 < σ.2.1) (h0 : cSy x da fs σ s.1 cap σ) (h : cSy x da fs σ L cap' u) : ∃ da', cTp κ x nl na (L, s.2) cap' da' d cl u ∧ tFr x nl da d σ da' d u := by
  obtain ⟨mc, g, hL, hg⟩ := hL
  have dr : ∃ cp gg, σ.1 da = some (.inl (.byte, cp, .inl gg)) := by
    obtain ⟨f1, d1, g1, -, ⟨e5, -⟩, -, -, e11, -, e13, -⟩ := h0
    have lt : d1 < σ.2.1 := Nat.lt_of_not_le (fun w => by rw [e11 d1 w] at e5; cases e5)
    have : d1 = da := by omega
    rw [this] at e5
    exact ⟨_, _, e5⟩
  obtain ⟨cp, gg, dr⟩ := dr
  have hfr : ∀ q, σ.2.1 ≤ q → σ.1 q = none := by
    obtain ⟨f1, d1, g1, -, -, -, -, e11, -⟩ := h0
    exact e11
  obtain ⟨fs', da', hb⟩ := h.rb
  obtain ⟨f1, d1, g1, ⟨e1, e2, e3, e4⟩, e5, e9, e10, e11, e12, e13, e14⟩ := id h
  have eqd : da' = d1 := by
    obtain ⟨f3, d3, g3, ⟨a1, -, -, a4⟩, ⟨a5, -⟩, -, -, a11, -, a13, -⟩ := id hb
    rw [e1] at a1
    injection a1 with a1; injection a1 with a1; injection a1 with _ a1
    rw [← a1, e4] at a4
    injection a4 with a4; injection a4 with a4
    have lt : d3 < u.2.1 := Nat.lt_of_not_le (fun w => by rw [a11 d3 w] at a5; cases a5)
    rcases a13 with r | r
    · rw [← r]; exact a4.symm
    · omega
  subst eqd
  have lt : ∀ {q : Nat} {c : oC}, σ.1 q = some c → q < σ.2.1 := fun {q c} z => Nat.lt_of_not_le (fun w => by rw [hfr q w] at z; cases z)
  have K : ∀ q c, σ.1 q = some c → (∀ f, c ≠ .inr (14, f)) → (∀ y, c = .inl y → y.1 ≠ .byte) → u.1 q = some c := fun q c e c1 c2 => by
    rw [e10 q (lt e) (fun z => by rw [z, hx] at e; injection e with e; exact c1 _ e.symm) (fun z => by rw [z, dr] at e; injection e with e; exact c2 _ e.symm rfl)]
    exact e
  have hx' : ∃ f2, u.1 x = some (.inr (14, f2)) ∧ cSy x da' f2 u L cap' u := by
    obtain ⟨f3, d3, g3, ⟨a1, a2, a3, a4⟩, a5, a9, a10, a11, a12, a13, a14⟩ := id hb
    exact ⟨f3, a1, f3, d3, g3, ⟨a1, a2, a3, a4⟩, a5, fun _ _ _ => rfl, a10, a11, a12, a13, a14⟩
  obtain ⟨f2, b1, b2⟩ := hx'
  rw [e1] at b1
  injection b1 with b1; injection b1 with b1; injection b1 with _ b1
  subst b1
  refine ⟨da', ⟨⟨f1, b2, e1, (e9 10 (by decide) (by decide)).trans h10⟩, hl, mc, g, ?_, hg⟩, ⟨fun q q1 q2 q3 _ _ => e10 q q1 q2 q3, e13, Or.inl rfl, e12, fun f0 e0 => ?_⟩⟩
  · obtain ⟨l1, l2, l3⟩ := hL
    refine ⟨K nl _ l1 (fun _ z => by injection z with z; injection z with z _; cases z) (fun _ z => by cases z), ?_, fun j hj => ?_⟩
    · rcases l2 with ⟨m1, m2, m3, m4⟩ | ⟨m1, m2⟩
      · refine Or.inl ⟨m1, m2, m3, ?_⟩
        rw [e10 d (by rw [m3]; exact hk) (fun z => by rw [z, hx] at m4; cases m4) (fun z => by rw [z, dr] at m4; cases m4)]
        exact m4
      · exact Or.inr ⟨K d _ m1 (fun _ z => by cases z) (fun y z => by injection z with z; rw [← z]; exact fun z => by cases z), m2⟩
    · obtain ⟨b, f, m1, m2⟩ := l3 j hj
      exact ⟨b, f, m1, K b _ m2 (fun _ z => by injection z with z; injection z with z _; cases z) (fun _ z => by cases z)⟩
  · rw [hx] at e0
    injection e0 with e0; injection e0 with e0; injection e0 with _ e0
    rw [← e0]
    exact ⟨f1, e1, e9⟩
theorem cLw.on (h : cLw κ ks T sz x da σ) (c : cTp κ x nl na s cap da d cl σ) (k : tFr x nl da d σ da' d' u) : cLw κ ks T sz x da' u := by
  obtain ⟨h1, h2, h3, h4, h5, h6, h7⟩ := h
  obtain ⟨k1, k2, k3, k4, k5⟩ := k
  obtain ⟨-, -, mc, g, ⟨l1, -⟩, -⟩ := c
  refine ⟨h1, h2, fun a ha => ?_, by omega, h5, by omega, h7⟩
  rw [k1 a (by omega) (by omega) (by omega) (fun z => by rw [← z, h3 a ha] at l1; cases l1) (Or.inr (h3 a ha))]
  exact h3 a ha
/-- a letter -/
theorem p_put {c : Int32} (hk : κ.2.2.1 < σ.2.1) (hl : s.1.length < 900000000) (h : cTp κ x nl na s cap da d cl σ) : ∃ u cap' da', oF κ T (n + 2) 181 [va_rf (some x), .int c] σ = some (none, u) ∧ cTp κ x nl na (s.1 ++ [c], s.2) cap' da' d cl u ∧ tFr x nl da d σ da' d u ∧ cPyz σ cap cl u cap' cl := by
  obtain ⟨⟨fs, h1, h2, h3⟩, h4, h5⟩ := h
  obtain ⟨u, cap', r1, r2, r3⟩ := c_put (κ := κ) (T := T) (n := n) (c := c) h1 (by omega)
  obtain ⟨da', k1, k2⟩ := cTp.on h2 h3 h4 h5 hk h1 r2
  exact ⟨u, cap', da', r1, k1, k2, cPy.z r3 cl⟩
theorem p_num {v : Int64} (hv : v.toInt.natAbs ≤ 1000000000000000000) (hT : 100 ≤ T) (hk : κ.2.2.1 < σ.2.1) (hl : s.1.length < 870000000) (h : cTp κ x nl na s cap da d cl σ) : ∃ u cap' da', oF κ T (n + 3) 183 [va_rf (some x), .long v] σ = some (none, u) ∧ cTp κ x nl na (s.1 ++ tNu v, s.2) cap' da' d cl u ∧ tFr x nl da d σ da' d u ∧ cPyz σ cap cl u cap' cl := by
  obtain ⟨⟨fs, h1, h2, h3⟩, h4, h5⟩ := h
  obtain ⟨u, cap', r1, r2, r3⟩ := c_tellN (κ := κ) (T := T) (n := n) hv hT hl h1
  obtain ⟨da', k1, k2⟩ := cTp.on h2 h3 h4 h5 hk h1 r2
  exact ⟨u, cap', da', r1, k1, k2, cPy.z r3 cl⟩
theorem p_wrd {i : Nat} (W : cLw κ ks T sz x da σ) (hi : i < 17) (hl : s.1.length < 870000000) (h : cTp κ x nl na s cap da d cl σ) : ∃ u cap' da', oF κ T (n + 5) 182 [va_rf (some x), va_rf (some (κ.1 i))] σ = some (none, u) ∧ cTp κ x nl na (s.1 ++ tTx (fun j => zch (oktx i) j &&& 255) (oktx i).toList.length 0, s.2) cap' da' d cl u ∧ tFr x nl da d σ da' d u ∧ cPyz σ cap cl u cap' cl := by
  obtain ⟨⟨fs, h1, h2, h3⟩, h4, h5⟩ := h
  obtain ⟨w1, w2, w3, w4, w5, w6, w7⟩ := W
  obtain ⟨u, cap', r1, r2, r3⟩ := c_putK (κ := κ) (T := T) (n := n) w1 hi w3 w4 w5 w6 (by omega) (by omega) h1
  obtain ⟨da', k1, k2⟩ := cTp.on h2 h3 h4 h5 (by omega) h1 r2
  exact ⟨u, cap', da', r1, k1, k2, cPy.z r3 cl⟩
/-- **tellRelation() (185)** -/
theorem p_rel {r : Nat} (hr : r ≤ 4) (W : cLw κ ks T sz x da σ) (hl : s.1.length < 870000000) (h : cTp κ x nl na s cap da d cl σ) : ∃ u cap' da', oF κ T (n + 6) 185 [va_rf (some x), .int (jRc r)] σ = some (none, u) ∧ cTp κ x nl na (s.1 ++ tRl r, s.2) cap' da' d cl u ∧ tFr x nl da d σ da' d u ∧ cPyz σ cap cl u cap' cl := by
  have hk : κ.2.2.1 < σ.2.1 := Nat.lt_of_lt_of_le W.2.1 W.2.2.2.1
  have ob : oob σ (some x) 14 = some x := by
    obtain ⟨⟨fs, h1, h2, h3⟩, h4, h5⟩ := h
    exact oob_at h2
  rw [oE_X12_tellRelation]
  unfold ob_X12_tellRelation oj_X12_tellRelation_14 oj_X12_tellRelation_29
  match r, hr with
  | 0, _ =>
    obtain ⟨u, cap', da', r1, r2⟩ := p_put (T := T) (n := n + 3) (c := 61) hk (by omega) h
    rw [show jRc 0 = 61 from rfl, if_neg (by decide), if_neg (by decide), ob, obn_at, show (((61 : Int32).toUInt32 % 65536).toInt32) = 61 by decide, r1, ocv_at]
    exact ⟨u, cap', da', rfl, r2⟩
  | 1, _ =>
    obtain ⟨u, cap', da', r1, r2⟩ := p_put (T := T) (n := n + 3) (c := 60) hk (by omega) h
    rw [show jRc 1 = 60 from rfl, if_neg (by decide), if_neg (by decide), ob, obn_at, show (((60 : Int32).toUInt32 % 65536).toInt32) = 60 by decide, r1, ocv_at]
    exact ⟨u, cap', da', rfl, r2⟩
  | 2, _ =>
    obtain ⟨u, cap', da', r1, r2⟩ := p_wrd (n := n) (i := 7) W (by decide) (by omega) h
    rw [show tTx (fun j => zch (oktx 7) j &&& 255) (oktx 7).toList.length 0 = [60, 61] by decide +kernel] at r2
    rw [show jRc 2 = 300 from rfl, if_pos rfl, if_pos rfl, ob, obn_at, r1, ocv_at]
    exact ⟨u, cap', da', rfl, r2⟩
  | 3, _ =>
    obtain ⟨u, cap', da', r1, r2⟩ := p_put (T := T) (n := n + 3) (c := 62) hk (by omega) h
    rw [show jRc 3 = 62 from rfl, if_neg (by decide), if_neg (by decide), ob, obn_at, show (((62 : Int32).toUInt32 % 65536).toInt32) = 62 by decide, r1, ocv_at]
    exact ⟨u, cap', da', rfl, r2⟩
  | 4, _ =>
    obtain ⟨u, cap', da', r1, r2⟩ := p_wrd (n := n) (i := 8) W (by decide) (by omega) h
    rw [show tTx (fun j => zch (oktx 8) j &&& 255) (oktx 8).toList.length 0 = [62, 61] by decide +kernel] at r2
    rw [show jRc 4 = 301 from rfl, if_neg (by decide), if_pos rfl, if_neg (by decide), ob, obn_at, r1, ocv_at]
    exact ⟨u, cap', da', rfl, r2⟩
end TSN
