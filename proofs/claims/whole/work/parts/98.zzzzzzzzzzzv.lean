/-! the class's Judge: meet(), learn() -/
/-- one limit of a FACT: v is at most (sg = 1) or at least (sg = -1) what it stands to -/
def fcl (s : Nat) (sg le : Int) (t : kTe) : oLm := match t.1 with
  | none => (sd s sg, sd s sg, 2 * (sg * t.2 - le))
  | some (a, e) => (sd s sg, sd a (-sg * e), sg * t.2 - le)
/-- the limits of a FACT of the unknown s -/
def facL (s : Nat) (x : kFc) : List oLm := (if x.1 < 3 then [fcl s 1 (if x.1 = 1 then 1 else 0) x.2] else []) ++ (if x.1 = 0 ∨ 2 < x.1 then [fcl s (-1) (if x.1 = 3 then 1 else 0) x.2] else [])
/-- a term over slots -/
def kSl (sl : Nat → Nat) (t : kTe) : kTe := (t.1.map (fun x => (sl x.1, x.2)), t.2)
/-- whether a limit follows -/
def lmQ (L : List oLm) (l : oLm) : Prop := xDv bx (xC L) (bx l.2.1) l.1 l.2.2
def tld (r : Nat) (p : Bool) : Bool := if p then decide (r < 3) else decide (r = 0 ∨ 2 < r)
def sgI (p : Bool) : Int32 := if p then 1 else -1
section JMT
variable {κ : oKv} {T n j o ca pa ph ta th len W b c k s : Nat} {cl fa : Int32} {f : Nat → Int64} {rd : Int32} {wk : Option Nat} {ps : Int32} {P Tr : List (Nat × Bool)} {B : Int} {sl : Nat → Nat} {σ : oSt} {L : List oLm}
theorem m137 {call : oCl} {k62 : Option Nat → Option Nat → Int32 → Int32 → Int32 → Int32 → Int32 → oSt → oRs} {r : Nat} {p : Bool} {x0 : Option Nat} {x2 x3 x4 x5 x9 x10 : Int32} {x7 : Int64} (h11 : ofd σ (some k) 4 11 = some (.int (jRc r))) (hr : r ≤ 4) : oj_X1_meet_137 T call κ k62 x0 (some k) x2 x3 x4 x5 (sgI p) x7 x9 x10 σ = oj_X1_meet_188 T call κ k62 x0 (some k) x2 x3 x4 x5 (sgI p) x7 x9 x10 (b01 (tld r p)) σ := by
  unfold oj_X1_meet_137 oj_X1_meet_165 oj_X1_meet_170 oj_X1_meet_180 oj_X1_meet_183
  simp only [h11, ovi_i, obn_at]
  have h5 : r = 0 ∨ r = 1 ∨ r = 2 ∨ r = 3 ∨ r = 4 := by omega
  rcases h5 with rfl | rfl | rfl | rfl | rfl <;> cases p <;> rfl
/-- a NAME's side, or the same side again -/
theorem m95 {k62 : Option Nat → Option Nat → Int32 → Int32 → Int32 → Int32 → Int32 → oSt → oRs} {fs : List Value} {fx : List Value} {r : Nat} {t : kTe} {p : Bool} {x3 x4 x5 : Int32} {x7 : Int64} (hk : σ.1 k = some (.inr (4, fs))) (hf : kRf fx fs r t) (hr : r ≤ 4) (hn : ∀ a e, t.1 = some (a, e) → nSl σ rd sl c a) : oj_X1_meet_95 T (oF κ T (n + 1)) κ k62 (some j) (some k) (nI s) x3 x4 x5 (sgI p) x7 (2 * nI s) (b01 (!p)) σ = oj_X1_meet_188 T (oF κ T (n + 1)) κ k62 (some j) (some k) (nI s) x3 x4 x5 (sgI p) (if t.1 = none then x7 * 2 else x7) (nI (fcl s (sgI p).toInt 0 (kSl sl t)).1) (nI (fcl s (sgI p).toInt 0 (kSl sl t)).2.1) (b01 (tld r p)) σ := by
  obtain ⟨f1, f2, f3, ⟨pl, f4, f5⟩, f6⟩ := hf
  have g11 : ofd σ (some k) 4 11 = some (.int (jRc r)) := (ofd_at hk).trans f3
  have es : (2 * nI s + b01 (!p)) = nI (sd s (sgI p).toInt) := by
    rw [n2a]
    cases p
    · show nI (2 * s) + 1 = _
      rw [nI_p1]
      rfl
    · show nI (2 * s) + 0 = _
      rw [Int32.add_zero]
      rfl
  unfold oj_X1_meet_95
  rcases f6 with ⟨e1, e2⟩ | ⟨a, tm, e1, e2, e3, e4⟩
  · rw [show ofd σ (some k) 4 13 = some (va_rf none) from (ofd_at hk).trans e2]
    show obn (some none) _ = _
    rw [obn_at, if_pos rfl, m137 g11 hr, if_pos e1, es]
    have : fcl s (sgI p).toInt 0 (kSl sl t) = (sd s (sgI p).toInt, sd s (sgI p).toInt, 2 * ((sgI p).toInt * t.2 - 0)) := by
      unfold fcl kSl
      rw [e1]
      rfl
    rw [this]
  · obtain ⟨gs, n1, n2, n3, n4⟩ := hn a _ e1
    have g13 : ofd σ (some k) 4 13 = some (.ref a) := (ofd_at hk).trans e3
    have g12 : ofd σ (some k) 4 12 = some (.int tm) := (ofd_at hk).trans e4
    have sdn := c_side (κ := κ) (T := T) (n := n) (σ := σ) (sl := sl) (t := -(sgI p) * tm) n1 n2
    have em : (-(sgI p) * tm).toInt = -(sgI p).toInt * tm.toInt := by
      have := i32_sg (s := -(sgI p)) (t := tm) (by cases p <;> decide) (by omega)
      rw [this]
      cases p <;> rfl
    rw [em] at sdn
    rw [g13, ovr_rf, obn_at, if_neg (by simp), obn_at, g12, ovi_i, obn_at, sdn, oin_at, m137 g11 hr, if_neg (by rw [e1]; simp), es]
    have : fcl s (sgI p).toInt 0 (kSl sl t) = (sd s (sgI p).toInt, sd (sl a) (-(sgI p).toInt * tm.toInt), (sgI p).toInt * t.2 - 0) := by
      unfold fcl kSl
      rw [e1]
      rfl
    rw [this]
theorem fcl_12 {sg le le' : Int} {t : kTe} : (fcl s sg le t).1 = (fcl s sg le' t).1 ∧ (fcl s sg le t).2.1 = (fcl s sg le' t).2.1 := by
  unfold fcl
  split <;> exact ⟨rfl, rfl⟩
/-- the number of a limit -/
theorem m_num {p : Bool} {le : Int32} {pl : Int64} {t : kTe} (hle : le = 0 ∨ le = 1) (hp : pl.toInt = t.2) (hb : -1125899906842624 ≤ t.2 ∧ t.2 ≤ 1125899906842624) : (if t.1 = none then ((sgI p).toInt64 * pl - le.toInt64) * 2 else (sgI p).toInt64 * pl - le.toInt64).toInt = (fcl s (sgI p).toInt le.toInt (kSl sl t)).2.2 := by
  have e0 := i64_sg' (s := -(sgI p)) (pl := pl) (le := le) (by cases p <;> decide) (by rw [hp]; exact hb) hle
  have e1 : ((sgI p).toInt64 * pl - le.toInt64).toInt = (sgI p).toInt * t.2 - le.toInt := by
    rw [← hp]
    cases p
    · exact e0
    · exact e0
  have hl : le.toInt = 0 ∨ le.toInt = 1 := by rcases hle with rfl | rfl <;> decide
  have hs : (sgI p).toInt * t.2 = t.2 ∨ (sgI p).toInt * t.2 = -t.2 := by
    cases p
    · exact Or.inr (by show -1 * t.2 = _; omega)
    · exact Or.inl (by show 1 * t.2 = _; omega)
  have e2 : (2 : Int64).toInt = 2 := by decide
  cases et : t.1 with
  | none =>
    rw [if_pos rfl, j_mul, e1, e2]
    · unfold fcl kSl
      rw [et]
      show _ = 2 * ((sgI p).toInt * t.2 - le.toInt)
      omega
    · rw [e1, e2]; omega
    · rw [e1, e2]; omega
  | some x =>
    rw [if_neg (by simp), e1]
    unfold fcl kSl
    rw [et]
    rfl
/-- what the limits of a term are -/
theorem fcl_ln {sg le : Int} {t : kTe} (hWc : W = 2 * c) (hs : s < c) (hsg : sg = 1 ∨ sg = -1) (hle : le = 0 ∨ le = 1) (hn : ∀ a e, t.1 = some (a, e) → sl a < c) (hb : -B ≤ 2 * t.2 - 2 ∧ 2 * t.2 + 2 ≤ B) : (fcl s sg le (kSl sl t)).1 < W ∧ (fcl s sg le (kSl sl t)).2.1 < W ∧ -B ≤ (fcl s sg le (kSl sl t)).2.2 ∧ (fcl s sg le (kSl sl t)).2.2 ≤ B := by
  have sdl : ∀ {x : Nat} {y : Int}, x < c → sd x y < W := fun {x y} hx => by unfold sd; split <;> omega
  have hm : sg * t.2 = t.2 ∨ sg * t.2 = -t.2 := by
    rcases hsg with rfl | rfl
    · exact Or.inl (by omega)
    · exact Or.inr (by omega)
  unfold fcl kSl
  cases et : t.1 with
  | none => exact ⟨sdl hs, sdl hs, by show -B ≤ 2 * (sg * t.2 - le); omega, by show 2 * (sg * t.2 - le) ≤ B; omega⟩
  | some x => exact ⟨sdl hs, sdl (hn x.1 x.2 et), by show -B ≤ sg * t.2 - le; omega, by show sg * t.2 - le ≤ B; omega⟩
/-- one side of a FACT, taken -/
theorem m_take {fs fx : List Value} {r : Nat} {t : kTe} {p : Bool} {x4 le : Int32} {pl : Int64} {k62 : Option Nat → Option Nat → Int32 → Int32 → Int32 → Int32 → Int32 → oSt → oRs} (hT : 200 ≤ T) (hc : 0 < c ∧ c ≤ 60) (hWc : W = 2 * c) (hl : len < 2 ^ 31) (hm : b + W * W ≤ len) (hB : 0 ≤ B) (hBW : (W : Int) * B + B + 2 ≤ 4503599627370496) (hL : xLn B W L) (J : jSt σ j o ca pa ph ta th len W b cl fa f rd wk ps P Tr) (hv : oLv cl B W b L f fa) (hk : σ.1 k = some (.inr (4, fs))) (hf : kRf fx fs r t) (hr : r ≤ 4) (hn : ∀ a e, t.1 = some (a, e) → nSl σ rd sl c a) (hs : s < c) (hle : le = 0 ∨ le = 1) (hpl : fs[14]? = some (.long pl)) (hb1 : -1125899906842624 ≤ t.2 ∧ t.2 ≤ 1125899906842624) (hb2 : -B ≤ 2 * t.2 - 2 ∧ 2 * t.2 + 2 ≤ B) : ∃ σ' f' fa' L', oj_X1_meet_95 T (oF κ T (n + 2)) κ k62 (some j) (some k) (nI s) 0 x4 le (sgI p) ((sgI p).toInt64 * pl - le.toInt64) (2 * nI s) (b01 (!p)) σ = k62 (some j) (some k) (nI s) 0 x4 le (sgI p + (-2)) σ' ∧ jSt σ' j o ca pa ph ta th len W b cl fa' f' rd wk ps P Tr ∧ jKp pa ph ta th σ σ' ∧ σ'.2 = σ.2 ∧ oLv cl B W b L' f' fa' ∧ L' = (if tld r p = true then [fcl s (sgI p).toInt le.toInt (kSl sl t)] else []) ++ L ∧ ∀ e, (e < b ∨ b + W * W ≤ e) → f' e = f e := by
  have ept : pl.toInt = t.2 := by
    obtain ⟨-, -, -, ⟨pl', q1, q2⟩, -⟩ := hf
    rw [hpl] at q1
    injection q1 with q1
    injection q1 with q1
    rw [q1]
    exact q2
  rw [show n + 2 = (n + 1) + 1 from rfl, m95 (sl := sl) (c := c) (rd := rd) hk hf hr hn]
  unfold oj_X1_meet_188 oj_X1_meet_230 oj_X1_meet_248
  cases ht : tld r p with
  | false =>
    rw [if_pos (show b01 false = 0 by decide)]
    exact ⟨σ, f, fa, L, if_pos rfl, J, jKp.rf σ, rfl, hv, rfl, fun _ _ => rfl⟩
  | true =>
    have fJ0 : ofd σ (some j) 3 0 = some (.ref o) := ofd_at J.1
    have m12 := J.ne.2.1.1
    obtain ⟨q1, q2⟩ := fcl_12 (s := s) (sg := (sgI p).toInt) (le := 0) (le' := le.toInt) (t := kSl sl t)
    have hle' : le.toInt = 0 ∨ le.toInt = 1 := by rcases hle with rfl | rfl <;> decide
    obtain ⟨l1, l2, l3⟩ := fcl_ln (B := B) (sl := sl) (s := s) (sg := (sgI p).toInt) (le := le.toInt) (t := t) hWc hs (by cases p <;> decide) hle' (fun a e w => by obtain ⟨_, _, _, _, q⟩ := hn a e w; exact q) hb2
    have nm := m_num (s := s) (sl := sl) (p := p) hle ept hb1
    rw [if_neg (show ¬ b01 true = 0 by decide), if_pos rfl, if_neg (show ¬ b01 true = 0 by decide), fJ0, ovr_rf, obn_at, oob_at J.2.1.1, obn_at, q1, q2]
    obtain ⟨f', fa', a1, a2, a3⟩ := c_olim (κ := κ) (T := T) (n := n) (σ := σ) (ca := ca) (o := o) (x := (fcl s (sgI p).toInt le.toInt (kSl sl t)).1) (y := (fcl s (sgI p).toInt le.toInt (kSl sl t)).2.1) (w := if t.1 = none then ((sgI p).toInt64 * pl - le.toInt64) * 2 else (sgI p).toInt64 * pl - le.toInt64) hT (by omega) hWc (Ne.symm m12) hl hm l1 l2 hB hBW hL (by rw [nm]; exact l3) hv
    rw [J.oc] at a1
    rw [a1, ocv_at]
    obtain ⟨p1, p2⟩ := J.put (fa' := fa') (f' := f')
    rw [nm] at a2
    exact ⟨_, f', fa', _, rfl, p1, p2, rfl, a2, rfl, a3⟩
theorem sg64 (p : Bool) : (sgI p + (-2) : Int32) = if p then -1 else -3 := by cases p <;> decide
/-- **meet(fact, slot, false)** -/
theorem c_meet0 {fs fx : List Value} {r : Nat} {t : kTe} (hT : 200 ≤ T) (hc : 0 < c ∧ c ≤ 60) (hWc : W = 2 * c) (hl : len < 2 ^ 31) (hm : b + W * W ≤ len) (hB : 0 ≤ B) (hBW : (W : Int) * B + B + 2 ≤ 4503599627370496) (hL : xLn B W L) (J : jSt σ j o ca pa ph ta th len W b cl fa f rd wk ps P Tr) (hv : oLv cl B W b L f fa) (hk : σ.1 k = some (.inr (4, fs))) (hf : kRf fx fs r t) (hr : r ≤ 4) (hn : ∀ a e, t.1 = some (a, e) → nSl σ rd sl c a) (hs : s < c) (hb1 : -1125899906842624 ≤ t.2 ∧ t.2 ≤ 1125899906842624) (hb2 : -B ≤ 2 * t.2 - 2 ∧ 2 * t.2 + 2 ≤ B) : ∃ v σ' f' fa' L', oF κ T (n + 3) 49 [va_rf (some j), va_rf (some k), .int (nI s), .int 0] σ = some (some (.int v), σ') ∧ jSt σ' j o ca pa ph ta th len W b cl fa' f' rd wk ps P Tr ∧ jKp pa ph ta th σ σ' ∧ σ'.2 = σ.2 ∧ oLv cl B W b L' f' fa' ∧ xC L' = xC (facL s (r, kSl sl t) ++ L) ∧ xLn B W L' ∧ ∀ e, (e < b ∨ b + W * W ≤ e) → f' e = f e := by
  have hf' := hf
  obtain ⟨f1, f2, f3, ⟨pl, f4, f5⟩, f6⟩ := hf'
  have g11 : ofd σ (some k) 4 11 = some (.int (jRc r)) := (ofd_at hk).trans f3
  have fJ7 : ofd σ (some j) 3 7 = some (.int rd) := ofd_at J.1
  have g14 : ofd σ (some k) 4 14 = some (.long pl) := (ofd_at hk).trans f4
  obtain ⟨T', hT'⟩ : ∃ t', T = t' + 3 := ⟨T - 3, by omega⟩
  -- the two sides
  have both : ∀ le : Int32, (le = 0 ∨ le = 1) → (le = if r = 1 ∨ r = 3 then 1 else 0) → ∃ v σ' f' fa' L', oj_X1_meet_57 T (oF κ T (n + 2)) κ (some j) (some k) (nI s) 0 1 le σ = some (some (.int v), σ') ∧ jSt σ' j o ca pa ph ta th len W b cl fa' f' rd wk ps P Tr ∧ jKp pa ph ta th σ σ' ∧ σ'.2 = σ.2 ∧ oLv cl B W b L' f' fa' ∧ xC L' = xC (facL s (r, kSl sl t) ++ L) ∧ xLn B W L' ∧ ∀ e, (e < b ∨ b + W * W ≤ e) → f' e = f e := fun le hle hle1 => by
    unfold oj_X1_meet_57
    have hle' : le.toInt = 0 ∨ le.toInt = 1 := by rcases hle with rfl | rfl <;> decide
    have ln : ∀ (p : Bool), (fcl s (sgI p).toInt le.toInt (kSl sl t)).1 < W ∧ (fcl s (sgI p).toInt le.toInt (kSl sl t)).2.1 < W ∧ -B ≤ (fcl s (sgI p).toInt le.toInt (kSl sl t)).2.2 ∧ (fcl s (sgI p).toInt le.toInt (kSl sl t)).2.2 ≤ B := fun p => fcl_ln (B := B) (sl := sl) (s := s) (sg := (sgI p).toInt) (le := le.toInt) (t := t) hWc hs (by cases p <;> decide) hle' (fun a e w => by obtain ⟨_, _, _, _, q⟩ := hn a e w; exact q) hb2
    have xl : ∀ (p : Bool) (L0 : List oLm), xLn B W L0 → xLn B W ((if tld r p = true then [fcl s (sgI p).toInt le.toInt (kSl sl t)] else []) ++ L0) := fun p L0 h0 l hl' => by
      rcases List.mem_append.mp hl' with w | w
      · split at w
        · rcases List.mem_cons.mp w with rfl | w
          · exact ln p
          · cases w
        · cases w
      · exact h0 l w
    obtain ⟨σ1, f1', fa1, L1, a1, a2, a3, a4, a5, a6, a7⟩ := m_take (κ := κ) (T := T) (n := n) (p := true) (x4 := 1) (sl := sl) (k62 := ol_X1_meet_62 T (oF κ T (n + 2)) κ (T' + 2)) hT hc hWc hl hm hB hBW hL J hv hk hf hr hn hs hle f4 hb1 hb2
    have hk1 := a3.1 _ _ hk ⟨by show (4 : Nat) ≠ 3; decide, by show (4 : Nat) ≠ 8; decide⟩
    have hL1 : xLn B W L1 := by rw [a6]; exact xl true L hL
    obtain ⟨σ2, f2', fa2, L2, b1, b2, b3, b4, b5, b6, b7⟩ := m_take (κ := κ) (T := T) (n := n) (p := false) (x4 := 1) (sl := sl) (k62 := ol_X1_meet_62 T (oF κ T (n + 2)) κ (T' + 1)) hT hc hWc hl hm hB hBW hL1 a2 a5 hk1 hf hr (fun a e w => (hn a e w).jk a3) hs hle f4 hb1 hb2
    have g14' : ofd σ1 (some k) 4 14 = some (.long pl) := (ofd_at hk1).trans f4
    refine ⟨1, σ2, f2', fa2, L2, ?_, b2, a3.tr b3, b4.trans a4, b5, ?_, by rw [b6]; exact xl false L1 hL1, fun e he => (b7 e he).trans (a7 e he)⟩
    · have st1 : ol_X1_meet_62 T (oF κ T (n + 2)) κ T (some j) (some k) (nI s) 0 1 le 1 σ = ol_X1_meet_62 T (oF κ T (n + 2)) κ (T' + 3) (some j) (some k) (nI s) 0 1 le 1 σ := by rw [← hT']
      rw [st1, ol_X1_meet_62, if_neg (by decide), g14, ovl_lg, obn_at, if_neg (by decide)]
      refine a1.trans ?_
      rw [show (sgI true + (-2) : Int32) = -1 from rfl, ol_X1_meet_62, if_neg (by decide), g14', ovl_lg, obn_at, if_pos (by decide)]
      refine b1.trans ?_
      rw [show (sgI false + (-2) : Int32) = -3 from rfl, ol_X1_meet_62, if_pos (by decide)]
      rfl
    · rw [b6, a6]
      refine xC.cg fun l => ?_
      have e1 : (if tld r true = true then [fcl s (sgI true).toInt le.toInt (kSl sl t)] else []) = if r < 3 then [fcl s 1 (if r = 1 then 1 else 0) (kSl sl t)] else [] := by
        by_cases z : r < 3
        · rw [if_pos z, if_pos (show tld r true = true from decide_eq_true z), hle1]
          by_cases y : r = 1
          · rw [if_pos (Or.inl y), if_pos y]; rfl
          · rw [if_neg (by omega), if_neg y]; rfl
        · rw [if_neg z, if_neg (show ¬ tld r true = true from fun w => z (of_decide_eq_true w))]
      have e2 : (if tld r false = true then [fcl s (sgI false).toInt le.toInt (kSl sl t)] else []) = if r = 0 ∨ 2 < r then [fcl s (-1) (if r = 3 then 1 else 0) (kSl sl t)] else [] := by
        by_cases z : r = 0 ∨ 2 < r
        · rw [if_pos z, if_pos (show tld r false = true from decide_eq_true z), hle1]
          by_cases y : r = 3
          · rw [if_pos (Or.inr y), if_pos y]; rfl
          · rw [if_neg (by omega), if_neg y]; rfl
        · rw [if_neg z, if_neg (show ¬ tld r false = true from fun w => z (of_decide_eq_true w))]
      rw [e1, e2]
      unfold facL
      simp only [List.mem_append]
      exact ⟨fun z => by rcases z with z | z | z <;> simp [z], fun z => by rcases z with (z | z) | z <;> simp [z]⟩
  have e31 : ∃ v σ' f' fa' L', oj_X1_meet_31 T (oF κ T (n + 2)) κ (some j) (some k) (nI s) 0 σ = some (some (.int v), σ') ∧ jSt σ' j o ca pa ph ta th len W b cl fa' f' rd wk ps P Tr ∧ jKp pa ph ta th σ σ' ∧ σ'.2 = σ.2 ∧ oLv cl B W b L' f' fa' ∧ xC L' = xC (facL s (r, kSl sl t) ++ L) ∧ xLn B W L' ∧ ∀ e, (e < b ∨ b + W * W ≤ e) → f' e = f e := by
    unfold oj_X1_meet_31 oj_X1_meet_52
    rw [g11, ovi_i, obn_at]
    have h5 : r = 0 ∨ r = 1 ∨ r = 2 ∨ r = 3 ∨ r = 4 := by omega
    rcases h5 with z | z | z | z | z
    · rw [show jRc r = 61 by rw [z]; rfl, if_neg (by decide), obn_at, if_neg (by decide)]
      exact both 0 (Or.inl rfl) (by rw [if_neg (by omega)])
    · rw [show jRc r = 60 by rw [z]; rfl, if_pos (by decide)]
      exact both 1 (Or.inr rfl) (by rw [if_pos (by omega)])
    · rw [show jRc r = 300 by rw [z]; rfl, if_neg (by decide), obn_at, if_neg (by decide)]
      exact both 0 (Or.inl rfl) (by rw [if_neg (by omega)])
    · rw [show jRc r = 62 by rw [z]; rfl, if_neg (by decide), obn_at, if_pos (by decide)]
      exact both 1 (Or.inr rfl) (by rw [if_pos (by omega)])
    · rw [show jRc r = 301 by rw [z]; rfl, if_neg (by decide), obn_at, if_neg (by decide)]
      exact both 0 (Or.inl rfl) (by rw [if_neg (by omega)])
  rw [show n + 3 = (n + 2) + 1 from rfl, oE_X1_meet]
  unfold ob_X1_meet
  rcases f6 with ⟨e1, e2⟩ | ⟨a, tm, e1, e2, e3, e4⟩
  · rw [show ofd σ (some k) 4 13 = some (va_rf none) from (ofd_at hk).trans e2]
    show ∃ v σ' f' fa' L', obn (some none) _ = _ ∧ _
    rw [obn_at, if_pos rfl]
    exact e31
  · obtain ⟨gs, n1, n2, n3, n4⟩ := hn a _ e1
    rw [show ofd σ (some k) 4 13 = some (.ref a) from (ofd_at hk).trans e3, ovr_rf, obn_at, if_neg (by simp), obn_at, show ofd σ (some a) 6 7 = some (.int rd) from (ofd_at n1).trans n3, ovi_i, obn_at, fJ7, ovi_i, obn_at, if_pos rfl]
    exact e31
end JMT
