/-! the class's Judge: meet() where it asks, conclude() -/
section JMA
variable {κ : oKv} {T n j o ca pa ph ta th len W b c k s : Nat} {f : Nat → Int64} {rd : Int32} {wk : Option Nat} {ps : Int32} {P Tr : List (Nat × Bool)} {B : Int} {sl : Nat → Nat} {σ : oSt} {L : List oLm}
/-- one side of a FACT, asked -/
theorem m_ask {fs fx : List Value} {r : Nat} {t : kTe} {p : Bool} {x4 le : Int32} {pl : Int64} {k62 : Option Nat → Option Nat → Int32 → Int32 → Int32 → Int32 → Int32 → oSt → oRs} {A : Prop} (hc : 0 < c ∧ c ≤ 60) (hWc : W = 2 * c) (hl : len < 2 ^ 31) (hm : b + W * W ≤ len) (J : jSt σ j o ca pa ph ta th len W b 1 0 f rd wk ps P Tr) (hv : oQn W b L f 0) (hk : σ.1 k = some (.inr (4, fs))) (hf : kRf fx fs r t) (hr : r ≤ 4) (hn : ∀ a e, t.1 = some (a, e) → nSl σ rd sl c a) (hs : s < c) (hle : le = 0 ∨ le = 1) (hpl : fs[14]? = some (.long pl)) (hb1 : -1125899906842624 ≤ t.2 ∧ t.2 ≤ 1125899906842624) (hx4 : (x4 = 1 ∧ A) ∨ (x4 = 0 ∧ ¬ A)) : ∃ x4', oj_X1_meet_95 T (oF κ T (n + 2)) κ k62 (some j) (some k) (nI s) 1 x4 le (sgI p) ((sgI p).toInt64 * pl - le.toInt64) (2 * nI s) (b01 (!p)) σ = k62 (some j) (some k) (nI s) 1 x4' le (sgI p + (-2)) σ ∧ ((x4' = 1 ∧ A ∧ (tld r p = true → lmQ L (fcl s (sgI p).toInt le.toInt (kSl sl t)))) ∨ (x4' = 0 ∧ ¬ (A ∧ (tld r p = true → lmQ L (fcl s (sgI p).toInt le.toInt (kSl sl t)))))) := by
  have ept : pl.toInt = t.2 := by
    obtain ⟨-, -, -, ⟨pl', q1, q2⟩, -⟩ := hf
    rw [hpl] at q1
    injection q1 with q1
    injection q1 with q1
    rw [q1]
    exact q2
  rw [show n + 2 = (n + 1) + 1 from rfl, m95 (sl := sl) (c := c) (rd := rd) hk hf hr hn]
  unfold oj_X1_meet_188 oj_X1_meet_230 oj_X1_meet_224 oj_X1_meet_225 oj_X1_meet_248
  cases ht : tld r p with
  | false =>
    rw [if_pos (show b01 false = 0 by decide), if_pos (show b01 false = 0 by decide)]
    refine ⟨x4, rfl, ?_⟩
    rcases hx4 with ⟨h1, h2⟩ | ⟨h1, h2⟩
    · exact Or.inl ⟨h1, h2, fun w => by cases w⟩
    · exact Or.inr ⟨h1, fun w => h2 w.1⟩
  | true =>
    have fJ0 : ofd σ (some j) 3 0 = some (.ref o) := ofd_at J.1
    have m12 := J.ne.2.1.1
    obtain ⟨q1, q2⟩ := fcl_12 (s := s) (sg := (sgI p).toInt) (le := 0) (le' := le.toInt) (t := kSl sl t)
    have hle' : le.toInt = 0 ∨ le.toInt = 1 := by rcases hle with rfl | rfl <;> decide
    obtain ⟨l1, l2, l3⟩ := fcl_ln (B := 2251799813685252) (sl := sl) (s := s) (sg := (sgI p).toInt) (le := le.toInt) (t := t) hWc hs (by cases p <;> decide) hle' (fun a e w => by obtain ⟨_, _, _, _, q⟩ := hn a e w; exact q) (by omega)
    have nm := m_num (s := s) (sl := sl) (p := p) hle ept hb1
    rw [if_neg (show ¬ b01 true = 0 by decide), if_neg (show ¬ (1 : Int32) = 0 by decide)]
    rcases hx4 with ⟨rfl, h2⟩ | ⟨rfl, h2⟩
    · obtain ⟨v, a1, a2⟩ := c_isl (κ := κ) (T := T) (n := n + 1) (σ := σ) (ca := ca) (o := o) (x := (fcl s (sgI p).toInt le.toInt (kSl sl t)).1) (y := (fcl s (sgI p).toInt le.toInt (kSl sl t)).2.1) (w := if t.1 = none then ((sgI p).toInt64 * pl - le.toInt64) * 2 else (sgI p).toInt64 * pl - le.toInt64) (by omega) hWc (Ne.symm m12) hl hm l1 l2 (by rw [nm]; omega) hv
      rw [J.oc] at a1
      rw [if_neg (show ¬ (1 : Int32) = 0 by decide), fJ0, ovr_rf, obn_at, oob_at J.2.1.1, obn_at, q1, q2, a1, oin_at]
      rw [nm] at a2
      rcases a2 with ⟨rfl, a2⟩ | ⟨rfl, a2⟩
      · rw [if_neg (by decide)]
        exact ⟨1, rfl, Or.inl ⟨rfl, h2, fun _ => a2⟩⟩
      · rw [if_pos rfl]
        exact ⟨0, rfl, Or.inr ⟨rfl, fun w => a2 (w.2 rfl)⟩⟩
    · rw [if_pos rfl]
      exact ⟨0, rfl, Or.inr ⟨rfl, fun w => h2 w.1⟩⟩
/-- **meet(fact, slot, true)** -/
theorem c_meet1 {fs fx : List Value} {r : Nat} {t : kTe} (hT : 200 ≤ T) (hc : 0 < c ∧ c ≤ 60) (hWc : W = 2 * c) (hl : len < 2 ^ 31) (hm : b + W * W ≤ len) (J : jSt σ j o ca pa ph ta th len W b 1 0 f rd wk ps P Tr) (hv : oQn W b L f 0) (hk : σ.1 k = some (.inr (4, fs))) (hf : kRf fx fs r t) (hr : r ≤ 4) (hn : ∀ a e, t.1 = some (a, e) → nSl σ rd sl c a) (hs : s < c) (hb1 : -1125899906842624 ≤ t.2 ∧ t.2 ≤ 1125899906842624) : ∃ v, oF κ T (n + 3) 49 [va_rf (some j), va_rf (some k), .int (nI s), .int 1] σ = some (some (.int v), σ) ∧ ((v = 1 ∧ ∀ l, l ∈ facL s (r, kSl sl t) → lmQ L l) ∨ (v = 0 ∧ ¬ ∀ l, l ∈ facL s (r, kSl sl t) → lmQ L l)) := by
  have hf' := hf
  obtain ⟨f1, f2, f3, ⟨pl, f4, f5⟩, f6⟩ := hf'
  have g11 : ofd σ (some k) 4 11 = some (.int (jRc r)) := (ofd_at hk).trans f3
  have fJ7 : ofd σ (some j) 3 7 = some (.int rd) := ofd_at J.1
  have g14 : ofd σ (some k) 4 14 = some (.long pl) := (ofd_at hk).trans f4
  obtain ⟨T', hT'⟩ : ∃ t', T = t' + 3 := ⟨T - 3, by omega⟩
  have both : ∀ le : Int32, (le = 0 ∨ le = 1) → (le = if r = 1 ∨ r = 3 then 1 else 0) → ∃ v, oj_X1_meet_57 T (oF κ T (n + 2)) κ (some j) (some k) (nI s) 1 1 le σ = some (some (.int v), σ) ∧ ((v = 1 ∧ ∀ l, l ∈ facL s (r, kSl sl t) → lmQ L l) ∨ (v = 0 ∧ ¬ ∀ l, l ∈ facL s (r, kSl sl t) → lmQ L l)) := fun le hle hle1 => by
    unfold oj_X1_meet_57
    obtain ⟨x1, a1, a2⟩ := m_ask (κ := κ) (T := T) (n := n) (p := true) (x4 := 1) (sl := sl) (A := True) (k62 := ol_X1_meet_62 T (oF κ T (n + 2)) κ (T' + 2)) hc hWc hl hm J hv hk hf hr hn hs hle f4 hb1 (Or.inl ⟨rfl, trivial⟩)
    obtain ⟨x2, b1, b2⟩ := m_ask (κ := κ) (T := T) (n := n) (p := false) (x4 := x1) (sl := sl) (k62 := ol_X1_meet_62 T (oF κ T (n + 2)) κ (T' + 1)) hc hWc hl hm J hv hk hf hr hn hs hle f4 hb1 a2
    have all : (∀ l, l ∈ facL s (r, kSl sl t) → lmQ L l) ↔ (True ∧ (tld r true = true → lmQ L (fcl s (sgI true).toInt le.toInt (kSl sl t)))) ∧ (tld r false = true → lmQ L (fcl s (sgI false).toInt le.toInt (kSl sl t))) := by
      have e1 : r < 3 → (fcl s (sgI true).toInt le.toInt (kSl sl t)) = fcl s 1 (if r = 1 then 1 else 0) (kSl sl t) := fun z => by
        rw [hle1]
        by_cases y : r = 1
        · rw [if_pos (Or.inl y), if_pos y]; rfl
        · rw [if_neg (by omega), if_neg y]; rfl
      have e2 : r = 0 ∨ 2 < r → (fcl s (sgI false).toInt le.toInt (kSl sl t)) = fcl s (-1) (if r = 3 then 1 else 0) (kSl sl t) := fun z => by
        rw [hle1]
        by_cases y : r = 3
        · rw [if_pos (Or.inr y), if_pos y]; rfl
        · rw [if_neg (by omega), if_neg y]; rfl
      constructor
      · intro h
        refine ⟨⟨trivial, fun w => ?_⟩, fun w => ?_⟩
        · have w : r < 3 := of_decide_eq_true w
          rw [e1 w]
          exact h _ (List.mem_append_left _ (by show _ ∈ (if r < 3 then _ else _); rw [if_pos w]; exact List.mem_cons_self ..))
        · have w : r = 0 ∨ 2 < r := of_decide_eq_true w
          rw [e2 w]
          exact h _ (List.mem_append_right _ (by show _ ∈ (if r = 0 ∨ 2 < r then _ else _); rw [if_pos w]; exact List.mem_cons_self ..))
      · rintro ⟨⟨-, h1⟩, h2⟩ l hl'
        rcases List.mem_append.mp hl' with w | w
        · have w : l ∈ (if r < 3 then [fcl s 1 (if r = 1 then 1 else 0) (kSl sl t)] else []) := w
          by_cases z : r < 3
          · rw [if_pos z] at w
            rcases List.mem_cons.mp w with rfl | w
            · rw [← e1 z]; exact h1 (decide_eq_true z)
            · cases w
          · rw [if_neg z] at w; cases w
        · have w : l ∈ (if r = 0 ∨ 2 < r then [fcl s (-1) (if r = 3 then 1 else 0) (kSl sl t)] else []) := w
          by_cases z : r = 0 ∨ 2 < r
          · rw [if_pos z] at w
            rcases List.mem_cons.mp w with rfl | w
            · rw [← e2 z]; exact h2 (decide_eq_true z)
            · cases w
          · rw [if_neg z] at w; cases w
    refine ⟨x2, ?_, ?_⟩
    · have st1 : ol_X1_meet_62 T (oF κ T (n + 2)) κ T (some j) (some k) (nI s) 1 1 le 1 σ = ol_X1_meet_62 T (oF κ T (n + 2)) κ (T' + 3) (some j) (some k) (nI s) 1 1 le 1 σ := by rw [← hT']
      rw [st1, ol_X1_meet_62, if_neg (by decide), g14, ovl_lg, obn_at, if_neg (by decide)]
      refine a1.trans ?_
      rw [show (sgI true + (-2) : Int32) = -1 from rfl, ol_X1_meet_62, if_neg (by decide), g14, ovl_lg, obn_at, if_pos (by decide)]
      refine b1.trans ?_
      rw [show (sgI false + (-2) : Int32) = -3 from rfl, ol_X1_meet_62, if_pos (by decide)]
      rcases b2 with ⟨rfl, -⟩ | ⟨rfl, -⟩ <;> rfl
    · rw [all]
      rcases b2 with ⟨h1, h2⟩ | ⟨h1, h2⟩
      · exact Or.inl ⟨h1, h2⟩
      · exact Or.inr ⟨h1, h2⟩
  have e31 : ∃ v, oj_X1_meet_31 T (oF κ T (n + 2)) κ (some j) (some k) (nI s) 1 σ = some (some (.int v), σ) ∧ ((v = 1 ∧ ∀ l, l ∈ facL s (r, kSl sl t) → lmQ L l) ∨ (v = 0 ∧ ¬ ∀ l, l ∈ facL s (r, kSl sl t) → lmQ L l)) := by
    unfold oj_X1_meet_31 oj_X1_meet_52
    rw [g11, ovi_i, obn_at]
    have h5 : r = 0 ∨ r = 1 ∨ r = 2 ∨ r = 3 ∨ r = 4 := by omega
    rcases h5 with z | z | z | z | z
    · rw [show jRc r = 61 by rw [z]; rfl, if_neg (by decide), obn_at, if_neg (by decide)]
      exact both 0 (Or.inl rfl) (by rw [if_neg (by omega)])
    · rw [show jRc r = 60 by rw [z]; rfl, if_pos (by decide)]
      exact both 1 (Or.inr rfl) (by rw [if_pos (by omega)])
    · rw [show jRc r = 300 by rw [z]; rfl, if_neg (by decide), obn_at, if_neg (by decide)]
      exact both 0 (Or.inl rfl) (by rw [if_neg (by omega)])
    · rw [show jRc r = 62 by rw [z]; rfl, if_neg (by decide), obn_at, if_pos (by decide)]
      exact both 1 (Or.inr rfl) (by rw [if_pos (by omega)])
    · rw [show jRc r = 301 by rw [z]; rfl, if_neg (by decide), obn_at, if_neg (by decide)]
      exact both 0 (Or.inl rfl) (by rw [if_neg (by omega)])
  rw [show n + 3 = (n + 2) + 1 from rfl, oE_X1_meet]
  unfold ob_X1_meet
  rcases f6 with ⟨e1, e2⟩ | ⟨a, tm, e1, e2, e3, e4⟩
  · rw [show ofd σ (some k) 4 13 = some (va_rf none) from (ofd_at hk).trans e2]
    show ∃ v, obn (some none) _ = _ ∧ _
    rw [obn_at, if_pos rfl]
    exact e31
  · obtain ⟨gs, n1, n2, n3, n4⟩ := hn a _ e1
    rw [show ofd σ (some k) 4 13 = some (.ref a) from (ofd_at hk).trans e3, ovr_rf, obn_at, if_neg (by simp), obn_at, show ofd σ (some a) 6 7 = some (.int rd) from (ofd_at n1).trans n3, ovi_i, obn_at, fJ7, ovi_i, obn_at, if_pos rfl]
    exact e31
end JMA
section JCO
variable {lo : Nat × (Nat → Prop)} {κ : oKv} {T n j o ca pa ph ta th len W b c k w ra sa : Nat} {cl fa : Int32} {f : Nat → Int64} {rd : Int32} {wk : Option Nat} {ps : Int32} {P Tr : List (Nat × Bool)} {B : Int} {sl : Nat → Nat} {σ σ' : oSt} {L : List oLm} {F : List kFc} {G : List (Nat × kTe)}
theorem jSt.cg (J : jSt σ j o ca pa ph ta th len W b cl fa f rd wk ps P Tr) (h : ∀ x, x = j ∨ x = o ∨ x = ca ∨ x = pa ∨ x = ph ∨ x = ta ∨ x = th → σ'.1 x = σ.1 x) : jSt σ' j o ca pa ph ta th len W b cl fa f rd wk ps P Tr := by
  obtain ⟨h1, ⟨h2, h3⟩, ⟨gp, hp, h4, h5, h6⟩, ⟨gt, ht, h7, h8, h9⟩, h10, h11⟩ := J
  exact ⟨(h j (by simp)).trans h1, ⟨(h o (by simp)).trans h2, (h ca (by simp)).trans h3⟩, ⟨gp, hp, (h pa (by simp)).trans h4, (h ph (by simp)).trans h5, h6⟩, ⟨gt, ht, (h ta (by simp)).trans h7, (h th (by simp)).trans h8, h9⟩, h10, h11⟩
/-- what conclude() may change: the Known that is weakened, its origin, the origin's rows -/
def cHg (k w ra sa : Nat) (σ σ' : oSt) : Prop := (∀ x, x ≠ k → x ≠ w → x ≠ ra → x ≠ sa → σ'.1 x = σ.1 x) ∧ σ'.2 = σ.2 ∧ ∀ x fs, (x = k ∨ x = w) → σ.1 x = some (.inr (4, fs)) → ∃ fs', σ'.1 x = some (.inr (4, fs')) ∧ fs'.length = fs.length ∧ ∀ i, i < 11 → (i = 7 → x ≠ w) → fs'[i]? = fs[i]?
theorem cTm.hg {su : Nat} {t : kTe} (hk : ∃ fs, σ.1 k = some (.inr (4, fs))) (hw : ∃ fs, σ.1 w = some (.inr (4, fs))) (hr : lo.2 ra ∧ lo.2 sa) (ha : ∃ y, σ.1 ra = some (.inl (.int, y))) (hb : ∃ y, σ.1 sa = some (.inl (.object "LiquidTongue$Sum", y))) (h : cHg k w ra sa σ σ') (g : cTm lo σ su t) : cTm lo σ' su t := by
  obtain ⟨na, ta', cap, Ls, pl, ⟨g, h', s1, s2, s3, s4, s5⟩, h2, ⟨h3, l1, l2, l3⟩, h4⟩ := g
  obtain ⟨fk, hk⟩ := hk
  obtain ⟨fw, hw⟩ := hw
  obtain ⟨ya, ha⟩ := ha
  obtain ⟨yb, hb⟩ := hb
  have no : ∀ {x y : Nat} {a b : oC}, σ.1 x = some a → σ.1 y = some b → a ≠ b → x ≠ y := fun {x y a b} e1 e2 hne e => by
    subst e
    rw [e1] at e2
    exact hne (Option.some.inj e2)
  refine ⟨na, ta', cap, Ls, pl, ⟨g, h', (h.1 _ (no s1 hk ?_) (no s1 hw ?_) (no s1 ha ?_) (no s1 hb ?_)).trans s1, (h.1 _ (no s2 hk ?_) (no s2 hw ?_) (no s2 ha ?_) (no s2 hb ?_)).trans s2, (h.1 _ (no s3 hk ?_) (no s3 hw ?_) (fun e => l3 (by rw [e]; exact hr.1)) (no s3 hb ?_)).trans s3, s4, fun i b' c' e => ?_⟩, h2, ⟨h3, l1, l2, l3⟩, h4⟩
  case refine_12 =>
    obtain ⟨q1, q2, fs, q3⟩ := s5 i b' c' e
    exact ⟨q1, q2, fs, (h.1 _ (no q3 hk (by intro e; simp at e)) (no q3 hw (by intro e; simp at e)) (no q3 ha (by intro e; simp at e)) (no q3 hb (by intro e; simp at e))).trans q3⟩
  all_goals (intro e; simp at e)
theorem cHg.rf (σ : oSt) : cHg k w ra sa σ σ := ⟨fun _ _ _ _ _ => rfl, rfl, fun _ fs _ e => ⟨fs, e, rfl, fun _ _ _ => rfl⟩⟩
theorem cHg.tr {a b c : oSt} (h : cHg k w ra sa a b) (g : cHg k w ra sa b c) : cHg k w ra sa a c := ⟨fun x h1 h2 h3 h4 => (g.1 x h1 h2 h3 h4).trans (h.1 x h1 h2 h3 h4), g.2.1.trans h.2.1, fun x fs hx e => by
  obtain ⟨f1, a1, a2, a3⟩ := h.2.2 x fs hx e
  obtain ⟨f2, b1, b2, b3⟩ := g.2.2 x f1 hx a1
  exact ⟨f2, b1, b2.trans a2, fun i h1 h2 => (b3 i h1 h2).trans (a3 i h1 h2)⟩⟩
theorem cHg.kw (h : cHg k w ra sa σ σ') (hk : ∃ fs, σ.1 k = some (.inr (4, fs))) (hw : ∃ fs, σ.1 w = some (.inr (4, fs))) (ha : ∃ y, σ.1 ra = some (.inl (.int, y))) (hb : ∃ y, σ.1 sa = some (.inl (.object "LiquidTongue$Sum", y))) : jKw (fun x => x = w ∨ x = ra ∨ x = sa) pa ph ta th σ σ' := by
  obtain ⟨fk, hk⟩ := hk
  obtain ⟨fw, hw⟩ := hw
  obtain ⟨ya, ha⟩ := ha
  obtain ⟨yb, hb⟩ := hb
  refine ⟨fun x cc e _ l => ?_, fun x e _ => ?_, by rw [h.2.1]; exact Nat.le_refl _, fun x fs e => ?_⟩
  · have n1 : x ≠ k := fun z => by subst z; rw [hk] at e; injection e with e; subst e; exact l rfl
    have n2 : x ≠ w := fun z => by subst z; rw [hw] at e; injection e with e; subst e; exact l rfl
    have n3 : x ≠ ra := fun z => by subst z; rw [ha] at e; injection e with e; subst e; exact l (Or.inl rfl) (Or.inr (Or.inl rfl))
    have n4 : x ≠ sa := fun z => by subst z; rw [hb] at e; injection e with e; subst e; exact l (Or.inr rfl) (Or.inr (Or.inr rfl))
    rw [h.1 x n1 n2 n3 n4]
    exact e
  · have n1 : x ≠ k := fun z => by subst z; rw [hk] at e; cases e
    have n2 : x ≠ w := fun z => by subst z; rw [hw] at e; cases e
    have n3 : x ≠ ra := fun z => by subst z; rw [ha] at e; cases e
    have n4 : x ≠ sa := fun z => by subst z; rw [hb] at e; cases e
    rw [h.1 x n1 n2 n3 n4]
    exact e
  · by_cases z : x = k ∨ x = w
    · obtain ⟨f1, a1, a2, a3⟩ := h.2.2 x fs z e
      exact ⟨f1, a1, a2, fun i hi h7 => a3 i hi (fun e7 ew => h7 e7 (Or.inl ew))⟩
    · have n3 : x ≠ ra := fun y => by subst y; rw [ha] at e; cases e
      have n4 : x ≠ sa := fun y => by subst y; rw [hb] at e; cases e
      exact ⟨fs, (h.1 x (fun y => z (Or.inl y)) (fun y => z (Or.inr y)) n3 n4).trans e, rfl, fun _ _ _ => rfl⟩
end JCO
