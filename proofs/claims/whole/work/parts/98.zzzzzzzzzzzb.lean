/-! the class's Judge: limit() of a Sum -/
/-- a level, closed or not -/
def oLv (cl : Int32) (B : Int) (W b : Nat) (L : List oLm) (f : Nat → Int64) (fa : Int32) : Prop := (cl = 0 ∧ oPn B W b L f fa) ∨ (cl = 1 ∧ oQn W b L f fa)
section OLV
variable {κ : oKv} {T n o ca len W c b : Nat} {cl fa : Int32} {σ : oSt} {B : Int} {L : List oLm} {f : Nat → Int64}
theorem oLv.fl (h : oLv cl B W b L f fa) : fa = 0 ∨ fa = 1 := by
  rcases h with ⟨-, h⟩ | ⟨-, h⟩
  · exact h.1
  · exact h.1
theorem oLv.triv {y : Nat} {w : Int} (hw : 0 ≤ w) (h : oLv cl B W b L f fa) : oLv cl B W b ((bx y, y, w) :: L) f fa := by
  have sub : ∀ l, l ∈ L → l ∈ (bx y, y, w) :: L := fun l h => List.mem_cons_of_mem _ h
  rcases h with ⟨e, h1, h2, h3⟩ | ⟨e, h1, h2, h3⟩
  · refine Or.inl ⟨e, h1, fun e hO => h2 e (xOk.mono sub hO), fun e => ?_⟩
    obtain ⟨q1, q2, q3⟩ := h3 e
    refine ⟨q1, q2, fun i j e' => ?_⟩
    rw [q3]
    constructor
    · rintro (k | k)
      · exact Or.inl (xC.mono sub _ _ _ k)
      · exact Or.inr k
    · rintro (⟨l, k1, k2, k3⟩ | k)
      · rcases List.mem_cons.mp k1 with rfl | k1
        · have k3 : w ≤ e' := k3
          rcases k2 with ⟨rfl, rfl⟩ | ⟨rfl, rfl⟩
          · exact Or.inr ⟨rfl, by omega⟩
          · exact Or.inr ⟨bx_bx _, by omega⟩
        · exact Or.inl ⟨l, k1, k2, k3⟩
      · exact Or.inr k
  · have eq := xDv.cons (L := L) (l := (bx y, y, w)) (xDv.up _ _ _ _ (xDv.z _) hw)
    refine Or.inr ⟨e, h1, fun e hO => h2 e (xOk.mono sub hO), fun e => ?_⟩
    obtain ⟨q1, q2, q3, q4⟩ := h3 e
    refine ⟨?_, q2, q3, ?_⟩
    · unfold xOk; rw [eq]; exact q1
    · rw [eq]; exact q4
theorem oLv.bad {y : Nat} {w : Int} (hw : w < 0) (h : oLv cl B W b L f fa) : oLv cl B W b ((bx y, y, w) :: L) f 1 := by
  have no : ¬ xOk (xC ((bx y, y, w) :: L)) := fun hO => by
    have := hO (bx y) w (xDv.base _ _ _ (xC_self (l := (bx y, y, w))))
    omega
  rcases h with ⟨e, h⟩ | ⟨e, h⟩
  · exact Or.inl ⟨e, Or.inr rfl, fun _ => no, fun e => absurd e (by decide)⟩
  · exact Or.inr ⟨e, Or.inr rfl, fun _ => no, fun e => absurd e (by decide)⟩
theorem oLv.one {l : oLm} (h : oLv cl B W b L f 1) : oLv cl B W b (l :: L) f 1 := by
  have sub : ∀ k, k ∈ L → k ∈ l :: L := fun k h => List.mem_cons_of_mem _ h
  rcases h with ⟨e, h⟩ | ⟨e, h⟩
  · exact Or.inl ⟨e, Or.inr rfl, fun e hO => h.2.1 e (xOk.mono sub hO), fun e => absurd e (by decide)⟩
  · exact Or.inr ⟨e, Or.inr rfl, fun e hO => h.2.1 e (xOk.mono sub hO), fun e => absurd e (by decide)⟩
/-- **limit(a, b, w)**, whichever level -/
theorem c_olim {x y : Nat} {w : Int64} (hT : 200 ≤ T) (hW : W ≤ 160) (hWc : W = 2 * c) (hne : ca ≠ o) (hl : len < 2 ^ 31) (hm : b + W * W ≤ len) (hx : x < W) (hy : y < W) (hB : 0 ≤ B) (hBW : (W : Int) * B + B + 2 ≤ 4503599627370496) (hL : xLn B W L) (hw : -B ≤ w.toInt ∧ w.toInt ≤ B) (h : oLv cl B W b L f fa) : ∃ f' fa', oF κ T (n + 2) 44 [va_rf (some o), .int (nI x), .int (nI y), .long w] (gOc σ o ca len W b cl fa f) = some (none, gOc σ o ca len W b cl fa' f') ∧ oLv cl B W b ((x, y, w.toInt) :: L) f' fa' ∧ ∀ e, (e < b ∨ b + W * W ≤ e) → f' e = f e := by
  have hBB : B ≤ 4503599627370496 := by
    have : 0 ≤ (W : Int) * B := Int.mul_nonneg (by omega) hB
    omega
  rcases h with ⟨rfl, h⟩ | ⟨rfl, h⟩
  · obtain ⟨f', fa', a1, a2, a3⟩ := c_lim0 (κ := κ) (T := T) (n := n + 1) (σ := σ) hW hWc hne hl hm hx hy (by omega) hw h
    exact ⟨f', fa', a1, Or.inl ⟨rfl, a2⟩, a3⟩
  · obtain ⟨f', fa', a1, a2, a3⟩ := c_lim1 (κ := κ) (T := T) (n := n) (σ := σ) hT hW hWc hne hl hm hx hy hB hBW hL hw h
    exact ⟨f', fa', a1, Or.inr ⟨rfl, a2⟩, a3⟩
end OLV
section JLM
variable {κ : oKv} {T n j o ca len W c b su na ta cap : Nat} {cl fa rd : Int32} {σ : oSt} {B : Int} {Lm : List oLm} {f : Nat → Int64} {jf : List Value} {L : List (Nat × Int32)} {pl : Int64} {sl : Nat → Nat}
/-- side(name, times) -/
theorem c_side {a : Nat} {fs : List Value} {t : Int32} (h : σ.1 a = some (.inr (6, fs))) (h6 : fs[6]? = some (.int (nI (sl a)))) : oF κ T (n + 1) 47 [va_rf (some a), .int t] σ = some (some (.int (nI (sd (sl a) t.toInt))), σ) := by
  rw [oE_X1_side]
  unfold ob_X1_side sd
  rw [ofd_at h, h6, ovi_i, obn_at, n2a]
  by_cases z : 0 < t.toInt
  · rw [if_neg (fun v => (j32_pos t).mp v z), if_pos z, Int32.add_zero, Nat.add_zero]
  · rw [if_pos ((j32_pos t).mpr z), if_neg z, nI_p1]
/-- a NAME of this round -/
def nSl (σ : oSt) (rd : Int32) (sl : Nat → Nat) (c a : Nat) : Prop := ∃ fs, σ.1 a = some (.inr (6, fs)) ∧ fs[6]? = some (.int (nI (sl a))) ∧ fs[7]? = some (.int rd) ∧ sl a < c
def sMp (sl : Nat → Nat) (L : List (Nat × Int32)) : List (Nat × Int) := L.map (fun q => (sl q.1, q.2.toInt))
theorem i64_sg' {s : Int32} {pl : Int64} {le : Int32} (hs : s = 1 ∨ s = -1) (hp : -1125899906842624 ≤ pl.toInt ∧ pl.toInt ≤ 1125899906842624) (hm : le = 0 ∨ le = 1) : ((-s).toInt64 * pl - le.toInt64).toInt = -s.toInt * pl.toInt - le.toInt := by
  have e1 : ((-s).toInt64 * pl).toInt = -s.toInt * pl.toInt := by
    rcases hs with rfl | rfl
    · rw [show (-1 : Int32).toInt64 = -1 from rfl, show (1 : Int32).toInt = 1 from rfl, j_mul] <;> rw [show (-1 : Int64).toInt = -1 from rfl] <;> omega
    · rw [show (- -1 : Int32).toInt64 = 1 from rfl, show (-1 : Int32).toInt = -1 from rfl, j_mul] <;> rw [show (1 : Int64).toInt = 1 from rfl] <;> omega
  have b1 : -1125899906842624 ≤ -s.toInt * pl.toInt ∧ -s.toInt * pl.toInt ≤ 1125899906842624 := by
    rcases hs with rfl | rfl
    · rw [show (1 : Int32).toInt = 1 from rfl]; omega
    · rw [show (-1 : Int32).toInt = -1 from rfl]; omega
  have b2 : le.toInt64.toInt = le.toInt ∧ (le.toInt = 0 ∨ le.toInt = 1) := by
    rcases hm with rfl | rfl
    · exact ⟨rfl, Or.inl rfl⟩
    · exact ⟨rfl, Or.inr rfl⟩
  rw [j_sub, e1, b2.1] <;> rw [e1, b2.1] <;> omega
/-- **limit(sum, sign, less)** -/
theorem c_jlim {s le : Int32} (hT : 200 ≤ T) (hc : 0 < c ∧ c ≤ 60) (hWc : W = 2 * c) (hne : ca ≠ o) (hl : len < 2 ^ 31) (hm : b + W * W ≤ len) (hB : 0 ≤ B) (hBW : (W : Int) * B + B + 2 ≤ 4503599627370496) (hL : xLn B W Lm) (hj : σ.1 j = some (.inr (3, jf))) (j0 : jf[0]? = some (.ref o)) (j7 : jf[7]? = some (.int rd)) (hσ : gOc σ o ca len W b cl fa f = σ) (h : oLv cl B W b Lm f fa) (hs : cSm σ su na ta cap L pl) (hF : sFa L = true) (hb : ∀ q, q ∈ L → -2 ≤ q.2.toInt ∧ q.2.toInt ≤ 2 ∧ q.2.toInt ≠ 0) (hn : ∀ q, q ∈ L → nSl σ rd sl c q.1) (h1 : s = 1 ∨ s = -1) (h2 : le = 0 ∨ le = 1) (hp : -1125899906842624 ≤ pl.toInt ∧ pl.toInt ≤ 1125899906842624) (hpB : -B ≤ 2 * pl.toInt - 2 ∧ 2 * pl.toInt + 2 ≤ B) : ∃ f' fa', oF κ T (n + 3) 54 [va_rf (some j), va_rf (some su), .int s, .int le] σ = some (none, gOc σ o ca len W b cl fa' f') ∧ oLv cl B W b (cmL (sMp sl L) pl.toInt s.toInt le.toInt :: Lm) f' fa' ∧ ∀ e, (e < b ∨ b + W * W ≤ e) → f' e = f e := by
  have en := i64_sg' (pl := pl) (le := le) h1 hp h2
  have b3 : (-s.toInt * pl.toInt = pl.toInt ∨ -s.toInt * pl.toInt = -pl.toInt) ∧ (le.toInt = 0 ∨ le.toInt = 1) := by
    constructor
    · rcases h1 with rfl | rfl
      · rw [show (1 : Int32).toInt = 1 from rfl]; exact Or.inr (by omega)
      · rw [show (-1 : Int32).toInt = -1 from rfl]; exact Or.inl (by omega)
    · rcases h2 with rfl | rfl
      · exact Or.inl rfl
      · exact Or.inr rfl
  have ho : σ.1 o = some (.inr (8, [.ref ca, .int (nI W), .int (nI b), .int cl, .int fa])) := by
    have := gOc_o (σ := σ) (o := o) (ca := ca) (len := len) (W := W) (b := b) (cl := cl) (fa := fa) (f := f)
    rw [hσ] at this
    exact this
  have fJ0 : ofd σ (some j) 3 0 = some (.ref o) := (ofd_at hj).trans j0
  have fJ7 : ofd σ (some j) 3 7 = some (.int rd) := (ofd_at hj).trans j7
  have fO4 : ofd σ (some o) 8 4 = some (.int fa) := ofd_at ho
  obtain ⟨g, h', s1, s2, s3, s4, s5⟩ := hs
  have hs : cSm σ su na ta cap L pl := ⟨g, h', s1, s2, s3, s4, s5⟩
  have fS0 : ofd σ (some su) 11 0 = some (.ref na) := ofd_at s1
  have fS1 : ofd σ (some su) 11 1 = some (.ref ta) := ofd_at s1
  have fS2 : ofd σ (some su) 11 2 = some (.int (nI L.length)) := ofd_at s1
  have fS3 : ofd σ (some su) 11 3 = some (.long pl) := ofd_at s1
  have p4 : ∀ v : Int32, opf σ (some o) 8 4 (.int v) = some (gOc σ o ca len W b cl v f) := fun v => by
    have := gOc_p4 (σ := σ) (o := o) (ca := ca) (len := len) (W := W) (b := b) (cl := cl) (fa := fa) (f := f) (v := v)
    rw [hσ] at this
    exact this
  have e0 : (0 : Int64).toInt = 0 := by decide
  rw [show n + 3 = (n + 2) + 1 from rfl, oE_X1_limit]
  unfold ob_X1_limit
  rw [fS3]
  show ∃ f' fa', obn (some pl) _ = _ ∧ _
  rw [obn_at, fS2, ovi_i, obn_at]
  match L, hF, hb, hn, s4, s5, hs, fS2 with
  | [], hF, hb, hn, s4, s5, hs, fS2 =>
    rw [if_pos (show nI ([] : List (Nat × Int32)).length = 0 from rfl), fJ0, ovr_rf, obn_at, obn_at, fO4, ovi_i, obn_at]
    unfold oj_X1_limit_41 oj_X1_limit_46
    simp only [p4, obn_at, ogd, show zbo 0 = true by decide, show zbo 1 = true by decide, if_true]
    have eM : cmL (sMp sl []) pl.toInt s.toInt le.toInt = (bx 1, 1, -s.toInt * pl.toInt - le.toInt) := rfl
    rw [eM]
    rcases oLv.fl h with rfl | rfl
    · rw [if_pos rfl]
      by_cases z : 0 ≤ lg_cmp ((-s).toInt64 * pl - le.toInt64) 0
      · rw [if_pos z]
        have z' := (l_ge _ _).mp z
        rw [e0, en] at z'
        exact ⟨f, 0, rfl, oLv.triv z' h, fun _ _ => rfl⟩
      · rw [if_neg z]
        have z' := l_gn z
        rw [e0, en] at z'
        exact ⟨f, 1, rfl, oLv.bad z' h, fun _ _ => rfl⟩
    · rw [if_neg (by decide)]
      exact ⟨f, 1, rfl, oLv.one h, fun _ _ => rfl⟩
  | [q], hF, hb, hn, s4, s5, hs, fS2 =>
    obtain ⟨fs, n1, n2, n3, n4⟩ := hn q (List.mem_cons_self ..)
    have hq := hb q (List.mem_cons_self ..)
    obtain ⟨t1, t2, -⟩ := s5 0 q.1 q.2 rfl
    have hcap : 0 < cap := by omega
    have r0 : oar σ (some na) 0 = some (some q.1) := by
      simp only [oar, s2, show zin 0 cap = true from decide_eq_true ⟨by decide, by show (0 : Int) < cap; omega⟩, if_true, show (0 : Int32).toNatClampNeg = 0 by decide, t1]
    have r1 : oai σ (some ta) .int 0 = some q.2 := by
      simp only [oai, s3, show zin 0 cap = true from decide_eq_true ⟨by decide, by show (0 : Int) < cap; omega⟩, and_self, if_true, show (0 : Int32).toNatClampNeg = 0 by decide, t2]
    have sdn := c_side (κ := κ) (T := T) (n := n + 1) (σ := σ) (sl := sl) (t := s * q.2) n1 n2
    have es := i32_sg h1 ⟨hq.1, hq.2.1⟩
    rw [es] at sdn
    have fN : ofd σ (some q.1) 6 7 = some (.int rd) := (ofd_at n1).trans n3
    have hsd : sd (sl q.1) (s.toInt * q.2.toInt) < W := by rw [hWc]; unfold sd; split <;> omega
    rw [if_neg (show ¬ nI [q].length = 0 from by show ¬ nI 1 = 0; decide), oob_at s1, obn_at, x_fact hs, if_pos hF]
    have m0 : nI [q].length - 1 = 0 := by show nI 1 - 1 = 0; decide
    simp only [oin, fS0, fS1, fS2, fJ7, ovr_rf, ovi_i, obn_at, r0, fN, if_true, r1, sdn, show nI [q].length = 1 from rfl, show (1 : Int32) - 1 = 0 by decide, if_neg (show ¬ (1 : Int32) = 0 by decide)]
    unfold oj_X1_limit_169 oj_X1_limit_170
    simp only [fJ0, ovr_rf, obn_at, oob_at ho, if_neg (show ¬ (1 : Int32) = 0 by decide), if_true]
    have eM : cmL (sMp sl [q]) pl.toInt s.toInt le.toInt = (sd (sl q.1) (s.toInt * q.2.toInt), sd (sl q.1) (s.toInt * q.2.toInt), if q.2.toInt = 1 ∨ q.2.toInt = -1 then 2 * (-s.toInt * pl.toInt - le.toInt) else -s.toInt * pl.toInt - le.toInt) := rfl
    rw [eM]
    have ab := jAbs_eq1 (v := q.2) (K := 2) (by decide) ⟨by omega, by omega⟩
    have e2 : (2 : Int64).toInt = 2 := by decide
    by_cases z : q.2.toInt = 1 ∨ q.2.toInt = -1
    · rw [if_pos (show (if 0 ≤ q.2 then q.2 else 0 - q.2) = 1 from ab.mpr z), if_pos z]
      have ew : (2 * ((-s).toInt64 * pl - le.toInt64)).toInt = 2 * (-s.toInt * pl.toInt - le.toInt) := by rw [j_mul, e2, en] <;> rw [e2, en] <;> omega
      obtain ⟨f', fa', a1, a2, a3⟩ := c_olim (κ := κ) (T := T) (n := n) (σ := σ) (x := sd (sl q.1) (s.toInt * q.2.toInt)) (y := sd (sl q.1) (s.toInt * q.2.toInt)) (w := 2 * ((-s).toInt64 * pl - le.toInt64)) hT (by omega) hWc hne hl hm hsd hsd hB hBW hL (by rw [ew]; omega) h
      rw [hσ] at a1
      rw [a1, ocv_at]
      rw [ew] at a2
      exact ⟨f', fa', rfl, a2, a3⟩
    · rw [if_neg (show ¬ (if 0 ≤ q.2 then q.2 else 0 - q.2) = 1 from fun w => z (ab.mp w)), if_neg z]
      obtain ⟨f', fa', a1, a2, a3⟩ := c_olim (κ := κ) (T := T) (n := n) (σ := σ) (x := sd (sl q.1) (s.toInt * q.2.toInt)) (y := sd (sl q.1) (s.toInt * q.2.toInt)) (w := (-s).toInt64 * pl - le.toInt64) hT (by omega) hWc hne hl hm hsd hsd hB hBW hL (by rw [en]; omega) h
      rw [hσ] at a1
      rw [a1, ocv_at]
      rw [en] at a2
      exact ⟨f', fa', rfl, a2, a3⟩
  | [q, q'], hF, hb, hn, s4, s5, hs, fS2 =>
    obtain ⟨fs, n1, n2, n3, n4⟩ := hn q (List.mem_cons_self ..)
    obtain ⟨fs', n1', n2', n3', n4'⟩ := hn q' (List.mem_cons_of_mem _ (List.mem_cons_self ..))
    have hq := hb q (List.mem_cons_self ..)
    have hq' := hb q' (List.mem_cons_of_mem _ (List.mem_cons_self ..))
    obtain ⟨t1, t2, -⟩ := s5 0 q.1 q.2 rfl
    obtain ⟨t1', t2', -⟩ := s5 1 q'.1 q'.2 rfl
    have hcap : 1 < cap := by omega
    have z0 : zin 0 cap = true := decide_eq_true ⟨by decide, by show (0 : Int) < cap; omega⟩
    have z1 : zin 1 cap = true := decide_eq_true ⟨by decide, by show (1 : Int) < cap; omega⟩
    have r0 : oar σ (some na) 0 = some (some q.1) := by
      simp only [oar, s2, z0, if_true, show (0 : Int32).toNatClampNeg = 0 by decide, t1]
    have r1 : oai σ (some ta) .int 0 = some q.2 := by
      simp only [oai, s3, z0, and_self, if_true, show (0 : Int32).toNatClampNeg = 0 by decide, t2]
    have r0' : oar σ (some na) 1 = some (some q'.1) := by
      simp only [oar, s2, z1, if_true, show (1 : Int32).toNatClampNeg = 1 by decide, t1']
    have r1' : oai σ (some ta) .int 1 = some q'.2 := by
      simp only [oai, s3, z1, and_self, if_true, show (1 : Int32).toNatClampNeg = 1 by decide, t2']
    have sdn := c_side (κ := κ) (T := T) (n := n + 1) (σ := σ) (sl := sl) (t := s * q.2) n1 n2
    rw [i32_sg h1 ⟨hq.1, hq.2.1⟩] at sdn
    have sdn' := c_side (κ := κ) (T := T) (n := n + 1) (σ := σ) (sl := sl) (t := s * q'.2) n1' n2'
    rw [i32_sg h1 ⟨hq'.1, hq'.2.1⟩] at sdn'
    have fN : ofd σ (some q.1) 6 7 = some (.int rd) := (ofd_at n1).trans n3
    have fN' : ofd σ (some q'.1) 6 7 = some (.int rd) := (ofd_at n1').trans n3'
    have hsd : sd (sl q.1) (s.toInt * q.2.toInt) < W := by rw [hWc]; unfold sd; split <;> omega
    have hsd' : sd (sl q'.1) (s.toInt * q'.2.toInt) < W := by rw [hWc]; unfold sd; split <;> omega
    rw [if_neg (show ¬ nI [q, q'].length = 0 from by show ¬ nI 2 = 0; decide), oob_at s1, obn_at, x_fact hs, if_pos hF]
    have m0 : nI [q, q'].length - 1 = 1 := by show nI 2 - 1 = 1; decide
    simp only [oin, fS0, fS1, fS2, fJ7, ovr_rf, ovi_i, obn_at, r0, r0', fN, fN', if_true, r1, r1', sdn, sdn', show nI [q, q'].length = 2 from rfl, show (2 : Int32) - 1 = 1 by decide, if_neg (show ¬ (1 : Int32) = 0 by decide), if_neg (show ¬ (2 : Int32) = 1 by decide)]
    unfold oj_X1_limit_169 oj_X1_limit_170
    simp only [fJ0, ovr_rf, obn_at, oob_at ho, if_true]
    have eM : cmL (sMp sl [q, q']) pl.toInt s.toInt le.toInt = (sd (sl q.1) (s.toInt * q.2.toInt), sd (sl q'.1) (s.toInt * q'.2.toInt), -s.toInt * pl.toInt - le.toInt) := rfl
    rw [eM]
    obtain ⟨f', fa', a1, a2, a3⟩ := c_olim (κ := κ) (T := T) (n := n) (σ := σ) (x := sd (sl q.1) (s.toInt * q.2.toInt)) (y := sd (sl q'.1) (s.toInt * q'.2.toInt)) (w := (-s).toInt64 * pl - le.toInt64) hT (by omega) hWc hne hl hm hsd hsd' hB hBW hL (by rw [en]; omega) h
    rw [hσ] at a1
    rw [a1, ocv_at]
    rw [en] at a2
    exact ⟨f', fa', rfl, a2, a3⟩
  | q :: q' :: q'' :: L', hF, _, _, _, _, _, _ =>
    exfalso
    rcases (sFa_iff _).mp hF with k | k | k
    · have := k.1; simp only [List.length_cons] at this; omega
    · simp only [List.length_cons] at k; omega
    · have := k.1; simp only [List.length_cons] at this; omega
end JLM
