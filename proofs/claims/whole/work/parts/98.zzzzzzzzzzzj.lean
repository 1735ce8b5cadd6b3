/-! the class's Judge: compare() -/
/-- a relation's code in the class -/
def jRc (r : Nat) : Int32 := if r = 0 then 61 else if r = 1 then 60 else if r = 2 then 300 else if r = 3 then 62 else if r = 4 then 301 else 35
theorem c_opp {κ : oKv} {T n r : Nat} {σ : oSt} (hr : r ≤ 5) : oF κ T (n + 1) 53 [.int (jRc r)] σ = some (some (.int (jRc (rNo r))), σ) := by
  rw [oE_X1_opposite]
  unfold ob_X1_opposite
  match r, hr with
  | 0, _ => rfl
  | 1, _ => rfl
  | 2, _ => rfl
  | 3, _ => rfl
  | 4, _ => rfl
  | 5, _ => rfl
  | k + 6, h => omega
section JCM
variable {κ : oKv} {T n m su na ta' cap c : Nat} {σ σ' : oSt} {j o ca pa ph ta th len W b : Nat} {cl fa : Int32} {f : Nat → Int64} {rd : Int32} {wk : Option Nat} {ps : Int32} {P Tr : List (Nat × Bool)} {B : Int} {Lm : List oLm} {L : List (Nat × Int32)} {pl : Int64} {sl : Nat → Nat}
theorem cSm.jk (k : jKp pa ph ta th σ σ') (h : cSm σ su na ta' cap L pl) (h1 : na ≠ pa ∧ na ≠ ph ∧ na ≠ ta ∧ na ≠ th) (h2 : ta' ≠ pa ∧ ta' ≠ ph ∧ ta' ≠ ta ∧ ta' ≠ th) : cSm σ' su na ta' cap L pl := by
  obtain ⟨g, h', s1, s2, s3, s4, s5⟩ := h
  refine ⟨g, h', k.1 _ _ s1 ⟨by show (11 : Nat) ≠ 3; decide, by show (11 : Nat) ≠ 8; decide⟩, k.1 _ _ s2 ⟨(by intro e; cases e), h1⟩, k.1 _ _ s3 ⟨(by intro e; cases e), h2⟩, s4, fun i b c e => ?_⟩
  obtain ⟨a1, a2, fs, a3⟩ := s5 i b c e
  exact ⟨a1, a2, fs, k.1 _ _ a3 ⟨by show (6 : Nat) ≠ 3; decide, by show (6 : Nat) ≠ 8; decide⟩⟩
theorem nSl.jk {a : Nat} (k : jKp pa ph ta th σ σ') (h : nSl σ rd sl c a) : nSl σ' rd sl c a := by
  obtain ⟨fs, a1, a2⟩ := h
  exact ⟨fs, k.1 _ _ a1 ⟨by show (6 : Nat) ≠ 3; decide, by show (6 : Nat) ≠ 8; decide⟩, a2⟩
/-- a Sum that the Judge can take: its NAMES in this round, its number small -/
def jSm (σ : oSt) (pa ph ta th : Nat) (rd : Int32) (sl : Nat → Nat) (c : Nat) (B : Int) (su : Nat) (L : List (Nat × Int32)) (pl : Int64) : Prop := ∃ na ta' cap, cSm σ su na ta' cap L pl ∧ (na ≠ pa ∧ na ≠ ph ∧ na ≠ ta ∧ na ≠ th) ∧ (ta' ≠ pa ∧ ta' ≠ ph ∧ ta' ≠ ta ∧ ta' ≠ th) ∧ sFa L = true ∧ (∀ q, q ∈ L → -2 ≤ q.2.toInt ∧ q.2.toInt ≤ 2 ∧ q.2.toInt ≠ 0) ∧ (∀ q, q ∈ L → nSl σ rd sl c q.1) ∧ (-1125899906842624 ≤ pl.toInt ∧ pl.toInt ≤ 1125899906842624) ∧ -B ≤ 2 * pl.toInt - 2 ∧ 2 * pl.toInt + 2 ≤ B
theorem jSm.jk (k : jKp pa ph ta th σ σ') (h : jSm σ pa ph ta th rd sl c B su L pl) : jSm σ' pa ph ta th rd sl c B su L pl := by
  obtain ⟨na, ta', cap, a1, a2, a3, a4, a5, a6, a7, a8⟩ := h
  exact ⟨na, ta', cap, a1.jk k a2 a3, a2, a3, a4, a5, fun q hq => (a6 q hq).jk k, a7, a8⟩
theorem cmL_ln {s le : Int} (hc : 0 < c) (h : jSm σ pa ph ta th rd sl c B su L pl) (hs : s = 1 ∨ s = -1) (hl : le = 0 ∨ le = 1) : (cmL (sMp sl L) pl.toInt s le).1 < 2 * c ∧ (cmL (sMp sl L) pl.toInt s le).2.1 < 2 * c ∧ -B ≤ (cmL (sMp sl L) pl.toInt s le).2.2 ∧ (cmL (sMp sl L) pl.toInt s le).2.2 ≤ B := by
  obtain ⟨na, ta', cap, a1, a2, a3, a4, a5, a6, a7, a8, a9⟩ := h
  have b3 : -s * pl.toInt = pl.toInt ∨ -s * pl.toInt = -pl.toInt := by
    rcases hs with rfl | rfl
    · exact Or.inr (by omega)
    · exact Or.inl (by omega)
  have sdl : ∀ {x : Nat} {t : Int}, x < c → sd x t < 2 * c := fun {x t} hx => by unfold sd; split <;> omega
  match L, a6 with
  | [], _ => exact ⟨by show 0 < 2 * c; omega, by show 1 < 2 * c; omega, by show -B ≤ -s * pl.toInt - le; omega, by show -s * pl.toInt - le ≤ B; omega⟩
  | [q], a6 =>
    obtain ⟨fs, n1, n2, n3, n4⟩ := a6 q (List.mem_cons_self ..)
    refine ⟨sdl n4, sdl n4, ?_, ?_⟩
    · show -B ≤ if q.2.toInt = 1 ∨ q.2.toInt = -1 then 2 * (-s * pl.toInt - le) else -s * pl.toInt - le
      split <;> omega
    · show (if q.2.toInt = 1 ∨ q.2.toInt = -1 then 2 * (-s * pl.toInt - le) else -s * pl.toInt - le) ≤ B
      split <;> omega
  | q :: q' :: L', a6 =>
    obtain ⟨fs, n1, n2, n3, n4⟩ := a6 q (List.mem_cons_self ..)
    obtain ⟨fs', n1', n2', n3', n4'⟩ := a6 q' (List.mem_cons_of_mem _ (List.mem_cons_self ..))
    exact ⟨sdl n4, sdl n4', by show -B ≤ -s * pl.toInt - le; omega, by show -s * pl.toInt - le ≤ B; omega⟩
/-- limit() of a Sum, in the Judge's state -/
theorem c_lmS {s le : Int32} (hT : 200 ≤ T) (hc : 0 < c ∧ c ≤ 60) (hWc : W = 2 * c) (hl : len < 2 ^ 31) (hm : b + W * W ≤ len) (hB : 0 ≤ B) (hBW : (W : Int) * B + B + 2 ≤ 4503599627370496) (hL : xLn B W Lm) (H : jSt σ j o ca pa ph ta th len W b cl fa f rd wk ps P Tr) (h : oLv cl B W b Lm f fa) (hs : jSm σ pa ph ta th rd sl c B su L pl) (h1 : s = 1 ∨ s = -1) (h2 : le = 0 ∨ le = 1) : ∃ σ' f' fa', oF κ T (n + 3) 54 [va_rf (some j), va_rf (some su), .int s, .int le] σ = some (none, σ') ∧ jSt σ' j o ca pa ph ta th len W b cl fa' f' rd wk ps P Tr ∧ jKp pa ph ta th σ σ' ∧ σ'.2 = σ.2 ∧ oLv cl B W b (cmL (sMp sl L) pl.toInt s.toInt le.toInt :: Lm) f' fa' ∧ xLn B W (cmL (sMp sl L) pl.toInt s.toInt le.toInt :: Lm) ∧ ∀ e, (e < b ∨ b + W * W ≤ e) → f' e = f e := by
  have ln := cmL_ln (s := s.toInt) (le := le.toInt) hc.1 hs (by rcases h1 with rfl | rfl; exact Or.inl rfl; exact Or.inr rfl) (by rcases h2 with rfl | rfl; exact Or.inl rfl; exact Or.inr rfl)
  obtain ⟨na, ta', cap, a1, a2, a3, a4, a5, a6, a7, a8⟩ := hs
  obtain ⟨f', fa', b1, b2, b3⟩ := c_jlim (κ := κ) (T := T) (n := n) (s := s) (le := le) hT hc hWc (Ne.symm H.ne.2.1.1) hl hm hB hBW hL H.1 rfl rfl H.oc h a1 a4 a5 a6 h1 h2 a7 a8
  obtain ⟨p1, p2⟩ := H.put (fa' := fa') (f' := f')
  refine ⟨_, f', fa', b1, p1, p2, rfl, b2, fun l hl' => ?_, b3⟩
  rcases List.mem_cons.mp hl' with rfl | hl'
  · rw [hWc]; exact ln
  · exact hL l hl'
/-- **compare(c, holds)** -/
theorem c_cmp55 {h : Bool} {fs : List Value} {r : Nat} (hT : 200 ≤ T) (hc : 0 < c ∧ c ≤ 60) (hWc : W = 2 * c) (hl : len < 2 ^ 31) (hm : b + W * W ≤ len) (hB : 0 ≤ B) (hBW : (W : Int) * B + B + 2 ≤ 4503599627370496) (hL : xLn B W Lm) (H : jSt σ j o ca pa ph ta th len W b cl fa f rd wk ps P Tr) (hv : oLv cl B W b Lm f fa) (hs : jSm σ pa ph ta th rd sl c B su L pl) (hn : σ.1 m = some (.inr (7, fs))) (f5 : fs[5]? = some (.int (jRc r))) (f19 : fs[19]? = some (.ref su)) (hr : r ≤ 5) (hP : P.length < 40) : ∃ σ' f' fa' P' L', oF κ T (n + 4) 55 [va_rf (some j), va_rf (some m), .int (b01 h)] σ = some (none, σ') ∧ jSt σ' j o ca pa ph ta th len W b cl fa' f' rd wk ps P' Tr ∧ jKp pa ph ta th σ σ' ∧ σ'.2 = σ.2 ∧ oLv cl B W b L' f' fa' ∧ xLn B W L' ∧ (∀ e, (e < b ∨ b + W * W ≤ e) → f' e = f e) ∧ (((if h = true then r else rNo r) = 5 ∧ P' = P ++ [(m, h)] ∧ L' = Lm) ∨ (P' = P ∧ ∃ A, cmB (sMp sl L) pl.toInt (if h = true then r else rNo r) = [(A, [])] ∧ xC L' = xC (A ++ Lm))) := by
  have n19 : ofd σ (some m) 7 19 = some (.ref su) := (ofd_at hn).trans f19
  have main : ∀ r', r' ≤ 5 → ∃ σ' f' fa' P' L', oj_X1_compare_18 T (oF κ T (n + 3)) κ (some j) (some m) (b01 h) (jRc r') σ = some (none, σ') ∧ jSt σ' j o ca pa ph ta th len W b cl fa' f' rd wk ps P' Tr ∧ jKp pa ph ta th σ σ' ∧ σ'.2 = σ.2 ∧ oLv cl B W b L' f' fa' ∧ xLn B W L' ∧ (∀ e, (e < b ∨ b + W * W ≤ e) → f' e = f e) ∧ ((r' = 5 ∧ P' = P ++ [(m, h)] ∧ L' = Lm) ∨ (P' = P ∧ ∃ A, cmB (sMp sl L) pl.toInt r' = [(A, [])] ∧ xC L' = xC (A ++ Lm))) := fun r' hr' => by
    have second : ∀ (σ1 : oSt) (f1 : Nat → Int64) (fa1 : Int32) (L1 A : List oLm) (le : Int32), jSt σ1 j o ca pa ph ta th len W b cl fa1 f1 rd wk ps P Tr → jKp pa ph ta th σ σ1 → σ1.2 = σ.2 → oLv cl B W b L1 f1 fa1 → xLn B W L1 → (∀ e, (e < b ∨ b + W * W ≤ e) → f1 e = f e) → (le = 0 ∨ le = 1) → ∃ σ' f' fa' L', (obn (oob σ1 (some j) 3) fun a11 => ocv (oF κ T (n + 3) 54 [va_rf (some j), va_rf (some su), .int (-1), .int le] σ1) fun s13 => some (none, s13)) = some (none, σ') ∧ jSt σ' j o ca pa ph ta th len W b cl fa' f' rd wk ps P Tr ∧ jKp pa ph ta th σ σ' ∧ σ'.2 = σ.2 ∧ oLv cl B W b L' f' fa' ∧ xLn B W L' ∧ (∀ e, (e < b ∨ b + W * W ≤ e) → f' e = f e) ∧ L' = cmL (sMp sl L) pl.toInt (-1) le.toInt :: L1 := fun σ1 f1 fa1 L1 A le J1 K1 e1 V1 X1 O1 hle => by
      obtain ⟨σ', f', fa', a1, a2, a3, a4, a5, a6, a7⟩ := c_lmS (κ := κ) (T := T) (n := n) (s := -1) (le := le) hT hc hWc hl hm hB hBW X1 J1 V1 (hs.jk K1) (Or.inr rfl) hle
      refine ⟨σ', f', fa', _, ?_, a2, K1.tr a3, a4.trans e1, a5, a6, fun e he => (a7 e he).trans (O1 e he), rfl⟩
      rw [oob_at J1.1, obn_at, a1, ocv_at]
    have first : ∀ (le : Int32), (le = 0 ∨ le = 1) → ∃ σ' f' fa', (obn (oob σ (some j) 3) fun a1 => ocv (oF κ T (n + 3) 54 [va_rf (some j), va_rf (some su), .int 1, .int le] σ) fun s3 => oj_X1_compare_65 T (oF κ T (n + 3)) κ (some j) (some m) (jRc r') s3) = oj_X1_compare_65 T (oF κ T (n + 3)) κ (some j) (some m) (jRc r') σ' ∧ jSt σ' j o ca pa ph ta th len W b cl fa' f' rd wk ps P Tr ∧ jKp pa ph ta th σ σ' ∧ σ'.2 = σ.2 ∧ oLv cl B W b (cmL (sMp sl L) pl.toInt 1 le.toInt :: Lm) f' fa' ∧ xLn B W (cmL (sMp sl L) pl.toInt 1 le.toInt :: Lm) ∧ (∀ e, (e < b ∨ b + W * W ≤ e) → f' e = f e) ∧ ofd σ' (some m) 7 19 = some (.ref su) := fun le hle => by
      obtain ⟨σ', f', fa', a1, a2, a3, a4, a5, a6, a7⟩ := c_lmS (κ := κ) (T := T) (n := n) (s := 1) (le := le) hT hc hWc hl hm hB hBW hL H hv hs (Or.inl rfl) hle
      refine ⟨σ', f', fa', ?_, a2, a3, a4, a5, a6, a7, (ofd_at (a3.1 _ _ hn ⟨by show (7 : Nat) ≠ 3; decide, by show (7 : Nat) ≠ 8; decide⟩)).trans f19⟩
      rw [oob_at H.1, obn_at, a1, ocv_at]
    unfold oj_X1_compare_18
    match r', hr' with
    | 0, _ =>
      rw [if_neg (show ¬ jRc 0 = 35 by decide), if_neg (show ¬ jRc 0 = 62 by decide), if_neg (show ¬ jRc 0 = 301 by decide), n19, ovr_rf, obn_at, if_neg (show ¬ jRc 0 = 60 by decide)]
      obtain ⟨σ1, f1, fa1, a1, a2, a3, a4, a5, a6, a7, a8⟩ := first 0 (Or.inl rfl)
      obtain ⟨σ', f', fa', L', b1, b2, b3, b4, b5, b6, b7, rfl⟩ := second σ1 f1 fa1 _ [] 0 a2 a3 a4 a5 a6 a7 (Or.inl rfl)
      refine ⟨σ', f', fa', P, _, ?_, b2, b3, b4, b5, b6, b7, Or.inr ⟨rfl, [cmL (sMp sl L) pl.toInt 1 0, cmL (sMp sl L) pl.toInt (-1) 0], rfl, xC.cg fun l => ?_⟩⟩
      · unfold oj_X1_compare_62
        rw [a1]
        unfold oj_X1_compare_65
        rw [if_neg (show ¬ jRc 0 = 60 by decide), if_neg (show ¬ jRc 0 = 300 by decide), a8, ovr_rf, obn_at, if_neg (show ¬ jRc 0 = 62 by decide)]
        exact b1
      · show l ∈ cmL (sMp sl L) pl.toInt (-1) 0 :: cmL (sMp sl L) pl.toInt 1 0 :: Lm ↔ l ∈ cmL (sMp sl L) pl.toInt 1 0 :: cmL (sMp sl L) pl.toInt (-1) 0 :: Lm
        simp only [List.mem_cons]
        exact ⟨fun k => by rcases k with k | k | k <;> simp [k], fun k => by rcases k with k | k | k <;> simp [k]⟩
    | 1, _ =>
      rw [if_neg (show ¬ jRc 1 = 35 by decide), if_neg (show ¬ jRc 1 = 62 by decide), if_neg (show ¬ jRc 1 = 301 by decide), n19, ovr_rf, obn_at, if_pos (show jRc 1 = 60 by decide)]
      obtain ⟨σ1, f1, fa1, a1, a2, a3, a4, a5, a6, a7, a8⟩ := first 1 (Or.inr rfl)
      refine ⟨σ1, f1, fa1, P, _, ?_, a2, a3, a4, a5, a6, a7, Or.inr ⟨rfl, [cmL (sMp sl L) pl.toInt 1 1], rfl, rfl⟩⟩
      unfold oj_X1_compare_62
      rw [a1]
      unfold oj_X1_compare_65
      rw [if_pos (show jRc 1 = 60 by decide)]
    | 2, _ =>
      rw [if_neg (show ¬ jRc 2 = 35 by decide), if_neg (show ¬ jRc 2 = 62 by decide), if_neg (show ¬ jRc 2 = 301 by decide), n19, ovr_rf, obn_at, if_neg (show ¬ jRc 2 = 60 by decide)]
      obtain ⟨σ1, f1, fa1, a1, a2, a3, a4, a5, a6, a7, a8⟩ := first 0 (Or.inl rfl)
      refine ⟨σ1, f1, fa1, P, _, ?_, a2, a3, a4, a5, a6, a7, Or.inr ⟨rfl, [cmL (sMp sl L) pl.toInt 1 0], rfl, rfl⟩⟩
      unfold oj_X1_compare_62
      rw [a1]
      unfold oj_X1_compare_65
      rw [if_neg (show ¬ jRc 2 = 60 by decide), if_pos (show jRc 2 = 300 by decide)]
    | 3, _ =>
      rw [if_neg (show ¬ jRc 3 = 35 by decide), if_pos (show jRc 3 = 62 by decide)]
      obtain ⟨σ', f', fa', L', b1, b2, b3, b4, b5, b6, b7, rfl⟩ := second σ f fa Lm [] 1 H (jKp.rf σ) rfl hv hL (fun _ _ => rfl) (Or.inr rfl)
      refine ⟨σ', f', fa', P, _, ?_, b2, b3, b4, b5, b6, b7, Or.inr ⟨rfl, [cmL (sMp sl L) pl.toInt (-1) 1], rfl, rfl⟩⟩
      unfold oj_X1_compare_65
      rw [if_neg (show ¬ jRc 3 = 60 by decide), if_neg (show ¬ jRc 3 = 300 by decide), n19, ovr_rf, obn_at, if_pos (show jRc 3 = 62 by decide)]
      exact b1
    | 4, _ =>
      rw [if_neg (show ¬ jRc 4 = 35 by decide), if_neg (show ¬ jRc 4 = 62 by decide), if_pos (show jRc 4 = 301 by decide)]
      obtain ⟨σ', f', fa', L', b1, b2, b3, b4, b5, b6, b7, rfl⟩ := second σ f fa Lm [] 0 H (jKp.rf σ) rfl hv hL (fun _ _ => rfl) (Or.inl rfl)
      refine ⟨σ', f', fa', P, _, ?_, b2, b3, b4, b5, b6, b7, Or.inr ⟨rfl, [cmL (sMp sl L) pl.toInt (-1) 0], rfl, rfl⟩⟩
      unfold oj_X1_compare_65
      rw [if_neg (show ¬ jRc 4 = 60 by decide), if_neg (show ¬ jRc 4 = 300 by decide), n19, ovr_rf, obn_at, if_neg (show ¬ jRc 4 = 62 by decide)]
      exact b1
    | 5, _ =>
      rw [if_pos (show jRc 5 = 35 by decide), oob_at H.1, obn_at]
      obtain ⟨σ', a1, a2, a3, a4⟩ := c_post (κ := κ) (T := T) (n := n + 2) (h := h) H hn hP
      refine ⟨σ', f, fa, _, Lm, ?_, a2, a3, a4, hv, hL, fun _ _ => rfl, Or.inl ⟨rfl, rfl, rfl⟩⟩
      rw [a1, ocv_at]
    | k + 6, h => omega
  have n5 : ofd σ (some m) 7 5 = some (.int (jRc r)) := (ofd_at hn).trans f5
  rw [show n + 4 = (n + 3) + 1 from rfl, oE_X1_compare]
  unfold ob_X1_compare
  rw [n5]
  cases h
  · rw [if_pos (show b01 false = 0 by decide), if_neg (show ¬ false = true by decide), ovi_i, obn_at, c_opp hr]
    exact main (rNo r) (by unfold rNo; split <;> (try split) <;> (try split) <;> (try split) <;> (try split) <;> omega)
  · rw [if_neg (show ¬ b01 true = 0 by decide), if_pos rfl, ovi_i, obn_at]
    exact main r hr
end JCM
