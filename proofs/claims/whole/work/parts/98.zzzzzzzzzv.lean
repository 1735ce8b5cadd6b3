/-! the class's Octagon: limit() on a closed level, close() -/
section LIC2
variable {κ : oKv} {T n o ca len W c b : Nat} {σ : oSt} {B : Int} {L : List (Nat × Nat × Int)}
/-- bounds of a closed table -/
theorem fN_dv {f : Nat → Int64} (hWc : W = 2 * c) (hB : 0 ≤ B) (hBW : (W : Int) * B + B + 2 ≤ 4503599627370496) (hL : xLn B W L) (hO : xOk (xC L)) (hd : ∀ i, i < W → fo b W f i i ≤ 0) (hb : fN 576460752303423488 W (fo b W f)) (hT : ∀ i j e, tbA 1152921504606846976 W (fo b W f) i j e ↔ xDv bx (xC L) i j e) : fN 4503599627370496 W (fo b W f) := fun i j hi hj => by
  have hN : (0 : Int) < 1152921504606846976 := by decide
  rcases hb i j hi hj with h | h
  · exact Or.inl h
  · have bd := dv_bd hWc hB hL hO i j _ ((hT _ _ _).mp ((tbA.at hN hd hi hj).mpr ⟨by omega, Int.le_refl _⟩))
    have := (tbA.at hN hd hi hj).mp ((hT _ _ _).mpr bd.2)
    exact Or.inr ⟨by omega, by omega⟩
/-- what follows, by one way more -/
theorem fLx_sub {p q : Nat} {w : Int} {f : Nat → Nat → Int} {E : Nat → Nat → Int → Prop} (hp : p < W) (hq : q < W) (hu : xUp E) (ht : xTri E) (hw : E p q w) (h : ∀ i j e, tbA 1152921504606846976 W f i j e → E i j e) {g : Nat → Nat → Int} (hg : ∀ i j, i < W → j < W → g i j = fLx p q w f i j) (i j : Nat) (e : Int) (k : tbA 1152921504606846976 W g i j e) : E i j e := by
  rcases k with ⟨hi, hj, k1, k2⟩ | k
  · rw [hg i j hi hj] at k1 k2
    have rq : fRq p q w f i j < 1152921504606846976 → E q j (fRq p q w f i j) := fun y => by
      unfold fRq at y ⊢
      split at y
      · rename_i z
        rw [if_pos z]
        unfold fLd at y ⊢
        split at y
        · rename_i z'
          rw [if_pos z']
          exact ht _ _ _ _ _ (ht _ _ _ _ _ (h _ _ _ (Or.inl ⟨hq, hp, z'.1, Int.le_refl _⟩)) hw) (h _ _ _ (Or.inl ⟨hq, hj, z'.2.1, Int.le_refl _⟩))
        · rename_i z'
          rw [if_neg z']
          exact h _ _ _ (Or.inl ⟨hq, hj, y, Int.le_refl _⟩)
      · rename_i z
        rw [if_neg z]
        exact h _ _ _ (Or.inl ⟨hq, hj, y, Int.le_refl _⟩)
    unfold fLx at k1 k2
    split at k2
    · rename_i z
      exact hu _ _ _ _ (ht _ _ _ _ _ (ht _ _ _ _ _ (h _ _ _ (Or.inl ⟨hi, hp, z.1, Int.le_refl _⟩)) hw) (rq z.2.1)) k2
    · rename_i z
      rw [if_neg z] at k1
      exact h _ _ _ (Or.inl ⟨hi, hj, k1, k2⟩)
  · exact h _ _ _ (Or.inr k)
/-- **limit(a, b, w) on a closed level** -/
theorem c_lim1 {f : Nat → Int64} {fa : Int32} {x y : Nat} {w : Int64} (hT : 200 ≤ T) (hW : W ≤ 160) (hWc : W = 2 * c) (hne : ca ≠ o) (hl : len < 2 ^ 31) (hm : b + W * W ≤ len) (hx : x < W) (hy : y < W) (hB : 0 ≤ B) (hBW : (W : Int) * B + B + 2 ≤ 4503599627370496) (hL : xLn B W L) (hw : -B ≤ w.toInt ∧ w.toInt ≤ B) (h : oQn W b L f fa) : ∃ f' fa', oF κ T (n + 2) 44 [va_rf (some o), .int (nI x), .int (nI y), .long w] (gOc σ o ca len W b 1 fa f) = some (none, gOc σ o ca len W b 1 fa' f') ∧ oQn W b ((x, y, w.toInt) :: L) f' fa' ∧ ∀ e, (e < b ∨ b + W * W ≤ e) → f' e = f e := by
  obtain ⟨h1, h2, h3⟩ := h
  have hN : (0 : Int) < 1152921504606846976 := by decide
  have sub : ∀ l, l ∈ L → l ∈ (x, y, w.toInt) :: L := fun l h => List.mem_cons_of_mem _ h
  have up1 : fa = 1 → ¬ xOk (xC ((x, y, w.toInt) :: L)) := fun e hO => h2 e (xOk.mono sub hO)
  have hBB : B ≤ 4503599627370496 := by
    have : 0 ≤ (W : Int) * B := Int.mul_nonneg (by omega) hB
    omega
  rw [show n + 2 = (n + 1) + 1 from rfl]
  -- where it follows already
  have same : xDv bx (xC L) (bx y) x w.toInt → fa = 0 → oQn W b ((x, y, w.toInt) :: L) f 0 := fun k e => by
    obtain ⟨q1, q2, q3, q4⟩ := h3 e
    have eq := xDv.cons (L := L) (l := (x, y, w.toInt)) k
    refine ⟨Or.inl rfl, fun e => absurd e (by decide), fun _ => ⟨?_, q2, q3, ?_⟩⟩
    · unfold xOk; rw [eq]; exact q1
    · rw [eq]; exact q4
  by_cases z : x = bx y
  · subst z
    obtain ⟨fa', a1, a2⟩ := c_limT (κ := κ) (T := T) (n := n + 1) (o := o) (ca := ca) (len := len) (W := W) (b := b) (σ := σ) (f := f) (cl := 1) (w := w) (show y < 160 by omega) h1
    refine ⟨f, fa', a1, ?_, fun e _ => rfl⟩
    rcases a2 with ⟨rfl, a2⟩ | ⟨rfl, a2⟩
    · rcases h1 with rfl | rfl
      · have hw0 : 0 ≤ w.toInt := by
          rcases a2 with a2 | a2
          · exact absurd a2 (by decide)
          · exact a2
        exact same (xDv.up _ _ _ _ (xDv.z _) hw0) rfl
      · exact ⟨Or.inr rfl, up1, fun e => absurd e (by decide)⟩
    · refine ⟨Or.inr rfl, fun _ hO => ?_, fun e => absurd e (by decide)⟩
      have := hO (bx y) w.toInt (xDv.base _ _ _ (xC_self (l := (bx y, y, w.toInt))))
      omega
  · obtain ⟨x1, x2⟩ := x160 x (by omega)
    have x1 : nI x ^^^ 1 = nI (bx x) := x1
    obtain ⟨y1, y2⟩ := x160 y (by omega)
    have y1 : nI y ^^^ 1 = nI (bx y) := y1
    have blt : ∀ {x}, x < W → bx x < W := fun {x} hx => by rw [hWc] at hx ⊢; exact bx_lt hx
    have hbx := blt hx
    have hby := blt hy
    have m1 := ix_le (W := W) hbx
    have m2 := ix_le (W := W) hby
    rw [oE_X6_limit]
    unfold ob_X6_limit
    rw [y1, if_neg (fun e => z (nI_inj' (by omega) (by omega) e))]
    simp only [gOc_f0, gOc_f1, gOc_f2, gOc_f3, gOc_f4, ovi_i, ovr_rf, obn_at, x1, nI3, gOc_j hne (show b + bx y * W + x < len by omega) hl, gOc_ob, c_lead (κ := κ) (n := n) (σ := σ) hT hW hne hl hby hx hm, c_lead (κ := κ) (n := n) (σ := σ) hT hW hne hl hbx hy hm, ocv_at]
    rcases h1 with rfl | rfl
    · rw [if_pos rfl]
      obtain ⟨q1, q2, q3, q4⟩ := h3 rfl
      have at' := fun {i j : Nat} (hi : i < W) (hj : j < W) (e : Int) => tbA.at (c := e) hN q2 hi hj
      by_cases c1 : 0 < lg_cmp (f (b + bx y * W + x)) w
      · rw [if_pos c1, if_neg (by decide)]
        have q3' : fN 144115188075855872 W (fo b W f) := fun i j hi hj => by
          have := q3 i j hi hj; omega
        -- both ways, in whole numbers
        have g1 : ∀ i j, i < W → j < W → fo b W (lLd b W (bx y) x w W f) i j = fLx (bx y) x w.toInt (fo b W f) i j := fun i j hi hj => by
          rw [lLd_at hby hx q3' (by omega) W (Nat.le_refl _) i j hi hj, if_pos hi]
        have b1 : fN 22517998136852480 W (fo b W (lLd b W (bx y) x w W f)) := fun i j hi hj => by
          rw [g1 i j hi hj]
          exact fLx_bd (D := 4503599627370496) (W := W) (by decide) (by omega) (by decide) hby hx q3 i j hi hj
        have b1' : fN 144115188075855872 W (fo b W (lLd b W (bx y) x w W f)) := fun i j hi hj => by
          have := b1 i j hi hj; omega
        have g2 : ∀ i j, i < W → j < W → fo b W (lLd b W (bx x) y w W (lLd b W (bx y) x w W f)) i j = fLx (bx x) y w.toInt (fo b W (lLd b W (bx y) x w W f)) i j := fun i j hi hj => by
          rw [lLd_at hbx hy b1' (by omega) W (Nat.le_refl _) i j hi hj, if_pos hi]
        have b2 : fN 288230376151711744 W (fo b W (lLd b W (bx x) y w W (lLd b W (bx y) x w W f))) := fun i j hi hj => by
          rw [g2 i j hi hj]
          have := fLx_bd (D := 22517998136852480) (W := W) (w := w.toInt) (by decide) (by omega) (by decide) hbx hy b1 i j hi hj
          omega
        have out2 : ∀ e, (e < b ∨ b + W * W ≤ e) → lLd b W (bx x) y w W (lLd b W (bx y) x w W f) e = f e := fun e he => (lLd_out W _ (Nat.le_refl _) e he).trans (lLd_out W _ (Nat.le_refl _) e he)
        generalize hf1 : lLd b W (bx y) x w W f = f1 at g1 b1 b1' g2 b2 out2 ⊢
        generalize hf2 : lLd b W (bx x) y w W f1 = f2 at g2 b2 out2 ⊢
        have d1 : ∀ i, i < W → fo b W f1 i i ≤ 0 := fun i hi => by
          rw [g1 i i hi hi]; exact Int.le_trans (fLx_le _ _) (q2 i hi)
        have d2 : ∀ i, i < W → fo b W f2 i i ≤ 0 := fun i hi => by
          rw [g2 i i hi hi]; exact Int.le_trans (fLx_le _ _) (d1 i hi)
        -- all of it follows
        have mon := xDv.mono (L := L) (L' := (x, y, w.toInt) :: L) sub
        have s1 := fLx_sub (W := W) (E := xDv bx (xC ((x, y, w.toInt) :: L))) hby hx xDv.up xDv.tri (xDv.base _ _ _ (xC_self (l := (x, y, w.toInt)))) (fun i j e k => mon _ _ _ ((q4 i j e).mp k)) g1
        have back : xDv bx (xC ((x, y, w.toInt) :: L)) (bx x) y w.toInt := xDv.base _ _ _ ⟨(x, y, w.toInt), List.mem_cons_self .., Or.inr ⟨rfl, rfl⟩, Int.le_refl _⟩
        have s2 := fLx_sub (W := W) (E := xDv bx (xC ((x, y, w.toInt) :: L))) hbx hy xDv.up xDv.tri back s1 g2
        have z0 : ∀ i, i < W → fo b W f i i = 0 := fun i hi => by
          have := q1 i _ ((q4 _ _ _).mp ((at' hi hi _).mpr ⟨by have := q2 i hi; omega, Int.le_refl _⟩))
          have := q2 i hi
          omega
        have eA : tbA 1152921504606846976 W (fo b W f) = xDv bx (xC L) := funext fun i => funext fun j => funext fun e => propext (q4 i j e)
        obtain ⟨f', fa', t1, t2, t3, t4, t5⟩ := c_tight (κ := κ) (T := T) (n := n) (σ := σ) (cl := 1) (f := f2) (A := tbA 1152921504606846976 W (fo b W f2)) (C := xC ((x, y, w.toInt) :: L)) hT hW hWc hne hl hm b2 d2 (fun i j e => Iff.rfl) s2 (fun nn => by
          have nn1 : ∀ i, i < W → 0 ≤ fo b W f1 i i := fun i hi => by
            have := nn i hi
            rw [g2 i i hi hi] at this
            exact Int.le_trans this (fLx_le _ _)
          have z1 : ∀ i, i < W → fo b W f1 i i = 0 := fun i hi => by have a := nn1 i hi; have b := d1 i hi; omega
          have n1 : fo b W f x (bx y) < 1152921504606846976 → 0 ≤ w.toInt + fo b W f x (bx y) := fun k => by
            by_cases k2 : w.toInt + fo b W f x (bx y) < 0
            · have := fLx_neg (z0 _ hby) k k2
              rw [← g1 _ _ hby hby] at this
              have := nn1 _ hby
              omega
            · omega
          have n2 : fo b W f1 y (bx x) < 1152921504606846976 → 0 ≤ w.toInt + fo b W f1 y (bx x) := fun k => by
            by_cases k2 : w.toInt + fo b W f1 y (bx x) < 0
            · have := fLx_neg (z1 _ hbx) k k2
              rw [← g2 _ _ hbx hbx] at this
              have := nn _ hbx
              omega
            · omega
          have eA1 : tbA 1152921504606846976 W (fo b W f1) = xL (bx y) x w.toInt (xDv bx (xC L)) := by
            rw [← eA]
            exact funext fun i => funext fun j => funext fun e => propext (tbA.ld (D := 4503599627370496) hby hx q2 (by decide) (by decide) (by omega) q3 (fun i j hi hj => (g1 i j hi hj).trans (fLx_ld n1 i j)) i j e)
          have eA2 : tbA 1152921504606846976 W (fo b W f2) = xL (bx x) y w.toInt (xL (bx y) x w.toInt (xDv bx (xC L))) := by
            rw [← eA1]
            exact funext fun i => funext fun j => funext fun e => propext (tbA.ld (D := 22517998136852480) hbx hy d1 (by decide) (by decide) (by omega) b1 (fun i j hi hj => (g2 i j hi hj).trans (fLx_ld n2 i j)) i j e)
          have tr1 : xTri (xL (bx y) x w.toInt (xDv bx (xC L))) := xL.tri xDv.up xDv.tri (fun e k => by
            have := (at' hx hby e).mp ((q4 _ _ _).mpr k)
            have := n1 this.1
            omega)
          have tr2 : xTri (xL (bx x) y w.toInt (xL (bx y) x w.toInt (xDv bx (xC L)))) := xL.tri (xL.up xDv.up) tr1 (fun e k => by
            rw [← eA1] at k
            have := (tbA.at (c := e) hN d1 hy hbx).mp k
            have := n2 this.1
            omega)
          have co := xL.coh bx_bx (p := bx y) (q := x) (w := w.toInt) (A := xDv bx (xC L)) xDv.up xDv.z xDv.coh (by rw [bx_bx]; exact tr2)
          rw [bx_bx] at co
          rw [eA2]
          refine ⟨tr2, co, fun p q e k => ?_⟩
          obtain ⟨l, k1, k2, k3⟩ := k
          rcases List.mem_cons.mp k1 with rfl | k1
          · have k3 : w.toInt ≤ e := k3
            rcases k2 with ⟨rfl, rfl⟩ | ⟨rfl, rfl⟩
            · exact Or.inl (Or.inr ⟨0, 0, xDv.z _, xDv.z _, by omega⟩)
            · exact Or.inr ⟨0, 0, Or.inl (xDv.z _), Or.inl (xDv.z _), by omega⟩
          · exact Or.inl (Or.inl (xDv.base _ _ _ ⟨l, k1, k2, k3⟩)))
        rw [t1, ocv_at]
        refine ⟨f', fa', rfl, ⟨t2, t3, fun e => ?_⟩, fun e he => (t5 e he).trans (out2 e he)⟩
        obtain ⟨u1, u2, u3, u4⟩ := t4 e
        refine ⟨u1, u2, fN_dv hWc hB hBW (fun l k => ?_) u1 u2 u3 u4, u4⟩
        rcases List.mem_cons.mp k with rfl | k
        · exact ⟨hx, hy, hw.1, hw.2⟩
        · exact hL l k
      · rw [if_neg c1]
        have c1' : ¬ w.toInt < (f (b + bx y * W + x)).toInt := fun k => c1 ((l_gt _ _).mpr k)
        have e1 : (f (b + bx y * W + x)).toInt = fo b W f (bx y) x := rfl
        exact ⟨f, 0, rfl, same ((q4 _ _ _).mp ((at' hby hx _).mpr ⟨by omega, by omega⟩)) rfl, fun e _ => rfl⟩
    · rw [if_neg (by decide)]
      exact ⟨f, 1, rfl, ⟨Or.inr rfl, up1, fun e => absurd e (by decide)⟩, fun e _ => rfl⟩
/-- isLimited(a, b, w) -/
theorem c_isl {f : Nat → Int64} {x y : Nat} {w : Int64} (hW : W ≤ 160) (hWc : W = 2 * c) (hne : ca ≠ o) (hl : len < 2 ^ 31) (hm : b + W * W ≤ len) (hx : x < W) (hy : y < W) (hw : w.toInt < 1152921504606846976) (h : oQn W b L f 0) : ∃ v : Int32, oF κ T (n + 1) 48 [va_rf (some o), .int (nI x), .int (nI y), .long w] (gOc σ o ca len W b 1 0 f) = some (some (.int v), gOc σ o ca len W b 1 0 f) ∧ ((v = 1 ∧ xDv bx (xC L) (bx y) x w.toInt) ∨ (v = 0 ∧ ¬ xDv bx (xC L) (bx y) x w.toInt)) := by
  obtain ⟨q1, q2, q3, q4⟩ := h.2.2 rfl
  have hN : (0 : Int) < 1152921504606846976 := by decide
  obtain ⟨y1, y2⟩ := x160 y (by omega)
  have y1 : nI y ^^^ 1 = nI (bx y) := y1
  have blt : ∀ {x}, x < W → bx x < W := fun {x} hx => by rw [hWc] at hx ⊢; exact bx_lt hx
  have hby := blt hy
  have m2 := ix_le (W := W) hby
  have e0 : (0 : Int64).toInt = 0 := by decide
  rw [oE_X6_isLimited]
  unfold ob_X6_isLimited
  rw [y1]
  by_cases z : x = bx y
  · subst z
    rw [if_pos rfl]
    by_cases k : lg_cmp w 0 < 0
    · rw [if_pos k]
      have := (l_lt _ _).mp k
      rw [e0] at this
      exact ⟨0, rfl, Or.inr ⟨rfl, fun d => by have := q1 _ _ d; omega⟩⟩
    · rw [if_neg k]
      have := l_ln k
      rw [e0] at this
      exact ⟨1, rfl, Or.inl ⟨rfl, xDv.up _ _ _ _ (xDv.z _) this⟩⟩
  · rw [if_neg (fun e => z (nI_inj' (by omega) (by omega) e))]
    simp only [gOc_f0, gOc_f1, gOc_f2, ovi_i, ovr_rf, obn_at, nI3, gOc_j hne (show b + bx y * W + x < len by omega) hl]
    have e1 : (f (b + bx y * W + x)).toInt = fo b W f (bx y) x := rfl
    have a1 := (tbA.at (c := w.toInt) hN q2 hby hx).symm.trans (q4 _ _ _)
    by_cases k : 0 < lg_cmp (f (b + bx y * W + x)) w
    · rw [if_pos k]
      have := (l_gt _ _).mp k
      exact ⟨0, rfl, Or.inr ⟨rfl, fun d => by have := a1.mpr d; omega⟩⟩
    · rw [if_neg k]
      have : ¬ w.toInt < (f (b + bx y * W + x)).toInt := fun w => k ((l_gt _ _).mpr w)
      exact ⟨1, rfl, Or.inl ⟨rfl, a1.mp ⟨by omega, by omega⟩⟩⟩
end LIC2
