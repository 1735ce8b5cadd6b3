/-! limits: what follows of them -/
section LIM
/-- limits (a, b, w): sides a and b together are at most w -/
def xC (L : List (Nat × Nat × Int)) (p q : Nat) (e : Int) : Prop := ∃ l, l ∈ L ∧ ((p = bx l.2.1 ∧ q = l.1) ∨ (p = bx l.1 ∧ q = l.2.1)) ∧ l.2.2 ≤ e
def xLn (B : Int) (W : Nat) (L : List (Nat × Nat × Int)) : Prop := ∀ l, l ∈ L → l.1 < W ∧ l.2.1 < W ∧ -B ≤ l.2.2 ∧ l.2.2 ≤ B
variable {L L' : List (Nat × Nat × Int)} {C C' : Nat → Nat → Int → Prop} {br : Nat → Nat}
theorem xC.up : xUp (xC L) := fun p q c c' h hc => by
  obtain ⟨l, h1, h2, h3⟩ := h
  exact ⟨l, h1, h2, by omega⟩
theorem xC.coh : xCoh bx (xC L) := fun p q c h => by
  obtain ⟨l, h1, h2, h3⟩ := h
  refine ⟨l, h1, ?_, h3⟩
  rcases h2 with ⟨rfl, rfl⟩ | ⟨rfl, rfl⟩
  · exact Or.inr ⟨rfl, bx_bx _⟩
  · exact Or.inl ⟨rfl, bx_bx _⟩
theorem xC.mono (h : ∀ l, l ∈ L → l ∈ L') (p q : Nat) (c : Int) (w : xC L p q c) : xC L' p q c := by
  obtain ⟨l, h1, h2, h3⟩ := w
  exact ⟨l, h l h1, h2, h3⟩
theorem xDv.up : xUp (xDv br C) := fun p q c c' h hc A a1 a2 a3 a4 a5 a6 a7 => a1 _ _ _ _ (h A a1 a2 a3 a4 a5 a6 a7) hc
theorem xDv.z (p : Nat) : xDv br C p p 0 := fun A a1 a2 a3 a4 a5 a6 a7 => a2 p
theorem xDv.base (p q : Nat) (c : Int) (h : C p q c) : xDv br C p q c := fun A a1 a2 a3 a4 a5 a6 a7 => a3 p q c h
theorem xDv.tri : xTri (xDv br C) := fun p q r c d h1 h2 A a1 a2 a3 a4 a5 a6 a7 => a4 _ _ _ _ _ (h1 A a1 a2 a3 a4 a5 a6 a7) (h2 A a1 a2 a3 a4 a5 a6 a7)
theorem xDv.coh : xCoh br (xDv br C) := fun p q c h A a1 a2 a3 a4 a5 a6 a7 => a5 _ _ _ (h A a1 a2 a3 a4 a5 a6 a7)
theorem xDv.ev : xEv br (xDv br C) := fun p c h A a1 a2 a3 a4 a5 a6 a7 => a6 _ _ (h A a1 a2 a3 a4 a5 a6 a7)
theorem xDv.st : xSt br (xDv br C) := fun i j a b h1 h2 A a1 a2 a3 a4 a5 a6 a7 => a7 _ _ _ _ (h1 A a1 a2 a3 a4 a5 a6 a7) (h2 A a1 a2 a3 a4 a5 a6 a7)
/-- what follows of what follows -/
theorem xDv.trans (h : ∀ p q c, C p q c → xDv br C' p q c) (p q : Nat) (c : Int) (w : xDv br C p q c) : xDv br C' p q c := w (xDv br C') xDv.up xDv.z h xDv.tri xDv.coh xDv.ev xDv.st
theorem xDv.eq (h : ∀ p q c, C p q c → xDv br C' p q c) (h' : ∀ p q c, C' p q c → xDv br C p q c) : xDv br C = xDv br C' := funext fun p => funext fun q => funext fun c => propext ⟨xDv.trans h p q c, xDv.trans h' p q c⟩
theorem xDv.mono (h : ∀ l, l ∈ L → l ∈ L') (p q : Nat) (c : Int) (w : xDv bx (xC L) p q c) : xDv bx (xC L') p q c := xDv.trans (fun p q c h' => xDv.base _ _ _ (xC.mono h p q c h')) p q c w
theorem xOk.mono (h : ∀ l, l ∈ L → l ∈ L') (w : xOk (xC L')) : xOk (xC L) := fun i c h' => w i c (xDv.mono h i i c h')
/-- a limit that follows changes nothing -/
theorem xDv.cons {l : Nat × Nat × Int} (h : xDv bx (xC L) (bx l.2.1) l.1 l.2.2) : xDv bx (xC (l :: L)) = xDv bx (xC L) := by
  refine xDv.eq (fun p q c w => ?_) (fun p q c w => xDv.base _ _ _ (xC.mono (fun l h => List.mem_cons_of_mem _ h) p q c w))
  obtain ⟨k, h1, h2, h3⟩ := w
  rcases List.mem_cons.mp h1 with rfl | h1
  · rcases h2 with ⟨rfl, rfl⟩ | ⟨rfl, rfl⟩
    · exact xDv.up _ _ _ _ h h3
    · have := xDv.coh _ _ _ h
      rw [bx_bx] at this
      exact xDv.up _ _ _ _ this h3
  · exact xDv.base _ _ _ ⟨k, h1, h2, h3⟩
/-- the limits and 0 -/
def xCz (L : List (Nat × Nat × Int)) (p q : Nat) (e : Int) : Prop := xC L p q e ∨ (p = q ∧ 0 ≤ e)
theorem xCz.up : xUp (xCz L) := fun p q c c' h hc => by
  rcases h with h | h
  · exact Or.inl (xC.up _ _ _ _ h hc)
  · exact Or.inr ⟨h.1, by omega⟩
theorem xCz.coh : xCoh bx (xCz L) := fun p q c h => by
  rcases h with h | h
  · exact Or.inl (xC.coh _ _ _ h)
  · exact Or.inr ⟨by rw [h.1], h.2⟩
theorem xCz.dv (p q : Nat) (e : Int) (h : xCz L p q e) : xDv bx (xC L) p q e := by
  rcases h with h | ⟨rfl, h⟩
  · exact xDv.base _ _ _ h
  · exact xDv.up _ _ _ _ (xDv.z _) h
variable {W c : Nat} {B : Int}
theorem xCz.n0 (hWc : W = 2 * c) (h : xLn B W L) : xN0 W (xCz L) := fun i j e w => by
  rcases w with ⟨l, h1, h2, h3⟩ | w
  · obtain ⟨a1, a2, -⟩ := h l h1
    rw [hWc] at a1 a2 ⊢
    rcases h2 with ⟨rfl, rfl⟩ | ⟨rfl, rfl⟩
    · exact Or.inl ⟨bx_lt a2, a1⟩
    · exact Or.inl ⟨bx_lt a1, a2⟩
  · exact Or.inr w
theorem xCz.bd (hB : 0 ≤ B) (h : xLn B W L) : xBd B (xCz L) := fun i j e w => by
  rcases w with ⟨l, h1, h2, h3⟩ | w
  · obtain ⟨-, -, a3, a4⟩ := h l h1
    exact ⟨by omega, Or.inl ⟨l, h1, h2, a4⟩⟩
  · exact ⟨by omega, Or.inr ⟨w.1, hB⟩⟩
/-- **how far limits reach** -/
theorem dv_bd (hWc : W = 2 * c) (hB : 0 ≤ B) (h : xLn B W L) (hO : xOk (xC L)) : xBd ((W : Int) * B + B + 2) (xDv bx (xC L)) := by
  have hn : ∀ v e, xFW (xCz L) W v v e → 0 ≤ e := fun v e w => hO v e (xFW.dv xCz.dv W v v e w)
  have hk : ∀ k, k < W → ∀ e, xFW (xCz L) k k k e → 0 ≤ e := fun k hk e w => hn k e (by
    have := xFW.ge k (W - k) k k e w
    rw [show k + (W - k) = W by omega] at this
    exact this)
  have bd := xFW.bd hB xCz.up (xCz.bd hB h) W hn
  have hu := xFW.up (A := xCz L) xCz.up W
  have hz : ∀ p, xFW (xCz L) W p p 0 := fun p => xFW.le W p p 0 (Or.inr ⟨rfl, Int.le_refl _⟩)
  have ht := xFW.tri (A := xCz L) xCz.up (xCz.n0 hWc h) hk
  have hch := xFW.coh bx_bx (A := xCz L) xCz.up xCz.coh ht
  have hC : ∀ p q e, xC L p q e → xFW (xCz L) W p q e := fun p q e w => xFW.le W p q e (Or.inl w)
  have hD : ∀ p q e, xFW (xCz L) W p q e → xDv bx (xC L) p q e := fun p q e w => xFW.dv xCz.dv W p q e w
  have ho : ∀ i a b, x1 bx (xFW (xCz L) W) i (bx i) a → x1 bx (xFW (xCz L) W) (bx i) i b → 0 ≤ a + b := fun i a b p1 p2 => by
    by_cases z : a + b < 0
    · obtain ⟨e, q1, q2⟩ := x1_bad (br := bx) hu hD p1 p2 z
      have := hO i e q2
      omega
    · omega
  have dv := x2_dv (br := bx) bx_bx hu hz ht hch ho hC hD
  have b1 : ∀ i j e, x1 bx (xFW (xCz L) W) i j e → -((W : Int) * B + B) - 1 ≤ e ∧ x1 bx (xFW (xCz L) W) i j ((W : Int) * B + B) := fun i j e w => by
    rcases w with w | ⟨q, c0, w1, w2⟩
    · have := bd i j e w
      exact ⟨by omega, Or.inl this.2⟩
    · have := bd i j c0 w1
      exact ⟨by omega, Or.inl this.2⟩
  intro i j e w
  rcases (dv i j e).mpr w with w | ⟨a, b, w1, w2, w3⟩
  · have := b1 i j e w
    exact ⟨by omega, xDv.up _ _ _ _ ((dv i j _).mp (Or.inl this.2)) (by omega)⟩
  · have q1 := b1 _ _ _ w1
    have q2 := b1 _ _ _ w2
    exact ⟨by omega, xDv.up _ _ _ _ ((dv i j _).mp (Or.inr ⟨_, _, q1.2, q2.2, Int.le_refl _⟩)) (by omega)⟩
end LIM
theorem l_gt (x y : Int64) : 0 < lg_cmp x y ↔ y.toInt < x.toInt := by
  unfold lg_cmp
  by_cases h : x > y
  · rw [if_pos h]
    have : y.toInt < x.toInt := Int64.lt_iff_toInt_lt.mp h
    exact ⟨fun _ => this, fun _ => by decide⟩
  · rw [if_neg h]
    have h1 : ¬ y.toInt < x.toInt := fun w => h (Int64.lt_iff_toInt_lt.mpr w)
    by_cases e : x = y
    · rw [if_pos e]
      exact ⟨fun w => absurd w (by decide), fun w => absurd w h1⟩
    · rw [if_neg e]
      exact ⟨fun w => absurd w (by decide), fun w => absurd w h1⟩
/-- a level that is not closed yet: the limits themselves -/
def oPn (B : Int) (W b : Nat) (L : List (Nat × Nat × Int)) (f : Nat → Int64) (fa : Int32) : Prop := (fa = 0 ∨ fa = 1) ∧ (fa = 1 → ¬ xOk (xC L)) ∧ (fa = 0 → (∀ i, i < W → fo b W f i i = 0) ∧ fN B W (fo b W f) ∧ ∀ i j e, tbA 1152921504606846976 W (fo b W f) i j e ↔ xCz L i j e)
/-- a closed level: all that follows -/
def oQn (W b : Nat) (L : List (Nat × Nat × Int)) (f : Nat → Int64) (fa : Int32) : Prop := (fa = 0 ∨ fa = 1) ∧ (fa = 1 → ¬ xOk (xC L)) ∧ (fa = 0 → xOk (xC L) ∧ (∀ i, i < W → fo b W f i i ≤ 0) ∧ fN 4503599627370496 W (fo b W f) ∧ ∀ i j e, tbA 1152921504606846976 W (fo b W f) i j e ↔ xDv bx (xC L) i j e)
section LIC
variable {κ : oKv} {T n o ca len W c b : Nat} {cl : Int32} {σ : oSt} {B : Int} {L : List (Nat × Nat × Int)}
theorem xC_self {l : Nat × Nat × Int} : xC (l :: L) (bx l.2.1) l.1 l.2.2 := ⟨l, List.mem_cons_self .., Or.inl ⟨rfl, rfl⟩, Int.le_refl _⟩
/-- a side and its other sign -/
theorem c_limT {f : Nat → Int64} {cl fa : Int32} {y : Nat} {w : Int64} (hy : y < 160) (hfa : fa = 0 ∨ fa = 1) : ∃ fa', oF κ T (n + 1) 44 [va_rf (some o), .int (nI (bx y)), .int (nI y), .long w] (gOc σ o ca len W b cl fa f) = some (none, gOc σ o ca len W b cl fa' f) ∧ ((fa' = fa ∧ (fa = 1 ∨ 0 ≤ w.toInt)) ∨ (fa' = 1 ∧ w.toInt < 0)) := by
  obtain ⟨y1, y2⟩ := x160 y hy
  have y1 : nI y ^^^ 1 = nI (bx y) := y1
  have e0 : (0 : Int64).toInt = 0 := by decide
  rw [oE_X6_limit]
  unfold ob_X6_limit oj_X6_limit_21
  rw [if_pos y1.symm]
  simp only [gOc_f4, ovi_i, obn_at, gOc_p4]
  rcases hfa with rfl | rfl
  · rw [if_pos rfl]
    by_cases z : 0 ≤ lg_cmp w 0
    · rw [if_pos z]
      have := (l_ge _ _).mp z
      rw [e0] at this
      exact ⟨0, rfl, Or.inl ⟨rfl, Or.inr this⟩⟩
    · rw [if_neg z]
      have := l_gn z
      rw [e0] at this
      exact ⟨1, rfl, Or.inr ⟨rfl, this⟩⟩
  · rw [if_neg (by decide)]
    exact ⟨1, rfl, Or.inl ⟨rfl, Or.inl rfl⟩⟩
/-- **limit(a, b, w) on a level that is not closed** -/
theorem c_lim0 {f : Nat → Int64} {fa : Int32} {x y : Nat} {w : Int64} (hW : W ≤ 160) (hWc : W = 2 * c) (hne : ca ≠ o) (hl : len < 2 ^ 31) (hm : b + W * W ≤ len) (hx : x < W) (hy : y < W) (hB : B < 1152921504606846976) (hw : -B ≤ w.toInt ∧ w.toInt ≤ B) (h : oPn B W b L f fa) : ∃ f' fa', oF κ T (n + 1) 44 [va_rf (some o), .int (nI x), .int (nI y), .long w] (gOc σ o ca len W b 0 fa f) = some (none, gOc σ o ca len W b 0 fa' f') ∧ oPn B W b ((x, y, w.toInt) :: L) f' fa' ∧ ∀ e, (e < b ∨ b + W * W ≤ e) → f' e = f e := by
  obtain ⟨h1, h2, h3⟩ := h
  have hN : (0 : Int) < 1152921504606846976 := by decide
  have sub : ∀ l, l ∈ L → l ∈ (x, y, w.toInt) :: L := fun l h => List.mem_cons_of_mem _ h
  have up1 : fa = 1 → ¬ xOk (xC ((x, y, w.toInt) :: L)) := fun e hO => h2 e (xOk.mono sub hO)
  by_cases z : x = bx y
  · subst z
    obtain ⟨fa', a1, a2⟩ := c_limT (κ := κ) (T := T) (n := n) (o := o) (ca := ca) (len := len) (W := W) (b := b) (σ := σ) (f := f) (cl := 0) (w := w) (show y < 160 by omega) h1
    refine ⟨f, fa', a1, ?_, fun e _ => rfl⟩
    rcases a2 with ⟨rfl, a2⟩ | ⟨rfl, a2⟩
    · refine ⟨h1, up1, fun e => ?_⟩
      obtain ⟨q1, q2, q3⟩ := h3 e
      refine ⟨q1, q2, fun i j e' => ?_⟩
      rw [q3]
      constructor
      · rintro (w' | w')
        · exact Or.inl (xC.mono sub _ _ _ w')
        · exact Or.inr w'
      · rintro (w' | w')
        · obtain ⟨l, k1, k2, k3⟩ := w'
          rcases List.mem_cons.mp k1 with rfl | k1
          · have hw0 : 0 ≤ w.toInt := by
              rcases a2 with a2 | a2
              · rw [e] at a2; exact absurd a2 (by decide)
              · exact a2
            have k3 : w.toInt ≤ e' := k3
            rcases k2 with ⟨rfl, rfl⟩ | ⟨rfl, rfl⟩
            · exact Or.inr ⟨rfl, by omega⟩
            · exact Or.inr ⟨bx_bx _, by omega⟩
          · exact Or.inl ⟨l, k1, k2, k3⟩
        · exact Or.inr w'
    · refine ⟨Or.inr rfl, fun _ hO => ?_, fun e => absurd e (by decide)⟩
      have := hO (bx y) w.toInt (xDv.base _ _ _ (xC_self (l := (bx y, y, w.toInt))))
      omega
  · obtain ⟨x1, x2⟩ := x160 x (by omega)
    have x1 : nI x ^^^ 1 = nI (bx x) := x1
    obtain ⟨y1, y2⟩ := x160 y (by omega)
    have y1 : nI y ^^^ 1 = nI (bx y) := y1
    have blt : ∀ {x}, x < W → bx x < W := fun {x} hx => by rw [hWc] at hx ⊢; exact bx_lt hx
    have hbx := blt hx
    have hby := blt hy
    have m1 := ix_le (W := W) hbx
    have m2 := ix_le (W := W) hby
    rw [oE_X6_limit]
    unfold ob_X6_limit
    rw [y1, if_neg (fun e => z (nI_inj' (by omega) (by omega) e))]
    simp only [gOc_f0, gOc_f1, gOc_f2, gOc_f3, gOc_f4, ovi_i, ovr_rf, obn_at, x1, nI3, gOc_j hne (show b + bx y * W + x < len by omega) hl, gOc_s hne (show b + bx y * W + x < len by omega) hl, gOc_s hne (show b + bx x * W + y < len by omega) hl]
    rcases h1 with rfl | rfl
    · rw [if_pos rfl]
      obtain ⟨q0, q2, q3⟩ := h3 rfl
      have q1 : ∀ i, i < W → fo b W f i i ≤ 0 := fun i hi => by rw [q0 i hi]; exact Int.le_refl _
      have at' := fun {i j : Nat} (hi : i < W) (hj : j < W) (e : Int) => tbA.at (c := e) hN q1 hi hj
      have co : xCoh bx (tbA 1152921504606846976 W (fo b W f)) := fun p q e k => (q3 _ _ _).mpr (xCz.coh _ _ _ ((q3 _ _ _).mp k))
      have ev : fo b W f (bx x) y = fo b W f (bx y) x := by
        have c1 : ∀ e, tbA 1152921504606846976 W (fo b W f) (bx x) y e ↔ tbA 1152921504606846976 W (fo b W f) (bx y) x e := fun e => ⟨fun k => by have := co _ _ _ k; rw [bx_bx] at this; exact this, fun k => by have := co _ _ _ k; rw [bx_bx] at this; exact this⟩
        have d1 := q2 (bx x) y hbx hy
        have d2 := q2 (bx y) x hby hx
        have c2 := fun e => (at' hbx hy e).symm.trans ((c1 e).trans (at' hby hx e))
        have k1 := c2 (fo b W f (bx x) y)
        have k2 := c2 (fo b W f (bx y) x)
        by_cases y1 : fo b W f (bx x) y < 1152921504606846976
        · have := k1.mp ⟨y1, Int.le_refl _⟩
          have := k2.mpr ⟨this.1, Int.le_refl _⟩
          omega
        · by_cases y2 : fo b W f (bx y) x < 1152921504606846976
          · have := k2.mpr ⟨y2, Int.le_refl _⟩
            omega
          · omega
      have e1 : (f (b + bx y * W + x)).toInt = fo b W f (bx y) x := rfl
      by_cases c1 : 0 < lg_cmp (f (b + bx y * W + x)) w
      · rw [if_pos c1, if_pos trivial]
        have c1' := (l_gt _ _).mp c1
        refine ⟨_, 0, rfl, ⟨Or.inl rfl, fun e => absurd e (by decide), fun _ => ?_⟩, fun e he => (up_out hbx hy he).trans (up_out hby hx he)⟩
        have hg : ∀ p q, p < W → q < W → fo b W (vp_updL (vp_updL f (b + bx y * W + x) w) (b + bx x * W + y) w) p q = if (p = bx y ∧ q = x) ∨ (p = bx x ∧ q = y) then w.toInt else fo b W f p q := fun p q hp hq => by
          rw [fo_upd hy hq, fo_upd hx hq]
          by_cases k1 : p = bx x ∧ q = y
          · rw [if_pos k1, if_pos (Or.inr k1)]
          · rw [if_neg k1]
            by_cases k2 : p = bx y ∧ q = x
            · rw [if_pos k2, if_pos (Or.inl k2)]
            · rw [if_neg k2, if_neg (by rintro (k | k) <;> contradiction)]
        have hg0 : ∀ i, i < W → fo b W (vp_updL (vp_updL f (b + bx y * W + x) w) (b + bx x * W + y) w) i i = 0 := fun i hi => by
          rw [hg i i hi hi, if_neg]
          · exact q0 i hi
          · rintro (⟨k1, k2⟩ | ⟨k1, k2⟩)
            · exact z (k2.symm.trans k1)
            · apply z
              rw [← k2, k1, bx_bx]
        have hgd : ∀ i, i < W → fo b W (vp_updL (vp_updL f (b + bx y * W + x) w) (b + bx x * W + y) w) i i ≤ 0 := fun i hi => by rw [hg0 i hi]; exact Int.le_refl _
        refine ⟨hg0, fun i j hi hj => ?_, fun i j e => ?_⟩
        · rw [hg i j hi hj]
          split
          · exact Or.inr hw
          · exact q2 i j hi hj
        · by_cases hij : i < W ∧ j < W
          · obtain ⟨hi, hj⟩ := hij
            rw [tbA.at hN hgd hi hj, hg i j hi hj]
            have o1 := (at' hi hj e).symm.trans (q3 i j e)
            by_cases sp : (i = bx y ∧ j = x) ∨ (i = bx x ∧ j = y)
            · rw [if_pos sp]
              have fv : fo b W f i j = fo b W f (bx y) x := by
                rcases sp with ⟨rfl, rfl⟩ | ⟨rfl, rfl⟩
                · rfl
                · exact ev
              constructor
              · rintro ⟨-, k⟩
                exact Or.inl ⟨(x, y, w.toInt), List.mem_cons_self .., sp, k⟩
              · intro k
                refine ⟨by omega, ?_⟩
                rcases k with ⟨l, k1, k2, k3⟩ | k
                · rcases List.mem_cons.mp k1 with rfl | k1
                  · exact k3
                  · have := o1.mpr (Or.inl ⟨l, k1, k2, k3⟩)
                    omega
                · have := o1.mpr (Or.inr k)
                  omega
            · rw [if_neg sp, o1]
              constructor
              · rintro (k | k)
                · exact Or.inl (xC.mono sub _ _ _ k)
                · exact Or.inr k
              · rintro (⟨l, k1, k2, k3⟩ | k)
                · rcases List.mem_cons.mp k1 with rfl | k1
                  · exact absurd k2 sp
                  · exact Or.inl ⟨l, k1, k2, k3⟩
                · exact Or.inr k
          · rw [tbA.out hij]
            have o1 : (i = j ∧ 0 ≤ e) ↔ xCz L i j e := (tbA.out hij).symm.trans (q3 i j e)
            rw [o1]
            constructor
            · rintro (k | k)
              · exact Or.inl (xC.mono sub _ _ _ k)
              · exact Or.inr k
            · rintro (⟨l, k1, k2, k3⟩ | k)
              · rcases List.mem_cons.mp k1 with rfl | k1
                · rcases k2 with ⟨rfl, rfl⟩ | ⟨rfl, rfl⟩
                  · exact absurd ⟨hby, hx⟩ hij
                  · exact absurd ⟨hbx, hy⟩ hij
                · exact Or.inl ⟨l, k1, k2, k3⟩
              · exact Or.inr k
      · rw [if_neg c1]
        have c1' : ¬ w.toInt < (f (b + bx y * W + x)).toInt := fun k => c1 ((l_gt _ _).mpr k)
        refine ⟨f, 0, rfl, ⟨Or.inl rfl, fun e => absurd e (by decide), fun _ => ⟨q0, q2, fun i j e => ?_⟩⟩, fun e _ => rfl⟩
        rw [q3]
        constructor
        · rintro (k | k)
          · exact Or.inl (xC.mono sub _ _ _ k)
          · exact Or.inr k
        · rintro (⟨l, k1, k2, k3⟩ | k)
          · rcases List.mem_cons.mp k1 with rfl | k1
            · have k3 : w.toInt ≤ e := k3
              rcases k2 with ⟨rfl, rfl⟩ | ⟨rfl, rfl⟩
              · exact (q3 _ _ _).mp ((at' hby hx e).mpr ⟨by omega, by omega⟩)
              · exact (q3 _ _ _).mp ((at' hbx hy e).mpr ⟨by rw [ev]; omega, by rw [ev]; omega⟩)
            · exact Or.inl ⟨l, k1, k2, k3⟩
          · exact Or.inr k
    · rw [if_neg (by decide)]
      exact ⟨f, 1, rfl, ⟨Or.inr rfl, up1, fun e => absurd e (by decide)⟩, fun e _ => rfl⟩
end LIC
