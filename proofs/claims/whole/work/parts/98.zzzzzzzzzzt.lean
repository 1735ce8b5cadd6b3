/-! go() of the reference where nothing is asked of INSTANCES; says() -/
section LFN
variable {ks : Nat → Nat} {qs : List Nat} {T n h0 c : Nat} {V : zSt} {B : Int} {L0 : List oLm}
/-- leaf() where only a way is looked for -/
theorem r_leafN (hq : qs.getD 88 0 ≠ qs.getD 87 0) (hT : 400 ≤ T) (hc : c ≤ 60) (h131 : V.1 131 = nI c) (h155 : ¬ 0 ≤ V.1 155) (hB : 0 ≤ B) (hBW : ((2 * c : Nat) : Int) * B + B < 1125899906842624) (hb : rTc B (2 * c) (L0.map rnd) (V.2.2.2 87)) (n : Nat) (τ : zSt) (Ws : List oWy) (Ts : List (Nat × Bool)) (hn : 4 ≤ n) (J : rJs V τ [] Ws Ts) (hws : ∀ w, w ∈ Ws → wyOk B c w) (hco : tCo Ts) : ∃ τ', zF h0 qs ks T n 98 [.ref h0] τ = some (none, τ') ∧ rJs V τ' [] Ws Ts ∧ ∀ o, o = none → (rMa τ' o ↔ rMa τ o ∨ kFe (fun _ => True) (Ws.map wLm ++ L0) Ts) := by
  obtain ⟨n, rfl⟩ : ∃ n', n = n' + 3 := ⟨n - 3, by omega⟩
  have e131 : τ.1 131 = nI c := by rw [J.1.1 131 (by decide)]; exact h131
  have e155 : τ.1 155 = V.1 155 := J.1.1 155 (by decide)
  have e87 : τ.2.2.2 87 = V.2.2.2 87 := J.1.2.2.2 87 (by decide)
  obtain ⟨j1, j2, j3, j4⟩ := J
  obtain ⟨m', h | h⟩ := r_leaf (ks := ks) (qs := qs) (T := T) (n := n) (h0 := h0) (τ := τ) (c := c) (B := B) (Ws := Ws) (L := L0) hq hT hc e131 hB hBW j3 hws (by rw [e87]; exact hb)
  · refine ⟨_, h.1, ⟨j1.g (by decide), j2, ⟨j3.1, j3.2.1, fun k w e => ?_⟩, j4⟩, fun o ho => ?_⟩
    · obtain ⟨a1, a2, a3, a4, a5⟩ := j3.2.2 k w e
      exact ⟨a1, a2, a3, a4, by rw [zG_ne (by decide)]; exact a5⟩
    · subst ho
      have : ¬ kFe (fun _ => True) (Ws.map wLm ++ L0) Ts := fun k => h.2 k.1
      show τ.1 154 = 1 ↔ τ.1 154 = 1 ∨ _
      exact ⟨Or.inl, fun k => by rcases k with k | k; exact k; exact absurd k this⟩
  · obtain ⟨h1, h2⟩ := h
    refine ⟨zI (zG τ 88 m') 154 1, ?_, ⟨(j1.g (by decide)).i (by decide), j2, ⟨j3.1, j3.2.1, fun k w e => ?_⟩, ⟨⟨j4.1.1, Or.inr rfl⟩, j4.2⟩⟩, fun o ho => ?_⟩
    · rw [h1]
      unfold lEnd
      simp only [zlet]
      have e5 : (zI (zG τ 88 m') 154 1).1 155 = V.1 155 := e155
      rw [e5, if_neg h155]
    · obtain ⟨a1, a2, a3, a4, a5⟩ := j3.2.2 k w e
      refine ⟨a1, a2, a3, a4, ?_⟩
      show (zG τ 88 m').2.2.2 99 k = _
      rw [zG_ne (by decide)]
      exact a5
    · subst ho
      have e : (zI (zG τ 88 m') 154 1).1 154 = 1 := by
        show (if (154 : Nat) = 154 then (1 : Int32) else τ.1 154) = 1
        rw [if_pos rfl]
      show (zI (zG τ 88 m') 154 1).1 154 = 1 ↔ _
      exact ⟨fun _ => Or.inr ⟨h2.1, hco, trivial⟩, fun _ => e⟩
/-- the limit l follows -/
def lSy (L : List oLm) (l : oLm) : Prop := xDv bx (xC L) (bx l.2.1) l.1 l.2.2
/-- **says()** -/
theorem r_says {L : List oLm} {τ : zSt} {a b : Nat} {ta tb : Int32} {num : Int64} (hc : c ≤ 60) (h : rSay (2 * c) L (τ.2.2.2 88)) (ha : a < c) (hb : b < c) (hta : -2 ≤ ta.toInt ∧ ta.toInt ≤ 2) (htb : -2 ≤ tb.toInt ∧ tb.toInt ≤ 2) (hn : -562949953421311 ≤ num.toInt ∧ num.toInt ≤ 562949953421311) : ∃ v : Int32, zF h0 qs ks T (n + 2) 90 [.ref h0, .int (nI a), .int ta, .int (nI b), .int tb, .long num] τ = some (some (.int v), τ) ∧ ((v = 1 ∧ lSy L (aM a ta.toInt b tb.toInt (-num.toInt))) ∨ (v = 0 ∧ ¬ lSy L (aM a ta.toInt b tb.toInt (-num.toInt)))) := by
  obtain ⟨hO, hS⟩ := h
  have en : (-num).toInt = -num.toInt := j_neg (by omega)
  have e2 : (2 : Int64).toInt = 2 := by decide
  have e0 : (0 : Int64).toInt = 0 := by decide
  have edn : (oDn (-num)).toInt = (-num.toInt) / 2 := by rw [oDn_i, en] <;> rw [en] <;> omega
  have sdl : ∀ {s : Nat} {t : Int}, s < c → sd s t < 2 * c := fun {s t} hs => by unfold sd; split <;> omega
  have i2 : ∀ t : Int32, (t = 2 ∨ t = -2) ↔ (t.toInt = 2 ∨ t.toInt = -2) := fun t => by
    constructor
    · rintro (e | e)
      · rw [e]; exact Or.inl rfl
      · rw [e]; exact Or.inr rfl
    · rintro (e | e)
      · exact Or.inl (Int32.toInt_inj.mp (e.trans rfl))
      · exact Or.inr (Int32.toInt_inj.mp (e.trans rfl))
  -- one cell
  have cell : ∀ (p q : Nat) (y : Int64), p < 2 * c → q < 2 * c → y.toInt < 1125899906842624 → ∃ v : Int32, (if 0 < lg_cmp (τ.2.2.2 88 (160 * p + q)) y then some (some (.int 0), τ) else some (some (.int 1), τ) : zRs) = some (some (.int v), τ) ∧ ((v = 1 ∧ xDv bx (xC L) p q y.toInt) ∨ (v = 0 ∧ ¬ xDv bx (xC L) p q y.toInt)) := fun p q y hp hq hy => by
    have k := hS p q hp hq y.toInt
    have e : fm (τ.2.2.2 88) p q = (τ.2.2.2 88 (160 * p + q)).toInt := rfl
    by_cases z : 0 < lg_cmp (τ.2.2.2 88 (160 * p + q)) y
    · rw [if_pos z]
      have z' := (l_gt _ _).mp z
      exact ⟨0, rfl, Or.inr ⟨rfl, fun d => by have := k.mp d; omega⟩⟩
    · rw [if_neg z]
      have z' : ¬ y.toInt < (τ.2.2.2 88 (160 * p + q)).toInt := fun w => z ((l_gt _ _).mpr w)
      exact ⟨1, rfl, Or.inl ⟨rfl, k.mpr ⟨by omega, by omega⟩⟩⟩
  -- a side's own: an even number
  have own : ∀ (p : Nat) (w : Int), xDv bx (xC L) (bx p) p w ↔ xDv bx (xC L) (bx p) p (2 * (w / 2)) := fun p w => by
    constructor
    · intro d
      have d' : xDv bx (xC L) (bx p) (bx (bx p)) w := by rw [bx_bx]; exact d
      have := xDv.ev _ _ d'
      rw [bx_bx] at this
      exact this
    · exact fun d => xDv.up _ _ _ _ d (by omega)
  have one : ∀ (s : Nat) (t : Int32), s < c → (-2 ≤ t.toInt ∧ t.toInt ≤ 2) → t.toInt ≠ 0 → ∃ v : Int32, j_says_54 T (zF h0 qs ks T (n + 1)) h0 qs ks num (nI s) t τ = some (some (.int v), τ) ∧ ((v = 1 ∧ lSy L (sd s t.toInt, sd s t.toInt, if t.toInt = 1 ∨ t.toInt = -1 then 2 * (-num.toInt) else -num.toInt)) ∨ (v = 0 ∧ ¬ lSy L (sd s t.toInt, sd s t.toInt, if t.toInt = 1 ∨ t.toInt = -1 then 2 * (-num.toInt) else -num.toInt))) := fun s t hs ht h0' => by
    have hsd := sdl (t := t.toInt) hs
    have h84 : ∀ y : Int64, 2 * y.toInt = 2 * ((if t.toInt = 1 ∨ t.toInt = -1 then 2 * (-num.toInt) else -num.toInt) / 2) → ∃ v : Int32, j_says_84 T (zF h0 qs ks T (n + 1)) h0 qs ks (nI s) t y τ = some (some (.int v), τ) ∧ ((v = 1 ∧ lSy L (sd s t.toInt, sd s t.toInt, if t.toInt = 1 ∨ t.toInt = -1 then 2 * (-num.toInt) else -num.toInt)) ∨ (v = 0 ∧ ¬ lSy L (sd s t.toInt, sd s t.toInt, if t.toInt = 1 ∨ t.toInt = -1 then 2 * (-num.toInt) else -num.toInt))) := fun y hy => by
      have by' : -562949953421312 ≤ y.toInt ∧ y.toInt < 562949953421312 := by split at hy <;> omega
      have e2y : (2 * y).toInt = 2 * y.toInt := by rw [j_mul, e2] <;> rw [e2] <;> omega
      have hl : lSy L (sd s t.toInt, sd s t.toInt, if t.toInt = 1 ∨ t.toInt = -1 then 2 * (-num.toInt) else -num.toInt) ↔ xDv bx (xC L) (bx (sd s t.toInt)) (sd s t.toInt) (2 * y).toInt := by
        rw [e2y, hy]
        exact own _ _
      have go : j_says_84 T (zF h0 qs ks T (n + 1)) h0 qs ks (nI s) t y τ = if 0 < lg_cmp (τ.2.2.2 88 (160 * bx (sd s t.toInt) + sd s t.toInt)) (2 * y) then some (some (.int 0), τ) else some (some (.int 1), τ) := by
        have ib : bx (sd s t.toInt) < 160 := bx_lt (c := 80) (by omega)
        unfold j_says_84 j_says_98
        have ep : 2 * nI s + (if t ≤ 0 then 1 else 0) = nI (sd s t.toInt) := by
          unfold sd
          by_cases w : 0 < t.toInt
          · rw [if_neg (fun v => (j32_pos t).mp v w), if_pos w, n2a, Int32.add_zero, Nat.add_zero]
          · rw [if_pos ((j32_pos t).mpr w), if_neg w, n2a, nI_p1]
        have ex : nI (sd s t.toInt) ^^^ 1 = nI (bx (sd s t.toInt)) := (x160 _ (by omega)).1
        by_cases w : t ≤ 0
        · rw [if_pos w] at ep ⊢
          rw [ep, ex, n160]
          simp only [zgd, zin_n (show 160 * bx (sd s t.toInt) + sd s t.toInt < 25600 by omega) (by decide), if_true, nI_clamp (show 160 * bx (sd s t.toInt) + sd s t.toInt < 2 ^ 31 by omega)]
        · rw [if_neg w] at ep ⊢
          rw [ep, ex, n160]
          simp only [zgd, zin_n (show 160 * bx (sd s t.toInt) + sd s t.toInt < 25600 by omega) (by decide), if_true, nI_clamp (show 160 * bx (sd s t.toInt) + sd s t.toInt < 2 ^ 31 by omega)]
      rw [go, hl]
      exact cell _ _ _ (by have := bx_lt (c := c) hsd; exact this) hsd (by rw [e2y]; omega)
    unfold j_says_54 j_says_74
    simp only [r_down, zcl']
    by_cases z1 : t = 2
    · rw [if_pos z1]
      have z' := (i2 t).mp (Or.inl z1)
      exact h84 _ (by rw [edn, if_neg (by omega)])
    · rw [if_neg z1]
      by_cases z2 : t = -2
      · rw [if_pos z2]
        have z' := (i2 t).mp (Or.inr z2)
        exact h84 _ (by rw [edn, if_neg (by omega)])
      · rw [if_neg z2]
        have z' : ¬ (t.toInt = 2 ∨ t.toInt = -2) := fun w => by
          rcases (i2 t).mpr w with w | w
          · exact z1 w
          · exact z2 w
        exact h84 _ (by rw [en, if_pos (by omega)]; omega)
  have h0a := i32_0 ta
  have h0b := i32_0 tb
  rw [show n + 2 = (n + 1) + 1 from rfl, zE_says]
  unfold b_says
  by_cases za : ta = 0
  · rw [if_pos za]
    by_cases zb : tb = 0
    · rw [if_pos zb]
      have e : aM a ta.toInt b tb.toInt (-num.toInt) = (0, 1, -num.toInt) := if_pos ⟨h0a.mp za, h0b.mp zb⟩
      rw [e]
      have hl : lSy L (0, 1, -num.toInt) ↔ 0 ≤ -num.toInt := by
        show xDv bx (xC L) (bx 1) 0 (-num.toInt) ↔ _
        rw [show bx 1 = 0 from rfl]
        exact ⟨fun d => hO 0 _ d, fun k => xDv.up _ _ _ _ (xDv.z 0) k⟩
      rw [hl]
      by_cases z : 0 < lg_cmp num 0
      · rw [if_pos z]
        have := (l_gt _ _).mp z
        rw [e0] at this
        exact ⟨0, rfl, Or.inr ⟨rfl, by omega⟩⟩
      · rw [if_neg z]
        have : ¬ (0 : Int64).toInt < num.toInt := fun w => z ((l_gt _ _).mpr w)
        rw [e0] at this
        exact ⟨1, rfl, Or.inl ⟨rfl, by omega⟩⟩
    · rw [if_neg zb]
      unfold j_says_22 j_says_31 j_says_41
      have e : aM a ta.toInt b tb.toInt (-num.toInt) = (sd b tb.toInt, sd b tb.toInt, if tb.toInt = 1 ∨ tb.toInt = -1 then 2 * (-num.toInt) else -num.toInt) := by
        unfold aM
        rw [if_neg (fun k => zb (h0b.mpr k.2)), if_neg (fun k => zb (h0b.mpr k)), if_pos (h0a.mp za)]
      rw [if_neg zb, if_pos za, if_neg zb, if_neg zb, e]
      exact one b tb hb htb (fun k => zb (h0b.mpr k))
  · rw [if_neg za]
    unfold j_says_22
    by_cases zb : tb = 0
    · rw [if_pos zb]
      unfold j_says_31 j_says_41
      have e : aM a ta.toInt b tb.toInt (-num.toInt) = (sd a ta.toInt, sd a ta.toInt, if ta.toInt = 1 ∨ ta.toInt = -1 then 2 * (-num.toInt) else -num.toInt) := by
        unfold aM
        rw [if_neg (fun k => za (h0a.mpr k.1)), if_pos (h0b.mp zb)]
      rw [if_pos zb, if_pos zb, e]
      exact one a ta ha hta (fun k => za (h0a.mpr k))
    · rw [if_neg zb, if_neg za]
      have e : aM a ta.toInt b tb.toInt (-num.toInt) = (sd a ta.toInt, sd b tb.toInt, -num.toInt) := by
        unfold aM
        rw [if_neg (fun k => za (h0a.mpr k.1)), if_neg (fun k => zb (h0b.mpr k)), if_neg (fun k => za (h0a.mpr k))]
      have hs1 := sdl (t := ta.toInt) ha
      have hs2 := sdl (t := tb.toInt) hb
      have lb2 : bx (sd b tb.toInt) < 2 * c := bx_lt hs2
      have ep : 2 * nI a + (if ta ≤ 0 then 1 else 0) = nI (sd a ta.toInt) := by
        unfold sd
        by_cases w : 0 < ta.toInt
        · rw [if_neg (fun v => (j32_pos ta).mp v w), if_pos w, n2a, Int32.add_zero, Nat.add_zero]
        · rw [if_pos ((j32_pos ta).mpr w), if_neg w, n2a, nI_p1]
      have eq : 2 * nI b + (if tb ≤ 0 then 0 else 1) = nI (bx (sd b tb.toInt)) := by
        unfold sd
        by_cases w : 0 < tb.toInt
        · rw [if_neg (fun v => (j32_pos tb).mp v w), if_pos w, n2a, nI_p1]
          show _ = nI (bx (2 * b))
          rw [bx_e]
        · rw [if_pos ((j32_pos tb).mpr w), if_neg w, n2a, Int32.add_zero, bx_o]
      have go : j_says_145 T (zF h0 qs ks T (n + 1)) h0 qs ks (nI b) tb num (2 * nI a) (if ta ≤ 0 then 1 else 0) τ = if 0 < lg_cmp (τ.2.2.2 88 (160 * bx (sd b tb.toInt) + sd a ta.toInt)) (-num) then some (some (.int 0), τ) else some (some (.int 1), τ) := by
        have : j_says_145 T (zF h0 qs ks T (n + 1)) h0 qs ks (nI b) tb num (2 * nI a) (if ta ≤ 0 then 1 else 0) τ = j_says_161 T (zF h0 qs ks T (n + 1)) h0 qs ks num (2 * nI a + (if ta ≤ 0 then 1 else 0)) (2 * nI b) (if tb ≤ 0 then 0 else 1) τ := by
          unfold j_says_145
          by_cases w : tb ≤ 0
          · rw [if_pos w, if_pos w]
          · rw [if_neg w, if_neg w]
        rw [this]
        unfold j_says_161
        rw [ep, eq, n160]
        simp only [zgd, zin_n (show 160 * bx (sd b tb.toInt) + sd a ta.toInt < 25600 by omega) (by decide), if_true, nI_clamp (show 160 * bx (sd b tb.toInt) + sd a ta.toInt < 2 ^ 31 by omega)]
      have fin := cell (bx (sd b tb.toInt)) (sd a ta.toInt) (-num) lb2 hs1 (by rw [en]; omega)
      rw [en] at fin
      rw [e]
      by_cases w : ta ≤ 0
      · rw [if_pos w] at go ⊢; rw [go]; exact fin
      · rw [if_neg w] at go ⊢; rw [go]; exact fin
end LFN
