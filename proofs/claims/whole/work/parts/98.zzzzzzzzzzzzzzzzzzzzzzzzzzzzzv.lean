/-! run(), the reference: its heap, what waits -/
/-- rows are as they were: slots below c, functions below nf, what waits below nd -/
def xKp (c nf nd : Nat) (τ τ' : zSt) : Prop := rSk τ τ' c ∧ (∀ k i, 109 ≤ k → k ≤ 112 → i < nf → τ'.2.2.1 k i = τ.2.2.1 k i) ∧ ∀ k i, 116 ≤ k → k ≤ 118 → i < nd → τ'.2.2.1 k i = τ.2.2.1 k i
theorem xKp.rf (c nf nd : Nat) (τ : zSt) : xKp c nf nd τ τ := ⟨rSk.rf τ c, fun _ _ _ _ _ => rfl, fun _ _ _ _ _ => rfl⟩
/-- arrays and lists stay -/
def yKp (τ τ' : zSt) : Prop := τ'.2.2.1 113 = τ.2.2.1 113 ∧ τ'.2.2.1 114 = τ.2.2.1 114 ∧ τ'.2.2.2 115 = τ.2.2.2 115 ∧ τ'.2.2.2 119 = τ.2.2.2 119 ∧ τ'.2.2.1 120 = τ.2.2.1 120 ∧ τ'.2.2.1 121 = τ.2.2.1 121
theorem rYl.kp {τ τ' : zSt} {h : xmHp} (g : yKp τ τ') (w : rYl τ h) : rYl τ' h := by
  obtain ⟨a, b, c, d, e, f⟩ := g
  refine ⟨fun i x ex => ?_, fun i x ex => ?_⟩
  · rw [a, b, c]; exact w.1 i x ex
  · rw [d, e, f]; exact w.2 i x ex
/-- ARGS in a chain -/
def xmAc (l : List xmV) : List (Int32 × xmV) := l.map (fun v => ((-1 : Int32), v))
section XRA
variable (pp : Nat → Int32) (V : zSt) (N S P A : Nat)
/-- functions -/
def rFs (τ : zSt) (c : Nat) (h : xmHp) : Prop := ∀ (i : Nat) (fn : xmFn), h.1[i]? = some fn → ∃ (m : Nat) (s hd : Int32), (τ.2.2.1 109 i = nI m ∧ m < N ∧ rTr pp V 0 N S P A fn.1 0 0 m) ∧ (τ.2.2.1 110 i = s ∧ rEc (V.2.2.1 32) τ c fn.2.1 fn.2.2.1 s) ∧ (τ.2.2.1 111 i = hd ∧ rCh τ c (xmAc fn.2.2.2).reverse hd) ∧ τ.2.2.1 112 i = nI fn.2.2.2.length
/-- what waits -/
def rFk (τ : zSt) (c : Nat) : List xmFr → Nat → Prop
  | [], d => d = 0
  | .inl x :: fr, d => ∃ d' m xb s, d = d' + 1 ∧ (τ.2.2.1 116 d' = 0 ∧ τ.2.2.1 117 d' = nI m ∧ τ.2.2.1 118 d' = s) ∧ ((m < N ∧ x.1 < 2010) ∧ nV V m 3 = nI x.1 ∧ nV V m 6 = nI xb ∧ xb < N ∧ rTr pp V 0 N S P A x.2.1 0 0 xb) ∧ rEc (V.2.2.1 32) τ c x.2.2.1 x.2.2.2 s ∧ rFk τ c fr d'
  | .inr rest :: fr, d => (rest = [] ∧ ∃ d', d = d' + 1 ∧ τ.2.2.1 116 d' = 1 ∧ rFk τ c fr d') ∨ ((rest ≠ [] ∧ rest.length ≤ 4) ∧ ∃ d' s, d = d' + 2 ∧ τ.2.2.1 116 (d' + 1) = 1 ∧ (τ.2.2.1 116 d' = 2 ∧ τ.2.2.1 117 d' = s) ∧ rCh τ c (xmAc rest) s ∧ rFk τ c fr d')
/-- **the reference's state in a run** -/
def rXa (τ : zSt) (c n : Nat) (h : xmHp) (fr : List xmFr) : Prop := xFm V τ ∧ (τ.1 171 = nI c ∧ τ.1 176 = nI h.1.length ∧ τ.1 180 = nI h.2.1.length ∧ τ.1 181 = nI (xmTot h) ∧ τ.1 188 = nI h.2.2.length) ∧ rFs pp V N S P A τ c h ∧ rYl τ h ∧ (∃ d, τ.1 189 = nI d ∧ rFk pp V N S P A τ c fr d) ∧ τ.1 190 = nI (xmDp fr) ∧ τ.1 191 = 0 ∧ τ.1 164 = nI n
end XRA
section XRB
variable {pp : Nat → Int32} {V τ τ' : zSt} {N S P A c c' n : Nat} {h : xmHp} {fr : List xmFr} {ks : Nat → Nat} {qs : List Nat} {T h0 : Nat}
theorem rFs.kp {d : Nat} (g : xKp c h.1.length d τ τ') (hc : c ≤ c') (w : rFs pp V N S P A τ c h) : rFs pp V N S P A τ' c' h := fun i fn e => by
  obtain ⟨m, s, hd, ⟨a1, a2⟩, ⟨b1, b2⟩, ⟨c1, c2⟩, d1⟩ := w i fn e
  have hi := xget_lt e
  exact ⟨m, s, hd, ⟨(g.2.1 109 i (by decide) (by decide) hi).trans a1, a2⟩, ⟨(g.2.1 110 i (by decide) (by decide) hi).trans b1, b2.kp g.1 hc⟩, ⟨(g.2.1 111 i (by decide) (by decide) hi).trans c1, rCh.kp g.1 hc _ _ c2⟩, (g.2.1 112 i (by decide) (by decide) hi).trans d1⟩
theorem rFk.kp {nf nd : Nat} (g : xKp c nf nd τ τ') (hc : c ≤ c') : ∀ (fr : List xmFr) (d : Nat), d ≤ nd → rFk pp V N S P A τ c fr d → rFk pp V N S P A τ' c' fr d
  | [], _, _, w => w
  | .inl x :: fr, d, hd, w => by
    obtain ⟨d', m, xb, s, e, ⟨a1, a2, a3⟩, b, e1, e2⟩ := w
    exact ⟨d', m, xb, s, e, ⟨(g.2.2 116 d' (by decide) (by decide) (by omega)).trans a1, (g.2.2 117 d' (by decide) (by decide) (by omega)).trans a2, (g.2.2 118 d' (by decide) (by decide) (by omega)).trans a3⟩, b, e1.kp g.1 hc, rFk.kp g hc fr d' (by omega) e2⟩
  | .inr rest :: fr, d, hd, w => by
    rcases w with ⟨r, d', e, a1, e2⟩ | ⟨r, d', s, e, a1, ⟨a2, a3⟩, e1, e2⟩
    · exact Or.inl ⟨r, d', e, (g.2.2 116 d' (by decide) (by decide) (by omega)).trans a1, rFk.kp g hc fr d' (by omega) e2⟩
    · exact Or.inr ⟨r, d', s, e, (g.2.2 116 (d' + 1) (by decide) (by decide) (by omega)).trans a1, ⟨(g.2.2 116 d' (by decide) (by decide) (by omega)).trans a2, (g.2.2 117 d' (by decide) (by decide) (by omega)).trans a3⟩, rCh.kp g.1 hc _ _ e1, rFk.kp g hc fr d' (by omega) e2⟩
theorem rFk.le : ∀ (fr : List xmFr) (d : Nat), rFk pp V N S P A τ c fr d → d ≤ 2 * fr.length
  | [], _, w => by have w : _ = 0 := w; omega
  | .inl x :: fr, d, w => by
    obtain ⟨d', m, xb, s, e, -, -, -, e2⟩ := w
    have := rFk.le fr d' e2
    rw [List.length_cons]; omega
  | .inr rest :: fr, d, w => by
    rw [List.length_cons]
    rcases w with ⟨r, d', e, a1, e2⟩ | ⟨r, d', s, e, a1, -, e1, e2⟩
    · have := rFk.le fr d' e2; omega
    · have := rFk.le fr d' e2; omega
/-- one slot more -/
theorem slS_kp (τ : zSt) (c nf nd : Nat) (x1 x2 x3 : Int32) (x4 : Int64) : xKp c nf nd τ (slS τ c x1 x2 x3 x4) := by
  refine ⟨slS_sk τ c x1 x2 x3 x4, fun k i h1 h2 _ => ?_, fun k i h1 h2 _ => ?_⟩
  all_goals
    show (if k = 105 then _ else if k = 106 then _ else if k = 107 then _ else _ : Nat → Int32) i = _
    rw [if_neg (by omega), if_neg (by omega), if_neg (by omega)]
theorem slS_y (τ : zSt) (c : Nat) (x1 x2 x3 : Int32) (x4 : Int64) : yKp τ (slS τ c x1 x2 x3 x4) := ⟨rfl, rfl, rfl, rfl, rfl, rfl⟩
theorem rXa.sl {x1 x2 x3 : Int32} {x4 : Int64} (w : rXa pp V N S P A τ c n h fr) : rXa pp V N S P A (slS τ c x1 x2 x3 x4) (c + 1) n h fr := by
  obtain ⟨F, ⟨a1, a2, a3, a4, a5⟩, b, y, ⟨d, d1, d2⟩, e1, e2, e3⟩ := w
  exact ⟨F.tr (xFm.s τ c x1 x2 x3 x4), ⟨rfl, a2, a3, a4, a5⟩, b.kp (d := 0) (slS_kp τ c _ _ x1 x2 x3 x4) (by omega), y.kp (slS_y τ c x1 x2 x3 x4), ⟨d, d1, rFk.kp (nf := 0) (slS_kp τ c _ d x1 x2 x3 x4) (by omega) fr d (Nat.le_refl _) d2⟩, e1, e2, e3⟩
/-- what function() makes -/
def fnS (τ : zSt) (i : Nat) (x1 x2 x3 x4 : Int32) : zSt := (fun k => if k = 176 then nI (i + 1) else τ.1 k, τ.2.1, fun k => if k = 109 then upd (τ.2.2.1 109) i x1 else if k = 110 then upd (τ.2.2.1 110) i x2 else if k = 111 then upd (τ.2.2.1 111) i x3 else if k = 112 then upd (τ.2.2.1 112) i x4 else τ.2.2.1 k, τ.2.2.2)
theorem r_fun {i : Nat} {x1 x2 : Int32} (h : τ.1 176 = nI i) (hi : i < 60000) : zF h0 qs ks T (n + 1) 129 [.ref h0, .int x1, .int x2] τ = some (some (.int (nI i)), fnS τ i x1 x2 (-1) 0) := by
  have z1 : zin (nI i) 60000 = true := zin_n hi (by decide)
  have cl : (nI i).toNatClampNeg = i := nI_clamp (by omega)
  have e1 : nI i + 1 - 1 = nI i := nI_pm i
  have e2 : nI i + 1 = nI (i + 1) := nI_p1 i
  rw [zE_function]
  unfold b_function
  simp only [zlet, zA, zI, h, z1, zgd, if_true, cl, if_false, e2, show ¬ (110 : Nat) = 109 by decide, show ¬ (111 : Nat) = 109 by decide, show ¬ (112 : Nat) = 109 by decide, show ¬ (111 : Nat) = 110 by decide, show ¬ (112 : Nat) = 110 by decide, show ¬ (112 : Nat) = 111 by decide]
  congr 2
  · congr 1
    rw [← e2, e1]
  · unfold fnS
    refine Prod.ext rfl (Prod.ext rfl (Prod.ext ?_ rfl))
    funext k
    dsimp only
    by_cases c5 : k = 109
    · subst c5; rfl
    · by_cases c6 : k = 110
      · subst c6; rfl
      · by_cases c7 : k = 111
        · subst c7; rfl
        · by_cases c8 : k = 112
          · subst c8; rfl
          · simp only [c5, c6, c7, c8, if_false]
theorem fnS_r (τ : zSt) (i : Nat) (x1 x2 x3 x4 : Int32) (k : Nat) (hk : k < 109 ∨ 112 < k) : (fnS τ i x1 x2 x3 x4).2.2.1 k = τ.2.2.1 k := by
  show (if k = 109 then _ else if k = 110 then _ else if k = 111 then _ else if k = 112 then _ else _) = _
  rw [if_neg (by omega), if_neg (by omega), if_neg (by omega), if_neg (by omega)]
theorem fnS_kp (τ : zSt) (c i nd : Nat) (x1 x2 x3 x4 : Int32) : xKp c i nd τ (fnS τ i x1 x2 x3 x4) := by
  refine ⟨fun j hj => ⟨by rw [fnS_r _ _ _ _ _ _ _ (by omega)], by rw [fnS_r _ _ _ _ _ _ _ (by omega)], by rw [fnS_r _ _ _ _ _ _ _ (by omega)], rfl⟩, fun k j h1 h2 hj => ?_, fun k j h1 h2 _ => by rw [fnS_r _ _ _ _ _ _ _ (by omega)]⟩
  have hj : ¬ j = i := by omega
  show (if k = 109 then _ else if k = 110 then _ else if k = 111 then _ else if k = 112 then _ else _ : Nat → Int32) j = _
  by_cases c5 : k = 109
  · subst c5; rw [if_pos rfl]; exact if_neg hj
  · by_cases c6 : k = 110
    · subst c6; rw [if_neg (by decide), if_pos rfl]; exact if_neg hj
    · by_cases c7 : k = 111
      · subst c7; rw [if_neg (by decide), if_neg (by decide), if_pos rfl]; exact if_neg hj
      · have c8 : k = 112 := by omega
        subst c8; rw [if_neg (by decide), if_neg (by decide), if_neg (by decide), if_pos rfl]; exact if_neg hj
theorem fnS_at (τ : zSt) (i : Nat) (x1 x2 x3 x4 : Int32) : (fnS τ i x1 x2 x3 x4).2.2.1 109 i = x1 ∧ (fnS τ i x1 x2 x3 x4).2.2.1 110 i = x2 ∧ (fnS τ i x1 x2 x3 x4).2.2.1 111 i = x3 ∧ (fnS τ i x1 x2 x3 x4).2.2.1 112 i = x4 := ⟨if_pos rfl, if_pos rfl, if_pos rfl, if_pos rfl⟩
theorem fnS_fm (τ : zSt) (i : Nat) (x1 x2 x3 x4 : Int32) : xFm τ (fnS τ i x1 x2 x3 x4) := ⟨fun k hk => fnS_r _ _ _ _ _ _ _ (by omega), fun j hj => if_neg (fun e => hj (by rw [e]; decide)), fun _ _ _ => rfl, fun _ _ => rfl⟩
/-- one function more -/
theorem rXa.fn {fn : xmFn} {m : Nat} {s hd : Int32} (w : rXa pp V N S P A τ c n h fr) (hm : m < N ∧ rTr pp V 0 N S P A fn.1 0 0 m) (hs : rEc (V.2.2.1 32) τ c fn.2.1 fn.2.2.1 s) (hh : rCh τ c (xmAc fn.2.2.2).reverse hd) : rXa pp V N S P A (fnS τ h.1.length (nI m) s hd (nI fn.2.2.2.length)) c n (xmNf h fn) fr := by
  obtain ⟨F, ⟨a1, a2, a3, a4, a5⟩, b, y, ⟨d, d1, d2⟩, e1, e2, e3⟩ := w
  have K := fnS_kp τ c h.1.length d (nI m) s hd (nI fn.2.2.2.length)
  have ln : (xmNf h fn).1.length = h.1.length + 1 := by
    show (h.1 ++ [fn]).length = _
    rw [List.length_append]; rfl
  refine ⟨F.tr (fnS_fm ..), ⟨a1, by rw [ln]; rfl, a3, a4, a5⟩, fun i g eg => ?_, y.kp ⟨by rw [fnS_r _ _ _ _ _ _ _ (by omega)], by rw [fnS_r _ _ _ _ _ _ _ (by omega)], rfl, rfl, by rw [fnS_r _ _ _ _ _ _ _ (by omega)], by rw [fnS_r _ _ _ _ _ _ _ (by omega)]⟩, ⟨d, d1, rFk.kp K (Nat.le_refl _) fr d (Nat.le_refl _) d2⟩, e1, e2, e3⟩
  have eg : (h.1 ++ [fn])[i]? = some g := eg
  by_cases ci : i < h.1.length
  · rw [List.getElem?_append_left ci] at eg
    exact b.kp K (Nat.le_refl _) i g eg
  · have hi := xget_lt eg
    have ei : i = h.1.length := by rw [List.length_append] at hi; simp at hi; omega
    subst ei
    rw [List.getElem?_append_right (Nat.le_refl _), Nat.sub_self] at eg
    injection eg with eg
    subst eg
    obtain ⟨q1, q2, q3, q4⟩ := fnS_at τ h.1.length (nI m) s hd (nI fn.2.2.2.length)
    exact ⟨m, s, hd, ⟨q1, hm⟩, ⟨q2, hs.kp K.1 (Nat.le_refl _)⟩, ⟨q3, rCh.kp K.1 (Nat.le_refl _) _ _ hh⟩, q4⟩
/-- what todo() makes -/
def tdS (τ : zSt) (i : Nat) (x1 x2 x3 : Int32) : zSt := (fun k => if k = 189 then nI (i + 1) else τ.1 k, τ.2.1, fun k => if k = 116 then upd (τ.2.2.1 116) i x1 else if k = 117 then upd (τ.2.2.1 117) i x2 else if k = 118 then upd (τ.2.2.1 118) i x3 else τ.2.2.1 k, τ.2.2.2)
theorem r_todo {i : Nat} {x1 x2 x3 : Int32} (h : τ.1 189 = nI i) (hi : i < 20000) : zF h0 qs ks T (n + 1) 130 [.ref h0, .int x1, .int x2, .int x3] τ = some (none, tdS τ i x1 x2 x3) := by
  have z1 : zin (nI i) 20000 = true := zin_n hi (by decide)
  have cl : (nI i).toNatClampNeg = i := nI_clamp (by omega)
  have e2 : nI i + 1 = nI (i + 1) := nI_p1 i
  rw [zE_todo]
  unfold b_todo
  simp only [zlet, zA, zI, h, z1, zgd, if_true, cl, if_false, e2, show ¬ (117 : Nat) = 116 by decide, show ¬ (118 : Nat) = 116 by decide, show ¬ (118 : Nat) = 117 by decide]
  congr 2
  unfold tdS
  refine Prod.ext rfl (Prod.ext rfl (Prod.ext ?_ rfl))
  funext k
  dsimp only
  by_cases c5 : k = 116
  · subst c5; rfl
  · by_cases c6 : k = 117
    · subst c6; rfl
    · by_cases c7 : k = 118
      · subst c7; rfl
      · simp only [c5, c6, c7, if_false]
theorem tdS_r (τ : zSt) (i : Nat) (x1 x2 x3 : Int32) (k : Nat) (hk : k < 116 ∨ 118 < k) : (tdS τ i x1 x2 x3).2.2.1 k = τ.2.2.1 k := by
  show (if k = 116 then _ else if k = 117 then _ else if k = 118 then _ else _) = _
  rw [if_neg (by omega), if_neg (by omega), if_neg (by omega)]
theorem tdS_kp (τ : zSt) (c nf i : Nat) (x1 x2 x3 : Int32) : xKp c nf i τ (tdS τ i x1 x2 x3) := by
  refine ⟨fun j hj => ⟨by rw [tdS_r _ _ _ _ _ _ (by omega)], by rw [tdS_r _ _ _ _ _ _ (by omega)], by rw [tdS_r _ _ _ _ _ _ (by omega)], rfl⟩, fun k j h1 h2 _ => by rw [tdS_r _ _ _ _ _ _ (by omega)], fun k j h1 h2 hj => ?_⟩
  have hj : ¬ j = i := by omega
  show (if k = 116 then _ else if k = 117 then _ else if k = 118 then _ else _ : Nat → Int32) j = _
  by_cases c5 : k = 116
  · subst c5; rw [if_pos rfl]; exact if_neg hj
  · by_cases c6 : k = 117
    · subst c6; rw [if_neg (by decide), if_pos rfl]; exact if_neg hj
    · have c7 : k = 118 := by omega
      subst c7; rw [if_neg (by decide), if_neg (by decide), if_pos rfl]; exact if_neg hj
theorem tdS_at (τ : zSt) (i : Nat) (x1 x2 x3 : Int32) : (tdS τ i x1 x2 x3).2.2.1 116 i = x1 ∧ (tdS τ i x1 x2 x3).2.2.1 117 i = x2 ∧ (tdS τ i x1 x2 x3).2.2.1 118 i = x3 := ⟨if_pos rfl, if_pos rfl, if_pos rfl⟩
theorem tdS_fm (τ : zSt) (i : Nat) (x1 x2 x3 : Int32) : xFm τ (tdS τ i x1 x2 x3) := ⟨fun k hk => tdS_r _ _ _ _ _ _ (by omega), fun j hj => if_neg (fun e => hj (by rw [e]; decide)), fun _ _ _ => rfl, fun _ _ => rfl⟩
theorem tdS_y (τ : zSt) (i : Nat) (x1 x2 x3 : Int32) : yKp τ (tdS τ i x1 x2 x3) := ⟨by rw [tdS_r _ _ _ _ _ _ (by omega)], by rw [tdS_r _ _ _ _ _ _ (by omega)], rfl, rfl, by rw [tdS_r _ _ _ _ _ _ (by omega)], by rw [tdS_r _ _ _ _ _ _ (by omega)]⟩
/-- other fields do not matter -/
theorem rXa.i {k : Nat} {v : Int32} (w : rXa pp V N S P A τ c n h fr) (hk : k = 192 ∨ k = 194 ∨ k = 195 ∨ k = 163 ∨ k = 165) : rXa pp V N S P A (zI τ k v) c n h fr := by
  obtain ⟨F, ⟨a1, a2, a3, a4, a5⟩, b, y, ⟨d, d1, d2⟩, e1, e2, e3⟩ := w
  have ne : ∀ j, j ≠ k → (zI τ k v).1 j = τ.1 j := fun j hj => if_neg hj
  have K : ∀ nf nd, xKp c nf nd τ (zI τ k v) := fun _ _ => ⟨fun _ _ => ⟨rfl, rfl, rfl, rfl⟩, fun _ _ _ _ _ => rfl, fun _ _ _ _ _ => rfl⟩
  refine ⟨F.tr (xFm.i τ v (by rcases hk with rfl | rfl | rfl | rfl | rfl <;> decide)), ⟨(ne _ (by omega)).trans a1, (ne _ (by omega)).trans a2, (ne _ (by omega)).trans a3, (ne _ (by omega)).trans a4, (ne _ (by omega)).trans a5⟩, b.kp (K _ 0) (Nat.le_refl _), y.kp ⟨rfl, rfl, rfl, rfl, rfl, rfl⟩, ⟨d, (ne _ (by omega)).trans d1, rFk.kp (K 0 d) (Nat.le_refl _) fr d (Nat.le_refl _) d2⟩, (ne _ (by omega)).trans e1, (ne _ (by omega)).trans e2, (ne _ (by omega)).trans e3⟩
theorem rXa.j {v : Int64} (w : rXa pp V N S P A τ c n h fr) : rXa pp V N S P A (zJ τ 193 v) c n h fr := by
  obtain ⟨F, a, b, y, ⟨d, d1, d2⟩, e1, e2, e3⟩ := w
  have K : ∀ nf nd, xKp c nf nd τ (zJ τ 193 v) := fun _ _ => ⟨fun _ _ => ⟨rfl, rfl, rfl, rfl⟩, fun _ _ _ _ _ => rfl, fun _ _ _ _ _ => rfl⟩
  exact ⟨F.tr ⟨fun _ _ => rfl, fun _ _ => rfl, fun k h1 _ => if_neg h1, fun _ _ => rfl⟩, a, b.kp (K _ 0) (Nat.le_refl _), y.kp ⟨rfl, rfl, rfl, rfl, rfl, rfl⟩, ⟨d, d1, rFk.kp (K 0 d) (Nat.le_refl _) fr d (Nat.le_refl _) d2⟩, e1, e2, e3⟩
/-- is() and then() -/
theorem r_is {x1 : Int32} {x2 : Int64} : zF h0 qs ks T (n + 1) 128 [.ref h0, .int x1, .long x2] τ = some (none, zJ (zI τ 192 x1) 193 x2) := by
  rw [zE_is]
  rfl
theorem r_then {x1 x2 : Int32} : zF h0 qs ks T (n + 1) 131 [.ref h0, .int x1, .int x2] τ = some (some (.int 1), zI (zI τ 194 x1) 195 x2) := by
  rw [zE_then]
  rfl
end XRB
