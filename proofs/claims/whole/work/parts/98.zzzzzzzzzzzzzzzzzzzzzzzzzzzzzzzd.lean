/-! run(), the class: how the heap's meaning grows -/
section HHG
variable {nb : tT → List Nat → Nat → Prop} {G : hG} {top top' : Nat} {hp hp' : Nat → Int64} {h : xmHp}
theorem hAr_lt (H : hHp nb G top hp h) {x : Nat} (q : hAr G.2.1 h.2.1 x) : x < top := by
  obtain ⟨i, y, b, e1, e2, -, q2⟩ := q
  have := (H.2.2.1 i y b e1 e2).1.2
  omega
/-- nothing new -/
theorem hHp.up (H : hHp nb G top hp h) (ht : top ≤ top') (hk : ∀ i, i < top → hp' i = hp i) : hHp nb G top' hp' h := by
  have K : hKp (hAr G.2.1 h.2.1) (hAr G.2.1 h.2.1) top top' hp hp' := fun a ha => ⟨⟨ha.1, by have := ha.2.1; omega, ha.2.2⟩, hk a ha.2.1⟩
  obtain ⟨⟨a1, a2, a3, a4, a5⟩, b, c, d, e⟩ := H
  refine ⟨⟨a1, a2, a3, by omega, a5⟩, fun i fn a e1 e2 => ?_, fun i y a e1 e2 => ?_, d, fun i l a e1 e2 => ?_⟩
  · obtain ⟨⟨p1, p2, p3⟩, p4, ⟨s, p5, p6⟩, p7⟩ := b i fn a e1 e2
    exact ⟨⟨(K _ p1).1, (K _ p2).1, (K _ p3).1⟩, ⟨p4.choose, (K _ p1).2.trans p4.choose_spec.1, p4.choose_spec.2⟩, ⟨s, (K _ p2).2.trans p5, p6.kp (hGe.rf _) K⟩, (K _ p3).2.trans p7⟩
  · obtain ⟨⟨p1, p2⟩, p3, p4⟩ := c i y a e1 e2
    exact ⟨⟨(K _ p1).1, by omega⟩, (K _ p1).2.trans p3, fun k x ex => by rw [hk _ (by have := xget_lt ex; omega)]; exact p4 k x ex⟩
  · obtain ⟨⟨p1, p2, p3⟩, p4, p5, p6⟩ := e i l a e1 e2
    exact ⟨⟨(K _ p1).1, (K _ p2).1, (K _ p3).1⟩, (K _ p1).2.trans p4, by rw [(K _ p2).2]; exact p5, (K _ p3).2.trans p6⟩
theorem ap_last {α : Type} {l : List α} {x y : α} {i : Nat} (h : (l ++ [x])[i]? = some y) : l[i]? = some y ∨ (i = l.length ∧ y = x) := by
  by_cases c : i < l.length
  · rw [List.getElem?_append_left c] at h
    exact Or.inl h
  · rw [List.getElem?_append_right (by omega)] at h
    have hi := xget_lt h
    have hi : i - l.length < 1 := hi
    rw [show i - l.length = 0 by omega] at h
    injection h with h
    exact Or.inr ⟨by omega, h.symm⟩
/-- one function more -/
theorem hHp.fn (H : hHp nb G top hp h) {fn : xmFn} {a s : Nat} (ha : top ≤ a) (ht : a + 3 ≤ top') (hk : ∀ i, i < top → hp' i = hp i) (p4 : ∃ u, hp' a = xmNi u ∧ nb fn.1 fn.2.1 u) (p5 : hp' (a + 1) = xmNi s) (p6 : hSc (G.1 ++ [a], G.2) (hAr G.2.1 h.2.1) top' hp' (fn.2.2.1 ++ fn.2.2.2).reverse s) (p7 : hp' (a + 2) = xmNi fn.2.2.2.length) (hl : h.1.length + h.2.1.length + h.2.2.length + 1 < 2 ^ 31) : hHp nb (G.1 ++ [a], G.2) top' hp' (xmNf h fn) := by
  have L := @hAr_lt nb G top hp h H
  have H' := H.up (top' := top') (by omega) hk
  have g : hGe G (G.1 ++ [a], G.2) := ⟨⟨[a], rfl⟩, ⟨[], by rw [List.append_nil]⟩, ⟨[], by rw [List.append_nil]⟩⟩
  have K : hKp (hAr G.2.1 h.2.1) (hAr G.2.1 h.2.1) top' top' hp' hp' := fun a ha => ⟨ha, rfl⟩
  have N : ∀ x, a ≤ x → x < a + 3 → hC (hAr G.2.1 h.2.1) top' x := fun x h1 h2 => ⟨by have := H.1.2.2.2.1; omega, by omega, fun w => by have := L w; omega⟩
  obtain ⟨⟨a1, a2, a3, a4, a5⟩, b, c, d, e⟩ := H'
  refine ⟨⟨by show (G.1 ++ [a]).length = (h.1 ++ [fn]).length; rw [List.length_append, List.length_append, a1]; rfl, a2, a3, a4, by show (h.1 ++ [fn]).length + _ + _ < _; rw [List.length_append]; show h.1.length + 1 + h.2.1.length + h.2.2.length < _; omega⟩, fun i fn' a' e1 e2 => ?_, c, d, fun i l a' e1 e2 => ?_⟩
  · have e1 : (h.1 ++ [fn])[i]? = some fn' := e1
    have e2 : (G.1 ++ [a])[i]? = some a' := e2
    rcases ap_last e1 with q1 | ⟨q1, q1'⟩
    · rcases ap_last e2 with q2 | ⟨q2, -⟩
      · obtain ⟨c1, c2, ⟨s', c3, c4⟩, c5⟩ := b i fn' a' q1 q2
        exact ⟨c1, c2, ⟨s', c3, c4.kp g K⟩, c5⟩
      · have := xget_lt q1; omega
    · rcases ap_last e2 with q2 | ⟨q2, q2'⟩
      · have := xget_lt q2; omega
      · subst q1' q2'
        exact ⟨⟨N _ (by omega) (by omega), N _ (by omega) (by omega), N _ (by omega) (by omega)⟩, p4, ⟨s, p5, p6⟩, p7⟩
  · obtain ⟨c1, c2, c3, c4⟩ := e i l a' e1 e2
    exact ⟨c1, c2, c3.mo g, c4⟩
/-- one list more -/
theorem hHp.li (H : hHp nb G top hp h) {c : Int64 × Int64 × Nat} {a : Nat} (ha : top ≤ a) (ht : a + 3 ≤ top') (hk : ∀ i, i < top → hp' i = hp i) (p4 : hp' a = c.1) (p5 : hV G (4, c.2.1) (hp' (a + 1))) (p7 : hp' (a + 2) = xmNi c.2.2) (hl : h.1.length + h.2.1.length + h.2.2.length + 1 < 2 ^ 31) : hHp nb (G.1, G.2.1, G.2.2 ++ [a]) top' hp' (h.1, h.2.1, h.2.2 ++ [c]) := by
  have L := @hAr_lt nb G top hp h H
  have H' := H.up (top' := top') (by omega) hk
  have g : hGe G (G.1, G.2.1, G.2.2 ++ [a]) := ⟨⟨[], by rw [List.append_nil]⟩, ⟨[], by rw [List.append_nil]⟩, ⟨[a], rfl⟩⟩
  have K : hKp (hAr G.2.1 h.2.1) (hAr G.2.1 h.2.1) top' top' hp' hp' := fun a ha => ⟨ha, rfl⟩
  have N : ∀ x, a ≤ x → x < a + 3 → hC (hAr G.2.1 h.2.1) top' x := fun x h1 h2 => ⟨by have := H.1.2.2.2.1; omega, by omega, fun w => by have := L w; omega⟩
  obtain ⟨⟨a1, a2, a3, a4, a5⟩, b, cc, d, e⟩ := H'
  refine ⟨⟨a1, a2, by show (G.2.2 ++ [a]).length = (h.2.2 ++ [c]).length; rw [List.length_append, List.length_append, a3]; rfl, a4, by show _ + _ + (h.2.2 ++ [c]).length < _; rw [List.length_append]; show h.1.length + h.2.1.length + (h.2.2.length + 1) < _; omega⟩, fun i fn' a' e1 e2 => ?_, cc, d, fun i l a' e1 e2 => ?_⟩
  · obtain ⟨c1, c2, ⟨s', c3, c4⟩, c5⟩ := b i fn' a' e1 e2
    exact ⟨c1, c2, ⟨s', c3, c4.kp g K⟩, c5⟩
  · have e1 : (h.2.2 ++ [c])[i]? = some l := e1
    have e2 : (G.2.2 ++ [a])[i]? = some a' := e2
    rcases ap_last e1 with q1 | ⟨q1, q1'⟩
    · rcases ap_last e2 with q2 | ⟨q2, -⟩
      · obtain ⟨c1, c2, c3, c4⟩ := e i l a' q1 q2
        exact ⟨c1, c2, c3.mo g, c4⟩
      · have := xget_lt q1; omega
    · rcases ap_last e2 with q2 | ⟨q2, q2'⟩
      · have := xget_lt q2; omega
      · subst q1' q2'
        exact ⟨⟨N _ (by omega) (by omega), N _ (by omega) (by omega), N _ (by omega) (by omega)⟩, p4, p5.mo g, p7⟩
theorem hAr_ap {YA : List Nat} {ys : List (List Int64)} {y : List Int64} {a x : Nat} (e : YA.length = ys.length) : hAr (YA ++ [a]) (ys ++ [y]) x ↔ hAr YA ys x ∨ (a < x ∧ x ≤ a + y.length) := by
  constructor
  · rintro ⟨i, z, b, e1, e2, q1, q2⟩
    rcases ap_last e1 with r1 | ⟨r1, r1'⟩
    · rcases ap_last e2 with r2 | ⟨r2, -⟩
      · exact Or.inl ⟨i, z, b, r1, r2, q1, q2⟩
      · have := xget_lt r1; omega
    · rcases ap_last e2 with r2 | ⟨r2, r2'⟩
      · have := xget_lt r2; omega
      · subst r1' r2'; exact Or.inr ⟨q1, q2⟩
  · rintro (⟨i, z, b, e1, e2, q1, q2⟩ | ⟨q1, q2⟩)
    · exact ⟨i, z, b, by rw [List.getElem?_append_left (xget_lt e1)]; exact e1, ap_get e2, q1, q2⟩
    · exact ⟨ys.length, y, a, by rw [List.getElem?_append_right (Nat.le_refl _), Nat.sub_self]; rfl, by rw [← e, List.getElem?_append_right (Nat.le_refl _), Nat.sub_self]; rfl, q1, q2⟩
/-- one array more -/
theorem hHp.ar (H : hHp nb G top hp h) {y : List Int64} {a : Nat} (ha : top ≤ a) (ht : a + y.length < top') (hk : ∀ i, i < top → hp' i = hp i) (p3 : hp' a = xmNi y.length) (p4 : ∀ (k : Nat) (x : Int64), y[k]? = some x → hp' (a + 1 + k) = x) (hl : h.1.length + h.2.1.length + h.2.2.length + 1 < 2 ^ 31) : hHp nb (G.1, G.2.1 ++ [a], G.2.2) top' hp' (h.1, h.2.1 ++ [y], h.2.2) := by
  have L := @hAr_lt nb G top hp h H
  have g : hGe G (G.1, G.2.1 ++ [a], G.2.2) := ⟨⟨[], by rw [List.append_nil]⟩, ⟨[a], rfl⟩, ⟨[], by rw [List.append_nil]⟩⟩
  have EA : ∀ x, hAr (G.2.1 ++ [a]) (h.2.1 ++ [y]) x ↔ hAr G.2.1 h.2.1 x ∨ (a < x ∧ x ≤ a + y.length) := fun x => hAr_ap H.1.2.1
  have K : hKp (hAr G.2.1 h.2.1) (hAr (G.2.1 ++ [a]) (h.2.1 ++ [y])) top top' hp hp' := fun x hx => ⟨⟨hx.1, by have := hx.2.1; omega, fun w => by
    rcases (EA x).mp w with q | q
    · exact hx.2.2 q
    · have := hx.2.1; omega⟩, hk x hx.2.1⟩
  obtain ⟨⟨a1, a2, a3, a4, a5⟩, b, c, d, e⟩ := H
  refine ⟨⟨a1, by show (G.2.1 ++ [a]).length = (h.2.1 ++ [y]).length; rw [List.length_append, List.length_append, a2]; rfl, a3, by omega, by show _ + (h.2.1 ++ [y]).length + _ < _; rw [List.length_append]; show h.1.length + (h.2.1.length + 1) + h.2.2.length < _; omega⟩, fun i fn a' e1 e2 => ?_, fun i z a' e1 e2 => ?_, fun i j z a' b' hij e1 e2 e3 => ?_, fun i l a' e1 e2 => ?_⟩
  · obtain ⟨⟨q1, q2, q3⟩, q4, ⟨s, q5, q6⟩, q7⟩ := b i fn a' e1 e2
    exact ⟨⟨(K _ q1).1, (K _ q2).1, (K _ q3).1⟩, ⟨q4.choose, (K _ q1).2.trans q4.choose_spec.1, q4.choose_spec.2⟩, ⟨s, (K _ q2).2.trans q5, q6.kp g K⟩, (K _ q3).2.trans q7⟩
  · have e1 : (h.2.1 ++ [y])[i]? = some z := e1
    have e2 : (G.2.1 ++ [a])[i]? = some a' := e2
    rcases ap_last e1 with q1 | ⟨q1, q1'⟩
    · rcases ap_last e2 with q2 | ⟨q2, -⟩
      · obtain ⟨⟨c1, c2⟩, c3, c4⟩ := c i z a' q1 q2
        exact ⟨⟨(K _ c1).1, by omega⟩, (K _ c1).2.trans c3, fun k x ex => by rw [hk _ (by have := xget_lt ex; omega)]; exact c4 k x ex⟩
      · have := xget_lt q1; omega
    · rcases ap_last e2 with q2 | ⟨q2, q2'⟩
      · have := xget_lt q2; omega
      · subst q1' q2'
        refine ⟨⟨⟨by omega, by omega, fun w => ?_⟩, ht⟩, p3, p4⟩
        rcases (EA _).mp w with q | q
        · have := L q; omega
        · omega
  · have e1 : (h.2.1 ++ [y])[i]? = some z := e1
    have e2 : (G.2.1 ++ [a])[i]? = some a' := e2
    have e3 : (G.2.1 ++ [a])[j]? = some b' := e3
    have hj := xget_lt e3
    rw [List.length_append] at hj
    have hj : j < G.2.1.length + 1 := hj
    rcases ap_last e2 with q2 | ⟨q2, -⟩
    · rcases ap_last e1 with q1 | ⟨q1, -⟩
      · rcases ap_last e3 with q3 | ⟨q3, q3'⟩
        · exact d i j z a' b' hij q1 q2 q3
        · subst q3'
          have := (c i z a' q1 q2).1.2
          omega
      · have := xget_lt q2; omega
    · omega
  · obtain ⟨⟨q1, q2, q3⟩, q4, q5, q6⟩ := e i l a' e1 e2
    exact ⟨⟨(K _ q1).1, (K _ q2).1, (K _ q3).1⟩, (K _ q1).2.trans q4, by rw [(K _ q2).2]; exact q5.mo g, (K _ q3).2.trans q6⟩
end HHG
