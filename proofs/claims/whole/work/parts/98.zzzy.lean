/-! an E as it is read -/
/-- letters up to each word -/
def gW (kk : Nat → Int32) (g : Nat → Nat) : Prop := (∀ i, ¬ kk i = 0 → g i + 1 ≤ g (i + 1)) ∧ (∀ i, kk i = nI 212 ∨ kk i = nI 206 ∨ kk i = nI 219 → g i + 3 ≤ g (i + 1)) ∧ (∀ i, kk i = nI 208 ∨ kk i = nI 304 → g i + 2 ≤ g (i + 1))
def eRd (kk : Nat → Int32) (cnt : Nat) (g : Nat → Nat) (k : Nat) (F : Nat → aR tT) : Prop := ∀ i t j, F i = .inr (t, j) → i < j ∧ nz kk i j ∧ tWf kk cnt t 0 ∧ tH t ≤ k ∧ (∀ X, j ≤ i + 2 * X → tD t ≤ 7 * k + X) ∧ g i + 3 * (tW t).length + 1 ≤ g j
section ERD
variable {kk : Nat → Int32} {T cnt : Nat} {g : Nat → Nat}
theorem gW.ln (h : gW kk g) {i j : Nat} (hn : nz kk i j) (hij : i ≤ j) : g i + (j - i) ≤ g j := by
  obtain ⟨d, rfl⟩ : ∃ d, j = i + d := ⟨j - i, by omega⟩
  clear hij
  induction d with
  | zero => show g i + (i + 0 - i) ≤ g i; omega
  | succ d IH =>
    have := IH (hn.sub (Nat.le_refl _) (by omega))
    have := h.1 (i + d) (hn (i + d) (by omega) (by omega))
    have e : i + (d + 1) = i + d + 1 := by omega
    rw [e]
    omega
theorem gW.ms (h : gW kk g) {c i j : Nat} {u : Unit} (hm : aMs kk c i = .inr (u, j)) (hc : ¬ nI c = 0) : nz kk i j ∧ j = i + 1 ∧ g i + 1 ≤ g (i + 1) := by
  obtain ⟨z1, z2⟩ := nz.ms hm hc
  exact ⟨z1, z2, h.1 i (z1 i (Nat.le_refl _) (by omega))⟩
theorem gW.m2 (h : gW kk g) {c i j : Nat} {u : Unit} (hm : aMs kk c i = .inr (u, j)) (hc : c = 208 ∨ c = 304) : nz kk i j ∧ j = i + 1 ∧ g i + 2 ≤ g (i + 1) := by
  obtain ⟨z1, z2⟩ := nz.ms hm (by rcases hc with rfl | rfl <;> decide)
  have e := of_decide_eq_true (aMs_inr hm).1
  exact ⟨z1, z2, h.2.2 i (by rcases hc with rfl | rfl; exact Or.inl e; exact Or.inr e)⟩
theorem gW.is (h : gW kk g) {c i : Nat} (hm : aIs kk c i = true) (hc : ¬ nI c = 0) : nz kk i (i + 1) ∧ g i + 1 ≤ g (i + 1) := by
  have z := nz.one hm hc
  exact ⟨z, h.1 i (z i (Nat.le_refl _) (by omega))⟩
theorem gW.ck (h : gW kk g) {c i : Nat} (hm : kk i = nI c) (hc : ¬ nI c = 0) : nz kk i (i + 1) ∧ g i + 1 ≤ g (i + 1) := h.is (decide_eq_true hm) hc
theorem aA1_rd (hz : ∀ i, cnt ≤ i → kk i = 0) (hg : gW kk g) {k : Nat} {G : Nat → aR tT} (hG : eRd kk cnt g k G) {i j : Nat} {a : tT → tT} (hr : aAr kk i = true) (h : aA1 kk T G i = .inr (a, j)) : i < j ∧ nz kk i j ∧ ∃ n, g i + 3 * n ≤ g j ∧ ∀ r, (tWf kk cnt r 2 → tWf kk cnt (a r) 2) ∧ tH (a r) ≤ max k (tH r) ∧ (∀ X, j ≤ i + 2 * X → tD (a r) ≤ max (7 * k + X) (tD r) + 1) ∧ (tW (a r)).length = n + (tW r).length := by
  unfold aA1 at h
  split at h
  · rename_i c
    injection h with h; injection h with h3 h4; subst h3; subst h4
    obtain ⟨z1, z2⟩ := hg.is c (by decide)
    exact ⟨by omega, z1, 0, by omega, fun r => ⟨fun w => Or.inr (Or.inl ⟨rfl, rfl, w, Or.inr (Or.inr ⟨rfl, rfl, rfl, Nat.le_refl _⟩)⟩), by show max 0 (tH r) ≤ _; omega, fun X _ => by show max 0 (tD r) + 1 ≤ _; omega, by show ([] ++ tW r).length = _; rw [List.nil_append]; omega⟩⟩
  · split at h
    · rename_i c
      injection h with h; injection h with h3 h4; subst h3; subst h4
      obtain ⟨z1, z2⟩ := hg.is c (by decide)
      exact ⟨by omega, z1, 0, by omega, fun r => ⟨fun w => Or.inr (Or.inl ⟨rfl, rfl, w, Or.inr (Or.inr ⟨rfl, rfl, rfl, Nat.zero_le _⟩)⟩), by show max 0 (tH r) ≤ _; omega, fun X _ => by show max 0 (tD r) + 1 ≤ _; omega, by show ([] ++ tW r).length = _; rw [List.nil_append]; omega⟩⟩
    · split at h
      · rename_i c
        obtain ⟨z1, z2⟩ := hg.is c (by decide)
        split at h
        · obtain ⟨e, j1, h1, h⟩ := on_inr h
          obtain ⟨_, j2, h2, h⟩ := on_inr h
          injection h with h; injection h with h3 h4; subst h3; subst h4
          obtain ⟨y1, y2, y3⟩ := hg.ms h2 (by decide)
          subst y2
          obtain ⟨a1, a2, a3, a4, a5, a6⟩ := hG _ _ _ h1
          exact ⟨by omega, z1.ap (a2.ap y1), (tW e).length, by omega, fun r => ⟨fun w => Or.inr (Or.inl ⟨rfl, rfl, w, Or.inr (Or.inl ⟨rfl, rfl, a3⟩)⟩), by show max (tH e) (tH r) ≤ _; omega, fun X hX => by show max (tD e) (tD r) + 1 ≤ _; have := a5 X (by omega); omega, by show (tW e ++ tW r).length = _; rw [List.length_append]⟩⟩
        · obtain ⟨s, j1, h1, h⟩ := on_inr h
          obtain ⟨_, j2, h2, h⟩ := on_inr h
          injection h with h; injection h with h3 h4; subst h3; subst h4
          obtain ⟨y1, y2, y3⟩ := hg.ms h2 (by decide)
          subst y2
          obtain ⟨⟨a1, a2⟩, a3⟩ := aSm_ok hz h1
          have ga := hg.ln a2 (by omega)
          exact ⟨by omega, z1.ap (a2.ap y1), 0, by omega, fun r => ⟨fun w => Or.inr (Or.inl ⟨rfl, rfl, w, Or.inl ⟨rfl, a3, rfl⟩⟩), by show max 0 (tH r) ≤ _; omega, fun X _ => by show max 0 (tD r) + 1 ≤ _; omega, by show ([] ++ tW r).length = _; rw [List.nil_append]; omega⟩⟩
      · rename_i n1 n2 n3
        injection h with h; injection h with h3 h4; subst h3; subst h4
        have c12 : aIs kk 1 i = true ∨ aIs kk 2 i = true := by
          unfold aAr at hr
          simp only [Bool.or_eq_true] at hr
          rcases hr with (((c | c) | c) | c) | c
          · exact Or.inl c
          · exact Or.inr c
          · exact absurd c n3
          · exact absurd c n1
          · exact absurd c n2
        have zz : nz kk i (i + 1) ∧ g i + 1 ≤ g (i + 1) := by
          rcases c12 with c | c
          · exact hg.is c (by decide)
          · exact hg.is c (by decide)
        have lc := zz.1.lt hz (by omega)
        refine ⟨by omega, zz.1, 0, by omega, fun r => ⟨fun w => Or.inr (Or.inl ⟨rfl, rfl, w, Or.inl ⟨rfl, fun p hp => ?_, rfl⟩⟩), by show max 0 (tH r) ≤ _; omega, fun X _ => by show max 0 (tD r) + 1 ≤ _; omega, by show ([] ++ tW r).length = _; rw [List.nil_append]; omega⟩⟩
        have e : p = (if aIs kk 2 i = true then 0 else 1, false, i) := List.mem_singleton.mp hp
        rw [e]
        exact ⟨by show (if aIs kk 2 i = true then 0 else 1) < 100; split <;> omega, fun _ => by show i < cnt; omega⟩
theorem aAs_rd (hz : ∀ i, cnt ≤ i → kk i = 0) (hg : gW kk g) {k : Nat} {G : Nat → aR tT} (hG : eRd kk cnt g k G) : ∀ (q i : Nat) (t : tT) (j : Nat), aAs kk T G q i = .inr (t, j) → i ≤ j ∧ nz kk i j ∧ tWf kk cnt t 2 ∧ tH t ≤ k ∧ (∀ X, j ≤ i + 2 * X → tD t ≤ 7 * k + X + q) ∧ g i + 3 * (tW t).length ≤ g j
  | 0, i, t, j, h => by
    unfold aAs at h
    split at h
    · cases h
    · injection h with h; injection h with h3 h4; subst h3; subst h4
      exact ⟨Nat.le_refl _, nz.no, rfl, Nat.zero_le _, fun X _ => Nat.zero_le _, by show g i + 3 * 0 ≤ g i; omega⟩
  | q + 1, i, t, j, h => by
    unfold aAs at h
    split at h
    · rename_i c
      obtain ⟨a, j1, h1, h⟩ := on_inr h
      obtain ⟨as, j2, h2, h⟩ := on_inr h
      injection h with h; injection h with h3 h4; subst h3; subst h4
      obtain ⟨a1, a2, n, a3, a4⟩ := aA1_rd hz hg hG c h1
      obtain ⟨b1, b2, b3, b4, b5, b6⟩ := aAs_rd hz hg hG q j1 as j2 h2
      obtain ⟨r1, r2, r3, r4⟩ := a4 as
      exact ⟨by omega, a2.ap b2, r1 b3, by omega, fun X hX => by have := r3 X (by omega); have := b5 X (by omega); omega, by rw [r4]; omega⟩
    · injection h with h; injection h with h3 h4; subst h3; subst h4
      exact ⟨Nat.le_refl _, nz.no, rfl, Nat.zero_le _, fun X _ => Nat.zero_le _, by show g i + 3 * 0 ≤ g i; omega⟩
theorem two0 (a b : tT) (ha : a = tZ) (hb : b = tZ) : max (tH a) (tH b) + 1 = 1 := by rw [ha, hb]; rfl
theorem aOp_rd (hz : ∀ i, cnt ≤ i → kk i = 0) (hg : gW kk g) {k : Nat} {G : Nat → aR tT} (hG : eRd kk cnt g k G) : eRd kk cnt g (k + 1) (aOp kk T G) := fun i t j h => by
  unfold aOp at h
  split at h
  · rename_i c
    rw [Bool.and_eq_true] at c
    obtain ⟨s, j1, h1, h⟩ := on_inr h
    obtain ⟨_, j2, h2, h⟩ := on_inr h
    injection h with h; injection h with h3 h4; subst h3; subst h4
    obtain ⟨y1, y2, y3⟩ := hg.ms h2 (by decide)
    subst y2
    obtain ⟨z1, z2⟩ := hg.is c.1 (by decide)
    obtain ⟨x1, x2⟩ := hg.is c.2 (by decide)
    have x2 : g (i + 1) + 1 ≤ g (i + 2) := x2
    obtain ⟨⟨a1, a2⟩, a3⟩ := aSm_ok hz h1
    have ga := hg.ln a2 (by omega)
    have lc := z1.lt hz (by omega)
    exact ⟨by omega, z1.ap (x1.ap (a2.ap y1)), Or.inr (Or.inr ⟨rfl, Or.inr (Or.inr (Or.inr (Or.inr (Or.inr (Or.inr (Or.inr (Or.inr (Or.inr (Or.inl ⟨rfl, by show i < cnt; omega, a3⟩)))))))))⟩), by show max 0 0 + 1 ≤ k + 1; omega, fun X _ => by show max 0 0 + 1 ≤ _; omega, by show g i + 3 * 0 + 1 ≤ _; omega⟩
  · split at h
    · rename_i c
      rw [Bool.and_eq_true] at c
      obtain ⟨as, j1, h1, h⟩ := on_inr h
      injection h with h; injection h with h3 h4; subst h3; subst h4
      obtain ⟨z1, z2⟩ := hg.is c.1 (by decide)
      obtain ⟨b1, b2, b3, b4, b5, b6⟩ := aAs_rd hz hg hG 4 _ _ _ h1
      have lc := z1.lt hz (by omega)
      exact ⟨by omega, z1.ap b2, Or.inr (Or.inr ⟨rfl, Or.inr (Or.inr (Or.inr (Or.inr (Or.inr (Or.inr (Or.inr (Or.inr (Or.inr (Or.inr (Or.inl ⟨rfl, by show i < cnt; omega, b3⟩))))))))))⟩), by show max (tH as) 0 + 1 ≤ k + 1; omega, fun X hX => by show max (tD as) 0 + 1 ≤ _; have := b5 X (by omega); omega, by show g i + 3 * (tW as).length + 1 ≤ _; omega⟩
    · unfold aOq at h
      obtain ⟨s, j1, h1, h⟩ := on_inr h
      obtain ⟨⟨a1, a2⟩, a3⟩ := aSm_ok hz h1
      have ga := hg.ln a2 (by omega)
      have two : ∀ (c : Nat) (u : Nat), ¬ nI c = 0 → (u = 11 ∨ u = 12 ∨ u = 13) → aIs kk c j1 = true → ((aSm kk T (j1 + 1)).on fun s' j' => (.inr (tN u i j1 0 s s' tZ tZ, j') : aR tT)) = .inr (t, j) → i < j ∧ nz kk i j ∧ tWf kk cnt t 0 ∧ tH t ≤ k + 1 ∧ (∀ X, j ≤ i + 2 * X → tD t ≤ 7 * (k + 1) + X) ∧ g i + 3 * (tW t).length + 1 ≤ g j := fun c u hc hu c1 h => by
        obtain ⟨s', j2, h2, h⟩ := on_inr h
        injection h with h; injection h with h3 h4; subst h3; subst h4
        obtain ⟨⟨b1, b2⟩, b3⟩ := aSm_ok hz h2
        have gb := hg.ln b2 (by omega)
        obtain ⟨z1, z2⟩ := hg.is c1 hc
        refine ⟨by omega, a2.ap (z1.ap b2), Or.inr (Or.inr ⟨rfl, Or.inr (Or.inr (Or.inr (Or.inr (Or.inr (Or.inr (Or.inr (Or.inr (Or.inl ⟨hu, ⟨a3, b3⟩, rfl, rfl⟩))))))))⟩), ?_, fun X _ => ?_, ?_⟩
        · rcases hu with rfl | rfl | rfl <;> exact (show max 0 0 + 1 ≤ k + 1 by omega)
        · rcases hu with rfl | rfl | rfl <;> exact (show max 0 0 + 1 ≤ 7 * (k + 1) + X by omega)
        · rcases hu with rfl | rfl | rfl <;> exact (show g i + 3 * 0 + 1 ≤ g j2 by omega)
      split at h
      · exact two 42 11 (by decide) (by decide) (by assumption) h
      · split at h
        · exact two 47 12 (by decide) (by decide) (by assumption) h
        · split at h
          · exact two 37 13 (by decide) (by decide) (by assumption) h
          · injection h with h; injection h with h3 h4; subst h3; subst h4
            exact ⟨a1, a2, Or.inr (Or.inr ⟨rfl, Or.inr (Or.inr (Or.inr (Or.inr (Or.inr (Or.inr (Or.inl ⟨Or.inr rfl, a3, rfl, rfl, rfl⟩))))))⟩), by show max 0 0 + 1 ≤ k + 1; omega, fun X _ => by show max 0 0 + 1 ≤ _; omega, by show g i + 3 * 0 + 1 ≤ _; omega⟩
/-- the rest of a let -/
theorem aLt_rd (hg : gW kk g) {k : Nat} {G : Nat → aR tT} (hG : eRd kk cnt g k G) {mk : tT → tT → tT} {i j : Nat} {t : tT} (h : aLt kk G mk i = .inr (t, j)) : ∃ a b, t = mk a b ∧ kk i = nI 61 ∧ i < j ∧ nz kk i j ∧ (tWf kk cnt a 0 ∧ tWf kk cnt b 0) ∧ (tH a ≤ k ∧ tH b ≤ k) ∧ (∀ X, j ≤ i + 2 * X → tD a ≤ 7 * k + X ∧ tD b ≤ 7 * k + X) ∧ g i + 5 + 3 * ((tW a).length + (tW b).length) ≤ g j := by
  unfold aLt at h
  obtain ⟨_, i1, h1, h⟩ := on_inr h
  obtain ⟨a, i2, h2, h⟩ := on_inr h
  obtain ⟨_, i3, h3, h⟩ := on_inr h
  obtain ⟨b, i4, h4, h⟩ := on_inr h
  injection h with h
  injection h with h5 h6
  subst h5
  subst h6
  obtain ⟨y1, y2, y3⟩ := hg.ms h1 (by decide)
  obtain ⟨x1, x2, x3⟩ := hg.m2 h3 (Or.inl rfl)
  subst y2
  subst x2
  obtain ⟨a1, a2, a3, a4, a5, a6⟩ := hG _ _ _ h2
  obtain ⟨b1, b2, b3, b4, b5, b6⟩ := hG _ _ _ h4
  exact ⟨a, b, rfl, of_decide_eq_true (aMs_inr h1).1, by omega, y1.ap (a2.ap (x1.ap b2)), ⟨a3, b3⟩, ⟨a4, b4⟩, fun X hX => ⟨a5 X (by omega), b5 X (by omega)⟩, by omega⟩
theorem aPs_rd : ∀ (q i : Nat), aPs kk q i ≤ q ∧ (∀ w, w < aPs kk q i → aIs kk 1 (i + w) = true)
  | 0, i => ⟨Nat.le_refl _, fun w h => by unfold aPs at h; omega⟩
  | q + 1, i => by
    unfold aPs
    split
    · rename_i c
      obtain ⟨h1, h2⟩ := aPs_rd q (i + 1)
      refine ⟨by omega, fun w hw => ?_⟩
      cases w with
      | zero => exact c
      | succ w =>
        have := h2 w (by omega)
        rw [show i + (w + 1) = i + 1 + w by omega]
        exact this
    · exact ⟨Nat.zero_le _, fun w h => by omega⟩
end ERD
