/-! S, C and E as they are read: what the typers want of them -/
section CIN2
variable {kk : Nat → Int32} {T : Nat}
theorem aC_ind {P R : Nat → tT → Nat → Prop}
    (hn : ∀ i c j, kk i = nI 217 → P (i + 1) c j → P i (tN 22 i 0 0 s0 s0 c tZ) j)
    (hp : ∀ i c j, kk i = nI 40 → P (i + 1) c j → kk j = nI 41 → P i c (j + 1))
    (ht : ∀ i v, (kk i = nI 223 ∧ v = 1) ∨ (kk i = nI 205 ∧ v = 0) → P i (tN 23 i v 0 s0 s0 tZ tZ) (i + 1))
    (hm : ∀ i S j, aSm kk T i = .inr (S, j) → S.2 = [(1, false, i)] → P i (tN 24 i 0 0 s0 s0 tZ tZ) j)
    (hc : ∀ i S l S' j, aRl kk l < 6 → aSm kk T i = .inr (S, l) → aSm kk T (l + 1) = .inr (S', j) → P i (tN 25 i l (aRl kk l) S S' tZ tZ) j)
    (r0 : ∀ i, R i tZ i)
    (r1 : ∀ g i c l cs j, (g = 302 ∨ g = 303) → kk i = nI g → P (i + 1) c l → R l cs j → R i (tN 30 0 0 0 s0 s0 c cs) j)
    (mk : ∀ g i c l cs j, (g = 20 ∨ g = 21) → P i c l → R l cs j → P i (tMk g c cs) j) :
    ∀ k, (∀ i t j, aSi kk T k i = .inr (t, j) → P i t j) ∧ ∀ i t j, aEi kk T (aSi kk T k) i = .inr (t, j) → P i t j := by
  have lst : ∀ (g : Nat) (F : Nat → aR tT), (g = 302 ∨ g = 303) → (∀ i t j, F i = .inr (t, j) → P i t j) → ∀ n i t j, aCL kk g F n i = .inr (t, j) → R i t j := fun g F hg hF n => by
    induction n with
    | zero => intro i t j h; unfold aCL at h; cases h
    | succ n IH =>
      intro i t j h
      unfold aCL at h
      split at h
      · rename_i c
        obtain ⟨c1, l, e1, h⟩ := on_inr h
        obtain ⟨cs, l2, e2, h⟩ := on_inr h
        injection h with h; injection h with e3 e4; subst e3; subst e4
        exact r1 g i c1 l cs l2 hg (aIs_t c) (hF _ _ _ e1) (IH _ _ _ e2)
      · injection h with h; injection h with e3 e4; subst e3; subst e4
        exact r0 i
  have bo : ∀ (F : Nat → aR tT), (∀ i t j, F i = .inr (t, j) → P i t j) → ∀ i t j, aBo kk T F i = .inr (t, j) → P i t j := fun F hF i t j h => by
    unfold aBo at h
    obtain ⟨c, l, e1, h⟩ := on_inr h
    obtain ⟨cs, l2, e2, h⟩ := on_inr h
    injection h with h; injection h with e3 e4; subst e3; subst e4
    exact mk 21 i c l cs l2 (Or.inr rfl) (hF _ _ _ e1) (lst 302 F (Or.inl rfl) hF _ _ _ _ e2)
  have ei : ∀ (F : Nat → aR tT), (∀ i t j, F i = .inr (t, j) → P i t j) → ∀ i t j, aEi kk T F i = .inr (t, j) → P i t j := fun F hF i t j h => by
    unfold aEi at h
    obtain ⟨c, l, e1, h⟩ := on_inr h
    obtain ⟨cs, l2, e2, h⟩ := on_inr h
    injection h with h; injection h with e3 e4; subst e3; subst e4
    exact mk 20 i c l cs l2 (Or.inl rfl) (bo F hF _ _ _ e1) (lst 303 (aBo kk T F) (Or.inr rfl) (bo F hF) _ _ _ _ e2)
  intro k
  induction k with
  | zero => exact ⟨fun i t j h => (by unfold aSi at h; cases h), ei _ (fun i t j h => (by unfold aSi at h; cases h))⟩
  | succ k IH =>
    have si : ∀ i t j, aSi kk T (k + 1) i = .inr (t, j) → P i t j := fun i t j h => by
      unfold aSi at h
      split at h
      · rename_i c
        obtain ⟨c1, l, e1, h⟩ := on_inr h
        injection h with h; injection h with e3 e4; subst e3; subst e4
        exact hn i c1 l (aIs_t c) (IH.1 _ _ _ e1)
      · split at h
        · rename_i c
          obtain ⟨c1, l, e1, h⟩ := on_inr h
          obtain ⟨_, l2, e2, h⟩ := on_inr h
          injection h with h; injection h with e3 e4; subst e3; subst e4
          obtain ⟨w, rfl⟩ := aMs_k e2
          exact hp i c1 l (aIs_t c) (IH.2 _ _ _ e1) w
        · split at h
          · rename_i c
            injection h with h; injection h with e3 e4; subst e3; subst e4
            exact ht i 1 (Or.inl ⟨aIs_t c, rfl⟩)
          · split at h
            · rename_i c
              injection h with h; injection h with e3 e4; subst e3; subst e4
              exact ht i 0 (Or.inr ⟨aIs_t c, rfl⟩)
            · unfold aCm at h
              obtain ⟨S, l, e1, h⟩ := on_inr h
              split at h
              · rename_i c
                obtain ⟨S', l2, e2, h⟩ := on_inr h
                injection h with h; injection h with e3 e4; subst e3; subst e4
                exact hc i S l S' l2 c e1 e2
              · split at h
                · rename_i c
                  injection h with h; injection h with e3 e4; subst e3; subst e4
                  exact hm i S l e1 c
                · cases h
    exact ⟨si, ei _ si⟩
theorem aPt_fx {g : Bool} {i j : Nat} {p : tP} (h : aPt kk g i = .inr (p, j)) : p.1 ≤ 3 ∧ (i ≤ p.2.2 ∧ p.2.2 < j) ∧ p.2.1 = g ∧ (p.1 = 1 ↔ kk i = nI 1) := by
  unfold aPt at h
  split at h
  · rename_i c
    obtain ⟨_, l, e1, h⟩ := on_inr h
    injection h with h; injection h with e3 e4; subst e3; subst e4
    obtain ⟨w, rfl⟩ := aMs_k e1
    refine ⟨by show 2 ≤ 3; omega, ⟨by show i ≤ i + 1; omega, by show i + 1 < i + 1 + 1; omega⟩, rfl, ⟨fun z => absurd z (by show ¬ 2 = 1; decide), fun z => ?_⟩⟩
    rw [aIs_t c] at z
    exact absurd z (by decide)
  · split at h
    · rename_i c
      obtain ⟨_, l, e1, h⟩ := on_inr h
      injection h with h; injection h with e3 e4; subst e3; subst e4
      obtain ⟨w, rfl⟩ := aMs_k e1
      refine ⟨by show 3 ≤ 3; omega, ⟨by show i ≤ i + 1; omega, by show i + 1 < i + 1 + 1; omega⟩, rfl, ⟨fun z => absurd z (by show ¬ 3 = 1; decide), fun z => ?_⟩⟩
      rw [aIs_t c] at z
      exact absurd z (by decide)
    · split at h
      · rename_i c
        injection h with h; injection h with e3 e4; subst e3; subst e4
        refine ⟨by show 0 ≤ 3; omega, ⟨by show i ≤ i; omega, by show i < i + 1; omega⟩, rfl, ⟨fun z => absurd z (by show ¬ 0 = 1; decide), fun z => ?_⟩⟩
        rw [aIs_t c] at z
        exact absurd z (by decide)
      · obtain ⟨_, l, e1, h⟩ := on_inr h
        injection h with h; injection h with e3 e4; subst e3; subst e4
        obtain ⟨w, rfl⟩ := aMs_k e1
        exact ⟨by show 1 ≤ 3; omega, ⟨by show i ≤ i; omega, by show i < i + 1; omega⟩, rfl, ⟨fun _ => w, fun _ => rfl⟩⟩
theorem aSL_fx : ∀ (t i : Nat) {ps : List tP} {j : Nat}, aSL kk t i = .inr (ps, j) → i + 2 * ps.length ≤ j ∧ ∀ p ∈ ps, p.1 ≤ 3 ∧ i ≤ p.2.2 ∧ p.2.2 < j
  | 0, i, ps, j, h => by unfold aSL at h; cases h
  | t + 1, i, ps, j, h => by
    unfold aSL at h
    split at h
    · obtain ⟨p, l, e1, h⟩ := on_inr h
      obtain ⟨ps', l2, e2, h⟩ := on_inr h
      injection h with h; injection h with e3 e4; subst e3; subst e4
      obtain ⟨a1, a2, a3, a4⟩ := aPt_fx e1
      obtain ⟨b1, b2⟩ := aSL_fx t l e2
      refine ⟨by rw [List.length_cons]; omega, fun q hq => ?_⟩
      rcases List.mem_cons.mp hq with e | e
      · rw [e]; exact ⟨a1, by omega, by omega⟩
      · have := b2 q e; exact ⟨this.1, by omega, by omega⟩
    · injection h with h; injection h with e3 e4; subst e3; subst e4
      exact ⟨by show i + 2 * 0 ≤ i; omega, fun p hp => by cases hp⟩
theorem aSm_fx {i j : Nat} {S : tS} (h : aSm kk T i = .inr (S, j)) : (S.1 = i ∧ i < j) ∧ pO3 S.2 ∧ (tAl kk S = 1 ↔ isN S.2 = true) ∧ (sEv S.2).length ≤ j - i ∧ (∀ p ∈ S.2, i ≤ p.2.2 ∧ p.2.2 < j) ∧ 2 * S.2.length ≤ j - i + 1 := by
  have ev := (aSm_ev h).len
  have s1 := aSm_1 h
  unfold aSm at h
  obtain ⟨p, l, e1, h⟩ := on_inr h
  obtain ⟨ps, l2, e2, h⟩ := on_inr h
  injection h with h; injection h with e3 e4; subst e3; subst e4
  obtain ⟨a1, a2, a3, a4⟩ := aPt_fx e1
  obtain ⟨b1, b2⟩ := aSL_fx T l e2
  have hi : i ≤ (if aIs kk 45 i = true then i + 1 else i) := by split <;> omega
  refine ⟨s1, fun q hq => ?_, ?_, ev, fun q hq => ?_, by rw [List.length_cons]; omega⟩
  · rcases List.mem_cons.mp hq with e | e
    · rw [e]; exact a1
    · exact (b2 q e).1
  · show tAl kk (i, p :: ps) = 1 ↔ isN (p :: ps) = true
    unfold tAl isN
    rw [decide_eq_true_iff]
    show (if aIs kk 45 i = true then (0 : Int32) else if (p :: ps).length = 1 then kk i else 0) = 1 ↔ (p :: ps).length = 1 ∧ p.1 = 1 ∧ p.2.1 = false
    cases c : aIs kk 45 i with
    | true =>
      rw [c] at a3
      rw [if_pos rfl]
      exact ⟨fun z => absurd z (by decide), fun z => absurd (a3.symm.trans z.2.2) (by decide)⟩
    | false =>
      rw [c] at a3 a4
      rw [if_neg (by decide)] at a4
      rw [if_neg (by decide)]
      by_cases cl : (p :: ps).length = 1
      · rw [if_pos cl]
        exact ⟨fun z => ⟨cl, a4.mpr z, a3⟩, fun z => a4.mp z.2.1⟩
      · rw [if_neg cl]
        exact ⟨fun z => absurd z (by decide), fun z => absurd z.1 cl⟩
  · rcases List.mem_cons.mp hq with e | e
    · rw [e]; omega
    · have := (b2 q e).2; omega
theorem aC_o3 (k i : Nat) (t : tT) (j : Nat) (h : aEi kk T (aSi kk T k) i = .inr (t, j)) : tO3 t := by
  refine (aC_ind (P := fun _ t _ => tO3 t) (R := fun _ t _ => tO3 t) ?_ ?_ ?_ ?_ ?_ ?_ ?_ ?_ k).2 i t j h
  · exact fun i c j _ h => ⟨(fun p hp => (by cases hp)), (fun p hp => (by cases hp)), h, trivial⟩
  · exact fun i c j _ h _ => h
  · exact fun i v _ => ⟨(fun p hp => (by cases hp)), (fun p hp => (by cases hp)), trivial, trivial⟩
  · exact fun i S j _ _ => ⟨(fun p hp => (by cases hp)), (fun p hp => (by cases hp)), trivial, trivial⟩
  · exact fun i S l S' j _ h1 h2 => ⟨(aSm_fx h1).2.1, (aSm_fx h2).2.1, trivial, trivial⟩
  · exact fun _ => trivial
  · exact fun g i c l cs j _ _ h1 h2 => ⟨(fun p hp => (by cases hp)), (fun p hp => (by cases hp)), h1, h2⟩
  · exact fun g i c l cs j _ h1 h2 => by
      cases cs with
      | leaf => exact h1
      | inner => exact ⟨(fun p hp => (by cases hp)), (fun p hp => (by cases hp)), h1, h2⟩
/-- && and || in all its C's -/
def tKs : tT → Nat
  | .leaf => 0
  | .inner g _ _ a b => (if g = 4 ∨ g = 5 then kN a else tKs a) + tKs b
theorem sEv0 : (sEv s0.2).length = 0 := rfl
set_option maxHeartbeats 1000000 in
theorem aE_fx {cnt : Nat} {pp : Nat → Int32} (hz : ∀ i, cnt ≤ i → kk i = 0) (hpp : ∀ a b, a < b → b < cnt → pp a ≠ pp b) (k i : Nat) (t : tT) (j : Nat) (h : aE kk T k i = .inr (t, j)) : i < j ∧ (j ≤ cnt → tO3 t ∧ tSn kk t ∧ tA3 pp t) ∧ tC t ≤ 4 * (j - i) ∧ tDr t ≤ 4 * k + tKs t ∧ 5 * (tA t + tKs t) ≤ 4 * (j - i) := by
  have z0 : pO3 s0.2 := fun p hp => by cases hp
  refine aE_ind (P := fun k i t j => i < j ∧ (j ≤ cnt → tO3 t ∧ tSn kk t ∧ tA3 pp t) ∧ tC t ≤ 4 * (j - i) ∧ tDr t ≤ 4 * k + tKs t ∧ 5 * (tA t + tKs t) ≤ 4 * (j - i)) (Q := fun k q i t j => i ≤ j ∧ (j ≤ cnt → tO3 t ∧ tSn kk t ∧ tA3 pp t) ∧ tQn t ≤ q ∧ tC t + 3 * tQn t ≤ 5 * tQn t + 4 * (j - i) - 4 * tQn t ∧ tQn t ≤ j - i ∧ tDr t ≤ 4 * k + tKs t ∧ 5 * (tA t + tKs t) + 4 * tQn t ≤ 4 * (j - i)) ?_ ?_ ?_ ?_ ?_ ?_ ?_ ?_ ?_ ?_ ?_ ?_ ?_ ?_ ?_ ?_ ?_ ?_ ?_ ?_ k i t j h
  · rintro k i a l b j - - ⟨a0, a1, a2, a3, a4⟩ - ⟨b0, b1, b2, b3, b4⟩
    refine ⟨by omega, fun hj => ?_, ?_, ?_, ?_⟩
    · obtain ⟨c1, c2, c3⟩ := a1 (by omega)
      obtain ⟨d1, d2, d3⟩ := b1 hj
      exact ⟨⟨z0, z0, c1, d1⟩, ⟨fun z => absurd z (by decide), c2, d2⟩, ⟨fun z => absurd z (by decide), fun z => absurd z (by decide), c3, d3⟩⟩
    · show tC a + tC b ≤ _; omega
    · show max (tDr a) (tDr b) + 3 ≤ 4 * (k + 1) + (tKs a + tKs b); omega
    · show 5 * (0 + tA a + tA b + (tKs a + tKs b)) ≤ _; omega
  · rintro k i q a l b j - - - q1 q4 - ⟨a0, a1, a2, a3, a4⟩ - ⟨b0, b1, b2, b3, b4⟩
    refine ⟨by omega, fun hj => ?_, ?_, ?_, ?_⟩
    · obtain ⟨c1, c2, c3⟩ := a1 (by omega)
      obtain ⟨d1, d2, d3⟩ := b1 hj
      exact ⟨⟨z0, z0, c1, d1⟩, ⟨fun z => absurd z (by decide), c2, d2⟩, ⟨fun z => absurd z (by decide), fun z => absurd z (by decide), c3, d3⟩⟩
    · show 2 * q + 1 + tC a + tC b ≤ _; omega
    · show max (tDr a) (tDr b) + 3 ≤ 4 * (k + 1) + (tKs a + tKs b); omega
    · show 5 * (q + tA a + tA b + (tKs a + tKs b)) ≤ _; omega
  · rintro k i a j - - - ⟨a0, a1, a2, a3, a4⟩
    refine ⟨by omega, fun hj => ?_, ?_, ?_, ?_⟩
    · obtain ⟨c1, c2, c3⟩ := a1 (by omega)
      exact ⟨⟨z0, z0, c1, trivial⟩, ⟨fun z => absurd z (by decide), c2, trivial⟩, ⟨fun z => absurd z (by decide), fun z => absurd z (by decide), c3, trivial⟩⟩
    · show 2 + tC a + 0 ≤ _; omega
    · show max (tDr a) 0 + 3 ≤ 4 * (k + 1) + (tKs a + 0); omega
    · show 5 * (1 + tA a + 0 + (tKs a + 0)) ≤ _; omega
  · rintro k i c l a m b j - hc - ⟨a0, a1, a2, a3, a4⟩ - ⟨b0, b1, b2, b3, b4⟩
    obtain ⟨e0, e1, e2, e3, e4⟩ := aEi_rd (aSi_rd hz (k + 1)) _ _ _ hc
    have ev := (aEi_ev (aSi_ev (k + 1)) _ _ _ hc).len
    have o3 := aC_o3 _ _ _ _ hc
    refine ⟨by omega, fun hj => ?_, ?_, ?_, ?_⟩
    · obtain ⟨c1, c2, c3⟩ := a1 (by omega)
      obtain ⟨d1, d2, d3⟩ := b1 hj
      exact ⟨⟨z0, z0, o3, z0, z0, c1, d1⟩, ⟨fun z => absurd z (by decide), trivial, fun z => absurd z (by decide), c2, d2⟩, ⟨fun z => absurd z (by decide), fun z => absurd z (by decide), trivial, fun z => absurd z (by decide), fun z => absurd z (by decide), c3, d3⟩⟩
    · show (cEv c).length + (tC a + tC b) ≤ _; omega
    · show max (kN c + kH c) (max (tDr a) (tDr b)) + 3 ≤ 4 * (k + 1) + (kN c + (tKs a + tKs b)); omega
    · show 5 * (0 + 0 + (0 + tA a + tA b) + (kN c + (tKs a + tKs b))) ≤ _; omega
  · rintro k i c l a j - hc - ⟨a0, a1, a2, a3, a4⟩
    obtain ⟨e0, e1, e2, e3, e4⟩ := aEi_rd (aSi_rd hz (k + 1)) _ _ _ hc
    have ev := (aEi_ev (aSi_ev (k + 1)) _ _ _ hc).len
    have o3 := aC_o3 _ _ _ _ hc
    refine ⟨by omega, fun hj => ?_, ?_, ?_, ?_⟩
    · obtain ⟨c1, c2, c3⟩ := a1 (by omega)
      exact ⟨⟨z0, z0, o3, c1⟩, ⟨fun z => absurd z (by decide), trivial, c2⟩, ⟨fun z => absurd z (by decide), fun z => absurd z (by decide), trivial, c3⟩⟩
    · show (cEv c).length + tC a ≤ _; omega
    · show max (kN c + kH c) (tDr a) + 3 ≤ 4 * (k + 1) + (kN c + tKs a); omega
    · show 5 * (0 + 0 + tA a + (kN c + tKs a)) ≤ _; omega
  · rintro k i S l S' m a j - - - hS - - hS' - ⟨a0, a1, a2, a3, a4⟩
    obtain ⟨⟨f0, f1⟩, f2, f3, f4, f5, f6⟩ := aSm_fx hS
    obtain ⟨⟨g0, g1⟩, g2, g3, g4, g5, g6⟩ := aSm_fx hS'
    refine ⟨by omega, fun hj => ?_, ?_, ?_, ?_⟩
    · obtain ⟨c1, c2, c3⟩ := a1 (by omega)
      exact ⟨⟨f2, g2, c1, trivial⟩, ⟨fun z => absurd z (by decide), c2, trivial⟩, ⟨fun z => absurd z (by decide), fun z => absurd z (by decide), c3, trivial⟩⟩
    · show (sEv S.2).length + (sEv S'.2).length + 2 + tC a + 0 ≤ _; omega
    · show max (tDr a) 0 + 3 ≤ 4 * (k + 1) + (tKs a + 0); omega
    · show 5 * (0 + tA a + 0 + (tKs a + 0)) ≤ _; omega
  · rintro k i S j - hS
    obtain ⟨⟨f0, f1⟩, f2, f3, f4, f5, f6⟩ := aSm_fx hS
    refine ⟨by omega, fun hj => ⟨⟨f2, z0, trivial, trivial⟩, ⟨fun z => absurd z (by decide), trivial, trivial⟩, ⟨fun z => absurd z (by decide), fun z => absurd z (by decide), trivial, trivial⟩⟩, ?_, ?_, ?_⟩
    · show (sEv S.2).length + 0 + 2 + 0 + 0 ≤ _; omega
    · show max 0 0 + 3 ≤ 4 * (k + 1) + (0 + 0); omega
    · show 5 * (0 + 0 + 0 + (0 + 0)) ≤ _; omega
  · rintro k i g (⟨-, rfl⟩ | ⟨-, rfl⟩ | ⟨-, rfl⟩)
    all_goals
      refine ⟨by omega, fun hj => ⟨⟨z0, z0, trivial, trivial⟩, ⟨fun z => absurd z (by decide), trivial, trivial⟩, ⟨fun z => absurd z (by decide), fun z => absurd z (by decide), trivial, trivial⟩⟩, ?_, ?_, ?_⟩
      · show 0 + 0 + 2 + 0 + 0 ≤ _; omega
      · show max 0 0 + 3 ≤ 4 * (k + 1) + (0 + 0); omega
      · show 5 * (0 + 0 + 0 + (0 + 0)) ≤ _; omega
  · rintro k i S j - hS
    obtain ⟨⟨f0, f1⟩, f2, f3, f4, f5, f6⟩ := aSm_fx hS
    refine ⟨by omega, fun hj => ⟨⟨f2, z0, trivial, trivial⟩, ⟨fun _ => f3, trivial, trivial⟩, ⟨fun z => absurd z (by decide), fun z => absurd z (by decide), trivial, trivial⟩⟩, ?_, ?_, ?_⟩
    · show (sEv S.2).length + 0 + 2 + 0 + 0 ≤ _; omega
    · show max 0 0 + 3 ≤ 4 * (k + 1) + (0 + 0); omega
    · show 5 * (0 + 0 + 0 + (0 + 0)) ≤ _; omega
  · rintro k i g S l S' j hg hS hS'
    obtain ⟨⟨f0, f1⟩, f2, f3, f4, f5, f6⟩ := aSm_fx hS
    obtain ⟨⟨g0, g1⟩, g2, g3, g4, g5, g6⟩ := aSm_fx hS'
    rcases hg with ⟨-, rfl⟩ | ⟨-, rfl⟩ | ⟨-, rfl⟩
    all_goals
      refine ⟨by omega, fun hj => ⟨⟨f2, g2, trivial, trivial⟩, ⟨fun z => absurd z (by decide), trivial, trivial⟩, ⟨fun z => absurd z (by decide), fun z => absurd z (by decide), trivial, trivial⟩⟩, ?_, ?_, ?_⟩
      · show (sEv S.2).length + (sEv S'.2).length + 2 + 0 + 0 ≤ _; omega
      · show max 0 0 + 3 ≤ 4 * (k + 1) + (0 + 0); omega
      · show 5 * (0 + 0 + 0 + (0 + 0)) ≤ _; omega
  · rintro k i S l - - hS -
    obtain ⟨⟨f0, f1⟩, f2, f3, f4, f5, f6⟩ := aSm_fx hS
    refine ⟨by omega, fun hj => ⟨⟨f2, z0, trivial, trivial⟩, ⟨fun z => absurd z (by decide), trivial, trivial⟩, ⟨fun z => absurd z (by decide), fun z => absurd z (by decide), trivial, trivial⟩⟩, ?_, ?_, ?_⟩
    · show (sEv S.2).length + 0 + 2 + 0 + 0 ≤ _; omega
    · show max 0 0 + 3 ≤ 4 * (k + 1) + (0 + 0); omega
    · show 5 * (0 + 0 + 0 + (0 + 0)) ≤ _; omega
  · rintro k i as j - - ⟨a0, a1, a2, a3, a4, a5, a6⟩
    refine ⟨by omega, fun hj => ?_, ?_, ?_, ?_⟩
    · obtain ⟨c1, c2, c3⟩ := a1 (by omega)
      exact ⟨⟨z0, z0, c1, trivial⟩, ⟨fun z => absurd z (by decide), c2, trivial⟩, ⟨fun z => absurd z (by decide), fun _ => a2, c3, trivial⟩⟩
    · show 3 * tQn as + tC as ≤ _; omega
    · show max (tDr as) 0 + 3 ≤ 4 * (k + 1) + (tKs as + 0); omega
    · show 5 * (tQn as + tA as + 0 + (tKs as + 0)) ≤ _; omega
  · rintro k i a l - ⟨a0, a1, a2, a3, a4⟩ -
    refine ⟨by omega, fun hj => ?_, ?_, ?_, ?_⟩
    · obtain ⟨c1, c2, c3⟩ := a1 (by omega)
      exact ⟨⟨z0, z0, c1, trivial⟩, ⟨fun z => absurd z (by decide), c2, trivial⟩, ⟨fun z => absurd z (by decide), fun z => absurd z (by decide), c3, trivial⟩⟩
    · show tC a + 0 ≤ _; omega
    · show max (tDr a) 0 + 3 ≤ 4 * (k + 1) + (tKs a + 0); omega
    · show 5 * (0 + tA a + 0 + (tKs a + 0)) ≤ _; omega
  · rintro k i S l - hS -
    obtain ⟨⟨f0, f1⟩, f2, f3, f4, f5, f6⟩ := aSm_fx hS
    refine ⟨by omega, fun hj => ⟨⟨f2, z0, trivial, trivial⟩, ⟨fun z => absurd z (by decide), trivial, trivial⟩, ⟨fun z => absurd z (by decide), fun z => absurd z (by decide), trivial, trivial⟩⟩, ?_, ?_, ?_⟩
    · show (sEv S.2).length + 0 + 2 + 0 + 0 ≤ _; omega
    · show max 0 0 + 3 ≤ 4 * (k + 1) + (0 + 0); omega
    · show 5 * (0 + 0 + 0 + (0 + 0)) ≤ _; omega
  · rintro k i a l b j - - ⟨a0, a1, a2, a3, a4⟩ - - - - ⟨b0, b1, b2, b3, b4⟩
    refine ⟨by omega, fun hj => ?_, ?_, ?_, ?_⟩
    · obtain ⟨c1, c2, c3⟩ := a1 (by omega)
      obtain ⟨d1, d2, d3⟩ := b1 hj
      exact ⟨⟨z0, z0, c1, d1⟩, ⟨fun z => absurd z (by decide), c2, d2⟩, ⟨fun z => absurd z (by decide), fun z => absurd z (by decide), c3, d3⟩⟩
    · show 3 + tC a + tC b ≤ _; omega
    · show max (tDr a) (tDr b) + 3 ≤ 4 * (k + 1) + (tKs a + tKs b); omega
    · show 5 * (0 + tA a + tA b + (tKs a + tKs b)) ≤ _; omega
  · exact fun k q i _ => ⟨Nat.le_refl _, fun _ => ⟨trivial, trivial, trivial⟩, Nat.zero_le _, by show 0 + 3 * 0 ≤ _; omega, Nat.zero_le _, Nat.zero_le _, by show 5 * (0 + 0) + 4 * 0 ≤ _; omega⟩
  · rintro k q i b j - c40 hc ⟨b0, b1, b2, b3, b4, b5, b6⟩
    have ev : (sEv [((if aIs kk 2 i = true then 0 else 1 : Nat), false, i)]).length ≤ 1 := by
      unfold sEv sNm
      rw [List.length_map]
      exact List.length_filter_le _ _
    refine ⟨by omega, fun hj => ?_, ?_, ?_, ?_, ?_, ?_⟩
    · obtain ⟨d1, d2, d3⟩ := b1 hj
      refine ⟨⟨fun p hp => ?_, z0, trivial, d1⟩, ⟨fun _ => ?_, trivial, d2⟩, ⟨fun _ _ => ?_, fun z => absurd z (by decide), trivial, d3⟩⟩
      · rw [List.mem_singleton.mp hp]
        show (if aIs kk 2 i = true then 0 else 1) ≤ 3
        split <;> omega
      · show tAl kk (i, [((if aIs kk 2 i = true then 0 else 1 : Nat), false, i)]) = 1 ↔ isN [((if aIs kk 2 i = true then 0 else 1 : Nat), false, i)] = true
        unfold tAl isN
        rw [decide_eq_true_iff]
        show (if aIs kk 45 i = true then (0 : Int32) else if 1 = 1 then kk i else 0) = 1 ↔ 1 = 1 ∧ (if aIs kk 2 i = true then 0 else 1) = 1 ∧ false = false
        rw [if_pos rfl]
        rcases hc with hc | hc
        · have e2 : aIs kk 2 i = true := decide_eq_true hc
          rw [if_pos e2, hc]
          constructor
          · intro z; exfalso; split at z <;> exact absurd z (by decide)
          · rintro ⟨_, z, _⟩; cases z
        · have e2 : ¬ aIs kk 2 i = true := fun z => by rw [aIs_t z] at hc; exact absurd hc (by decide)
          have e45 : ¬ aIs kk 45 i = true := fun z => by rw [aIs_t z] at hc; exact absurd hc (by decide)
          rw [if_neg e2, if_neg e45, hc]
          exact ⟨fun _ => ⟨rfl, rfl, rfl⟩, fun _ => rfl⟩
      · exact ⟨fun _ => (by show (0 : Nat) ≠ 1; decide), fun _ => rfl⟩
    · show tQn b + 1 ≤ q + 1; omega
    · show (sEv [((if aIs kk 2 i = true then 0 else 1 : Nat), false, i)]).length + 1 + tC b + 3 * (tQn b + 1) ≤ 5 * (tQn b + 1) + 4 * (j - i) - 4 * (tQn b + 1); omega
    · show tQn b + 1 ≤ j - i; omega
    · show max 0 (tDr b) ≤ 4 * k + (0 + tKs b); omega
    · show 5 * (0 + 0 + tA b + (0 + tKs b)) + 4 * (tQn b + 1) ≤ 4 * (j - i); omega
  · rintro k q i S l b j - - hS - ⟨b0, b1, b2, b3, b4, b5, b6⟩
    obtain ⟨⟨f0, f1⟩, f2, f3, f4, f5, f6⟩ := aSm_fx hS
    refine ⟨by omega, fun hj => ?_, ?_, ?_, ?_, ?_, ?_⟩
    · obtain ⟨d1, d2, d3⟩ := b1 hj
      refine ⟨⟨f2, z0, trivial, d1⟩, ⟨fun _ => f3, trivial, d2⟩, ⟨fun _ hN => ?_, fun z => absurd z (by decide), trivial, d3⟩⟩
      obtain ⟨q1, -, -⟩ := of_decide_eq_true hN
      have q1 : S.2.length = 1 := q1
      obtain ⟨p, ep⟩ : ∃ p, S.2 = [p] := by
        match hh : S.2, q1 with
        | [p], _ => exact ⟨p, rfl⟩
      have := f5 p (by rw [ep]; exact List.mem_singleton_self _)
      show pp i = pp (S.2.headD (0, false, 0)).2.2 ↔ 1 ≠ 1
      rw [ep]
      exact ⟨fun z => absurd z (hpp i p.2.2 (by omega) (by omega)), fun z => absurd rfl z⟩
    · show tQn b + 1 ≤ q + 1; omega
    · show (sEv S.2).length + 1 + tC b + 3 * (tQn b + 1) ≤ 5 * (tQn b + 1) + 4 * (j - i) - 4 * (tQn b + 1); omega
    · show tQn b + 1 ≤ j - i; omega
    · show max 0 (tDr b) ≤ 4 * k + (0 + tKs b); omega
    · show 5 * (0 + 0 + tA b + (0 + tKs b)) + 4 * (tQn b + 1) ≤ 4 * (j - i); omega
  · rintro k q i e l b j - - ⟨a0, a1, a2, a3, a4⟩ - ⟨b0, b1, b2, b3, b4, b5, b6⟩
    refine ⟨by omega, fun hj => ?_, ?_, ?_, ?_, ?_, ?_⟩
    · obtain ⟨c1, c2, c3⟩ := a1 (by omega)
      obtain ⟨d1, d2, d3⟩ := b1 hj
      exact ⟨⟨z0, z0, c1, d1⟩, ⟨fun z => absurd z (by decide), c2, d2⟩, ⟨fun z => absurd z (by decide), fun z => absurd z (by decide), c3, d3⟩⟩
    · show tQn b + 1 ≤ q + 1; omega
    · show tC e + tC b + 3 * (tQn b + 1) ≤ 5 * (tQn b + 1) + 4 * (j - i) - 4 * (tQn b + 1); omega
    · show tQn b + 1 ≤ j - i; omega
    · show max (tDr e) (tDr b) ≤ 4 * k + (tKs e + tKs b); omega
    · show 5 * (0 + tA e + tA b + (tKs e + tKs b)) + 4 * (tQn b + 1) ≤ 4 * (j - i); omega
  · rintro k q i v b j - ⟨b0, b1, b2, b3, b4, b5, b6⟩
    refine ⟨by omega, fun hj => ?_, ?_, ?_, ?_, ?_, ?_⟩
    · obtain ⟨d1, d2, d3⟩ := b1 hj
      exact ⟨⟨z0, z0, trivial, d1⟩, ⟨fun z => absurd z (by decide), trivial, d2⟩, ⟨fun z => absurd z (by decide), fun z => absurd z (by decide), trivial, d3⟩⟩
    · show tQn b + 1 ≤ q + 1; omega
    · show 0 + 1 + tC b + 3 * (tQn b + 1) ≤ 5 * (tQn b + 1) + 4 * (j - i) - 4 * (tQn b + 1); omega
    · show tQn b + 1 ≤ j - i; omega
    · show max 0 (tDr b) ≤ 4 * k + (0 + tKs b); omega
    · show 5 * (0 + 0 + tA b + (0 + tKs b)) + 4 * (tQn b + 1) ≤ 4 * (j - i); omega
end CIN2
