/-! the class's gather(): single writes while a TEMPLATE is made -/
/-- one cell is written: a Known, the Checker, the row of what * may be, what is known of a NAME -/
def prW (st : Nat) (σ : oSt) (y : Nat) (cc : oC) : Prop := (∃ f f', σ.1 y = some (.inr (4, f)) ∧ cc = .inr (4, f')) ∨ (∃ f f', σ.1 y = some (.inr (2, f)) ∧ cc = .inr (2, f')) ∨ (y = st ∧ ∃ g g', σ.1 y = some (.inl (.object "LiquidTongue$Name", 73, .inr (.inr (.inr (.inr g))))) ∧ cc = .inl (.object "LiquidTongue$Name", 73, .inr (.inr (.inr (.inr g'))))) ∨ ∃ f f', σ.1 y = some (.inr (6, f)) ∧ cc = .inr (6, f') ∧ f'.length = f.length ∧ ∀ i, i ≠ 4 → f'[i]? = f[i]?
/-- cells beside the Checker, NAMES, rows of terms and of what * may be -/
def shX (st : Nat) (σ σ' : oSt) : Prop := (∀ x k fs, σ.1 x = some (.inr (k, fs)) → k ≠ 6 → k ≠ 2 → σ'.1 x = some (.inr (k, fs))) ∧ (∀ x y, σ.1 x = some (.inl y) → y.1 ≠ .object "LiquidTongue$Sum" → x ≠ st → σ'.1 x = some (.inl y)) ∧ (∀ x, x < σ.2.1 → σ.1 x = none → σ'.1 x = none) ∧ σ.2.1 ≤ σ'.2.1
section PRW
variable {st : Nat} {l : Nat → Nat} {b0 : Nat} {nq : tQ → Int} {xs : List tQ} {Q : Nat → Prop} {σ σ' σ2 : oSt} {pg : Nat} {Ls : List Nat} {y : Nat} {cc : oC} {W W' : Nat → Prop}
theorem shX.rf : shX st σ σ := ⟨fun _ _ _ h _ _ => h, fun _ _ h _ _ => h, fun _ _ h => h, Nat.le_refl _⟩
theorem shX.tr (h : shX st σ σ') (g : shX st σ' σ2) : shX st σ σ2 := ⟨fun x k fs e h6 h2 => g.1 x k fs (h.1 x k fs e h6 h2) h6 h2, fun x y e hs hn => g.2.1 x y (h.2.1 x y e hs hn) hs hn, fun x hx e => g.2.2.1 x (Nat.lt_of_lt_of_le hx h.2.2.2) (h.2.2.1 x hx e), Nat.le_trans h.2.2.2 g.2.2.2⟩
theorem tXp.sh (h : tXp σ σ') (hn : σ.2.1 ≤ σ'.2.1) : shX st σ σ' := ⟨fun x k fs e h6 _ => h.1 x k fs e h6, fun x y e hs _ => h.2.1 x y e hs, h.2.2, hn⟩
/-- a cell that was made since -/
theorem shX.fp (h : shX st σ σ') (hy : σ.2.1 ≤ y) (hfr : ∀ q, σ.2.1 ≤ q → σ.1 q = none) : shX st σ (oput σ' y cc) := by
  have lt : ∀ {x cc}, σ.1 x = some cc → x < σ.2.1 := fun h => Nat.lt_of_not_le (fun e => by rw [hfr _ e] at h; cases h)
  exact ⟨fun x k fs e h6 h2 => by rw [oput_ne (by have := lt e; omega)]; exact h.1 x k fs e h6 h2, fun x z e hs hn => by rw [oput_ne (by have := lt e; omega)]; exact h.2.1 x z e hs hn, fun x hx e => by rw [oput_ne (by omega)]; exact h.2.2.1 x hx e, h.2.2.2⟩
theorem prW.nm (h : prW st σ y cc) : (∀ a f, σ.1 a = some (.inr (6, f)) → ∃ f', (oput σ y cc).1 a = some (.inr (6, f')) ∧ f'.length = f.length ∧ ∀ i, i ≠ 4 → f'[i]? = f[i]?) ∧ ∀ a f', (oput σ y cc).1 a = some (.inr (6, f')) → ∃ f, σ.1 a = some (.inr (6, f)) ∧ f'.length = f.length ∧ ∀ i, i ≠ 4 → f'[i]? = f[i]? := by
  refine ⟨fun a f e => ?_, fun a f' e => ?_⟩
  · by_cases c : a = y
    · subst c
      rcases h with ⟨g, g', z, -⟩ | ⟨g, g', z, -⟩ | ⟨-, g, g', z, -⟩ | ⟨g, g', z, z2, z3, z4⟩
      · rw [z] at e; cases e
      · rw [z] at e; cases e
      · rw [z] at e; cases e
      · rw [z] at e
        injection e with e
        injection e with e
        injection e with _ e
        subst e
        exact ⟨g', by rw [oput_eq, z2], z3, z4⟩
    · exact ⟨f, by rw [oput_ne c]; exact e, rfl, fun _ _ => rfl⟩
  · by_cases c : a = y
    · subst c
      rw [oput_eq] at e
      injection e with e
      rcases h with ⟨g, g', z, z2⟩ | ⟨g, g', z, z2⟩ | ⟨-, g, g', z, z2⟩ | ⟨g, g', z, z2, z3, z4⟩
      · rw [z2] at e; cases e
      · rw [z2] at e; cases e
      · rw [z2] at e; cases e
      · rw [z2] at e
        injection e with e
        injection e with _ e
        subst e
        exact ⟨g, z, z3, z4⟩
    · rw [oput_ne c] at e
      exact ⟨f', e, rfl, fun _ _ => rfl⟩
theorem prW.tm (h : prW st σ y cc) (x : Nat) : tmS b0 (oput σ y cc) x ↔ tmS b0 σ x := by
  refine ⟨fun ⟨a, f, e0, e, e5⟩ => ?_, fun ⟨a, f, e0, e, e5⟩ => ?_⟩
  · obtain ⟨f', e', -, e4⟩ := h.nm.2 a f e
    exact ⟨a, f', e0, e', by rw [← e4 5 (by decide)]; exact e5⟩
  · obtain ⟨f', e', -, e4⟩ := h.nm.1 a f e
    exact ⟨a, f', e0, e', by rw [e4 5 (by decide)]; exact e5⟩
theorem prW.ld (h : prW st σ y cc) (x : Nat) : ldS l (oput σ y cc) x → ldS l σ x := fun ⟨i, mc, m, hi, e⟩ => by
  by_cases c : l i = y
  · exfalso
    rw [c, oput_eq] at e
    injection e with e
    rcases h with ⟨g, g', z, z2⟩ | ⟨g, g', z, z2⟩ | ⟨-, g, g', z, z2⟩ | ⟨g, g', z, z2, z3, z4⟩ <;> rw [z2] at e <;> cases e
  · rw [oput_ne c] at e; exact ⟨i, mc, m, hi, e⟩
theorem prW.qa (h : prW st σ y cc) {x : Nat} (q : qA st l b0 σ x) : qA st l b0 (oput σ y cc) x := ⟨q.1, fun z => q.2.1 (h.ld x z), fun z => q.2.2 ((h.tm x).mp z)⟩
/-- rows but that one, Sums: not written -/
theorem prW.ne (h : prW st σ y cc) {x : Nat} : (∀ k fs, σ.1 x = some (.inr (k, fs)) → k ≠ 4 → k ≠ 2 → k ≠ 6 → x ≠ y) ∧ (∀ z, σ.1 x = some (.inl z) → x ≠ st → x ≠ y) := by
  refine ⟨fun k fs e h4 h2 h6 c => ?_, fun z e hs c => ?_⟩
  · subst c
    have inj : ∀ {j : Nat} {f : List Value}, σ.1 x = some (.inr (j, f)) → k = j := fun z => by
      rw [z] at e
      injection e with e
      injection e with e
      injection e with e _
      exact e.symm
    rcases h with ⟨g, g', z, z2⟩ | ⟨g, g', z, z2⟩ | ⟨-, g, g', z, z2⟩ | ⟨g, g', z, z2, z3, z4⟩
    · exact h4 (inj z)
    · exact h2 (inj z)
    · rw [z] at e; cases e
    · exact h6 (inj z)
  · subst c
    rcases h with ⟨g, g', w, z2⟩ | ⟨g, g', w, z2⟩ | ⟨w, -⟩ | ⟨g, g', w, z2, z3, z4⟩
    · rw [w] at e; cases e
    · rw [w] at e; cases e
    · exact hs w
    · rw [w] at e; cases e
theorem prW.ct (h : prW st σ y cc) {su : Nat} {u : kTe} (c : cTq st l b0 Q σ su u) : cTq st l b0 Q (oput σ y cc) su u := by
  obtain ⟨a, ta, cap, Ls, pl, ⟨g, h', s1, s2, s3, s4, s5⟩, h2, h3, h4, q1, q2⟩ := c
  refine ⟨a, ta, cap, Ls, pl, ⟨g, h', by rw [oput_ne (h.ne.1 _ _ s1 (by decide) (by decide) (by decide))]; exact s1, by rw [oput_ne (h.ne.2 _ s2 q1.1)]; exact s2, by rw [oput_ne (h.ne.2 _ s3 q2.1)]; exact s3, s4, fun i b d e => ?_⟩, h2, h3, h4, h.qa q1, h.qa q2⟩
  obtain ⟨c1, c2, fs, c3⟩ := s5 i b d e
  obtain ⟨f', e', -⟩ := h.nm.1 _ _ c3
  exact ⟨c1, c2, f', e'⟩
theorem prW.iv (h : prW st σ y cc) (iv : gIv st l b0 Q σ) : gIv st l b0 Q (oput σ y cc) := by
  obtain ⟨i1, i2, i3, i4, i5, i6⟩ := iv
  refine ⟨fun q hq => ?_, i2, i3, i4, fun x hx => i5 x ((h.tm x).mp hx), fun x hx => i6 x (h.ld x hx)⟩
  have hq : σ.2.1 ≤ q := hq
  have c : q ≠ y := fun c => by
    have e := i1 q hq
    rw [c] at e
    rcases h with ⟨g, g', w, z2⟩ | ⟨g, g', w, z2⟩ | ⟨-, g, g', w, -⟩ | ⟨g, g', w, z2, z3, z4⟩ <;> rw [w] at e <;> cases e
  rw [oput_ne c]
  exact i1 q hq
theorem prW.nt (h : prW st σ y cc) (nt : ntI st l b0 nq xs Q σ) (hs : ∃ g, σ.1 st = some (.inl (.object "LiquidTongue$Name", 73, g))) : ntI st l b0 nq xs Q (oput σ y cc) ∧ ∀ a, b0 ≤ a → tmU xs.length (oput σ y cc) a = tmU xs.length σ a := by
  have row : ∀ {t g}, σ.1 t = some (.inl (.object "LiquidTongue$Sum", 6, g)) → t ≠ y := fun {t g} e => h.ne.2 _ e (fun c => by
    obtain ⟨g', z⟩ := hs
    rw [c, z] at e
    injection e with e
    injection e with e
    injection e with e _
    exact absurd e (by decide))
  refine ⟨⟨fun a f hb e => ?_, fun a a' f f' t hb hb' e e' e5 e5' => ?_⟩, fun a hb => ?_⟩
  · obtain ⟨f0, e0, l0, n0⟩ := h.nm.2 a f e
    obtain ⟨y1, y2⟩ := nt.1 a f0 hb e0
    refine ⟨l0.trans y1, ?_⟩
    rw [n0 5 (by decide)]
    exact y2.imp id (fun ⟨t, g, z1, z2, z3⟩ => ⟨t, g, z1, by rw [oput_ne (row z2)]; exact z2, fun j x hx hs su hsu => h.ct (z3 j x hx hs su hsu)⟩)
  · obtain ⟨f0, e0, -, n0⟩ := h.nm.2 a f e
    obtain ⟨f1, e1, -, n1⟩ := h.nm.2 a' f' e'
    exact nt.2 a a' f0 f1 t hb hb' e0 e1 (by rw [← n0 5 (by decide)]; exact e5) (by rw [← n1 5 (by decide)]; exact e5')
  · by_cases c : ∃ f, σ.1 a = some (.inr (6, f))
    · obtain ⟨f, e⟩ := c
      obtain ⟨f', e', -, n'⟩ := h.nm.1 a f e
      unfold tmU
      have q : ofd (oput σ y cc) (some a) 6 5 = ofd σ (some a) 6 5 := by rw [ofd_at e', ofd_at e, n' 5 (by decide)]
      rw [q]
      cases ev : ovr (ofd σ (some a) 6 5) with
      | none => rfl
      | some o =>
        cases o with
        | none => rfl
        | some t =>
          obtain ⟨f2, e2, e5⟩ := ofd_eA ev
          have e5 : f2[5]? = some (.ref t) := e5
          obtain ⟨-, z | ⟨t', g, w1, w2, -⟩⟩ := nt.1 a f2 hb e2
          · rw [z] at e5; cases e5
          · rw [w1] at e5
            injection e5 with e5
            injection e5 with e5
            subst e5
            dsimp only
            congr 2
            refine List.countP_congr (fun x _ => ?_)
            rw [oar_cgA (show (oput σ y cc).1 t' = σ.1 t' from oput_ne (row w2))]
    · have z1 : ∀ {s : oSt}, (¬ ∃ f, s.1 a = some (.inr (6, f))) → tmU xs.length s a = 0 := fun {s} hn => by
        unfold tmU
        cases ev : ovr (ofd s (some a) 6 5) with
        | none => rfl
        | some o =>
          obtain ⟨f2, e2, -⟩ := ofd_eA ev
          exact absurd ⟨f2, e2⟩ hn
      rw [z1 c, z1 (fun ⟨f, e⟩ => c (by obtain ⟨f0, e0, -⟩ := h.nm.2 a f e; exact ⟨f0, e0⟩))]
theorem prW.qr (h : prW st σ y cc) (qr : qRw st l b0 nq xs Q pg σ) : qRw st l b0 nq xs Q pg (oput σ y cc) := by
  obtain ⟨pf, r4, r5, r6, r7, f4, f5, f6, f7, p0, p1, ⟨m4, m5, m6, m7⟩, ⟨⟨q4, q5, q6, q7⟩, nQ⟩, xl, pq⟩ := qr
  exact ⟨pf, r4, r5, r6, r7, f4, f5, f6, f7, by rw [oput_ne (h.ne.1 _ _ p0 (by decide) (by decide) (by decide))]; exact p0, p1, ⟨by rw [oput_ne (h.ne.2 _ m4 q4.1)]; exact m4, by rw [oput_ne (h.ne.2 _ m5 q5.1)]; exact m5, by rw [oput_ne (h.ne.2 _ m6 q6.1)]; exact m6, by rw [oput_ne (h.ne.2 _ m7 q7.1)]; exact m7⟩, ⟨⟨h.qa q4, h.qa q5, h.qa q6, h.qa q7⟩, nQ⟩, xl, pq⟩
theorem prW.ls (h : prW st σ y cc) (ls : lsO b0 Ls σ) : lsO b0 Ls (oput σ y cc) := ⟨ls.1, fun a ha => ⟨(ls.2 a ha).1, by
  obtain ⟨f, e⟩ := (ls.2 a ha).2
  obtain ⟨f', e', -⟩ := h.nm.1 a f e
  exact ⟨f', e'⟩⟩⟩
/-- the frame, for all but Knowns -/
theorem prW.kp (h : prW st σ y cc) (h4 : ∀ f, σ.1 y ≠ some (.inr (4, f))) (hW : ∀ f, σ.1 y = some (.inr (6, f)) → W y) : gKp st l b0 W σ (oput σ y cc) := by
  refine ⟨fun x c0 e q => ?_, fun x f e => ?_, fun x f e => ⟨f, by rw [oput_ne (h.ne.1 _ _ e (by decide) (by decide) (by decide))]; exact e, rfl, fun _ _ => rfl⟩, Nat.le_refl _⟩
  · match c0, e, q with
    | .inr o, e, q =>
      by_cases c : o.1 = 4
      · have : x ≠ y := fun z => h4 o.2 (by rw [← z, e, ← c])
        exact ⟨by rw [oput_ne this]; exact e, q⟩
      · exact ⟨by rw [oput_ne (h.ne.1 o.1 o.2 e c q.1.1 q.1.2.1)]; exact e, q⟩
    | .inl z, e, q => exact ⟨by rw [oput_ne (h.ne.2 _ e q.1)]; exact e, h.qa q⟩
  · obtain ⟨f', e', l', n'⟩ := h.nm.1 x f e
    refine ⟨f', e', l', fun i h5 h4' => ?_⟩
    by_cases c : i = 4
    · subst c
      by_cases cx : x = y
      · subst cx
        exact absurd (hW f e) (h4' rfl)
      · rw [oput_ne cx, e] at e'
        injection e' with e'
        injection e' with e'
        injection e' with _ e'
        rw [e']
    · exact n' i c
/-- a cell that was made since -/
theorem prW.fp (h : prW st σ' y cc) (k : gKp st l b0 W σ σ') (hy : σ.2.1 ≤ y) (hfr : ∀ q, σ.2.1 ≤ q → σ.1 q = none) : gKp st l b0 W σ (oput σ' y cc) := by
  have lt : ∀ {x cc}, σ.1 x = some cc → x < σ.2.1 := fun h => Nat.lt_of_not_le (fun e => by rw [hfr _ e] at h; cases h)
  refine ⟨fun x c0 e q => ?_, fun x f e => ?_, fun x f e => ?_, k.2.2.2⟩
  · obtain ⟨k1, k2⟩ := k.1 x c0 e q
    refine ⟨by rw [oput_ne (by have := lt e; omega)]; exact k1, ?_⟩
    match c0, k2 with
    | .inr o, k2 => exact k2
    | .inl z, k2 => exact h.qa k2
  · obtain ⟨f', a, b, c⟩ := k.2.1 x f e
    exact ⟨f', by rw [oput_ne (by have := lt e; omega)]; exact a, b, c⟩
  · obtain ⟨f', a, b, c⟩ := k.2.2.1 x f e
    exact ⟨f', by rw [oput_ne (by have := lt e; omega)]; exact a, b, c⟩
theorem gKp.res (k : gKp st l b0 W' σ σ') (h : ∀ x f, σ.1 x = some (.inr (6, f)) → W' x → W x) : gKp st l b0 W σ σ' := ⟨k.1, fun x f e => by
  obtain ⟨f', a, b, c⟩ := k.2.1 x f e
  exact ⟨f', a, b, fun i h5 h4 => c i h5 (fun z w => h4 z (h x f e w))⟩, k.2.2⟩
theorem prW.sh (h : prW st σ y cc) (h4 : ∀ f, σ.1 y ≠ some (.inr (4, f))) : shX st σ (oput σ y cc) := by
  refine ⟨fun x k fs e h6 h2 => ?_, fun x z e hs hn => by rw [oput_ne (h.ne.2 _ e hn)]; exact e, fun x hx e => ?_, Nat.le_refl _⟩
  · by_cases c : k = 4
    · subst c
      have : x ≠ y := fun z => h4 fs (by rw [← z]; exact e)
      rw [oput_ne this]; exact e
    · rw [oput_ne (h.ne.1 _ _ e c h2 h6)]; exact e
  · have : x ≠ y := fun z => by
      rw [z] at e
      rcases h with ⟨g, g', w, z2⟩ | ⟨g, g', w, z2⟩ | ⟨-, g, g', w, -⟩ | ⟨g, g', w, z2, z3, z4⟩ <;> rw [w] at e <;> cases e
    rw [oput_ne this]; exact e
end PRW
