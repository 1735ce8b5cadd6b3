/-! the class's gather(): fit(), template() and new Knowns beside each other -/
section GTB
variable {κ : oKv} {st : Nat} {l : Nat → Nat} {b0 : Nat} {nq : tQ → Int} {xs : List tQ} {Q Q' : Nat → Prop} {σ σ' : oSt} {pg ch ty : Nat} {cf cf' : List Value} {At : Nat → Nat} {mo : Nat} {g : gG} {ρ : Nat → tY} {lv ov : Int32} {Ls : List Nat} {Ψ Ψ' : kGh} {CN : Nat → gCd → Prop} {Dn Dn' : Nat → Prop} {ln : Nat → Nat} {ct : Nat → Nat → Option Nat} {cs : Nat} {Fs : List gFit} {W : Nat → Prop}
/-- a cell that is none of the lists', nor their rows -/
theorem lFo4.ne (h : lFo4 κ l σ ln ct cs) {x : Nat} {cc : oC} (e : σ.1 x = some cc) (h1 : ∀ fs, cc ≠ .inr (1, fs)) (h2 : ∀ n f, cc ≠ .inl (.object "java/lang/Object", n, f)) : (∀ i, i < 4 → x ≠ l i) ∧ ¬ ldS l σ x := by
  obtain ⟨d, c, mc, q1, q2, -⟩ := h
  refine ⟨fun i hi z => ?_, fun ⟨i, mc', m', hi, w⟩ => ?_⟩
  · rw [z, (q1 i hi).1.1] at e
    injection e with e
    exact h1 _ e.symm
  · have a := (q1 i hi).1
    rw [a.1] at w
    injection w with w
    injection w with w
    injection w with _ w
    injection w with _ w
    injection w with w _
    injection w with w
    rcases a.2.1 with ⟨_, _, _, z⟩ | ⟨z, _⟩
    · rw [← w, z] at e; cases e
    · rw [← w, z] at e
      injection e with e
      exact h2 _ _ e.symm
/-- **fit() keeps what a TEMPLATE needs** -/
theorem tpB.xp (h : tpB st l b0 nq xs Q pg ch ty cf At mo g ρ lv ov Ls σ) (k : gKp st l b0 W σ σ') (x : lXp l σ σ') (iv : gIv st l b0 Q σ') (lf : lFo4 κ l σ ln ct cs) : tpB st l b0 nq xs Q pg ch ty cf At mo g ρ lv ov Ls σ' ∧ tmP xs.length σ' Ls = tmP xs.length σ Ls ∧ σ'.1 ch = σ.1 ch := by
  obtain ⟨h1, h2, h3, ⟨v, h4⟩, ⟨f, h5⟩, h6, h7⟩ := h
  have go : ∀ {y cc}, σ.1 y = some cc → (∀ fs, cc ≠ .inr (1, fs)) → (∀ n f, cc ≠ .inl (.object "java/lang/Object", n, f)) → σ'.1 y = some cc := fun {y cc} e a1 a2 => (x.1 y cc e (lf.ne e a1 a2).1 (lf.ne e a1 a2).2).1
  have row : ∀ {t f}, σ.1 t = some (.inl (.object "LiquidTongue$Sum", 6, f)) → σ'.1 t = some (.inl (.object "LiquidTongue$Sum", 6, f)) := fun {t f} e => go e (fun _ z => by cases z) (fun n f z => by injection z with z; injection z with z _; exact absurd z (by decide))
  have hc : σ'.1 ch = some (.inr (2, cf.set 8 (.int v))) := go h4 (fun _ z => by injection z with z; injection z with z _; exact absurd z (by decide)) (fun _ _ z => by cases z)
  have nm : ∀ {a fs}, σ.1 a = some (.inr (6, fs)) → σ'.1 a = some (.inr (6, fs)) := fun {a fs} e => go e (fun _ z => by injection z with z; injection z with z _; exact absurd z (by decide)) (fun _ _ z => by cases z)
  refine ⟨⟨iv, ⟨fun a fs hb e => ?_, fun a a' fs fs' t hb hb' e e' e5 e5' => ?_⟩, h3.sp k, ⟨v, hc⟩, ⟨f, go h5 (fun _ z => by cases z) (fun n f z => by injection z with z; injection z with z _; exact absurd z (by decide))⟩, ⟨h6.1, fun a ha => ⟨(h6.2 a ha).1, ?_⟩⟩, ?_⟩, tmP_cg (fun a ha => ?_), by rw [hc, h4]⟩
  · rcases x.2.2.2 a fs e with z | ⟨-, z1, z2⟩
    · obtain ⟨y1, y2⟩ := h2.1 a fs hb z
      exact ⟨y1, y2.imp id (fun ⟨t, gg, w1, w2, w3⟩ => ⟨t, gg, w1, row w2, fun j q hx hs su hg => (w3 j q hx hs su hg).sp k (fun _ _ => Iff.rfl) h1.1⟩)⟩
    · exact ⟨z1, Or.inl z2⟩
  · rcases x.2.2.2 a fs e with z | ⟨-, z1, z2⟩
    · rcases x.2.2.2 a' fs' e' with w | ⟨-, w1, w2⟩
      · exact h2.2 a a' fs fs' t hb hb' z w e5 e5'
      · rw [w2] at e5'; cases e5'
    · rw [z2] at e5; cases e5
  · obtain ⟨fs, e⟩ := (h6.2 a ha).2
    exact ⟨fs, nm e⟩
  · obtain ⟨F, ⟨y1, y2, y3⟩, y4⟩ := h7
    exact ⟨F, ⟨go y1 (fun _ z => by injection z with z; injection z with z _; exact absurd z (by decide)) (fun _ _ z => by cases z), fun i hi => go (y2 i hi) (fun _ z => by cases z) (fun n f z => by injection z with z; injection z with z _; cases z), y3⟩, y4⟩
  · obtain ⟨b1, fs, b2⟩ := h6.2 a ha
    refine tmU_cg ((nm b2).trans b2.symm) (fun fs' t e e5 => ?_)
    obtain ⟨-, z | ⟨t', gg, w1, w2, -⟩⟩ := h2.1 a fs' b1 e
    · rw [z] at e5; cases e5
    · rw [w1] at e5
      injection e5 with e5
      injection e5 with e5
      rw [← e5]
      exact (row w2).trans w2.symm
/-- the lists, over what a TEMPLATE writes -/
theorem lFo4.sh (h : lFo4 κ l σ ln ct cs) (s : shX st σ σ') (hs : ∃ f, σ.1 st = some (.inl (.object "LiquidTongue$Name", 73, f))) (hk : κ.2.2.1 < σ.2.1) : lFo4 κ l σ' ln ct cs := by
  obtain ⟨d, c, mc, h1, h2⟩ := h
  refine ⟨d, c, mc, fun i hi => ?_, h2⟩
  obtain ⟨⟨a1, a2, a3⟩, a4⟩ := h1 i hi
  refine ⟨⟨s.1 _ _ _ a1 (by decide) (by decide), ?_, fun j hj b e => ?_⟩, a4⟩
  · rcases a2 with ⟨b1, b2, b3, b4⟩ | ⟨b1, b2⟩
    · exact Or.inl ⟨b1, b2, b3, s.2.2.1 _ (by rw [b3]; exact hk) b4⟩
    · refine Or.inr ⟨s.2.1 _ _ b1 (by show FieldType.object "java/lang/Object" ≠ _; decide) (fun q => ?_), b2⟩
      obtain ⟨f, e⟩ := hs
      rw [q, e] at b1
      injection b1 with b1
      injection b1 with b1
      injection b1 with b1 _
      exact absurd b1 (by decide)
  · obtain ⟨fs, e2⟩ := a3 j hj b e
    have k1 : lkd i ≠ 6 ∧ lkd i ≠ 2 := by unfold lkd; split <;> (try split) <;> omega
    exact ⟨fs, s.1 _ _ _ e2 k1.1 k1.2⟩
/-- **what must FIT, over a TEMPLATE or a Known that is made** -/
theorem gaS.sh (h : gaS κ st l b0 nq xs CN ch Ψ Dn cf σ ln ct cs Fs) (k : gKp st l b0 W σ σ') (s : shX st σ σ') (iv : gIv st l b0 Ψ'.2.2.1 σ') (ag : gAg σ Ψ Ψ') (hW : ∀ a, Dn a → ¬ W a) (hD : ∀ a, Dn a → Dn' a) (hs : ∃ f, σ.1 st = some (.inl (.object "LiquidTongue$Name", 73, f))) (hc : σ'.1 ch = some (.inr (2, cf'))) (hf : ∀ i, i ≠ 8 → cf'[i]? = cf[i]?) : gaS κ st l b0 nq xs CN ch Ψ' Dn' cf' σ' ln ct cs Fs := by
  obtain ⟨h1, ⟨h2, h2'⟩, h3, ⟨h4, h5, h6, h7, h8⟩, h9⟩ := h
  exact ⟨iv, ⟨s.2.2.1 _ h2' h2, Nat.lt_of_lt_of_le h2' s.2.2.2⟩, h3.sh s hs h2', ⟨hc, (hf 3 (by decide)).trans h5, (hf 4 (by decide)).trans h6, (hf 5 (by decide)).trans h7, (hf 6 (by decide)).trans h8⟩, h9.sp k ag h1.1 hW hD⟩
/-- ghosts after a TEMPLATE: its key is made -/
def gMk (Ψ : kGh) (key : Nat) : kGh := (Ψ.1, Ψ.2.1, Ψ.2.2.1, fun k => Ψ.2.2.2 k ∨ k = key)
theorem gDf.ag {m : gTm} (h : gDf m σ Ψ Ψ') (hm : m.2.1 = []) (hk : ¬ Ψ.2.2.2 m.1) : gAg σ Ψ (gMk Ψ' m.1) := by
  obtain ⟨h1, h2, h3, h4⟩ := h
  refine ⟨fun x hx => h2 x (fun r z => ?_), fun k p hkk => h1 k p (fun r z => ?_), h3, fun k hkk => Or.inl (by rw [h4]; exact hkk)⟩
  · rw [z] at hx
    exact hk hx
  · injection z with z _
    rw [z] at hkk
    exact hk hkk
end GTB
