/-! the class's gather(): walk()'s steps, what is known of a NAME, what must be SO -/
section GWK
variable {κ : oKv} {T n : Nat} {st : Nat} {l : Nat → Nat} {b0 : Nat} {nq : tQ → Int} {xs : List tQ} {Q : Nat → Prop} {pg ch ty : Nat} {cf : List Value} {At : Nat → Nat} {mo : Nat} {g : gG} {ρ : Nat → tY} {lv ov : Int32} {CN : Nat → gCd → Prop} {NR : Nat → (Nat × Nat × tT × List tP × List Nat × Nat) → Prop} {pp : Nat → Int32} {V : oSt} {lo g0 : Nat} {nm : Nat → Option Nat} {tN : Nat → tY} {φ : Nat → Nat} {Us : List Nat} {i cnt : Nat} {tl : List Nat} {Ψ : kGh} {Ls : List Nat} {σ : oSt} {ln : Nat → Nat} {ct : Nat → Nat → Option Nat} {cs : Nat} {s : gSt} {y u k : Nat} {cc : oC} {fs : List Value} {Dn : Nat → Prop} {Fs : List gFit}
theorem tpB.pw (h : tpB st l b0 nq xs Q pg ch ty cf At mo g ρ lv ov Ls σ) (w : prW st σ y cc) (hy : (∃ f, σ.1 y = some (.inr (4, f))) ∨ ∃ f, σ.1 y = some (.inr (6, f))) : tpB st l b0 nq xs Q pg ch ty cf At mo g ρ lv ov Ls (oput σ y cc) ∧ tmP xs.length (oput σ y cc) Ls = tmP xs.length σ Ls := by
  obtain ⟨h1, h2, h3, ⟨v, h4⟩, ⟨f, h5⟩, h6, h7⟩ := h
  obtain ⟨n1, n2⟩ := w.nt h2 ⟨_, h5⟩
  have nk : ∀ {x cc}, σ.1 x = some cc → (∀ f, cc ≠ .inr (4, f)) → (∀ f, cc ≠ .inr (6, f)) → x ≠ y := fun {x cc} e e4 e6 z => by
    subst z
    rcases hy with ⟨f, z⟩ | ⟨f, z⟩
    · rw [e] at z; injection z with z; exact e4 f z
    · rw [e] at z; injection z with z; exact e6 f z
  refine ⟨⟨w.iv h1, n1, w.qr h3, ⟨v, ?_⟩, ⟨f, ?_⟩, w.ls h6, ?_⟩, tmP_cg (fun a ha => n2 a (h6.2 a ha).1)⟩
  · rw [oput_ne (nk h4 (fun _ z => by cases z) (fun _ z => by cases z))]; exact h4
  · rw [oput_ne (nk h5 (fun _ z => by cases z) (fun _ z => by cases z))]; exact h5
  · obtain ⟨F, ⟨y1, y2, y3⟩, y4⟩ := h7
    exact ⟨F, ⟨by rw [oput_ne (nk y1 (fun _ z => by cases z) (fun _ z => by cases z))]; exact y1, fun i hi => by rw [oput_ne (nk (y2 i hi) (fun _ z => by cases z) (fun _ z => by cases z))]; exact y2 i hi, y3⟩, y4⟩
/-- **something is known of a told NAME** -/
theorem gwS.kn (h : gwS κ st l b0 nq xs pg ch ty cf At mo g ρ lv ov CN NR pp V lo g0 nm tN φ Us i tl Ψ Ls σ ln ct cs s) (hu : u ∈ Us) (hnt : u ∉ tl) (htl : ∀ u, u ∈ tl → u ∈ Us) (hf : σ.1 (φ u) = some (.inr (6, fs))) (hpp : ∀ u v, u < v → v < cnt → pp u < pp v) (hi : i ≤ cnt) : gwS κ st l b0 nq xs pg ch ty cf At mo g ρ lv ov CN NR pp V lo g0 nm tN φ Us i tl Ψ Ls (oput σ (φ u) (.inr (6, fs.set 4 (.ref k)))) ln ct cs s ∧ (gKp st l b0 (fun x => x = φ u) σ (oput σ (φ u) (.inr (6, fs.set 4 (.ref k)))) ∧ shX st σ (oput σ (φ u) (.inr (6, fs.set 4 (.ref k))))) ∧ gwC xs.length Ls Ls cs cs σ (oput σ (φ u) (.inr (6, fs.set 4 (.ref k)))) 0 0 := by
  have w : prW st σ (φ u) (.inr (6, fs.set 4 (.ref k))) := Or.inr (Or.inr (Or.inr ⟨_, _, hf, rfl, by rw [List.length_set], fun i hi => List.getElem?_set_ne (fun z => hi z.symm)⟩))
  obtain ⟨t1, t2⟩ := h.2.1.pw w (Or.inr ⟨_, hf⟩)
  have k1 : gKp st l b0 (fun x => x = φ u) σ (oput σ (φ u) (.inr (6, fs.set 4 (.ref k)))) := w.kp (fun f z => by rw [hf] at z; cases z) (fun _ _ => rfl)
  have s1 := w.sh (fun f z => by rw [hf] at z; cases z)
  obtain ⟨N1, N2⟩ := h.2.2.2.2.2.1
  refine ⟨h.sh t1 k1 s1 (gAg.rf _ _) (fun a ha z => ?_) (fun _ z => z) (h.2.2.2.1.2.2.up rfl rfl s1.2.2.2) hpp hi, ⟨k1, s1⟩, ?_⟩
  · subst z
    rcases ha with ha | ⟨v, v1, v2⟩
    · have := (N1 u hu).2.1.2
      omega
    · have := N2 u v hu (htl v v1) v2
      subst this
      exact hnt v1
  · unfold gwC
    rw [t2]
    exact ⟨Nat.le_refl _, by show 10 * (σ.2.2.1 + _) ≤ _; omega, by show σ.2.2.2 + _ ≤ _; omega⟩
/-- a node's Scope is written -/
theorem n7_iv {m : Nat} {v : Value} (hm : σ.1 m = some (.inr (7, fs))) (iv : gIv st l b0 Q σ) : gIv st l b0 Q (oput σ m (.inr (7, fs.set 20 v))) ∧ gKp st l b0 (fun _ => False) σ (oput σ m (.inr (7, fs.set 20 v))) ∧ (∀ x cc, σ.1 x = some cc → (∀ f, cc ≠ .inr (7, f)) → (oput σ m (.inr (7, fs.set 20 v))).1 x = some cc) ∧ (∀ x f, (oput σ m (.inr (7, fs.set 20 v))).1 x = some (.inr (6, f)) → σ.1 x = some (.inr (6, f))) ∧ ∀ x, σ.1 x = none → (oput σ m (.inr (7, fs.set 20 v))).1 x = none := by
  have ne : ∀ {x cc}, σ.1 x = some cc → (∀ f, cc ≠ .inr (7, f)) → x ≠ m := fun {x cc} e h z => by
    rw [z, hm] at e
    injection e with e
    exact h _ e.symm
  have b6 : ∀ x f, (oput σ m (.inr (7, fs.set 20 v))).1 x = some (.inr (6, f)) → σ.1 x = some (.inr (6, f)) := fun x f e => by
    by_cases c : x = m
    · rw [c, oput_eq] at e; cases e
    · rw [oput_ne c] at e; exact e
  have tm : ∀ x, tmS b0 (oput σ m (.inr (7, fs.set 20 v))) x → tmS b0 σ x := fun x ⟨a, f, e0, e, e5⟩ => ⟨a, f, e0, b6 a f e, e5⟩
  have ld : ∀ x, ldS l (oput σ m (.inr (7, fs.set 20 v))) x → ldS l σ x := fun x ⟨i, mc, n, hi, e⟩ => ⟨i, mc, n, hi, by
    by_cases c : l i = m
    · rw [c, oput_eq] at e; cases e
    · rw [oput_ne c] at e; exact e⟩
  have none' : ∀ x, σ.1 x = none → (oput σ m (.inr (7, fs.set 20 v))).1 x = none := fun x e => by
    rw [oput_ne (fun z => by rw [z, hm] at e; cases e)]; exact e
  obtain ⟨i1, i2, i3, i4, i5, i6⟩ := iv
  refine ⟨⟨fun q hq => none' q (i1 q hq), i2, i3, i4, fun x hx => i5 x (tm x hx), fun x hx => i6 x (ld x hx)⟩, ⟨fun x cc e q => ?_, fun x f e => ⟨f, by rw [oput_ne (ne e (fun _ z => by cases z))]; exact e, rfl, fun _ _ _ => rfl⟩, fun x f e => ?_, Nat.le_refl _⟩, fun x cc e h => by rw [oput_ne (ne e h)]; exact e, b6, none'⟩
  · match cc, e, q with
    | .inr o, e, q =>
      exact ⟨by rw [oput_ne (ne e (fun f z => by injection z with z; exact q.1.2.2 (by rw [z])))]; exact e, q⟩
    | .inl z, e, q => exact ⟨by rw [oput_ne (ne e (fun f z => by cases z))]; exact e, q.1, fun w => q.2.1 (ld x w), fun w => q.2.2 (tm x w)⟩
  · by_cases c : x = m
    · subst c
      rw [hm] at e
      injection e with e
      injection e with e
      injection e with _ e
      subst e
      exact ⟨_, oput_eq _ _ _, by rw [List.length_set], fun i hi => List.getElem?_set_ne (fun z => hi z.symm)⟩
    · exact ⟨f, by rw [oput_ne c]; exact e, rfl, fun _ _ => rfl⟩
end GWK
