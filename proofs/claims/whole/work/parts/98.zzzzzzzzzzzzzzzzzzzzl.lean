/-! the class's gather(): a CASE says its INSTANCES, one by one -/
/-- a Known that is being made: its FACTS so far -/
def saI (st : Nat) (l : Nat → Nat) (b0 : Nat) (Q : Nat → Prop) (w ra sa cap : Nat) (kd : Int32) (σ : oSt) (F : List kFc) : Prop := ∃ fs hr gs, σ.1 w = some (.inr (4, fs)) ∧ fs.length = 15 ∧ (fs[0]? = some (.int kd) ∧ fs[1]? = some (.ref w) ∧ fs[5]? = some (.ref ra) ∧ fs[6]? = some (.ref sa) ∧ fs[7]? = some (.int (nI F.length)) ∧ fs[9]? = some (va_rf none) ∧ fs[10]? = some (va_rf none)) ∧ (σ.1 ra = some (.inl (.int, cap, .inl hr)) ∧ σ.1 sa = some (.inl (.object "LiquidTongue$Sum", cap, .inr (.inr (.inr (.inr gs)))))) ∧ (F.length ≤ cap ∧ cap ≤ 50000 ∧ b0 ≤ ra ∧ b0 ≤ sa ∧ Q ra ∧ Q sa) ∧ (qA st l b0 σ ra ∧ qA st l b0 σ sa) ∧ ∀ (i : Nat) (x : kFc), F[i]? = some x → hr i = jRc x.1 ∧ x.1 ≤ 4 ∧ ∃ su, gs i = some su ∧ cTq st l b0 Q σ su x.2
section SAI
variable {κ : oKv} {T n : Nat} {st : Nat} {l : Nat → Nat} {b0 : Nat} {nq : tQ → Int} {xs : List tQ} {Q : Nat → Prop} {σ σ' : oSt} {ch pg : Nat} {cf : List Value} {w ra sa cap : Nat} {kd : Int32} {F : List kFc}
theorem saI.sp {W : Nat → Prop} (h : saI st l b0 Q w ra sa cap kd σ F) (k : gKp st l b0 W σ σ') (hfr : ∀ q, σ.2.1 ≤ q → σ.1 q = none) : saI st l b0 Q w ra sa cap kd σ' F := by
  obtain ⟨fs, hr, gs, h1, h2, h3, ⟨h4, h5⟩, h6, ⟨q1, q2⟩, h7⟩ := h
  obtain ⟨a1, a2⟩ := k.ar h4 q1
  obtain ⟨b1, b2⟩ := k.ar h5 q2
  exact ⟨fs, hr, gs, k.ob h1 (by decide) (by decide) (by decide) (by decide), h2, h3, ⟨a1, b1⟩, h6, ⟨a2, b2⟩, fun i x e => ⟨(h7 i x e).1, (h7 i x e).2.1, (h7 i x e).2.2.imp fun su z => ⟨z.1, z.2.sp k (fun _ _ => Iff.rfl) hfr⟩⟩⟩
theorem saI.oq (h : saI st l b0 Q w ra sa cap kd σ F) : kGq st l b0 Q σ w w kd [] ∧ kOq st l b0 Q σ w F := by
  obtain ⟨fs, hr, gs, h1, h2, ⟨h3, h31, h35, h36, h37, h39, h310⟩, ⟨h4, h5⟩, ⟨h6, h61, h62⟩, h7, h8⟩ := h
  exact ⟨⟨fs, none, none, h1, h2, h3, h31, by decide, h39, h310, Or.inl ⟨rfl, rfl⟩⟩, fs, h1, h2, h37, by omega, Or.inr ⟨ra, sa, cap, hr, gs, h35, h36, h4, h5, ⟨⟨h6, h61⟩, h62⟩, h7, h8⟩⟩
/-- rows of FACTS and Knowns may be written: terms stay -/
theorem cTq.pt {su y : Nat} {u : kTe} {cc : oC} (h : cTq st l b0 Q σ su u) (hy : (∃ fs, σ.1 y = some (.inr (4, fs)) ∧ ∃ fs', cc = .inr (4, fs')) ∨ (Q y ∧ ∃ t m g, σ.1 y = some (.inl (t, m, g)) ∧ t ≠ .object "LiquidTongue$Name" ∧ ∃ z, cc = .inl z)) : cTq st l b0 Q (oput σ y cc) su u := by
  obtain ⟨na, ta, c, Ls, pl, ⟨g, h', s1, s2, s3, s4, s5⟩, h2, h3, h4, q1, q2⟩ := h
  have n1 : su ≠ y := fun e => by
    rcases hy with ⟨fs, z, -⟩ | ⟨_, t, m, g, z, -⟩
    · rw [← e, s1] at z; cases z
    · rw [← e, s1] at z; cases z
  have n2 : na ≠ y := fun e => by
    rcases hy with ⟨fs, z, -⟩ | ⟨_, t, m, g, z, z2, -⟩
    · rw [← e, s2] at z; cases z
    · rw [← e, s2] at z
      injection z with z
      injection z with z
      injection z with z _
      exact z2 z.symm
  have n3 : ta ≠ y := fun e => by
    rcases hy with ⟨fs, z, -⟩ | ⟨z, -⟩
    · rw [← e, s3] at z; cases z
    · rw [← e] at z; exact h3.2.2.2 z
  have n6 : ∀ a fs, σ.1 a = some (.inr (6, fs)) → a ≠ y := fun a fs ea e => by
    rcases hy with ⟨f', z, -⟩ | ⟨_, t, m, g, z, -⟩
    · rw [← e, ea] at z; cases z
    · rw [← e, ea] at z; cases z
  have qq : ∀ x, qA st l b0 σ x → qA st l b0 (oput σ y cc) x := fun x ⟨w1, w2, w3⟩ => by
    refine ⟨w1, fun ⟨i, mc, m, hi, e⟩ => ?_, fun ⟨a, fs, e0, e, e5⟩ => ?_⟩
    · by_cases c : l i = y
      · rw [c, oput_eq] at e
        injection e with e
        rcases hy with ⟨_, _, f', z⟩ | ⟨_, _, _, _, _, _, z', z⟩
        · rw [z] at e; cases e
        · rw [z] at e; cases e
      · rw [oput_ne c] at e; exact w2 ⟨i, mc, m, hi, e⟩
    · by_cases c : a = y
      · rw [c, oput_eq] at e
        injection e with e
        rcases hy with ⟨_, _, f', z⟩ | ⟨_, _, _, _, _, _, z', z⟩
        · rw [z] at e; cases e
        · rw [z] at e; cases e
      · rw [oput_ne c] at e; exact w3 ⟨a, fs, e0, e, e5⟩
  exact ⟨na, ta, c, Ls, pl, ⟨g, h', by rw [oput_ne n1]; exact s1, by rw [oput_ne n2]; exact s2, by rw [oput_ne n3]; exact s3, s4, fun i b d e => ⟨(s5 i b d e).1, (s5 i b d e).2.1, (s5 i b d e).2.2.imp fun fs z => by rw [oput_ne (n6 _ _ z)]; exact z⟩⟩, h2, h3, h4, qq _ q1, qq _ q2⟩
/-- **say()**: one FACT more -/
theorem saI.say {su : Nat} {x : kFc} (h : saI st l b0 Q w ra sa cap kd σ F) (hF : F.length < cap) (hx : x.1 ≤ 4) (hu : cTq st l b0 Q σ su x.2) (iv : gIv st l b0 Q σ) (nt : ntI st l b0 nq xs Q σ) : ∃ σ', oF κ T (n + 1) 16 [va_rf (some w), .int (jRc x.1), va_rf (some su)] σ = some (none, σ') ∧ saI st l b0 Q w ra sa cap kd σ' (F ++ [x]) ∧ gIv st l b0 Q σ' ∧ ntI st l b0 nq xs Q σ' ∧ σ'.2 = σ.2 ∧ (∀ y, y ≠ w → y ≠ ra → y ≠ sa → σ'.1 y = σ.1 y) ∧ (∀ y u, cTq st l b0 Q σ y u → cTq st l b0 Q σ' y u) ∧ ∀ a, b0 ≤ a → tmU xs.length σ' a = tmU xs.length σ a := by
  obtain ⟨fs, hr, gs, h1, h2, ⟨h3, h31, h35, h36, h37, h39, h310⟩, ⟨h4, h5⟩, ⟨h6, h61, h62, h63, qa, qb⟩, ⟨q1, q2⟩, h8⟩ := id h
  obtain ⟨fu, u1⟩ := hu.sm
  have R := c_say (κ := κ) (T := T) (n := n) (rl := jRc x.1) h1 h2 h35 h36 h37 h4 h5 hF (by omega) u1
  have n1 : w ≠ ra := fun e => by rw [e, h4] at h1; cases h1
  have n2 : w ≠ sa := fun e => by rw [e, h5] at h1; cases h1
  have n3 : sa ≠ ra := fun e => by rw [e, h4] at h5; cases h5
  have k1 : ∀ {y u}, cTq st l b0 Q σ y u → cTq st l b0 Q (oput σ ra (.inl (.int, cap, .inl (upd hr F.length (jRc x.1))))) y u := fun h => h.pt (Or.inr ⟨qa, _, _, _, h4, by decide, _, rfl⟩)
  have e5 : (oput σ ra (.inl (.int, cap, .inl (upd hr F.length (jRc x.1))))).1 sa = some (.inl (.object "LiquidTongue$Sum", cap, .inr (.inr (.inr (.inr gs))))) := (oput_ne n3).trans h5
  have k2 : ∀ {y u}, cTq st l b0 Q σ y u → cTq st l b0 Q (oput (oput σ ra (.inl (.int, cap, .inl (upd hr F.length (jRc x.1))))) sa (.inl (.object "LiquidTongue$Sum", cap, .inr (.inr (.inr (.inr (va_up gs F.length (some su)))))))) y u := fun h => (k1 h).pt (Or.inr ⟨qb, _, _, _, e5, by decide, _, rfl⟩)
  have e1 : (oput (oput σ ra (.inl (.int, cap, .inl (upd hr F.length (jRc x.1))))) sa (.inl (.object "LiquidTongue$Sum", cap, .inr (.inr (.inr (.inr (va_up gs F.length (some su)))))))).1 w = some (.inr (4, fs)) := (oput_ne n2).trans ((oput_ne n1).trans h1)
  have k3 : ∀ y u, cTq st l b0 Q σ y u → cTq st l b0 Q (oput (oput (oput σ ra (.inl (.int, cap, .inl (upd hr F.length (jRc x.1))))) sa (.inl (.object "LiquidTongue$Sum", cap, .inr (.inr (.inr (.inr (va_up gs F.length (some su)))))))) w (.inr (4, fs.set 7 (.int (nI (F.length + 1)))))) y u := fun y u h => (k2 h).pt (Or.inl ⟨_, e1, _, rfl⟩)
  refine ⟨_, R, ?_⟩
  generalize eS : oput (oput (oput σ ra (.inl (.int, cap, .inl (upd hr F.length (jRc x.1))))) sa (.inl (.object "LiquidTongue$Sum", cap, .inr (.inr (.inr (.inr (va_up gs F.length (some su)))))))) w (.inr (4, fs.set 7 (.int (nI (F.length + 1))))) = S at k3
  have so : ∀ y, y ≠ w → y ≠ ra → y ≠ sa → S.1 y = σ.1 y := fun y a b c => by rw [← eS, oput_ne a, oput_ne c, oput_ne b]
  have sw : S.1 w = some (.inr (4, fs.set 7 (.int (nI (F.length + 1))))) := by rw [← eS, oput_eq]
  have sra : S.1 ra = some (.inl (.int, cap, .inl (upd hr F.length (jRc x.1)))) := by rw [← eS, oput_ne (Ne.symm n1), oput_ne (Ne.symm n3), oput_eq]
  have ssa : S.1 sa = some (.inl (.object "LiquidTongue$Sum", cap, .inr (.inr (.inr (.inr (va_up gs F.length (some su))))))) := by rw [← eS, oput_ne (Ne.symm n2), oput_eq]
  have s2 : S.2 = σ.2 := by rw [← eS]; rfl
  have nm : ∀ a f, S.1 a = some (.inr (6, f)) ↔ σ.1 a = some (.inr (6, f)) := fun a f => by
    by_cases c1 : a = w
    · subst c1; rw [sw, h1]; exact ⟨fun e => (by cases e), fun e => (by cases e)⟩
    by_cases c2 : a = ra
    · subst c2; rw [sra, h4]; exact ⟨fun e => (by cases e), fun e => (by cases e)⟩
    by_cases c3 : a = sa
    · subst c3; rw [ssa, h5]; exact ⟨fun e => (by cases e), fun e => (by cases e)⟩
    rw [so a c1 c2 c3]
  have tm : ∀ y, tmS b0 S y → tmS b0 σ y := fun y ⟨a, f, e0, e, e5⟩ => ⟨a, f, e0, (nm a f).mp e, e5⟩
  have ld : ∀ y, ldS l S y → ldS l σ y := fun y ⟨i, mc, m, hi, e⟩ => by
    refine ⟨i, mc, m, hi, ?_⟩
    rw [← so (l i) (fun c => by rw [c, sw] at e; cases e) (fun c => by rw [c, sra] at e; cases e) (fun c => by rw [c, ssa] at e; cases e)]
    exact e
  have qq : ∀ y, qA st l b0 σ y → qA st l b0 S y := fun y ⟨a, b, c⟩ => ⟨a, fun z => b (ld y z), fun z => c (tm y z)⟩
  have row : ∀ a f t, b0 ≤ a → σ.1 a = some (.inr (6, f)) → f[5]? = some (.ref t) → S.1 t = σ.1 t := fun a f t hb e e5 => by
    have tt : tmS b0 σ t := ⟨a, f, hb, e, e5⟩
    obtain ⟨-, z | ⟨t', g, w1, w2, -⟩⟩ := nt.1 a f hb e
    · rw [z] at e5; cases e5
    · rw [w1] at e5
      injection e5 with e5
      injection e5 with e5
      rw [e5] at w2
      exact so t (fun c => by rw [c, h1] at w2; cases w2) (fun c => by rw [c, h4] at w2; cases w2) (fun c => q2.2.2 (by rw [← c]; exact tt))
  refine ⟨⟨_, _, _, sw, by rw [List.length_set]; exact h2, ⟨?_, ?_, ?_, ?_, ?_, ?_, ?_⟩, ⟨sra, ssa⟩, ⟨by rw [List.length_append]; show F.length + 1 ≤ cap; omega, h61, h62, h63, qa, qb⟩, ⟨qq _ q1, qq _ q2⟩, fun i y e => ?_⟩, ⟨fun q hq => ?_, fun i hi => by rw [s2]; exact iv.2.1 i hi, by rw [s2]; exact iv.2.2.1, fun y hy => by rw [s2]; exact iv.2.2.2.1 y hy, fun y hy => by rw [s2]; exact iv.2.2.2.2.1 y (tm y hy), fun y hy => by rw [s2]; exact iv.2.2.2.2.2 y (ld y hy)⟩, ⟨fun a f hb e => ?_, fun a a' f f' t hb hb' e e' e5 e5' => nt.2 a a' f f' t hb hb' ((nm a f).mp e) ((nm a' f').mp e') e5 e5'⟩, s2, so, k3, fun a hb => ?_⟩
  · rw [List.getElem?_set_ne (by decide)]; exact h3
  · rw [List.getElem?_set_ne (by decide)]; exact h31
  · rw [List.getElem?_set_ne (by decide)]; exact h35
  · rw [List.getElem?_set_ne (by decide)]; exact h36
  · rw [List.getElem?_set_self (by omega), List.length_append]; rfl
  · rw [List.getElem?_set_ne (by decide)]; exact h39
  · rw [List.getElem?_set_ne (by decide)]; exact h310
  · by_cases c : i < F.length
    · rw [List.getElem?_append_left c] at e
      obtain ⟨y1, y2, su', y3, y4⟩ := h8 i y e
      refine ⟨?_, y2, su', ?_, k3 _ _ y4⟩
      · show (if i = F.length then jRc x.1 else hr i) = _
        rw [if_neg (by omega)]; exact y1
      · show (if i = F.length then some su else gs i) = _
        rw [if_neg (by omega)]; exact y3
    · rw [List.getElem?_append_right (by omega)] at e
      have zi : i - F.length = 0 := by
        cases e' : i - F.length with
        | zero => rfl
        | succ j => rw [e'] at e; cases e
      rw [zi] at e
      injection e with e
      have : i = F.length := by omega
      subst this
      rw [← e]
      refine ⟨?_, hx, su, ?_, k3 _ _ hu⟩
      · show (if F.length = F.length then jRc x.1 else hr F.length) = _
        rw [if_pos rfl]
      · show (if F.length = F.length then some su else gs F.length) = _
        rw [if_pos rfl]
  · rw [s2] at hq
    rw [so q (fun c => by rw [← c, iv.1 q hq] at h1; cases h1) (fun c => by rw [← c, iv.1 q hq] at h4; cases h4) (fun c => by rw [← c, iv.1 q hq] at h5; cases h5)]
    exact iv.1 q hq
  · have e' := (nm a f).mp e
    obtain ⟨y1, y2⟩ := nt.1 a f hb e'
    refine ⟨y1, y2.imp id (fun ⟨t, g, z1, z2, z3⟩ => ⟨t, g, z1, by rw [row a f t hb e' z1]; exact z2, fun j x hx hs su hsu => k3 _ _ (z3 j x hx hs su hsu)⟩)⟩
  · by_cases c1 : a = w
    · unfold tmU
      have z1 : ofd S (some a) 6 5 = none := by rw [c1]; simp [ofd, sw]
      have z2 : ofd σ (some a) 6 5 = none := by rw [c1]; simp [ofd, h1]
      rw [z1, z2]
      rfl
    by_cases c2 : a = ra
    · unfold tmU
      have z1 : ofd S (some a) 6 5 = none := by rw [c2]; simp [ofd, sra]
      have z2 : ofd σ (some a) 6 5 = none := by rw [c2]; simp [ofd, h4]
      rw [z1, z2]
      rfl
    by_cases c3 : a = sa
    · unfold tmU
      have z1 : ofd S (some a) 6 5 = none := by rw [c3]; simp [ofd, ssa]
      have z2 : ofd σ (some a) 6 5 = none := by rw [c3]; simp [ofd, h5]
      rw [z1, z2]
      rfl
    exact tmU_cg (so a c1 c2 c3) (fun f t e e5 => row a f t hb e e5)
end SAI
