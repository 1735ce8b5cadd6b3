/-! weakenAll(): the state while INSTANCES are lost -/
theorem gMo.tr {a b c : Nat} {σ σ1 σ2 : oSt} (h : gMo a b σ σ1) (g : gMo b c σ1 σ2) : gMo a c σ σ2 := by
  obtain ⟨h1, h2, ⟨k, h3, h4⟩, h5⟩ := h
  obtain ⟨g1, g2, ⟨k', g3, g4⟩, g5⟩ := g
  refine ⟨by omega, by omega, ⟨k + k', by omega, ?_⟩, by omega⟩
  rw [Nat.pow_add, ← Nat.mul_assoc]
  exact Nat.le_trans (Nat.mul_le_mul_right _ h4) g4
/-- the state of weakenAll() -/
def wyI (st : Nat) (l : Nat → Nat) (b0 : Nat) (Q : Nat → Prop) (K : Int) (j o pa ph ta th ch la N len0 : Nat) (cf : List Value) (σ0 σG σ : oSt) (Fc : Nat → Nat → Bool) (lk : Nat → Int32) : Prop := (∃ ca len W b cl fa fo rd wk ps P Tr, jSt σ j o ca pa ph ta th len W b cl fa fo rd wk ps P Tr ∧ len ≤ 201600 ∧ gMo len0 len σ0 σ) ∧ wFr Q pa ph ta th σG σ ∧ wkD st l b0 Q σG σ Fc ∧ (∀ w, ¬ Q w → ∀ i, Fc w i = true) ∧ (rwI 0 σ ∧ kn8 σ ∧ cnI K σ) ∧ σ.1 ch = some (.inr (2, cf)) ∧ σ.1 la = some (.inl (.int, N, .inl lk))
/-- what is known of the row of looks -/
def wyL (b0 : Nat) (Q : Nat → Prop) (la : Nat) (σG : oSt) : Prop := Q la ∧ b0 ≤ la ∧ (∃ y, σG.1 la = some (.inl (.int, y))) ∧ ∀ w fs i r, σG.1 w = some (.inr (4, fs)) → (i = 5 ∨ i = 6) → fs[i]? = some (.ref r) → r ≠ la
section WYI
variable {st : Nat} {l : Nat → Nat} {b0 : Nat} {Q : Nat → Prop} {K : Int} {j o pa ph ta th ch la N len0 : Nat} {cf : List Value} {σ0 σG σ σ' : oSt} {Fc Fc' : Nat → Nat → Bool} {lk : Nat → Int32}
theorem wFr.lw (h : wFr Q pa ph ta th σG σ) (hq : Q la) {y y' : Nat × _} (e : σ.1 la = some (.inl (.int, y))) : wFr Q pa ph ta th σG (oput σ la (.inl (.int, y'))) := by
  obtain ⟨h1, h2, h3, h4⟩ := h
  refine ⟨fun x cc ex f n4 n6 n2 nq => ?_, fun x gs ex => ?_, fun x gs ex => ?_, h4⟩
  · have e' := h1 x cc ex f n4 n6 n2 nq
    have ne : x ≠ la := fun z => by
      rw [z, e] at e'
      injection e' with e'
      exact nq _ e'.symm (Or.inl rfl) (by rw [z]; exact hq)
    rw [oput_ne ne]; exact e'
  · obtain ⟨fs', e1, e2⟩ := h2 x gs ex
    exact ⟨fs', by rw [oput_ne (fun z => by rw [z, e] at e1; cases e1)]; exact e1, e2⟩
  · obtain ⟨fs', e1, e2⟩ := h3 x gs ex
    exact ⟨fs', by rw [oput_ne (fun z => by rw [z, e] at e1; cases e1)]; exact e1, e2⟩
/-- FACTS lie elsewhere -/
theorem kOr.lw {w ra sa : Nat} {F : List kFc} (hq : Q la) {y y' : Nat × _} (e : σ.1 la = some (.inl (.int, y))) (c : kOr (b0, Q) σ w ra sa F) (hr : F ≠ [] → ra ≠ la) : kOr (b0, Q) (oput σ la (.inl (.int, y'))) w ra sa F := by
  obtain ⟨fs, cap, hr', gs, c1, c2, c3, c4, c5⟩ := c
  have no : ∀ {x cc}, σ.1 x = some cc → (∀ z, cc ≠ .inl (.int, z)) → (oput σ la (.inl (.int, y'))).1 x = some cc := fun {x cc} ex n => by
    rw [oput_ne (fun z => by rw [z, e] at ex; injection ex with ex; exact n _ ex.symm)]; exact ex
  refine ⟨fs, cap, hr', gs, no c1 (fun z q => by cases q), c2, c3, c4, ?_⟩
  by_cases cF : F = []
  · exact Or.inl cF
  · rcases c5 with c5 | ⟨p1, p2, p3, p4, p5, p10⟩
    · exact absurd c5 cF
    · refine Or.inr ⟨p1, p2, by rw [oput_ne (hr cF)]; exact p3, no p4 (fun z q => by injection q with q; injection q with q _; cases q), p5, fun i x hx => ?_⟩
      obtain ⟨q1, q2, su, q3, na, tb, cap', Ls, pl, ⟨g, h', s1, s2, s3, s4, s5⟩, h2, ⟨h3, h4, h5, h6⟩, h7⟩ := p10 i x hx
      have h6 : ¬ Q tb := h6
      refine ⟨q1, q2, su, q3, na, tb, cap', Ls, pl, ⟨g, h', no s1 (fun z q => by cases q), no s2 (fun z q => by injection q with q; injection q with q _; cases q), by rw [oput_ne (fun z => h6 (by rw [z]; exact hq))]; exact s3, s4, fun k' b c e => ?_⟩, h2, ⟨h3, h4, h5, h6⟩, h7⟩
      obtain ⟨p1, p2, fs, p3⟩ := s5 k' b c e
      exact ⟨p1, p2, fs, no p3 (fun z q => by cases q)⟩
theorem jSt.no {ca len W b : Nat} {cl fa : Int32} {fo : Nat → Int64} {rd : Int32} {wk : Option Nat} {ps : Int32} {P Tr : List (Nat × Bool)} (J : jSt σ j o ca pa ph ta th len W b cl fa fo rd wk ps P Tr) {a : Nat} {c c' : oC} (e : σ.1 a = some c) (hc : (∃ fs, c = .inr (4, fs)) ∨ ∃ y, c = .inl (.int, y)) : jSt (oput σ a c') j o ca pa ph ta th len W b cl fa fo rd wk ps P Tr := by
  obtain ⟨a1, ⟨a2, a3⟩, ⟨gp, hp, a4, a5, -⟩, ⟨gt, ht, a6, a7, -⟩, -⟩ := id J
  refine J.cg (fun x hx => oput_ne (fun z => ?_))
  subst z
  rcases hc with ⟨fs, hc⟩ | ⟨y, hc⟩ <;> rw [hc] at e <;> rcases hx with q | q | q | q | q | q | q <;> subst q
  · rw [a1] at e; injection e with e; injection e with e; injection e with e _; cases e
  · rw [a2] at e; injection e with e; injection e with e; injection e with e _; cases e
  · rw [a3] at e; cases e
  · rw [a4] at e; cases e
  · rw [a5] at e; cases e
  · rw [a6] at e; cases e
  · rw [a7] at e; cases e
  · rw [a1] at e; cases e
  · rw [a2] at e; cases e
  · rw [a3] at e; injection e with e; injection e with e; injection e with e _; cases e
  · rw [a4] at e; injection e with e; injection e with e; injection e with e _; cases e
  · rw [a5] at e; injection e with e; injection e with e; injection e with e _; cases e
  · rw [a6] at e; injection e with e; injection e with e; injection e with e _; cases e
  · rw [a7] at e; injection e with e; injection e with e; injection e with e _; cases e
/-- a look is written -/
theorem wyI.lw (hL : wyL b0 Q la σG) (h : wyI st l b0 Q K j o pa ph ta th ch la N len0 cf σ0 σG σ Fc lk) (lk' : Nat → Int32) : wyI st l b0 Q K j o pa ph ta th ch la N len0 cf σ0 σG (oput σ la (.inl (.int, N, .inl lk'))) Fc lk' := by
  obtain ⟨q1, q2, q3, q4⟩ := hL
  obtain ⟨⟨ca, len, W, b, cl, fa, fo, rd, wk, ps, P, Tr, J, j1, j2⟩, h2, h3, h4, ⟨h5, h6, h7⟩, h8, h9⟩ := h
  refine ⟨⟨ca, len, W, b, cl, fa, fo, rd, wk, ps, P, Tr, J.no h9 (Or.inr ⟨_, rfl⟩), j1, j2⟩, h2.lw q1 h9, fun w F hF => ?_, h4, ⟨h5.pu h9 (fun fs' i r z => by cases z), h6.pu (fun fs' z => by cases z), h7⟩, by rw [oput_ne (fun z => by rw [z, h9] at h8; cases h8)]; exact h8, oput_eq _ _ _⟩
  obtain ⟨ra, sa, g1, g2⟩ := h3 w F hF
  have ne : F ≠ [] → ra ≠ la := fun z => by
    obtain ⟨-, fs, f1, f5, -⟩ := g2 z
    exact q4 w fs 5 ra f1 (Or.inl rfl) f5
  refine ⟨ra, sa, g1.lw q1 h9 (fun z => ne (fun y => z (by rw [y]; rfl))), fun z => ⟨?_, (g2 z).2⟩⟩
  obtain ⟨⟨⟨y, r1⟩, ⟨y', r2⟩⟩, r3⟩ := (g2 z).1
  exact ⟨⟨⟨y, by rw [oput_ne (ne z)]; exact r1⟩, y', by rw [oput_ne (fun q => by rw [q, h9] at r2; injection r2 with r2; injection r2 with r2; injection r2 with r2 _; cases r2)]; exact r2⟩, r3⟩
/-- when a Known was changed is written -/
theorem wyI.cw (h : wyI st l b0 Q K j o pa ph ta th ch la N len0 cf σ0 σG σ Fc lk) {w : Nat} {fs : List Value} (e : σ.1 w = some (.inr (4, fs))) (hl : fs.length = 15) {v : Int32} (hv : 0 ≤ v.toInt) : wyI st l b0 Q K j o pa ph ta th ch la N len0 cf σ0 σG (oput σ w (.inr (4, fs.set 8 (.int v)))) Fc lk := by
  obtain ⟨⟨ca, len, W, b, cl, fa, fo, rd, wk, ps, P, Tr, J, j1, j2⟩, h2, h3, h4, ⟨h5, h6, h7⟩, h8, h9⟩ := h
  have no : ∀ {x cc}, σ.1 x = some cc → (∀ z, cc ≠ .inr (4, z)) → (oput σ w (.inr (4, fs.set 8 (.int v)))).1 x = some cc := fun {x cc} ex n => by
    rw [oput_ne (fun z => by rw [z, e] at ex; injection ex with ex; exact n _ ex.symm)]; exact ex
  refine ⟨⟨ca, len, W, b, cl, fa, fo, rd, wk, ps, P, Tr, J.no e (Or.inl ⟨_, rfl⟩), j1, j2⟩, h2.ch e, fun x F hF => ?_, h4, ⟨h5.pu e (fun fs' i r z hi hr => ?_), h6.pu (fun fs' z => ?_), h7⟩, no h8 (fun z q => by cases q), no h9 (fun z q => by cases q)⟩
  · obtain ⟨ra, sa, g1, g2⟩ := h3 x F hF
    refine ⟨ra, sa, g1.ag (fun x cc ex n _ => no ex n) (fun x gs ex => ?_), fun z => ⟨?_, (g2 z).2⟩⟩
    · by_cases z : x = w
      · rw [z, e] at ex
        injection ex with ex; injection ex with ex; injection ex with _ ex
        subst ex
        exact ⟨_, by rw [z, oput_eq], List.length_set, fun i hi => List.getElem?_set_ne (fun q => hi q.symm)⟩
      · exact ⟨gs, by rw [oput_ne z]; exact ex, rfl, fun i _ => rfl⟩
    · obtain ⟨⟨⟨y, r1⟩, ⟨y', r2⟩⟩, r3⟩ := (g2 z).1
      exact ⟨⟨⟨y, no r1 (fun z q => by cases q)⟩, y', no r2 (fun z q => by cases q)⟩, r3⟩
  · injection z with z; injection z with _ z
    rw [← z] at hr
    refine ⟨fs, rfl, ?_⟩
    rcases hi with rfl | rfl
    · rw [List.getElem?_set_ne (by decide)] at hr; exact hr
    · rw [List.getElem?_set_ne (by decide)] at hr; exact hr
  · injection z with z; injection z with _ z
    rw [← z]
    exact ⟨v, List.getElem?_set_self (by omega), hv⟩
theorem chG_ch {w : Nat} {fs : List Value} (e : σ.1 w = some (.inr (4, fs))) (hl : fs.length = 15) (v : Int32) (x : Nat) : chG (oput σ w (.inr (4, fs.set 8 (.int v)))) x = if x = w then v else chG σ x := by
  by_cases c : x = w
  · rw [if_pos c, c]
    exact chG_at (oput_eq _ _ _) (List.getElem?_set_self (by omega))
  · rw [if_neg c]
    unfold chG
    simp only [ofd, oput_ne c]
theorem chG_la {y y' : Nat × _} (e : σ.1 la = some (.inl (.int, y))) (x : Nat) : chG (oput σ la (.inl (.int, y'))) x = chG σ x := by
  by_cases c : x = la
  · unfold chG
    simp only [ofd, c, oput_eq, e]
  · unfold chG
    simp only [ofd, oput_ne c]
theorem chG_kx {X : Nat → Prop} (k : jKx X pa ph ta th σ σ') {x : Nat} {fs : List Value} (e : σ.1 x = some (.inr (4, fs))) : chG σ' x = chG σ x := by
  obtain ⟨fs', e1, e2, e3⟩ := k.2.1 x fs e
  unfold chG
  rw [ofd_at e1, ofd_at e, e3 8 (by decide) (fun z => absurd z (by decide))]
theorem wyI.chi (h : wyI st l b0 Q K j o pa ph ta th ch la N len0 cf σ0 σG σ Fc lk) : chI σG σ := fun w fs e => by
  obtain ⟨fs', e1, -⟩ := h.2.1.2.1 w fs e
  obtain ⟨v, v1, -⟩ := h.2.2.2.2.1.2.1 w fs' e1
  exact ⟨fs', v, e1, v1⟩
theorem kn8.ge (h : kn8 σ) {w : Nat} {fs : List Value} (e : σ.1 w = some (.inr (4, fs))) : 0 ≤ (chG σ w).toInt := by
  obtain ⟨v, v1, v2⟩ := h w fs e
  rw [chG_at e v1]; exact v2
end WYI
