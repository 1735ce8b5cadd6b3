/-! accepted(): the PROGRAM goes on, all of it -/
section LA5
variable {κ : oKv} {T lo cnt sz x : Nat} {kk pp ee f fc : Nat → Int32} {is : List (Nat × Nat)} {e : tT} {α : Nat → tY} {B : Nat → Nat} {p : Nat} {V : oSt} {D : cDt} {nm : Nat → Option Nat} {e0 : Nat} {g : gG} {ρ : Nat → tY} {lv : Int32} {σ u : oSt} {τ v : zSt} {pa ph ta th : Nat}
/-- of the class's state -/
theorem pgS.ac (h : pgS κ T lo cnt kk pp ee f fc is e α B p V D nm e0 g ρ lv σ) (hpV : p < V.2.1) (hP : acP pa ph ta th σ u) (hl : pa < lo ∧ ph < lo ∧ ta < lo ∧ th < lo) : pgS κ T lo cnt kk pp ee f fc is e α B p V D nm e0 g ρ lv u := by
  obtain ⟨⟨h1, h2, h3, h4⟩, hlp, hy, hn, hX, he, c, c1, c2⟩ := h
  obtain ⟨k1, k2, k3, k4, k5⟩ := hP
  have o8 : ∀ m k, k ≠ 20 → ofd u (some m) 7 k = ofd σ (some m) 7 k ∨ ofd σ (some m) 7 k = none := fun m k hk => by
    cases q : ofd σ (some m) 7 k with
    | none => exact Or.inr rfl
    | some y =>
      obtain ⟨a, fs, e1, e2, e3⟩ := lg_ofd q
      injection e1 with e1
      subst e1
      obtain ⟨gs, g1, g2, g3⟩ := k3 _ fs e2
      refine Or.inl ?_
      rw [ofd_at g1, g3 k hk]
      exact e3
  refine ⟨⟨fun a fs ha ea => ?_, fun a fs ha ea => ?_, fun a cc ha ea n7 n6 n2 n8 => ?_, h4⟩, hlp, ?_, fun w hw => ?_, ?_, he, c, ?_, c2⟩
  · obtain ⟨v1, w1, q⟩ := h1 a fs ha ea
    obtain ⟨gs, g1, g2, g3⟩ := k3 a _ q
    obtain ⟨w', g4⟩ := set20 (fs := fs.set 8 v1) (gs := gs) (w := w1) (by rw [g2, List.length_set]) g3
    exact ⟨v1, w', by rw [g1, g4]⟩
  · obtain ⟨gs, q, q1, q2, q3⟩ := h2 a fs ha ea
    obtain ⟨gs', g1, g2, g3⟩ := k4 a _ q
    exact ⟨gs', g1, g2.trans q1, (g3 0 (by decide)).trans q2, (g3 1 (by decide)).trans q3⟩
  · have q := h3 a cc ha ea n7 n6 n2 n8
    cases cc with
    | inl y => exact k2 a y q (fun z => n8 y.2 (by rw [← z])) ⟨by omega, by omega, by omega, by omega⟩
    | inr o =>
      obtain ⟨k, fs⟩ := o
      refine k1 a k fs q (fun z => ?_)
      have z2 := n2 k fs rfl
      simp only [List.mem_cons, List.not_mem_nil, or_false] at z z2
      have : k ≠ 6 := fun w => n6 fs (by rw [w])
      have : k ≠ 7 := fun w => n7 fs (by rw [w])
      omega
  · obtain ⟨F, ⟨y1, y2, y3⟩, y4⟩ := hy
    refine ⟨F, ⟨k1 _ _ _ y1 (by decide), fun i hi => k2 _ _ (y2 i hi) (fun z => by cases z) ?_, y3⟩, y4⟩
    have q : lo ≤ V.2.1 + 1 + i := by omega
    have q' : lo ≤ (fun i => V.2.1 + 1 + i) i := q
    exact ⟨by omega, by omega, by omega, by omega⟩
  · obtain ⟨b, fs, c', gs, b1, b2, b3, b4, b5, b6, b7, b8⟩ := hn w hw
    obtain ⟨gs', g1, g2, g3⟩ := k4 b gs b4
    exact ⟨b, fs, c', gs', b1, b2, b3, g1, (g3 2 (by decide)).trans b5, b6, b7, (g3 3 (by decide)).trans b8⟩
  · exact cTX.imo (lo0 := 0) e p _ _ _ _ _ (Nat.zero_le _) (fun m w fs _ hm' hx => by
      obtain ⟨⟨c', d1, d2⟩, hm⟩ := hx
      refine ⟨⟨c', ?_, d2⟩, hm⟩
      rcases o8 m 8 (by decide) with z | z
      · rw [z]; exact d1
      · rw [z] at d1; cases d1) hX
  · rcases o8 e0 8 (by decide) with z | z
    · rw [z]; exact c1
    · rw [z] at c1; cases c1
/-- no Octagon has the Machine's row of longs -/
def noO (x : Nat) (σ : oSt) : Prop := ∀ fs ma fm va, σ.1 x = some (.inr (14, fs)) → fs[12]? = some (.ref ma) → σ.1 ma = some (.inr (5, fm)) → fm[2]? = some (.ref va) → ∀ o gs, σ.1 o = some (.inr (8, gs)) → gs[0]? ≠ some (.ref va)
variable {q : pgQt} {jd o ca lenJ W b : Nat} {cl fa rd ps : Int32} {fo : Nat → Int64} {wk : Option Nat} {Pj Tr : List (Nat × Bool)} {fs : List Value} {w : Value}
/-- **a PROGRAM goes on over accepted()** -/
theorem pgB.ac (h : pgB κ T sz x q σ τ) (oR : oRm sz σ) (hno : noO x σ) (J : jSt σ jd o ca pa ph ta th lenJ W b cl fa fo rd wk ps Pj Tr) (hpa : pa < pgLo q ∧ ph < pgLo q ∧ ta < pgLo q ∧ th < pgLo q) (hx : σ.1 x = some (.inr (14, fs))) (hP : acP pa ph ta th σ u) (ux : u.1 x = some (.inr (14, (fs.set 4 w).set 5 (.int (v.1 69))))) (hv : acR τ v) (hlg : ∀ va fv, lgP va fv σ → lgP va fv u) : pgB κ T sz x q u v ∧ noO x u := by
  obtain ⟨len, cnt, j, kk, pp, ee, f, fc, xs, is, e, α, lo, p, B, V, D, at2, cd', am2, nm, e0, fb, fr, fz, fn, g, ρ, lv, N, S, P, A, x0, g', ρ'⟩ := q
  obtain ⟨hT, hV, ⟨hB, hsz, hxl, ta', hta, hta'⟩, hS, hX, hR, ma, va, ra, fm, fv, gr, ⟨⟨gs, m1, m2⟩, ⟨m3, m4, m5, m6⟩, m7, m8, m9, m10⟩, ⟨g1, g2⟩, ⟨l1, l2, l3, l4⟩, l5⟩ := h
  rw [hx] at m1
  injection m1 with m1; injection m1 with m1; injection m1 with _ m1
  subst m1
  have lt : ∀ {a : Nat} {c : oC}, σ.1 a = some c → a < σ.2.1 := fun {a c} ea => by
    by_cases z : a < σ.2.1
    · exact z
    · rw [oR.2.1 a (by omega)] at ea; cases ea
  have st : ∀ k, k ≠ 4 → k ≠ 5 → ((fs.set 4 w).set 5 (.int (v.1 69)))[k]? = fs[k]? := fun k h4 h5 => by
    rw [List.getElem?_set_ne (fun z => h5 z.symm), List.getElem?_set_ne (fun z => h4 z.symm)]
  have L := hlg va (6, fv) ⟨lt m7, m7, hno fs ma fm va hx m2 m3 m5⟩
  have um := hP.1 ma 5 fm m3 (by decide)
  have ur : ∀ {a n} {h : Nat → Int32}, σ.1 a = some (.inl (.int, n, .inl h)) → u.1 a = some (.inl (.int, n, .inl h)) := fun {a n h} ea => hP.2.1 a _ ea (fun z => by cases z) (J.nr ea (fun z => by cases z) (fun z => by cases z) (fun z => by cases z))
  refine ⟨⟨hT, hV, ⟨hB, hsz, hxl, ta', ?_, hta'⟩, hS.ac hV.2.1 hP hpa, hX.ac hx hP ux, hR.ac hv, ma, va, ra, fm, fv, gr, ⟨⟨_, ux, by rw [st 12 (by decide) (by decide)]; exact m2⟩, ⟨um, m4, m5, m6⟩, L.2.1, hP.2.1 ra _ m8 (fun z => by cases z) (J.nr m8 (fun z => by cases z) (fun z => by cases z) (fun z => by cases z)), fun i b hi hb => ?_, m10⟩, ⟨fun i hi => ?_, fun i y hi hy => ?_⟩, ⟨l1, l2, l3, Nat.le_trans l4 hP.2.2.2.2⟩, l5⟩, fun fs' ma' fm' va' e1 e2 e3 e4 => ?_⟩
  · rw [ofd_at ux, st 0 (by decide) (by decide)]
    rw [ofd_at hx] at hta
    exact hta
  · obtain ⟨h', e'⟩ := m9 i b hi hb
    exact ⟨h', ur e'⟩
  · rw [hv.2.2.2.1.2.2 103 (by decide)]; exact g1 i hi
  · obtain ⟨r1, r2⟩ := g2 i y hi hy
    refine ⟨r1, fun k hk => ?_⟩
    obtain ⟨b, h', q1, q2, q3⟩ := r2 k hk
    exact ⟨b, h', q1, ur q2, by rw [hv.2.2.2.1.2.2 104 (by decide)]; exact q3⟩
  · rw [ux] at e1
    injection e1 with e1; injection e1 with e1; injection e1 with _ e1
    subst e1
    rw [st 12 (by decide) (by decide), m2] at e2
    injection e2 with e2; injection e2 with e2
    subst e2
    rw [um] at e3
    injection e3 with e3; injection e3 with e3; injection e3 with _ e3
    subst e3
    rw [m5] at e4
    injection e4 with e4; injection e4 with e4
    subst e4
    exact L.2.2
end LA5
