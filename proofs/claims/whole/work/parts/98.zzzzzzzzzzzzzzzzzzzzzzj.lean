/-! the class's gather(): walk() begins: what must be SO -/
section GWD
variable {κ : oKv} {T n : Nat} {st : Nat} {l : Nat → Nat} {b0 : Nat} {nq : tQ → Int} {xs : List tQ} {Q : Nat → Prop} {pg ch ty : Nat} {cf cf' : List Value} {At : Nat → Nat} {mo : Nat} {g : gG} {ρ : Nat → tY} {lv ov : Int32} {CN : Nat → gCd → Prop} {NR : Nat → (Nat × Nat × tT × List tP × List Nat × Nat) → Prop} {pp : Nat → Int32} {V : oSt} {lo g0 : Nat} {nm : Nat → Option Nat} {tN : Nat → tY} {φ : Nat → Nat} {Us : List Nat} {i cnt : Nat} {tl : List Nat} {Ψ : kGh} {Ls : List Nat} {σ : oSt} {ln : Nat → Nat} {ct : Nat → Nat → Option Nat} {cs : Nat} {s : gSt} {m w : Nat} {gs : List Value} {v : Value} {Dn : Nat → Prop} {Fs : List gFit} {sc : List gEn} {Sc : List sEn} {os : Option Nat} {Es : List (gN × Nat)} {x : Nat × Nat × tT × List tP × List Nat × Nat}
theorem tpB.n7 (h : tpB st l b0 nq xs Q pg ch ty cf At mo g ρ lv ov Ls σ) (hm : σ.1 m = some (.inr (7, gs))) : tpB st l b0 nq xs Q pg ch ty cf At mo g ρ lv ov Ls (oput σ m (.inr (7, gs.set 20 v))) ∧ tmP xs.length (oput σ m (.inr (7, gs.set 20 v))) Ls = tmP xs.length σ Ls := by
  obtain ⟨h1, h2, h3, ⟨v', h4⟩, ⟨f, h5⟩, h6, h7⟩ := h
  obtain ⟨iv, kp, go, b6, nn⟩ := n7_iv (v := v) hm h1
  have nm6 : ∀ {a fs}, σ.1 a = some (.inr (6, fs)) → (oput σ m (.inr (7, gs.set 20 v))).1 a = some (.inr (6, fs)) := fun {a fs} e => go a _ e (fun _ z => by cases z)
  refine ⟨⟨iv, ⟨fun a fs hb e => ?_, fun a a' fs fs' t hb hb' e e' e5 e5' => h2.2 a a' fs fs' t hb hb' (b6 a fs e) (b6 a' fs' e') e5 e5'⟩, h3.sp kp, ⟨v', go _ _ h4 (fun _ z => by cases z)⟩, ⟨f, go _ _ h5 (fun _ z => by cases z)⟩, ⟨h6.1, fun a ha => ⟨(h6.2 a ha).1, ?_⟩⟩, ?_⟩, tmP_cg (fun a ha => ?_)⟩
  · obtain ⟨y1, y2⟩ := h2.1 a fs hb (b6 a fs e)
    exact ⟨y1, y2.imp id (fun ⟨t, gg, w1, w2, w3⟩ => ⟨t, gg, w1, go _ _ w2 (fun _ z => by cases z), fun j q hx hs su hg => (w3 j q hx hs su hg).sp kp (fun _ _ => Iff.rfl) h1.1⟩)⟩
  · obtain ⟨fs, e⟩ := (h6.2 a ha).2
    exact ⟨fs, nm6 e⟩
  · obtain ⟨F, ⟨y1, y2, y3⟩, y4⟩ := h7
    exact ⟨F, ⟨go _ _ y1 (fun _ z => by cases z), fun i hi => go _ _ (y2 i hi) (fun _ z => by cases z), y3⟩, y4⟩
  · obtain ⟨b1, fs, b2⟩ := h6.2 a ha
    refine tmU_cg ((nm6 b2).trans b2.symm) (fun fs' t e e5 => ?_)
    obtain ⟨-, z | ⟨t', gg, w1, w2, -⟩⟩ := h2.1 a fs' b1 e
    · rw [z] at e5; cases e5
    · rw [w1] at e5
      injection e5 with e5
      injection e5 with e5
      rw [← e5]
      exact (go _ _ w2 (fun _ z => by cases z)).trans w2.symm
theorem gaS.n7 (h : gaS κ st l b0 nq xs CN ch Ψ Dn cf' σ ln ct cs Fs) (hm : σ.1 m = some (.inr (7, gs))) : gaS κ st l b0 nq xs CN ch Ψ Dn cf' (oput σ m (.inr (7, gs.set 20 v))) ln ct cs Fs := by
  obtain ⟨h1, ⟨h2, h2'⟩, ⟨d, c, mc, q1, q2⟩, ⟨h4, h5⟩, h9⟩ := h
  obtain ⟨iv, kp, go, b6, nn⟩ := n7_iv (v := v) hm h1
  refine ⟨iv, ⟨nn _ h2, h2'⟩, ⟨d, c, mc, fun i hi => ?_, q2⟩, ⟨go _ _ h4 (fun _ z => by cases z), h5⟩, h9.sp kp (gAg.rf _ _) h1.1 (fun _ _ z => z) (fun _ z => z)⟩
  obtain ⟨⟨a1, a2, a3⟩, a4⟩ := q1 i hi
  refine ⟨⟨go _ _ a1 (fun _ z => by cases z), a2.imp (fun ⟨b1, b2, b3, b4⟩ => ⟨b1, b2, b3, nn _ b4⟩) (fun ⟨b1, b2⟩ => ⟨go _ _ b1 (fun _ z => by cases z), b2⟩), fun j hj b e => ?_⟩, a4⟩
  obtain ⟨fs, e2⟩ := a3 j hj b e
  by_cases z : b = m
  · subst z
    rw [hm] at e2
    injection e2 with e2
    injection e2 with e2
    injection e2 with e2 _
    exact ⟨_, by rw [oput_eq, ← e2]⟩
  · exact ⟨fs, by rw [oput_ne z]; exact e2⟩
/-- **walk() begins at an E at which something must be SO** -/
theorem gwS.nd (hcf : cf[6]? = some (.ref (l 3))) (h : gwS κ st l b0 nq xs pg ch ty cf At mo g ρ lv ov CN NR pp V lo g0 nm tN φ Us i tl Ψ Ls σ ln ct cs s) (hS : scR st l b0 nq xs Ψ σ CN Sc os sc Es) (hD : ∀ a, Sum.inl a ∈ Sc → dnO g0 φ tl a) (hm : σ.1 m = some (.inr (7, gs))) (hl : gs.length = 21) (h1 : gs[1]? = some (.int (pp w))) (hw : i ≤ w ∧ w < cnt) {nd : Nat} (h17 : gs[17]? = some (.ref nd)) (hx : NR m x) (h49 : ln 3 ≤ 12100) (hpp : ∀ u v, u < v → v < cnt → pp u < pp v) : ∃ σ' ct' cs', oF κ T (n + 7) 30 [va_rf (some ch), va_rf (some m), va_rf os] σ = oj_X0_walk_21 T (oF κ T (n + 6)) κ (some ch) (some m) os σ' ∧ gwS κ st l b0 nq xs pg ch ty cf At mo g ρ lv ov CN NR pp V lo g0 nm tN φ Us (w + 1) tl Ψ Ls σ' (fun k => if k = 3 then ln 3 + 1 else ln k) ct' cs' (gNe (sc, x) s) ∧ (gKp st l b0 (fun _ => False) σ σ' ∧ wK7 pp w (w + 1) σ σ') ∧ gwC xs.length Ls Ls cs cs' σ σ' 0 0 := by
  obtain ⟨⟨vv, a1⟩, a2, ⟨a3, a3'⟩, ⟨a4, a4', a4r⟩, a5, a6, a7, a8⟩ := h
  obtain ⟨iv1, kp1, go1, b61, nn1⟩ := n7_iv (v := va_rf os) hm a1.1
  have g1 := a1.n7 (v := va_rf os) hm
  obtain ⟨t1, tp1⟩ := a2.n7 (v := va_rf os) hm
  have hm1 : (oput σ m (.inr (7, gs.set 20 (va_rf os)))).1 m = some (.inr (7, gs.set 20 (va_rf os))) := oput_eq _ _ _
  have s1 : (oput σ m (.inr (7, gs.set 20 (va_rf os)))).2 = σ.2 := rfl
  have w71 : wK7 pp w (w + 1) σ (oput σ m (.inr (7, gs.set 20 (va_rf os)))) := fun m' fs e hn => by
    rw [oput_ne (fun z => by
      rw [z, hm] at e
      injection e with e
      injection e with e
      injection e with _ e
      rw [← e] at hn
      exact hn w (Nat.le_refl _) (by omega) h1)]
    exact e
  have f17 : ofd σ (some m) 7 17 = some (.ref nd) := (ofd_at hm).trans h17
  have o1 : opf σ (some m) 7 20 (va_rf os) = some (oput σ m (.inr (7, gs.set 20 (va_rf os)))) := opf_at hm (by omega)
  generalize oput σ m (.inr (7, gs.set 20 (va_rf os))) = σ1 at iv1 kp1 go1 b61 nn1 g1 t1 tp1 hm1 s1 w71 o1
  obtain ⟨σ', ct', cs', R, r1, ⟨r2, r3, r4⟩, r5, r6, r7, r8, r9, r10⟩ := g1.ad (T := T) (i := 3) (o := some m) (n := n) (by omega) (fun b e => by injection e with e; rw [← e]; exact ⟨_, hm1⟩) h49
  obtain ⟨t2, tp2, e2⟩ := t1.xp (r8 (fun _ => False)) r10 r5 g1.2.2.1
  have kp2 := kp1.tr (r8 (fun _ => False))
  have w72 : wK7 pp w (w + 1) σ σ' := w71.tr (r10.w7 g1.2.2.1)
  have f6 : ofd σ1 (some ch) 2 6 = some (.ref (l 3)) := (ofd_at g1.2.2.2.1.1).trans (by rw [List.getElem?_set_ne (by decide)]; exact hcf)
  have ol : oob σ1 (some (l 3)) 1 = some (l 3) := by
    obtain ⟨d, c, mc, q1, -⟩ := g1.2.2.1
    exact oob_at (q1 3 (by omega)).1.1
  obtain ⟨b1, b2, b3, ⟨b4, b5⟩, b9⟩ := id g1
  refine ⟨σ', ct', cs', ?_, ⟨⟨vv, r5, r6, r1, ⟨r7, b5⟩, ?_⟩, t2, (a3.kp a3' kp2), ⟨a4, Nat.le_trans a4' kp2.2.2.2, a4r.up rfl rfl kp2.2.2.2⟩, ⟨?_, fun k z e => ?_⟩, a6.sp kp2 (fun _ z => z), a7, a8.sp (g0 := g0) kp2 (gAg.rf _ _) a1.1.1 (fun _ _ z => z)⟩, ⟨kp2, w72⟩, ?_⟩
  · rw [show n + 7 = (n + 6) + 1 from rfl, oE_X0_walk]
    unfold ob_X0_walk
    rw [f17, ovr_rf, obn_at, if_neg (by intro z; cases z), o1, obn_at, f6, ovr_rf, obn_at, ol, obn_at, R, oin_at]
  · have := b9.sp (r8 (fun _ => False)) (gAg.rf σ1 Ψ) b1.1 (fun _ _ z => z) (fun _ z => z)
    obtain ⟨⟨c1, c2, c3⟩, c4, c5⟩ := this
    refine ⟨⟨?_, ?_, ?_⟩, fun k z e => ?_, c5⟩
    · exact c1
    · exact c2
    · exact c3
    · rw [r4 0 (by decide), r4 1 (by decide), r4 2 (by decide)]
      exact c4 k z e
  · show ln 3 + 1 = (s.2.2 ++ [(sc, x)]).length
    rw [List.length_append, a5.1]
    rfl
  · have old := a5.sp (j := w + 1) (i' := w + 1) (Ψ' := Ψ) (Dn' := dnO g0 φ tl) kp2 (w72.mo hw.1 (Nat.le_refl _)) (gAg.rf _ _) a1.1.1 (fun _ _ z => z) (fun _ z => z) hpp (by omega) (by omega)
    have e : (s.2.2 ++ [(sc, x)])[k]? = some z := e
    by_cases c : k < s.2.2.length
    · rw [List.getElem?_append_left c] at e
      rw [r2 k (by rw [a5.1]; exact c)]
      exact old.2 k z e
    · rw [List.getElem?_append_right (by omega)] at e
      have ck : k - s.2.2.length = 0 := by
        cases q : k - s.2.2.length with
        | zero => rfl
        | succ j => rw [q] at e; cases e
      rw [ck] at e
      injection e with e
      have : k = ln 3 := by rw [a5.1]; omega
      rw [this, r3, ← e]
      have hm2 : σ'.1 m = some (.inr (7, gs.set 20 (va_rf os))) := by
        obtain ⟨p1, p2⟩ := g1.2.2.1.ne hm1 (fun _ z => by injection z with z; injection z with z _; exact absurd z (by decide)) (fun _ _ z => by cases z)
        exact (r10.1 m _ hm1 p1 p2).1
      exact ⟨m, _, os, Sc, Es, w, rfl, ⟨hm2, by rw [List.getElem?_set_ne (by decide)]; exact h1, by omega, List.getElem?_set_self (by omega)⟩, hS.sp kp2 (gAg.rf _ _) a1.1.1 Sc os sc Es (fun _ _ z => z), hD, hx⟩
  · obtain ⟨c1, c2, c3⟩ := r9
    rw [s1] at c2 c3
    unfold gwC
    rw [tp2, tp1]
    exact ⟨c1, by omega, by omega⟩
end GWD
