/-! the class's gather(): shape(), where it stands at an end -/
/-- cells of a TEMPLATE -/
def tCn (xs : List tQ) : tY → Nat
  | .leaf => 1
  | .inner k _ _ a b => if k = 0 then tCn xs a + tCn xs b + (4 + 3 * xs.length) else if k = 2 then 1 else 3 + 3 * xs.length
/-- places of a TEMPLATE, c what * may be -/
def tCs (xs : List tQ) : tY → Nat → Nat
  | .leaf, _ => 15
  | .inner k _ _ a b, c => if k = 0 then tCs xs a c + tCs xs b (c + if gMs a = true then 1 else 0) + (29 + 9 * xs.length) else if k = 2 then 15 else 15 + 8 * xs.length + 2 * gIl xs (.inner k () () a b) c
/-- ghosts: only what belongs to a place differs -/
def gDf (m : gTm) (σ : oSt) (Ψ Ψ' : kGh) : Prop := (∀ k p, (∀ r, (k, p) ≠ (m.1, m.2.1 ++ r)) → Ψ'.2.1 (k, p) = Ψ.2.1 (k, p)) ∧ (∀ x, (∀ r, x ≠ .inr (m.1, m.2.1 ++ r)) → Ψ'.1 x = Ψ.1 x) ∧ (∀ x, x < σ.2.1 → (Ψ'.2.2.1 x ↔ Ψ.2.2.1 x)) ∧ Ψ'.2.2.2 = Ψ.2.2.2
/-- ghosts, a place given -/
def gAt (Ψ : kGh) (m : gTm) (w : Nat) (Q : Nat → Prop) : kGh := (Ψ.1, fun kp => if kp = (m.1, m.2.1) then w else Ψ.2.1 kp, Q, Ψ.2.2.2)
theorem gAt_at {Ψ : kGh} {m : gTm} {w : Nat} {Q : Nat → Prop} : (gAt Ψ m w Q).2.1 (m.1, m.2.1) = w := if_pos rfl
theorem gAt.df {Ψ : kGh} {m : gTm} {w : Nat} {Q : Nat → Prop} {σ : oSt} (hQ : ∀ x, x < σ.2.1 → (Q x ↔ Ψ.2.2.1 x)) : gDf m σ Ψ (gAt Ψ m w Q) := ⟨fun k p h => if_neg (fun z => h [] (by rw [List.append_nil]; exact z)), fun _ _ => rfl, hQ, rfl⟩
section QIW
variable {st : Nat} {l : Nat → Nat} {b0 : Nat} {nq : tQ → Int} {xs : List tQ} {Q : Nat → Prop} {σ : oSt} {w : Nat} {fw : List Value}
/-- a Known among what Q tells: nothing else changes -/
theorem cTq.qi {su : Nat} {u : kTe} (hw : σ.1 w = some (.inr (4, fw))) (h : cTq st l b0 Q σ su u) : cTq st l b0 (fun x => Q x ∨ x = w) σ su u := by
  obtain ⟨na, ta, cap, Ls, pl, h1, h2, ⟨h3, h4, h5, h6⟩, h7⟩ := h
  refine ⟨na, ta, cap, Ls, pl, h1, h2, ⟨h3, h4, h5, fun z => z.elim h6 (fun e => ?_)⟩, h7⟩
  obtain ⟨g, h', s1, s2, s3, -⟩ := h1
  rw [e, hw] at s3; cases s3
theorem kOq.qi {x : Nat} {F : List kFc} (hw : σ.1 w = some (.inr (4, fw))) (h : kOq st l b0 Q σ x F) : kOq st l b0 (fun x => Q x ∨ x = w) σ x F := by
  obtain ⟨fs, h1, h2, h3, h4, h5⟩ := h
  refine ⟨fs, h1, h2, h3, h4, h5.imp id (fun ⟨ra, sa, cap, hr, gs, a1, a2, a3, a4, ⟨b1, b2, b3, b4, b5⟩, c1, c2⟩ => ⟨ra, sa, cap, hr, gs, a1, a2, a3, a4, ⟨b1, b2, b3, Or.inl b4, Or.inl b5⟩, c1, fun i y e => ?_⟩)⟩
  obtain ⟨d1, d2, su, d3, d4⟩ := c2 i y e
  exact ⟨d1, d2, su, d3, d4.qi hw⟩
theorem kGq.qi {x y : Nat} {kd : Int32} (hw : σ.1 w = some (.inr (4, fw))) (h : kGq st l b0 Q σ x y kd []) : kGq st l b0 (fun x => Q x ∨ x = w) σ x y kd [] := by
  obtain ⟨fs, gn, ins, h1, h2, h3, h4, h5, h6, h7, h8⟩ := h
  refine ⟨fs, gn, ins, h1, h2, h3, h4, h5, h6, h7, h8.imp id (fun ⟨a, b, g, g', c1, c2, ⟨c3, c4, c5⟩, c6, c7, c8, c9⟩ => ⟨a, b, g, g', c1, c2, ⟨c3, c4, fun z => z.elim c5 (fun e => ?_)⟩, c6, c7, c8, fun i z e => by cases e⟩)⟩
  rw [e, hw] at c7; cases c7
theorem gIv.qi (hw : σ.1 w = some (.inr (4, fw))) (h : gIv st l b0 Q σ) : gIv st l b0 (fun x => Q x ∨ x = w) σ := ⟨h.1, h.2.1, h.2.2.1, fun x z => z.elim (h.2.2.2.1 x) (fun e => by
  rw [e]
  exact Nat.lt_of_not_le (fun q => by rw [h.1 w q] at hw; cases hw)), h.2.2.2.2⟩
theorem ntI.qi (hw : σ.1 w = some (.inr (4, fw))) (h : ntI st l b0 nq xs Q σ) : ntI st l b0 nq xs (fun x => Q x ∨ x = w) σ := ⟨fun a fs ha e => by
  obtain ⟨h1, h2⟩ := h.1 a fs ha e
  exact ⟨h1, h2.imp id (fun ⟨t, g, e1, e2, e3⟩ => ⟨t, g, e1, e2, fun j x hx hs su hsu => (e3 j x hx hs su hsu).qi hw⟩)⟩, h.2⟩
theorem qRw.qi {pg : Nat} (hw : σ.1 w = some (.inr (4, fw))) (h : qRw st l b0 nq xs Q pg σ) : qRw st l b0 nq xs (fun x => Q x ∨ x = w) pg σ := by
  obtain ⟨pf, r4, r5, r6, r7, f4, f5, f6, f7, h1, h2, ⟨a1, a2, a3, a4⟩, ⟨b1, b2, b3, b4, b5⟩, h5⟩ := h
  have ne : ∀ {r y}, σ.1 r = some (.inl y) → r ≠ w := fun e z => by rw [z, hw] at e; cases e
  exact ⟨pf, r4, r5, r6, r7, f4, f5, f6, f7, h1, h2, ⟨a1, a2, a3, a4⟩, ⟨b1, fun z => z.elim b2 (ne a1), fun z => z.elim b3 (ne a2), fun z => z.elim b4 (ne a3), fun z => z.elim b5 (ne a4)⟩, h5⟩
theorem tpS.qi {pg ch ty : Nat} {cf : List Value} {At : Nat → Nat} {mo : Nat} {g : gG} {ρ : Nat → tY} {lv ov : Int32} {na : gN → Nat} {S : List gN} {Ls : List Nat} (hw : σ.1 w = some (.inr (4, fw))) (h : tpS st l b0 nq xs Q pg ch ty cf At mo g ρ lv ov na S Ls σ) : tpS st l b0 nq xs (fun x => Q x ∨ x = w) pg ch ty cf At mo g ρ lv ov na S Ls σ := ⟨h.1.qi hw, h.2.1.qi hw, h.2.2.1.qi hw, h.2.2.2⟩
end QIW
section SHL
variable {κ : oKv} {T n : Nat} {st : Nat} {l : Nat → Nat} {b0 : Nat} {nq : tQ → Int} {xs : List tQ} {Q Q' : Nat → Prop} {σ σ1 σ' : oSt} {pg ch ty : Nat} {cf : List Value} {At : Nat → Nat} {mo : Nat} {g : gG} {ρ : Nat → tY} {lv ov : Int32} {na na' : gN → Nat} {S : List gN} {Ls : List Nat} {W : Nat → Prop} {c : Nat} {nl : Option Nat} {x3 : Int32} {Ψ : kGh} {m : gTm} {w ra sa : Nat}
/-- cells that were made since are written -/
theorem gKx.fp (h : gKx st l b0 w ra sa σ1 σ') (k : gKp st l b0 W σ σ1) (s : shX st σ σ1) (hn : σ.2.1 ≤ w ∧ σ.2.1 ≤ ra ∧ σ.2.1 ≤ sa) (hfr : ∀ q, σ.2.1 ≤ q → σ.1 q = none) : gKp st l b0 W σ σ' ∧ shX st σ σ' := by
  have lt : ∀ {x cc}, σ.1 x = some cc → x < σ.2.1 := fun h => Nat.lt_of_not_le (fun e => by rw [hfr _ e] at h; cases h)
  obtain ⟨h1, h2, h3, h4, h5, h6⟩ := h
  refine ⟨⟨fun x cc e q => ?_, fun x fs e => ?_, fun x fs e => ?_, Nat.le_trans k.2.2.2 h3⟩, fun x j fs e n6 n2 => ?_, fun x z e hs hn' => ?_, fun x hx e => ?_, Nat.le_trans s.2.2.2 h3⟩
  · have := lt e
    obtain ⟨a1, a2⟩ := k.1 x cc e q
    exact h1 x cc a1 (by omega) (by omega) (by omega) a2
  · obtain ⟨f1, a1, a2, a3⟩ := k.2.1 x fs e
    obtain ⟨f2, b1, b2, b3⟩ := h2 x f1 a1
    exact ⟨f2, b1, b2.trans a2, fun i i5 i4 => (b3 i i5).trans (a3 i i5 i4)⟩
  · have := lt e
    obtain ⟨f1, a1, a2, a3⟩ := k.2.2.1 x fs e
    exact ⟨f1, h4 x 7 f1 a1 (by decide) (by omega), a2, a3⟩
  · have := lt e
    exact h4 x j fs (s.1 x j fs e n6 n2) n6 (by omega)
  · have := lt e
    exact h5 x z (s.2.1 x z e hs hn') hs (by omega)
  · exact h6 x (Nat.lt_of_lt_of_le hx s.2.2.2) (s.2.2.1 x hx e)
theorem cfO.at (hcf : cfO pg ty st cf) (v : Value) : (cf.set 8 v)[0]? = some (.ref pg) ∧ (cf.set 8 v)[1]? = some (.ref ty) ∧ (cf.set 8 v)[7]? = some (.ref st) ∧ (cf.set 8 v)[8]? = some v ∧ (cf.set 8 v).length = 10 := by
  obtain ⟨h1, h2, h3, h4⟩ := hcf
  exact ⟨by rw [List.getElem?_set_ne (by decide)]; exact h2, by rw [List.getElem?_set_ne (by decide)]; exact h3, by rw [List.getElem?_set_ne (by decide)]; exact h4, List.getElem?_set_self (by omega), by rw [List.length_set]; exact h1⟩
/-- shape() begins -/
theorem c_sh0 (hT : 9010 ≤ T) (hcf : cfO pg ty st cf) (h : tpS st l b0 nq xs Q pg ch ty cf At mo g ρ lv ov na S Ls σ) (hc : c < g.n) : oF κ T (n + 3) 27 [va_rf (some ch), .int (nI c), va_rf nl, .int x3] σ = (if cKd (yK (ρ c)) = 206 then (if 60 < x3 then oj_X0_shape_205 T (oF κ T (n + 2)) κ (some ch) (some σ.2.1) (onew σ (.inr (4, kF0 (cKd (yK (ρ c))) σ.2.1 none none)) 15) else if nl = none then oj_X0_shape_50 T (oF κ T (n + 2)) κ (some ch) (nI c) nl x3 (some σ.2.1) (onew σ (.inr (4, kF0 (cKd (yK (ρ c))) σ.2.1 none none)) 15) else obn (oob (onew σ (.inr (4, kF0 (cKd (yK (ρ c))) σ.2.1 none none)) 15) nl 1) fun a20 => oin (oF κ T (n + 2) 236 [va_rf nl] (onew σ (.inr (4, kF0 (cKd (yK (ρ c))) σ.2.1 none none)) 15)) fun r24 s22 => if r24 ≤ x3 then oj_X0_shape_50 T (oF κ T (n + 2)) κ (some ch) (nI c) nl x3 (some σ.2.1) s22 else oj_X0_shape_51 T (oF κ T (n + 2)) κ (some ch) (nI c) nl x3 (some σ.2.1) 1 s22) else oj_X0_shape_205 T (oF κ T (n + 2)) κ (some ch) (some σ.2.1) (onew σ (.inr (4, kF0 (cKd (yK (ρ c))) σ.2.1 none none)) 15)) := by
  obtain ⟨h1, h2, h3, h4, h5, h6, h7⟩ := h
  have lt : ∀ {x cc}, σ.1 x = some cc → x ≠ σ.2.1 := fun h z => by rw [z, h1.1 _ (Nat.le_refl _)] at h; cases h
  have y1 : yTf ty At mo g ρ lv ov (onew σ (.inr (4, odef 4)) (oq 4).2.2) := by
    obtain ⟨F, ⟨y1, y2, -⟩, -⟩ := id h7
    exact h7.cg (onew_ne (lt y1)) (fun i hi => onew_ne (lt (y2 i hi)))
  have ob : oob (onew σ (.inr (4, odef 4)) (oq 4).2.2) (some ty) 12 = some ty := by
    obtain ⟨F, ⟨y1, -⟩, -⟩ := y1
    exact oob_at y1
  have f1 : ofd (onew σ (.inr (4, odef 4)) (oq 4).2.2) (some ch) 2 1 = some (.ref ty) := (ofd_at ((onew_ne (lt h4)).trans h4)).trans (hcf.at _).2.1
  have f0 : ofd (onew σ (.inr (4, kF0 (cKd (yK (ρ c))) σ.2.1 none none)) 15) (some σ.2.1) 4 0 = some (.int (cKd (yK (ρ c)))) := (ofd_at (onew_eq _ _ _)).trans rfl
  rw [show n + 3 = (n + 2) + 1 from rfl, oE_X0_shape]
  unfold ob_X0_shape
  rw [olet_at, f1, ovr_rf, obn_at, ob, obn_at, c_kindOf (n := n) hT y1 hc, oin_at, obn_at, c_kn (n := n + 1), ocv_at, f0, ovi_i, obn_at]
/-- **shape(), no function** -/
theorem c_shL (hT : 9010 ≤ T) (hnq : ∀ x, x ∈ xs → -1125899906842624 ≤ nq x ∧ nq x ≤ 1125899906842624) (hcf : cfO pg ty st cf) (h : tpS st l b0 nq xs Ψ.2.2.1 pg ch ty cf At mo g ρ lv ov Ψ.1 m.2.2.2.2 Ls σ) (hc : c < g.n) {k : Nat} {a b : tY} (hρ : ρ c = .inner k () () a b) (hk : k ≠ 0) (hS : m.2.2.2.2.length ≤ 72) : ∃ σ' Q', oF κ T (n + 7) 27 [va_rf (some ch), .int (nI c), va_rf nl, .int x3] σ = some (some (va_rf (some σ.2.1)), σ') ∧ kTo st l b0 nq xs (gAt Ψ m σ.2.1 Q') σ' (.inner k () () a b) m ∧ tpS st l b0 nq xs Q' pg ch ty cf At mo g ρ lv ov Ψ.1 m.2.2.2.2 Ls σ' ∧ (∀ x, x < σ.2.1 → (Q' x ↔ Ψ.2.2.1 x)) ∧ gKp st l b0 W σ σ' ∧ shX st σ σ' ∧ gPl2 xs.length Ls Ls σ σ' (tCn xs (.inner k () () a b)) (tCs xs (.inner k () () a b) m.2.2.2.2.length) := by
  have R := c_sh0 (κ := κ) (T := T) (n := n + 4) (nl := nl) (x3 := x3) hT hcf h hc
  have yw := h.2.2.2.2.2.2.w _ c (Nat.le_refl _) hc
  rw [hρ] at R yw
  have n206 : cKd (yK (.inner k () () a b)) ≠ 206 := fun z => by
    have := (cKd_206 yw).mp z
    exact hk (by have : k + 1 = 1 := this; omega)
  rw [if_neg n206] at R
  have hfr := h.1.1
  have o : oNl σ (onew σ (.inr (4, kF0 (cKd (yK (.inner k () () a b))) σ.2.1 none none)) 15) 1 15 := oNl.new hfr
  obtain ⟨t1, tp, kp, sh⟩ := h.nw (W := W) o (fun x fs hx e => by
    by_cases z : x = σ.2.1
    · rw [z, onew_eq] at e; cases e
    · rw [onew_ne z, hfr x hx] at e; cases e)
  have hw : (onew σ (.inr (4, kF0 (cKd (yK (.inner k () () a b))) σ.2.1 none none)) 15).1 σ.2.1 = some (.inr (4, kF0 (cKd (yK (.inner k () () a b))) σ.2.1 none none)) := onew_eq _ _ _
  have f0 : ofd (onew σ (.inr (4, kF0 (cKd (yK (.inner k () () a b))) σ.2.1 none none)) 15) (some σ.2.1) 4 0 = some (.int (cKd (yK (.inner k () () a b)))) := (ofd_at hw).trans rfl
  unfold oj_X0_shape_205 at R
  rw [f0, ovi_i, obn_at] at R
  by_cases c2 : k = 2
  · rw [if_pos ((cKd_202 yw).mpr (by show k + 1 = 3; omega))] at R
    refine ⟨_, fun x => Ψ.2.2.1 x ∨ x = σ.2.1, R, ?_, t1.qi hw, fun x hx => ⟨fun z => z.elim id (fun e => absurd hx (by rw [e]; exact Nat.lt_irrefl _)), Or.inl⟩, kp, sh, ?_⟩
    · unfold kTo
      rw [gAt_at, if_neg hk, if_pos c2]
      exact ⟨⟨_, none, none, hw, rfl, rfl, rfl, by decide, rfl, rfl, Or.inl ⟨rfl, rfl⟩⟩, ⟨_, hw, rfl, rfl, Nat.zero_le _, Or.inl rfl⟩, Or.inr rfl⟩
    · unfold gPl2 tCn tCs
      rw [tp, o.2.2, if_neg hk, if_pos c2, if_neg hk, if_pos c2]
      exact ⟨by dsimp only; omega, by dsimp only; omega⟩
  · rw [if_neg (fun z => c2 (by have : k + 1 = 3 := (cKd_202 yw).mp z; omega))] at R
    obtain ⟨i1, i2, i3, i4, i5, i6, i7⟩ := id t1
    obtain ⟨z0, z1, z7, z8, -⟩ := hcf.at (.int (nI m.2.2.2.2.length))
    have hy : yK (.inner k () () a b) = 2 ∨ yK (.inner k () () a b) = 4 ∨ yK (.inner k () () a b) = 5 := by
      have k4 : k ≤ 4 := by
        unfold yW at yw
        rw [if_neg hk] at yw
        exact yw
      show k + 1 = 2 ∨ k + 1 = 4 ∨ k + 1 = 5
      omega
    obtain ⟨σ', R2, ⟨g1, g2, g3, g4, g5, g6, g7⟩, K2, P2⟩ := c_sayI (κ := κ) (T := T) (n := n) (by omega) rfl hy hnq z0 z7 z8 hS hw i1 i2 i3 i4 i5 i6
    rw [oob_at i4, obn_at, R2, ocv_at] at R
    have n1 : (onew σ (.inr (4, kF0 (cKd (yK (.inner k () () a b))) σ.2.1 none none)) 15).2.1 = σ.2.1 + 1 := o.nx
    rw [n1] at K2 g1 g2 g3 g4
    obtain ⟨kp', sh'⟩ := K2.fp kp sh ⟨by omega, by omega, by omega⟩ hfr
    obtain ⟨fw', hw'⟩ : ∃ f, σ'.1 σ.2.1 = some (.inr (4, f)) := by
      obtain ⟨fs, -, -, k1, -⟩ := g1.oq.1
      exact ⟨fs, k1⟩
    refine ⟨σ', _, R, ?_, tpS.qi hw' ⟨g2, g3, g4, g5.1, g6, g7, h.2.2.2.2.2.2.sh sh' h.2.2.2.2.1.ne⟩, fun x hx => ⟨fun z => ?_, fun z => Or.inl (Or.inl z)⟩, kp', sh', ?_⟩
    · unfold kTo
      rw [gAt_at, if_neg hk, if_neg c2]
      exact ⟨g1.oq.1.qi hw', g1.oq.2.qi hw', Or.inr rfl⟩
    · rcases z with (z | z | z) | z
      · exact z
      · omega
      · omega
      · omega
    · unfold gPl2 tCn tCs
      obtain ⟨u1, u2⟩ := P2
      rw [tp, o.2.2, gIn_len] at u2
      rw [tp, o.2.2] at u1
      rw [if_neg hk, if_neg c2, if_neg hk, if_neg c2]
      exact ⟨by dsimp only at u1; omega, by dsimp only at u2; omega⟩
end SHL
