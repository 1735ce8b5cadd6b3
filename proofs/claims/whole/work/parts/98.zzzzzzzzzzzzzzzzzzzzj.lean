/-! the class's gather(): instance() as a whole -/
section INW
variable {κ : oKv} {T n : Nat} {st : Nat} {l : Nat → Nat} {b0 : Nat} {nq : tQ → Int} {xs : List tQ} {Q : Nat → Prop} {σ σ' : oSt} {ch pg : Nat} {cf : List Value}
theorem qRw.sp {W : Nat → Prop} (h : qRw st l b0 nq xs Q pg σ) (k : gKp st l b0 W σ σ') : qRw st l b0 nq xs Q pg σ' := by
  obtain ⟨pf, r4, r5, r6, r7, f4, f5, f6, f7, p0, p1, ⟨m4, m5, m6, m7⟩, ⟨⟨q4, q5, q6, q7⟩, nQ⟩, xl, pq⟩ := h
  obtain ⟨a4, b4⟩ := k.ar m4 q4
  obtain ⟨a5, b5⟩ := k.ar m5 q5
  obtain ⟨a6, b6⟩ := k.ar m6 q6
  obtain ⟨a7, b7⟩ := k.ar m7 q7
  exact ⟨pf, r4, r5, r6, r7, f4, f5, f6, f7, k.ob p0 (by decide) (by decide) (by decide) (by decide), p1, ⟨a4, a5, a6, a7⟩, ⟨⟨b4, b5, b6, b7⟩, nQ⟩, xl, pq⟩
/-- what a call of instance() leaves -/
def inO (st : Nat) (l : Nat → Nat) (b0 : Nat) (nq : tQ → Int) (xs : List tQ) (Q : Nat → Prop) (a : Nat) (σ σ' : oSt) : Prop := gIv st l b0 Q σ' ∧ ntI st l b0 nq xs Q σ' ∧ (∀ W, gKp st l b0 W σ σ') ∧ tXp σ σ' ∧ (∃ k, tmU xs.length σ' a = tmU xs.length σ a + k ∧ σ'.2.2.1 ≤ σ.2.2.1 + k ∧ σ'.2.2.2 ≤ σ.2.2.2 + 3 * k) ∧ ∀ b fb, b0 ≤ b → b ≠ a → σ.1 b = some (.inr (6, fb)) → tmU xs.length σ' b = tmU xs.length σ b
/-- a row of terms is made -/
theorem c_ins1 {a : Nat} {fs : List Value} (hb : b0 ≤ a) (ha : σ.1 a = some (.inr (6, fs))) (h5 : fs[5]? = some (va_rf none)) (iv : gIv st l b0 Q σ) (nt : ntI st l b0 nq xs Q σ) : ∃ σ1, opf (onew σ (.inl (.object "LiquidTongue$Sum", 6, .inr (.inr (.inr (.inr (fun _ => none)))))) 6) (some a) 6 5 (va_rf (some σ.2.1)) = some σ1 ∧ inO st l b0 nq xs Q a σ σ1 ∧ σ1.1 a = some (.inr (6, fs.set 5 (.ref σ.2.1))) ∧ σ1.1 σ.2.1 = some (.inl (.object "LiquidTongue$Sum", 6, .inr (.inr (.inr (.inr (fun _ => none)))))) := by
  obtain ⟨i1, i2, i3, i4, i5, i6⟩ := id iv
  have lt : ∀ {x cc}, σ.1 x = some cc → x < σ.2.1 := fun h => Nat.lt_of_not_le (fun e => by rw [i1 _ e] at h; cases h)
  obtain ⟨fl, -⟩ := nt.1 a fs hb ha
  have al := lt ha
  have h1 : (onew σ (.inl (.object "LiquidTongue$Sum", 6, .inr (.inr (.inr (.inr (fun _ => none)))))) 6).1 a = some (.inr (6, fs)) := (onew_ne (by omega)).trans ha
  refine ⟨_, opf_at h1 (by omega), ?_⟩
  generalize eS : oput (onew σ (.inl (.object "LiquidTongue$Sum", 6, .inr (.inr (.inr (.inr (fun _ => none)))))) 6) a (.inr (6, fs.set 5 (va_rf (some σ.2.1)))) = S
  have sa : S.1 a = some (.inr (6, fs.set 5 (.ref σ.2.1))) := by rw [← eS, oput_eq]; rfl
  have st' : S.1 σ.2.1 = some (.inl (.object "LiquidTongue$Sum", 6, .inr (.inr (.inr (.inr (fun _ => none)))))) := by rw [← eS, oput_ne (by omega), onew_eq]
  have so : ∀ x, x < σ.2.1 → x ≠ a → S.1 x = σ.1 x := fun x hx hn => by rw [← eS, oput_ne hn, onew_ne (by omega)]
  have sf : ∀ q, σ.2.1 + 1 ≤ q → S.1 q = none := fun q hq => by rw [← eS, oput_ne (by omega), onew_ne (by omega)]; exact i1 q (by omega)
  have s2 : S.2 = (σ.2.1 + 1, σ.2.2.1 + 1, σ.2.2.2 + 6) := by rw [← eS]; rfl
  have s21 : S.2.1 = σ.2.1 + 1 := by rw [s2]
  have g5 : (fs.set 5 (.ref σ.2.1))[5]? = some (.ref σ.2.1) := by rw [List.getElem?_set_self (by omega)]
  have gn : ∀ i, i ≠ 5 → (fs.set 5 (.ref σ.2.1))[i]? = fs[i]? := fun i hi => List.getElem?_set_ne (Ne.symm hi)
  have nm : ∀ b fb, S.1 b = some (.inr (6, fb)) → (b = a ∧ fb = fs.set 5 (.ref σ.2.1)) ∨ (b ≠ a ∧ b < σ.2.1 ∧ σ.1 b = some (.inr (6, fb))) := fun b fb e => by
    by_cases c : b = a
    · subst c
      rw [sa] at e
      injection e with e
      injection e with e
      injection e with _ e
      exact Or.inl ⟨rfl, e.symm⟩
    · by_cases c2 : b < σ.2.1
      · rw [so b c2 c] at e; exact Or.inr ⟨c, c2, e⟩
      · by_cases c3 : b = σ.2.1
        · rw [c3, st'] at e; cases e
        · rw [sf b (by omega)] at e; cases e
  have tm : ∀ x, tmS b0 S x → x = σ.2.1 ∨ tmS b0 σ x := fun x ⟨b, fb, h1, h2, h3⟩ => by
    rcases nm b fb h2 with ⟨_, e⟩ | ⟨_, _, e⟩
    · rw [e, g5] at h3
      injection h3 with h3
      injection h3 with h3
      exact Or.inl h3.symm
    · exact Or.inr ⟨b, fb, h1, e, h3⟩
  have ld : ∀ x, ldS l S x → ldS l σ x := fun x ⟨i, mc, m, hi, h⟩ => by
    by_cases c : l i = a
    · rw [c, sa] at h; cases h
    · rw [so _ (i2 i hi) c] at h; exact ⟨i, mc, m, hi, h⟩
  have iv' : gIv st l b0 Q S := ⟨fun q hq => sf q (by omega), fun i hi => by have := i2 i hi; omega, ⟨by omega, by omega⟩, fun x hx => by have := i4 x hx; omega, fun x hx => by
    rcases tm x hx with z | z
    · omega
    · have := i5 x z; omega, fun x hx => by have := i6 x (ld x hx); omega⟩
  have kp : ∀ W, gKp st l b0 W σ S := fun W => by
    refine ⟨fun x cc e q => ?_, fun x f e => ?_, fun x f e => ⟨f, ?_, rfl, fun _ _ => rfl⟩, by omega⟩
    · match cc, e, q with
      | .inr o, e, q => exact ⟨by rw [so x (lt e) (fun c => by rw [c, ha] at e; injection e with e; injection e with e; rw [← e] at q; exact q.1.2.1 rfl)]; exact e, q⟩
      | .inl z, e, q =>
        have c : x ≠ a := fun c => by rw [c, ha] at e; cases e
        refine ⟨by rw [so x (lt e) c]; exact e, q.1, fun h => q.2.1 (ld x h), fun h => ?_⟩
        rcases tm x h with z | z
        · have := lt e; omega
        · exact q.2.2 z
    · by_cases c : x = a
      · subst c
        rw [ha] at e
        injection e with e
        injection e with e
        injection e with _ e
        subst e
        exact ⟨_, sa, by rw [List.length_set], fun i h5 _ => gn i h5⟩
      · exact ⟨f, by rw [so x (lt e) c]; exact e, rfl, fun _ _ _ => rfl⟩
    · rw [so x (lt e) (fun c => by rw [c, ha] at e; cases e)]; exact e
  refine ⟨⟨iv', ⟨fun b fb hbb eb => ?_, fun b b' fb fb' t hbb hbb' eb eb' e5 e5' => ?_⟩, kp, ⟨fun x k f e h6 => ?_, fun x y e _ => ?_, fun x hx e => ?_⟩, ⟨2, ?_, ?_, ?_⟩, fun b fb hbb hne eb => ?_⟩, sa, st'⟩
  · rcases nm b fb eb with ⟨e1, e2⟩ | ⟨e1, e2, e3⟩
    · refine ⟨by rw [e2, List.length_set]; exact fl, Or.inr ⟨σ.2.1, _, by rw [e2]; exact g5, st', fun j x hx hs su hsu => by cases hsu⟩⟩
    · obtain ⟨y1, y2⟩ := nt.1 b fb hbb e3
      refine ⟨y1, y2.imp id (fun ⟨t, g, z1, z2, z3⟩ => ⟨t, g, z1, ?_, fun j x hx hs su hsu => (z3 j x hx hs su hsu).sp (kp (fun _ => False)) (fun _ _ => Iff.rfl) i1⟩)⟩
      rw [so t (lt z2) (fun c => by rw [c, ha] at z2; cases z2)]
      exact z2
  · have row : ∀ b fb, b0 ≤ b → σ.1 b = some (.inr (6, fb)) → fb[5]? = some (.ref σ.2.1) → False := fun b fb hbb e e5 => by
      have := i5 σ.2.1 ⟨b, fb, hbb, e, e5⟩
      omega
    rcases nm b fb eb with ⟨e1, e2⟩ | ⟨e1, e2, e3⟩ <;> rcases nm b' fb' eb' with ⟨e1', e2'⟩ | ⟨e1', e2', e3'⟩
    · rw [e1, e1']
    · rw [e2, g5] at e5
      injection e5 with e5
      injection e5 with e5
      rw [← e5] at e5'
      exact (row b' fb' hbb' e3' e5').elim
    · rw [e2', g5] at e5'
      injection e5' with e5'
      injection e5' with e5'
      rw [← e5'] at e5
      exact (row b fb hbb e3 e5).elim
    · exact nt.2 b b' fb fb' t hbb hbb' e3 e3' e5 e5'
  · rw [so x (lt e) (fun c => by rw [c, ha] at e; injection e with e; injection e with e; injection e with e _; exact h6 e.symm)]; exact e
  · rw [so x (lt e) (fun c => by rw [c, ha] at e; cases e)]; exact e
  · rw [so x hx (fun c => by rw [c, ha] at e; cases e)]; exact e
  · rw [tmU_row sa g5 st']
    have u0 : tmU xs.length σ a = 0 := by
      unfold tmU
      rw [ofd_at ha, h5, ovr_va]
    have z0 : (List.range (min xs.length 6)).countP (fun j => ((fun _ => none : Nat → Option Nat) j).isSome) = 0 := List.countP_eq_zero.mpr (fun j _ => by simp)
    rw [u0, z0]
  · rw [s2]; dsimp only; omega
  · rw [s2]; dsimp only; omega
  · have bl := lt eb
    refine tmU_cg (so b bl hne) (fun f' t' e e5 => ?_)
    obtain ⟨-, z | ⟨t2, g, w1, w2, -⟩⟩ := nt.1 b f' hbb e
    · rw [z] at e5; cases e5
    · rw [w1] at e5
      injection e5 with e5
      injection e5 with e5
      rw [← e5]
      exact so t2 (lt w2) (fun c => by rw [c, ha] at w2; cases w2)
/-- **instance(name, q)** -/
theorem c_inst {a q : Nat} {x : tQ} {fs : List Value} (hT : 2010 ≤ T) (hx : xs[q]? = some x) (hs : x.2.2.2.1 = true) (hb : b0 ≤ a) (ha : σ.1 a = some (.inr (6, fs))) (iv : gIv st l b0 Q σ) (nt : ntI st l b0 nq xs Q σ) (qr : qRw st l b0 nq xs Q pg σ) (hc : σ.1 ch = some (.inr (2, cf))) (c0 : cf[0]? = some (.ref pg)) (hnq : -1125899906842624 ≤ nq x ∧ nq x ≤ 1125899906842624) : ∃ σ' su, oF κ T (n + 5) 25 [va_rf (some ch), va_rf (some a), .int (nI q)] σ = some (some (va_rf (some su)), σ') ∧ cTq st l b0 Q σ' su (some (a, if x.2.2.1 = true then -1 else 1), nq x) ∧ inO st l b0 nq xs Q a σ σ' := by
  rw [oE_X0_instance]
  unfold ob_X0_instance
  obtain ⟨fl, h5⟩ := nt.1 a fs hb ha
  rcases h5 with h5 | ⟨t, g, h5, ht, -⟩
  · rw [ofd_at ha, h5, ovr_va, obn_at, if_pos rfl, ogd_at (by decide), olet_at]
    obtain ⟨σ1, R1, ⟨i1, i2, i3, i4, ⟨k, k1, k2, k3⟩, i6⟩, sa, st'⟩ := c_ins1 hb ha h5 iv nt
    have e6 : (6 : Int32).toNatClampNeg = 6 := by decide
    rw [e6, oq_11n, R1, obn_at]
    have hc1 := i4.1 _ _ _ hc (by decide)
    obtain ⟨σ2, su, R2, c2, j1, j2, j3, j4, ⟨k', k1', k2', k3'⟩, j6⟩ := c_ins2 (κ := κ) (T := T) (n := n) hT hx hs hb sa (by rw [List.getElem?_set_self (by omega)]) st' i1 i2 (qr.sp (i3 (fun _ => False))) hc1 c0 hnq
    refine ⟨σ2, su, R2, c2, j1, j2, fun W => (i3 W).tr (j3 W), i4.tr j4 (i3 (fun _ => False)).2.2.2, ⟨k + k', by omega, by omega, by omega⟩, fun b fb hbb hne eb => ?_⟩
    obtain ⟨fb', eb'⟩ := (i3 (fun _ => False)).n6 eb
    rw [j6 b fb' hbb hne eb']
    exact i6 b fb hbb hne eb
  · rw [ofd_at ha, h5, ovr_rf, obn_at, if_neg (by simp)]
    exact c_ins2 hT hx hs hb ha h5 ht iv nt qr hc c0 hnq
end INW
