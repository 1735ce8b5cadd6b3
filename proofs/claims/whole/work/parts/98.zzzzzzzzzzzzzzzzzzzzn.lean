/-! the class's gather(): a CASE says INSTANCES of a QUAL -/
/-- what sayInstances() leaves as it was: all but the CASE w and its rows -/
def gKx (st : Nat) (l : Nat → Nat) (b0 w ra sa : Nat) (σ σ' : oSt) : Prop := (∀ x cc, σ.1 x = some cc → x ≠ w → x ≠ ra → x ≠ sa → qtG st l b0 σ x cc → σ'.1 x = some cc ∧ qtG st l b0 σ' x cc) ∧ (∀ x fs, σ.1 x = some (.inr (6, fs)) → ∃ fs', σ'.1 x = some (.inr (6, fs')) ∧ fs'.length = fs.length ∧ ∀ i, i ≠ 5 → fs'[i]? = fs[i]?) ∧ σ.2.1 ≤ σ'.2.1 ∧ (∀ x k fs, σ.1 x = some (.inr (k, fs)) → k ≠ 6 → x ≠ w → σ'.1 x = some (.inr (k, fs))) ∧ (∀ x y, σ.1 x = some (.inl y) → y.1 ≠ .object "LiquidTongue$Sum" → x ≠ ra → σ'.1 x = some (.inl y)) ∧ ∀ x, x < σ.2.1 → σ.1 x = none → σ'.1 x = none
/-- places and cells, with what NAMES' terms may cost still -/
def gPo (kq : Nat) (Ls : List Nat) (σ σ' : oSt) (dn ds : Nat) : Prop := σ'.2.2.1 + tmP kq σ' Ls ≤ σ.2.2.1 + tmP kq σ Ls + dn ∧ σ'.2.2.2 + 3 * tmP kq σ' Ls ≤ σ.2.2.2 + 3 * tmP kq σ Ls + ds
theorem gPo.tr {kq : Nat} {Ls : List Nat} {a b c : oSt} {d e d' e' : Nat} (h : gPo kq Ls a b d e) (g : gPo kq Ls b c d' e') : gPo kq Ls a c (d + d') (e + e') := by
  obtain ⟨h1, h2⟩ := h
  obtain ⟨g1, g2⟩ := g
  exact ⟨by omega, by omega⟩
/-- NAMES that may be asked for terms -/
def lsO (b0 : Nat) (Ls : List Nat) (σ : oSt) : Prop := Ls.Nodup ∧ ∀ a, a ∈ Ls → b0 ≤ a ∧ ∃ fs, σ.1 a = some (.inr (6, fs))
/-- the NAMES that * may be -/
def srO (b0 st : Nat) (na : gN → Nat) (S : List gN) (Ls : List Nat) (σ : oSt) : Prop := ∃ g, σ.1 st = some (.inl (.object "LiquidTongue$Name", 73, .inr (.inr (.inr (.inr g))))) ∧ ∀ (i : Nat) (s : gN), S[i]? = some s → g i = some (na s) ∧ na s ∈ Ls
/-- all that holds while a CASE says its INSTANCES -/
def saS (st : Nat) (l : Nat → Nat) (b0 : Nat) (nq : tQ → Int) (xs : List tQ) (Q : Nat → Prop) (pg ch : Nat) (cf : List Value) (na : gN → Nat) (S : List gN) (Ls : List Nat) (w ra sa cap : Nat) (kd : Int32) (σ : oSt) (F : List kFc) : Prop := saI st l b0 Q w ra sa cap kd σ F ∧ gIv st l b0 Q σ ∧ ntI st l b0 nq xs Q σ ∧ qRw st l b0 nq xs Q pg σ ∧ (σ.1 ch = some (.inr (2, cf)) ∧ ch ≠ w) ∧ srO b0 st na S Ls σ ∧ lsO b0 Ls σ
section SAL
variable {κ : oKv} {T n : Nat} {st : Nat} {l : Nat → Nat} {b0 : Nat} {nq : tQ → Int} {xs : List tQ} {Q : Nat → Prop} {σ σ' : oSt} {ch pg : Nat} {cf : List Value} {na : gN → Nat} {S : List gN} {Ls : List Nat} {w ra sa cap : Nat} {kd : Int32} {F : List kFc}
theorem gKx.rf : gKx st l b0 w ra sa σ σ := ⟨fun _ _ h _ _ _ q => ⟨h, q⟩, fun _ fs h => ⟨fs, h, rfl, fun _ _ => rfl⟩, Nat.le_refl _, fun _ _ _ h _ _ => h, fun _ _ h _ _ => h, fun _ _ h => h⟩
theorem gKx.tr {a b c : oSt} (h : gKx st l b0 w ra sa a b) (g : gKx st l b0 w ra sa b c) : gKx st l b0 w ra sa a c := ⟨fun x cc e h1 h2 h3 q => g.1 x cc (h.1 x cc e h1 h2 h3 q).1 h1 h2 h3 (h.1 x cc e h1 h2 h3 q).2, fun x fs e => by
  obtain ⟨f1, a1, a2, a3⟩ := h.2.1 x fs e
  obtain ⟨f2, b1, b2, b3⟩ := g.2.1 x f1 a1
  exact ⟨f2, b1, b2.trans a2, fun i hi => (b3 i hi).trans (a3 i hi)⟩, Nat.le_trans h.2.2.1 g.2.2.1, fun x k fs e h6 hw => g.2.2.2.1 x k fs (h.2.2.2.1 x k fs e h6 hw) h6 hw, fun x y e hs hr => g.2.2.2.2.1 x y (h.2.2.2.2.1 x y e hs hr) hs hr, fun x hx e => g.2.2.2.2.2 x (Nat.lt_of_lt_of_le hx h.2.2.1) (h.2.2.2.2.2 x hx e)⟩
theorem gKx.of (k : ∀ W, gKp st l b0 W σ σ') (t : tXp σ σ') : gKx st l b0 w ra sa σ σ' := ⟨fun x cc e _ _ _ q => (k (fun _ => False)).1 x cc e q, fun x fs e => by
  obtain ⟨f1, a1, a2, a3⟩ := (k (fun _ => False)).2.1 x fs e
  exact ⟨f1, a1, a2, fun i hi => a3 i hi (fun _ z => z)⟩, (k (fun _ => False)).2.2.2, fun x k fs e h6 _ => t.1 x k fs e h6, fun x y e hs _ => t.2.1 x y e hs, t.2.2⟩
theorem lsO.x (h : lsO b0 Ls σ) (k : gKx st l b0 w ra sa σ σ') : lsO b0 Ls σ' := ⟨h.1, fun a ha => ⟨(h.2 a ha).1, by
  obtain ⟨fs, e⟩ := (h.2 a ha).2
  obtain ⟨f1, a1, -⟩ := k.2.1 a fs e
  exact ⟨f1, a1⟩⟩⟩
theorem srO.x (h : srO b0 st na S Ls σ) (k : gKx st l b0 w ra sa σ σ') (hr : st ≠ ra) : srO b0 st na S Ls σ' := by
  obtain ⟨g, h1, h2⟩ := h
  exact ⟨g, k.2.2.2.2.1 _ _ h1 (by show FieldType.object "LiquidTongue$Name" ≠ _; decide) hr, h2⟩
theorem qRw.x (h : qRw st l b0 nq xs Q pg σ) (k : gKx st l b0 w ra sa σ σ') (hw : ∃ fw, σ.1 w = some (.inr (4, fw))) (ha : Q ra ∧ Q sa) : qRw st l b0 nq xs Q pg σ' := by
  obtain ⟨pf, r4, r5, r6, r7, f4, f5, f6, f7, p0, p1, ⟨m4, m5, m6, m7⟩, ⟨⟨q4, q5, q6, q7⟩, n4, n5, n6, n7⟩, xl, pq⟩ := h
  obtain ⟨fw, ew⟩ := hw
  have go : ∀ r f, σ.1 r = some (.inl (.int, 6, .inl f)) → qA st l b0 σ r → ¬ Q r → σ'.1 r = some (.inl (.int, 6, .inl f)) ∧ qA st l b0 σ' r := fun r f e q nr => k.1 r _ e (fun z => by rw [z, ew] at e; cases e) (fun z => nr (by rw [z]; exact ha.1)) (fun z => nr (by rw [z]; exact ha.2)) q
  obtain ⟨a4, b4⟩ := go _ _ m4 q4 n4
  obtain ⟨a5, b5⟩ := go _ _ m5 q5 n5
  obtain ⟨a6, b6⟩ := go _ _ m6 q6 n6
  obtain ⟨a7, b7⟩ := go _ _ m7 q7 n7
  exact ⟨pf, r4, r5, r6, r7, f4, f5, f6, f7, k.2.2.2.1 _ _ _ p0 (by decide) (fun z => by rw [z, ew] at p0; cases p0), p1, ⟨a4, a5, a6, a7⟩, ⟨⟨b4, b5, b6, b7⟩, n4, n5, n6, n7⟩, xl, pq⟩
/-- from one state to the next -/
theorem saS.go {F' : List kFc} (h : saS st l b0 nq xs Q pg ch cf na S Ls w ra sa cap kd σ F) (k : gKx st l b0 w ra sa σ σ') (i : saI st l b0 Q w ra sa cap kd σ' F') (iv : gIv st l b0 Q σ') (nt : ntI st l b0 nq xs Q σ') : saS st l b0 nq xs Q pg ch cf na S Ls w ra sa cap kd σ' F' := by
  obtain ⟨h1, h2, h3, h4, ⟨h5, h5'⟩, h6, h7⟩ := h
  obtain ⟨fs, hr, gs, e1, -, -, -, ⟨-, -, -, -, qa, qb⟩, ⟨q1, -⟩, -⟩ := h1
  exact ⟨i, iv, nt, h4.x k ⟨_, e1⟩ ⟨qa, qb⟩, ⟨k.2.2.2.1 _ _ _ h5 (by decide) h5', h5'⟩, h6.x k (fun z => q1.1 z.symm), h7.x k⟩
/-- say() -/
theorem saS.say {su : Nat} {x : kFc} (h : saS st l b0 nq xs Q pg ch cf na S Ls w ra sa cap kd σ F) (hF : F.length < cap) (hx : x.1 ≤ 4) (hu : cTq st l b0 Q σ su x.2) : ∃ σ', oF κ T (n + 1) 16 [va_rf (some w), .int (jRc x.1), va_rf (some su)] σ = some (none, σ') ∧ saS st l b0 nq xs Q pg ch cf na S Ls w ra sa cap kd σ' (F ++ [x]) ∧ gKx st l b0 w ra sa σ σ' ∧ gPo xs.length Ls σ σ' 0 0 := by
  obtain ⟨h1, h2, h3, h4, h5, h6, h7⟩ := id h
  obtain ⟨σ', R, a1, a2, a3, a4, a5, a6, a7⟩ := h1.say (κ := κ) (T := T) (n := n) hF hx hu h2 h3
  obtain ⟨fs, hr, gs, e1, -, -, ⟨e4, e5⟩, -⟩ := h1
  obtain ⟨fs', hr', gs', e1', -, -, ⟨e4', e5'⟩, -⟩ := id a1
  have nm : ∀ a f, σ'.1 a = some (.inr (6, f)) → σ.1 a = some (.inr (6, f)) := fun a f e => by
    rw [← a5 a (fun z => by rw [z, e1'] at e; cases e) (fun z => by rw [z, e4'] at e; cases e) (fun z => by rw [z, e5'] at e; cases e)]; exact e
  have nn : ∀ a k f, σ.1 a = some (.inr (k, f)) → k ≠ 4 → σ'.1 a = some (.inr (k, f)) := fun a k f e hk => by
    rw [a5 a (fun z => by rw [z, e1] at e; injection e with e; injection e with e; injection e with e _; exact hk e.symm) (fun z => by rw [z, e4] at e; cases e) (fun z => by rw [z, e5] at e; cases e)]; exact e
  have qq : ∀ y, qA st l b0 σ y → qA st l b0 σ' y := fun y ⟨q1, q2, q3⟩ => ⟨q1, fun ⟨i, mc, m, hi, e⟩ => q2 ⟨i, mc, m, hi, by
    rw [← a5 _ (fun z => by rw [z, e1'] at e; cases e) (fun z => by rw [z, e4'] at e; cases e) (fun z => by rw [z, e5'] at e; cases e)]; exact e⟩, fun ⟨a, f, e0, e, e5⟩ => q3 ⟨a, f, e0, nm a f e, e5⟩⟩
  have k : gKx st l b0 w ra sa σ σ' := by
    refine ⟨fun x cc e n1 n2 n3 q => ⟨by rw [a5 x n1 n2 n3]; exact e, ?_⟩, fun x fs e => ⟨fs, nn x 6 fs e (by decide), rfl, fun _ _ => rfl⟩, by rw [a4]; exact Nat.le_refl _, fun x k fs e h6 hw => ?_, fun x y e hs hr => ?_, fun x hx e => ?_⟩
    · match cc, q with
      | .inr o, q => exact q
      | .inl y, q => exact qq x q
    · by_cases c : k = 4
      · rw [a5 x hw (fun z => by rw [z, e4] at e; cases e) (fun z => by rw [z, e5] at e; cases e)]; exact e
      · exact nn x k fs e c
    · rw [a5 x (fun z => by rw [z, e1] at e; cases e) hr (fun z => by rw [z, e5] at e; injection e with e; injection e with e; exact hs (by rw [← e]))]; exact e
    · rw [a5 x (fun z => by rw [z, e1] at e; cases e) (fun z => by rw [z, e4] at e; cases e) (fun z => by rw [z, e5] at e; cases e)]; exact e
  have tp : tmP xs.length σ' Ls = tmP xs.length σ Ls := tmP_cg (fun a ha => a7 a (h7.2 a ha).1)
  exact ⟨σ', R, h.go k a1 a2 a3, k, by unfold gPo; rw [tp, a4]; exact ⟨Nat.le_refl _, Nat.le_refl _⟩⟩
/-- instance() -/
theorem saS.ins {q a : Nat} {x : tQ} (hT : 2010 ≤ T) (h : saS st l b0 nq xs Q pg ch cf na S Ls w ra sa cap kd σ F) (c0 : cf[0]? = some (.ref pg)) (hx : xs[q]? = some x) (hs : x.2.2.2.1 = true) (ha : a ∈ Ls) (hnq : -1125899906842624 ≤ nq x ∧ nq x ≤ 1125899906842624) : ∃ σ' su, oF κ T (n + 5) 25 [va_rf (some ch), va_rf (some a), .int (nI q)] σ = some (some (va_rf (some su)), σ') ∧ cTq st l b0 Q σ' su (some (a, if x.2.2.1 = true then -1 else 1), nq x) ∧ saS st l b0 nq xs Q pg ch cf na S Ls w ra sa cap kd σ' F ∧ gKx st l b0 w ra sa σ σ' ∧ gPo xs.length Ls σ σ' 0 0 := by
  obtain ⟨h1, h2, h3, h4, h5, h6, h7⟩ := id h
  obtain ⟨hb, fs, ea⟩ := h7.2 a ha
  obtain ⟨σ', su, R, c, i1, i2, i3, i4, ⟨k, k1, k2, k3⟩, i6⟩ := c_inst (κ := κ) (T := T) (n := n) hT hx hs hb ea h2 h3 h4 h5.1 c0 hnq
  have kx : gKx st l b0 w ra sa σ σ' := gKx.of i3 i4
  have tp := tmP_up (σ := σ) (σ' := σ') h7.1 ha (fun b hb' hne => by
    obtain ⟨b1, fb, b2⟩ := h7.2 b hb'
    exact i6 b fb b1 hne b2) k1
  exact ⟨σ', su, R, c, h.go kx (h1.sp (i3 (fun _ => False)) h2.1) i1 i2, kx, by unfold gPo; exact ⟨by omega, by omega⟩⟩
/-- the loop over what * may be -/
theorem c_sa160 {k71 : Option Nat → Option Nat → Int32 → oSt → oRs} {q : Nat} {x : tQ} (hT : 2010 ≤ T) (hx : xs[q]? = some x) (hs : x.2.2.2.1 = true) (hr : x.2.1 ≤ 4) (hnq : -1125899906842624 ≤ nq x ∧ nq x ≤ 1125899906842624) (c0 : cf[0]? = some (.ref pg)) (c7 : cf[7]? = some (.ref st)) (c8 : cf[8]? = some (.int (nI S.length))) (hS : S.length ≤ 72) : ∀ (S2 : List gN) (i t : Nat) (σ : oSt) (F : List kFc), i + S2.length = S.length → (∀ j, S[i + j]? = S2[j]?) → S2.length < t → F.length + S2.length ≤ cap → saS st l b0 nq xs Q pg ch cf na S Ls w ra sa cap kd σ F → ∃ σ', ol_X0_sayInstances_160 T (oF κ T (n + 5)) κ k71 t (some ch) (some w) (nI q) (nI i) σ = k71 (some ch) (some w) (nI (q + 1)) σ' ∧ saS st l b0 nq xs Q pg ch cf na S Ls w ra sa cap kd σ' (F ++ S2.map (fun s => (x.2.1, kTm na (some (s, if x.2.2.1 = true then -1 else 1), nq x)))) ∧ gKx st l b0 w ra sa σ σ' ∧ gPo xs.length Ls σ σ' 0 0
  | [], i, t, σ, F, hi, hj, ht, hF, h => by
    obtain ⟨t, rfl⟩ : ∃ t', t = t' + 1 := ⟨t - 1, by omega⟩
    have hi : i = S.length := hi
    obtain ⟨h1, h2, h3, h4, h5, h6, h7⟩ := id h
    rw [ol_X0_sayInstances_160, ofd_at h5.1, c8, ovi_i, obn_at, if_pos (by rw [hi]; exact Int32.le_refl _)]
    unfold oj_X0_sayInstances_200
    rw [nI_p1, List.map_nil, List.append_nil]
    exact ⟨σ, rfl, h, gKx.rf, by unfold gPo; exact ⟨Nat.le_refl _, Nat.le_refl _⟩⟩
  | s :: S2, i, t, σ, F, hi, hj, ht, hF, h => by
    obtain ⟨t, rfl⟩ : ∃ t', t = t' + 1 := ⟨t - 1, by omega⟩
    have hi : i + (S2.length + 1) = S.length := hi
    have hF : F.length + (S2.length + 1) ≤ cap := hF
    have ht : S2.length + 1 < t + 1 := ht
    obtain ⟨h1, h2, h3, h4, h5, h6, h7⟩ := id h
    obtain ⟨g, g1, g2⟩ := h6
    have es : S[i]? = some s := by have := hj 0; rw [Nat.add_zero] at this; exact this
    obtain ⟨g3, g4⟩ := g2 i s es
    obtain ⟨pf, r4, r5, r6, r7, f4, f5, f6, f7, p0, ⟨p4, p5, p6, p7, p8⟩, ⟨m4, m5, m6, m7⟩, -, xl, pq⟩ := h4
    obtain ⟨e4, e5, -⟩ := pq q x hx
    have q6 : q < 6 := by have := (List.getElem?_eq_some_iff.mp hx).1; omega
    have zq : zin (nI q) 6 = true := zin_n q6 (by decide)
    have r5' : oai σ (some r5) .int (nI q) = some (jRc x.2.1) := by simp only [oai, m5, zq, and_self, if_true, nI_clamp (show q < 2 ^ 31 by omega), e5]
    have zi : zin (nI i) 73 = true := zin_n (by omega) (by decide)
    have rs : oar σ (some st) (nI i) = some (some (na s)) := by simp only [oar, g1, zi, if_true, nI_clamp (show i < 2 ^ 31 by omega), g3]
    rw [ol_X0_sayInstances_160, ofd_at h5.1, c8, ovi_i, obn_at, if_neg (nI_ge (by omega) (by omega)), ofd_at h5.1, c0, ovr_rf, obn_at, ofd_at p0, p5, ovr_rf, obn_at, r5', obn_at, ofd_at h5.1, c7, ovr_rf, obn_at, rs, obn_at, oob_at h5.1, obn_at]
    obtain ⟨σ1, su, R1, cT, G1, K1, P1⟩ := h.ins (κ := κ) (T := T) (n := n) hT c0 hx hs g4 hnq
    rw [R1, orn_at]
    obtain ⟨fs1, hr1, gs1, w1, -⟩ := id G1.1
    rw [oob_at w1, obn_at]
    obtain ⟨σ2, R2, G2, K2, P2⟩ := G1.say (κ := κ) (T := T) (n := n + 4) (x := (x.2.1, (some (na s, if x.2.2.1 = true then -1 else 1), nq x))) (by omega) hr cT
    rw [R2, ocv_at, nI_p1]
    obtain ⟨σ3, R3, G3, K3, P3⟩ := c_sa160 (k71 := k71) hT hx hs hr hnq c0 c7 c8 hS S2 (i + 1) t σ2 _ (by omega) (fun j => by have := hj (j + 1); rw [show i + 1 + j = i + (j + 1) by omega]; exact this) (by omega) (by rw [List.length_append]; show F.length + 1 + S2.length ≤ cap; omega) G2
    refine ⟨σ3, R3, ?_, (K1.tr K2).tr K3, (P1.tr P2).tr P3⟩
    rw [List.append_assoc] at G3
    exact G3
end SAL
