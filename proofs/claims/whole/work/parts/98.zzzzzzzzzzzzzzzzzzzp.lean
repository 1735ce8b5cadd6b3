/-! the class's gather(): Sums and FACTS that it makes -/
/-- cells are made, all others stay -/
def oNl (σ σ' : oSt) (dn ds : Nat) : Prop := (∀ x, x < σ.2.1 → σ'.1 x = σ.1 x) ∧ (∀ q, σ'.2.1 ≤ q → σ'.1 q = none) ∧ σ'.2 = (σ.2.1 + dn, σ.2.2.1 + dn, σ.2.2.2 + ds)
theorem oNl.tr {a b c : oSt} {d d' e e' : Nat} (h : oNl a b d e) (g : oNl b c d' e') : oNl a c (d + d') (e + e') := by
  obtain ⟨h1, h2, h3⟩ := h
  obtain ⟨g1, g2, g3⟩ := g
  have b1 : b.2.1 = a.2.1 + d := by rw [h3]
  refine ⟨fun x hx => (g1 x (by rw [b1]; omega)).trans (h1 x hx), g2, ?_⟩
  rw [g3, h3]
  simp only [Nat.add_assoc]
theorem oNl.new {σ : oSt} {c : oC} {k : Nat} (hfr : ∀ q, σ.2.1 ≤ q → σ.1 q = none) : oNl σ (onew σ c k) 1 k := ⟨fun x hx => onew_ne (by omega), fun q hq => by
  have hq : σ.2.1 + 1 ≤ q := hq
  rw [onew_ne (by omega)]
  exact hfr q (by omega), rfl⟩
theorem oNl.nx {σ σ' : oSt} {d e : Nat} (h : oNl σ σ' d e) : σ'.2.1 = σ.2.1 + d := by rw [h.2.2]
section GKS
variable {κ : oKv} {T n : Nat} {σ : oSt}
/-- Sum.of(name, times, plus) -/
theorem c_sof {o : Option Nat} {v : Int32} {p : Int64} (hT : 2010 ≤ T) (ho : ∀ a, o = some a → ∃ fs, σ.1 a = some (.inr (6, fs))) (hv : v = 0 ∨ v = 1 ∨ v = -1) (hfr : ∀ q, σ.2.1 ≤ q → σ.1 q = none) : ∃ σ', oF κ T (n + 4) 11 [va_rf o, .int v, .long p] σ = some (some (va_rf (some σ.2.1)), σ') ∧ cSm σ' σ.2.1 (σ.2.1 + 1) (σ.2.1 + 2) 2 (if v = 0 then [] else match o with | none => [] | some a => [(a, v)]) p ∧ oNl σ σ' 3 8 := by
  have lt : ∀ {x cc}, σ.1 x = some cc → x < σ.2.1 := fun h => Nat.lt_of_not_le (fun e => by rw [hfr _ e] at h; cases h)
  have l1 : oNl σ (onew σ (.inr (11, odef 11)) 4) 1 4 := oNl.new hfr
  obtain ⟨s5, a1, a2, a3, a4, a5⟩ := x_init (κ := κ) (T := T) (n := n + 2) (x := σ.2.1) (σ := onew σ (.inr (11, odef 11)) 4) (onew_eq _ _ _) l1.2.1
  have e1 : (onew σ (.inr (11, odef 11)) 4).2.1 = σ.2.1 + 1 := rfl
  rw [e1] at a2 a3 a4
  have a5 : s5.2 = (σ.2.1 + 3, σ.2.2.1 + 3, σ.2.2.2 + 8) := a5.trans (by show (σ.2.1 + 1 + 2, σ.2.2.1 + 1 + 2, σ.2.2.2 + 4 + 4) = _; simp only [Nat.add_assoc])
  have o5 : ∀ x, x < σ.2.1 → s5.1 x = σ.1 x := fun x hx => (a3 x (by omega) (by omega)).trans (onew_ne (by omega))
  have f5 : ∀ q, σ.2.1 + 3 ≤ q → s5.1 q = none := fun q hq => a4 q (by omega)
  -- the end: plus
  have fin : ∀ (s : oSt) (L : List (Nat × Int32)) (t1 : Option Nat), oF κ T (n + 3) 10 [va_rf (some σ.2.1), va_rf t1, .int v] s5 = some (none, s) → cSm s σ.2.1 (σ.2.1 + 1) (σ.2.1 + 2) 2 L 0 → (∀ x, x < σ.2.1 → s.1 x = σ.1 x) → (∀ q, σ.2.1 + 3 ≤ q → s.1 q = none) → s.2 = s5.2 → ∃ σ', oj_X9_of_20 T (oF κ T (n + 3)) κ v p (some σ.2.1) (some σ.2.1) t1 s5 = some (some (va_rf (some σ.2.1)), σ') ∧ cSm σ' σ.2.1 (σ.2.1 + 1) (σ.2.1 + 2) 2 L p ∧ oNl σ σ' 3 8 := fun s L t1 hc ⟨g, h', s1, s2, s3, s4, s6⟩ ho' hf h2 => by
    unfold oj_X9_of_20
    obtain ⟨g0, h0, q1, -⟩ := a2
    rw [oob_at q1, obn_at, hc, ocv_at, opf_at s1 (by simp), obn_at]
    refine ⟨_, rfl, ⟨g, h', oput_eq _ _ _, ?_, ?_, s4, fun k b c e => ?_⟩, fun x hx => ?_, fun q hq => ?_, ?_⟩
    · rw [oput_ne (by omega)]; exact s2
    · rw [oput_ne (by omega)]; exact s3
    · obtain ⟨b1, b2, fs, b3⟩ := s6 k b c e
      refine ⟨b1, b2, fs, ?_⟩
      rw [oput_ne (fun e => by rw [e, s1] at b3; cases b3)]
      exact b3
    · rw [oput_ne (by omega)]; exact ho' x hx
    · have hq : s.2.1 ≤ q := hq
      rw [h2, a5] at hq
      rw [oput_ne (by have : σ.2.1 + 3 ≤ q := hq; omega)]
      exact hf q hq
    · show s.2 = _
      rw [h2, a5]
  rw [oE_X9_of]
  unfold ob_X9_of
  have a1 : oF κ T (n + 3) 8 [va_rf (some σ.2.1)] (onew σ (.inr (11, odef 11)) 4) = some (none, s5) := a1
  rw [oq_11, olet_at, obn_at, a1, ocv_at]
  by_cases c : v = 0
  · rw [if_pos c, if_pos c]
    exact fin s5 [] none x_add0 a2 o5 f5 rfl
  · rw [if_neg c, if_neg c]
    cases o with
    | none => exact fin s5 [] none x_add0 a2 o5 f5 rfl
    | some a =>
      obtain ⟨fs, ha⟩ := ho a rfl
      obtain ⟨s, na', ta', cap', b1, b2, b3, b4, b5⟩ := x_add (κ := κ) (T := T) (n := n) (v := v) a2 (by decide) ((o5 a (lt ha)).trans ha) (fun q hq => f5 q (by rw [a5] at hq; exact hq)) hT
      rcases b5 with ⟨rfl, rfl, rfl, b5⟩ | ⟨_, _, z, _⟩
      · have eL : sAdd [] a v = [(a, v)] := by
          rcases hv with z | z | z
          · exact absurd z c
          · subst z; simp [sAdd, sUp, sL1, sIx, sAt]
          · subst z; simp [sAdd, sUp, sL1, sIx, sAt]
        rw [eL] at b2
        exact fin s _ (some a) b1 b2 (fun x hx => (b3 x (by rw [a5]; show x < σ.2.1 + 3; omega) (by omega) (by omega) (by omega)).trans (o5 x hx)) (fun q hq => b4 q (by rw [b5, a5]; exact hq)) b5
      · cases z
/-- makeRoom(facts) -/
theorem c_mkR {k q : Nat} {fs : List Value} (hk : σ.1 k = some (.inr (4, fs))) (hl : fs.length = 15) (hq : q < 60000) (hfr : ∀ q, σ.2.1 ≤ q → σ.1 q = none) : ∃ σ', oF κ T (n + 1) 15 [va_rf (some k), .int (nI q)] σ = some (none, σ') ∧ σ'.1 σ.2.1 = some (.inl (.int, q, .inl (fun _ => 0))) ∧ σ'.1 (σ.2.1 + 1) = some (.inl (.object "LiquidTongue$Sum", q, .inr (.inr (.inr (.inr (fun _ => none)))))) ∧ σ'.1 k = some (.inr (4, (fs.set 5 (.ref σ.2.1)).set 6 (.ref (σ.2.1 + 1)))) ∧ (∀ x, x < σ.2.1 → x ≠ k → σ'.1 x = σ.1 x) ∧ (∀ q, σ.2.1 + 2 ≤ q → σ'.1 q = none) ∧ σ'.2 = (σ.2.1 + 2, σ.2.2.1 + 2, σ.2.2.2 + 2 * q) := by
  have lk : k < σ.2.1 := Nat.lt_of_not_le (fun e => by rw [hfr _ e] at hk; cases hk)
  have on : onn (nI q) = true := by
    unfold onn
    rw [nI_clamp (by omega), decide_eq_true (show ¬ nI q < 0 from nI_nn (by omega)), decide_eq_true (show q ≤ 60000000 by omega)]
    rfl
  have cl : (nI q).toNatClampNeg = q := nI_clamp (by omega)
  rw [oE_X2_makeRoom]
  unfold ob_X2_makeRoom
  rw [ogd_at on, olet_at, cl]
  have h1 : (onew σ (.inl (.int, q, .inl (fun _ => 0))) q).1 k = some (.inr (4, fs)) := (onew_ne (by omega)).trans hk
  rw [opf_at h1 (by omega), obn_at, ogd_at on, olet_at, oq_11n]
  generalize eS : oput (onew σ (.inl (.int, q, .inl (fun _ => 0))) q) k (.inr (4, fs.set 5 (va_rf (some σ.2.1)))) = S
  have s2 : S.2 = (σ.2.1 + 1, σ.2.2.1 + 1, σ.2.2.2 + q) := by rw [← eS]; rfl
  have s21 : S.2.1 = σ.2.1 + 1 := by rw [s2]
  have sk : S.1 k = some (.inr (4, fs.set 5 (va_rf (some σ.2.1)))) := by rw [← eS, oput_eq]
  have h2 : (onew S (.inl (.object "LiquidTongue$Sum", q, .inr (.inr (.inr (.inr (fun _ => none)))))) q).1 k = some (.inr (4, fs.set 5 (va_rf (some σ.2.1)))) := (onew_ne (by rw [s21]; omega)).trans sk
  rw [opf_at h2 (by rw [List.length_set]; omega), obn_at, s21]
  refine ⟨_, rfl, ?_, ?_, oput_eq _ _ _, fun x hx hn => ?_, fun q hq => ?_, ?_⟩
  · rw [oput_ne (by omega), onew_ne (by rw [s21]; omega), ← eS, oput_ne (by omega), onew_eq]
  · rw [oput_ne (by omega), ← s21, onew_eq]
  · rw [oput_ne hn, onew_ne (by rw [s21]; omega), ← eS, oput_ne hn, onew_ne (by omega)]
  · rw [oput_ne (by omega), onew_ne (by rw [s21]; omega), ← eS, oput_ne (by omega), onew_ne (by omega)]
    exact hfr q (by omega)
  · show (S.2.1 + 1, S.2.2.1 + 1, S.2.2.2 + q) = _
    rw [s2, Nat.two_mul]
    simp only [Nat.add_assoc]
/-- say(rel, sum) -/
theorem c_say {k ra sa cap c su : Nat} {fs fu : List Value} {hr : Nat → Int32} {gs : Nat → Option Nat} {rl : Int32} (hk : σ.1 k = some (.inr (4, fs))) (hl : fs.length = 15) (f5 : fs[5]? = some (.ref ra)) (f6 : fs[6]? = some (.ref sa)) (f7 : fs[7]? = some (.int (nI c))) (h1 : σ.1 ra = some (.inl (.int, cap, .inl hr))) (h2 : σ.1 sa = some (.inl (.object "LiquidTongue$Sum", cap, .inr (.inr (.inr (.inr gs)))))) (hc : c < cap) (hp : cap < 60000) (hu : σ.1 su = some (.inr (11, fu))) : oF κ T (n + 1) 16 [va_rf (some k), .int rl, va_rf (some su)] σ = some (none, oput (oput (oput σ ra (.inl (.int, cap, .inl (upd hr c rl)))) sa (.inl (.object "LiquidTongue$Sum", cap, .inr (.inr (.inr (.inr (va_up gs c (some su)))))))) k (.inr (4, fs.set 7 (.int (nI (c + 1)))))) := by
  have z : zin (nI c) cap = true := zin_n hc (by omega)
  have cl : (nI c).toNatClampNeg = c := nI_clamp (by omega)
  have n1 : k ≠ ra := fun e => by rw [e, h1] at hk; cases hk
  have n2 : k ≠ sa := fun e => by rw [e, h2] at hk; cases hk
  have n3 : sa ≠ ra := fun e => by rw [e, h1] at h2; cases h2
  have n4 : su ≠ ra := fun e => by rw [e, h1] at hu; cases hu
  have n5 : su ≠ sa := fun e => by rw [e, h2] at hu; cases hu
  have ln : oln2 κ σ (some ra) = some (nI cap) := by simp only [oln2, h1]; rfl
  rw [oE_X2_say]
  unfold ob_X2_say
  rw [ofd_at hk, f5, ovr_rf, obn_at, if_neg (by simp), ofd_at hk, f7, ovi_i, obn_at, obn_at, ln, obn_at, if_neg (nI_ge (by omega) (by omega)), obn_at, obn_at]
  have e1 : osi σ (some ra) .int (nI c) rl = some (oput σ ra (.inl (.int, cap, .inl (upd hr c rl)))) := by simp only [osi, h1, z, and_self, if_true, cl]
  rw [e1, obn_at]
  have hk1 : (oput σ ra (.inl (.int, cap, .inl (upd hr c rl)))).1 k = some (.inr (4, fs)) := (oput_ne n1).trans hk
  rw [ofd_at hk1, f6, ovr_rf, obn_at, ofd_at hk1, f7, ovi_i, obn_at]
  have e2 : osr (oput σ ra (.inl (.int, cap, .inl (upd hr c rl)))) (some sa) (nI c) (some su) = some (oput (oput σ ra (.inl (.int, cap, .inl (upd hr c rl)))) sa (.inl (.object "LiquidTongue$Sum", cap, .inr (.inr (.inr (.inr (va_up gs c (some su)))))))) := by
    have w1 : (oput σ ra (.inl (.int, cap, .inl (upd hr c rl)))).1 sa = some (.inl (.object "LiquidTongue$Sum", cap, .inr (.inr (.inr (.inr gs))))) := (oput_ne n3).trans h2
    have w2 : (oput σ ra (.inl (.int, cap, .inl (upd hr c rl)))).1 su = some (.inr (11, fu)) := (oput_ne n4).trans hu
    simp only [osr, w1, z, if_true, w2, ofits_s, cl]
  rw [e2, obn_at]
  have hk2 : (oput (oput σ ra (.inl (.int, cap, .inl (upd hr c rl)))) sa (.inl (.object "LiquidTongue$Sum", cap, .inr (.inr (.inr (.inr (va_up gs c (some su)))))))).1 k = some (.inr (4, fs)) := (oput_ne n2).trans hk1
  rw [ofd_at hk2, f7, ovi_i, obn_at, opf_at hk2 (by omega), obn_at, nI_p1]
end GKS
