/-! the class's gather(): taken() and answered() of types -/
theorem oNl.kp {st b0 : Nat} {l : Nat → Nat} {W : Nat → Prop} {σ σ' : oSt} {d e : Nat} (h : oNl σ σ' d e) (hfr : ∀ q, σ.2.1 ≤ q → σ.1 q = none) (hl : ∀ i, i < 4 → l i < σ.2.1) (h6 : ∀ x fs, σ.2.1 ≤ x → σ'.1 x = some (.inr (6, fs)) → ∀ y, fs[5]? ≠ some (.ref y)) : gKp st l b0 W σ σ' := gKp.of h.1 hfr h6 hl (by rw [h.nx]; omega)
/-- no NAME that is made has a row of terms -/
def oN6 (σ σ' : oSt) : Prop := ∀ x fs, σ.2.1 ≤ x → σ'.1 x = some (.inr (6, fs)) → fs.length = 8 ∧ fs[5]? = some (va_rf none)
/-- what holds while gather() goes on -/
def gIv (st : Nat) (l : Nat → Nat) (b0 : Nat) (Q : Nat → Prop) (σ : oSt) : Prop := (∀ q, σ.2.1 ≤ q → σ.1 q = none) ∧ (∀ i, i < 4 → l i < σ.2.1) ∧ (b0 ≤ σ.2.1 ∧ st < σ.2.1) ∧ (∀ x, Q x → x < σ.2.1) ∧ (∀ x, tmS b0 σ x → x < σ.2.1) ∧ ∀ x, ldS l σ x → x < σ.2.1
theorem gIv.go {st : Nat} {l : Nat → Nat} {b0 : Nat} {Q : Nat → Prop} {σ σ' : oSt} {d e : Nat} (h : gIv st l b0 Q σ) (o : oNl σ σ' d e) (h6 : oN6 σ σ') : gIv st l b0 Q σ' ∧ ∀ x, σ.2.1 ≤ x → qA st l b0 σ' x := by
  obtain ⟨h1, h2, h3, h4, h5, h7⟩ := h
  have nx := o.nx
  have t : ∀ x, tmS b0 σ' x → x < σ.2.1 := fun x ⟨a, fs, eb, e, e5⟩ => by
    by_cases c : a < σ.2.1
    · exact h5 x ⟨a, fs, eb, by rw [← o.1 a c]; exact e, e5⟩
    · rw [(h6 a fs (by omega) e).2] at e5; cases e5
  have q : ∀ x, ldS l σ' x → x < σ.2.1 := fun x ⟨i, mc, n, hi, e⟩ => h7 x ⟨i, mc, n, hi, by rw [← o.1 _ (h2 i hi)]; exact e⟩
  refine ⟨⟨o.2.1, fun i hi => ?_, ⟨by omega, by omega⟩, fun x hx => ?_, fun x hx => ?_, fun x hx => ?_⟩, fun x hx => ⟨by omega, fun z => ?_, fun z => ?_⟩⟩
  · have := h2 i hi; omega
  · have := h4 x hx; omega
  · have := t x hx; omega
  · have := q x hx; omega
  · have := q x z; omega
  · have := t x z; omega
theorem gIv.kp {st : Nat} {l : Nat → Nat} {b0 : Nat} {Q W : Nat → Prop} {σ σ' : oSt} {d e : Nat} (h : gIv st l b0 Q σ) (o : oNl σ σ' d e) (h6 : oN6 σ σ') : gKp st l b0 W σ σ' := o.kp h.1 h.2.1 (fun x fs hx e y z => by rw [(h6 x fs hx e).2] at z; cases z)
theorem oN6.rf {σ : oSt} (hfr : ∀ q, σ.2.1 ≤ q → σ.1 q = none) : oN6 σ σ := fun x fs hx e => by rw [hfr x hx] at e; cases e
theorem oNl.rf {σ : oSt} (hfr : ∀ q, σ.2.1 ≤ q → σ.1 q = none) : oNl σ σ 0 0 := ⟨fun _ _ => rfl, hfr, rfl⟩
section GTA
variable {κ : oKv} {T n : Nat} {st : Nat} {l : Nat → Nat} {b0 : Nat} {nq : tQ → Int} {xs : List tQ} {Ψ : kGh} {σ : oSt} {W : Nat → Prop} {E : gN → Nat → Prop} {k : Nat} {A : gTy} {m : gTm}
/-- what taken() and answered(null) leave: R the answer, m' the place -/
def kStp (st : Nat) (l : Nat → Nat) (b0 : Nat) (nq : tQ → Int) (xs : List tQ) (Ψ : kGh) (σ : oSt) (E : gN → Nat → Prop) (R : oRs) (A' : gTy) (sl : Nat) : Prop := ∃ σ' k' d s, R = some (some (va_rf (some k')), σ') ∧ oNl σ σ' d s ∧ oN6 σ σ' ∧ d ≤ 3 ∧ s ≤ sl ∧ kRl st l b0 nq xs Ψ σ' E k' A'
/-- what taken() and answered() leave, with how many were put in -/
def kSpp (st : Nat) (l : Nat → Nat) (b0 : Nat) (nq : tQ → Int) (xs : List tQ) (Ψ : kGh) (σ : oSt) (E : gN → Nat → Prop) (R : oRs) (A' : gTy) (p sl : Nat) : Prop := ∃ σ' k' d s, R = some (some (va_rf (some k')), σ') ∧ oNl σ σ' d s ∧ oN6 σ σ' ∧ (d ≤ 3 ∧ (sl ≤ 15 → 15 * d ≤ sl)) ∧ s ≤ sl ∧ kRp st l b0 nq xs Ψ σ' E k' A' p
theorem kSpp.rl {R : oRs} {A' : gTy} {p sl : Nat} (h : kSpp st l b0 nq xs Ψ σ E R A' p sl) : kStp st l b0 nq xs Ψ σ E R A' sl := by
  obtain ⟨σ', k', d, s, h1, h2, h3, h4, h5, h6⟩ := h
  exact ⟨σ', k', d, s, h1, h2, h3, h4.1, h5, h6.rl⟩
theorem c_new4 {kd : Int32} {tk : Nat} {gn ins : Option Nat} (hfr : ∀ q, σ.2.1 ≤ q → σ.1 q = none) : oNl σ (onew σ (.inr (4, kF0 kd tk gn ins)) 15) 1 15 ∧ oN6 σ (onew σ (.inr (4, kF0 kd tk gn ins)) 15) := by
  have h : oNl σ (onew σ (.inr (4, kF0 kd tk gn ins)) 15) 1 15 := oNl.new hfr
  refine ⟨h, fun x fs hx e => ?_⟩
  by_cases c : x = σ.2.1
  · rw [c, onew_eq] at e; cases e
  · rw [onew_ne c, hfr x hx] at e; cases e
/-- a new Known over the same rows -/
theorem kGq.new {kd kd' : Int32} {w tk : Nat} {G : List (Nat × kTe)} {fs : List Value} {gn ins : Option Nat} {σ' : oSt} (h : kGq st l b0 Ψ.2.2.1 σ k w kd G) (hk : σ.1 k = some (.inr (4, fs))) (h9 : fs[9]? = some (va_rf gn)) (h10 : fs[10]? = some (va_rf ins)) (kk : gKp st l b0 W σ σ') (hfr : ∀ q, σ.2.1 ≤ q → σ.1 q = none) {q : Nat} (hq : σ'.1 q = some (.inr (4, kF0 kd' tk gn ins))) : kGq st l b0 Ψ.2.2.1 σ' q tk kd' G := by
  obtain ⟨fs', gn', ins', g1, g2, g0, g3, g4, g5, g6, g7⟩ := h.sp (Q' := Ψ.2.2.1) kk (fun _ _ => Iff.rfl) hfr
  have e := kk.ob hk (by decide) (by decide) (by decide) (by decide)
  rw [e] at g1
  injection g1 with g1
  injection g1 with g1
  injection g1 with _ g1
  subst g1
  have v : ∀ {a b : Option Nat}, va_rf a = va_rf b → a = b := fun {a b} h => by
    cases a <;> cases b
    · rfl
    · cases h
    · cases h
    · injection h with h; rw [h]
  rw [h9] at g5
  rw [h10] at g6
  have e1 : gn = gn' := v (Option.some.inj g5)
  have e2 : ins = ins' := v (Option.some.inj g6)
  subst e1 e2
  exact ⟨_, gn, ins, hq, rfl, rfl, rfl, g4, rfl, rfl, g7⟩
theorem kRl.mk {y : tY} {G2 : List (gN × gTe)} (hA : A.1 = .inr m ∧ A.2 = G2) (hy : m.2.2.1 = y) (h1 : Ψ.2.2.2 m.1 ∧ ∀ s, s ∈ m.2.2.2.2 → gMd Ψ.2.2.2 s) (h2 : kTo st l b0 nq xs Ψ σ y m) {G : List (Nat × kTe)} (h3 : kGq st l b0 Ψ.2.2.1 σ k (Ψ.2.1 (m.1, m.2.1)) (cKd (yK y)) G) (hG : G.length ≤ m.2.1.count true) (h4 : ∀ p, p ∈ G → ∃ s, s ∈ m.2.2.2.2 ∧ p.1 = Ψ.1 s) (h5 : ∀ s, s ∈ m.2.2.2.2 → lkE Ψ.1 E G G2 s) (hN : ∃ a b, kNj Ψ.1 y m a b) : kRl st l b0 nq xs Ψ σ E k A := by
  subst hy
  unfold kRl
  rw [hA.1, hA.2]
  exact ⟨h1, h2, G, h3, ⟨hG, h4, hN⟩, h5⟩
theorem kRp.mk {y : tY} {p : Nat} {G2 : List (gN × gTe)} (hA : A.1 = .inr m ∧ A.2 = G2) (hy : m.2.2.1 = y) (h1 : Ψ.2.2.2 m.1 ∧ ∀ s, s ∈ m.2.2.2.2 → gMd Ψ.2.2.2 s) (h2 : kTo st l b0 nq xs Ψ σ y m) {G : List (Nat × kTe)} (h3 : kGq st l b0 Ψ.2.2.1 σ k (Ψ.2.1 (m.1, m.2.1)) (cKd (yK y)) G) (hG : G.length ≤ m.2.1.count true ∧ G.length ≤ p) (h4 : ∀ p, p ∈ G → ∃ s, s ∈ m.2.2.2.2 ∧ p.1 = Ψ.1 s) (h5 : ∀ s, s ∈ m.2.2.2.2 → lkE Ψ.1 E G G2 s) (hN : ∃ a b, kNj Ψ.1 y m a b) : kRp st l b0 nq xs Ψ σ E k A p := by
  subst hy
  unfold kRp
  rw [hA.1, hA.2]
  exact ⟨h1, h2, G, h3, ⟨hG, h4, hN⟩, h5⟩
theorem kRl.p {y : Nat} (hA : A.1 = .inr m) (hy : m.2.1.count true = y) (h : kRl st l b0 nq xs Ψ σ E k A) : kRp st l b0 nq xs Ψ σ E k A y := by
  unfold kRl at h
  unfold kRp
  rw [hA] at h ⊢
  obtain ⟨h1, h2, G, h3, h4, h5⟩ := h
  exact ⟨h1, h2, G, h3, ⟨⟨h4.1, by have := h4.1; omega⟩, h4.2⟩, h5⟩
theorem kTo.fn {y a b : tY} (h : kTo st l b0 nq xs Ψ σ y m) (hy : y = .inner 0 () () a b) : ((∃ fs gs, σ.1 (Ψ.2.1 (m.1, m.2.1)) = some (.inr (4, fs)) ∧ (fs[2]? = some (.ref (Ψ.1 (mPn m))) ∧ fs[3]? = some (.ref (Ψ.2.1 (m.1, m.2.1 ++ [false]))) ∧ fs[4]? = some (.ref (Ψ.2.1 (m.1, m.2.1 ++ [true]))) ∧ fs[7]? = some (.int 0)) ∧ σ.1 (Ψ.1 (mPn m)) = some (.inr (6, gs)) ∧ gs.length = 8 ∧ gs[3]? = some (.int (cKd (yK a))) ∧ (m.2.2.2.1 = [] → gs[0]? = some .null)) ∧ ∀ s, s ∈ m.2.2.2.2 → Ψ.1 s ≠ Ψ.1 (mPn m)) ∧ kTo st l b0 nq xs Ψ σ a (mTk m) ∧ kTo st l b0 nq xs Ψ σ b (mAn m) := by
  subst hy
  have h := h.2
  rw [if_pos rfl] at h
  exact h
theorem kGq.f {kd : Int32} {w : Nat} {G : List (Nat × kTe)} (h : kGq st l b0 Ψ.2.2.1 σ k w kd G) : ∃ fs gn ins, σ.1 k = some (.inr (4, fs)) ∧ fs[0]? = some (.int kd) ∧ fs[1]? = some (.ref w) ∧ fs[9]? = some (va_rf gn) ∧ fs[10]? = some (va_rf ins) ∧ (gn = none ↔ G = []) := by
  obtain ⟨fs', gn', ins', g1, g2, g0, g3, g4, g5, g6, g7⟩ := h
  refine ⟨fs', gn', ins', g1, g0, g3, g5, g6, ?_⟩
  rcases g7 with ⟨e, e'⟩ | ⟨x, y, g, g', e, -, -, -, -, ⟨-, -, e'⟩, -⟩
  · exact ⟨fun _ => e, fun _ => e'⟩
  · exact ⟨fun z => (by rw [z] at e; cases e), fun z => (by rw [z] at e'; cases e')⟩
/-- what taken() makes, where p were put in -/
def t15 (p : Nat) : Nat := if p = 0 then 0 else 15
theorem t15_le (p : Nat) : t15 p ≤ 15 := by unfold t15; split <;> omega
theorem t15_mo {p q : Nat} (h : p ≤ q) : t15 p ≤ t15 q := by unfold t15; split <;> split <;> omega
theorem t15_g {p : Nat} {G : List (Nat × kTe)} (h : G.length ≤ p) (hG : G ≠ []) : 15 ≤ t15 p := by
  unfold t15
  rw [if_neg]
  · exact Nat.le_refl _
  · intro z
    rw [z] at h
    exact hG (List.length_eq_zero_iff.mp (by omega))
/-- **taken()** -/
theorem c_tkP {p : Nat} (hA : A.1 = .inr m) {a b : tY} (hy : m.2.2.1 = .inner 0 () () a b) (h : kRp st l b0 nq xs Ψ σ E k A p) (iv : gIv st l b0 Ψ.2.2.1 σ) : kSpp st l b0 nq xs Ψ σ E (oF κ T (n + 2) 5 [va_rf (some k)] σ) (gTk A) p (t15 p) := by
  have hfr := iv.1
  unfold kRp at h
  rw [hA] at h
  obtain ⟨h1, h2, G, h3, ⟨hG, h4, hN⟩, h5⟩ := h
  obtain ⟨⟨⟨fw, gs, w1, ⟨w2, w3, w4, w7⟩, w5⟩, w6⟩, ha, hb⟩ := h2.fn hy
  obtain ⟨fs, gn, ins, k1, k0, k2, k3, k4, k5⟩ := h3.f
  obtain ⟨ft, gt, it, t1, t0, t2, t3, t4, t5⟩ := ha.hd.f
  have t1 : σ.1 (Ψ.2.1 (m.1, m.2.1 ++ [false])) = some (.inr (4, ft)) := t1
  have R := c_taken (κ := κ) (T := T) (n := n) k1 k2 k3 k4 w1 w3 t1 t0 hfr
  have eA : (gTk A).1 = .inr (mTk m) ∧ (gTk A).2 = A.2 := by unfold gTk; rw [hA]; exact ⟨rfl, rfl⟩
  have eY : (mTk m).2.2.1 = a := by show yL m.2.2.1 = a; rw [hy]; rfl
  by_cases c : gn = none
  · rw [if_pos c] at R
    refine ⟨σ, _, 0, 0, R, oNl.rf hfr, oN6.rf hfr, by omega, by omega, ?_⟩
    have eG := k5.mp c
    subst eG
    exact kRp.mk eA eY h1 ha ha.hd ⟨Nat.zero_le _, Nat.zero_le _⟩ (fun p hp => (by cases hp)) h5 (kNj.tk hy hN)
  · rw [if_neg c] at R
    obtain ⟨o1, o2⟩ := c_new4 (σ := σ) (kd := cKd (yK a)) (tk := Ψ.2.1 (m.1, m.2.1 ++ [false])) (gn := gn) (ins := ins) hfr
    have o3 := iv.kp (W := fun _ => False) o1 o2
    have c15 := t15_g hG.2 (fun z => c (k5.mpr z))
    refine ⟨_, _, 1, 15, R, o1, o2, by omega, by omega, ?_⟩
    exact kRp.mk eA eY h1 (kTo.sp o3 (gAg.rf _ _) hfr _ (mTk m) h1.1 h1.2 ha) (h3.new k1 k3 k4 o3 hfr (onew_eq _ _ _)) ⟨by show G.length ≤ (m.2.1 ++ [false]).count true; rw [List.count_append]; exact Nat.le_trans hG.1 (Nat.le_add_right _ _), hG.2⟩ h4 h5 (kNj.tk hy hN)
theorem c_tk (hA : A.1 = .inr m) {a b : tY} (hy : m.2.2.1 = .inner 0 () () a b) (h : kRl st l b0 nq xs Ψ σ E k A) (iv : gIv st l b0 Ψ.2.2.1 σ) : kStp st l b0 nq xs Ψ σ E (oF κ T (n + 2) 5 [va_rf (some k)] σ) (gTk A) (t15 (m.2.1.count true)) := (c_tkP (κ := κ) (T := T) (n := n) hA hy (h.p hA rfl) iv).rl
/-- **answered(null)** -/
theorem c_an0P {p : Nat} (hA : A.1 = .inr m) {a b : tY} (hy : m.2.2.1 = .inner 0 () () a b) (h : kRp st l b0 nq xs Ψ σ E k A p) (hE : gMs a = true → E (mPn m) (Ψ.1 (mPn m)) ∧ gTf A.2 (mPn m) = none) (iv : gIv st l b0 Ψ.2.2.1 σ) : kSpp st l b0 nq xs Ψ σ E (oF κ T (n + 2) 4 [va_rf (some k), va_rf none] σ) (gAn A) p (t15 p) := by
  have hfr := iv.1
  unfold kRp at h
  rw [hA] at h
  obtain ⟨h1, h2, G, h3, ⟨hG, h4, hN⟩, h5⟩ := h
  obtain ⟨⟨⟨fw, gs, w1, ⟨w2, w3, w4, w7⟩, w5⟩, w6⟩, ha, hb⟩ := h2.fn hy
  obtain ⟨fs, gn, ins, k1, k0, k2, k3, k4, k5⟩ := h3.f
  obtain ⟨ft, gt, it, t1, t0, t2, t3, t4, t5⟩ := hb.hd.f
  have t1 : σ.1 (Ψ.2.1 (m.1, m.2.1 ++ [true])) = some (.inr (4, ft)) := t1
  have R := c_ans0 (κ := κ) (T := T) (n := n) k1 k2 k3 k4 w1 w4 t1 t0 hfr
  have eA : (gAn A).1 = .inr (mAn m) ∧ (gAn A).2 = A.2 := by unfold gAn; rw [hA]; exact ⟨rfl, rfl⟩
  have eY : (mAn m).2.2.1 = b := by show yR m.2.2.1 = b; rw [hy]; rfl
  have eS : (mAn m).2.2.2.2 = if gMs a = true then m.2.2.2.2 ++ [mPn m] else m.2.2.2.2 := by show (if gMs (yL m.2.2.1) = true then _ else _) = _; rw [hy]; rfl
  have md : ∀ s, s ∈ (mAn m).2.2.2.2 → gMd Ψ.2.2.2 s := fun s hs => by
    rw [eS] at hs
    split at hs
    · rcases List.mem_append.mp hs with z | z
      · exact h1.2 s z
      · rw [List.mem_singleton.mp z]; exact mPn_md h1.1
    · exact h1.2 s hs
  have h4' : ∀ p, p ∈ G → ∃ s, s ∈ (mAn m).2.2.2.2 ∧ p.1 = Ψ.1 s := fun p hp => by
    obtain ⟨s, s1, s2⟩ := h4 p hp
    refine ⟨s, ?_, s2⟩
    rw [eS]
    split
    · exact List.mem_append_left _ s1
    · exact s1
  have h5' : ∀ s, s ∈ (mAn m).2.2.2.2 → lkE Ψ.1 E G A.2 s := fun s hs => by
    rw [eS] at hs
    split at hs
    · rename_i c
      rcases List.mem_append.mp hs with z | z
      · exact h5 s z
      · rw [List.mem_singleton.mp z]
        unfold lkE
        rw [(hE c).2]
        refine Or.inl ⟨kFi_no (fun p hp => ?_), (hE c).1⟩
        obtain ⟨s', s1, s2⟩ := h4 p hp
        rw [s2]
        exact w6 s' s1
    · exact h5 s hs
  by_cases c : gn = none
  · rw [if_pos c] at R
    refine ⟨σ, _, 0, 0, R, oNl.rf hfr, oN6.rf hfr, by omega, by omega, ?_⟩
    have eG := k5.mp c
    subst eG
    exact kRp.mk eA eY ⟨h1.1, md⟩ hb hb.hd ⟨Nat.zero_le _, Nat.zero_le _⟩ (fun p hp => (by cases hp)) h5' (kNj.an hy hN)
  · rw [if_neg c] at R
    obtain ⟨o1, o2⟩ := c_new4 (σ := σ) (kd := cKd (yK b)) (tk := Ψ.2.1 (m.1, m.2.1 ++ [true])) (gn := gn) (ins := ins) hfr
    have o3 := iv.kp (W := fun _ => False) o1 o2
    have c15 := t15_g hG.2 (fun z => c (k5.mpr z))
    refine ⟨_, _, 1, 15, R, o1, o2, by omega, by omega, ?_⟩
    exact kRp.mk eA eY ⟨h1.1, md⟩ (kTo.sp o3 (gAg.rf _ _) hfr _ (mAn m) h1.1 md hb) (h3.new k1 k3 k4 o3 hfr (onew_eq _ _ _)) ⟨by show G.length ≤ (m.2.1 ++ [true]).count true; rw [List.count_append]; exact Nat.le_trans hG.1 (Nat.le_add_right _ _), hG.2⟩ h4' h5' (kNj.an hy hN)
theorem c_an0 (hA : A.1 = .inr m) {a b : tY} (hy : m.2.2.1 = .inner 0 () () a b) (h : kRl st l b0 nq xs Ψ σ E k A) (hE : gMs a = true → E (mPn m) (Ψ.1 (mPn m)) ∧ gTf A.2 (mPn m) = none) (iv : gIv st l b0 Ψ.2.2.1 σ) : kStp st l b0 nq xs Ψ σ E (oF κ T (n + 2) 4 [va_rf (some k), va_rf none] σ) (gAn A) (t15 (m.2.1.count true)) := (c_an0P (κ := κ) (T := T) (n := n) hA hy (h.p hA rfl) hE iv).rl
/-- **answered(argument)**: u is put in; the reading puts t in, or nothing where u is the NAME itself -/
theorem c_an1P {p : Nat} (hA : A.1 = .inr m) {a b : tY} (hy : m.2.2.1 = .inner 0 () () a b) (hm : gMs a = true) (h : kRp st l b0 nq xs Ψ σ E k A p) (hA2 : gTf A.2 (mPn m) = none) (hd : m.2.1.length ≤ 100) (hT : 1000 ≤ T) {su : Nat} {u : kTe} (hu : cTq st l b0 Ψ.2.2.1 σ su u) {A' : gTy} (hx : (∃ t, A' = gPu (gAn A) (mPn m) t ∧ teR E t u) ∨ (A' = gAn A ∧ ∃ x, u = (some (x, 1), 0) ∧ E (mPn m) x)) (iv : gIv st l b0 Ψ.2.2.1 σ) : kSpp st l b0 nq xs Ψ σ E (oF κ T (n + 2) 4 [va_rf (some k), va_rf (some su)] σ) A' (p + 1) (17 + 2 * p) := by
  have hfr := iv.1
  have hcl := List.count_le_length (a := true) (l := m.2.1)
  unfold kRp at h
  rw [hA] at h
  obtain ⟨h1, h2, G, h3, ⟨⟨hG, hGp⟩, h4, hN⟩, h5⟩ := h
  obtain ⟨⟨⟨fw, gs, w1, ⟨w2, w3, w4, w7⟩, w5⟩, w6⟩, ha, hb⟩ := h2.fn hy
  obtain ⟨fs, gn, ins, k1, kl, k0, k2, kb, k3, k4, k5⟩ := id h3
  obtain ⟨ft, gt, it, t1, t0, t2, t3, t4, t5⟩ := hb.hd.f
  obtain ⟨fu, u1⟩ := hu.sm
  have t1 : σ.1 (Ψ.2.1 (m.1, m.2.1 ++ [true])) = some (.inr (4, ft)) := t1
  have hg : ∃ g g', (gn = none ∧ G.length = 0) ∨ ∃ x y, gn = some x ∧ ins = some y ∧ σ.1 x = some (.inl (.object "LiquidTongue$Name", G.length, .inr (.inr (.inr (.inr g))))) ∧ σ.1 y = some (.inl (.object "LiquidTongue$Sum", G.length, .inr (.inr (.inr (.inr g'))))) ∧ ∀ (i : Nat) (z : Nat × kTe), G[i]? = some z → (g i = some z.1 ∧ ∃ f, σ.1 z.1 = some (.inr (6, f))) ∧ ∃ su, g' i = some su ∧ cTq st l b0 Ψ.2.2.1 σ su z.2 := by
    rcases k5 with ⟨e, e'⟩ | ⟨x, y, g, g', e1, e2, -, e3, e4, -, e5⟩
    · exact ⟨fun _ => none, fun _ => none, Or.inl ⟨e', by rw [e]; rfl⟩⟩
    · exact ⟨g, g', Or.inr ⟨x, y, e1, e2, e3, e4, e5⟩⟩
  obtain ⟨g, g', hg⟩ := hg
  have en : ∀ (i : Nat) (z : Nat × kTe), G[i]? = some z → (g i = some z.1 ∧ ∃ f, σ.1 z.1 = some (.inr (6, f))) ∧ ∃ su, g' i = some su ∧ cTq st l b0 Ψ.2.2.1 σ su z.2 := by
    rcases hg with ⟨-, e⟩ | ⟨x, y, -, -, -, -, e⟩
    · intro i z hz
      rw [List.length_eq_zero_iff.mp e] at hz
      cases hz
    · exact e
  obtain ⟨σ', g1, g1', R, ⟨o1, o2, o3, o4, o5, o6⟩, q1, q2, q3⟩ := c_ans1 (κ := κ) (T := T) (n := n) (b := G.length) (g := g) (g' := g') (by omega) (by omega) k1 k2 k3 k4 (by
    rcases hg with e | ⟨x, y, e1, e2, e3, e4, e5⟩
    · exact Or.inl e
    · refine Or.inr ⟨x, y, e1, e2, e3, e4, fun i hi => ?_⟩
      obtain ⟨⟨a1, f, a2⟩, su', a3, a4⟩ := e5 i _ (List.getElem?_eq_getElem hi)
      obtain ⟨f', a5⟩ := a4.sm
      exact ⟨⟨_, f, a1, a2⟩, su', f', a3, a5⟩) w1 w2 w5.1 w4 t1 t0 u1 hfr
  have O : oNl σ σ' 3 (2 * (G.length + 1) + 15) := ⟨o1, o6, o5⟩
  have O6 : oN6 σ σ' := fun x f hx e => by
    rcases (by omega : x = σ.2.1 ∨ x = σ.2.1 + 1 ∨ x = σ.2.1 + 2 ∨ σ.2.1 + 3 ≤ x) with z | z | z | z
    · rw [z, o2] at e; cases e
    · rw [z, o3] at e; cases e
    · rw [z, o4] at e; cases e
    · rw [o6 x (by rw [o5]; exact z)] at e; cases e
  have K := iv.kp (W := fun _ => False) O O6
  obtain ⟨iv', qn⟩ := iv.go O O6
  have nQ : ∀ x, σ.2.1 ≤ x → ¬ Ψ.2.2.1 x := fun x hx z => by have := iv.2.2.2.1 x z; omega
  refine ⟨σ', _, 3, _, R, O, O6, by omega, by omega, ?_⟩
  have eY : (mAn m).2.2.1 = b := by show yR m.2.2.1 = b; rw [hy]; rfl
  have eS : (mAn m).2.2.2.2 = m.2.2.2.2 ++ [mPn m] := by
    show (if gMs (yL m.2.2.1) = true then _ else _) = _
    rw [hy]
    show (if gMs a = true then _ else _) = _
    rw [if_pos hm]
  have eA1 : A'.1 = .inr (mAn m) := by
    have : (gAn A).1 = .inr (mAn m) := by unfold gAn; rw [hA]
    rcases hx with ⟨t, e, -⟩ | ⟨e, -⟩
    · rw [e]; exact this
    · rw [e]; exact this
  have md : ∀ s, s ∈ (mAn m).2.2.2.2 → gMd Ψ.2.2.2 s := fun s hs => by
    rw [eS] at hs
    rcases List.mem_append.mp hs with z | z
    · exact h1.2 s z
    · rw [List.mem_singleton.mp z]; exact mPn_md h1.1
  have fG : ∀ s, s ∈ m.2.2.2.2 → kFi (G ++ [(Ψ.1 (mPn m), u)]) (Ψ.1 s) = kFi G (Ψ.1 s) := fun s hs => by
    rw [kFi_ap]
    cases e : kFi G (Ψ.1 s) with
    | some _ => rfl
    | none => exact if_neg (fun z => w6 s hs z.symm)
  have fN : kFi (G ++ [(Ψ.1 (mPn m), u)]) (Ψ.1 (mPn m)) = some u := by
    rw [kFi_ap, kFi_no (fun p hp => ?_)]
    · exact if_pos rfl
    · obtain ⟨s, s1, s2⟩ := h4 p hp
      rw [s2]
      exact w6 s s1
  have A2e : ∃ G2, A'.2 = G2 ∧ (∀ s, s ∈ m.2.2.2.2 → gTf G2 s = gTf A.2 s) ∧ lkE Ψ.1 E (G ++ [(Ψ.1 (mPn m), u)]) G2 (mPn m) := by
    have e0 : (gAn A).2 = A.2 := by unfold gAn; rw [hA]
    rcases hx with ⟨t, e, ht⟩ | ⟨e, x, e1, ex⟩
    · refine ⟨A.2 ++ [(mPn m, t)], by rw [e]; show (gAn A).2 ++ _ = _; rw [e0], fun s hs => ?_, ?_⟩
      · rw [gTf_ap]
        cases e2 : gTf A.2 s with
        | some _ => rfl
        | none => exact if_neg (fun z => w6 s hs (by rw [← z]))
      · unfold lkE
        have : gTf (A.2 ++ [(mPn m, t)]) (mPn m) = some t := by rw [gTf_ap, hA2]; exact if_pos rfl
        rw [this]
        exact ⟨u, fN, ht⟩
    · refine ⟨A.2, by rw [e, e0], fun _ _ => rfl, ?_⟩
      unfold lkE
      rw [hA2]
      exact Or.inr ⟨x, by rw [fN, e1], ex⟩
  obtain ⟨G2, eG2, g21, g22⟩ := A2e
  refine kRp.mk (G := G ++ [(Ψ.1 (mPn m), u)]) ⟨eA1, eG2⟩ eY ⟨h1.1, md⟩ (kTo.sp K (gAg.rf _ _) hfr _ (mAn m) h1.1 md hb) ⟨_, some σ.2.1, some (σ.2.1 + 1), o4, rfl, rfl, rfl, by rw [List.length_append]; show G.length + 1 < 1000; omega, rfl, rfl, Or.inr ⟨σ.2.1, σ.2.1 + 1, g1, g1', rfl, rfl, ⟨iv.2.2.1.1, by have := iv.2.2.1.1; omega, nQ _ (by omega)⟩, by rw [List.length_append]; exact o2, by rw [List.length_append]; exact o3, ⟨qn _ (Nat.le_refl _), qn _ (by omega), by rw [List.length_append]; show 0 < G.length + 1; omega⟩, fun i z hz => ?_⟩⟩ ⟨by show _ ≤ (m.2.1 ++ [true]).count true; rw [List.length_append, List.count_append]; show G.length + 1 ≤ m.2.1.count true + 1; omega, by rw [List.length_append]; show G.length + 1 ≤ p + 1; omega⟩ (fun p hp => ?_) (fun s hs => ?_) (kNj.an hy hN)
  · by_cases c : i < G.length
    · rw [List.getElem?_append_left c] at hz
      obtain ⟨⟨a1, f, a2⟩, su', a3, a4⟩ := en i z hz
      exact ⟨⟨by rw [(q1 i c).1]; exact a1, K.n6 a2⟩, su', by rw [(q1 i c).2]; exact a3, a4.sp K (fun _ _ => Iff.rfl) hfr⟩
    · rw [List.getElem?_append_right (by omega)] at hz
      have ci : i - G.length = 0 := by
        cases e : i - G.length with
        | zero => rfl
        | succ j => rw [e] at hz; cases hz
      rw [ci] at hz
      injection hz with hz
      have : i = G.length := by omega
      subst this
      rw [← hz]
      exact ⟨⟨q2, K.n6 w5.1⟩, su, q3, hu.sp K (fun _ _ => Iff.rfl) hfr⟩
  · rcases List.mem_append.mp hp with z | z
    · obtain ⟨s, s1, s2⟩ := h4 p z
      exact ⟨s, by rw [eS]; exact List.mem_append_left _ s1, s2⟩
    · rw [List.mem_singleton.mp z]
      exact ⟨mPn m, by rw [eS]; exact List.mem_append_right _ (List.mem_singleton_self _), rfl⟩
  · rw [eS] at hs
    rcases List.mem_append.mp hs with z | z
    · have := h5 s z
      unfold lkE at this ⊢
      rw [g21 s z, fG s z]
      exact this
    · rw [List.mem_singleton.mp z]
      exact g22
theorem c_an1 (hA : A.1 = .inr m) {a b : tY} (hy : m.2.2.1 = .inner 0 () () a b) (hm : gMs a = true) (h : kRl st l b0 nq xs Ψ σ E k A) (hA2 : gTf A.2 (mPn m) = none) (hd : m.2.1.length ≤ 100) (hT : 1000 ≤ T) {su : Nat} {u : kTe} (hu : cTq st l b0 Ψ.2.2.1 σ su u) {A' : gTy} (hx : (∃ t, A' = gPu (gAn A) (mPn m) t ∧ teR E t u) ∨ (A' = gAn A ∧ ∃ x, u = (some (x, 1), 0) ∧ E (mPn m) x)) (iv : gIv st l b0 Ψ.2.2.1 σ) : kStp st l b0 nq xs Ψ σ E (oF κ T (n + 2) 4 [va_rf (some k), va_rf (some su)] σ) A' (17 + 2 * m.2.1.count true) := (c_an1P (κ := κ) (T := T) (n := n) hA hy hm (h.p hA rfl) hA2 hd hT hu hx iv).rl
end GTA
