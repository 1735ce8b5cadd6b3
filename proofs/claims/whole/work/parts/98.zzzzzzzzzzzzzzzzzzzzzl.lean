/-! the class's gather(): Knowns of plain types -/
/-- what a function that makes a Known leaves: R the answer -/
def kMd (st : Nat) (l : Nat → Nat) (b0 : Nat) (nq : tQ → Int) (xs : List tQ) (pg ch ty : Nat) (cf : List Value) (At : Nat → Nat) (mo : Nat) (g : gG) (ρ : Nat → tY) (lv ov : Int32) (Ψ : kGh) (Ls : List Nat) (σ : oSt) (E : gN → Nat → Prop) (A : gTy) (dn ds : Nat) (R : oRs) : Prop := ∃ σ' k Q', R = some (some (va_rf (some k)), σ') ∧ kRl st l b0 nq xs (Ψ.1, Ψ.2.1, Q', Ψ.2.2.2) σ' E k A ∧ tpB st l b0 nq xs Q' pg ch ty cf At mo g ρ lv ov Ls σ' ∧ (∀ x, x < σ.2.1 → (Q' x ↔ Ψ.2.2.1 x)) ∧ (gKp st l b0 (fun _ => False) σ σ' ∧ shX st σ σ' ∧ σ'.1 ch = σ.1 ch) ∧ gPl2 xs.length Ls Ls σ σ' dn ds
section KOF
variable {κ : oKv} {T n : Nat} {st : Nat} {l : Nat → Nat} {b0 : Nat} {nq : tQ → Int} {xs : List tQ} {Q : Nat → Prop} {σ σ' : oSt} {pg ch ty : Nat} {cf : List Value} {At : Nat → Nat} {mo : Nat} {g : gG} {ρ : Nat → tY} {lv ov : Int32} {Ls : List Nat} {Ψ : kGh} {E : gN → Nat → Prop} {y : tY} {W : Nat → Prop} {A : gTy}
/-- cells are made -/
theorem tpB.nw {d e : Nat} (h : tpB st l b0 nq xs Q pg ch ty cf At mo g ρ lv ov Ls σ) (o : oNl σ σ' d e) (h8 : ∀ x fs, σ.2.1 ≤ x → σ'.1 x = some (.inr (6, fs)) → fs.length = 8 ∧ fs[5]? = some (va_rf none)) : tpB st l b0 nq xs Q pg ch ty cf At mo g ρ lv ov Ls σ' ∧ gPl2 xs.length Ls Ls σ σ' d e ∧ gKp st l b0 W σ σ' ∧ shX st σ σ' ∧ σ'.1 ch = σ.1 ch := by
  obtain ⟨h1, h2, h3, ⟨v, h4⟩, ⟨f, h5⟩, h6, h7⟩ := h
  have o6 : oN6 σ σ' := h8
  have lt : ∀ {x cc}, σ.1 x = some cc → x < σ.2.1 := fun h => Nat.lt_of_not_le (fun e => by rw [h1.1 _ e] at h; cases h)
  obtain ⟨n1, n2⟩ := h2.nw h1 o o6 h8
  have kp : gKp st l b0 (fun _ => False) σ σ' := h1.kp o o6
  have sh : shX st σ σ' := (o.tx h1.1).sh (by rw [o.nx]; omega)
  have tp : tmP xs.length σ' Ls = tmP xs.length σ Ls := tmP_cg (fun a ha => by
    obtain ⟨f, z⟩ := (h6.2 a ha).2
    exact n2 a (h6.2 a ha).1 (lt z))
  refine ⟨⟨(h1.go o o6).1, n1, h3.sp kp, ⟨v, by rw [o.1 _ (lt h4)]; exact h4⟩, ⟨f, by rw [o.1 _ (lt h5)]; exact h5⟩, ⟨h6.1, fun a ha => ⟨(h6.2 a ha).1, ?_⟩⟩, h7.sh sh ⟨_, h5⟩⟩, ?_, h1.kp o o6, sh, o.1 _ (lt h4)⟩
  · obtain ⟨f, z⟩ := (h6.2 a ha).2
    exact ⟨f, by rw [o.1 _ (lt z)]; exact z⟩
  · unfold gPl2
    rw [tp, o.2.2]
    exact ⟨by dsimp only; omega, by dsimp only; omega⟩
/-- a new Known says nothing -/
theorem tpB.k0 (h : tpB st l b0 nq xs Ψ.2.2.1 pg ch ty cf At mo g ρ lv ov Ls σ) {kd : Int32} (hk : kd = cKd (yK y)) : kMd st l b0 nq xs pg ch ty cf At mo g ρ lv ov Ψ Ls σ E (gPl y) 1 15 (some (some (va_rf (some σ.2.1)), onew σ (.inr (4, kF0 kd σ.2.1 none none)) 15)) := by
  have hfr := h.1.1
  obtain ⟨t1, c1, k1, s1, e1⟩ := h.nw (W := fun _ => False) (oNl.new (c := .inr (4, kF0 kd σ.2.1 none none)) (k := 15) hfr) (fun x fs hx e => by
    by_cases z : x = σ.2.1
    · rw [z, onew_eq] at e; cases e
    · rw [onew_ne z, hfr x hx] at e; cases e)
  subst hk
  exact ⟨_, _, Ψ.2.2.1, rfl, ⟨⟨rfl, fun z => Nat.lt_irrefl _ (h.1.2.2.2.1 _ z)⟩, [], ⟨_, none, none, onew_eq _ _ _, rfl, rfl, rfl, by decide, rfl, rfl, Or.inl ⟨rfl, rfl⟩⟩, ⟨_, onew_eq _ _ _, rfl, rfl, Nat.zero_le _, Or.inl rfl⟩, rfl, fun i c e => by cases e⟩, t1, fun _ _ => Iff.rfl, ⟨k1, s1, e1⟩, c1⟩
/-- Known.of(kind, null) -/
theorem c_kof0 (h : tpB st l b0 nq xs Ψ.2.2.1 pg ch ty cf At mo g ρ lv ov Ls σ) {kd : Int32} (hk : kd = cKd (yK y)) : kMd st l b0 nq xs pg ch ty cf At mo g ρ lv ov Ψ Ls σ E (gPl y) 1 15 (oF κ T (n + 2) 17 [.int kd, va_rf none] σ) := by
  rw [show n + 2 = (n + 1) + 1 from rfl, oE_X2_of]
  unfold ob_X2_of
  rw [olet_at, obn_at, c_kn (n := n), ocv_at, if_pos rfl]
  exact h.k0 hk
/-- Known.of(kind, a Sum that is no term) -/
theorem c_kofN {su na ta cap : Nat} {L : List (Nat × Int32)} {pl : Int64} (h : tpB st l b0 nq xs Ψ.2.2.1 pg ch ty cf At mo g ρ lv ov Ls σ) {kd : Int32} (hk : kd = cKd (yK y)) (hs : cSm σ su na ta cap L pl) (ht : sTe L = false) : kMd st l b0 nq xs pg ch ty cf At mo g ρ lv ov Ψ Ls σ E (gPl y) 1 15 (oF κ T (n + 2) 17 [.int kd, va_rf (some su)] σ) := by
  have lt : ∀ {x cc}, σ.1 x = some cc → x ≠ σ.2.1 := fun e z => by rw [z, h.1.1 _ (Nat.le_refl _)] at e; cases e
  have hs1 : cSm (onew σ (.inr (4, kF0 kd σ.2.1 none none)) 15) su na ta cap L pl := by
    obtain ⟨g', h', s1, s2, s3, s4, s5⟩ := hs
    exact ⟨g', h', by rw [onew_ne (lt s1)]; exact s1, by rw [onew_ne (lt s2)]; exact s2, by rw [onew_ne (lt s3)]; exact s3, s4, fun k b c e => ⟨(s5 k b c e).1, (s5 k b c e).2.1, by
      obtain ⟨f, z⟩ := (s5 k b c e).2.2
      exact ⟨f, by rw [onew_ne (lt z)]; exact z⟩⟩⟩
  rw [show n + 2 = (n + 1) + 1 from rfl, oE_X2_of]
  unfold ob_X2_of
  have ob : oob (onew σ (.inr (4, kF0 kd σ.2.1 none none)) 15) (some su) 11 = some su := by
    obtain ⟨g', h', s1, -⟩ := hs1
    exact oob_at s1
  rw [olet_at, obn_at, c_kn (n := n), ocv_at, if_neg (by intro z; cases z), ob, obn_at, x_term hs1, oin_at, ht, if_pos (by decide)]
  exact h.k0 hk
theorem cTq.te {st b0 : Nat} {l : Nat → Nat} {Q : Nat → Prop} {su : Nat} {u : kTe} (h : cTq st l b0 Q σ su u) : ∃ na ta cap L pl, cSm σ su na ta cap L pl ∧ sTe L = true := by
  obtain ⟨na, ta, cap, L, pl, h1, -, -, h4, -⟩ := h
  refine ⟨na, ta, cap, L, pl, h1, ?_⟩
  rcases h4 with ⟨-, e⟩ | ⟨a, v, -, e, hv⟩
  · rw [e]; rfl
  · rw [e]
    have : v = 1 ∨ v = -1 := by
      rcases hv with z | z
      · exact Or.inl (Int32.toInt_inj.mp z)
      · exact Or.inr (Int32.toInt_inj.mp z)
    rcases this with z | z <;> subst z <;> rfl
/-- **Known.of(kind, a term)** -/
theorem c_kof1 {su : Nat} {t : gTe} {u : kTe} (h : tpB st l b0 nq xs Ψ.2.2.1 pg ch ty cf At mo g ρ lv ov Ls σ) {kd : Int32} (hk : kd = cKd (yK y)) (hu : cTq st l b0 Ψ.2.2.1 σ su u) (ht : teR E t u) : kMd st l b0 nq xs pg ch ty cf At mo g ρ lv ov Ψ Ls σ E (gEq y t) 3 17 (oF κ T (n + 2) 17 [.int kd, va_rf (some su)] σ) := by
  have hfr := h.1.1
  obtain ⟨σ1, e1⟩ : ∃ s, s = onew σ (.inr (4, kF0 kd σ.2.1 none none)) 15 := ⟨_, rfl⟩
  obtain ⟨t1, c1, k1, s1, ec1⟩ := h.nw (σ' := σ1) (d := 1) (e := 15) (W := fun _ => False) (by rw [e1]; exact oNl.new hfr) (fun x fs hx e => by
    rw [e1] at e
    by_cases z : x = σ.2.1
    · rw [z, onew_eq] at e; cases e
    · rw [onew_ne z, hfr x hx] at e; cases e)
  have hw1 : σ1.1 σ.2.1 = some (.inr (4, kF0 kd σ.2.1 none none)) := by rw [e1]; exact onew_eq _ _ _
  have n1 : σ1.2.1 = σ.2.1 + 1 := by rw [e1]; rfl
  have hu1 := hu.sp (Q' := Ψ.2.2.1) k1 (fun _ _ => Iff.rfl) hfr
  obtain ⟨na, ta, cap, L, pl, hs1, hte⟩ := hu1.te
  obtain ⟨fu, hsu⟩ := hu1.sm
  obtain ⟨i1, i2, i3, ⟨v, i4⟩, ⟨f, i5⟩, i6, i7⟩ := id t1
  obtain ⟨σ2, R2, G2, K2, P2⟩ := c_mkS (κ := κ) (T := T) (n := n) (m := 1) (na := Ψ.1) (S := []) (by omega) hw1 i1 i2 i3 i4 ⟨f, i5, fun i s e => by cases e⟩ i6
  have R2 : oF κ T (n + 1) 15 [va_rf (some σ.2.1), .int 1] σ1 = some (none, σ2) := R2
  rw [n1] at G2 K2
  have hQ2 : ∀ x, x < σ1.2.1 → ((Ψ.2.2.1 x ∨ x = σ.2.1 + 1 ∨ x = σ.2.1 + 1 + 1) ↔ Ψ.2.2.1 x) := fun x hx => ⟨fun z => by
    rcases z with z | z | z
    · exact z
    · omega
    · omega, Or.inl⟩
  obtain ⟨K2', S2'⟩ := K2.fp k1 s1 ⟨by omega, by omega, by omega⟩ hfr
  have hu2 : cTq st l b0 (fun z => Ψ.2.2.1 z ∨ z = σ.2.1 + 1 ∨ z = σ.2.1 + 1 + 1) σ2 su u := hu.sp K2' (fun x hx => hQ2 x (by omega)) hfr
  obtain ⟨σ3, R3, G3, K3, P3⟩ := G2.say (κ := κ) (T := T) (n := n) (x := (0, u)) (by decide) (by show 0 ≤ 4; omega) hu2
  have R3 : oF κ T (n + 1) 16 [va_rf (some σ.2.1), .int 61, va_rf (some su)] σ2 = some (none, σ3) := R3
  obtain ⟨K3', S3'⟩ := (K2.tr K3).fp k1 s1 ⟨by omega, by omega, by omega⟩ hfr
  obtain ⟨q1, q2, q3, q4, ⟨q5, q5'⟩, ⟨f6, q6, -⟩, q7⟩ := id G3
  obtain ⟨oq1, oq2⟩ := q1.oq
  have hw2 : ∃ fw, σ2.1 σ.2.1 = some (.inr (4, fw)) := by
    obtain ⟨⟨fs, hr, gs, w1, -⟩, -⟩ := G2
    exact ⟨fs, w1⟩
  obtain ⟨fw2, hw2⟩ := hw2
  rw [show n + 2 = (n + 1) + 1 from rfl, oE_X2_of]
  unfold ob_X2_of
  rw [olet_at, obn_at, c_kn (n := n), ocv_at, if_neg (by intro z; cases z), ← e1, oob_at hsu, obn_at, x_term hs1, oin_at, hte, if_pos rfl, if_neg (by decide), oob_at hw1, obn_at, R2, ocv_at, oob_at hw2, obn_at, R3, ocv_at]
  refine ⟨σ3, σ.2.1, _, rfl, ⟨⟨rfl, fun z => by
    rcases z with z | z | z
    · exact Nat.lt_irrefl _ (h.1.2.2.2.1 _ z)
    · omega
    · omega⟩, [(0, u)], by rw [← hk]; exact oq1, oq2, rfl, fun i c e => ?_⟩, ⟨q2, q3, q4, ⟨v, q5⟩, ⟨f6, q6⟩, q7, h.2.2.2.2.2.2.sh S3' (by obtain ⟨f, z⟩ := h.2.2.2.2.1; exact ⟨_, z⟩)⟩, fun x hx => hQ2 x (by omega), ⟨K3', S3', by rw [q5, ← ec1, i4]⟩, ?_⟩
  · cases i with
    | zero =>
      injection e with e
      rw [← e]
      exact ⟨u, rfl, ht⟩
    | succ i => cases e
  · obtain ⟨a1, a2⟩ := P2.tr P3
    obtain ⟨b1, b2⟩ := c1
    exact ⟨by omega, by omega⟩
end KOF
