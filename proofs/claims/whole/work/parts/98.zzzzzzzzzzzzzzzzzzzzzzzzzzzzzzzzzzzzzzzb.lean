/-! CAPACITIES: types with arrows cut out solve the equations too -/
/-- arrows that A does not name become int -/
def yC (A : tY → Bool) : tY → tY
  | .leaf => .leaf
  | .inner k u v a b => if k = 0 then (if A (.inner k u v a b) = true then yA (yC A a) (yC A b) else yB 0) else .inner k u v a b
/-- z is an arrow within a type -/
def yIn (z : tY) : tY → Prop
  | .leaf => False
  | .inner k u v a b => k = 0 ∧ (z = .inner k u v a b ∨ yIn z a ∨ yIn z b)
def mCm (A : tY → Bool) (α : Nat → tY) (t : mF) : Prop := t (fun i => yC A (α i)) = yC A (t α)
def mIv (A : tY → Bool) (α : Nat → tY) (s : mS) : Prop := (∀ u, mCm A α (s.2.2.1 u)) ∧ (∀ u, mCm A α (s.2.2.2.1 u)) ∧ mCm A α s.2.2.2.2 ∧ mAll s.1 (fun i => yC A (α i))
section MCM
variable {A : tY → Bool} {α : Nat → tY} {f pp ee : Nat → Int32} {s : mS}
theorem yC_b (k : Nat) : yC A (yB k) = yB k := by
  show (if k + 1 = 0 then _ else _) = _
  rw [if_neg (by omega)]
theorem yC_a {a b : tY} (h : A (yA a b) = true) : yC A (yA a b) = yA (yC A a) (yC A b) := by
  show (if (0 : Nat) = 0 then (if A (yA a b) = true then _ else _) else _) = _
  rw [if_pos rfl, if_pos h]
theorem yC_n {a b : tY} (h : ¬ A (yA a b) = true) : yC A (yA a b) = yB 0 := by
  show (if (0 : Nat) = 0 then (if A (yA a b) = true then _ else _) else _) = _
  rw [if_pos rfl, if_neg h]
theorem mCm.v (i : Nat) : mCm A α (mV i) := rfl
theorem mCm.b (k : Nat) : mCm A α (mB k) := (yC_b k).symm
theorem mCm.a {x y : mF} (hx : mCm A α x) (hy : mCm A α y) (h : A (yA (x α) (y α)) = true) : mCm A α (mA x y) := by
  have hx : x (fun i => yC A (α i)) = yC A (x α) := hx
  have hy : y (fun i => yC A (α i)) = yC A (y α) := hy
  show yA (x (fun i => yC A (α i))) (y (fun i => yC A (α i))) = yC A (yA (x α) (y α))
  rw [hx, hy, yC_a h]
theorem mCm.r {t : mF} (h : mCm A α t) (hi : yIs (t α)) (hA : A (t α) = true) : mCm A α (fun α => yR (t α)) := by
  have h : t (fun i => yC A (α i)) = yC A (t α) := h
  show yR (t (fun i => yC A (α i))) = yC A (yR (t α))
  rw [h]
  obtain ⟨a, b, e⟩ : ∃ a b, t α = yA a b := ⟨_, _, hi⟩
  rw [e] at hA ⊢
  rw [yC_a hA]
  rfl
theorem mCm.l {t : mF} (h : mCm A α t) (hi : yIs (t α)) (hA : A (t α) = true) : mCm A α (fun α => yL (t α)) := by
  have h : t (fun i => yC A (α i)) = yC A (t α) := h
  show yL (t (fun i => yC A (α i))) = yC A (yL (t α))
  rw [h]
  obtain ⟨a, b, e⟩ : ∃ a b, t α = yA a b := ⟨_, _, hi⟩
  rw [e] at hA ⊢
  rw [yC_a hA]
  rfl
theorem mIv.mu {x y : mF} {pl : Int32} (h : mIv A α s) (hx : mCm A α x) (hy : mCm A α y) (he : x α = y α) : mIv A α (mMu x y pl s) := ⟨h.1, h.2.1, h.2.2.1, fun q hq => by
  rcases List.mem_append.mp hq with hq | hq
  · exact h.2.2.2 q hq
  · rw [List.mem_singleton.mp hq]
    show x (fun i => yC A (α i)) = y (fun i => yC A (α i))
    exact Eq.trans hx (Eq.trans (congrArg (yC A) he) (Eq.symm hy))⟩
theorem mIv.ad {P : (Nat → tY) → Prop} {pl : Int32} (h : mIv A α s) (hP : P (fun i => yC A (α i))) : mIv A α (mAdd P pl s) := ⟨h.1, h.2.1, h.2.2.1, fun q hq => by
  rcases List.mem_append.mp hq with hq | hq
  · exact h.2.2.2 q hq
  · rw [List.mem_singleton.mp hq]
    exact hP⟩
theorem mIv.nt {t : mF} (h : mIv A α s) (ht : mCm A α t) (w : Nat) : mIv A α (mNt w t s) := ⟨fun u => by
  show mCm A α (mUp s.2.2.1 w t u)
  by_cases c : u = w
  · rw [c, mUp_at]; exact ht
  · rw [mUp_ne _ _ c]; exact h.1 u, h.2.1, h.2.2.1, h.2.2.2⟩
theorem mIv.et {t : mF} (h : mIv A α s) (ht : mCm A α t) (w : Nat) : mIv A α (mEt w t s) := ⟨h.1, fun u => by
  show mCm A α (mUp s.2.2.2.1 w t u)
  by_cases c : u = w
  · rw [c, mUp_at]; exact ht
  · rw [mUp_ne _ _ c]; exact h.2.1 u, h.2.2.1, h.2.2.2⟩
theorem mIv.cu {t : mF} (h : mIv A α s) (ht : mCm A α t) : mIv A α (mCu t s) := ⟨h.1, h.2.1, ht, h.2.2.2⟩
theorem mIv.fr (h : mIv A α s) (k : Nat) : mIv A α (mFr k s) := ⟨h.1, h.2.1, h.2.2.1, h.2.2.2⟩
theorem mIv.pt {env : List Nat} {p : tP} (h : mIv A α s) (hA : mAll (mPt f pp ee env p s).1 α) : mIv A α (mPt f pp ee env p s) := by
  unfold mPt at hA ⊢
  by_cases c : p.1 = 0
  · rw [if_pos c]; exact h
  · rw [if_neg c] at hA ⊢
    exact h.mu (h.1 _) (mCm.b _) (mMu_al hA)
theorem mIv.ps {env : List Nat} : ∀ (ps : List tP) (s : mS), mIv A α s → mAll (mPs f pp ee env ps s).1 α → mIv A α (mPs f pp ee env ps s)
  | [], _, h, _ => h
  | p :: ps, s, h, hA => by
    have hA : mAll (mPs f pp ee env ps (mPt f pp ee env p s)).1 α := hA
    exact mIv.ps ps _ (h.pt ((mLe.ps env ps _).al hA)) hA
theorem mIv.ct {env : List Nat} : ∀ (t : tT) (s : mS), mIv A α s → mAll (mCt f pp ee env t s).1 α → mIv A α (mCt f pp ee env t s)
  | .leaf, _, h, _ => h
  | .inner g d _ a b, s, h, w => by
    unfold mCt at w ⊢
    by_cases c1 : g = 24
    · rw [if_pos c1] at w ⊢
      exact h.mu (h.1 _) (mCm.b _) (mMu_al w)
    rw [if_neg c1] at w ⊢
    by_cases c2 : g = 25
    · rw [if_pos c2] at w ⊢
      exact mIv.ps _ _ (mIv.ps _ _ h ((mLe.ps env _ _).al w)) w
    rw [if_neg c2] at w ⊢
    exact mIv.ct b _ (mIv.ct a s h ((mLe.ct env b _).al w)) w
theorem mIv.su {env : List Nat} {ps : List tP} (h : mIv A α s) (w : mAll (mSu f pp ee env ps s).1.1 α) : mIv A α (mSu f pp ee env ps s).1 ∧ mCm A α (mSu f pp ee env ps s).2 := by
  unfold mSu at w ⊢
  by_cases c : isN ps = true
  · rw [if_pos c]
    exact ⟨h, h.1 _⟩
  · rw [if_neg c] at w ⊢
    exact ⟨mIv.ps _ _ h w, mCm.b _⟩
theorem mIv.pa : ∀ (q w v : Nat) (s : mS), mIv A α s → mIv A α (mPa q w v s)
  | 0, _, _, _, h => h
  | q + 1, w, v, s, h => mIv.pa q (w + 1) (v + 1) _ (h.nt (mCm.v v) w)
theorem mCm.fu : ∀ (q v : Nat) (t : mF), mCm A α t → (∀ i, i < q → A (yRs i (mFu q v t α)) = true) → mCm A α (mFu q v t)
  | 0, _, _, h, _ => h
  | q + 1, v, t, h, g => mCm.a (mCm.v v) (mCm.fu q (v + 1) t h (fun i hi => g (i + 1) (by omega))) (g 0 (by omega))
theorem mIv.op {pl : Int32} : ∀ (q : Nat) (t : mF) (s : mS), mIv A α s → mCm A α t → (∀ i, i < q → A (yRs i (t α)) = true) → mAll (mOp pl q t s).1 α → mIv A α (mOp pl q t s)
  | 0, _, _, h, _, _, _ => h
  | q + 1, t, s, h, ht, g, w => by
    have is := mOp_ok (q + 1) t s w
    have w : mAll (mOp pl q (fun α => yR (t α)) (mAdd (fun α => yIs (t α)) pl s)).1 α := w
    have i0 : yIs (t α) := is 0 (by omega)
    have a0 : A (t α) = true := g 0 (by omega)
    refine mIv.op q (fun α => yR (t α)) _ (h.ad ?_) (ht.r i0 a0) (fun i hi => g (i + 1) (by omega)) w
    have ht : t (fun i => yC A (α i)) = yC A (t α) := ht
    show yIs (t (fun i => yC A (α i)))
    rw [ht]
    obtain ⟨a, b, e⟩ : ∃ a b, t α = yA a b := ⟨_, _, i0⟩
    rw [e] at a0 ⊢
    rw [yC_a a0]
    rfl
theorem mCm.rs : ∀ (q : Nat) (t : mF), mCm A α t → (∀ i, i < q → yIs (yRs i (t α)) ∧ A (yRs i (t α)) = true) → mCm A α (mRs q t)
  | 0, _, h, _ => h
  | q + 1, t, h, g => mCm.rs q (fun α => yR (t α)) (h.r (g 0 (by omega)).1 (g 0 (by omega)).2) (fun i hi => g (i + 1) (by omega))
theorem mIv.i0 : mIv A α mI0 := ⟨fun _ => mCm.b 0, fun _ => mCm.b 0, mCm.b 0, fun q hq => by cases hq⟩
theorem mIv.in : ∀ (is : List (Nat × Nat)) (s : mS), mIv A α s → mIv A α (mIn is s)
  | [], _, h => h
  | x :: xs, s, h => mIv.in xs _ (h.nt (mCm.b x.2) x.1)
end MCM
/-- A names every arrow that the text asks for -/
def gAa (f pp ee : Nat → Int32) (tE tN : Nat → tY) (A : tY → Bool) : tT → List Nat → Prop
  | .leaf, _ => True
  | .inner g d _ a b, env =>
    if g = 1 then gAa f pp ee tE tN A a env ∧ gAa f pp ee tE tN A b (env ++ [d.1 + 1])
    else if g = 2 then (∀ i, i < d.2.1 → A (yRs i (tN (d.1 + 2))) = true) ∧ gAa f pp ee tE tN A a (env ++ ([d.1 + 2] ++ List.range' (d.1 + 3) d.2.1)) ∧ gAa f pp ee tE tN A b (env ++ [d.1 + 2])
    else if g = 3 then A (tE d.1) = true ∧ gAa f pp ee tE tN A a (env ++ [d.1 + 1])
    else if g = 4 ∨ g = 5 then gAa f pp ee tE tN A b env
    else if g = 6 ∨ g = 16 then gAa f pp ee tE tN A a env
    else if g = 15 then (∀ i, i < tQn a → A (yRs i (tN (gNu f pp ee env d.1))) = true) ∧ gAa f pp ee tE tN A a env
    else if g = 19 then gAa f pp ee tE tN A a env ∧ gAa f pp ee tE tN A b (env ++ [d.2.1, d.2.1 + 1])
    else if g = 31 ∨ g = 34 then gAa f pp ee tE tN A a env ∧ gAa f pp ee tE tN A b env
    else if g = 33 ∨ g = 35 then gAa f pp ee tE tN A b env
    else True
section MCE
variable {A : tY → Bool} {α : Nat → tY} {f pp ee : Nat → Int32} {tE tN : Nat → tY} {kk : Nat → Int32} {cnt : Nat}
set_option maxHeartbeats 2000000 in
/-- **the equations of a tree hold of the cut types** -/
theorem mE_cm : ∀ (t : tT), (∀ l, l ≠ 2 → tWf kk cnt t l → ∀ env s i j, mG f pp ee tE tN α t env s i j → mIv A α s → gAa f pp ee tE tN A t env → mIv A α (mE f pp ee t env s).1 ∧ mCm A α (mE f pp ee t env s).2) ∧ (tWf kk cnt t 2 → ∀ env s i j, mG f pp ee tE tN α t env s i j → mIv A α s → gAa f pp ee tE tN A t env → (∀ x, x < tQn t → yIs (yRs x (s.2.2.2.2 α)) ∧ A (yRs x (s.2.2.2.2 α)) = true) → mIv A α (mE f pp ee t env s).1)
  | .leaf => ⟨fun l hl wf => absurd wf hl, fun _ _ _ _ _ _ h _ _ => h⟩
  | .inner g d z a b => by
    have Ia := mE_cm a
    have Ib := mE_cm b
    refine ⟨fun l hl wf env s i j h hI hg => ?_, fun wf env s i j h hI hg hy => ?_⟩
    · rcases wf with ⟨_, rfl, _, wa, wb⟩ | ⟨h2, _⟩ | ⟨_, w⟩
      · -- two ways
        obtain ⟨⟨_, _, Ga⟩, _, _, Gb⟩ := h.c31
        have hg : gAa f pp ee tE tN A a env ∧ gAa f pp ee tE tN A b env := hg
        obtain ⟨Ma, ta⟩ := Ia.1 0 (by decide) wa _ _ _ _ Ga hI hg.1
        obtain ⟨Mb, tb⟩ := Ib.1 0 (by decide) wb _ _ _ _ Gb Ma hg.2
        exact ⟨Mb.mu tb ta (mMu_al h.2.1), ta⟩
      · exact absurd h2 hl
      · rcases w with ⟨rfl, _, wa, wb⟩ | ⟨rfl, ⟨_, w2, _⟩, wa, wb⟩ | ⟨rfl, _, wa⟩ | ⟨rfl, wc, wb⟩ | ⟨rfl, wc, wb⟩ | ⟨rfl, _, _, wa⟩ | ⟨h7, _, _, hab⟩ | ⟨h7, _, hab⟩ | ⟨h7, _, hab⟩ | ⟨rfl, _⟩ | ⟨rfl, _, wa⟩ | ⟨rfl, _, wa, hb⟩ | ⟨rfl, _⟩ | ⟨rfl, _, wa, wb⟩
        · -- let
          obtain ⟨⟨_, _, Ga⟩, _, _, Gb⟩ := h.c1
          have hg : gAa f pp ee tE tN A a env ∧ gAa f pp ee tE tN A b (env ++ [d.1 + 1]) := hg
          obtain ⟨Ma, ta⟩ := Ia.1 0 (by decide) wa _ _ _ _ Ga hI hg.1
          obtain ⟨Mb, tb⟩ := Ib.1 0 (by decide) wb _ _ _ _ Gb (Ma.nt ta _) hg.2
          exact ⟨Mb.et tb _, tb⟩
        · -- let rec
          obtain ⟨⟨_, _, Ga⟩, ⟨_, _, Gb⟩, tf, -⟩ := h.c2
          have hg : (∀ i, i < d.2.1 → A (yRs i (tN (d.1 + 2))) = true) ∧ gAa f pp ee tE tN A a (env ++ ([d.1 + 2] ++ List.range' (d.1 + 3) d.2.1)) ∧ gAa f pp ee tE tN A b (env ++ [d.1 + 2]) := hg
          have M0 := ((mIv.pa d.2.1 (d.1 + 3) s.2.1 s hI).fr (d.2.1 + 1)).nt (mCm.fu d.2.1 s.2.1 (mV (s.2.1 + d.2.1)) (mCm.v _) (fun i hi => by rw [← tf]; exact hg.1 i hi)) (d.1 + 2)
          obtain ⟨Ma, ta⟩ := Ia.1 0 (by decide) wa _ _ _ _ Ga M0 hg.2.1
          obtain ⟨Mb, tb⟩ := Ib.1 0 (by decide) wb _ _ _ _ Gb (Ma.mu ta (mCm.v _) (mMu_al ((mLe.e b _ _).al Gb.2.1))) hg.2.2
          exact ⟨Mb.et tb _, tb⟩
        · -- fun
          obtain ⟨⟨_, _, Ga⟩, te, -⟩ := h.c3
          have hg : A (tE d.1) = true ∧ gAa f pp ee tE tN A a (env ++ [d.1 + 1]) := hg
          obtain ⟨Ma, ta⟩ := Ia.1 0 (by decide) wa _ _ _ _ Ga ((hI.fr 1).nt (mCm.v _) _) hg.2
          have tt := mCm.a (mCm.v s.2.1) ta (by have := hg.1; rw [te] at this; exact this)
          exact ⟨Ma.et tt _, tt⟩
        · -- if
          obtain ⟨_, _, Gb⟩ := h.c4 (Or.inl rfl)
          have hg : gAa f pp ee tE tN A b env := hg
          obtain ⟨Mb, tb⟩ := Ib.1 1 (by decide) wb _ _ _ _ Gb (mIv.ct a s hI ((mLe.e b env _).al Gb.2.1)) hg
          exact ⟨Mb.et tb _, tb⟩
        · -- assert
          obtain ⟨_, _, Gb⟩ := h.c4 (Or.inr rfl)
          have hg : gAa f pp ee tE tN A b env := hg
          obtain ⟨Mb, tb⟩ := Ib.1 0 (by decide) wb _ _ _ _ Gb (mIv.ct a s hI ((mLe.e b env _).al Gb.2.1)) hg
          exact ⟨Mb.et tb _, tb⟩
        · -- set
          obtain ⟨_, _, Ga⟩ := h.c6
          have hg : gAa f pp ee tE tN A a env := hg
          have A3 := (mLe.e a env _).al Ga.2.1
          have A2 := (mLe.ps (f := f) (pp := pp) (ee := ee) env d.2.2.2.2.2 _).al A3
          have A1 := (mLe.ps (f := f) (pp := pp) (ee := ee) env d.2.2.2.1.2 _).al A2
          obtain ⟨Ma, ta⟩ := Ia.1 0 (by decide) wa _ _ _ _ Ga (mIv.ps _ _ (mIv.ps _ _ (hI.mu (hI.1 _) (mCm.b _) (mMu_al A1)) A2) A3) hg
          exact ⟨Ma.et ta _, ta⟩
        · -- new, S
          have A0 := h.2.1
          rcases h7 with rfl | rfl
          · exact ⟨(mIv.ps _ _ hI ((mLe.et d.1 (mB 2) _).al A0)).et (mCm.b _) _, mCm.b _⟩
          · obtain ⟨M, t⟩ := hI.su (f := f) (pp := pp) (ee := ee) (env := env) (ps := d.2.2.2.1.2) ((mLe.et d.1 _ _).al A0)
            exact ⟨M.et t _, t⟩
        · rcases h7 with rfl | rfl | rfl
          · exact ⟨hI.et (mCm.b _) _, mCm.b _⟩
          · exact ⟨hI.et (mCm.b _) _, mCm.b _⟩
          · exact ⟨hI.et (mCm.b _) _, mCm.b _⟩
        · -- S * S
          have A0 := h.2.1
          rcases h7 with rfl | rfl | rfl
          all_goals
            have A1 := (mLe.et d.1 (mB 0) _).al A0
            exact ⟨(mIv.ps _ _ (mIv.ps _ _ hI ((mLe.ps (f := f) (pp := pp) (ee := ee) env d.2.2.2.2.2 _).al A1)) A1).et (mCm.b _) _, mCm.b _⟩
        · -- NAME [ S ]
          have A1 := (mLe.et d.1 (mB 0) _).al h.2.1
          have A0 := (mLe.ps (f := f) (pp := pp) (ee := ee) env d.2.2.2.1.2 _).al A1
          exact ⟨(mIv.ps _ _ (hI.mu (hI.1 _) (mCm.b _) (mMu_al A0)) A1).et (mCm.b _) _, mCm.b _⟩
        · -- a call
          obtain ⟨_, _, Ga⟩ := h.c15
          have hg : (∀ i, i < tQn a → A (yRs i (tN (gNu f pp ee env d.1))) = true) ∧ gAa f pp ee tE tN A a env := hg
          have A1 : mAll (mOp (pp d.1) (tQn a) (mNm f pp ee env d.1 s) s).1 α := (mLe.cu _ _).al ((mLe.e a env _).al Ga.2.1)
          have is := mOp_ok (tQn a) (mNm f pp ee env d.1 s) s A1
          have en : tN (gNu f pp ee env d.1) = mNm f pp ee env d.1 s α := h.2.2.1.nu d.1
          have ga : ∀ i, i < tQn a → yIs (yRs i (mNm f pp ee env d.1 s α)) ∧ A (yRs i (mNm f pp ee env d.1 s α)) = true := fun i hi => ⟨is i hi, by rw [← en]; exact hg.1 i hi⟩
          have M := Ia.2 wa _ _ _ _ Ga ((mIv.op (tQn a) (mNm f pp ee env d.1 s) s hI (hI.1 _) (fun i hi => (ga i hi).2) A1).cu (hI.1 _)) hg.2 ga
          have t := mCm.rs (tQn a) (mNm f pp ee env d.1 s) (hI.1 _) ga
          exact ⟨M.et t _, t⟩
        · -- ( E )
          obtain ⟨_, _, Ga⟩ := h.c16 hb
          have hg : gAa f pp ee tE tN A a env := hg
          obtain ⟨Ma, ta⟩ := Ia.1 0 (by decide) wa _ _ _ _ Ga hI hg
          exact ⟨Ma.et ta _, ta⟩
        · -- cons
          have A1 := (mLe.et d.1 (mB 3) _).al h.2.1
          have A0 := (mLe.mu _ _ _ _).al A1
          have M := mIv.ps d.2.2.2.1.2 s hI A0
          exact ⟨(M.mu (M.1 _) (mCm.b _) (mMu_al A1)).et (mCm.b _) _, mCm.b _⟩
        · -- match
          obtain ⟨⟨_, _, Ga⟩, _, _, Gb⟩ := h.c19
          have hg : gAa f pp ee tE tN A a env ∧ gAa f pp ee tE tN A b (env ++ [d.2.1, d.2.1 + 1]) := hg
          obtain ⟨Ma, ta⟩ := Ia.1 0 (by decide) wa _ _ _ _ Ga (hI.mu (hI.1 _) (mCm.b _) (mMu_al ((mLe.e a env _).al Ga.2.1))) hg.1
          obtain ⟨Mb, tb⟩ := Ib.1 0 (by decide) wb _ _ _ _ Gb ((Ma.nt (mCm.b _) _).nt (mCm.b _) _) hg.2
          have e1 := mMu_al ((mLe.et d.1 _ _).al h.2.1)
          exact ⟨(Mb.mu tb ta e1).et ta _, ta⟩
    · rcases wf with ⟨h2, _⟩ | ⟨_, _, wb, w⟩ | ⟨h2, _⟩
      · cases h2
      · have y0 := hy 0 (by show 0 < tQn b + 1; omega)
        have hyb : ∀ x, x < tQn b → yIs (yRs x (yR (s.2.2.2.2 α))) ∧ A (yRs x (yR (s.2.2.2.2 α))) = true := fun x hx => hy (x + 1) (by show x + 1 < tQn b + 1; omega)
        have tr := hI.2.2.1.r y0.1 y0.2
        have tl := hI.2.2.1.l y0.1 y0.2
        rcases w with ⟨rfl, hp, ha⟩ | ⟨rfl, _, wa⟩ | ⟨rfl, _, ha, hd⟩
        · obtain ⟨_, _, Gb⟩ := h.c33 ha
          have hg : gAa f pp ee tE tN A b env := hg
          have A1 := (mLe.cu _ _).al ((mLe.e b env _).al Gb.2.1)
          have A0 := (mLe.mu _ _ _ _).al A1
          have R : mIv A α (if d.2.1 = 1 then (mPs f pp ee env d.2.2.2.1.2 s, mB 0) else mSu f pp ee env d.2.2.2.1.2 s : mS × mF).1 ∧ mCm A α (if d.2.1 = 1 then (mPs f pp ee env d.2.2.2.1.2 s, mB 0) else mSu f pp ee env d.2.2.2.1.2 s : mS × mF).2 := by
            by_cases c : d.2.1 = 1
            · rw [if_pos c] at A0 ⊢
              exact ⟨mIv.ps _ _ hI A0, mCm.b _⟩
            · rw [if_neg c] at A0 ⊢
              exact hI.su A0
          exact Ib.2 wb _ _ _ _ Gb ((R.1.mu R.2 tl (mMu_al A1)).cu tr) hg hyb
        · obtain ⟨⟨_, _, Ga⟩, _, _, Gb⟩ := h.c34
          have hg : gAa f pp ee tE tN A a env ∧ gAa f pp ee tE tN A b env := hg
          have A1 := (mLe.cu _ _).al ((mLe.e b env _).al Gb.2.1)
          obtain ⟨Ma, ta⟩ := Ia.1 0 (by decide) wa _ _ _ _ Ga hI hg.1
          exact Ib.2 wb _ _ _ _ Gb ((Ma.mu ta tl (mMu_al A1)).cu tr) hg.2 hyb
        · obtain ⟨_, _, Gb⟩ := h.c35 ha
          have hg : gAa f pp ee tE tN A b env := hg
          have A1 := (mLe.cu _ _).al ((mLe.e b env _).al Gb.2.1)
          exact Ib.2 wb _ _ _ _ Gb ((hI.mu (mCm.b _) tl (mMu_al A1)).cu tr) hg hyb
      · cases h2
end MCE
section MCA
variable {A : tY → Bool}
theorem yLe.rf : ∀ y : tY, yLe y y
  | .leaf => rfl
  | .inner _ _ _ _ _ => Or.inr (Or.inl rfl)
/-- a least type keeps only what A names -/
theorem yLe.al {z : tY} : ∀ (y : tY), yLe y (yC A y) → yIn z y → A z = true
  | .leaf, _, h => h.elim
  | .inner k u v a b, hl, ⟨hk, hz⟩ => by
    subst hk
    have Ia := yLe.al (z := z) a
    have Ib := yLe.al (z := z) b
    have hl : ((yA a b : tY) = yB 0) ∨ yC A (yA a b) = yA a b ∨ ((0 : Nat) = 0 ∧ ∃ c d, yC A (yA a b) = yA c d ∧ yLe a c ∧ yLe b d) := hl
    by_cases hA : A (yA a b) = true
    · rw [yC_a hA] at hl
      have ab : yLe a (yC A a) ∧ yLe b (yC A b) := by
        rcases hl with w | w | ⟨-, c, d, w, w1, w2⟩
        · cases w
        · have w1 : yC A a = a := congrArg yL w
          have w2 : yC A b = b := congrArg yR w
          rw [w1, w2]
          exact ⟨yLe.rf _, yLe.rf _⟩
        · have e1 : yC A a = c := congrArg yL w
          have e2 : yC A b = d := congrArg yR w
          rw [e1, e2]
          exact ⟨w1, w2⟩
      rcases hz with w | w | w
      · rw [w]; exact hA
      · exact Ia ab.1 w
      · exact Ib ab.2 w
    · rw [yC_n hA] at hl
      rcases hl with w | w | ⟨-, c, d, w, -⟩
      · cases w
      · cases w
      · cases w
end MCA
