/-! simple types as the equations leave them: the rest -/
section MOK
variable {f pp ee : Nat → Int32} {tE tN : Nat → tY} {α : Nat → tY} {d : Nat × Nat × Nat × tS × tS} {z : Unit} {a b : tT} {env : List Nat} {s : mS} {i j : Nat}
set_option maxHeartbeats 1000000 in
theorem mok_2 (Ia : ∀ env s i j, mG f pp ee tE tN α a env s i j → gOk f pp ee tE tN a env ((mE f pp ee a env s).2 α)) (Ib : ∀ env s i j, mG f pp ee tE tN α b env s i j → gOk f pp ee tE tN b env ((mE f pp ee b env s).2 α)) (h : mG f pp ee tE tN α (.inner 2 d z a b) env s i j) : gOk f pp ee tE tN (.inner 2 d z a b) env ((mE f pp ee (.inner 2 d z a b) env s).2 α) := by
  obtain ⟨hr, hA, hE, hN, hT, hd, hn⟩ := h
  obtain ⟨⟨r1, r2, -⟩, k, ⟨r3, -⟩, ra, rb⟩ := hr
  have ra : tRg a (d.1 + 1) k := ra
  have hn : ((d.1 + 2) :: (List.range' (d.1 + 3) d.2.1 ++ (tW a ++ tW b))).Nodup := hn
  obtain ⟨n1, n2⟩ := List.nodup_cons.mp hn
  obtain ⟨nr, n3, nrab⟩ := List.nodup_append.mp n2
  obtain ⟨na, nb, nab⟩ := List.nodup_append.mp n3
  have hd : ∀ u, u = 0 ∨ u ∈ env → u ∉ (d.1 + 2) :: (List.range' (d.1 + 3) d.2.1 ++ (tW a ++ tW b)) := hd
  have hN : ∀ u, u ∈ (d.1 + 2) :: (List.range' (d.1 + 3) d.2.1 ++ (tW a ++ tW b)) → _ := hN
  generalize e0 : mFr (d.2.1 + 1) (mPa d.2.1 (d.1 + 3) s.2.1 s) = s0 at *
  generalize e1 : mNt (d.1 + 2) (mFu d.2.1 s.2.1 (mV (s.2.1 + d.2.1))) s0 = s1 at *
  generalize e2 : mE f pp ee a (env ++ ([d.1 + 2] ++ List.range' (d.1 + 3) d.2.1)) s1 = ra' at *
  generalize e3 : mMu ra'.2 (mV (s.2.1 + d.2.1)) (pp (tFw a)) ra'.1 = s3 at *
  generalize e4 : mE f pp ee b (env ++ [d.1 + 2]) s3 = rb' at *
  have eM : mE f pp ee (.inner 2 d z a b) env s = (mEt d.1 rb'.2 rb'.1, rb'.2) := by
    subst e4 e3 e2 e1 e0
    rfl
  rw [eM] at hA hN hT ⊢
  have l0 : mLe (List.range' (d.1 + 3) d.2.1) s s0 := e0 ▸ (mLe.pa _ _ _ _).tr ((mLe.fr _ _).no _)
  have l1 : mLe [d.1 + 2] s0 s1 := e1 ▸ mLe.nt _ _ _
  have la : mLe (tW a) s1 ra'.1 := e2 ▸ mLe.e a _ _
  have l3 : mLe [] ra'.1 s3 := e3 ▸ mLe.mu _ _ _ _
  have lb : mLe (tW b) s3 rb'.1 := e4 ▸ mLe.e b _ _
  have lF : mLe (tW b) ra'.1 (mEt d.1 rb'.2 rb'.1) := ((l3.no _).tr lb).tr ((mLe.et _ _ _).no _)
  have eq3 : ra'.2 α = α (s.2.1 + d.2.1) := by
    have := (lb.tr ((mLe.et d.1 rb'.2 _).no _)).al hA
    rw [← e3] at this
    exact mMu_al this
  have tnr : ∀ u, u ∈ List.range' (d.1 + 3) d.2.1 → tN u = s1.2.2.1 u α := fun u hu => by
    rw [hN u (List.mem_cons_of_mem _ (List.mem_append_left _ hu)), lF.2.2 u (fun w => nrab u hu u (List.mem_append_right _ w) rfl), la.2.2 u (fun w => nrab u hu u (List.mem_append_left _ w) rfl)]
  have tnf : tN (d.1 + 2) = s1.2.2.1 (d.1 + 2) α := by
    rw [hN _ (List.mem_cons_self ..), lF.2.2 _ (fun w => n1 (List.mem_append_right _ (List.mem_append_right _ w))), la.2.2 _ (fun w => n1 (List.mem_append_right _ (List.mem_append_left _ w)))]
  have sf : s1.2.2.1 (d.1 + 2) = mFu d.2.1 s.2.1 (mV (s.2.1 + d.2.1)) := by rw [← e1]; exact mUp_at _ _ _
  have pr : ∀ x, x < d.2.1 → tN (d.1 + 3 + x) = α (s.2.1 + x) := fun x hx => by
    rw [tnr _ (by rw [List.mem_range'_1]; omega), l1.2.2 _ (fun w => by have := List.mem_singleton.mp w; omega), ← e0]
    show (mPa d.2.1 (d.1 + 3) s.2.1 s).2.2.1 (d.1 + 3 + x) α = _
    rw [mPa_vi _ _ _ _ _ hx]
    rfl
  have hs1 : mHe α tN env s1 := (hE.le l0 (fun u hu w => hd u hu (List.mem_cons_of_mem _ (List.mem_append_left _ w)))).le l1 (fun u hu w => hd u hu (by rw [List.mem_singleton.mp w]; exact List.mem_cons_self ..))
  have Ga : mG f pp ee tE tN α a (env ++ ([d.1 + 2] ++ List.range' (d.1 + 3) d.2.1)) s1 (d.1 + 1) k := mG.of (F := mEt d.1 rb'.2 rb'.1) (W := tW b) ra hA (by rw [e2]; exact lF) (fun u hu => ⟨fun w => nab u hu u w rfl, hN u (List.mem_cons_of_mem _ (List.mem_append_right _ (List.mem_append_left _ hu)))⟩) (fun u h1 h2 => ⟨hT u (by omega) (by have := rb.le; omega), by
      rw [mEt_ne _ _ (show u ≠ d.1 by omega), ← e4, mE_tab b _ _ k j u rb (Or.inl h2), ← e3, e2]
      rfl⟩) (fun u hu => by
      rcases hu with hu | hu
      · exact hs1 u (Or.inl hu)
      · rcases List.mem_append.mp hu with hu | hu
        · exact hs1 u (Or.inr hu)
        · rcases List.mem_append.mp hu with hu | hu
          · rw [List.mem_singleton.mp hu]; exact tnf
          · exact tnr u hu) (fun u hu w => by
      rcases hu with hu | hu
      · exact hd u (Or.inl hu) (List.mem_cons_of_mem _ (List.mem_append_right _ (List.mem_append_left _ w)))
      · rcases List.mem_append.mp hu with hu | hu
        · exact hd u (Or.inr hu) (List.mem_cons_of_mem _ (List.mem_append_right _ (List.mem_append_left _ w)))
        · rcases List.mem_append.mp hu with hu | hu
          · exact n1 (by rw [← List.mem_singleton.mp hu]; exact List.mem_append_right _ (List.mem_append_left _ w))
          · exact nrab u hu u (List.mem_append_left _ w) rfl) na
  have hs3 : mHe α tN env s3 := (hs1.le la (fun u hu w => hd u hu (List.mem_cons_of_mem _ (List.mem_append_right _ (List.mem_append_left _ w))))).no l3
  have Gb : mG f pp ee tE tN α b (env ++ [d.1 + 2]) s3 k j := mG.of (F := mEt d.1 rb'.2 rb'.1) (W := []) rb hA (by rw [e4]; exact mLe.et _ _ _) (fun u hu => ⟨fun w => (by cases w), hN u (List.mem_cons_of_mem _ (List.mem_append_right _ (List.mem_append_right _ hu)))⟩) (fun u h1 h2 => ⟨hT u (by omega) (by omega), by rw [mEt_ne _ _ (show u ≠ d.1 by omega), e4]⟩) (fun u hu => by
      rcases hu with hu | hu
      · exact hs3 u (Or.inl hu)
      · rcases List.mem_append.mp hu with hu | hu
        · exact hs3 u (Or.inr hu)
        · rw [List.mem_singleton.mp hu, l3.2.2 _ (fun w => by cases w), la.2.2 _ (fun w => n1 (List.mem_append_right _ (List.mem_append_left _ w)))]
          exact tnf) (fun u hu w => by
      rcases hu with hu | hu
      · exact hd u (Or.inl hu) (List.mem_cons_of_mem _ (List.mem_append_right _ (List.mem_append_right _ w)))
      · rcases List.mem_append.mp hu with hu | hu
        · exact hd u (Or.inr hu) (List.mem_cons_of_mem _ (List.mem_append_right _ (List.mem_append_right _ w)))
        · exact n1 (by rw [← List.mem_singleton.mp hu]; exact List.mem_append_right _ (List.mem_append_right _ w))) nb
  have ga := Ia _ _ _ _ Ga
  have gb := Ib _ _ _ _ Gb
  rw [e2] at ga
  rw [e4] at gb
  refine ⟨?_, ⟨ra'.2 α, ?_, ga⟩, gb⟩
  · rw [hT d.1 r1 r2, mEt_at]
  · rw [tnf, sf, mFu_fn d.2.1 (d.1 + 3) s.2.1 _ pr, eq3]
    rfl
set_option maxHeartbeats 1000000 in
theorem mok_3 (Ia : ∀ env s i j, mG f pp ee tE tN α a env s i j → gOk f pp ee tE tN a env ((mE f pp ee a env s).2 α)) (h : mG f pp ee tE tN α (.inner 3 d z a b) env s i j) : gOk f pp ee tE tN (.inner 3 d z a b) env ((mE f pp ee (.inner 3 d z a b) env s).2 α) := by
  obtain ⟨hr, hA, hE, hN, hT, hd, hn⟩ := h
  obtain ⟨⟨r1, r2, -⟩, k, ⟨r3, -⟩, ra, rb⟩ := hr
  have ra : tRg a (d.1 + 1) k := ra
  have rb := rb.le
  have hn : ((d.1 + 1) :: tW a).Nodup := hn
  obtain ⟨n1, na⟩ := List.nodup_cons.mp hn
  have hd : ∀ u, u = 0 ∨ u ∈ env → u ∉ (d.1 + 1) :: tW a := hd
  have hN : ∀ u, u ∈ (d.1 + 1) :: tW a → _ := hN
  generalize e1 : mNt (d.1 + 1) (mV s.2.1) (mFr 1 s) = s1 at *
  generalize e2 : mE f pp ee a (env ++ [d.1 + 1]) s1 = ra' at *
  have eM : mE f pp ee (.inner 3 d z a b) env s = (mEt d.1 (mA (mV s.2.1) ra'.2) ra'.1, mA (mV s.2.1) ra'.2) := by
    subst e2 e1
    rfl
  rw [eM] at hA hN hT ⊢
  have l1 : mLe [d.1 + 1] s s1 := e1 ▸ ((mLe.fr 1 s).no _).tr (mLe.nt _ _ _)
  have la : mLe (tW a) s1 ra'.1 := e2 ▸ mLe.e a _ _
  have tn : tN (d.1 + 1) = α s.2.1 := by
    rw [hN _ (List.mem_cons_self ..)]
    show ra'.1.2.2.1 (d.1 + 1) α = _
    rw [la.2.2 _ n1, ← e1]
    show mUp _ _ _ _ α = _
    rw [mUp_at]
    rfl
  have Ga : mG f pp ee tE tN α a (env ++ [d.1 + 1]) s1 (d.1 + 1) k := mG.of (F := mEt d.1 (mA (mV s.2.1) ra'.2) ra'.1) (W := []) ra hA (by rw [e2]; exact mLe.et _ _ _) (fun u hu => ⟨fun w => (by cases w), hN u (List.mem_cons_of_mem _ hu)⟩) (fun u h1 h2 => ⟨hT u (by omega) (by omega), by rw [mEt_ne _ _ (show u ≠ d.1 by omega), e2]⟩) (fun u hu => by
      by_cases c : u = d.1 + 1
      · rw [c, tn, ← e1]
        show _ = mUp _ _ _ _ α
        rw [mUp_at]
        rfl
      · have hu : u = 0 ∨ u ∈ env := by
          rcases hu with w | w
          · exact Or.inl w
          · rcases List.mem_append.mp w with w | w
            · exact Or.inr w
            · exact absurd (List.mem_singleton.mp w) c
        rw [l1.2.2 u (fun w => c (List.mem_singleton.mp w))]
        exact hE u hu) (fun u hu w => by
      rcases hu with hu | hu
      · exact hd u (Or.inl hu) (List.mem_cons_of_mem _ w)
      · rcases List.mem_append.mp hu with hu | hu
        · exact hd u (Or.inr hu) (List.mem_cons_of_mem _ w)
        · exact n1 (by rw [← List.mem_singleton.mp hu]; exact w)) na
  have ga := Ia _ _ _ _ Ga
  rw [e2] at ga
  refine ⟨?_, ra'.2 α, ?_, ga⟩
  · rw [hT d.1 r1 r2, mEt_at]
  · rw [tn]
    rfl
/-- a part behind equations, with its own env -/
theorem mG.sub {t : tT} {s1 : mS} {k j' : Nat} {X : mF} {d1 : Nat} (hr : tRg t k j') (h1 : i ≤ k) (h2 : j' ≤ j) (h3 : d1 < k) (l : mLe [] s s1) (hA : mAll (mEt d1 X (mE f pp ee t env s1).1).1 α) (hE : mHe α tN env s) (hN : ∀ u, u ∈ tW t → tN u = (mEt d1 X (mE f pp ee t env s1).1).2.2.1 u α) (hT : ∀ u, i ≤ u → u < j → tE u = (mEt d1 X (mE f pp ee t env s1).1).2.2.2.1 u α) (hd : ∀ u, u = 0 ∨ u ∈ env → u ∉ tW t) (hn : (tW t).Nodup) : mG f pp ee tE tN α t env s1 k j' := mG.of (F := mEt d1 X (mE f pp ee t env s1).1) (W := []) hr hA (mLe.et _ _ _) (fun u hu => ⟨fun w => (by cases w), hN u hu⟩) (fun u a1 a2 => ⟨hT u (by omega) (by omega), mEt_ne _ _ (show u ≠ d1 by omega)⟩) (hE.no l) hd hn
theorem mok_4 {g : Nat} (hg : g = 4 ∨ g = 5) (Ib : ∀ env s i j, mG f pp ee tE tN α b env s i j → gOk f pp ee tE tN b env ((mE f pp ee b env s).2 α)) (h : mG f pp ee tE tN α (.inner g d z a b) env s i j) : gOk f pp ee tE tN (.inner g d z a b) env ((mE f pp ee (.inner g d z a b) env s).2 α) := by
  obtain ⟨hr, hA, hE, hN, hT, hd, hn⟩ := h
  have eM : mE f pp ee (.inner g d z a b) env s = (mEt d.1 (mE f pp ee b env (mCt f pp ee env a s)).2 (mE f pp ee b env (mCt f pp ee env a s)).1, (mE f pp ee b env (mCt f pp ee env a s)).2) := by rcases hg with rfl | rfl <;> rfl
  have eW : tW (.inner g d z a b) = tW b := by rcases hg with rfl | rfl <;> rfl
  rw [eM] at hA hN hT ⊢
  rw [eW] at hN hd hn
  obtain ⟨⟨r1, r2⟩, k, r3, rb⟩ : (i ≤ d.1 ∧ d.1 < j) ∧ ∃ k, d.1 + 1 ≤ k ∧ tRg b k j := by
    rcases hg with rfl | rfl
    all_goals (obtain ⟨⟨r1, r2, -⟩, k, ⟨r3, -⟩, -, rb⟩ := hr; exact ⟨⟨r1, r2⟩, k, r3, rb⟩)
  have l := mLe.ct (f := f) (pp := pp) (ee := ee) env a s
  have gb := Ib _ _ _ _ (mG.sub (i := i) (j := j) (X := (mE f pp ee b env (mCt f pp ee env a s)).2) (d1 := d.1) rb (by omega) (Nat.le_refl _) (by omega) l hA hE hN hT hd hn)
  have gc : gCk f pp ee tN env a := mCt_ok a s hE (((mLe.e b env _).tr ((mLe.et d.1 _ _).no _)).al hA)
  rcases hg with rfl | rfl
  · exact ⟨by rw [hT d.1 r1 r2, mEt_at], gc, gb⟩
  · exact ⟨gc, gb⟩
theorem mok_6 (Ia : ∀ env s i j, mG f pp ee tE tN α a env s i j → gOk f pp ee tE tN a env ((mE f pp ee a env s).2 α)) (h : mG f pp ee tE tN α (.inner 6 d z a b) env s i j) : gOk f pp ee tE tN (.inner 6 d z a b) env ((mE f pp ee (.inner 6 d z a b) env s).2 α) := by
  obtain ⟨hr, hA, hE, hN, hT, hd, hn⟩ := h
  obtain ⟨⟨r1, r2, -⟩, k, ⟨r3, -⟩, ra, rb⟩ := hr
  have rb := rb.le
  have hA : mAll (mEt d.1 _ (mE f pp ee a env (mPs f pp ee env d.2.2.2.2.2 (mPs f pp ee env d.2.2.2.1.2 (mMu (mNm f pp ee env (d.1 + 1) s) (mB 2) (pp (d.1 + 1)) s)))).1).1 α := hA
  have l1 := mLe.mu (mNm f pp ee env (d.1 + 1) s) (mB 2) (pp (d.1 + 1)) s
  have l2 := mLe.ps (f := f) (pp := pp) (ee := ee) env d.2.2.2.1.2 (mMu (mNm f pp ee env (d.1 + 1) s) (mB 2) (pp (d.1 + 1)) s)
  have l3 := mLe.ps (f := f) (pp := pp) (ee := ee) env d.2.2.2.2.2 (mPs f pp ee env d.2.2.2.1.2 (mMu (mNm f pp ee env (d.1 + 1) s) (mB 2) (pp (d.1 + 1)) s))
  have A3 := ((mLe.e a env _).tr ((mLe.et d.1 _ _).no _)).al hA
  have ga := Ia _ _ _ _ (mG.sub (i := i) (j := j) (d1 := d.1) (show tRg a (d.1 + 1) k from ra) (by omega) rb (by omega) ((l1.tr l2).tr l3) hA hE hN hT hd hn)
  refine ⟨?_, ⟨mPs_ok _ _ (hE.no l1) (l3.al A3), mPs_ok _ _ (hE.no (l1.tr l2)) A3⟩, ga⟩
  rw [hE.nu]
  exact mMu_al (l2.al (l3.al A3))
theorem mok_16 (Ia : ∀ env s i j, mG f pp ee tE tN α a env s i j → gOk f pp ee tE tN a env ((mE f pp ee a env s).2 α)) (hb : b = .leaf) (h : mG f pp ee tE tN α (.inner 16 d z a b) env s i j) : gOk f pp ee tE tN (.inner 16 d z a b) env ((mE f pp ee (.inner 16 d z a b) env s).2 α) := by
  subst hb
  obtain ⟨hr, hA, hE, hN, hT, hd, hn⟩ := h
  obtain ⟨⟨r1, r2, -⟩, k, ⟨r3, -⟩, ra, rb⟩ := hr
  have rb := rb.le
  have eW : tW (.inner 16 d z a .leaf) = tW a := List.append_nil _
  rw [eW] at hN hd hn
  exact Ia _ _ _ _ (mG.sub (i := i) (j := j) (d1 := d.1) (show tRg a (d.1 + 1) k from ra) (by omega) rb (by omega) (mLe.rf _ _) hA hE hN hT hd hn)
/-- nothing within -/
theorem mok_0 {g : Nat} (hg : g = 7 ∨ g = 8 ∨ g = 9 ∨ g = 10 ∨ g = 11 ∨ g = 12 ∨ g = 13 ∨ g = 14 ∨ g = 17 ∨ g = 18) (h : mG f pp ee tE tN α (.inner g d z a b) env s i j) : gOk f pp ee tE tN (.inner g d z a b) env ((mE f pp ee (.inner g d z a b) env s).2 α) := by
  obtain ⟨-, hA, hE, -⟩ := h
  have t11 : mAll (mPs f pp ee env d.2.2.2.2.2 (mPs f pp ee env d.2.2.2.1.2 s)).1 α → (mB 0 α) = yB 0 ∧ gSo f pp ee tN env d.2.2.2.1.2 ∧ gSo f pp ee tN env d.2.2.2.2.2 := fun A => ⟨rfl, mPs_ok _ _ hE ((mLe.ps env _ _).al A), mPs_ok _ _ (hE.no (mLe.ps env _ _)) A⟩
  rcases hg with rfl | rfl | rfl | rfl | rfl | rfl | rfl | rfl | rfl | rfl
  · exact ⟨rfl, mPs_ok _ _ hE ((mLe.et d.1 (mB 2) _).al hA)⟩
  · rfl
  · rfl
  · exact mSu_ok hE ((mLe.et d.1 _ _).al hA)
  · exact t11 ((mLe.et d.1 (mB 0) _).al hA)
  · exact t11 ((mLe.et d.1 (mB 0) _).al hA)
  · exact t11 ((mLe.et d.1 (mB 0) _).al hA)
  · have A := (mLe.et d.1 (mB 0) _).al hA
    refine ⟨rfl, ?_, mPs_ok _ _ (hE.no (mLe.mu _ _ _ _)) A⟩
    rw [hE.nu]
    exact mMu_al ((mLe.ps env _ _).al A)
  · rfl
  · have A := (mLe.et d.1 (mB 3) _).al hA
    have hE' := hE.no (mLe.ps (f := f) (pp := pp) (ee := ee) env d.2.2.2.1.2 s)
    refine ⟨rfl, ?_, mPs_ok _ _ hE ((mLe.mu _ _ _ _).al A)⟩
    rw [hE'.nu]
    exact mMu_al A
set_option maxHeartbeats 1000000 in
theorem mok_19 (Ia : ∀ env s i j, mG f pp ee tE tN α a env s i j → gOk f pp ee tE tN a env ((mE f pp ee a env s).2 α)) (Ib : ∀ env s i j, mG f pp ee tE tN α b env s i j → gOk f pp ee tE tN b env ((mE f pp ee b env s).2 α)) (h : mG f pp ee tE tN α (.inner 19 d z a b) env s i j) : gOk f pp ee tE tN (.inner 19 d z a b) env ((mE f pp ee (.inner 19 d z a b) env s).2 α) := by
  obtain ⟨hr, hA, hE, hN, hT, hd, hn⟩ := h
  obtain ⟨⟨r1, r2, -⟩, k, ⟨r3, -⟩, ra, rb⟩ := hr
  have ra : tRg a (d.1 + 1) k := ra
  have hn : (tW a ++ ([d.2.1, d.2.1 + 1] ++ tW b)).Nodup := hn
  obtain ⟨na, n2, nab⟩ := List.nodup_append.mp hn
  obtain ⟨-, nb, npb⟩ := List.nodup_append.mp n2
  have hd : ∀ u, u = 0 ∨ u ∈ env → u ∉ tW a ++ ([d.2.1, d.2.1 + 1] ++ tW b) := hd
  have hN : ∀ u, u ∈ tW a ++ ([d.2.1, d.2.1 + 1] ++ tW b) → _ := hN
  generalize e0 : mMu (mNm f pp ee env (d.1 + 1) s) (mB 3) (pp (d.1 + 1)) s = s0 at *
  generalize e1 : mE f pp ee a env s0 = ra' at *
  generalize e2 : mNt (d.2.1 + 1) (mB 3) (mNt d.2.1 (mB 0) ra'.1) = s2 at *
  generalize e3 : mE f pp ee b (env ++ [d.2.1, d.2.1 + 1]) s2 = rb' at *
  generalize e4 : mMu rb'.2 ra'.2 (pp (tFw b)) rb'.1 = s4 at *
  have eM : mE f pp ee (.inner 19 d z a b) env s = (mEt d.1 ra'.2 s4, ra'.2) := by
    subst e4 e3 e2 e1 e0
    rfl
  rw [eM] at hA hN hT ⊢
  have m0 : d.2.1 ∈ [d.2.1, d.2.1 + 1] := List.mem_cons_self ..
  have m1 : d.2.1 + 1 ∈ [d.2.1, d.2.1 + 1] := List.mem_cons_of_mem _ (List.mem_cons_self ..)
  have l0 : mLe [] s s0 := e0 ▸ mLe.mu _ _ _ _
  have la : mLe (tW a) s0 ra'.1 := e1 ▸ mLe.e a _ _
  have l2 : mLe [d.2.1, d.2.1 + 1] ra'.1 s2 := e2 ▸ ((mLe.nt d.2.1 (mB 0) _).mo (fun u hu => by rw [List.mem_singleton.mp hu]; exact m0)).tr ((mLe.nt (d.2.1 + 1) (mB 3) _).mo (fun u hu => by rw [List.mem_singleton.mp hu]; exact m1))
  have lb : mLe (tW b) s2 rb'.1 := e3 ▸ mLe.e b _ _
  have l4 : mLe [] rb'.1 s4 := e4 ▸ mLe.mu _ _ _ _
  have lF : mLe (tW b) s2 (mEt d.1 ra'.2 s4) := (lb.tr (l4.no _)).tr ((mLe.et _ _ _).no _)
  have lG : mLe ([d.2.1, d.2.1 + 1] ++ tW b) ra'.1 (mEt d.1 ra'.2 s4) := (l2.mo (fun u hu => List.mem_append_left _ hu)).tr (lF.mo (fun u hu => List.mem_append_right _ hu))
  have t0 : s2.2.2.1 d.2.1 = mB 0 := by
    rw [← e2]
    show mUp (mUp _ _ _) _ _ _ = _
    rw [mUp_ne _ _ (by omega), mUp_at]
  have t1 : s2.2.2.1 (d.2.1 + 1) = mB 3 := by rw [← e2]; exact mUp_at _ _ _
  have tn : ∀ u, u ∈ [d.2.1, d.2.1 + 1] → tN u = s2.2.2.1 u α := fun u hu => by
    rw [hN u (List.mem_append_right _ (List.mem_append_left _ hu)), lF.2.2 u (fun w => npb u hu u w rfl)]
  have eq4 : rb'.2 α = ra'.2 α := by
    have := (mLe.et d.1 ra'.2 s4).al hA
    rw [← e4] at this
    exact mMu_al this
  have hs0 := hE.no l0
  have hs2 : mHe α tN env s2 := (hs0.le la (fun u hu w => hd u hu (List.mem_append_left _ w))).le l2 (fun u hu w => hd u hu (List.mem_append_right _ (List.mem_append_left _ w)))
  have Ga : mG f pp ee tE tN α a env s0 (d.1 + 1) k := mG.of (F := mEt d.1 ra'.2 s4) (W := [d.2.1, d.2.1 + 1] ++ tW b) ra hA (by rw [e1]; exact lG) (fun u hu => ⟨fun w => nab u hu u w rfl, hN u (List.mem_append_left _ hu)⟩) (fun u h1 h2 => ⟨hT u (by omega) (by have := rb.le; omega), by
      rw [mEt_ne _ _ (show u ≠ d.1 by omega), ← e4]
      show rb'.1.2.2.2.1 u = _
      rw [← e3, mE_tab b _ _ k j u rb (Or.inl h2), ← e2, e1]
      rfl⟩) hs0 (fun u hu w => hd u hu (List.mem_append_left _ w)) na
  have Gb : mG f pp ee tE tN α b (env ++ [d.2.1, d.2.1 + 1]) s2 k j := mG.of (F := mEt d.1 ra'.2 s4) (W := []) rb hA (by rw [e3]; exact l4.tr (mLe.et _ _ _)) (fun u hu => ⟨fun w => (by cases w), hN u (List.mem_append_right _ (List.mem_append_right _ hu))⟩) (fun u h1 h2 => ⟨hT u (by omega) (by omega), by rw [mEt_ne _ _ (show u ≠ d.1 by omega), ← e4, e3]; rfl⟩) (fun u hu => by
      rcases hu with hu | hu
      · exact hs2 u (Or.inl hu)
      · rcases List.mem_append.mp hu with hu | hu
        · exact hs2 u (Or.inr hu)
        · exact tn u hu) (fun u hu w => by
      rcases hu with hu | hu
      · exact hd u (Or.inl hu) (List.mem_append_right _ (List.mem_append_right _ w))
      · rcases List.mem_append.mp hu with hu | hu
        · exact hd u (Or.inr hu) (List.mem_append_right _ (List.mem_append_right _ w))
        · exact npb u hu u w rfl) nb
  have ga := Ia _ _ _ _ Ga
  have gb := Ib _ _ _ _ Gb
  rw [e1] at ga
  rw [e3, eq4] at gb
  refine ⟨by rw [hT d.1 r1 r2, mEt_at], ?_, ⟨(tn _ m0).trans (by rw [t0]; rfl), (tn _ m1).trans (by rw [t1]; rfl)⟩, ga, gb⟩
  rw [hE.nu]
  have A0 := la.al (lG.al hA)
  rw [← e0] at A0
  exact mMu_al A0
set_option maxHeartbeats 1000000 in
theorem mok_31 (Ia : ∀ env s i j, mG f pp ee tE tN α a env s i j → gOk f pp ee tE tN a env ((mE f pp ee a env s).2 α)) (Ib : ∀ env s i j, mG f pp ee tE tN α b env s i j → gOk f pp ee tE tN b env ((mE f pp ee b env s).2 α)) (h : mG f pp ee tE tN α (.inner 31 d z a b) env s i j) : gOk f pp ee tE tN (.inner 31 d z a b) env ((mE f pp ee (.inner 31 d z a b) env s).2 α) := by
  obtain ⟨hr, hA, hE, hN, hT, hd, hn⟩ := h
  obtain ⟨k, ra, rb⟩ : ∃ k, tRg a i k ∧ tRg b k j := hr
  have ila := ra.le
  have ilb := rb.le
  have hn : (tW a ++ tW b).Nodup := hn
  obtain ⟨na, nb, nab⟩ := List.nodup_append.mp hn
  have hd : ∀ u, u = 0 ∨ u ∈ env → u ∉ tW a ++ tW b := hd
  have hN : ∀ u, u ∈ tW a ++ tW b → _ := hN
  generalize e1 : mE f pp ee a env s = ra' at *
  generalize e3 : mE f pp ee b env ra'.1 = rb' at *
  generalize e4 : mMu rb'.2 ra'.2 (pp (tFw b)) rb'.1 = s4 at *
  have eM : mE f pp ee (.inner 31 d z a b) env s = (s4, ra'.2) := by
    subst e4 e3 e1
    rfl
  rw [eM] at hA hN hT ⊢
  have la : mLe (tW a) s ra'.1 := e1 ▸ mLe.e a _ _
  have lb : mLe (tW b) ra'.1 rb'.1 := e3 ▸ mLe.e b _ _
  have l4 : mLe [] rb'.1 s4 := e4 ▸ mLe.mu _ _ _ _
  have eq4 : rb'.2 α = ra'.2 α := by
    rw [← e4] at hA
    exact mMu_al hA
  have Ga : mG f pp ee tE tN α a env s i k := mG.of (F := s4) (W := tW b) ra hA (by rw [e1]; exact lb.tr (l4.no _)) (fun u hu => ⟨fun w => nab u hu u w rfl, hN u (List.mem_append_left _ hu)⟩) (fun u h1 h2 => ⟨hT u (by omega) (by omega), by
      rw [← e4]
      show rb'.1.2.2.2.1 u = _
      rw [← e3, mE_tab b _ _ k j u rb (Or.inl h2), e1]⟩) hE (fun u hu w => hd u hu (List.mem_append_left _ w)) na
  have Gb : mG f pp ee tE tN α b env ra'.1 k j := mG.of (F := s4) (W := []) rb hA (by rw [e3]; exact l4) (fun u hu => ⟨fun w => (by cases w), hN u (List.mem_append_right _ hu)⟩) (fun u h1 h2 => ⟨hT u (by omega) (by omega), by rw [← e4, e3]; rfl⟩) (hE.le la (fun u hu w => hd u hu (List.mem_append_left _ w))) (fun u hu w => hd u hu (List.mem_append_right _ w)) nb
  have ga := Ia _ _ _ _ Ga
  have gb := Ib _ _ _ _ Gb
  rw [e1] at ga
  rw [e3, eq4] at gb
  exact ⟨ga, gb⟩
/-- an ARG, R what is found of it -/
theorem mok_arg {W : List Nat} {R : mS × mF} {w : Nat} {i' k : Nat} (Ib : ∀ env s i j, mG f pp ee tE tN α b env s i j → (∀ x, x < tQn b → yIs (yRs x (s.2.2.2.2 α))) → gOk f pp ee tE tN b env (s.2.2.2.2 α)) (hr : tRg b k j) (l : mLe W s R.1) (hA : mAll (mE f pp ee b env (mCu (fun α => yR (s.2.2.2.2 α)) (mMu R.2 (fun α => yL (s.2.2.2.2 α)) (pp w) R.1))).1.1 α) (hE : mHe α tN env s) (hN : ∀ u, u ∈ tW b → tN u = (mE f pp ee b env (mCu (fun α => yR (s.2.2.2.2 α)) (mMu R.2 (fun α => yL (s.2.2.2.2 α)) (pp w) R.1))).1.2.2.1 u α) (hT : ∀ u, k ≤ u → u < j → tE u = (mE f pp ee b env (mCu (fun α => yR (s.2.2.2.2 α)) (mMu R.2 (fun α => yL (s.2.2.2.2 α)) (pp w) R.1))).1.2.2.2.1 u α) (hd : ∀ u, u = 0 ∨ u ∈ env → u ∉ W ∧ u ∉ tW b) (hn : (tW b).Nodup) (hy : ∀ x, x < tQn b + 1 → yIs (yRs x (s.2.2.2.2 α))) : yIs (s.2.2.2.2 α) ∧ R.2 α = yL (s.2.2.2.2 α) ∧ mAll R.1.1 α ∧ gOk f pp ee tE tN b env (yR (s.2.2.2.2 α)) := by
  have lm := mLe.mu R.2 (fun α => yL (s.2.2.2.2 α)) (pp w) R.1
  have lc := mLe.cu (fun α => yR (s.2.2.2.2 α)) (mMu R.2 (fun α => yL (s.2.2.2.2 α)) (pp w) R.1)
  have A := lc.al ((mLe.e b env _).al hA)
  refine ⟨hy 0 (by omega), mMu_al A, lm.al A, ?_⟩
  exact Ib _ _ _ _ ⟨hr, hA, ((hE.le l (fun u hu => (hd u hu).1)).no lm).no lc, hN, hT, fun u hu => (hd u hu).2, hn⟩ (fun x hx => hy (x + 1) (by omega))
set_option maxHeartbeats 1000000 in
theorem mok_33 (ha : a = .leaf) (Ib : ∀ env s i j, mG f pp ee tE tN α b env s i j → (∀ x, x < tQn b → yIs (yRs x (s.2.2.2.2 α))) → gOk f pp ee tE tN b env (s.2.2.2.2 α)) (h : mG f pp ee tE tN α (.inner 33 d z a b) env s i j) (hy : ∀ x, x < tQn b + 1 → yIs (yRs x (s.2.2.2.2 α))) : gOk f pp ee tE tN (.inner 33 d z a b) env (s.2.2.2.2 α) := by
  subst ha
  obtain ⟨hr, hA, hE, hN, hT, hd, hn⟩ := h
  obtain ⟨⟨r1, r2, -⟩, k, ⟨r3, -⟩, -, rb⟩ := hr
  have hn : (tW b).Nodup := hn
  have hd : ∀ u, u = 0 ∨ u ∈ env → u ∉ tW b := hd
  have l : mLe [] s (if d.2.1 = 1 then (mPs f pp ee env d.2.2.2.1.2 s, mB 0) else mSu f pp ee env d.2.2.2.1.2 s : mS × mF).1 := by
    split
    · exact mLe.ps _ _ _
    · exact mLe.su _ _ _
  obtain ⟨q1, q2, q3, q4⟩ := mok_arg (R := if d.2.1 = 1 then (mPs f pp ee env d.2.2.2.1.2 s, mB 0) else mSu f pp ee env d.2.2.2.1.2 s) (w := d.1) (i' := i) Ib rb l hA hE hN (fun u h1 h2 => hT u (by omega) h2) (fun u hu => ⟨fun w => (by cases w), hd u hu⟩) hn hy
  refine ⟨q1, ?_, q4⟩
  by_cases c : d.2.1 = 1
  · rw [if_pos c] at q2 q3
    have so := mPs_ok _ _ hE q3
    refine ⟨q2.symm.trans ?_, fun _ => so⟩
    unfold gSk
    by_cases cn : isN d.2.2.2.1.2 = true
    · rw [if_pos cn]
      have cn' := of_decide_eq_true cn
      match e : d.2.2.2.1.2, cn' with
      | [], cn' => exact absurd cn'.1 (by decide)
      | p :: ps, cn' =>
        rw [e] at so
        have := so p (List.mem_cons_self ..) (by rw [show p.1 = 1 from cn'.2.1]; decide)
        rw [show p.1 = 1 from cn'.2.1] at this
        exact this.symm
    · rw [if_neg cn]
      rfl
  · rw [if_neg c] at q2 q3
    obtain ⟨w1, w2⟩ := mSu_ok hE q3
    exact ⟨q2.symm.trans w1, fun h => by
      rcases h with h | h
      · exact absurd h c
      · exact w2 h⟩
theorem mok_34 (Ia : ∀ env s i j, mG f pp ee tE tN α a env s i j → gOk f pp ee tE tN a env ((mE f pp ee a env s).2 α)) (Ib : ∀ env s i j, mG f pp ee tE tN α b env s i j → (∀ x, x < tQn b → yIs (yRs x (s.2.2.2.2 α))) → gOk f pp ee tE tN b env (s.2.2.2.2 α)) (h : mG f pp ee tE tN α (.inner 34 d z a b) env s i j) (hy : ∀ x, x < tQn b + 1 → yIs (yRs x (s.2.2.2.2 α))) : gOk f pp ee tE tN (.inner 34 d z a b) env (s.2.2.2.2 α) := by
  obtain ⟨hr, hA, hE, hN, hT, hd, hn⟩ := h
  obtain ⟨⟨r1, r2, -⟩, k, ⟨r3, -⟩, ra, rb⟩ := hr
  have ra : tRg a (d.1 + 1) k := ra
  have rbl := rb.le
  have hn : (tW a ++ tW b).Nodup := hn
  obtain ⟨na, nb, nab⟩ := List.nodup_append.mp hn
  have hd : ∀ u, u = 0 ∨ u ∈ env → u ∉ tW a ++ tW b := hd
  have hN : ∀ u, u ∈ tW a ++ tW b → _ := hN
  have la := mLe.e (f := f) (pp := pp) (ee := ee) a env s
  obtain ⟨q1, q2, q3, q4⟩ := mok_arg (R := mE f pp ee a env s) (w := d.1) (i' := i) Ib rb la hA hE (fun u hu => hN u (List.mem_append_right _ hu)) (fun u h1 h2 => hT u (by omega) h2) (fun u hu => ⟨fun w => hd u hu (List.mem_append_left _ w), fun w => hd u hu (List.mem_append_right _ w)⟩) nb hy
  have lm := mLe.mu (mE f pp ee a env s).2 (fun α => yL (s.2.2.2.2 α)) (pp d.1) (mE f pp ee a env s).1
  have lc := mLe.cu (fun α => yR (s.2.2.2.2 α)) (mMu (mE f pp ee a env s).2 (fun α => yL (s.2.2.2.2 α)) (pp d.1) (mE f pp ee a env s).1)
  have ga := Ia _ _ _ _ (mG.of (f := f) (pp := pp) (ee := ee) (tE := tE) (tN := tN) (α := α) (t := a) (env := env) (s := s) (F := (mE f pp ee (.inner 34 d z a b) env s).1) (W := tW b) ra hA (((lm.tr lc).no _).tr (mLe.e b env _)) (fun u hu => ⟨fun w => nab u hu u w rfl, hN u (List.mem_append_left _ hu)⟩) (fun u h1 h2 => ⟨hT u (by omega) (by omega), (mE_tab b _ _ k j u rb (Or.inl h2)).trans rfl⟩) hE (fun u hu w => hd u hu (List.mem_append_left _ w)) na)
  rw [q2] at ga
  exact ⟨q1, ga, q4⟩
theorem mok_35 (Ib : ∀ env s i j, mG f pp ee tE tN α b env s i j → (∀ x, x < tQn b → yIs (yRs x (s.2.2.2.2 α))) → gOk f pp ee tE tN b env (s.2.2.2.2 α)) (ha : a = .leaf) (h : mG f pp ee tE tN α (.inner 35 d z a b) env s i j) (hy : ∀ x, x < tQn b + 1 → yIs (yRs x (s.2.2.2.2 α))) : gOk f pp ee tE tN (.inner 35 d z a b) env (s.2.2.2.2 α) := by
  subst ha
  obtain ⟨hr, hA, hE, hN, hT, hd, hn⟩ := h
  obtain ⟨⟨r1, r2, -⟩, k, ⟨r3, -⟩, -, rb⟩ := hr
  obtain ⟨q1, q2, q3, q4⟩ := mok_arg (R := (s, mB 1)) (w := d.1) (i' := i) (W := []) Ib rb (mLe.rf _ _) hA hE hN (fun u h1 h2 => hT u (by omega) h2) (fun u hu => ⟨fun w => (by cases w), hd u hu⟩) hn hy
  exact ⟨q1, q2.symm, q4⟩
theorem mok_15 (Ia : ∀ env s i j, mG f pp ee tE tN α a env s i j → (∀ x, x < tQn a → yIs (yRs x (s.2.2.2.2 α))) → gOk f pp ee tE tN a env (s.2.2.2.2 α)) (h : mG f pp ee tE tN α (.inner 15 d z a b) env s i j) : gOk f pp ee tE tN (.inner 15 d z a b) env ((mE f pp ee (.inner 15 d z a b) env s).2 α) := by
  obtain ⟨hr, hA, hE, hN, hT, hd, hn⟩ := h
  obtain ⟨⟨r1, r2, -⟩, k, ⟨r3, -⟩, ra, rb⟩ := hr
  have rb := rb.le
  have lo := mLe.op (pp d.1) (tQn a) (mNm f pp ee env d.1 s) s
  have lc := mLe.cu (mNm f pp ee env d.1 s) (mOp (pp d.1) (tQn a) (mNm f pp ee env d.1 s) s)
  have hA : mAll (mEt d.1 _ (mE f pp ee a env (mCu (mNm f pp ee env d.1 s) (mOp (pp d.1) (tQn a) (mNm f pp ee env d.1 s) s))).1).1 α := hA
  have A := lc.al (((mLe.e a env _).tr ((mLe.et d.1 _ _).no _)).al hA)
  have ga := Ia _ _ _ _ (mG.sub (i := i) (j := j) (d1 := d.1) (show tRg a (d.1 + 1) k from ra) (by omega) rb (by omega) (lo.tr lc) hA hE hN hT hd hn) (mOp_ok _ _ _ A)
  have e : (mCu (mNm f pp ee env d.1 s) (mOp (pp d.1) (tQn a) (mNm f pp ee env d.1 s) s)).2.2.2.2 α = tN (gNu f pp ee env d.1) := (hE.nu d.1).symm
  rw [e] at ga
  refine ⟨?_, ga⟩
  rw [hE.nu]
  exact mRs_y _ _
/-- **what the equations say of a tree** -/
theorem mE_ok {kk : Nat → Int32} {cnt : Nat} : ∀ (t : tT), (∀ l, l ≠ 2 → tWf kk cnt t l → ∀ env s i j, mG f pp ee tE tN α t env s i j → gOk f pp ee tE tN t env ((mE f pp ee t env s).2 α)) ∧ (tWf kk cnt t 2 → ∀ env s i j, mG f pp ee tE tN α t env s i j → (∀ x, x < tQn t → yIs (yRs x (s.2.2.2.2 α))) → gOk f pp ee tE tN t env (s.2.2.2.2 α))
  | .leaf => ⟨fun l hl wf => absurd wf hl, fun _ _ _ _ _ _ _ => trivial⟩
  | .inner g d z a b => by
    have Ia := mE_ok (kk := kk) (cnt := cnt) a
    have Ib := mE_ok (kk := kk) (cnt := cnt) b
    refine ⟨fun l hl wf env s i j h => ?_, fun wf env s i j h hy => ?_⟩
    · rcases wf with ⟨_, rfl, _, wa, wb⟩ | ⟨h2, _⟩ | ⟨_, w⟩
      · exact mok_31 (Ia.1 0 (by decide) wa) (Ib.1 0 (by decide) wb) h
      · exact absurd h2 hl
      · rcases w with ⟨rfl, _, wa, wb⟩ | ⟨rfl, ⟨_, w2, _⟩, wa, wb⟩ | ⟨rfl, _, wa⟩ | ⟨rfl, wc, wb⟩ | ⟨rfl, wc, wb⟩ | ⟨rfl, _, _, wa⟩ | ⟨h7, _, _, hab⟩ | ⟨h7, _, hab⟩ | ⟨h7, _, hab⟩ | ⟨rfl, _⟩ | ⟨rfl, _, wa⟩ | ⟨rfl, _, wa, hb⟩ | ⟨rfl, _⟩ | ⟨rfl, _, wa, wb⟩
        · exact mok_1 (Ia.1 0 (by decide) wa) (Ib.1 0 (by decide) wb) h
        · exact mok_2 (Ia.1 0 (by decide) wa) (Ib.1 0 (by decide) wb) h
        · exact mok_3 (Ia.1 0 (by decide) wa) h
        · exact mok_4 (Or.inl rfl) (Ib.1 1 (by decide) wb) h
        · exact mok_4 (Or.inr rfl) (Ib.1 0 (by decide) wb) h
        · exact mok_6 (Ia.1 0 (by decide) wa) h
        · exact mok_0 (by omega) h
        · exact mok_0 (by omega) h
        · exact mok_0 (by omega) h
        · exact mok_0 (by omega) h
        · exact mok_15 (Ia.2 wa) h
        · exact mok_16 (Ia.1 0 (by decide) wa) hb h
        · exact mok_0 (by omega) h
        · exact mok_19 (Ia.1 0 (by decide) wa) (Ib.1 0 (by decide) wb) h
    · rcases wf with ⟨h2, _⟩ | ⟨_, _, wb, w⟩ | ⟨h2, _⟩
      · cases h2
      · rcases w with ⟨rfl, hp, ha⟩ | ⟨rfl, _, wa⟩ | ⟨rfl, _, ha, hd⟩
        · exact mok_33 ha (Ib.2 wb) h hy
        · exact mok_34 (Ia.1 0 (by decide) wa) (Ib.2 wb) h hy
        · exact mok_35 (Ib.2 wb) ha h hy
      · cases h2
end MOK
