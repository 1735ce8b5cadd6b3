/-! CAPACITIES: the equations of a tree and of its parts -/
section MGC
variable {f pp ee : Nat → Int32} {tE tN : Nat → tY} {α : Nat → tY} {d : Nat × Nat × Nat × tS × tS} {z : Unit} {a b : tT} {env : List Nat} {s : mS} {i j : Nat}
set_option maxHeartbeats 1000000 in
theorem mG.c1 (h : mG f pp ee tE tN α (.inner 1 d z a b) env s i j) : (∃ i j, mG f pp ee tE tN α a env s i j) ∧ ∃ i j, mG f pp ee tE tN α b (env ++ [d.1 + 1]) (mNt (d.1 + 1) (mE f pp ee a env s).2 (mE f pp ee a env s).1) i j := by
  obtain ⟨hr, hA, hE, hN, hT, hd, hn⟩ := h
  obtain ⟨⟨r1, r2, -⟩, k, ⟨r3, -⟩, ra, rb⟩ := hr
  have ra : tRg a (d.1 + 1) k := ra
  have hn : ((d.1 + 1) :: (tW a ++ tW b)).Nodup := hn
  obtain ⟨n1, n2⟩ := List.nodup_cons.mp hn
  obtain ⟨na, nb, nab⟩ := List.nodup_append.mp n2
  have hd : ∀ u, u = 0 ∨ u ∈ env → u ∉ (d.1 + 1) :: (tW a ++ tW b) := hd
  have hN : ∀ u, u ∈ (d.1 + 1) :: (tW a ++ tW b) → _ := hN
  generalize e1 : mE f pp ee a env s = r1' at *
  generalize e2 : mNt (d.1 + 1) r1'.2 r1'.1 = s2 at *
  generalize e3 : mE f pp ee b (env ++ [d.1 + 1]) s2 = r3' at *
  have eM : mE f pp ee (.inner 1 d z a b) env s = (mEt d.1 r3'.2 r3'.1, r3'.2) := by
    subst e3 e2 e1
    rfl
  rw [eM] at hA hN hT
  have lb : mLe (tW b) s2 r3'.1 := e3 ▸ mLe.e b _ _
  have l2 : mLe [d.1 + 1] r1'.1 s2 := e2 ▸ mLe.nt _ _ _
  have la : mLe (tW a) s r1'.1 := e1 ▸ mLe.e a _ _
  have l12 : mLe ((d.1 + 1) :: tW b) r1'.1 (mEt d.1 r3'.2 r3'.1) := ((l2.mo (fun u hu => by rw [List.mem_singleton.mp hu]; exact List.mem_cons_self ..)).tr (lb.mo (fun u hu => List.mem_cons_of_mem _ hu))).tr ((mLe.et _ _ _).no _)
  have Ga : mG f pp ee tE tN α a env s (d.1 + 1) k := mG.of (F := mEt d.1 r3'.2 r3'.1) (W := (d.1 + 1) :: tW b) ra hA (by rw [e1]; exact l12) (fun u hu => ⟨fun w => by
      rcases List.mem_cons.mp w with w | w
      · exact n1 (by rw [← w]; exact List.mem_append_left _ hu)
      · exact nab u hu u w rfl, hN u (List.mem_cons_of_mem _ (List.mem_append_left _ hu))⟩) (fun u h1 h2 => ⟨hT u (by omega) (by have := rb.le; omega), by
      rw [mEt_ne _ _ (show u ≠ d.1 by omega), ← e3, mE_tab b _ _ k j u rb (Or.inl h2), ← e2, e1]
      rfl⟩) hE (fun u hu w => hd u hu (List.mem_cons_of_mem _ (List.mem_append_left _ w))) na
  have tn : tN (d.1 + 1) = r1'.2 α := by
    rw [hN _ (List.mem_cons_self ..)]
    show r3'.1.2.2.1 (d.1 + 1) α = _
    rw [lb.2.2 _ (fun w => n1 (List.mem_append_right _ w)), ← e2]
    show mUp _ _ _ _ α = _
    rw [mUp_at]
  have Gb : mG f pp ee tE tN α b (env ++ [d.1 + 1]) s2 k j := mG.of (F := mEt d.1 r3'.2 r3'.1) (W := []) rb hA (by rw [e3]; exact mLe.et _ _ _) (fun u hu => ⟨fun w => (by cases w), hN u (List.mem_cons_of_mem _ (List.mem_append_right _ hu))⟩) (fun u h1 h2 => ⟨hT u (by omega) (by omega), by rw [mEt_ne _ _ (show u ≠ d.1 by omega), e3]⟩) (fun u hu => by
      by_cases c : u = d.1 + 1
      · rw [c, tn, ← e2]
        show _ = mUp _ _ _ _ α
        rw [mUp_at]
      · have hu : u = 0 ∨ u ∈ env := by
          rcases hu with w | w
          · exact Or.inl w
          · rcases List.mem_append.mp w with w | w
            · exact Or.inr w
            · exact absurd (List.mem_singleton.mp w) c
        rw [l2.2.2 u (fun w => c (List.mem_singleton.mp w)), la.2.2 u (fun w => hd u hu (List.mem_cons_of_mem _ (List.mem_append_left _ w)))]
        exact hE u hu) (fun u hu w => by
      rcases hu with hu | hu
      · exact hd u (Or.inl hu) (List.mem_cons_of_mem _ (List.mem_append_right _ w))
      · rcases List.mem_append.mp hu with hu | hu
        · exact hd u (Or.inr hu) (List.mem_cons_of_mem _ (List.mem_append_right _ w))
        · exact n1 (by rw [← List.mem_singleton.mp hu]; exact List.mem_append_right _ w)) nb
  exact ⟨⟨_, _, Ga⟩, _, _, Gb⟩
set_option maxHeartbeats 1000000 in
theorem mG.c2 (h : mG f pp ee tE tN α (.inner 2 d z a b) env s i j) : (∃ i j, mG f pp ee tE tN α a (env ++ ([d.1 + 2] ++ List.range' (d.1 + 3) d.2.1)) (mNt (d.1 + 2) (mFu d.2.1 s.2.1 (mV (s.2.1 + d.2.1))) (mFr (d.2.1 + 1) (mPa d.2.1 (d.1 + 3) s.2.1 s))) i j) ∧ (∃ i j, mG f pp ee tE tN α b (env ++ [d.1 + 2]) (mMu (mE f pp ee a (env ++ ([d.1 + 2] ++ List.range' (d.1 + 3) d.2.1)) (mNt (d.1 + 2) (mFu d.2.1 s.2.1 (mV (s.2.1 + d.2.1))) (mFr (d.2.1 + 1) (mPa d.2.1 (d.1 + 3) s.2.1 s)))).2 (mV (s.2.1 + d.2.1)) (pp (tFw a)) (mE f pp ee a (env ++ ([d.1 + 2] ++ List.range' (d.1 + 3) d.2.1)) (mNt (d.1 + 2) (mFu d.2.1 s.2.1 (mV (s.2.1 + d.2.1))) (mFr (d.2.1 + 1) (mPa d.2.1 (d.1 + 3) s.2.1 s)))).1) i j) ∧ tN (d.1 + 2) = mFu d.2.1 s.2.1 (mV (s.2.1 + d.2.1)) α ∧ ∀ x, x < d.2.1 → tN (d.1 + 3 + x) = α (s.2.1 + x) := by
  obtain ⟨hr, hA, hE, hN, hT, hd, hn⟩ := h
  obtain ⟨⟨r1, r2, -⟩, k, ⟨r3, -⟩, ra, rb⟩ := hr
  have ra : tRg a (d.1 + 1) k := ra
  have hn : ((d.1 + 2) :: (List.range' (d.1 + 3) d.2.1 ++ (tW a ++ tW b))).Nodup := hn
  obtain ⟨n1, n2⟩ := List.nodup_cons.mp hn
  obtain ⟨nr, n3, nrab⟩ := List.nodup_append.mp n2
  obtain ⟨na, nb, nab⟩ := List.nodup_append.mp n3
  have hd : ∀ u, u = 0 ∨ u ∈ env → u ∉ (d.1 + 2) :: (List.range' (d.1 + 3) d.2.1 ++ (tW a ++ tW b)) := hd
  have hN : ∀ u, u ∈ (d.1 + 2) :: (List.range' (d.1 + 3) d.2.1 ++ (tW a ++ tW b)) → _ := hN
  generalize e0 : mFr (d.2.1 + 1) (mPa d.2.1 (d.1 + 3) s.2.1 s) = s0 at *
  generalize e1 : mNt (d.1 + 2) (mFu d.2.1 s.2.1 (mV (s.2.1 + d.2.1))) s0 = s1 at *
  generalize e2 : mE f pp ee a (env ++ ([d.1 + 2] ++ List.range' (d.1 + 3) d.2.1)) s1 = ra' at *
  generalize e3 : mMu ra'.2 (mV (s.2.1 + d.2.1)) (pp (tFw a)) ra'.1 = s3 at *
  generalize e4 : mE f pp ee b (env ++ [d.1 + 2]) s3 = rb' at *
  have eM : mE f pp ee (.inner 2 d z a b) env s = (mEt d.1 rb'.2 rb'.1, rb'.2) := by
    subst e4 e3 e2 e1 e0
    rfl
  rw [eM] at hA hN hT
  have l0 : mLe (List.range' (d.1 + 3) d.2.1) s s0 := e0 ▸ (mLe.pa _ _ _ _).tr ((mLe.fr _ _).no _)
  have l1 : mLe [d.1 + 2] s0 s1 := e1 ▸ mLe.nt _ _ _
  have la : mLe (tW a) s1 ra'.1 := e2 ▸ mLe.e a _ _
  have l3 : mLe [] ra'.1 s3 := e3 ▸ mLe.mu _ _ _ _
  have lb : mLe (tW b) s3 rb'.1 := e4 ▸ mLe.e b _ _
  have lF : mLe (tW b) ra'.1 (mEt d.1 rb'.2 rb'.1) := ((l3.no _).tr lb).tr ((mLe.et _ _ _).no _)
  have eq3 : ra'.2 α = α (s.2.1 + d.2.1) := by
    have := (lb.tr ((mLe.et d.1 rb'.2 _).no _)).al hA
    rw [← e3] at this
    exact mMu_al this
  have tnr : ∀ u, u ∈ List.range' (d.1 + 3) d.2.1 → tN u = s1.2.2.1 u α := fun u hu => by
    rw [hN u (List.mem_cons_of_mem _ (List.mem_append_left _ hu)), lF.2.2 u (fun w => nrab u hu u (List.mem_append_right _ w) rfl), la.2.2 u (fun w => nrab u hu u (List.mem_append_left _ w) rfl)]
  have tnf : tN (d.1 + 2) = s1.2.2.1 (d.1 + 2) α := by
    rw [hN _ (List.mem_cons_self ..), lF.2.2 _ (fun w => n1 (List.mem_append_right _ (List.mem_append_right _ w))), la.2.2 _ (fun w => n1 (List.mem_append_right _ (List.mem_append_left _ w)))]
  have sf : s1.2.2.1 (d.1 + 2) = mFu d.2.1 s.2.1 (mV (s.2.1 + d.2.1)) := by rw [← e1]; exact mUp_at _ _ _
  have pr : ∀ x, x < d.2.1 → tN (d.1 + 3 + x) = α (s.2.1 + x) := fun x hx => by
    rw [tnr _ (by rw [List.mem_range'_1]; omega), l1.2.2 _ (fun w => by have := List.mem_singleton.mp w; omega), ← e0]
    show (mPa d.2.1 (d.1 + 3) s.2.1 s).2.2.1 (d.1 + 3 + x) α = _
    rw [mPa_vi _ _ _ _ _ hx]
    rfl
  have hs1 : mHe α tN env s1 := (hE.le l0 (fun u hu w => hd u hu (List.mem_cons_of_mem _ (List.mem_append_left _ w)))).le l1 (fun u hu w => hd u hu (by rw [List.mem_singleton.mp w]; exact List.mem_cons_self ..))
  have Ga : mG f pp ee tE tN α a (env ++ ([d.1 + 2] ++ List.range' (d.1 + 3) d.2.1)) s1 (d.1 + 1) k := mG.of (F := mEt d.1 rb'.2 rb'.1) (W := tW b) ra hA (by rw [e2]; exact lF) (fun u hu => ⟨fun w => nab u hu u w rfl, hN u (List.mem_cons_of_mem _ (List.mem_append_right _ (List.mem_append_left _ hu)))⟩) (fun u h1 h2 => ⟨hT u (by omega) (by have := rb.le; omega), by
      rw [mEt_ne _ _ (show u ≠ d.1 by omega), ← e4, mE_tab b _ _ k j u rb (Or.inl h2), ← e3, e2]
      rfl⟩) (fun u hu => by
      rcases hu with hu | hu
      · exact hs1 u (Or.inl hu)
      · rcases List.mem_append.mp hu with hu | hu
        · exact hs1 u (Or.inr hu)
        · rcases List.mem_append.mp hu with hu | hu
          · rw [List.mem_singleton.mp hu]; exact tnf
          · exact tnr u hu) (fun u hu w => by
      rcases hu with hu | hu
      · exact hd u (Or.inl hu) (List.mem_cons_of_mem _ (List.mem_append_right _ (List.mem_append_left _ w)))
      · rcases List.mem_append.mp hu with hu | hu
        · exact hd u (Or.inr hu) (List.mem_cons_of_mem _ (List.mem_append_right _ (List.mem_append_left _ w)))
        · rcases List.mem_append.mp hu with hu | hu
          · exact n1 (by rw [← List.mem_singleton.mp hu]; exact List.mem_append_right _ (List.mem_append_left _ w))
          · exact nrab u hu u (List.mem_append_left _ w) rfl) na
  have hs3 : mHe α tN env s3 := (hs1.le la (fun u hu w => hd u hu (List.mem_cons_of_mem _ (List.mem_append_right _ (List.mem_append_left _ w))))).no l3
  have Gb : mG f pp ee tE tN α b (env ++ [d.1 + 2]) s3 k j := mG.of (F := mEt d.1 rb'.2 rb'.1) (W := []) rb hA (by rw [e4]; exact mLe.et _ _ _) (fun u hu => ⟨fun w => (by cases w), hN u (List.mem_cons_of_mem _ (List.mem_append_right _ (List.mem_append_right _ hu)))⟩) (fun u h1 h2 => ⟨hT u (by omega) (by omega), by rw [mEt_ne _ _ (show u ≠ d.1 by omega), e4]⟩) (fun u hu => by
      rcases hu with hu | hu
      · exact hs3 u (Or.inl hu)
      · rcases List.mem_append.mp hu with hu | hu
        · exact hs3 u (Or.inr hu)
        · rw [List.mem_singleton.mp hu, l3.2.2 _ (fun w => by cases w), la.2.2 _ (fun w => n1 (List.mem_append_right _ (List.mem_append_left _ w)))]
          exact tnf) (fun u hu w => by
      rcases hu with hu | hu
      · exact hd u (Or.inl hu) (List.mem_cons_of_mem _ (List.mem_append_right _ (List.mem_append_right _ w)))
      · rcases List.mem_append.mp hu with hu | hu
        · exact hd u (Or.inr hu) (List.mem_cons_of_mem _ (List.mem_append_right _ (List.mem_append_right _ w)))
        · exact n1 (by rw [← List.mem_singleton.mp hu]; exact List.mem_append_right _ (List.mem_append_right _ w))) nb
  exact ⟨⟨_, _, Ga⟩, ⟨_, _, Gb⟩, by rw [tnf, sf], pr⟩
set_option maxHeartbeats 1000000 in
theorem mG.c3 (h : mG f pp ee tE tN α (.inner 3 d z a b) env s i j) : (∃ i j, mG f pp ee tE tN α a (env ++ [d.1 + 1]) (mNt (d.1 + 1) (mV s.2.1) (mFr 1 s)) i j) ∧ tE d.1 = mA (mV s.2.1) (mE f pp ee a (env ++ [d.1 + 1]) (mNt (d.1 + 1) (mV s.2.1) (mFr 1 s))).2 α ∧ tN (d.1 + 1) = α s.2.1 := by
  obtain ⟨hr, hA, hE, hN, hT, hd, hn⟩ := h
  obtain ⟨⟨r1, r2, -⟩, k, ⟨r3, -⟩, ra, rb⟩ := hr
  have ra : tRg a (d.1 + 1) k := ra
  have rb := rb.le
  have hn : ((d.1 + 1) :: tW a).Nodup := hn
  obtain ⟨n1, na⟩ := List.nodup_cons.mp hn
  have hd : ∀ u, u = 0 ∨ u ∈ env → u ∉ (d.1 + 1) :: tW a := hd
  have hN : ∀ u, u ∈ (d.1 + 1) :: tW a → _ := hN
  generalize e1 : mNt (d.1 + 1) (mV s.2.1) (mFr 1 s) = s1 at *
  generalize e2 : mE f pp ee a (env ++ [d.1 + 1]) s1 = ra' at *
  have eM : mE f pp ee (.inner 3 d z a b) env s = (mEt d.1 (mA (mV s.2.1) ra'.2) ra'.1, mA (mV s.2.1) ra'.2) := by
    subst e2 e1
    rfl
  rw [eM] at hA hN hT
  have l1 : mLe [d.1 + 1] s s1 := e1 ▸ ((mLe.fr 1 s).no _).tr (mLe.nt _ _ _)
  have la : mLe (tW a) s1 ra'.1 := e2 ▸ mLe.e a _ _
  have tn : tN (d.1 + 1) = α s.2.1 := by
    rw [hN _ (List.mem_cons_self ..)]
    show ra'.1.2.2.1 (d.1 + 1) α = _
    rw [la.2.2 _ n1, ← e1]
    show mUp _ _ _ _ α = _
    rw [mUp_at]
    rfl
  have Ga : mG f pp ee tE tN α a (env ++ [d.1 + 1]) s1 (d.1 + 1) k := mG.of (F := mEt d.1 (mA (mV s.2.1) ra'.2) ra'.1) (W := []) ra hA (by rw [e2]; exact mLe.et _ _ _) (fun u hu => ⟨fun w => (by cases w), hN u (List.mem_cons_of_mem _ hu)⟩) (fun u h1 h2 => ⟨hT u (by omega) (by omega), by rw [mEt_ne _ _ (show u ≠ d.1 by omega), e2]⟩) (fun u hu => by
      by_cases c : u = d.1 + 1
      · rw [c, tn, ← e1]
        show _ = mUp _ _ _ _ α
        rw [mUp_at]
        rfl
      · have hu : u = 0 ∨ u ∈ env := by
          rcases hu with w | w
          · exact Or.inl w
          · rcases List.mem_append.mp w with w | w
            · exact Or.inr w
            · exact absurd (List.mem_singleton.mp w) c
        rw [l1.2.2 u (fun w => c (List.mem_singleton.mp w))]
        exact hE u hu) (fun u hu w => by
      rcases hu with hu | hu
      · exact hd u (Or.inl hu) (List.mem_cons_of_mem _ w)
      · rcases List.mem_append.mp hu with hu | hu
        · exact hd u (Or.inr hu) (List.mem_cons_of_mem _ w)
        · exact n1 (by rw [← List.mem_singleton.mp hu]; exact w)) na
  exact ⟨⟨_, _, Ga⟩, by rw [hT d.1 r1 r2, mEt_at], tn⟩
set_option maxHeartbeats 1000000 in
theorem mG.c19 (h : mG f pp ee tE tN α (.inner 19 d z a b) env s i j) : (∃ i j, mG f pp ee tE tN α a env (mMu (mNm f pp ee env (d.1 + 1) s) (mB 3) (pp (d.1 + 1)) s) i j) ∧ ∃ i j, mG f pp ee tE tN α b (env ++ [d.2.1, d.2.1 + 1]) (mNt (d.2.1 + 1) (mB 3) (mNt d.2.1 (mB 0) (mE f pp ee a env (mMu (mNm f pp ee env (d.1 + 1) s) (mB 3) (pp (d.1 + 1)) s)).1)) i j := by
  obtain ⟨hr, hA, hE, hN, hT, hd, hn⟩ := h
  obtain ⟨⟨r1, r2, -⟩, k, ⟨r3, -⟩, ra, rb⟩ := hr
  have ra : tRg a (d.1 + 1) k := ra
  have hn : (tW a ++ ([d.2.1, d.2.1 + 1] ++ tW b)).Nodup := hn
  obtain ⟨na, n2, nab⟩ := List.nodup_append.mp hn
  obtain ⟨-, nb, npb⟩ := List.nodup_append.mp n2
  have hd : ∀ u, u = 0 ∨ u ∈ env → u ∉ tW a ++ ([d.2.1, d.2.1 + 1] ++ tW b) := hd
  have hN : ∀ u, u ∈ tW a ++ ([d.2.1, d.2.1 + 1] ++ tW b) → _ := hN
  generalize e0 : mMu (mNm f pp ee env (d.1 + 1) s) (mB 3) (pp (d.1 + 1)) s = s0 at *
  generalize e1 : mE f pp ee a env s0 = ra' at *
  generalize e2 : mNt (d.2.1 + 1) (mB 3) (mNt d.2.1 (mB 0) ra'.1) = s2 at *
  generalize e3 : mE f pp ee b (env ++ [d.2.1, d.2.1 + 1]) s2 = rb' at *
  generalize e4 : mMu rb'.2 ra'.2 (pp (tFw b)) rb'.1 = s4 at *
  have eM : mE f pp ee (.inner 19 d z a b) env s = (mEt d.1 ra'.2 s4, ra'.2) := by
    subst e4 e3 e2 e1 e0
    rfl
  rw [eM] at hA hN hT
  have m0 : d.2.1 ∈ [d.2.1, d.2.1 + 1] := List.mem_cons_self ..
  have m1 : d.2.1 + 1 ∈ [d.2.1, d.2.1 + 1] := List.mem_cons_of_mem _ (List.mem_cons_self ..)
  have l0 : mLe [] s s0 := e0 ▸ mLe.mu _ _ _ _
  have la : mLe (tW a) s0 ra'.1 := e1 ▸ mLe.e a _ _
  have l2 : mLe [d.2.1, d.2.1 + 1] ra'.1 s2 := e2 ▸ ((mLe.nt d.2.1 (mB 0) _).mo (fun u hu => by rw [List.mem_singleton.mp hu]; exact m0)).tr ((mLe.nt (d.2.1 + 1) (mB 3) _).mo (fun u hu => by rw [List.mem_singleton.mp hu]; exact m1))
  have lb : mLe (tW b) s2 rb'.1 := e3 ▸ mLe.e b _ _
  have l4 : mLe [] rb'.1 s4 := e4 ▸ mLe.mu _ _ _ _
  have lF : mLe (tW b) s2 (mEt d.1 ra'.2 s4) := (lb.tr (l4.no _)).tr ((mLe.et _ _ _).no _)
  have lG : mLe ([d.2.1, d.2.1 + 1] ++ tW b) ra'.1 (mEt d.1 ra'.2 s4) := (l2.mo (fun u hu => List.mem_append_left _ hu)).tr (lF.mo (fun u hu => List.mem_append_right _ hu))
  have t0 : s2.2.2.1 d.2.1 = mB 0 := by
    rw [← e2]
    show mUp (mUp _ _ _) _ _ _ = _
    rw [mUp_ne _ _ (by omega), mUp_at]
  have t1 : s2.2.2.1 (d.2.1 + 1) = mB 3 := by rw [← e2]; exact mUp_at _ _ _
  have tn : ∀ u, u ∈ [d.2.1, d.2.1 + 1] → tN u = s2.2.2.1 u α := fun u hu => by
    rw [hN u (List.mem_append_right _ (List.mem_append_left _ hu)), lF.2.2 u (fun w => npb u hu u w rfl)]
  have eq4 : rb'.2 α = ra'.2 α := by
    have := (mLe.et d.1 ra'.2 s4).al hA
    rw [← e4] at this
    exact mMu_al this
  have hs0 := hE.no l0
  have hs2 : mHe α tN env s2 := (hs0.le la (fun u hu w => hd u hu (List.mem_append_left _ w))).le l2 (fun u hu w => hd u hu (List.mem_append_right _ (List.mem_append_left _ w)))
  have Ga : mG f pp ee tE tN α a env s0 (d.1 + 1) k := mG.of (F := mEt d.1 ra'.2 s4) (W := [d.2.1, d.2.1 + 1] ++ tW b) ra hA (by rw [e1]; exact lG) (fun u hu => ⟨fun w => nab u hu u w rfl, hN u (List.mem_append_left _ hu)⟩) (fun u h1 h2 => ⟨hT u (by omega) (by have := rb.le; omega), by
      rw [mEt_ne _ _ (show u ≠ d.1 by omega), ← e4]
      show rb'.1.2.2.2.1 u = _
      rw [← e3, mE_tab b _ _ k j u rb (Or.inl h2), ← e2, e1]
      rfl⟩) hs0 (fun u hu w => hd u hu (List.mem_append_left _ w)) na
  have Gb : mG f pp ee tE tN α b (env ++ [d.2.1, d.2.1 + 1]) s2 k j := mG.of (F := mEt d.1 ra'.2 s4) (W := []) rb hA (by rw [e3]; exact l4.tr (mLe.et _ _ _)) (fun u hu => ⟨fun w => (by cases w), hN u (List.mem_append_right _ (List.mem_append_right _ hu))⟩) (fun u h1 h2 => ⟨hT u (by omega) (by omega), by rw [mEt_ne _ _ (show u ≠ d.1 by omega), ← e4, e3]; rfl⟩) (fun u hu => by
      rcases hu with hu | hu
      · exact hs2 u (Or.inl hu)
      · rcases List.mem_append.mp hu with hu | hu
        · exact hs2 u (Or.inr hu)
        · exact tn u hu) (fun u hu w => by
      rcases hu with hu | hu
      · exact hd u (Or.inl hu) (List.mem_append_right _ (List.mem_append_right _ w))
      · rcases List.mem_append.mp hu with hu | hu
        · exact hd u (Or.inr hu) (List.mem_append_right _ (List.mem_append_right _ w))
        · exact npb u hu u w rfl) nb
  exact ⟨⟨_, _, Ga⟩, _, _, Gb⟩
set_option maxHeartbeats 1000000 in
theorem mG.c31 (h : mG f pp ee tE tN α (.inner 31 d z a b) env s i j) : (∃ i j, mG f pp ee tE tN α a env s i j) ∧ ∃ i j, mG f pp ee tE tN α b env (mE f pp ee a env s).1 i j := by
  obtain ⟨hr, hA, hE, hN, hT, hd, hn⟩ := h
  obtain ⟨k, ra, rb⟩ : ∃ k, tRg a i k ∧ tRg b k j := hr
  have ila := ra.le
  have ilb := rb.le
  have hn : (tW a ++ tW b).Nodup := hn
  obtain ⟨na, nb, nab⟩ := List.nodup_append.mp hn
  have hd : ∀ u, u = 0 ∨ u ∈ env → u ∉ tW a ++ tW b := hd
  have hN : ∀ u, u ∈ tW a ++ tW b → _ := hN
  generalize e1 : mE f pp ee a env s = ra' at *
  generalize e3 : mE f pp ee b env ra'.1 = rb' at *
  generalize e4 : mMu rb'.2 ra'.2 (pp (tFw b)) rb'.1 = s4 at *
  have eM : mE f pp ee (.inner 31 d z a b) env s = (s4, ra'.2) := by
    subst e4 e3 e1
    rfl
  rw [eM] at hA hN hT
  have la : mLe (tW a) s ra'.1 := e1 ▸ mLe.e a _ _
  have lb : mLe (tW b) ra'.1 rb'.1 := e3 ▸ mLe.e b _ _
  have l4 : mLe [] rb'.1 s4 := e4 ▸ mLe.mu _ _ _ _
  have eq4 : rb'.2 α = ra'.2 α := by
    rw [← e4] at hA
    exact mMu_al hA
  have Ga : mG f pp ee tE tN α a env s i k := mG.of (F := s4) (W := tW b) ra hA (by rw [e1]; exact lb.tr (l4.no _)) (fun u hu => ⟨fun w => nab u hu u w rfl, hN u (List.mem_append_left _ hu)⟩) (fun u h1 h2 => ⟨hT u (by omega) (by omega), by
      rw [← e4]
      show rb'.1.2.2.2.1 u = _
      rw [← e3, mE_tab b _ _ k j u rb (Or.inl h2), e1]⟩) hE (fun u hu w => hd u hu (List.mem_append_left _ w)) na
  have Gb : mG f pp ee tE tN α b env ra'.1 k j := mG.of (F := s4) (W := []) rb hA (by rw [e3]; exact l4) (fun u hu => ⟨fun w => (by cases w), hN u (List.mem_append_right _ hu)⟩) (fun u h1 h2 => ⟨hT u (by omega) (by omega), by rw [← e4, e3]; rfl⟩) (hE.le la (fun u hu w => hd u hu (List.mem_append_left _ w))) (fun u hu w => hd u hu (List.mem_append_right _ w)) nb
  exact ⟨⟨_, _, Ga⟩, _, _, Gb⟩
theorem mG.c4 {g : Nat} (hg : g = 4 ∨ g = 5) (h : mG f pp ee tE tN α (.inner g d z a b) env s i j) : ∃ i j, mG f pp ee tE tN α b env (mCt f pp ee env a s) i j := by
  obtain ⟨hr, hA, hE, hN, hT, hd, hn⟩ := h
  have eM : mE f pp ee (.inner g d z a b) env s = (mEt d.1 (mE f pp ee b env (mCt f pp ee env a s)).2 (mE f pp ee b env (mCt f pp ee env a s)).1, (mE f pp ee b env (mCt f pp ee env a s)).2) := by rcases hg with rfl | rfl <;> rfl
  have eW : tW (.inner g d z a b) = tW b := by rcases hg with rfl | rfl <;> rfl
  rw [eM] at hA hN hT
  rw [eW] at hN hd hn
  obtain ⟨⟨r1, r2⟩, k, r3, rb⟩ : (i ≤ d.1 ∧ d.1 < j) ∧ ∃ k, d.1 + 1 ≤ k ∧ tRg b k j := by
    rcases hg with rfl | rfl
    all_goals (obtain ⟨⟨r1, r2, -⟩, k, ⟨r3, -⟩, -, rb⟩ := hr; exact ⟨⟨r1, r2⟩, k, r3, rb⟩)
  have l := mLe.ct (f := f) (pp := pp) (ee := ee) env a s
  exact ⟨_, _, mG.sub (i := i) (j := j) (X := (mE f pp ee b env (mCt f pp ee env a s)).2) (d1 := d.1) rb (by omega) (Nat.le_refl _) (by omega) l hA hE hN hT hd hn⟩
theorem mG.c6 (h : mG f pp ee tE tN α (.inner 6 d z a b) env s i j) : ∃ i j, mG f pp ee tE tN α a env (mPs f pp ee env d.2.2.2.2.2 (mPs f pp ee env d.2.2.2.1.2 (mMu (mNm f pp ee env (d.1 + 1) s) (mB 2) (pp (d.1 + 1)) s))) i j := by
  obtain ⟨hr, hA, hE, hN, hT, hd, hn⟩ := h
  obtain ⟨⟨r1, r2, -⟩, k, ⟨r3, -⟩, ra, rb⟩ := hr
  have rb := rb.le
  have hA : mAll (mEt d.1 _ (mE f pp ee a env (mPs f pp ee env d.2.2.2.2.2 (mPs f pp ee env d.2.2.2.1.2 (mMu (mNm f pp ee env (d.1 + 1) s) (mB 2) (pp (d.1 + 1)) s)))).1).1 α := hA
  have l1 := mLe.mu (mNm f pp ee env (d.1 + 1) s) (mB 2) (pp (d.1 + 1)) s
  have l2 := mLe.ps (f := f) (pp := pp) (ee := ee) env d.2.2.2.1.2 (mMu (mNm f pp ee env (d.1 + 1) s) (mB 2) (pp (d.1 + 1)) s)
  have l3 := mLe.ps (f := f) (pp := pp) (ee := ee) env d.2.2.2.2.2 (mPs f pp ee env d.2.2.2.1.2 (mMu (mNm f pp ee env (d.1 + 1) s) (mB 2) (pp (d.1 + 1)) s))
  exact ⟨_, _, mG.sub (i := i) (j := j) (d1 := d.1) (show tRg a (d.1 + 1) k from ra) (by omega) rb (by omega) ((l1.tr l2).tr l3) hA hE hN hT hd hn⟩
theorem mG.c16 (hb : b = .leaf) (h : mG f pp ee tE tN α (.inner 16 d z a b) env s i j) : ∃ i j, mG f pp ee tE tN α a env s i j := by
  subst hb
  obtain ⟨hr, hA, hE, hN, hT, hd, hn⟩ := h
  obtain ⟨⟨r1, r2, -⟩, k, ⟨r3, -⟩, ra, rb⟩ := hr
  have rb := rb.le
  have eW : tW (.inner 16 d z a .leaf) = tW a := List.append_nil _
  rw [eW] at hN hd hn
  exact ⟨_, _, mG.sub (i := i) (j := j) (d1 := d.1) (show tRg a (d.1 + 1) k from ra) (by omega) rb (by omega) (mLe.rf _ _) hA hE hN hT hd hn⟩
theorem mG.c15 (h : mG f pp ee tE tN α (.inner 15 d z a b) env s i j) : ∃ i j, mG f pp ee tE tN α a env (mCu (mNm f pp ee env d.1 s) (mOp (pp d.1) (tQn a) (mNm f pp ee env d.1 s) s)) i j := by
  obtain ⟨hr, hA, hE, hN, hT, hd, hn⟩ := h
  obtain ⟨⟨r1, r2, -⟩, k, ⟨r3, -⟩, ra, rb⟩ := hr
  have rb := rb.le
  have lo := mLe.op (pp d.1) (tQn a) (mNm f pp ee env d.1 s) s
  have lc := mLe.cu (mNm f pp ee env d.1 s) (mOp (pp d.1) (tQn a) (mNm f pp ee env d.1 s) s)
  have hA : mAll (mEt d.1 _ (mE f pp ee a env (mCu (mNm f pp ee env d.1 s) (mOp (pp d.1) (tQn a) (mNm f pp ee env d.1 s) s))).1).1 α := hA
  exact ⟨_, _, mG.sub (i := i) (j := j) (d1 := d.1) (show tRg a (d.1 + 1) k from ra) (by omega) rb (by omega) (lo.tr lc) hA hE hN hT hd hn⟩
theorem mG.ca {W : List Nat} {R : mS × mF} {w k : Nat} (hr : tRg b k j) (l : mLe W s R.1) (hA : mAll (mE f pp ee b env (mCu (fun α => yR (s.2.2.2.2 α)) (mMu R.2 (fun α => yL (s.2.2.2.2 α)) (pp w) R.1))).1.1 α) (hE : mHe α tN env s) (hN : ∀ u, u ∈ tW b → tN u = (mE f pp ee b env (mCu (fun α => yR (s.2.2.2.2 α)) (mMu R.2 (fun α => yL (s.2.2.2.2 α)) (pp w) R.1))).1.2.2.1 u α) (hT : ∀ u, k ≤ u → u < j → tE u = (mE f pp ee b env (mCu (fun α => yR (s.2.2.2.2 α)) (mMu R.2 (fun α => yL (s.2.2.2.2 α)) (pp w) R.1))).1.2.2.2.1 u α) (hd : ∀ u, u = 0 ∨ u ∈ env → u ∉ W ∧ u ∉ tW b) (hn : (tW b).Nodup) : mG f pp ee tE tN α b env (mCu (fun α => yR (s.2.2.2.2 α)) (mMu R.2 (fun α => yL (s.2.2.2.2 α)) (pp w) R.1)) k j := by
  have lm := mLe.mu R.2 (fun α => yL (s.2.2.2.2 α)) (pp w) R.1
  have lc := mLe.cu (fun α => yR (s.2.2.2.2 α)) (mMu R.2 (fun α => yL (s.2.2.2.2 α)) (pp w) R.1)
  exact ⟨hr, hA, ((hE.le l (fun u hu => (hd u hu).1)).no lm).no lc, hN, hT, fun u hu => (hd u hu).2, hn⟩
theorem mG.c33 (ha : a = .leaf) (h : mG f pp ee tE tN α (.inner 33 d z a b) env s i j) : ∃ i j, mG f pp ee tE tN α b env (mCu (fun α => yR (s.2.2.2.2 α)) (mMu (if d.2.1 = 1 then (mPs f pp ee env d.2.2.2.1.2 s, mB 0) else mSu f pp ee env d.2.2.2.1.2 s : mS × mF).2 (fun α => yL (s.2.2.2.2 α)) (pp d.1) (if d.2.1 = 1 then (mPs f pp ee env d.2.2.2.1.2 s, mB 0) else mSu f pp ee env d.2.2.2.1.2 s : mS × mF).1)) i j := by
  subst ha
  obtain ⟨hr, hA, hE, hN, hT, hd, hn⟩ := h
  obtain ⟨⟨r1, r2, -⟩, k, ⟨r3, -⟩, -, rb⟩ := hr
  have hn : (tW b).Nodup := hn
  have hd : ∀ u, u = 0 ∨ u ∈ env → u ∉ tW b := hd
  have l : mLe [] s (if d.2.1 = 1 then (mPs f pp ee env d.2.2.2.1.2 s, mB 0) else mSu f pp ee env d.2.2.2.1.2 s : mS × mF).1 := by
    split
    · exact mLe.ps _ _ _
    · exact mLe.su _ _ _
  exact ⟨_, _, mG.ca rb l hA hE hN (fun u h1 h2 => hT u (by omega) h2) (fun u hu => ⟨fun w => (by cases w), hd u hu⟩) hn⟩
theorem mG.c34 (h : mG f pp ee tE tN α (.inner 34 d z a b) env s i j) : (∃ i j, mG f pp ee tE tN α a env s i j) ∧ ∃ i j, mG f pp ee tE tN α b env (mCu (fun α => yR (s.2.2.2.2 α)) (mMu (mE f pp ee a env s).2 (fun α => yL (s.2.2.2.2 α)) (pp d.1) (mE f pp ee a env s).1)) i j := by
  obtain ⟨hr, hA, hE, hN, hT, hd, hn⟩ := h
  obtain ⟨⟨r1, r2, -⟩, k, ⟨r3, -⟩, ra, rb⟩ := hr
  have ra : tRg a (d.1 + 1) k := ra
  have rbl := rb.le
  have hn : (tW a ++ tW b).Nodup := hn
  obtain ⟨na, nb, nab⟩ := List.nodup_append.mp hn
  have hd : ∀ u, u = 0 ∨ u ∈ env → u ∉ tW a ++ tW b := hd
  have hN : ∀ u, u ∈ tW a ++ tW b → _ := hN
  have la := mLe.e (f := f) (pp := pp) (ee := ee) a env s
  have lm := mLe.mu (mE f pp ee a env s).2 (fun α => yL (s.2.2.2.2 α)) (pp d.1) (mE f pp ee a env s).1
  have lc := mLe.cu (fun α => yR (s.2.2.2.2 α)) (mMu (mE f pp ee a env s).2 (fun α => yL (s.2.2.2.2 α)) (pp d.1) (mE f pp ee a env s).1)
  refine ⟨⟨_, _, mG.of (f := f) (pp := pp) (ee := ee) (tE := tE) (tN := tN) (α := α) (t := a) (env := env) (s := s) (F := (mE f pp ee (.inner 34 d z a b) env s).1) (W := tW b) ra hA (((lm.tr lc).no _).tr (mLe.e b env _)) (fun u hu => ⟨fun w => nab u hu u w rfl, hN u (List.mem_append_left _ hu)⟩) (fun u h1 h2 => ⟨hT u (by omega) (by omega), (mE_tab b _ _ k j u rb (Or.inl h2)).trans rfl⟩) hE (fun u hu w => hd u hu (List.mem_append_left _ w)) na⟩, _, _, mG.ca rb la hA hE (fun u hu => hN u (List.mem_append_right _ hu)) (fun u h1 h2 => hT u (by omega) h2) (fun u hu => ⟨fun w => hd u hu (List.mem_append_left _ w), fun w => hd u hu (List.mem_append_right _ w)⟩) nb⟩
theorem mG.c35 (ha : a = .leaf) (h : mG f pp ee tE tN α (.inner 35 d z a b) env s i j) : ∃ i j, mG f pp ee tE tN α b env (mCu (fun α => yR (s.2.2.2.2 α)) (mMu (mB 1) (fun α => yL (s.2.2.2.2 α)) (pp d.1) s)) i j := by
  subst ha
  obtain ⟨hr, hA, hE, hN, hT, hd, hn⟩ := h
  obtain ⟨⟨r1, r2, -⟩, k, ⟨r3, -⟩, -, rb⟩ := hr
  have hn : (tW b).Nodup := hn
  have hd : ∀ u, u = 0 ∨ u ∈ env → u ∉ tW b := hd
  exact ⟨_, _, mG.ca (R := (s, mB 1)) (W := []) rb (mLe.rf _ _) hA hE hN (fun u h1 h2 => hT u (by omega) h2) (fun u hu => ⟨fun w => (by cases w), hd u hu⟩) hn⟩
end MGC
