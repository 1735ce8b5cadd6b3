/-! the class's infer: if, match -/
section CIV
variable {κ : oKv} {Tt T0 mo y cnt : Nat} {A B : Nat → Nat} {D : cDt} {V σ σ1 : oSt} {nm : Nat → Option Nat} {env U W : List Nat} {kk f pp ee : Nat → Int32} {s s1 : mS} {g g1 : gG} {T T1 : Nat → mF} {n m lo fk i j : Nat}
variable {d : Nat × Nat × Nat × tS × tS} {z : Unit} {a b : tT}
/-- the place of an E's node -/
theorem cTr_pl : ∀ {t : tT} {m : Nat}, tWf kk cnt t 0 → tRg t i j → cTr κ T0 kk pp ee f B D lo V nm t env fk (fun _ => none) 0 m → ∃ fs, V.1 m = some (.inr (7, fs)) ∧ fs[1]? = some (.int (pp (tFw t))) ∧ 8 < fs.length
  | .leaf, _, h, _, _ => by cases h
  | .inner tg d z a b, m, h, hr, hc => by
    rcases h with ⟨c, _⟩ | ⟨c, _⟩ | ⟨-, h⟩
    · cases c
    · cases c
    · rcases h with ⟨rfl, -, -, -⟩ | ⟨rfl, -, -, -⟩ | ⟨rfl, -, -⟩ | ⟨rfl, -, -⟩ | ⟨rfl, -, -⟩ | ⟨rfl, -, -, -⟩ | ⟨hg, -, -, -, -⟩ | ⟨hg, -, -, -⟩ | ⟨hg, -, -, -⟩ | ⟨rfl, -, -⟩ | ⟨rfl, -, -⟩ | ⟨rfl, -, -, -⟩ | ⟨rfl, -, -⟩ | ⟨rfl, -, -, -⟩
      · obtain ⟨-, x, x2, w, c1, -⟩ := hc; exact ⟨_, c1, rfl, by show 8 < 21; omega⟩
      · obtain ⟨-, x, x2, w, q, c1, -⟩ := hc; exact ⟨_, c1, rfl, by show 8 < 21; omega⟩
      · obtain ⟨-, x, q, mk, c1, -⟩ := hc; exact ⟨_, c1, rfl, by show 8 < 21; omega⟩
      · obtain ⟨-, c, x, y2, c1, -⟩ := hc; exact ⟨_, c1, rfl, by show 8 < 21; omega⟩
      · obtain ⟨-, c, x, c1, -⟩ := hc; exact ⟨_, c1, rfl, by show 8 < 21; omega⟩
      · obtain ⟨-, x, l, r, nd, su, su', c1, -⟩ := hc; exact ⟨_, c1, rfl, by show 8 < 21; omega⟩
      · rcases hg with rfl | rfl
        · obtain ⟨-, l, c, su, c1, -⟩ := hc; exact ⟨_, c1, rfl, by show 8 < 21; omega⟩
        · obtain ⟨su, pa, na, ta, cap, pc, c1, -⟩ := hc
          obtain ⟨⟨-, -, r1, -⟩, -⟩ := hr
          refine ⟨_, c1, ?_, by show 8 < 21; omega⟩
          show some (Value.int (pp d.2.2.2.1.1)) = some (.int (pp d.1))
          rw [r1 rfl]
      · rcases hg with rfl | rfl | rfl
        · exact ⟨_, hc.2, rfl, by show 8 < 21; omega⟩
        · exact ⟨_, hc.2, rfl, by show 8 < 21; omega⟩
        · exact ⟨_, hc.2, rfl, by show 8 < 21; omega⟩
      · rcases hg with rfl | rfl | rfl
        · obtain ⟨-, l, r, su, su', c1, -⟩ := hc; exact ⟨_, c1, rfl, by show 8 < 21; omega⟩
        · obtain ⟨-, l, r, c, su, su', c1, -⟩ := hc; exact ⟨_, c1, rfl, by show 8 < 21; omega⟩
        · obtain ⟨-, l, r, c, su, su', c1, -⟩ := hc; exact ⟨_, c1, rfl, by show 8 < 21; omega⟩
      · obtain ⟨-, l, nd, su, c1, -⟩ := hc; exact ⟨_, c1, rfl, by show 8 < 21; omega⟩
      · obtain ⟨-, pa, q, g', c1, -⟩ := hc; exact ⟨_, c1, rfl, by show 8 < 21; omega⟩
      · obtain ⟨-, x, c1, -⟩ := hc; exact ⟨_, c1, rfl, by show 8 < 21; omega⟩
      · obtain ⟨-, l, su, c1, -⟩ := hc; exact ⟨_, c1, rfl, by show 8 < 21; omega⟩
      · obtain ⟨-, x, x2, c, q, su, na, ta, c1, -⟩ := hc; exact ⟨_, c1, rfl, by show 8 < 21; omega⟩
/-- if C then E else E -/
theorem in_4 (hH : wH κ Tt mo y cnt A V nm pp U) {d' : Nat × Nat × Nat × tS × tS} {z' : Unit} {a' b' : tT} (Ia : cInf κ Tt T0 mo y cnt A B D V nm kk f pp ee U a') (Ib : cInf κ Tt T0 mo y cnt A B D V nm kk f pp ee U b') (hc : cTr κ T0 kk pp ee f B D lo V nm (.inner 4 d z a (.inner 31 d' z' a' b')) env fk (fun _ => none) 0 m) (hr : tRg (.inner 4 d z a (.inner 31 d' z' a' b')) i j) (hj : j ≤ cnt) (hd : ∀ u, u ∈ env → u ∉ tEv (.inner 4 d z a (.inner 31 d' z' a' b'))) (hnd : (tEv (.inner 4 d z a (.inner 31 d' z' a' b'))).Nodup) (hln : (tEv (.inner 4 d z a (.inner 31 d' z' a' b'))).length ≤ 2000) (hw : tWr (cFd f pp ee) (.inner 4 d z a (.inner 31 d' z' a' b')) env = []) (wc : cWf cnt a false) (e1 : d'.2.2.2.1.2 = []) (e2 : d'.2.2.2.2.2 = []) (wa : tWf kk cnt a' 0) (wb : tWf kk cnt b' 0) (hk : tKb 2000 (.inner 4 d z a (.inner 31 d' z' a' b'))) (hsn : tSn kk (.inner 4 d z a (.inner 31 d' z' a' b'))) (hE : ∀ u, u ∈ env → u ∈ U) (hWU : ∀ u, u ∈ tW (.inner 4 d z a (.inner 31 d' z' a' b')) → u ∈ U) (h : cXE V y A mo nm env σ s g T) (hs : mSat s.1) (hM : g.n + tM (.inner 4 d z a (.inner 31 d' z' a' b')) ≤ mo) (hn : tDc (.inner 4 d z a (.inner 31 d' z' a' b')) + 6 ≤ n) : cIo κ Tt mo y A V nm pp env σ g T n m (mE f pp ee (.inner 4 d z a (.inner 31 d' z' a' b')) env s) (tW (.inner 4 d z a (.inner 31 d' z' a' b'))) (tM (.inner 4 d z a (.inner 31 d' z' a' b'))) i j (fun X => cTX κ T0 kk pp ee f B D X lo V nm (.inner 4 d z a (.inner 31 d' z' a' b')) env fk (fun _ => none) 0 m) := by
  have ev : tEv (.inner 4 d z a (.inner 31 d' z' a' b')) = cEv a ++ (tEv a' ++ tEv b') := by
    show cEv a ++ (sEv d'.2.2.2.1.2 ++ (sEv d'.2.2.2.2.2 ++ (tEv a' ++ tEv b'))) = _
    rw [e1, e2]; rfl
  have hWU : ∀ u, u ∈ tW a' ++ tW b' → u ∈ U := hWU
  rw [ev] at hd hnd hln
  simp only [List.length_append] at hln
  have hw : plW (cFd f pp ee) env (cEv a) ++ (plW (cFd f pp ee) env (sEv d'.2.2.2.1.2) ++ (plW (cFd f pp ee) env (sEv d'.2.2.2.2.2) ++ (tWr (cFd f pp ee) a' env ++ tWr (cFd f pp ee) b' env))) = [] := hw
  obtain ⟨u1, hw⟩ := List.append_eq_nil_iff.mp hw
  obtain ⟨-, hw⟩ := List.append_eq_nil_iff.mp hw
  obtain ⟨-, hw⟩ := List.append_eq_nil_iff.mp hw
  obtain ⟨u2, u3⟩ := List.append_eq_nil_iff.mp hw
  obtain ⟨-, hnd2, -⟩ := List.nodup_append.mp hnd
  obtain ⟨na, nb, nab⟩ := List.nodup_append.mp hnd2
  obtain ⟨ck, c, x, x2, c1, c2, ⟨x', ex, c4, c5⟩⟩ := hc
  injection ex with ex
  subst ex
  obtain ⟨⟨r1, r2, -⟩, k, ⟨r3, -⟩, -, ⟨k2, r4, r5⟩⟩ := hr
  have r4' := tRg.le _ _ _ r4
  have r5' := tRg.le _ _ _ r5
  have hM : g.n + (0 + 0 + (0 + tM a' + tM b')) ≤ mo := hM
  have hn : max (cDp a) (max (tDc a') (tDc b')) + 2 + 6 ≤ n := hn
  obtain ⟨n, rfl⟩ : ∃ n', n = n' + 4 := ⟨n - 4, by omega⟩
  have aU : ∀ u, u ∈ tW a' → u ∈ U := fun u hu => hWU u (List.mem_append_left _ hu)
  have bU : ∀ u, u ∈ tW b' → u ∈ U := fun u hu => hWU u (List.mem_append_right _ hu)
  obtain ⟨σ1, g1, t1, t2, t3, t4⟩ := (c_tst (κ := κ) (T := T) (cnt := cnt) hH.1.1 hH.1.2.1 hH.1.2.2.1 hH.1.2.2.2.1 hH.1.2.2.2.2 a).1 c wc hk.1 (by omega) u1 c2 σ s g (n + 3) (by omega) h
  obtain ⟨σ2, v2, g2, T2, i1, i2, i3, i4, i5, i6, i7, i8⟩ := Ia env σ1 _ g1 T x fk lo k k2 (n + 3) c4 r4 (by omega) (fun u hu q => hd u hu (List.mem_append_right _ (List.mem_append_left _ q))) na (by omega) u2 wa hk.2.1 hsn.2.2.2.1 hE aU t2 (by omega) (by omega)
  obtain ⟨σ3, p1, -, p3, p4, p5, p6⟩ := c_end2 (call := oF κ Tt (n + 3)) hH i2 c1 (by show 8 < 21; omega) (w := d.1) rfl ⟨r1, r2⟩ v2 (mB 0) []
  have p3' : cXE V y A mo nm env σ3 (mE f pp ee a' env (mCt f pp ee env a s)).1 g2 T2 := p3.cg rfl (Nat.le_refl _) rfl
  obtain ⟨σ4, v4, g4, T4, j1, j2, j3, j4, j5, j6, j7, j8⟩ := Ib env σ3 _ g2 T2 x2 (fk + nF a') lo k2 j (n + 3) c5 r5 hj (fun u hu q => hd u hu (List.mem_append_right _ (List.mem_append_right _ q))) nb (by omega) u3 wb hk.2.2 hsn.2.2.2.2 hE bU p3' (by omega) (by omega)
  obtain ⟨fs2, y1, y2, -⟩ := cTr_pl wb r5 c5
  have f8 : ofd σ4 (some m) 7 8 = some (.int v2) := (ofd_cg (j7.nd hH c1 rfl (by omega) hj (Or.inl (by omega)))).trans p4
  obtain ⟨σ5, g5, m1, m2, m3, m4⟩ := j2.must (κ := κ) (n := n) (v1 := v4) (v2 := v2) (t2 := (mE f pp ee a' env (mCt f pp ee env a s)).2) hH.1.1 hH.1.2.1 hH.1.2.2.1 (hH.1.2.2.2.2 (tFw b')) j5 (fun z => by
    obtain ⟨c, q1, q2⟩ := i5 ((mLe.e b' env _).sat z)
    exact ⟨c, q1, q2.up j3 (mLe.e b' env _)⟩)
  have f8' : ofd σ5 (some m) 7 8 = some (.int v2) := (ofd_cg (m3.lo hH.1.2.1 hH.1.2.2.1 (h.1.1.lt c1))).trans f8
  refine ⟨σ5, v2, g5, T4, ?_, m2.cg rfl (Nat.le_refl _) rfl, ((xE.tr ⟨by omega, fun _ _ => rfl⟩ i3).tr j3).tr ⟨by omega, fun _ _ => rfl⟩, by show _ ≤ g.n + (0 + 0 + (0 + tM a' + tM b')); omega, fun z => ?_, fun u hu => ?_, ?_, ?_⟩
  · have f0 : ofd σ (some m) 7 0 = some (.int 207) := (h.1.1.nd c1 (by decide)).trans rfl
    have f14 : ofd σ (some m) 7 14 = some (.ref c) := (h.1.1.nd c1 (by decide)).trans rfl
    have f12 : ofd σ1 (some m) 7 12 = some (.ref x) := (t2.1.1.nd c1 (by decide)).trans rfl
    have f13 : ofd σ3 (some m) 7 13 = some (.ref x2) := (p3.1.1.nd c1 (by decide)).trans rfl
    have f13' : ofd σ4 (some m) 7 13 = some (.ref x2) := (j2.1.1.nd c1 (by decide)).trans rfl
    have f1 : ofd σ4 (some x2) 7 1 = some (.int (pp (tFw b'))) := (j2.1.1.nd y1 (by decide)).trans y2
    rw [show n + 4 = (n + 3) + 1 from rfl, oE_X10_infer]
    unfold ob_X10_infer
    rw [h.ft hs, obn_at, if_pos (show (-1 : Int32) < 0 by decide), f0, ovi_in, obn_at, if_neg (by decide), if_neg (by decide), if_neg (by decide), if_pos rfl, f14, ovr_rf, obn_at, h.yo, obn_at, t1, ocv_at, f12, ovr_rf, obn_at, t2.yo, obn_at, i1, oin_at, p1, obn_at, f13, ovr_rf, obn_at, p3.yo, obn_at, j1, oin_at, f8, ovi_in, obn_at, f13', ovr_rf, obn_at, f1, ovi_in, obn_at, j2.yo, obn_at, m1, ocv_at]
    unfold oj_X10_infer_351
    rw [f8', ovi_in, obn_at]
  · obtain ⟨c, q1, q2⟩ := i5 ((mLe.e b' env _).sat ((mLe.mu _ _ _ _).sat z))
    exact ⟨c, q1, ((q2.up j3 (mLe.e b' env _)).up (xE.rf _ _) (mLe.mu _ _ _ _)).up ⟨by omega, fun _ _ => rfl⟩ (mLe.et _ _ _)⟩
  · have nY5 : nY V nm σ4 g4 T4 (mE f pp ee b' env (mE f pp ee a' env (mCt f pp ee env a s)).1).1 u := by
      rcases List.mem_append.mp hu with z | z
      · have nb' : u ∉ tW b' := fun q => nab u (tW_ev a' u z) u (tW_ev b' u q) rfl
        have z2 := p5.nY hH (aU u z) (fun w hw => by cases hw) (fun q => by cases q) (i6 u z) (xE.rf _ _) (mLe.rf [] _) (fun q => by cases q)
        exact j7.nY hH (aU u z) bU nb' z2 j3 (mLe.e b' _ _) nb'
      · exact j6 u z
    exact (nY5.yF hH.1.2.1 hH.1.2.2.1 j2.1.1 m3 ⟨by omega, fun _ _ => rfl⟩ (mLe.mu _ _ _ _)).up (fun _ _ => rfl) (xE.rf _ _) (mLe.et _ _ _) (fun q => by cases q)
  · exact ((((wF.yF hH.1.2.1 hH.1.2.2.1 h.1.1 t3 i j _).tr (i7.wd (by omega) (by omega) (fun u hu => List.mem_append_left _ hu))).tr (p5.wd (Nat.le_refl _) (Nat.le_refl _) (fun u hu => by cases hu))).tr (j7.wd (by omega) (Nat.le_refl _) (fun u hu => List.mem_append_right _ hu))).tr (wF.yF hH.1.2.1 hH.1.2.2.1 j2.1.1 m3 i j _)
  · have ty : mSat (mMu (mE f pp ee b' env (mE f pp ee a' env (mCt f pp ee env a s)).1).2 (mE f pp ee a' env (mCt f pp ee env a s)).2 (pp (tFw b')) (mE f pp ee b' env (mE f pp ee a' env (mCt f pp ee env a s)).1).1).1 → ∃ c, v2 = nI c ∧ gY g5 T4 (mMu (mE f pp ee b' env (mE f pp ee a' env (mCt f pp ee env a s)).1).2 (mE f pp ee a' env (mCt f pp ee env a s)).2 (pp (tFw b')) (mE f pp ee b' env (mE f pp ee a' env (mCt f pp ee env a s)).1).1) c (mE f pp ee a' env (mCt f pp ee env a s)).2 := fun z => by
      obtain ⟨c, q1, q2⟩ := i5 ((mLe.e b' env _).sat ((mLe.mu _ _ _ _).sat z))
      exact ⟨c, q1, ((q2.up j3 (mLe.e b' env _)).up (xE.rf _ _) (mLe.mu _ _ _ _)).up ⟨by omega, fun _ _ => rfl⟩ (mLe.rf [] _)⟩
    refine ⟨fun z => ?_, ck, c, x, x2, c1, c2, x, rfl, cTX.imp a' lo _ _ env fk _ 0 x r4 (fun m' u fs q1 q2 q3 q4 q5 => ?_) i8, cTX.imp b' lo _ _ env (fk + nF a') _ 0 x2 r5 (fun m' u fs q1 q2 q3 q4 q5 => ?_) j8⟩
    · obtain ⟨c, q1, q2⟩ := ty z
      refine ⟨c, by rw [f8', q1], ?_⟩
      show gY g5 T4 _ c (mUp _ d.1 (mE f pp ee a' env (mCt f pp ee env a s)).2 d.1)
      rw [mUp_at]
      exact q2.up (xE.rf _ _) (mLe.et _ _ _)
    · have ne : m' ≠ m := fun q => by
        subst q
        rw [c1] at q3; injection q3 with q3; injection q3 with q3; injection q3 with _ q3; subst q3
        injection q4 with q4; injection q4 with q4
        have := hH.2.1 d.1 u (by omega) (by omega) q4
        omega
      have e3 : σ3.1 m' = σ2.1 m' := p6 m' ne
      have e4 : σ4.1 m' = σ3.1 m' := j7.nd hH q3 q4 (by omega) hj (Or.inl (by omega))
      have e5 : σ5.1 m' = σ4.1 m' := m3.lo hH.1.2.1 hH.1.2.2.1 (h.1.1.lt q3)
      refine q5.up (e5.trans (e4.trans e3)) (j3.tr ⟨by omega, fun _ _ => rfl⟩) ((mLe.e b' env _).tr (((mLe.mu _ _ _ _).tr (mLe.et _ _ _)).no _)) ?_
      show mUp _ d.1 _ u = _
      rw [mUp_ne _ _ (by omega)]
      exact mE_tab b' _ _ _ _ u r5 (Or.inl (by omega))
    · have e5 : σ5.1 m' = σ4.1 m' := m3.lo hH.1.2.1 hH.1.2.2.1 (h.1.1.lt q3)
      refine q5.up e5 ⟨by omega, fun _ _ => rfl⟩ ((mLe.mu _ _ _ _).tr (mLe.et _ _ _)) ?_
      show mUp _ d.1 _ u = _
      rw [mUp_ne _ _ (by omega)]
      rfl
end CIV
