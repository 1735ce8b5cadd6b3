/-! the class's infer: match -/
section CIW
variable {κ : oKv} {Tt T0 mo y cnt : Nat} {A B : Nat → Nat} {D : cDt} {V σ σ1 : oSt} {nm : Nat → Option Nat} {env U W : List Nat} {kk f pp ee : Nat → Int32} {s s1 : mS} {g g1 : gG} {T T1 : Nat → mF} {n m lo fk i j : Nat}
variable {d : Nat × Nat × Nat × tS × tS} {z : Unit} {a b : tT}
set_option maxHeartbeats 1000000 in
/-- match NAME with nil -> E; NAME NAME -> E -/
theorem in_19 (hH : wH κ Tt mo y cnt A V nm pp U) (Ia : cInf κ Tt T0 mo y cnt A B D V nm kk f pp ee U a) (Ib : cInf κ Tt T0 mo y cnt A B D V nm kk f pp ee U b) (hc : cTr κ T0 kk pp ee f B D lo V nm (.inner 19 d z a b) env fk (fun _ => none) 0 m) (hr : tRg (.inner 19 d z a b) i j) (hj : j ≤ cnt) (hd : ∀ u, u ∈ env → u ∉ tEv (.inner 19 d z a b)) (hnd : (tEv (.inner 19 d z a b)).Nodup) (hln : (tEv (.inner 19 d z a b)).length ≤ 2000) (hw : tWr (cFd f pp ee) (.inner 19 d z a b) env = []) (wa : tWf kk cnt a 0) (wb : tWf kk cnt b 0) (hk : tKb 2000 (.inner 19 d z a b)) (hsn : tSn kk (.inner 19 d z a b)) (hE : ∀ u, u ∈ env → u ∈ U) (hWU : ∀ u, u ∈ tW (.inner 19 d z a b) → u ∈ U) (h : cXE V y A mo nm env σ s g T) (hs : mSat s.1) (hM : g.n + tM (.inner 19 d z a b) ≤ mo) (hn : tDc (.inner 19 d z a b) + 6 ≤ n) : cIo κ Tt mo y A V nm pp env σ g T n m (mE f pp ee (.inner 19 d z a b) env s) (tW (.inner 19 d z a b)) (tM (.inner 19 d z a b)) i j (fun X => cTX κ T0 kk pp ee f B D X lo V nm (.inner 19 d z a b) env fk (fun _ => none) 0 m) := by
  have hd : ∀ u, u ∈ env → u ∉ [d.1 + 1] ++ (tEv a ++ ([d.2.1, d.2.1 + 1] ++ tEv b)) := hd
  have hnd : ([d.1 + 1] ++ (tEv a ++ ([d.2.1, d.2.1 + 1] ++ tEv b))).Nodup := hnd
  have hln : ([d.1 + 1] ++ (tEv a ++ ([d.2.1, d.2.1 + 1] ++ tEv b))).length ≤ 2000 := hln
  simp only [List.length_append] at hln
  have hw : usW (cFd f pp ee) (d.1 + 1) env ++ (tWr (cFd f pp ee) a env ++ (paW (cFd f pp ee) 2 d.2.1 env ++ tWr (cFd f pp ee) b (env ++ [d.2.1, d.2.1 + 1]))) = [] := hw
  have hWU : ∀ u, u ∈ tW a ++ ([d.2.1, d.2.1 + 1] ++ tW b) → u ∈ U := hWU
  obtain ⟨u1, hw⟩ := List.append_eq_nil_iff.mp hw
  obtain ⟨u2, hw⟩ := List.append_eq_nil_iff.mp hw
  obtain ⟨-, u3⟩ := List.append_eq_nil_iff.mp hw
  obtain ⟨-, hnd2, -⟩ := List.nodup_append.mp hnd
  obtain ⟨na, hnd4, nax⟩ := List.nodup_append.mp hnd2
  obtain ⟨-, nb, nxb⟩ := List.nodup_append.mp hnd4
  obtain ⟨ck, x, x2, c, q, su, nq, ta, c1, cc1, cc2, cn, c4, c5⟩ := hc
  obtain ⟨d0, cap, mc, gg, l1, -, -, l2⟩ := id cn
  obtain ⟨b0, gb0, c20, -, q0, c30⟩ := l2 0 (by omega)
  obtain ⟨b1, gb1, c21, -, q1, c31⟩ := l2 1 (by omega)
  rw [Nat.add_zero] at c20
  obtain ⟨⟨r1, r2, -⟩, k, ⟨r3, -⟩, r4, r5⟩ := hr
  have r4' := tRg.le _ _ _ r4
  have r5' := tRg.le _ _ _ r5
  have hM : g.n + (0 + tM a + tM b) ≤ mo := hM
  have hn : max (tDc a) (tDc b) + 2 + 6 ≤ n := hn
  obtain ⟨n, rfl⟩ : ∃ n', n = n' + 5 := ⟨n - 5, by omega⟩
  have aU : ∀ u, u ∈ tW a → u ∈ U := fun u hu => hWU u (List.mem_append_left _ hu)
  have bU : ∀ u, u ∈ tW b → u ∈ U := fun u hu => hWU u (List.mem_append_right _ (List.mem_append_right _ hu))
  have m0 : d.2.1 ∈ [d.2.1, d.2.1 + 1] := List.mem_cons_self ..
  have m1' : d.2.1 + 1 ∈ [d.2.1, d.2.1 + 1] := List.mem_cons_of_mem _ (List.mem_cons_self ..)
  have wU0 : d.2.1 ∈ U := hWU _ (List.mem_append_right _ (List.mem_append_left _ m0))
  have wU1 : d.2.1 + 1 ∈ U := hWU _ (List.mem_append_right _ (List.mem_append_left _ m1'))
  have inx : ∀ u, u ∈ [d.2.1, d.2.1 + 1] → u ∈ [d.1 + 1] ++ (tEv a ++ ([d.2.1, d.2.1 + 1] ++ tEv b)) := fun u hu => List.mem_append_right _ (List.mem_append_right _ (List.mem_append_left _ hu))
  have wE0 : d.2.1 ∉ env := fun z => hd _ z (inx _ m0)
  have wE1 : d.2.1 + 1 ∉ env ++ [d.2.1] := fun z => by
    rcases List.mem_append.mp z with z | z
    · exact hd _ z (inx _ m1')
    · have := List.mem_singleton.mp z; omega
  obtain ⟨bn, fb, v, n1, n2, n3, n4⟩ := c_nm h.2 u1
  obtain ⟨σ1, g1, o1, o2, o3, o4⟩ := h.must (κ := κ) (n := n) (v1 := v) (v2 := 3) (t2 := mB 3) hH.1.1 hH.1.2.1 hH.1.2.2.1 (hH.1.2.2.2.2 (d.1 + 1)) n4 (fun z => ⟨3, rfl, h.1.bas z (by decide)⟩)
  obtain ⟨σ2, v2, g2, T2, i1, i2, i3, i4, i5, i6, i7, i8⟩ := Ia env σ1 _ g1 T x fk lo (d.1 + 1) k (n + 3) c4 r4 (by omega) (fun u hu q => hd u hu (List.mem_append_right _ (List.mem_append_left _ q))) na (by omega) u2 wa hk.1 hsn.2.1 hE aU o2 (by omega) (by omega)
  obtain ⟨σ3, p1, -, p3, p4, p5, p6⟩ := c_end2 (call := oF κ Tt (n + 3)) hH i2 c1 (by show 8 < 21; omega) (w := d.1) rfl ⟨r1, r2⟩ v2 (mB 0) []
  have p3' : cXE V y A mo nm env σ3 (mE f pp ee a env (mMu (mNm f pp ee env (d.1 + 1) s) (mB 3) (pp (d.1 + 1)) s)).1 g2 T2 := p3.cg rfl (Nat.le_refl _) rfl
  obtain ⟨σ4, t1, t2, t3, -⟩ := p3'.tell (v := 0) (ty := mB 0) hH c20 c30 (by show 2 < 8; omega) (fun z => ⟨0, rfl, p3'.1.bas z (by decide)⟩) wE0 wU0 hE
  have hE1 : ∀ u, u ∈ env ++ [d.2.1] → u ∈ U := fun u hu => by
    rcases List.mem_append.mp hu with z | z
    · exact hE u z
    · rw [List.mem_singleton.mp z]; exact wU0
  obtain ⟨σ5, s1, s2, s3, -⟩ := t2.tell (v := 3) (ty := mB 3) hH c21 c31 (by show 2 < 8; omega) (fun z => ⟨3, rfl, t2.1.bas z (by decide)⟩) wE1 wU1 hE1
  have s2' : cXE V y A mo nm (env ++ [d.2.1, d.2.1 + 1]) σ5 (mNt (d.2.1 + 1) (mB 3) (mNt d.2.1 (mB 0) (mE f pp ee a env (mMu (mNm f pp ee env (d.1 + 1) s) (mB 3) (pp (d.1 + 1)) s)).1)) g2 T2 := s2.sub (fun u hu => by
    rcases List.mem_append.mp hu with z | z
    · exact List.mem_append_left _ (List.mem_append_left _ z)
    · rcases List.mem_cons.mp z with z | z
      · rw [z]; exact List.mem_append_left _ (List.mem_append_right _ (List.mem_singleton_self _))
      · exact List.mem_append_right _ z)
  obtain ⟨σ6, v6, g6, T6, j1, j2, j3, j4, j5, j6, j7, j8⟩ := Ib (env ++ [d.2.1, d.2.1 + 1]) σ5 _ g2 T2 x2 (fk + nF a) lo k j (n + 3) c5 r5 hj (fun u hu q => by
    rcases List.mem_append.mp hu with z | z
    · exact hd u z (List.mem_append_right _ (List.mem_append_right _ (List.mem_append_right _ q)))
    · exact nxb u z u q rfl) nb (by omega) u3 wb hk.2 hsn.2.2 (fun u hu => by
    rcases List.mem_append.mp hu with z | z
    · exact hE u z
    · exact hWU u (List.mem_append_right _ (List.mem_append_left _ z))) bU s2' (by omega) (by omega)
  obtain ⟨fs2, y1, y2, -⟩ := cTr_pl wb r5 c5
  have mC : m ≠ b0 := fun e => by rw [← e, c1] at c30; cases c30
  have mC1 : m ≠ b1 := fun e => by rw [← e, c1] at c31; cases c31
  have f8a : ofd σ5 (some m) 7 8 = some (.int v2) := by
    have e4 : σ4.1 m = σ3.1 m := (t3 0 0).1 m _ c1 (fun w a1 a2 => by omega)
    have e5 : σ5.1 m = σ4.1 m := (s3 0 0).1 m _ c1 (fun w a1 a2 => by omega)
    exact (ofd_cg (e5.trans e4)).trans p4
  have f8 : ofd σ6 (some m) 7 8 = some (.int v2) := (ofd_cg (j7.nd hH c1 rfl (by omega) hj (Or.inl (by omega)))).trans f8a
  have ty1 : ∀ {s' : mS} {W : List Nat}, mLe W (mE f pp ee a env (mMu (mNm f pp ee env (d.1 + 1) s) (mB 3) (pp (d.1 + 1)) s)).1 s' → mSat s'.1 → ∃ c, v2 = nI c ∧ gY g2 T2 s' c (mE f pp ee a env (mMu (mNm f pp ee env (d.1 + 1) s) (mB 3) (pp (d.1 + 1)) s)).2 := fun le z => by
    obtain ⟨c, q1, q2⟩ := i5 (le.sat z)
    exact ⟨c, q1, q2.up (xE.rf _ _) le⟩
  have le2 : mLe [d.2.1, d.2.1 + 1] (mE f pp ee a env (mMu (mNm f pp ee env (d.1 + 1) s) (mB 3) (pp (d.1 + 1)) s)).1 (mNt (d.2.1 + 1) (mB 3) (mNt d.2.1 (mB 0) (mE f pp ee a env (mMu (mNm f pp ee env (d.1 + 1) s) (mB 3) (pp (d.1 + 1)) s)).1)) := ((mLe.nt d.2.1 (mB 0) _).mo (fun u hu => by rw [List.mem_singleton.mp hu]; exact m0)).tr ((mLe.nt (d.2.1 + 1) (mB 3) _).mo (fun u hu => by rw [List.mem_singleton.mp hu]; exact m1'))
  obtain ⟨σ7, g7, o5, o6, o7, o8⟩ := j2.must (κ := κ) (n := n) (v1 := v6) (v2 := v2) (t2 := (mE f pp ee a env (mMu (mNm f pp ee env (d.1 + 1) s) (mB 3) (pp (d.1 + 1)) s)).2) hH.1.1 hH.1.2.1 hH.1.2.2.1 (hH.1.2.2.2.2 (tFw b)) j5 (fun z => by
    obtain ⟨c, q1, q2⟩ := ty1 le2 ((mLe.e b _ _).sat z)
    exact ⟨c, q1, q2.up j3 (mLe.e b _ _)⟩)
  have f8' : ofd σ7 (some m) 7 8 = some (.int v2) := (ofd_cg (o7.lo hH.1.2.1 hH.1.2.2.1 (h.1.1.lt c1))).trans f8
  have oe := o6.sub (env := env) (fun u hu => List.mem_append_left _ hu)
  refine ⟨σ7, v2, g7, T6, ?_, oe.cg rfl (Nat.le_refl _) rfl, ((xE.tr ⟨by omega, fun _ _ => rfl⟩ i3).tr j3).tr ⟨by omega, fun _ _ => rfl⟩, by show _ ≤ g.n + (0 + tM a + tM b); omega, fun z => ?_, fun u hu => ?_, ?_, ?_⟩
  · have f0 : ofd σ (some m) 7 0 = some (.int 214) := (h.1.1.nd c1 (by decide)).trans rfl
    have f9 : ofd σ (some m) 7 9 = some (va_rf (nR f pp ee nm env (d.1 + 1))) := (h.1.1.nd c1 (by decide)).trans rfl
    have f4 : ofd σ (some m) 7 4 = some (.int (pp (d.1 + 1))) := (h.1.1.nd c1 (by decide)).trans rfl
    have f12 : ofd σ1 (some m) 7 12 = some (.ref x) := (o2.1.1.nd c1 (by decide)).trans rfl
    have f11 : ofd σ3 (some m) 7 11 = some (.ref q) := (p3.1.1.nd c1 (by decide)).trans rfl
    have f11' : ofd σ4 (some m) 7 11 = some (.ref q) := (t2.1.1.nd c1 (by decide)).trans rfl
    have f13 : ofd σ5 (some m) 7 13 = some (.ref x2) := (s2.1.1.nd c1 (by decide)).trans rfl
    have f13' : ofd σ6 (some m) 7 13 = some (.ref x2) := (j2.1.1.nd c1 (by decide)).trans rfl
    have f1 : ofd σ6 (some x2) 7 1 = some (.int (pp (tFw b))) := (j2.1.1.nd y1 (by decide)).trans y2
    have ls3 := p3.1.1.ls hH.1.2.2.2.1 l1
    have ls4 := t2.1.1.ls hH.1.2.2.2.1 l1
    have lg0 : oF κ Tt (n + 3) 234 [va_rf (some q), .int 0] σ3 = some (some (va_rf (some b0)), σ3) := by rw [← gb0]; exact l_get (j := 0) (ls3.o (by omega)) (by omega)
    have lg1 : oF κ Tt (n + 3) 234 [va_rf (some q), .int 1] σ4 = some (some (va_rf (some b1)), σ4) := by rw [← gb1]; exact l_get (j := 1) (ls4.o (by omega)) (by omega)
    obtain ⟨fs3, oc3⟩ := p3.1.1.oc c30
    obtain ⟨fs4, oc4⟩ := t2.1.1.oc c31
    have oc3' : ocs σ3 (some b0) 6 = true := by simp only [ocs, oc3]; rfl
    have oc4' : ocs σ4 (some b1) 6 = true := by simp only [ocs, oc4]; rfl
    have b213 : (if (213 : Int32) = 202 then (1 : Int32) else if (213 : Int32) = 200 then 2 else if (213 : Int32) = 213 then 3 else 0) = 3 := rfl
    have b210 : (if (210 : Int32) = 202 then (1 : Int32) else if (210 : Int32) = 200 then 2 else if (210 : Int32) = 213 then 3 else 0) = 0 := rfl
    have im : oF κ Tt (n + 4) 158 [va_rf (some y), va_rf (some m)] σ = some (none, σ7) := by
      rw [show n + 4 = (n + 3) + 1 from rfl, oE_X10_inferMatch]
      unfold ob_X10_inferMatch
      rw [f9, ovr_va, obn_at, n1, n3, ovi_in, obn_at, c_basic (n := n + 2), oin_at, b213, f4, ovi_in, obn_at, h.yo, obn_at, o1, ocv_at, f12, ovr_rf, obn_at, o2.yo, obn_at, i1, oin_at, p1, obn_at, f11, ovr_rf, obn_at, oob_at ls3.1, obn_at, lg0, orn_at, ogd_at oc3', c_basic (n := n + 2), oin_at, b210, t1, obn_at, f11', ovr_rf, obn_at, oob_at ls4.1, obn_at, lg1, orn_at, ogd_at oc4', c_basic (n := n + 2), oin_at, b213, s1, obn_at, f13, ovr_rf, obn_at, s2.yo, obn_at, j1, oin_at, f8, ovi_in, obn_at, f13', ovr_rf, obn_at, f1, ovi_in, obn_at, j2.yo, obn_at, o5, ocv_at]
    rw [show n + 5 = (n + 4) + 1 from rfl, oE_X10_infer]
    unfold ob_X10_infer
    rw [h.ft hs, obn_at, if_pos (show (-1 : Int32) < 0 by decide), f0, ovi_in, obn_at, if_neg (by decide), if_neg (by decide), if_neg (by decide), if_neg (by decide), if_neg (by decide), if_pos rfl, h.yo, obn_at, im, ocv_at]
    unfold oj_X10_infer_351
    rw [f8', ovi_in, obn_at]
  · obtain ⟨c, q1, q2⟩ := ty1 le2 ((mLe.e b _ _).sat ((mLe.mu _ _ _ _).sat z))
    exact ⟨c, q1, ((q2.up j3 (mLe.e b _ _)).up (xE.rf _ _) (mLe.mu _ _ _ _)).up ⟨by omega, fun _ _ => rfl⟩ (mLe.et _ _ _)⟩
  · have nY6 : nY V nm σ6 g6 T6 (mE f pp ee b (env ++ [d.2.1, d.2.1 + 1]) (mNt (d.2.1 + 1) (mB 3) (mNt d.2.1 (mB 0) (mE f pp ee a env (mMu (mNm f pp ee env (d.1 + 1) s) (mB 3) (pp (d.1 + 1)) s)).1))).1 u := by
      rcases List.mem_append.mp hu with z | z
      · have za := tW_ev a u z
        have nb' : u ∉ tW b := fun q => nax u za u (List.mem_append_right _ (tW_ev b u q)) rfl
        have n0 : u ≠ d.2.1 := fun q => nax u za d.2.1 (List.mem_append_left _ m0) q
        have n1 : u ≠ d.2.1 + 1 := fun q => nax u za (d.2.1 + 1) (List.mem_append_left _ m1') q
        have z2 := p5.nY hH (aU u z) (fun w hw => by cases hw) (fun q => by cases q) (i6 u z) (xE.rf _ _) (mLe.rf [] _) (fun q => by cases q)
        have z3 := (t3 0 0).nY hH (aU u z) (fun w hw => by rw [List.mem_singleton.mp hw]; exact wU0) (fun q => n0 (List.mem_singleton.mp q)) z2 (xE.rf _ _) (mLe.nt d.2.1 (mB 0) _) (fun q => n0 (List.mem_singleton.mp q))
        have z4 := (s3 0 0).nY hH (aU u z) (fun w hw => by rw [List.mem_singleton.mp hw]; exact wU1) (fun q => n1 (List.mem_singleton.mp q)) z3 (xE.rf _ _) (mLe.nt (d.2.1 + 1) (mB 3) _) (fun q => n1 (List.mem_singleton.mp q))
        exact j7.nY hH (aU u z) bU nb' z4 j3 (mLe.e b _ _) nb'
      · rcases List.mem_append.mp z with z | z
        · exact j2.2 u (List.mem_append_right _ z)
        · exact j6 u z
    exact (nY6.yF hH.1.2.1 hH.1.2.2.1 j2.1.1 o7 ⟨by omega, fun _ _ => rfl⟩ (mLe.mu _ _ _ _)).up (fun _ _ => rfl) (xE.rf _ _) (mLe.et _ _ _) (fun q => by cases q)
  · refine ((((((wF.yF hH.1.2.1 hH.1.2.2.1 h.1.1 o3 i j _).tr (i7.wd (by omega) (by omega) (fun u hu => List.mem_append_left _ hu))).tr (p5.wd (Nat.le_refl _) (Nat.le_refl _) (fun u hu => by cases hu))).tr ((t3 i j).wd (Nat.le_refl _) (Nat.le_refl _) (fun u hu => ?_))).tr ((s3 i j).wd (Nat.le_refl _) (Nat.le_refl _) (fun u hu => ?_))).tr (j7.wd (by omega) (Nat.le_refl _) (fun u hu => List.mem_append_right _ (List.mem_append_right _ hu)))).tr (wF.yF hH.1.2.1 hH.1.2.2.1 j2.1.1 o7 i j _)
    · rw [List.mem_singleton.mp hu]; exact List.mem_append_right _ (List.mem_append_left _ m0)
    · rw [List.mem_singleton.mp hu]; exact List.mem_append_right _ (List.mem_append_left _ m1')
  · have leb : mLe ([d.2.1, d.2.1 + 1] ++ tW b) (mE f pp ee a env (mMu (mNm f pp ee env (d.1 + 1) s) (mB 3) (pp (d.1 + 1)) s)).1 (mE f pp ee b (env ++ [d.2.1, d.2.1 + 1]) (mNt (d.2.1 + 1) (mB 3) (mNt d.2.1 (mB 0) (mE f pp ee a env (mMu (mNm f pp ee env (d.1 + 1) s) (mB 3) (pp (d.1 + 1)) s)).1))).1 := (((mLe.nt d.2.1 (mB 0) _).mo (fun u hu => by rw [List.mem_singleton.mp hu]; exact List.mem_append_left _ m0)).tr ((mLe.nt (d.2.1 + 1) (mB 3) _).mo (fun u hu => by rw [List.mem_singleton.mp hu]; exact List.mem_append_left _ m1'))).tr ((mLe.e b _ _).mo (fun u hu => List.mem_append_right _ hu))
    have lem : mLe ([d.2.1, d.2.1 + 1] ++ tW b) (mE f pp ee a env (mMu (mNm f pp ee env (d.1 + 1) s) (mB 3) (pp (d.1 + 1)) s)).1 (mMu (mE f pp ee b (env ++ [d.2.1, d.2.1 + 1]) (mNt (d.2.1 + 1) (mB 3) (mNt d.2.1 (mB 0) (mE f pp ee a env (mMu (mNm f pp ee env (d.1 + 1) s) (mB 3) (pp (d.1 + 1)) s)).1))).2 (mE f pp ee a env (mMu (mNm f pp ee env (d.1 + 1) s) (mB 3) (pp (d.1 + 1)) s)).2 (pp (tFw b)) (mE f pp ee b (env ++ [d.2.1, d.2.1 + 1]) (mNt (d.2.1 + 1) (mB 3) (mNt d.2.1 (mB 0) (mE f pp ee a env (mMu (mNm f pp ee env (d.1 + 1) s) (mB 3) (pp (d.1 + 1)) s)).1))).1) := leb.tr ((mLe.mu _ _ _ _).no _)
    refine ⟨fun z => ?_, ck, x, x2, c, q, su, nq, ta, c1, cc1, cc2, cn, cTX.imp a lo _ _ env fk _ 0 x r4 (fun m' u fs q1 q2 q3 q4 q5 => ?_) i8, cTX.imp b lo _ _ _ (fk + nF a) _ 0 x2 r5 (fun m' u fs q1 q2 q3 q4 q5 => ?_) j8⟩
    · obtain ⟨c, q1, q2⟩ := ty1 lem z
      have f8' : ofd σ7 (some m) 7 8 = some (.int v2) := (ofd_cg (o7.lo hH.1.2.1 hH.1.2.2.1 (h.1.1.lt c1))).trans f8
      refine ⟨c, by rw [f8', q1], ?_⟩
      show gY g7 T6 _ c (mUp _ d.1 (mE f pp ee a env (mMu (mNm f pp ee env (d.1 + 1) s) (mB 3) (pp (d.1 + 1)) s)).2 d.1)
      rw [mUp_at]
      exact (q2.up (j3.tr ⟨by omega, fun _ _ => rfl⟩) (mLe.rf [] _)).up (xE.rf _ _) (mLe.et _ _ _)
    · have ne : m' ≠ m := fun q => by
        subst q
        rw [c1] at q3; injection q3 with q3; injection q3 with q3; injection q3 with _ q3; subst q3
        injection q4 with q4; injection q4 with q4
        have := hH.2.1 d.1 u (by omega) (by omega) q4
        omega
      have e3 : σ3.1 m' = σ2.1 m' := p6 m' ne
      have e4 : σ4.1 m' = σ3.1 m' := (t3 0 0).1 m' _ q3 (fun w a1 a2 => by omega)
      have e5 : σ5.1 m' = σ4.1 m' := (s3 0 0).1 m' _ q3 (fun w a1 a2 => by omega)
      have e6 : σ6.1 m' = σ5.1 m' := j7.nd hH q3 q4 (by omega) hj (Or.inl (by omega))
      have e7 : σ7.1 m' = σ6.1 m' := o7.lo hH.1.2.1 hH.1.2.2.1 (h.1.1.lt q3)
      refine q5.up (e7.trans (e6.trans (e5.trans (e4.trans e3)))) (j3.tr ⟨by omega, fun _ _ => rfl⟩) (lem.tr ((mLe.et _ _ _).no _)) ?_
      show mUp _ d.1 _ u = _
      rw [mUp_ne _ _ (by omega)]
      exact mE_tab b _ _ _ _ u r5 (Or.inl (by omega))
    · have e7 : σ7.1 m' = σ6.1 m' := o7.lo hH.1.2.1 hH.1.2.2.1 (h.1.1.lt q3)
      refine q5.up e7 ⟨by omega, fun _ _ => rfl⟩ ((mLe.mu _ _ _ _).tr (mLe.et _ _ _)) ?_
      show mUp _ d.1 _ u = _
      rw [mUp_ne _ _ (by omega)]
      rfl
end CIW
