/-! the class's infer: set, let, fun -/
section CIU
variable {κ : oKv} {Tt T0 mo y cnt : Nat} {A B : Nat → Nat} {D : cDt} {V σ σ1 : oSt} {nm : Nat → Option Nat} {env U W : List Nat} {kk f pp ee : Nat → Int32} {s s1 : mS} {g g1 : gG} {T T1 : Nat → mF} {n m lo fk i j : Nat}
variable {d : Nat × Nat × Nat × tS × tS} {z : Unit} {a b : tT}
/-- set NAME[S] = S; E -/
theorem in_6 (hH : wH κ Tt mo y cnt A V nm pp U) (Ia : cInf κ Tt T0 mo y cnt A B D V nm kk f pp ee U a) (hc : cTr κ T0 kk pp ee f B D lo V nm (.inner 6 d z a b) env fk (fun _ => none) 0 m) (hr : tRg (.inner 6 d z a b) i j) (hj : j ≤ cnt) (hd : ∀ u, u ∈ env → u ∉ tEv (.inner 6 d z a b)) (hnd : (tEv (.inner 6 d z a b)).Nodup) (hln : (tEv (.inner 6 d z a b)).length ≤ 2000) (hw : tWr (cFd f pp ee) (.inner 6 d z a b) env = []) (wa : tWf kk cnt a 0) (hk : tKb 2000 (.inner 6 d z a b)) (hsn : tSn kk (.inner 6 d z a b)) (hE : ∀ u, u ∈ env → u ∈ U) (hWU : ∀ u, u ∈ tW (.inner 6 d z a b) → u ∈ U) (h : cXE V y A mo nm env σ s g T) (hs : mSat s.1) (hM : g.n + tM (.inner 6 d z a b) ≤ mo) (hn : tDc (.inner 6 d z a b) + 6 ≤ n) : cIo κ Tt mo y A V nm pp env σ g T n m (mE f pp ee (.inner 6 d z a b) env s) (tW (.inner 6 d z a b)) (tM (.inner 6 d z a b)) i j (fun X => cTX κ T0 kk pp ee f B D X lo V nm (.inner 6 d z a b) env fk (fun _ => none) 0 m) := by
  have hd : ∀ u, u ∈ env → u ∉ [d.1 + 1] ++ (sEv d.2.2.2.1.2 ++ (sEv d.2.2.2.2.2 ++ tEv a)) := hd
  have hnd : ([d.1 + 1] ++ (sEv d.2.2.2.1.2 ++ (sEv d.2.2.2.2.2 ++ tEv a))).Nodup := hnd
  have hln : ([d.1 + 1] ++ (sEv d.2.2.2.1.2 ++ (sEv d.2.2.2.2.2 ++ tEv a))).length ≤ 2000 := hln
  simp only [List.length_append] at hln
  have hw : usW (cFd f pp ee) (d.1 + 1) env ++ (plW (cFd f pp ee) env (sEv d.2.2.2.1.2) ++ (plW (cFd f pp ee) env (sEv d.2.2.2.2.2) ++ tWr (cFd f pp ee) a env)) = [] := hw
  obtain ⟨u1, hw⟩ := List.append_eq_nil_iff.mp hw
  obtain ⟨u2, hw⟩ := List.append_eq_nil_iff.mp hw
  obtain ⟨u3, u4⟩ := List.append_eq_nil_iff.mp hw
  obtain ⟨ck, x, l, r, nd, su, su', c1, c2, c3, ci, c4⟩ := hc
  obtain ⟨⟨r1, r2, -⟩, k, ⟨r3, -⟩, r4, r5⟩ := hr
  have r5 := tRg.le _ _ _ r5
  have hM : g.n + (0 + tM a + tM b) ≤ mo := hM
  have hn : max (tDc a) (tDc b) + 2 + 6 ≤ n := hn
  obtain ⟨n, rfl⟩ : ∃ n', n = n' + 5 := ⟨n - 5, by omega⟩
  obtain ⟨b0, fb, v, n1, n2, n3, n4⟩ := c_nm h.2 u1
  obtain ⟨σ1, g1, m1, m2, m3, m4⟩ := h.must (κ := κ) (n := n + 1) (v1 := v) (v2 := 2) (t2 := mB 2) hH.1.1 hH.1.2.1 hH.1.2.2.1 (hH.1.2.2.2.2 (d.1 + 1)) n4 (fun z => ⟨2, rfl, h.1.bas z (by decide)⟩)
  obtain ⟨σ2, g2, p1, p2, p3, p4⟩ := c_ckq (n := n) hH c2 (by omega) u2 m2
  obtain ⟨σ3, g3, q1, q2, q3, q4⟩ := c_ckq (n := n) hH c3 (by omega) u3 p2
  obtain ⟨σ4, v', g4, T4, i1, i2, i3, i4, i5, i6, i7, i8⟩ := Ia env σ3 _ g3 T x fk lo (d.1 + 1) k (n + 4) c4 r4 (by omega) (fun u hu q => hd u hu (List.mem_append_right _ (List.mem_append_right _ (List.mem_append_right _ q)))) (List.nodup_append.mp (List.nodup_append.mp (List.nodup_append.mp hnd).2.1).2.1).2.1 (by omega) u4 wa hk.1 hsn.2.1 hE hWU q2 (by omega) (by omega)
  have w1 := wF.yF (nm := nm) (pp := pp) hH.1.2.1 hH.1.2.2.1 h.1.1 ((m3.tr p3).tr q3) i j (tW a)
  refine c_close (call := oF κ Tt (n + 4)) hH i2 (xE.tr ⟨by omega, fun _ _ => rfl⟩ i3) (M := tM (.inner 6 d z a b)) (by show _ ≤ g.n + (0 + tM a + tM b); omega) i5 i6 hWU (w1.tr (i7.wd (by omega) (by omega) (fun u hu => hu))) c1 (by show 8 < 21; omega) rfl ⟨r1, r2⟩ hj (fun X _ x2 => ⟨ck, x, l, r, nd, su, su', c1, c2, c3, ci, cTX.imp a lo _ _ env fk _ 0 x r4 (fun m' u fs q1 q2 q3 q4 q5 => x2 m' u fs (by omega) (by omega) (by omega) q3 q4 q5) i8⟩) (fun σ5 k1 k2 => ?_)
  have f0 : ofd σ (some m) 7 0 = some (.int 220) := (h.1.1.nd c1 (by decide)).trans rfl
  have f9 : ofd σ (some m) 7 9 = some (va_rf (nR f pp ee nm env (d.1 + 1))) := (h.1.1.nd c1 (by decide)).trans rfl
  have f4 : ofd σ (some m) 7 4 = some (.int (pp (d.1 + 1))) := (h.1.1.nd c1 (by decide)).trans rfl
  have f15 : ofd σ1 (some m) 7 15 = some (.ref l) := (m2.1.1.nd c1 (by decide)).trans rfl
  have f16 : ofd σ2 (some m) 7 16 = some (.ref r) := (p2.1.1.nd c1 (by decide)).trans rfl
  have f12 : ofd σ3 (some m) 7 12 = some (.ref x) := (q2.1.1.nd c1 (by decide)).trans rfl
  rw [show n + 5 = (n + 4) + 1 from rfl, oE_X10_infer]
  unfold ob_X10_infer
  rw [h.ft hs, obn_at, if_pos (show (-1 : Int32) < 0 by decide), f0, ovi_in, obn_at, if_neg (by decide), if_neg (by decide), if_neg (by decide), if_neg (by decide), if_neg (by decide), if_neg (by decide), if_neg (by decide), if_pos rfl, f9, ovr_va, obn_at, n1, n3, ovi_in, obn_at, c_basic (n := n + 3), oin_at, f4, ovi_in, obn_at, h.yo, obn_at]
  rw [show (if (200 : Int32) = 202 then (1 : Int32) else if (200 : Int32) = 200 then 2 else if (200 : Int32) = 213 then 3 else 0) = 2 from rfl, m1, ocv_at, f15, ovr_rf, obn_at, m2.yo, obn_at, p1, ocv_at, f16, ovr_rf, obn_at, p2.yo, obn_at, q1, ocv_at, f12, ovr_rf, obn_at, q2.yo, obn_at, i1, oin_at, k1, obn_at]
  exact k2
/-- let NAME = E in E -/
theorem in_1 (hH : wH κ Tt mo y cnt A V nm pp U) (Ia : cInf κ Tt T0 mo y cnt A B D V nm kk f pp ee U a) (Ib : cInf κ Tt T0 mo y cnt A B D V nm kk f pp ee U b) (hc : cTr κ T0 kk pp ee f B D lo V nm (.inner 1 d z a b) env fk (fun _ => none) 0 m) (hr : tRg (.inner 1 d z a b) i j) (hj : j ≤ cnt) (hd : ∀ u, u ∈ env → u ∉ tEv (.inner 1 d z a b)) (hnd : (tEv (.inner 1 d z a b)).Nodup) (hln : (tEv (.inner 1 d z a b)).length ≤ 2000) (hw : tWr (cFd f pp ee) (.inner 1 d z a b) env = []) (wa : tWf kk cnt a 0) (wb : tWf kk cnt b 0) (hk : tKb 2000 (.inner 1 d z a b)) (hsn : tSn kk (.inner 1 d z a b)) (hE : ∀ u, u ∈ env → u ∈ U) (hWU : ∀ u, u ∈ tW (.inner 1 d z a b) → u ∈ U) (h : cXE V y A mo nm env σ s g T) (hs : mSat s.1) (hM : g.n + tM (.inner 1 d z a b) ≤ mo) (hn : tDc (.inner 1 d z a b) + 6 ≤ n) : cIo κ Tt mo y A V nm pp env σ g T n m (mE f pp ee (.inner 1 d z a b) env s) (tW (.inner 1 d z a b)) (tM (.inner 1 d z a b)) i j (fun X => cTX κ T0 kk pp ee f B D X lo V nm (.inner 1 d z a b) env fk (fun _ => none) 0 m) := by
  have hd : ∀ u, u ∈ env → u ∉ [d.1 + 1] ++ (tEv a ++ tEv b) := hd
  have hnd : ([d.1 + 1] ++ (tEv a ++ tEv b)).Nodup := hnd
  have hln : ([d.1 + 1] ++ (tEv a ++ tEv b)).length ≤ 2000 := hln
  simp only [List.length_append] at hln
  have hw : tlW (cFd f pp ee) (d.1 + 1) env ++ (tWr (cFd f pp ee) a env ++ tWr (cFd f pp ee) b (env ++ [d.1 + 1])) = [] := hw
  have hWU : ∀ u, u ∈ (d.1 + 1) :: (tW a ++ tW b) → u ∈ U := hWU
  obtain ⟨-, hw⟩ := List.append_eq_nil_iff.mp hw
  obtain ⟨u1, u2⟩ := List.append_eq_nil_iff.mp hw
  obtain ⟨-, hnd2, hnd3⟩ := List.nodup_append.mp hnd
  obtain ⟨na, nb, nab⟩ := List.nodup_append.mp hnd2
  obtain ⟨ck, x, x2, w, c1, cn, c4, c5⟩ := hc
  obtain ⟨c2, -, q, c3⟩ := id cn
  obtain ⟨⟨r1, r2, -⟩, k, ⟨r3, -⟩, r4, r5⟩ := hr
  have r5' := tRg.le _ _ _ r5
  have hM : g.n + (0 + tM a + tM b) ≤ mo := hM
  have hn : max (tDc a) (tDc b) + 2 + 6 ≤ n := hn
  obtain ⟨n, rfl⟩ : ∃ n', n = n' + 1 := ⟨n - 1, by omega⟩
  have wU : d.1 + 1 ∈ U := hWU _ (List.mem_cons_self ..)
  have aU : ∀ u, u ∈ tW a → u ∈ U := fun u hu => hWU u (List.mem_cons_of_mem _ (List.mem_append_left _ hu))
  have bU : ∀ u, u ∈ tW b → u ∈ U := fun u hu => hWU u (List.mem_cons_of_mem _ (List.mem_append_right _ hu))
  have wE : d.1 + 1 ∉ env := fun z => hd _ z (List.mem_append_left _ (List.mem_singleton_self _))
  obtain ⟨σ1, v1, g1, T1, i1, i2, i3, i4, i5, i6, i7, i8⟩ := Ia env σ s g T x fk lo (d.1 + 1) k n c4 r4 (by omega) (fun u hu q => hd u hu (List.mem_append_right _ (List.mem_append_left _ q))) na (by omega) u1 wa hk.1 hsn.2.1 hE aU h (by omega) (by omega)
  obtain ⟨σ2, t1, t2, t3, -⟩ := i2.tell hH c2 c3 (by show 2 < 8; omega) i5 wE wU hE
  obtain ⟨σ3, v3, g3, T3, j1, j2, j3, j4, j5, j6, j7, j8⟩ := Ib (env ++ [d.1 + 1]) σ2 _ g1 T1 x2 (fk + nF a) lo k j n c5 r5 hj (fun u hu q => by
    rcases List.mem_append.mp hu with z | z
    · exact hd u z (List.mem_append_right _ (List.mem_append_right _ q))
    · exact hnd3 (d.1 + 1) (List.mem_singleton_self _) u (List.mem_append_right _ q) (List.mem_singleton.mp z).symm) nb (by omega) u2 wb hk.2 hsn.2.2 (fun u hu => by
    rcases List.mem_append.mp hu with z | z
    · exact hE u z
    · rw [List.mem_singleton.mp z]; exact wU) bU t2 (by omega) (by omega)
  have W3 : ∀ u, u ∈ (d.1 + 1) :: (tW a ++ tW b) → nY V nm σ3 g3 T3 (mE f pp ee b (env ++ [d.1 + 1]) (mNt (d.1 + 1) (mE f pp ee a env s).2 (mE f pp ee a env s).1)).1 u := fun u hu => by
    rcases List.mem_cons.mp hu with z | z
    · rw [z]; exact j2.2 _ (List.mem_append_right _ (List.mem_singleton_self _))
    · rcases List.mem_append.mp z with z | z
      · have ne : u ≠ d.1 + 1 := fun q => hnd3 (d.1 + 1) (List.mem_singleton_self _) u (List.mem_append_left _ (tW_ev a u z)) q.symm
        have nb' : u ∉ tW b := fun q => nab u (tW_ev a u z) u (tW_ev b u q) rfl
        have z2 := (t3 i j).nY hH (aU u z) (fun w hw => by rw [List.mem_singleton.mp hw]; exact wU) (fun q => ne (List.mem_singleton.mp q)) (i6 u z) (xE.rf _ _) (mLe.nt (d.1 + 1) (mE f pp ee a env s).2 _) (fun q => ne (List.mem_singleton.mp q))
        exact j7.nY hH (aU u z) bU nb' z2 j3 (mLe.e b _ _) nb'
      · exact j6 u z
  have W1 : wF V nm pp σ σ3 i j ((d.1 + 1) :: (tW a ++ tW b)) := ((i7.wd (by omega) (by omega) (fun u hu => List.mem_cons_of_mem _ (List.mem_append_left _ hu))).tr ((t3 i j).wd (Nat.le_refl _) (Nat.le_refl _) (fun u hu => by rw [List.mem_singleton.mp hu]; exact List.mem_cons_self ..))).tr (j7.wd (by omega) (Nat.le_refl _) (fun u hu => List.mem_cons_of_mem _ (List.mem_append_right _ hu)))
  refine c_close (call := oF κ Tt n) hH (j2.sub (fun u hu => List.mem_append_left _ hu)) (i3.tr j3) (M := tM (.inner 1 d z a b)) (by show _ ≤ g.n + (0 + tM a + tM b); omega) j5 W3 hWU W1 c1 (by show 8 < 21; omega) rfl ⟨r1, r2⟩ hj (fun X y1 y2 => ⟨y1, ck, x, x2, w, c1, cn, cTX.imp a lo _ _ env fk _ 0 x r4 (fun m' u fs q1 q2 q3 q4 q5 => y2 m' u fs (by omega) (by omega) (by omega) q3 q4 (by
    have e2 : σ2.1 m' = σ1.1 m' := (t3 0 0).1 m' fs q3 (fun w' z1 z2 => by omega)
    have e3 : σ3.1 m' = σ2.1 m' := j7.nd hH q3 q4 (by omega) hj (Or.inl (by omega))
    exact q5.up (e3.trans e2) j3 (((mLe.nt _ _ _).mo (W' := (d.1 + 1) :: tW b) (fun u hu => by rw [List.mem_singleton.mp hu]; exact List.mem_cons_self ..)).tr ((mLe.e b _ _).mo (fun u hu => List.mem_cons_of_mem _ hu))) ((mE_tab b _ _ _ _ u r5 (Or.inl (by omega))).trans rfl))) i8, cTX.imp b lo _ _ _ _ _ 0 x2 r5 (fun m' u fs q1 q2 q3 q4 q5 => y2 m' u fs (by omega) (by omega) (by omega) q3 q4 q5) j8⟩) (fun σ5 k1 k2 => ?_)
  have f0 : ofd σ (some m) 7 0 = some (.int 212) := (h.1.1.nd c1 (by decide)).trans rfl
  have f10 : ofd σ (some m) 7 10 = some (.ref w) := (h.1.1.nd c1 (by decide)).trans rfl
  have f12 : ofd σ (some m) 7 12 = some (.ref x) := (h.1.1.nd c1 (by decide)).trans rfl
  have f13 : ofd σ2 (some m) 7 13 = some (.ref x2) := (t2.1.1.nd c1 (by decide)).trans rfl
  rw [oE_X10_infer]
  unfold ob_X10_infer
  rw [h.ft hs, obn_at, if_pos (show (-1 : Int32) < 0 by decide), f0, ovi_in, obn_at, if_neg (by decide), if_neg (by decide), if_neg (by decide), if_neg (by decide), if_pos rfl, f10, ovr_rf, obn_at, f12, ovr_rf, obn_at, h.yo, obn_at, i1, oin_at, t1, obn_at, f13, ovr_rf, obn_at, t2.yo, obn_at, j1, oin_at, k1, obn_at]
  exact k2
/-- fun NAME -> E -/
theorem in_3 (hH : wH κ Tt mo y cnt A V nm pp U) (Ia : cInf κ Tt T0 mo y cnt A B D V nm kk f pp ee U a) (hc : cTr κ T0 kk pp ee f B D lo V nm (.inner 3 d z a b) env fk (fun _ => none) 0 m) (hr : tRg (.inner 3 d z a b) i j) (hj : j ≤ cnt) (hd : ∀ u, u ∈ env → u ∉ tEv (.inner 3 d z a b)) (hnd : (tEv (.inner 3 d z a b)).Nodup) (hln : (tEv (.inner 3 d z a b)).length ≤ 2000) (hw : tWr (cFd f pp ee) (.inner 3 d z a b) env = []) (wa : tWf kk cnt a 0) (hk : tKb 2000 (.inner 3 d z a b)) (hsn : tSn kk (.inner 3 d z a b)) (hE : ∀ u, u ∈ env → u ∈ U) (hWU : ∀ u, u ∈ tW (.inner 3 d z a b) → u ∈ U) (h : cXE V y A mo nm env σ s g T) (hs : mSat s.1) (hM : g.n + tM (.inner 3 d z a b) ≤ mo) (hn : tDc (.inner 3 d z a b) + 6 ≤ n) : cIo κ Tt mo y A V nm pp env σ g T n m (mE f pp ee (.inner 3 d z a b) env s) (tW (.inner 3 d z a b)) (tM (.inner 3 d z a b)) i j (fun X => cTX κ T0 kk pp ee f B D X lo V nm (.inner 3 d z a b) env fk (fun _ => none) 0 m) := by
  have hd : ∀ u, u ∈ env → u ∉ [d.1 + 1] ++ tEv a := hd
  have hnd : ([d.1 + 1] ++ tEv a).Nodup := hnd
  have hln : ([d.1 + 1] ++ tEv a).length ≤ 2000 := hln
  simp only [List.length_append] at hln
  have hw : tlW (cFd f pp ee) (d.1 + 1) env ++ tWr (cFd f pp ee) a (env ++ [d.1 + 1]) = [] := hw
  have hWU : ∀ u, u ∈ (d.1 + 1) :: tW a → u ∈ U := hWU
  obtain ⟨-, u1⟩ := List.append_eq_nil_iff.mp hw
  obtain ⟨-, na, hnd3⟩ := List.nodup_append.mp hnd
  obtain ⟨ck, x, q, mk, c1, cf, cn, c4⟩ := hc
  obtain ⟨d0, cap, mc, gg, l1, -, -, l2⟩ := id cn
  obtain ⟨b0, gb, c2, -, q0, c3⟩ := l2 0 (by omega)
  obtain ⟨⟨r1, r2, -⟩, k, ⟨r3, -⟩, r4, r5⟩ := hr
  have r5' := tRg.le _ _ _ r5
  have hM : g.n + (2 + tM a + tM b) ≤ mo := hM
  have hn : max (tDc a) (tDc b) + 2 + 6 ≤ n := hn
  obtain ⟨n, rfl⟩ : ∃ n', n = n' + 4 := ⟨n - 4, by omega⟩
  have wU : d.1 + 1 ∈ U := hWU _ (List.mem_cons_self ..)
  have aU : ∀ u, u ∈ tW a → u ∈ U := fun u hu => hWU u (List.mem_cons_of_mem _ hu)
  have wE : d.1 + 1 ∉ env := fun z => hd _ z (List.mem_append_left _ (List.mem_singleton_self _))
  obtain ⟨σ1, v1, g1, T1, a1, a2, a3, a4, a5, a6⟩ := h.1.free (κ := κ) (Tt := Tt) (n := n + 2) hH.1.2.1 hH.1.2.2.1 (by omega)
  have h1 : cXE V y A mo nm env σ1 (mFr 1 s) g1 T1 := ⟨a2, fun u hu => (h.2 u hu).yF hH.1.2.1 hH.1.2.2.1 h.1.1 a3 a4 (mLe.fr 1 s)⟩
  obtain ⟨σ2, t1, t2, t3, t4⟩ := h1.tell hH c2 c3 (by show 2 < 8; omega) (fun _ => a6 hs) wE wU hE
  obtain ⟨σ3, v3, g3, T3, j1, j2, j3, j4, j5, j6, j7, j8⟩ := Ia (env ++ [d.1 + 1]) σ2 _ g1 T1 x (fk + 1) (m + 1) (d.1 + 1) k (n + 3) c4 r4 (by omega) (fun u hu q => by
    rcases List.mem_append.mp hu with z | z
    · exact hd u z (List.mem_append_right _ q)
    · exact hnd3 (d.1 + 1) (List.mem_singleton_self _) u q (List.mem_singleton.mp z).symm) na (by omega) u1 wa hk.1 hsn.2.1 (fun u hu => by
    rcases List.mem_append.mp hu with z | z
    · exact hE u z
    · rw [List.mem_singleton.mp z]; exact wU) aU t2 (by omega) (by omega)
  obtain ⟨σ4, v4, g4, T4, b1, b2, b3, b4, b5, b6⟩ := j2.1.fn (κ := κ) (Tt := Tt) (n := n + 1) hH.1.2.1 hH.1.2.2.1 (by omega) (v1 := v1) (t1 := mV s.2.1) (fun z => by
    obtain ⟨c, e1, e2⟩ := a6 hs
    exact ⟨c, e1, (e2.up (xE.rf _ _) (mLe.nt (d.1 + 1) (mV s.2.1) (mFr 1 s))).up j3 (mLe.e a _ _)⟩) j5
  have h4 : cXE V y A mo nm (env ++ [d.1 + 1]) σ4 (mE f pp ee a (env ++ [d.1 + 1]) (mNt (d.1 + 1) (mV s.2.1) (mFr 1 s))).1 g4 T4 := ⟨b2, fun u hu => (j2.2 u hu).yF hH.1.2.1 hH.1.2.2.1 j2.1.1 b3 b4 (mLe.rf _ _)⟩
  have W4 : ∀ u, u ∈ (d.1 + 1) :: tW a → nY V nm σ4 g4 T4 (mE f pp ee a (env ++ [d.1 + 1]) (mNt (d.1 + 1) (mV s.2.1) (mFr 1 s))).1 u := fun u hu => by
    rcases List.mem_cons.mp hu with z | z
    · rw [z]; exact h4.2 _ (List.mem_append_right _ (List.mem_singleton_self _))
    · exact (j6 u z).yF hH.1.2.1 hH.1.2.2.1 j2.1.1 b3 b4 (mLe.rf _ _)
  have W1 : wF V nm pp σ σ4 i j ((d.1 + 1) :: tW a) := (((wF.yF hH.1.2.1 hH.1.2.2.1 h.1.1 a3 i j _).tr ((t3 i j).wd (Nat.le_refl _) (Nat.le_refl _) (fun u hu => by rw [List.mem_singleton.mp hu]; exact List.mem_cons_self ..))).tr (j7.wd (by omega) (by omega) (fun u hu => List.mem_cons_of_mem _ hu))).tr (wF.yF hH.1.2.1 hH.1.2.2.1 j2.1.1 b3 i j _)
  refine c_close (call := oF κ Tt (n + 3)) hH (h4.sub (fun u hu => List.mem_append_left _ hu)) ((a4.tr j3).tr b4) (M := tM (.inner 3 d z a b)) (by show _ ≤ g.n + (2 + tM a + tM b); omega) b6 W4 hWU W1 c1 (by show 8 < 21; omega) rfl ⟨r1, r2⟩ hj (fun X y1 y2 => ⟨y1, ck, x, q, mk, c1, cf, cn, cTX.imp a (m + 1) _ _ _ _ _ 0 x r4 (fun m' u fs q1 q2 q3 q4 q5 => y2 m' u fs (by omega) (by omega) (by omega) q3 q4 (q5.up (b3.lo hH.1.2.1 hH.1.2.2.1 (h.1.1.lt q3)) b4 (mLe.rf [] _) rfl)) j8⟩) (fun σ5 k1 k2 => ?_)
  have f0 : ofd σ (some m) 7 0 = some (.int 206) := (h.1.1.nd c1 (by decide)).trans rfl
  have f11 : ofd σ (some m) 7 11 = some (.ref q) := (h.1.1.nd c1 (by decide)).trans rfl
  have f11' : ofd σ2 (some m) 7 11 = some (.ref q) := (t2.1.1.nd c1 (by decide)).trans rfl
  have f12 : ofd σ2 (some m) 7 12 = some (.ref x) := (t2.1.1.nd c1 (by decide)).trans rfl
  have ls := h.1.1.ls hH.1.2.2.2.1 l1
  have ls2 := t2.1.1.ls hH.1.2.2.2.1 l1
  have lg : oF κ Tt (n + 3) 234 [va_rf (some q), .int 0] σ = some (some (va_rf (some b0)), σ) := by rw [← gb]; exact l_get (j := 0) (ls.o (by omega)) (by omega)
  have lg2 : oF κ Tt (n + 3) 234 [va_rf (some q), .int 0] σ2 = some (some (va_rf (some b0)), σ2) := by rw [← gb]; exact l_get (j := 0) (ls2.o (by omega)) (by omega)
  obtain ⟨fs1, oc1⟩ := h.1.1.oc c3
  obtain ⟨fs2, oc2⟩ := t2.1.1.oc c3
  have oc1' : ocs σ (some b0) 6 = true := by simp only [ocs, oc1]; rfl
  have oc2' : ocs σ2 (some b0) 6 = true := by simp only [ocs, oc2]; rfl
  rw [show n + 4 = (n + 3) + 1 from rfl, oE_X10_infer]
  unfold ob_X10_infer
  rw [h.ft hs, obn_at, if_pos (show (-1 : Int32) < 0 by decide), f0, ovi_in, obn_at, if_neg (by decide), if_neg (by decide), if_pos rfl, f11, ovr_rf, obn_at, oob_at ls.1, obn_at, lg, orn_at, ogd_at oc1', h.yo, obn_at, a1, oin_at, t1, obn_at, f11', ovr_rf, obn_at, oob_at ls2.1, obn_at, lg2, orn_at, ogd_at oc2', t4, ovi_in, obn_at, f12, ovr_rf, obn_at, t2.yo, obn_at, j1, oin_at, j2.yo, obn_at, b1, oin_at, k1, obn_at]
  exact k2
end CIU
