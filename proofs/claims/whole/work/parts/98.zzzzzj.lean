/-! the class's infer: calls; all of it -/
section CID
variable {κ : oKv} {Tt T0 mo y cnt : Nat} {A B : Nat → Nat} {D : cDt} {V σ : oSt} {nm : Nat → Option Nat} {env U W : List Nat} {kk f pp ee : Nat → Int32} {s : mS} {g : gG} {T : Nat → mF} {n m lo fk i j : Nat}
variable {d : Nat × Nat × Nat × tS × tS} {z : Unit} {a b : tT}
set_option maxHeartbeats 1000000 in
/-- NAME ARGS -/
theorem in_15 (hH : wH κ Tt mo y cnt A V nm pp U) (hcn : cnt ≤ 2000) (Ia : cAr κ Tt T0 mo y cnt A B D V nm kk f pp ee U a) (hc : cTr κ T0 kk pp ee f B D lo V nm (.inner 15 d z a b) env fk (fun _ => none) 0 m) (hr : tRg (.inner 15 d z a b) i j) (hj : j ≤ cnt) (hd : ∀ u, u ∈ env → u ∉ tEv (.inner 15 d z a b)) (hnd : (tEv (.inner 15 d z a b)).Nodup) (hln : (tEv (.inner 15 d z a b)).length ≤ 2000) (hw : tWr (cFd f pp ee) (.inner 15 d z a b) env = []) (wa : tWf kk cnt a 2) (hk : tKb 2000 (.inner 15 d z a b)) (hsn : tSn kk (.inner 15 d z a b)) (hE : ∀ u, u ∈ env → u ∈ U) (hWU : ∀ u, u ∈ tW (.inner 15 d z a b) → u ∈ U) (h : cXE V y A mo nm env σ s g T) (hs : mSat s.1) (hM : g.n + tM (.inner 15 d z a b) ≤ mo) (hn : tDc (.inner 15 d z a b) + 6 ≤ n) : cIo κ Tt mo y A V nm pp env σ g T n m (mE f pp ee (.inner 15 d z a b) env s) (tW (.inner 15 d z a b)) (tM (.inner 15 d z a b)) i j (fun X => cTX κ T0 kk pp ee f B D X lo V nm (.inner 15 d z a b) env fk (fun _ => none) 0 m) := by
  have hd : ∀ u, u ∈ env → u ∉ [d.1] ++ tEv a := hd
  have hnd : ([d.1] ++ tEv a).Nodup := hnd
  have hln : ([d.1] ++ tEv a).length ≤ 2000 := hln
  simp only [List.length_append] at hln
  have hw : usW (cFd f pp ee) d.1 env ++ tWr (cFd f pp ee) a env = [] := hw
  obtain ⟨u1, u2⟩ := List.append_eq_nil_iff.mp hw
  obtain ⟨ck, pa, q, gl, c1, cl, c4⟩ := hc
  obtain ⟨d0, cap, mc, l1, -⟩ := id cl
  obtain ⟨⟨r1, r2, -⟩, k, ⟨r3, -⟩, r4, r5⟩ := hr
  have r4' := tRg.le _ _ _ r4
  have r5' := tRg.le _ _ _ r5
  obtain ⟨q1, q2, q3⟩ := args_nd a fk gl 0 q (d.1 + 1) k wa r4 c4
  rw [Nat.zero_add] at q1
  have ql := q2.len
  have tq : tQn a = q := by rw [aWd_q, q1]
  have hM : g.n + (3 * tQn a + tM a + tM b) ≤ mo := hM
  rw [tq] at hM
  have hn : max (tDc a) (tDc b) + 2 + 6 ≤ n := hn
  obtain ⟨n, rfl⟩ : ∃ n', n = n' + 5 := ⟨n - 5, by omega⟩
  obtain ⟨b0, fb, v, n1, n2, n3, n4⟩ := c_nm h.2 u1
  obtain ⟨c, rfl, yc⟩ := n4 hs
  have R : mE f pp ee (.inner 15 d z a b) env s = (mEt d.1 (mRs q (mNm f pp ee env d.1 s)) (mE f pp ee a env (mCu (mNm f pp ee env d.1 s) (mOp (pp d.1) q (mNm f pp ee env d.1 s) s))).1, mRs q (mNm f pp ee env d.1 s)) := by
    rw [← tq]; rfl
  rw [R]
  have eW : tW (.inner 15 d z a b) = tW a := rfl
  rw [eW] at hWU ⊢
  -- root of the NAME's type
  have h0 := h.1.1
  have hroot : ∃ r, gR g c = r ∧ r < g.n ∧ g.S r = r ∧ gY g T s r (mNm f pp ee env d.1 s) ∧ oF κ Tt (n + 3) 21 [va_rf (some y), .int (nI c)] σ = some (some (.int (nI r)), σ) := by
    rcases h.1.2 with ⟨-, F, a1, b1, c1', d1, e1, qq⟩ | ⟨pl', cc, F, z1, -⟩
    · refine ⟨gR g c, rfl, gR_lt c1'.1 yc.1, gR_root c1'.1 yc.1, ⟨gR_lt c1'.1 yc.1, fun α hα => ?_⟩, c_root (n := n + 2) (by have := hH.1.1; omega) a1 b1 e1 c1'.1 yc.1⟩
      have z2 : T (gR g c) α = T c α := gR_eq c1'.1 yc.1 (qq.1 α hα)
      rw [z2]; exact yc.2 α hα
    · exact absurd hs z1.no
  obtain ⟨r, -, -, hrs, yr, cr⟩ := hroot
  have hAn : cAn V pp gl (fun x => (aWd a).getD x 0) q := fun x hx => by
    have hl : x < (aWd a).length := by omega
    obtain ⟨p, fs, e1, e2, e3, e4⟩ := q3 x _ (List.getElem?_eq_getElem hl)
    rw [Nat.zero_add] at e1
    refine ⟨p, fs, e1, e2, e3, ?_⟩
    show fs[1]? = some (.int (pp ((aWd a).getD x 0)))
    rw [List.getD_eq_getElem?_getD, List.getElem?_eq_getElem hl]
    exact e4
  have gD : ∀ x, x < q → ∃ hl : x < (aWd a).length, (aWd a).getD x 0 = (aWd a)[x] := fun x hx => ⟨by omega, by rw [List.getD_eq_getElem?_getD, List.getElem?_eq_getElem (by omega)]; rfl⟩
  have hin : ∀ x, x < q → d.1 + 1 ≤ (fun x => (aWd a).getD x 0) x ∧ (fun x => (aWd a).getD x 0) x < k := fun x hx => by
    obtain ⟨hl, e⟩ := gD x hx
    show d.1 + 1 ≤ (aWd a).getD x 0 ∧ (aWd a).getD x 0 < k
    rw [e]
    exact q2.2.2 _ (List.getElem_mem hl)
  have hinj : ∀ x x', x < q → x' < q → (fun x => (aWd a).getD x 0) x = (fun x => (aWd a).getD x 0) x' → x = x' := fun x x' hx hx' e => by
    obtain ⟨hl, e1⟩ := gD x hx
    obtain ⟨hl', e2⟩ := gD x' hx'
    have e : (aWd a).getD x 0 = (aWd a).getD x' 0 := e
    rw [e1, e2] at e
    by_cases lt : x < x'
    · have := List.pairwise_iff_getElem.mp q2.2.1 x x' hl hl' lt; omega
    · by_cases gt : x' < x
      · have := List.pairwise_iff_getElem.mp q2.2.1 x' x hl' hl gt; omega
      · omega
  have f0 : ofd σ (some m) 7 0 = some (.int 401) := (h.1.1.nd c1 (by decide)).trans rfl
  have f9 : ofd σ (some m) 7 9 = some (va_rf (nR f pp ee nm env d.1)) := (h.1.1.nd c1 (by decide)).trans rfl
  have lp := c_callL (n := n) (i := d.1 + 1) (j := k) (w0 := d.1) hH c1 rfl rfl l1 (by omega) hAn hin (by omega) hinj q 0 Tt σ s g T r (mNm f pp ee env d.1 s) (Nat.zero_add _) (by have := hH.1.1; omega) h hs yr hrs (by omega)
  rcases lp with ⟨σ1, g1, T1, r1', i1, i2, i3, i4, i5, i6, i7, -, i9⟩ | ⟨σ1, i1, i2, i3, i4⟩
  · have i2' : cXE V y A mo nm env σ1 (mCu (mNm f pp ee env d.1 s) (mOp (pp d.1) q (mNm f pp ee env d.1 s) s)) g1 T1 := i2.cg rfl (Nat.le_refl _) rfl
    obtain ⟨σ2, g2, T2, j1, j2, j3, j4, j5, j6, j7⟩ := Ia env σ1 _ g1 T1 m _ pa d0 cap q mc gl fk lo (d.1 + 1) k 0 Tt (n + 3) (nI r1') c1 rfl l1 (by omega) c4 r4 (by omega) (fun u hu z => hd u hu (List.mem_append_right _ z)) (List.nodup_append.mp hnd).2.1 (by omega) u2 wa hk.1 hsn.2.1 hE hWU i2' (by omega) (by omega) (by have := hH.1.1; omega) (fun x hx => by
      rw [Nat.zero_add] at hx
      obtain ⟨p, c', e1, e2, e3⟩ := i7 x hx
      exact ⟨p, nI c', e1, e2, fun _ => ⟨c', rfl, e3⟩⟩)
    have le : mLe (tW a) (mOp (pp d.1) q (mNm f pp ee env d.1 s) s) (mE f pp ee a env (mCu (mNm f pp ee env d.1 s) (mOp (pp d.1) q (mNm f pp ee env d.1 s) s))).1 := ((mLe.cu _ _).no _).tr (mLe.e a env _)
    refine c_close (call := oF κ Tt (n + 4)) hH j2 (i4.tr j3) (M := tM (.inner 15 d z a b)) (by show _ ≤ g.n + (3 * tQn a + tM a + tM b); rw [tq]; omega) (v := nI r1') (fun _ => ⟨r1', rfl, i6.up j3 le⟩) j5 hWU ((i9.wd (by omega) (by omega) (fun u hu => by cases hu)).tr (j6.wd (by omega) (by omega) (fun u hu => hu))) c1 (by show 8 < 21; omega) rfl ⟨r1, r2⟩ hj (fun X _ y2 => ⟨ck, pa, q, gl, c1, cl, cTX.imp a lo _ _ env fk gl 0 q r4 (fun m' u fs q1 q2 q3 q4 q5 => y2 m' u fs (by omega) (by omega) (by omega) q3 q4 q5) j7⟩) (fun σ3 k1 k2 => ?_)
    have im : oF κ Tt (n + 4) 157 [va_rf (some y), va_rf (some m)] σ = some (none, σ3) := by
      rw [show n + 4 = (n + 3) + 1 from rfl, oE_X10_inferCall]
      unfold ob_X10_inferCall
      rw [f9, ovr_va, obn_at, n1, n3, ovi_in, obn_at, h.yo, obn_at, cr, oin_at]
      refine Eq.trans i1 ?_
      refine Eq.trans j1 ?_
      rw [k1, obn_at]
    rw [show n + 5 = (n + 4) + 1 from rfl, oE_X10_infer]
    unfold ob_X10_infer
    rw [h.ft hs, obn_at, if_pos (show (-1 : Int32) < 0 by decide), f0, ovi_in, obn_at, if_neg (by decide), if_neg (by decide), if_neg (by decide), if_neg (by decide), if_neg (by decide), if_neg (by decide), if_neg (by decide), if_neg (by decide), if_pos rfl, h.yo, obn_at, im, ocv_at]
    exact k2
  · have le : mLe (tW a) (mOp (pp d.1) q (mNm f pp ee env d.1 s) s) (mEt d.1 (mRs q (mNm f pp ee env d.1 s)) (mE f pp ee a env (mCu (mNm f pp ee env d.1 s) (mOp (pp d.1) q (mNm f pp ee env d.1 s) s))).1) := (((mLe.cu _ _).no _).tr (mLe.e a env _)).tr ((mLe.et _ _ _).no _)
    have ns : ¬ mSat (mEt d.1 (mRs q (mNm f pp ee env d.1 s)) (mE f pp ee a env (mCu (mNm f pp ee env d.1 s) (mOp (pp d.1) q (mNm f pp ee env d.1 s) s))).1).1 := fun z => i3 (le.sat z)
    obtain ⟨v0, e0, e00⟩ := i2.1.1.1 m _ c1
    obtain ⟨v0, rfl⟩ := e00 ⟨0, rfl⟩
    refine ⟨σ1, v0, g, T, ?_, i2.app hH i3 hE le g T, xE.rf g T, by omega, fun z => absurd z ns, fun u hu => nY_f hH i2.1.1 ns (hWU u hu), i4.wd (by omega) (by omega) (fun u hu => by cases hu), ⟨ck, pa, q, gl, c1, cl, cTX.of a lo env fk gl 0 q (fun _ _ z => absurd z ns) c4⟩⟩
    have im : oF κ Tt (n + 4) 157 [va_rf (some y), va_rf (some m)] σ = some (none, σ1) := by
      rw [show n + 4 = (n + 3) + 1 from rfl, oE_X10_inferCall]
      unfold ob_X10_inferCall
      rw [f9, ovr_va, obn_at, n1, n3, ovi_in, obn_at, h.yo, obn_at, cr, oin_at]
      exact i1
    rw [show n + 5 = (n + 4) + 1 from rfl, oE_X10_infer]
    unfold ob_X10_infer
    rw [h.ft hs, obn_at, if_pos (show (-1 : Int32) < 0 by decide), f0, ovi_in, obn_at, if_neg (by decide), if_neg (by decide), if_neg (by decide), if_neg (by decide), if_neg (by decide), if_neg (by decide), if_neg (by decide), if_neg (by decide), if_pos rfl, h.yo, obn_at, im, ocv_at]
    unfold oj_X10_infer_351
    rw [ofd_at e0, List.getElem?_set_self (by show 8 < 21; omega), ovi_in, obn_at]
end CID
