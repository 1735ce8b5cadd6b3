/-! the class's infer: ARGS -/
/-- the words where the ARGS' nodes stand -/
def aWd : tT → List Nat
  | .leaf => []
  | .inner g d _ a b => (if g = 33 then d.2.2.2.1.1 else if g = 34 then tFw a else d.1) :: aWd b
theorem rgL.len : ∀ {l : List Nat} {i j : Nat}, rgL l i j → l.length ≤ j - i
  | [], i, j, _ => Nat.zero_le _
  | x :: l, i, j, h => by
    have h1 := h.2.2 x (List.mem_cons_self ..)
    have h2 : rgL l (x + 1) j := ⟨by omega, (List.pairwise_cons.mp h.2.1).2, fun w hw => ⟨(List.pairwise_cons.mp h.2.1).1 w hw, (h.2.2 w (List.mem_cons_of_mem _ hw)).2⟩⟩
    have := rgL.len h2
    rw [List.length_cons]
    omega
section CAR
variable {κ : oKv} {Tt T0 mo y cnt : Nat} {A B : Nat → Nat} {D : cDt} {V σ : oSt} {nm : Nat → Option Nat} {env U W : List Nat} {kk f pp ee : Nat → Int32} {s : mS} {g : gG} {T : Nat → mF} {n m lo fk i j : Nat}
theorem aWd_q : ∀ a : tT, tQn a = (aWd a).length
  | .leaf => rfl
  | .inner _ _ _ _ b => by show tQn b + 1 = (aWd b).length + 1; rw [aWd_q b]
theorem tFw_in {t : tT} (h : tWf kk cnt t 0) (hr : tRg t i j) : i ≤ tFw t ∧ tFw t < j := by
  cases t with
  | leaf => cases h
  | inner g d z a b =>
    have hg : g ≠ 31 := fun e => by
      subst e
      rcases h with ⟨c, _⟩ | ⟨c, _⟩ | ⟨-, h⟩
      · cases c
      · cases c
      · rcases h with ⟨c, _⟩ | ⟨c, _⟩ | ⟨c, _⟩ | ⟨c, _⟩ | ⟨c, _⟩ | ⟨c, _⟩ | ⟨c, _⟩ | ⟨c, _⟩ | ⟨c, _⟩ | ⟨c, _⟩ | ⟨c, _⟩ | ⟨c, _⟩ | ⟨c, _⟩ | ⟨c, _⟩ <;> omega
    unfold tRg at hr
    rw [if_neg hg] at hr
    exact ⟨hr.1.1, hr.1.2.1⟩
/-- the ARGS' nodes and where they stand -/
theorem args_nd : ∀ (a : tT) (fk : Nat) (gl : Nat → Option Nat) (k q i j : Nat), tWf kk cnt a 2 → tRg a i j → cTr κ T0 kk pp ee f B D lo V nm a env fk gl k q → q = k + (aWd a).length ∧ rgL (aWd a) i j ∧ ∀ x w, (aWd a)[x]? = some w → ∃ p fs, gl (k + x) = some p ∧ V.1 p = some (.inr (7, fs)) ∧ 8 < fs.length ∧ fs[1]? = some (.int (pp w))
  | .leaf, fk, gl, k, q, i, j, _, hr, hc => by
    have : k = q := hc
    exact ⟨by rw [this]; rfl, rgL.nil hr, fun x w h => by cases h⟩
  | .inner tg d z a b, fk, gl, k, q, i, j, hw, hr, hc => by
    rcases hw with ⟨c, _⟩ | ⟨-, -, hb, hw⟩ | ⟨c, _⟩
    · cases c
    · have go : ∀ (w0 kb fk' : Nat) (p : Nat) (fs : List Value), aWd (.inner tg d z a b) = w0 :: aWd b → i ≤ w0 → w0 < kb → tRg b kb j → cTr κ T0 kk pp ee f B D lo V nm b env fk' gl (k + 1) q → gl k = some p → V.1 p = some (.inr (7, fs)) → 8 < fs.length → fs[1]? = some (.int (pp w0)) → q = k + (aWd (.inner tg d z a b)).length ∧ rgL (aWd (.inner tg d z a b)) i j ∧ ∀ x w, (aWd (.inner tg d z a b))[x]? = some w → ∃ p fs, gl (k + x) = some p ∧ V.1 p = some (.inr (7, fs)) ∧ 8 < fs.length ∧ fs[1]? = some (.int (pp w)) := fun w0 kb fk' p fs e h1 h2 h3 h4 h5 h6 h7 h8 => by
        obtain ⟨b1, b2, b3⟩ := args_nd b fk' gl (k + 1) q kb j hb h3 h4
        rw [e]
        refine ⟨by rw [List.length_cons]; omega, (rgL.one h1 h2).ap b2 (Nat.le_refl _), fun x w hx => ?_⟩
        cases x with
        | zero => injection hx with hx; subst hx; exact ⟨p, fs, h5, h6, h7, h8⟩
        | succ x =>
          have := b3 x w hx
          rw [show k + (x + 1) = k + 1 + x by omega]
          exact this
      rcases hw with ⟨rfl, -, -⟩ | ⟨rfl, -, ha⟩ | ⟨rfl, -, -, -⟩
      · obtain ⟨⟨r1, r2, -, r3⟩, kb, ⟨r4, r5⟩, -, r6⟩ := hr
        obtain ⟨x, su, c1, ⟨pa, na, ta, cap, pc, c2, -⟩, c3⟩ := hc
        exact go d.2.2.2.1.1 kb fk x _ rfl (by have := (r3 rfl).1; omega) (r5 rfl) r6 c3 c1 c2 (by show 8 < 21; omega) rfl
      · obtain ⟨⟨r1, r2, -⟩, kb, ⟨r4, -⟩, r5, r6⟩ := hr
        obtain ⟨x, fs, c1, ⟨-, c2, -⟩, c3, c4⟩ := hc
        obtain ⟨fs', e1, e2, e3⟩ := cTr_pl ha r5 c3
        have r7 := tFw_in ha r5
        exact go (tFw a) kb (fk + nF a) x fs' rfl (by omega) (by omega) r6 c4 c1 e1 e3 e2
      · obtain ⟨⟨r1, r2, -⟩, kb, ⟨r4, -⟩, -, r6⟩ := hr
        obtain ⟨x, c1, ⟨-, c2⟩, c3⟩ := hc
        exact go d.1 kb fk x _ rfl r1 (by omega) r6 c3 c1 c2 (by show 8 < 21; omega) rfl
    · cases c
/-- behind a fault: a NAME has some type -/
theorem nY_f (hH : wH κ Tt mo y cnt A V nm pp U) (hv : vR V σ) (hs : ¬ mSat s.1) {u : Nat} (hu : u ∈ U) : nY V nm σ g T s u := by
  obtain ⟨b, fs, e1, e2, l, i2⟩ := hH.2.2.1 u hu
  obtain ⟨v, e3, e4⟩ := hv.2.1 b fs e2
  obtain ⟨v, rfl⟩ := e4 i2
  exact ⟨b, fs, v, e1, e2, by rw [ofd_at e3, List.getElem?_set_self l], fun z => absurd z hs⟩
/-- behind a fault: more equations change nothing -/
theorem cXE.app (hH : wH κ Tt mo y cnt A V nm pp U) (h : cXE V y A mo nm env σ s g T) (hs : ¬ mSat s.1) (hE : ∀ u, u ∈ env → u ∈ U) {s' : mS} (le : mLe W s s') (g' : gG) (T' : Nat → mF) : cXE V y A mo nm env σ s' g' T' := by
  refine ⟨⟨h.1.1, ?_⟩, fun u hu => nY_f hH h.1.1 (fun z => hs (le.sat z)) (hE u hu)⟩
  rcases h.1.2 with ⟨z, -⟩ | ⟨pl, c, F, q1, q2⟩
  · exact absurd z hs
  · exact Or.inr ⟨pl, c, F, q1.noS le, q2⟩
/-- behind a fault: infer() answers 0 -/
theorem c_inf0 (h : cXE V y A mo nm env σ s g T) (hs : ¬ mSat s.1) (p : Nat) : oF κ Tt (n + 2) 156 [va_rf (some y), va_rf (some p)] σ = some (some (.int 0), σ) := by
  rcases h.1.2 with ⟨z, -⟩ | ⟨pl, c, F, q1, q2, q3, q4⟩
  · exact absurd z hs
  rw [oE_X10_infer]
  unfold ob_X10_infer
  rw [q4.row.2.2.2.2.2.2.2.2.1, obn_at, if_neg (fun z => by rw [Int32.lt_iff_toInt_lt] at z; rw [Int32.le_iff_toInt_le] at q2; omega), c_basic (n := n), oin_at]
  rfl
/-- the contract of a call's second loop -/
def cAr (κ : oKv) (Tt T0 mo y cnt : Nat) (A B : Nat → Nat) (D : cDt) (V : oSt) (nm : Nat → Option Nat) (kk f pp ee : Nat → Int32) (U : List Nat) (a : tT) : Prop := ∀ (env : List Nat) (σ : oSt) (s : mS) (g : gG) (T : Nat → mF) (m : Nat) (fs : List Value) (pa d0 cap q : Nat) (mc : Int32) (gl : Nat → Option Nat) (fk lo i j k t' n : Nat) (x2 : Int32), V.1 m = some (.inr (7, fs)) → fs[18]? = some (.ref pa) → cLs κ V pa d0 cap q mc gl 7 → q ≤ 2000 → cTr κ T0 kk pp ee f B D lo V nm a env fk gl k q → tRg a i j → j ≤ cnt → (∀ u, u ∈ env → u ∉ tEv a) → (tEv a).Nodup → (tEv a).length ≤ 2000 → tWr (cFd f pp ee) a env = [] → tWf kk cnt a 2 → tKb 2000 a → tSn kk a → (∀ u, u ∈ env → u ∈ U) → (∀ u, u ∈ tW a → u ∈ U) → cXE V y A mo nm env σ s g T → g.n + tM a ≤ mo → tDc a + 6 ≤ n → q < k + t' → (∀ x, k + x < q → ∃ p v, gl (k + x) = some p ∧ ofd σ (some p) 7 8 = some (.int v) ∧ (mSat s.1 → ∃ c, v = nI c ∧ gY g T s c (fun α => yL (mRs x s.2.2.2.2 α)))) → ∃ σ' g' T', ol_X10_inferCall_120 Tt (oF κ Tt n) κ t' (some y) (some m) x2 (nI k) σ = (obn (opf σ' (some m) 7 8 (.int x2)) fun s9 => some (none, s9)) ∧ cXE V y A mo nm env σ' (mE f pp ee a env s).1 g' T' ∧ xE g T g' T' ∧ g'.n ≤ g.n + tM a ∧ (∀ u, u ∈ tW a → nY V nm σ' g' T' (mE f pp ee a env s).1 u) ∧ wF V nm pp σ σ' i j (tW a) ∧ cTX κ T0 kk pp ee f B D (eY σ' g' T' (mE f pp ee a env s).1) lo V nm a env fk gl k q
theorem ar_0 (hH : wH κ Tt mo y cnt A V nm pp U) : cAr κ Tt T0 mo y cnt A B D V nm kk f pp ee U .leaf := fun env σ s g T m fs pa d0 cap q mc gl fk lo i j k t' n x2 c1 f18 l1 hq hc hr hj hd hnd hln hw wf hk hsn hE hWU h hM hn ht hfd => by
  have e : k = q := hc
  obtain ⟨t', rfl⟩ : ∃ x, t' = x + 1 := ⟨t' - 1, by omega⟩
  obtain ⟨n, rfl⟩ : ∃ x, n = x + 1 := ⟨n - 1, by omega⟩
  have ls := h.1.1.ls hH.1.2.2.2.1 l1
  have e18 : ofd σ (some m) 7 18 = some (.ref pa) := (h.1.1.nd c1 (by decide)).trans f18
  refine ⟨σ, g, T, ?_, h, xE.rf g T, Nat.le_refl _, fun u hu => (by cases hu), wF.rf σ i j _, e⟩
  rw [ol_X10_inferCall_120, e18, ovr_rf, obn_at, oob_at ls.1, obn_at, l_sz ls, oin_at, if_pos (nI_le (by omega) (by omega))]
variable {d : Nat × Nat × Nat × tS × tS} {z : Unit} {a b : tT}
set_option maxHeartbeats 1000000 in
/-- one ARG, and those behind it -/
theorem ar_1 (hH : wH κ Tt mo y cnt A V nm pp U) (Ib : cAr κ Tt T0 mo y cnt A B D V nm kk f pp ee U b) {fs fp : List Value} {pa d0 cap q p : Nat} {mc : Int32} {gl : Nat → Option Nat} {fk' kb k t' w0 : Nat} {x2 : Int32} (c1 : V.1 m = some (.inr (7, fs))) (f18 : fs[18]? = some (.ref pa)) (l1 : cLs κ V pa d0 cap q mc gl 7) (hq : q ≤ 2000) (gp : gl k = some p) (ep : V.1 p = some (.inr (7, fp))) (f3 : fp[3]? = some (.int (pp w0))) (hcb : cTr κ T0 kk pp ee f B D lo V nm b env fk' gl (k + 1) q) (hi : i ≤ kb) (hrb : tRg b kb j) (hj : j ≤ cnt) (hdb : ∀ u, u ∈ env → u ∉ tEv b) (hndb : (tEv b).Nodup) (hlnb : (tEv b).length ≤ 2000) (hwb : tWr (cFd f pp ee) b env = []) (wb : tWf kk cnt b 2) (hkb : tKb 2000 b) (hsnb : tSn kk b) (hE : ∀ u, u ∈ env → u ∈ U) (hWb : ∀ u, u ∈ tW b → u ∈ U) {Wa : List Nat} (hWa : ∀ u, u ∈ Wa → u ∈ U) (hab : ∀ u, u ∈ Wa → u ∉ tW b) {R : mS × mF} {M : Nat} (le : mLe Wa s R.1) (h : cXE V y A mo nm env σ s g T) (hM : g.n + (M + tM b) ≤ mo) (hn : tDc b + 6 ≤ n) (ht : q < k + t') (hfd : ∀ x, k + x < q → ∃ p v, gl (k + x) = some p ∧ ofd σ (some p) 7 8 = some (.int v) ∧ (mSat s.1 → ∃ c, v = nI c ∧ gY g T s c (fun α => yL (mRs x s.2.2.2.2 α)))) {C : (Nat → Nat → Prop) → Prop} (hCC : ∀ X X' : Nat → Nat → Prop, (∀ a u fs, i ≤ u → u < kb → V.1 a = some (.inr (7, fs)) → fs[1]? = some (.int (pp u)) → X a u → X' a u) → C X → C X') (hI : cIo κ Tt mo y A V nm pp env σ g T n p R Wa M i kb C) : ∃ σ' g' T', ol_X10_inferCall_120 Tt (oF κ Tt n) κ t' (some y) (some m) x2 (nI k) σ = (obn (opf σ' (some m) 7 8 (.int x2)) fun s9 => some (none, s9)) ∧ cXE V y A mo nm env σ' (mE f pp ee b env (mCu (fun α => yR (s.2.2.2.2 α)) (mMu R.2 (fun α => yL (s.2.2.2.2 α)) (pp w0) R.1))).1 g' T' ∧ xE g T g' T' ∧ g'.n ≤ g.n + (M + tM b) ∧ (∀ u, u ∈ Wa ++ tW b → nY V nm σ' g' T' (mE f pp ee b env (mCu (fun α => yR (s.2.2.2.2 α)) (mMu R.2 (fun α => yL (s.2.2.2.2 α)) (pp w0) R.1))).1 u) ∧ wF V nm pp σ σ' i j (Wa ++ tW b) ∧ C (eY σ' g' T' (mE f pp ee b env (mCu (fun α => yR (s.2.2.2.2 α)) (mMu R.2 (fun α => yL (s.2.2.2.2 α)) (pp w0) R.1))).1) ∧ cTX κ T0 kk pp ee f B D (eY σ' g' T' (mE f pp ee b env (mCu (fun α => yR (s.2.2.2.2 α)) (mMu R.2 (fun α => yL (s.2.2.2.2 α)) (pp w0) R.1))).1) lo V nm b env fk' gl (k + 1) q := by
  obtain ⟨σ1, v1, g1, T1, i1, i2, i3, i4, i5, i6, i7, i8⟩ := hI
  have bq := args_nd b fk' gl (k + 1) q kb j wb hrb hcb
  have rb := tRg.le _ _ _ hrb
  have kq : k < q := by omega
  obtain ⟨p', v0, gp', fv0, tv0⟩ := hfd 0 (by omega)
  rw [Nat.add_zero, gp] at gp'
  injection gp' with gp'
  subst gp'
  obtain ⟨t', rfl⟩ : ∃ x, t' = x + 1 := ⟨t' - 1, by omega⟩
  obtain ⟨n, rfl⟩ : ∃ x, n = x + 3 := ⟨n - 3, by omega⟩
  obtain ⟨σ2, g2, m1, m2, m3, m4⟩ := i2.must (κ := κ) (n := n) (v1 := v1) (v2 := v0) (t2 := fun α => yL (s.2.2.2.2 α)) hH.1.1 hH.1.2.1 hH.1.2.2.1 (hH.1.2.2.2.2 w0) i5 (fun z => by
    obtain ⟨c, q1, q2⟩ := tv0 (le.sat z)
    exact ⟨c, q1, q2.up i3 le⟩)
  have m2' : cXE V y A mo nm env σ2 (mCu (fun α => yR (s.2.2.2.2 α)) (mMu R.2 (fun α => yL (s.2.2.2.2 α)) (pp w0) R.1)) g2 T1 := m2.cg rfl (Nat.le_refl _) rfl
  have le2 : mLe Wa s (mCu (fun α => yR (s.2.2.2.2 α)) (mMu R.2 (fun α => yL (s.2.2.2.2 α)) (pp w0) R.1)) := le.tr (((mLe.mu _ _ _ _).tr (mLe.cu _ _)).no _)
  have x12 : xE g T g2 T1 := i3.tr ⟨by omega, fun _ _ => rfl⟩
  obtain ⟨σ3, g3, T3, j1, j2, j3, j4, j5, j6, j7⟩ := Ib env σ2 _ g2 T1 m fs pa d0 cap q mc gl fk' lo kb j (k + 1) t' (n + 3) x2 c1 f18 l1 hq hcb hrb hj hdb hndb hlnb hwb wb hkb hsnb hE hWb m2' (by omega) hn (by omega) (fun x hx => by
    obtain ⟨p2, v2, g2', f2, t2⟩ := hfd (x + 1) (by omega)
    rw [show k + (x + 1) = k + 1 + x by omega] at g2'
    have hl : x < (aWd b).length := by omega
    obtain ⟨p3, fs3, e1, e2, -, e4⟩ := bq.2.2 x _ (List.getElem?_eq_getElem hl)
    rw [g2'] at e1; injection e1 with e1; subst e1
    have hw := bq.2.1.2.2 _ (List.getElem_mem hl)
    refine ⟨p2, v2, g2', ?_, fun z => ?_⟩
    · have s1 : σ1.1 p2 = σ.1 p2 := i7.nd hH e2 e4 (by omega) (by omega) (Or.inr (by omega))
      have s2 : σ2.1 p2 = σ1.1 p2 := m3.lo hH.1.2.1 hH.1.2.2.1 (h.1.1.lt e2)
      exact (ofd_cg (s2.trans s1)).trans f2
    · obtain ⟨c, q1, q2⟩ := t2 (le2.sat z)
      exact ⟨c, q1, q2.up x12 le2⟩)
  have ls := h.1.1.ls hH.1.2.2.2.1 l1
  have e18 : ofd σ (some m) 7 18 = some (.ref pa) := (h.1.1.nd c1 (by decide)).trans f18
  have lg : oF κ Tt (n + 3) 234 [va_rf (some pa), .int (nI k)] σ = some (some (va_rf (some p)), σ) := by rw [← gp]; exact l_get (ls.o (by omega)) (by omega)
  obtain ⟨fs', ep'⟩ := h.1.1.oc ep
  have oc : ocs σ (some p) 7 = true := by simp only [ocs, ep']; rfl
  have e3 : ofd σ1 (some p) 7 3 = some (.int (pp w0)) := (i2.1.1.nd ep (by decide)).trans f3
  refine ⟨σ3, g3, T3, ?_, j2, x12.tr j3, by omega, fun u hu => ?_, ?_, hCC _ _ (fun m' u fs q1 q2 q3 q4 q5 => ?_) i8, j7⟩
  · rw [ol_X10_inferCall_120, e18, ovr_rf, obn_at, oob_at ls.1, obn_at, l_sz (n := n + 2) ls, oin_at, if_neg (nI_ge (by omega) (by omega)), e18, ovr_rf, obn_at, oob_at ls.1, obn_at, lg, orn_at, ogd_at oc, fv0, ovi_in, obn_at, h.yo, obn_at, i1, oin_at, e3, ovi_in, obn_at, i2.yo, obn_at, m1, ocv_at, nI_p1]
    exact j1
  · rcases List.mem_append.mp hu with z | z
    · have z2 := ((i6 u z).yF hH.1.2.1 hH.1.2.2.1 i2.1.1 m3 (xE.rf g1 T1 |>.tr ⟨by omega, fun _ _ => rfl⟩ : xE g1 T1 g2 T1) ((mLe.mu R.2 (fun α => yL (s.2.2.2.2 α)) (pp w0) R.1).tr (mLe.cu (fun α => yR (s.2.2.2.2 α)) _)))
      exact j6.nY hH (hWa u z) hWb (hab u z) z2 j3 (mLe.e b _ _) (hab u z)
    · exact j5 u z
  · exact ((i7.wd (Nat.le_refl _) rb (fun u hu => List.mem_append_left _ hu)).tr (wF.yF hH.1.2.1 hH.1.2.2.1 i2.1.1 m3 i j _)).tr (j6.wd hi (Nat.le_refl _) (fun u hu => List.mem_append_right _ hu))
  · have e2 : σ2.1 m' = σ1.1 m' := m3.lo hH.1.2.1 hH.1.2.2.1 (h.1.1.lt q3)
    have e3 : σ3.1 m' = σ2.1 m' := j6.nd hH q3 q4 (by omega) hj (Or.inl (by omega))
    exact q5.up (e3.trans e2) (xE.tr ⟨by omega, fun _ _ => rfl⟩ j3) ((((mLe.mu _ _ _ _).tr (mLe.cu _ _)).no _).tr (mLe.e b _ _)) ((mE_tab b _ _ _ _ u hrb (Or.inl (by omega))).trans rfl)
end CAR
