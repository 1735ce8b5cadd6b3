/-! the class's infer: let rec -/
section CIQ
variable {κ : oKv} {Tt T0 mo y cnt : Nat} {A B : Nat → Nat} {D : cDt} {V σ σ1 : oSt} {nm : Nat → Option Nat} {env U W : List Nat} {kk f pp ee : Nat → Int32} {s s1 : mS} {g g1 : gG} {T T1 : Nat → mF} {n m lo fk i j : Nat}
variable {d : Nat × Nat × Nat × tS × tS} {z : Unit} {a b : tT}
set_option maxHeartbeats 2000000 in
/-- let rec NAME NAME.. = E in E -/
theorem in_2 (hH : wH κ Tt mo y cnt A V nm pp U) (Ia : cInf κ Tt T0 mo y cnt A B D V nm kk f pp ee U a) (Ib : cInf κ Tt T0 mo y cnt A B D V nm kk f pp ee U b) (hc : cTr κ T0 kk pp ee f B D lo V nm (.inner 2 d z a b) env fk (fun _ => none) 0 m) (hr : tRg (.inner 2 d z a b) i j) (hj : j ≤ cnt) (hd : ∀ u, u ∈ env → u ∉ tEv (.inner 2 d z a b)) (hnd : (tEv (.inner 2 d z a b)).Nodup) (hln : (tEv (.inner 2 d z a b)).length ≤ 2000) (hw : tWr (cFd f pp ee) (.inner 2 d z a b) env = []) (w0 : d.2.1 ≤ 4) (wa : tWf kk cnt a 0) (wb : tWf kk cnt b 0) (hk : tKb 2000 (.inner 2 d z a b)) (hsn : tSn kk (.inner 2 d z a b)) (hE : ∀ u, u ∈ env → u ∈ U) (hWU : ∀ u, u ∈ tW (.inner 2 d z a b) → u ∈ U) (h : cXE V y A mo nm env σ s g T) (hs : mSat s.1) (hM : g.n + tM (.inner 2 d z a b) ≤ mo) (hn : tDc (.inner 2 d z a b) + 6 ≤ n) : cIo κ Tt mo y A V nm pp env σ g T n m (mE f pp ee (.inner 2 d z a b) env s) (tW (.inner 2 d z a b)) (tM (.inner 2 d z a b)) i j (fun X => cTX κ T0 kk pp ee f B D X lo V nm (.inner 2 d z a b) env fk (fun _ => none) 0 m) := by
  have hd : ∀ u, u ∈ env → u ∉ ([d.1 + 2] ++ List.range' (d.1 + 3) d.2.1) ++ (tEv a ++ tEv b) := hd
  have hnd : (([d.1 + 2] ++ List.range' (d.1 + 3) d.2.1) ++ (tEv a ++ tEv b)).Nodup := hnd
  have hln : (([d.1 + 2] ++ List.range' (d.1 + 3) d.2.1) ++ (tEv a ++ tEv b)).length ≤ 2000 := hln
  simp only [List.length_append] at hln
  have hw : (tlW (cFd f pp ee) (d.1 + 2) env ++ paW (cFd f pp ee) d.2.1 (d.1 + 3) (env ++ [d.1 + 2])) ++ (tWr (cFd f pp ee) a (env ++ ([d.1 + 2] ++ List.range' (d.1 + 3) d.2.1)) ++ tWr (cFd f pp ee) b (env ++ [d.1 + 2])) = [] := hw
  have hWU : ∀ u, u ∈ (d.1 + 2) :: (List.range' (d.1 + 3) d.2.1 ++ (tW a ++ tW b)) → u ∈ U := hWU
  obtain ⟨-, hw⟩ := List.append_eq_nil_iff.mp hw
  obtain ⟨u1, u2⟩ := List.append_eq_nil_iff.mp hw
  obtain ⟨-, hnd2, hnd3⟩ := List.nodup_append.mp hnd
  obtain ⟨na, nb, nab⟩ := List.nodup_append.mp hnd2
  obtain ⟨ck, x, x2, w, q0, c1, cf, cn, cn2, c4, c5⟩ := hc
  obtain ⟨c2, -, q1, c3⟩ := id cn
  obtain ⟨d0, cap, mc, gg, l1, -, -, l2⟩ := id cn2
  obtain ⟨⟨r1, r2, -⟩, k, ⟨r3, -⟩, r4, r5⟩ := hr
  have r4' := tRg.le _ _ _ r4
  have r5' := tRg.le _ _ _ r5
  have hM : g.n + (2 * d.2.1 + 1 + tM a + tM b) ≤ mo := hM
  have hn : max (tDc a) (tDc b) + 2 + 6 ≤ n := hn
  obtain ⟨n, rfl⟩ : ∃ n', n = n' + 5 := ⟨n - 5, by omega⟩
  have wU : d.1 + 2 ∈ U := hWU _ (List.mem_cons_self ..)
  have pU : ∀ u, u ∈ List.range' (d.1 + 3) d.2.1 → u ∈ U := fun u hu => hWU u (List.mem_cons_of_mem _ (List.mem_append_left _ hu))
  have aU : ∀ u, u ∈ tW a → u ∈ U := fun u hu => hWU u (List.mem_cons_of_mem _ (List.mem_append_right _ (List.mem_append_left _ hu)))
  have bU : ∀ u, u ∈ tW b → u ∈ U := fun u hu => hWU u (List.mem_cons_of_mem _ (List.mem_append_right _ (List.mem_append_right _ hu)))
  have own : ∀ u, u ∈ [d.1 + 2] ++ List.range' (d.1 + 3) d.2.1 → u ∉ env := fun u hu z => hd u z (List.mem_append_left _ hu)
  have inr : ∀ x, x < d.2.1 → d.1 + 3 + x ∈ List.range' (d.1 + 3) d.2.1 := fun x hx => by rw [List.mem_range'_1]; omega
  have wE : d.1 + 2 ∉ env := own _ (List.mem_append_left _ (List.mem_singleton_self _))
  have wE1 : d.1 + 2 ∉ env ++ List.range' (d.1 + 3) d.2.1 := fun z => by
    rcases List.mem_append.mp z with z | z
    · exact wE z
    · rw [List.mem_range'_1] at z; omega
  have l2' : ∀ x, x < d.2.1 → ∃ b fb, gg x = some b ∧ nm (d.1 + 3 + x) = some b ∧ V.1 b = some (.inr (6, fb)) ∧ 2 < fb.length := fun x hx => by
    obtain ⟨b, z1, z2, -, qq, z3⟩ := l2 x hx
    exact ⟨b, _, z1, z2, z3, by show 2 < 8; omega⟩
  -- the parameters
  obtain ⟨σ1, g1, T1, a1, a2, a3, a4, a5⟩ := c_recL (n := n) hH c1 rfl l1 l2' w0 (fun x hx => pU _ (inr x hx)) (X := fun σ => obn (oob σ (some y) 12) fun _ => oin (oF κ Tt (n + 3) 146 [va_rf (some y), .int 0] σ) fun r13 s11 => obn (ovr (ofd s11 (some m) 7 10)) fun v14 => obn (opf s11 v14 6 2 (.int r13)) fun s16 => obn (ovr (ofd s16 (some m) 7 11)) fun v18 => obn (oob s16 v18 1) fun _ => oin (oF κ Tt (n + 3) 236 [va_rf v18] s16) fun r24 s22 => ol_X10_inferRec_62 Tt (oF κ Tt (n + 3)) κ Tt (some y) (some m) r13 (r24 - 1) s22) (fun t σ s g T env h => by
    have ls := h.1.1.ls hH.1.2.2.2.1 l1
    have f11 : ofd σ (some m) 7 11 = some (.ref q0) := (h.1.1.nd c1 (by decide)).trans rfl
    rw [ol_X10_inferRec_2, f11, ovr_rf, obn_at, oob_at ls.1, obn_at, l_sz (n := n + 2) ls, oin_at, if_pos (nI_le (Nat.le_refl _) (by omega))]) d.2.1 0 Tt env σ s g T (Nat.zero_add _) (by have := hH.1.1; omega) h hs hE (fun x _ hx => own _ (List.mem_append_right _ (inr x hx))) (by omega)
  rw [Nat.add_zero] at a2
  have e1 := mPb_eq d.2.1 (d.1 + 3) s
  obtain ⟨S1, hS1⟩ : ∃ x, x = mPb d.2.1 (d.1 + 3) s := ⟨_, rfl⟩
  rw [← hS1] at a2 e1
  have nv := mPa_nv d.2.1 (d.1 + 3) s.2.1 s
  have S1cs : S1.1 = s.1 := by rw [e1]; exact nv.2
  have S1nv : S1.2.1 = s.2.1 + d.2.1 := by rw [e1]; show (mPa d.2.1 (d.1 + 3) s.2.1 s).2.1 + d.2.1 = _; rw [nv.1]
  have S1s : mSat S1.1 := by rw [S1cs]; exact hs
  have hE1 : ∀ u, u ∈ env ++ List.range' (d.1 + 3) d.2.1 → u ∈ U := fun u hu => by
    rcases List.mem_append.mp hu with z | z
    · exact hE u z
    · exact pU u z
  -- what it answers
  obtain ⟨σ2, v2, g2, T2, b1, b2, b3, b4, b5, b6⟩ := a2.1.free (κ := κ) (Tt := Tt) (n := n + 2) hH.1.2.1 hH.1.2.2.1 (by omega)
  have h2 : cXE V y A mo nm (env ++ List.range' (d.1 + 3) d.2.1) σ2 (mFr 1 S1) g2 T2 := ⟨b2, fun u hu => (a2.2 u hu).yF hH.1.2.1 hH.1.2.2.1 a2.1.1 b3 b4 (mLe.fr 1 S1)⟩
  obtain ⟨σ3, p1, p2, p3, p4, p5⟩ := h2.1.name hH.1.2.1 hH.1.2.2.1 c3 (by show 2 < 8; omega) v2
  have h3 : cXE V y A mo nm (env ++ List.range' (d.1 + 3) d.2.1) σ3 (mFr 1 S1) g2 T2 := ⟨p2, fun u hu => (h2.2 u hu).up (fun b' e' => ofd_cg (p4 b' (fun q => wE1 (by
    have := hH.2.2.2 u (hE1 u hu) (d.1 + 2) wU (by rw [e', c2, q])
    rw [← this]; exact hu)))) (xE.rf _ _) (mLe.rf [] _) (fun q => by cases q)⟩
  have w23 : ∀ i j, wF V nm pp σ2 σ3 i j [d.1 + 2] := fun i j => ⟨fun a fs' e' _ => p4 a (fun q => by rw [q, c3] at e'; cases e'), fun b' fs' e' z => p4 b' (fun q => z (d.1 + 2) (List.mem_singleton_self _) (by rw [q]; exact c2)), p5⟩
  rw [S1nv] at b6
  -- its own type
  obtain ⟨σ4, g4, T4, v4, i1, i2, i3, i4, i5, i6, i7⟩ := c_recM (n := n) (x2 := v2) (s := mFr 1 S1) (v0 := s.2.1) hH c1 rfl rfl c3 (by show 2 < 8; omega) c2 wU l1 l2' w0 (fun x hx => List.mem_append_right _ (inr x hx)) hE1 wE1 (fun x hx => by
    show S1.2.2.1 (d.1 + 3 + x) = _
    rw [e1]
    exact mPa_at d.2.1 (d.1 + 3) s.2.1 s x hx) d.2.1 Tt σ3 g2 T2 v2 (mV (s.2.1 + d.2.1)) (Nat.le_refl _) (by have := hH.1.1; omega) h3 p3 (fun _ => b6 S1s) (by omega)
  have h4 := i2.told c2 c3 i5 i6 wE1
  have eS : mNt (d.1 + 2) (mFu d.2.1 s.2.1 (mV (s.2.1 + d.2.1))) (mFr 1 S1) = mNt (d.1 + 2) (mFu d.2.1 s.2.1 (mV (s.2.1 + d.2.1))) (mFr (d.2.1 + 1) (mPa d.2.1 (d.1 + 3) s.2.1 s)) := by rw [e1]; rfl
  rw [eS] at h4
  have h4' : cXE V y A mo nm (env ++ ([d.1 + 2] ++ List.range' (d.1 + 3) d.2.1)) σ4 (mNt (d.1 + 2) (mFu d.2.1 s.2.1 (mV (s.2.1 + d.2.1))) (mFr (d.2.1 + 1) (mPa d.2.1 (d.1 + 3) s.2.1 s))) g4 T4 := h4.sub (fun u hu => by
    rcases List.mem_append.mp hu with z | z
    · exact List.mem_append_left _ (List.mem_append_left _ z)
    · rcases List.mem_append.mp z with z | z
      · exact List.mem_append_right _ z
      · exact List.mem_append_left _ (List.mem_append_right _ z))
  obtain ⟨s0, hs0⟩ : ∃ x, x = mNt (d.1 + 2) (mFu d.2.1 s.2.1 (mV (s.2.1 + d.2.1))) (mFr (d.2.1 + 1) (mPa d.2.1 (d.1 + 3) s.2.1 s)) := ⟨_, rfl⟩
  rw [← hs0] at h4'
  have s0cs : s0.1 = s.1 := by rw [hs0]; exact nv.2
  -- its E
  obtain ⟨σ5, v5, g5, T5, j1, j2, j3, j4, j5, j6, j7, j8⟩ := Ia (env ++ ([d.1 + 2] ++ List.range' (d.1 + 3) d.2.1)) σ4 s0 g4 T4 x (fk + 1) lo (d.1 + 1) k (n + 3) c4 r4 (by omega) (fun u hu q => by
    rcases List.mem_append.mp hu with z | z
    · exact hd u z (List.mem_append_right _ (List.mem_append_left _ q))
    · exact hnd3 u z u (List.mem_append_left _ q) rfl) na (by omega) u1 wa hk.1 hsn.2.1 (fun u hu => by
    rcases List.mem_append.mp hu with z | z
    · exact hE u z
    · rcases List.mem_append.mp z with z | z
      · rw [List.mem_singleton.mp z]; exact wU
      · exact pU u z) aU h4' (by omega) (by omega)
  obtain ⟨fs2, y1, y2, -⟩ := cTr_pl wa r4 c4
  obtain ⟨σ6, g6, m1, m2, m3, m4⟩ := j2.must (κ := κ) (n := n) (v1 := v5) (v2 := v2) (t2 := mV (s.2.1 + d.2.1)) hH.1.1 hH.1.2.1 hH.1.2.2.1 (hH.1.2.2.2.2 (tFw a)) j5 (fun z => by
    obtain ⟨c, k1, k2⟩ := b6 S1s
    have k3 : gY g4 T4 s0 c (mV (s.2.1 + d.2.1)) := by
      have := k2.up i3 (mLe.rf [] (mFr 1 S1))
      refine ⟨this.1, fun α hα => this.2 α ?_⟩
      show mAll S1.1 α
      rw [S1cs, ← s0cs]
      exact hα
    exact ⟨c, k1, k3.up j3 (mLe.e a _ _)⟩)
  have m2' : cXE V y A mo nm (env ++ [d.1 + 2]) σ6 (mMu (mE f pp ee a (env ++ ([d.1 + 2] ++ List.range' (d.1 + 3) d.2.1)) s0).2 (mV (s.2.1 + d.2.1)) (pp (tFw a)) (mE f pp ee a (env ++ ([d.1 + 2] ++ List.range' (d.1 + 3) d.2.1)) s0).1) g6 T5 := m2.sub (fun u hu => by
    rcases List.mem_append.mp hu with z | z
    · exact List.mem_append_left _ z
    · exact List.mem_append_right _ (List.mem_append_left _ z))
  -- the E behind it
  obtain ⟨σ7, v7, g7, T7, k1, k2, k3, k4, k5, k6, k7, k8⟩ := Ib (env ++ [d.1 + 2]) σ6 _ g6 T5 x2 (fk + 1 + nF a) lo k j (n + 3) c5 r5 hj (fun u hu q => by
    rcases List.mem_append.mp hu with z | z
    · exact hd u z (List.mem_append_right _ (List.mem_append_right _ q))
    · exact hnd3 u (List.mem_append_left _ z) u (List.mem_append_right _ q) rfl) nb (by omega) u2 wb hk.2 hsn.2.2 (fun u hu => by
    rcases List.mem_append.mp hu with z | z
    · exact hE u z
    · rw [List.mem_singleton.mp z]; exact wU) bU m2' (by omega) (by omega)
  have R : mE f pp ee (.inner 2 d z a b) env s = (mEt d.1 (mE f pp ee b (env ++ [d.1 + 2]) (mMu (mE f pp ee a (env ++ ([d.1 + 2] ++ List.range' (d.1 + 3) d.2.1)) s0).2 (mV (s.2.1 + d.2.1)) (pp (tFw a)) (mE f pp ee a (env ++ ([d.1 + 2] ++ List.range' (d.1 + 3) d.2.1)) s0).1)).2 (mE f pp ee b (env ++ [d.1 + 2]) (mMu (mE f pp ee a (env ++ ([d.1 + 2] ++ List.range' (d.1 + 3) d.2.1)) s0).2 (mV (s.2.1 + d.2.1)) (pp (tFw a)) (mE f pp ee a (env ++ ([d.1 + 2] ++ List.range' (d.1 + 3) d.2.1)) s0).1)).1, (mE f pp ee b (env ++ [d.1 + 2]) (mMu (mE f pp ee a (env ++ ([d.1 + 2] ++ List.range' (d.1 + 3) d.2.1)) s0).2 (mV (s.2.1 + d.2.1)) (pp (tFw a)) (mE f pp ee a (env ++ ([d.1 + 2] ++ List.range' (d.1 + 3) d.2.1)) s0).1)).2) := by rw [hs0]; rfl
  rw [R]
  have ab : ∀ u, u ∈ tW a → u ∉ tW b := fun u z q => nab u (tW_ev a u z) u (tW_ev b u q) rfl
  have lift : ∀ u, u ∈ U → u ∉ tW b → nY V nm σ5 g5 T5 (mE f pp ee a (env ++ ([d.1 + 2] ++ List.range' (d.1 + 3) d.2.1)) s0).1 u → nY V nm σ7 g7 T7 (mE f pp ee b (env ++ [d.1 + 2]) (mMu (mE f pp ee a (env ++ ([d.1 + 2] ++ List.range' (d.1 + 3) d.2.1)) s0).2 (mV (s.2.1 + d.2.1)) (pp (tFw a)) (mE f pp ee a (env ++ ([d.1 + 2] ++ List.range' (d.1 + 3) d.2.1)) s0).1)).1 u := fun u hu hb z => k7.nY hH hu bU hb (z.yF hH.1.2.1 hH.1.2.2.1 j2.1.1 m3 ⟨by omega, fun _ _ => rfl⟩ (mLe.mu _ _ _ _)) k3 (mLe.e b _ _) hb
  have W3 : ∀ u, u ∈ (d.1 + 2) :: (List.range' (d.1 + 3) d.2.1 ++ (tW a ++ tW b)) → nY V nm σ7 g7 T7 (mE f pp ee b (env ++ [d.1 + 2]) (mMu (mE f pp ee a (env ++ ([d.1 + 2] ++ List.range' (d.1 + 3) d.2.1)) s0).2 (mV (s.2.1 + d.2.1)) (pp (tFw a)) (mE f pp ee a (env ++ ([d.1 + 2] ++ List.range' (d.1 + 3) d.2.1)) s0).1)).1 u := fun u hu => by
    rcases List.mem_cons.mp hu with z | z
    · rw [z]; exact k2.2 _ (List.mem_append_right _ (List.mem_singleton_self _))
    · rcases List.mem_append.mp z with z | z
      · exact lift u (pU u z) (fun q => hnd3 u (List.mem_append_right _ z) u (List.mem_append_right _ (tW_ev b u q)) rfl) (j2.2 u (List.mem_append_right _ (List.mem_append_right _ z)))
      · rcases List.mem_append.mp z with z | z
        · exact lift u (aU u z) (ab u z) (j6 u z)
        · exact k6 u z
  have one : ∀ u, u ∈ [d.1 + 2] → u ∈ (d.1 + 2) :: (List.range' (d.1 + 3) d.2.1 ++ (tW a ++ tW b)) := fun u hu => by rw [List.mem_singleton.mp hu]; exact List.mem_cons_self ..
  have W1 : wF V nm pp σ σ7 i j ((d.1 + 2) :: (List.range' (d.1 + 3) d.2.1 ++ (tW a ++ tW b))) := (((((((a5 i j).wd (Nat.le_refl _) (Nat.le_refl _) (fun u hu => List.mem_cons_of_mem _ (List.mem_append_left _ hu))).tr (wF.yF hH.1.2.1 hH.1.2.2.1 a2.1.1 b3 i j _)).tr ((w23 i j).wd (Nat.le_refl _) (Nat.le_refl _) one)).tr ((i7 i j).wd (Nat.le_refl _) (Nat.le_refl _) one)).tr (j7.wd (by omega) (by omega) (fun u hu => List.mem_cons_of_mem _ (List.mem_append_right _ (List.mem_append_left _ hu))))).tr (wF.yF hH.1.2.1 hH.1.2.2.1 j2.1.1 m3 i j _)).tr (k7.wd (by omega) (Nat.le_refl _) (fun u hu => List.mem_cons_of_mem _ (List.mem_append_right _ (List.mem_append_right _ hu))))
  refine c_close (call := oF κ Tt (n + 4)) hH (k2.sub (fun u hu => List.mem_append_left _ hu)) (((((a3.tr b4).tr i3).tr j3).tr ⟨by omega, fun _ _ => rfl⟩).tr k3) (M := tM (.inner 2 d z a b)) (by show _ ≤ g.n + (2 * d.2.1 + 1 + tM a + tM b); omega) k5 W3 hWU W1 c1 (by show 8 < 21; omega) rfl ⟨r1, r2⟩ hj (fun X y1 y2 => ⟨y1, ck, x, x2, w, q0, c1, cf, cn, cn2, cTX.imp a lo _ _ _ _ _ 0 x r4 (fun m' u fs q1 q2 q3 q4 q5 => y2 m' u fs (by omega) (by omega) (by omega) q3 q4 (by
    have e6 : σ6.1 m' = σ5.1 m' := m3.lo hH.1.2.1 hH.1.2.2.1 (h.1.1.lt q3)
    have e7 : σ7.1 m' = σ6.1 m' := k7.nd hH q3 q4 (by omega) hj (Or.inl (by omega))
    exact q5.up (e7.trans e6) (xE.tr ⟨by omega, fun _ _ => rfl⟩ k3) (((mLe.mu _ _ _ _).no _).tr (mLe.e b _ _)) ((mE_tab b _ _ _ _ u r5 (Or.inl (by omega))).trans rfl))) j8, cTX.imp b lo _ _ _ _ _ 0 x2 r5 (fun m' u fs q1 q2 q3 q4 q5 => y2 m' u fs (by omega) (by omega) (by omega) q3 q4 q5) k8⟩) (fun σ8 q1 q2 => ?_)
  have f0 : ofd σ (some m) 7 0 = some (.int 219) := (h.1.1.nd c1 (by decide)).trans rfl
  have f10 : ofd σ2 (some m) 7 10 = some (.ref w) := (b2.1.nd c1 (by decide)).trans rfl
  have f11 : ofd σ3 (some m) 7 11 = some (.ref q0) := (p2.1.nd c1 (by decide)).trans rfl
  have f12 : ofd σ4 (some m) 7 12 = some (.ref x) := (i2.1.1.nd c1 (by decide)).trans rfl
  have f12' : ofd σ5 (some m) 7 12 = some (.ref x) := (j2.1.1.nd c1 (by decide)).trans rfl
  have f1 : ofd σ5 (some x) 7 1 = some (.int (pp (tFw a))) := (j2.1.1.nd y1 (by decide)).trans y2
  have f13 : ofd σ6 (some m) 7 13 = some (.ref x2) := (m2.1.1.nd c1 (by decide)).trans rfl
  have ls3 := p2.1.ls hH.1.2.2.2.1 l1
  have im : oF κ Tt (n + 4) 159 [va_rf (some y), va_rf (some m)] σ = some (none, σ8) := by
    rw [show n + 4 = (n + 3) + 1 from rfl, oE_X10_inferRec]
    unfold ob_X10_inferRec
    refine Eq.trans a1 ?_
    obtain ⟨t1, ht1⟩ : ∃ t1, Tt - d.2.1 = t1 + 1 := ⟨Tt - d.2.1 - 1, by have := hH.1.1; omega⟩
    show obn (oob σ1 (some y) 12) _ = _
    rw [a2.yo, obn_at, b1, oin_at, f10, ovr_rf, obn_at, p1, obn_at, f11, ovr_rf, obn_at, oob_at ls3.1, obn_at, l_sz (n := n + 2) ls3, oin_at, i1, ht1, ol_X10_inferRec_62, if_pos (show (-1 : Int32) < 0 by decide), f12, ovr_rf, obn_at, i2.yo, obn_at, j1, oin_at, f12', ovr_rf, obn_at, f1, ovi_in, obn_at, j2.yo, obn_at, m1, ocv_at, f13, ovr_rf, obn_at, m2.yo, obn_at, k1, oin_at, q1, obn_at]
  rw [show n + 5 = (n + 4) + 1 from rfl, oE_X10_infer]
  unfold ob_X10_infer
  rw [h.ft hs, obn_at, if_pos (show (-1 : Int32) < 0 by decide), f0, ovi_in, obn_at, if_neg (by decide), if_neg (by decide), if_neg (by decide), if_neg (by decide), if_neg (by decide), if_neg (by decide), if_pos rfl, h.yo, obn_at, im, ocv_at]
  exact q2
end CIQ
