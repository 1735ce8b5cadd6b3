/-! the class's infer: ( E ), assert, set, let, fun -/
/-- what infer() gives -/
def cIo (κ : oKv) (Tt mo y : Nat) (A : Nat → Nat) (V : oSt) (nm : Nat → Option Nat) (pp : Nat → Int32) (env : List Nat) (σ : oSt) (g : gG) (T : Nat → mF) (n m : Nat) (R : mS × mF) (W : List Nat) (M i j : Nat) (C : (Nat → Nat → Prop) → Prop) : Prop := ∃ σ' v g' T', oF κ Tt n 156 [va_rf (some y), va_rf (some m)] σ = some (some (.int v), σ') ∧ cXE V y A mo nm env σ' R.1 g' T' ∧ xE g T g' T' ∧ g'.n ≤ g.n + M ∧ (mSat R.1.1 → ∃ c, v = nI c ∧ gY g' T' R.1 c R.2) ∧ (∀ u, u ∈ W → nY V nm σ' g' T' R.1 u) ∧ wF V nm pp σ σ' i j W ∧ C (eY σ' g' T' R.1)
section CIT
variable {κ : oKv} {Tt T0 mo y cnt : Nat} {A B : Nat → Nat} {D : cDt} {V σ σ1 : oSt} {nm : Nat → Option Nat} {env U W : List Nat} {kk f pp ee : Nat → Int32} {s s1 : mS} {g g1 : gG} {T T1 : Nat → mF} {n m lo fk i j : Nat}
theorem cXE.ft (h : cXE V y A mo nm env σ s g T) (hs : mSat s.1) : ovi (ofd σ (some y) 12 8) = some (-1) := by
  rcases h.1.2 with ⟨-, F, q, -⟩ | ⟨pl, c, F, q, -⟩
  · exact q.row.2.2.2.2.2.2.2.2.1
  · exact absurd hs q.no
theorem cXE.sub {env' : List Nat} (h : cXE V y A mo nm env' σ s g T) (he : ∀ u, u ∈ env → u ∈ env') : cXE V y A mo nm env σ s g T := ⟨h.1, fun u hu => h.2 u (he u hu)⟩
/-- a NAME's type is put -/
theorem cXE.tell (hH : wH κ Tt mo y cnt A V nm pp U) (h : cXE V y A mo nm env σ s g T) {w b : Nat} {fs : List Value} {v : Int32} {ty : mF} (hb : nm w = some b) (e : V.1 b = some (.inr (6, fs))) (hl : 2 < fs.length) (hv : mSat s.1 → ∃ c, v = nI c ∧ gY g T s c ty) (hw : w ∉ env) (hU : w ∈ U) (hE : ∀ u, u ∈ env → u ∈ U) : ∃ σ', opf σ (some b) 6 2 (.int v) = some σ' ∧ cXE V y A mo nm (env ++ [w]) σ' (mNt w ty s) g T ∧ (∀ i j, wF V nm pp σ σ' i j [w]) ∧ ofd σ' (some b) 6 2 = some (.int v) := by
  obtain ⟨σ', a1, a2, a3, a4, a5⟩ := h.1.name hH.1.2.1 hH.1.2.2.1 e hl v
  refine ⟨σ', a1, ⟨a2.cg rfl (Nat.le_refl _), fun u hu => ?_⟩, fun i j => ⟨fun a fs' e' _ => a4 a (fun q => by rw [q, e] at e'; cases e'), fun b' fs' e' z => a4 b' (fun q => z w (List.mem_singleton_self _) (by rw [q]; exact hb)), a5⟩, a3⟩
  rcases List.mem_append.mp hu with z | z
  · have ne : u ≠ w := fun q => hw (by rw [← q]; exact z)
    refine (h.2 u z).up (fun b' e' => ofd_cg (a4 b' (fun q => ne (hH.2.2.2 u (hE u z) w hU (by rw [e', hb, q]))))) (xE.rf g T) (mLe.nt w ty s) (fun q => ne (List.mem_singleton.mp q))
  · rw [List.mem_singleton.mp z]
    refine ⟨b, fs, v, hb, e, a3, fun q => ?_⟩
    obtain ⟨c, c1, c2⟩ := hv q
    exact ⟨c, c1, c2.1, fun α hα => by show T c α = mUp s.2.2.1 w ty w α; rw [mUp_at]; exact c2.2 α hα⟩
/-- the end of infer(): the node's type -/
theorem c_close (hH : wH κ Tt mo y cnt A V nm pp U) {call : oCl} (h : cXE V y A mo nm env σ1 s1 g1 T1) (hx : xE g T g1 T1) {M : Nat} (hM : g1.n ≤ g.n + M) {v : Int32} {ty : mF} (hv : mSat s1.1 → ∃ c, v = nI c ∧ gY g1 T1 s1 c ty) (hW : ∀ u, u ∈ W → nY V nm σ1 g1 T1 s1 u) (hWU : ∀ u, u ∈ W → u ∈ U) (hf : wF V nm pp σ σ1 i j W) {w : Nat} {fs : List Value} (e : V.1 m = some (.inr (7, fs))) (hl : 8 < fs.length) (hp : fs[1]? = some (.int (pp w))) (hw : i ≤ w ∧ w < j) {C : (Nat → Nat → Prop) → Prop} (hj : j ≤ cnt) (hC : ∀ X : Nat → Nat → Prop, X m w → (∀ a u fs, u ≠ w → i ≤ u → u < j → V.1 a = some (.inr (7, fs)) → fs[1]? = some (.int (pp u)) → eY σ1 g1 T1 s1 a u → X a u) → C X) (heq : ∀ σ2, opf σ1 (some m) 7 8 (.int v) = some σ2 → oj_X10_infer_351 Tt call κ (some m) σ2 = some (some (.int v), σ2) → oF κ Tt n 156 [va_rf (some y), va_rf (some m)] σ = some (some (.int v), σ2)) : cIo κ Tt mo y A V nm pp env σ g T n m (mEt w ty s1, ty) W M i j C := by
  obtain ⟨σ2, e1, e2, e3, e4, e5, e6⟩ := c_end2 (call := call) hH h e hl hp hw v ty []
  refine ⟨σ2, v, g1, T1, heq σ2 e1 e2, e3, hx, hM, hv, fun u hu => e5.nY hH (hWU u hu) (fun w z => by cases z) (fun z => by cases z) (hW u hu) (xE.rf _ _) (mLe.et w ty s1) (fun z => by cases z), hf.tr (e5.wd (Nat.le_refl _) (Nat.le_refl _) (fun u z => by cases z)), hC _ (fun z => ?_) (fun a u fs' n1 n2 n3 n4 n5 n6 => ?_)⟩
  · obtain ⟨c, q1, q2⟩ := hv z
    refine ⟨c, by rw [e4, q1], ?_⟩
    show gY g1 T1 (mEt w ty s1) c (mUp s1.2.2.2.1 w ty w)
    rw [mUp_at]
    exact q2.up (xE.rf _ _) (mLe.et w ty s1)
  · have ne : a ≠ m := fun q => by
      subst q
      rw [e] at n4; injection n4 with n4; injection n4 with n4; injection n4 with _ n4; subst n4
      rw [hp] at n5; injection n5 with n5; injection n5 with n5
      exact n1 (hH.2.1 w u (by omega) (by omega) n5).symm
    exact n6.up (e6 a ne) (xE.rf _ _) (mLe.et w ty s1) (mUp_ne _ _ n1)
variable {d : Nat × Nat × Nat × tS × tS} {z : Unit} {a b : tT}
/-- ( E ) -/
theorem in_16 (hH : wH κ Tt mo y cnt A V nm pp U) (Ia : cInf κ Tt T0 mo y cnt A B D V nm kk f pp ee U a) (hc : cTr κ T0 kk pp ee f B D lo V nm (.inner 16 d z a b) env fk (fun _ => none) 0 m) (hr : tRg (.inner 16 d z a b) i j) (hj : j ≤ cnt) (hd : ∀ u, u ∈ env → u ∉ tEv (.inner 16 d z a b)) (hnd : (tEv (.inner 16 d z a b)).Nodup) (hln : (tEv (.inner 16 d z a b)).length ≤ 2000) (hw : tWr (cFd f pp ee) (.inner 16 d z a b) env = []) (e1 : d.2.2.2.1.2 = []) (e2 : d.2.2.2.2.2 = []) (wa : tWf kk cnt a 0) (eb : b = .leaf) (hk : tKb 2000 (.inner 16 d z a b)) (hsn : tSn kk (.inner 16 d z a b)) (hE : ∀ u, u ∈ env → u ∈ U) (hWU : ∀ u, u ∈ tW (.inner 16 d z a b) → u ∈ U) (h : cXE V y A mo nm env σ s g T) (hs : mSat s.1) (hM : g.n + tM (.inner 16 d z a b) ≤ mo) (hn : tDc (.inner 16 d z a b) + 6 ≤ n) : cIo κ Tt mo y A V nm pp env σ g T n m (mE f pp ee (.inner 16 d z a b) env s) (tW (.inner 16 d z a b)) (tM (.inner 16 d z a b)) i j (fun X => cTX κ T0 kk pp ee f B D X lo V nm (.inner 16 d z a b) env fk (fun _ => none) 0 m) := by
  subst eb
  have ev : tEv (.inner 16 d z a .leaf) = tEv a := by
    show sEv d.2.2.2.1.2 ++ (sEv d.2.2.2.2.2 ++ (tEv a ++ [])) = _
    rw [e1, e2]; simp [sEv, sNm]
  have ew : tW (.inner 16 d z a .leaf) = tW a := by show tW a ++ [] = _; rw [List.append_nil]
  have wr : tWr (cFd f pp ee) a env = [] := by
    have hw : plW (cFd f pp ee) env (sEv d.2.2.2.1.2) ++ (plW (cFd f pp ee) env (sEv d.2.2.2.2.2) ++ (tWr (cFd f pp ee) a env ++ [])) = [] := hw
    exact (List.append_eq_nil_iff.mp (List.append_eq_nil_iff.mp (List.append_eq_nil_iff.mp hw).2).2).1
  rw [ev] at hd hnd hln
  rw [ew] at hWU ⊢
  obtain ⟨ck, x, c1, c2⟩ := hc
  obtain ⟨⟨r1, r2, -⟩, k, ⟨r3, -⟩, r4, r5⟩ := hr
  have r5 : k ≤ j := r5
  have hM : g.n + (0 + tM a + 0) ≤ mo := hM
  have hn : max (tDc a) 0 + 2 + 6 ≤ n := hn
  obtain ⟨n, rfl⟩ : ∃ n', n = n' + 1 := ⟨n - 1, by omega⟩
  obtain ⟨σ1, v, g1, T1, i1, i2, i3, i4, i5, i6, i7, i8⟩ := Ia env σ s g T x fk lo (d.1 + 1) k n c2 r4 (by omega) hd hnd hln wr wa hk.1 hsn.2.1 hE hWU h (by omega) (by omega)
  refine c_close (call := oF κ Tt n) hH i2 i3 (M := tM (.inner 16 d z a .leaf)) (by show _ ≤ g.n + (0 + tM a + 0); omega) i5 i6 hWU (i7.wd (by omega) (by omega) (fun u hu => hu)) c1 (by show 8 < 21; omega) rfl ⟨r1, r2⟩ hj (fun X _ x2 => ⟨ck, x, c1, cTX.imp a lo _ _ env fk _ 0 x r4 (fun m' u fs q1 q2 q3 q4 q5 => x2 m' u fs (by omega) (by omega) (by omega) q3 q4 q5) i8⟩) (fun σ2 q1 q2 => ?_)
  have c0 : ofd σ (some m) 7 0 = some (.int 40) := (h.1.1.nd c1 (by decide)).trans rfl
  have c12 : ofd σ (some m) 7 12 = some (.ref x) := (h.1.1.nd c1 (by decide)).trans rfl
  rw [oE_X10_infer]
  unfold ob_X10_infer
  rw [h.ft hs, obn_at, if_pos (show (-1 : Int32) < 0 by decide), c0, ovi_in, obn_at, if_pos rfl, c12, ovr_rf, obn_at, h.yo, obn_at, i1, oin_at, q1, obn_at]
  exact q2
/-- assert C; E -/
theorem in_5 (hH : wH κ Tt mo y cnt A V nm pp U) (Ib : cInf κ Tt T0 mo y cnt A B D V nm kk f pp ee U b) (hc : cTr κ T0 kk pp ee f B D lo V nm (.inner 5 d z a b) env fk (fun _ => none) 0 m) (hr : tRg (.inner 5 d z a b) i j) (hj : j ≤ cnt) (hd : ∀ u, u ∈ env → u ∉ tEv (.inner 5 d z a b)) (hnd : (tEv (.inner 5 d z a b)).Nodup) (hln : (tEv (.inner 5 d z a b)).length ≤ 2000) (hw : tWr (cFd f pp ee) (.inner 5 d z a b) env = []) (wc : cWf cnt a false) (wb : tWf kk cnt b 0) (hk : tKb 2000 (.inner 5 d z a b)) (hsn : tSn kk (.inner 5 d z a b)) (hE : ∀ u, u ∈ env → u ∈ U) (hWU : ∀ u, u ∈ tW (.inner 5 d z a b) → u ∈ U) (h : cXE V y A mo nm env σ s g T) (hs : mSat s.1) (hM : g.n + tM (.inner 5 d z a b) ≤ mo) (hn : tDc (.inner 5 d z a b) + 6 ≤ n) : cIo κ Tt mo y A V nm pp env σ g T n m (mE f pp ee (.inner 5 d z a b) env s) (tW (.inner 5 d z a b)) (tM (.inner 5 d z a b)) i j (fun X => cTX κ T0 kk pp ee f B D X lo V nm (.inner 5 d z a b) env fk (fun _ => none) 0 m) := by
  have hd : ∀ u, u ∈ env → u ∉ cEv a ++ tEv b := hd
  have hnd : (cEv a ++ tEv b).Nodup := hnd
  have hln : (cEv a ++ tEv b).length ≤ 2000 := hln
  rw [List.length_append] at hln
  have hw : plW (cFd f pp ee) env (cEv a) ++ tWr (cFd f pp ee) b env = [] := hw
  obtain ⟨wr1, wr2⟩ := List.append_eq_nil_iff.mp hw
  obtain ⟨ck, c, x, c1, c2, c3⟩ := hc
  obtain ⟨⟨r1, r2, -⟩, k, ⟨r3, -⟩, -, r5⟩ := hr
  have hM : g.n + (0 + 0 + tM b) ≤ mo := hM
  have hn : max (cDp a) (tDc b) + 2 + 6 ≤ n := hn
  obtain ⟨n, rfl⟩ : ∃ n', n = n' + 1 := ⟨n - 1, by omega⟩
  obtain ⟨σ1, g1, t1, t2, t3, t4⟩ := (c_tst (κ := κ) (T := T) (cnt := cnt) hH.1.1 hH.1.2.1 hH.1.2.2.1 hH.1.2.2.2.1 hH.1.2.2.2.2 a).1 c wc hk.1 (by omega) wr1 c2 σ s g n (by omega) h
  have w1 := wF.yF (nm := nm) (pp := pp) hH.1.2.1 hH.1.2.2.1 h.1.1 t3 i j (tW b)
  have hdb : ∀ u, u ∈ env → u ∉ tEv b := fun u hu q => hd u hu (List.mem_append_right _ q)
  have fin : ∀ σ2 v g2 T2, oF κ Tt n 156 [va_rf (some y), va_rf (some x)] σ1 = some (some (.int v), σ2) → cXE V y A mo nm env σ2 (mE f pp ee b env (mCt f pp ee env a s)).1 g2 T2 → xE g1 T g2 T2 → g2.n ≤ g1.n + tM b → (mSat (mE f pp ee b env (mCt f pp ee env a s)).1.1 → ∃ c, v = nI c ∧ gY g2 T2 (mE f pp ee b env (mCt f pp ee env a s)).1 c (mE f pp ee b env (mCt f pp ee env a s)).2) → (∀ u, u ∈ tW b → nY V nm σ2 g2 T2 (mE f pp ee b env (mCt f pp ee env a s)).1 u) → wF V nm pp σ1 σ2 k j (tW b) → cTX κ T0 kk pp ee f B D (eY σ2 g2 T2 (mE f pp ee b env (mCt f pp ee env a s)).1) lo V nm b env fk (fun _ => none) 0 x → cIo κ Tt mo y A V nm pp env σ g T (n + 1) m (mE f pp ee (.inner 5 d z a b) env s) (tW b) (tM (.inner 5 d z a b)) i j (fun X => cTX κ T0 kk pp ee f B D X lo V nm (.inner 5 d z a b) env fk (fun _ => none) 0 m) := fun σ2 v g2 T2 i1 i2 i3 i4 i5 i6 i7 i8 => by
    refine c_close (call := oF κ Tt n) hH i2 (xE.tr ⟨by omega, fun _ _ => rfl⟩ i3) (M := tM (.inner 5 d z a b)) (by show _ ≤ g.n + (0 + 0 + tM b); omega) i5 i6 hWU (w1.tr (i7.wd (by omega) (Nat.le_refl _) (fun u hu => hu))) c1 (by show 8 < 21; omega) rfl ⟨r1, r2⟩ hj (fun X _ x2 => ⟨ck, c, x, c1, c2, cTX.imp b lo _ _ env fk _ 0 x r5 (fun m' u fs q1 q2 q3 q4 q5 => x2 m' u fs (by omega) (by omega) (by omega) q3 q4 q5) i8⟩) (fun σ3 q1 q2 => ?_)
    have c0 : ofd σ (some m) 7 0 = some (.int 201) := (h.1.1.nd c1 (by decide)).trans rfl
    have c14 : ofd σ (some m) 7 14 = some (.ref c) := (h.1.1.nd c1 (by decide)).trans rfl
    have c12 : ofd σ1 (some m) 7 12 = some (.ref x) := (t2.1.1.nd c1 (by decide)).trans rfl
    rw [oE_X10_infer]
    unfold ob_X10_infer
    rw [h.ft hs, obn_at, if_pos (show (-1 : Int32) < 0 by decide), c0, ovi_in, obn_at, if_neg (by decide), if_pos rfl, c14, ovr_rf, obn_at, h.yo, obn_at, t1, ocv_at, c12, ovr_rf, obn_at, t2.yo, obn_at, i1, oin_at, q1, obn_at]
    exact q2
  obtain ⟨σ2, v, g2, T2, i1, i2, i3, i4, i5, i6, i7, i8⟩ := Ib env σ1 _ g1 T x fk lo k j n c3 r5 hj hdb (List.nodup_append.mp hnd).2.1 (by omega) wr2 wb hk.2 hsn.2.2 hE hWU t2 (by omega) (by omega)
  exact fin σ2 v g2 T2 i1 i2 i3 i4 i5 i6 i7 i8
end CIT
