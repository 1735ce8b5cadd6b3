/-! the class's infer: E's without an E in them -/
section CPL
variable {κ : oKv} {Tt T0 mo y cnt : Nat} {A B : Nat → Nat} {D : cDt} {V σ : oSt} {nm : Nat → Option Nat} {env U : List Nat} {kk f pp ee : Nat → Int32} {s : mS} {g : gG} {T : Nat → mF} {n m lo fk : Nat}
theorem c_ckq (hH : wH κ Tt mo y cnt A V nm pp U) {l : Nat} {mk : Int32} {S : tS} {al : Int32} {su : Nat} (hS : cSq κ T0 pp ee f B D lo V l mk env.length (nR f pp ee nm env) S al su) (hln : (sEv S.2).length ≤ 2000) (hw : plW (cFd f pp ee) env (sEv S.2) = []) (h : cXE V y A mo nm env σ s g T) : ∃ σ' g', oF κ Tt (n + 4) 153 [va_rf (some y), va_rf (some l)] σ = some (none, σ') ∧ cXE V y A mo nm env σ' (mPs f pp ee env S.2 s) g' T ∧ yF y A σ σ' ∧ g'.n = g.n := by
  obtain ⟨pa, na, ta, cap, pc, e1, ⟨d, mc, gg, e2, e3, -⟩, -⟩ := hS
  have sl : (sEv S.2).length = (sNm S.2).length := List.length_map ..
  exact c_ck hH.1.1 hH.1.2.1 hH.1.2.2.1 hH.1.2.2.2.1 hH.1.2.2.2.2 e1 rfl e2 (fun k p hp => by obtain ⟨a, a1, -, -, a2⟩ := e3 k p hp; exact ⟨a, a1, a2⟩) (by omega) hw h
/-- what inferPlain gives -/
def cPl (κ : oKv) (Tt y : Nat) (A : Nat → Nat) (mo : Nat) (V : oSt) (nm : Nat → Option Nat) (env : List Nat) (σ : oSt) (g : gG) (T : Nat → mF) (n m : Nat) (s1 : mS) (ty : mF) : Prop := ∃ σ1 v g1, oF κ Tt n 155 [va_rf (some y), va_rf (some m)] σ = some (some (.int v), σ1) ∧ cXE V y A mo nm env σ1 s1 g1 T ∧ yF y A σ σ1 ∧ g1.n = g.n ∧ (mSat s1.1 → ∃ c, v = nI c ∧ gY g1 T s1 c ty)
/-- infer() where inferPlain() finds the type -/
theorem c_pl (hH : wH κ Tt mo y cnt A V nm pp U) {fs : List Value} {code : Int32} {w i j : Nat} {s1 : mS} {ty : mF} (he : V.1 m = some (.inr (7, fs))) (hl : 8 < fs.length) (h0 : fs[0]? = some (.int code)) (hc : code ≠ 40 ∧ code ≠ 201 ∧ code ≠ 206 ∧ code ≠ 207 ∧ code ≠ 212 ∧ code ≠ 214 ∧ code ≠ 219 ∧ code ≠ 220 ∧ code ≠ 401) (hp : fs[1]? = some (.int (pp w))) (hw : i ≤ w ∧ w < j) (h : cXE V y A mo nm env σ s g T) (hs : mSat s.1) (hP : cPl κ Tt y A mo V nm env σ g T n m s1 ty) : ∃ σ' v g' T', oF κ Tt (n + 1) 156 [va_rf (some y), va_rf (some m)] σ = some (some (.int v), σ') ∧ cXE V y A mo nm env σ' (mEt w ty s1) g' T' ∧ xE g T g' T' ∧ g'.n ≤ g.n + 0 ∧ (mSat (mEt w ty s1).1 → ∃ c, v = nI c ∧ gY g' T' (mEt w ty s1) c ty) ∧ (∀ u, u ∈ ([] : List Nat) → nY V nm σ' g' T' (mEt w ty s1) u) ∧ wF V nm pp σ σ' i j [] := by
  obtain ⟨σ1, v, g1, p1, p2, p3, p4, p5⟩ := hP
  obtain ⟨σ2, e1, e2, e3, e4, e5⟩ := c_end (call := oF κ Tt n) hH p2 he hl hp hw v ty []
  have ft : ovi (ofd σ (some y) 12 8) = some (-1) := by
    rcases h.1.2 with ⟨-, F, q, -⟩ | ⟨pl, c, F, q, -⟩
    · exact q.row.2.2.2.2.2.2.2.2.1
    · exact absurd hs q.no
  have c0 : ofd σ (some m) 7 0 = some (.int code) := (h.1.1.nd he (by decide)).trans h0
  refine ⟨σ2, v, g1, T, ?_, e3, ⟨by omega, fun _ _ => rfl⟩, by omega, fun z => ?_, fun u hu => (by cases hu), (wF.yF hH.1.2.1 hH.1.2.2.1 h.1.1 p3 i j []).tr e5⟩
  · rw [oE_X10_infer]
    unfold ob_X10_infer
    rw [ft, obn_at, if_pos (show (-1 : Int32) < 0 by decide), c0, ovi_in, obn_at, if_neg hc.1, if_neg hc.2.1, if_neg hc.2.2.1, if_neg hc.2.2.2.1, if_neg hc.2.2.2.2.1, if_neg hc.2.2.2.2.2.1, if_neg hc.2.2.2.2.2.2.1, if_neg hc.2.2.2.2.2.2.2.1, if_neg hc.2.2.2.2.2.2.2.2, h.yo, obn_at, p1, oin_at, e1, obn_at]
    exact e2
  · obtain ⟨c, q1, q2⟩ := p5 z
    exact ⟨c, q1, q2⟩
variable {d : Nat × Nat × Nat × tS × tS} {z : Unit} {a b : tT}
theorem pl_bas (h : cXE V y A mo nm env σ s g T) {k : Nat} {x code : Int32} {fs : List Value} (he : V.1 m = some (.inr (7, fs))) (h0 : fs[0]? = some (.int code)) (hk : k < 4) (hb : (if x = 202 then (1 : Int32) else if x = 200 then 2 else if x = 213 then 3 else 0) = nI k) (hc : (code = 205 ∧ x = 202) ∨ (code = 223 ∧ x = 202) ∨ (code = 216 ∧ x = 213)) : cPl κ Tt y A mo V nm env σ g T (n + 2) m s (mB k) := by
  have c0 : ofd σ (some m) 7 0 = some (.int code) := (h.1.1.nd he (by decide)).trans h0
  refine ⟨σ, nI k, g, ?_, h, yF.rf y A σ, rfl, fun z => ⟨k, rfl, h.1.bas z hk⟩⟩
  rw [oE_X10_inferPlain]
  unfold ob_X10_inferPlain
  rw [c0, ovi_in, obn_at]
  rcases hc with ⟨rfl, rfl⟩ | ⟨rfl, rfl⟩ | ⟨rfl, rfl⟩
  · rw [if_neg (by decide), if_neg (by decide), if_pos rfl, c_basic (n := n), oin_at, hb]
  · rw [if_neg (by decide), if_neg (by decide), if_neg (by decide), if_neg (by decide), if_neg (by decide), if_pos rfl, c_basic (n := n), oin_at, hb]
  · rw [if_neg (by decide), if_neg (by decide), if_neg (by decide), if_neg (by decide), if_pos rfl, c_basic (n := n), oin_at, hb]
/-- new S -/
theorem pl_7 (hH : wH κ Tt mo y cnt A V nm pp U) (h : cXE V y A mo nm env σ s g T) (hc : cTr κ T0 kk pp ee f B D lo V nm (.inner 7 d z a b) env fk (fun _ => none) 0 m) (hl : (sEv d.2.2.2.1.2).length ≤ 2000) (hw : plW (cFd f pp ee) env (sEv d.2.2.2.1.2) = []) : cPl κ Tt y A mo V nm env σ g T (n + 5) m (mPs f pp ee env d.2.2.2.1.2 s) (mB 2) := by
  obtain ⟨-, l, c, su, e1, e2, -⟩ := hc
  obtain ⟨σ1, g1, m1, m2, m3, m4⟩ := c_ckq (n := n) hH e2 hl hw h
  have c0 : ofd σ (some m) 7 0 = some (.int 215) := (h.1.1.nd e1 (by decide)).trans rfl
  have c15 : ofd σ (some m) 7 15 = some (.ref l) := (h.1.1.nd e1 (by decide)).trans rfl
  refine ⟨σ1, 2, g1, ?_, m2, m3, m4, fun z => ⟨2, rfl, m2.1.bas z (by decide)⟩⟩
  rw [show n + 5 = (n + 4) + 1 from rfl, oE_X10_inferPlain]
  unfold ob_X10_inferPlain
  rw [c0, ovi_in, obn_at, if_neg (by decide), if_neg (by decide), if_neg (by decide), if_pos rfl, c15, ovr_rf, obn_at, h.yo, obn_at, m1, ocv_at, c_basic (n := n + 3), oin_at]
  rfl
/-- S * S, S / S, S % S -/
theorem pl_2 (hH : wH κ Tt mo y cnt A V nm pp U) (h : cXE V y A mo nm env σ s g T) {l r su su' : Nat} {code mk1 mk2 : Int32} {fs : List Value} {S S' : tS} {al al' : Int32} (e1 : V.1 m = some (.inr (7, fs))) (f0 : fs[0]? = some (.int code)) (f15 : fs[15]? = some (.ref l)) (f16 : fs[16]? = some (.ref r)) (hcd : code = 42 ∨ code = 47 ∨ code = 37) (e2 : cSq κ T0 pp ee f B D lo V l mk1 env.length (nR f pp ee nm env) S al su) (e3 : cSq κ T0 pp ee f B D lo V r mk2 env.length (nR f pp ee nm env) S' al' su') (hl : (sEv S.2).length + (sEv S'.2).length ≤ 2000) (hw : plW (cFd f pp ee) env (sEv S.2) = [] ∧ plW (cFd f pp ee) env (sEv S'.2) = []) : cPl κ Tt y A mo V nm env σ g T (n + 5) m (mPs f pp ee env S'.2 (mPs f pp ee env S.2 s)) (mB 0) := by
  obtain ⟨σ1, g1, m1, m2, m3, m4⟩ := c_ckq (n := n) hH e2 (by omega) hw.1 h
  obtain ⟨σ2, g2, q1, q2, q3, q4⟩ := c_ckq (n := n) hH e3 (by omega) hw.2 m2
  have c0 : ofd σ (some m) 7 0 = some (.int code) := (h.1.1.nd e1 (by decide)).trans f0
  have c15 : ofd σ (some m) 7 15 = some (.ref l) := (h.1.1.nd e1 (by decide)).trans f15
  have c16 : ofd σ1 (some m) 7 16 = some (.ref r) := (m2.1.1.nd e1 (by decide)).trans f16
  refine ⟨σ2, 0, g2, ?_, q2, m3.tr q3, by omega, fun z => ⟨0, rfl, q2.1.bas z (by decide)⟩⟩
  rw [show n + 5 = (n + 4) + 1 from rfl, oE_X10_inferPlain]
  unfold ob_X10_inferPlain
  rw [c0, ovi_in, obn_at]
  rcases hcd with rfl | rfl | rfl
  all_goals
    rw [if_neg (by decide), if_neg (by decide), if_neg (by decide), if_neg (by decide), if_neg (by decide), if_neg (by decide), if_neg (by decide), c15, ovr_rf, obn_at, h.yo, obn_at, m1, ocv_at, c16, ovr_rf, obn_at, m2.yo, obn_at, q1, ocv_at, c_basic (n := n + 3), oin_at]
    rfl
/-- NAME[S] -/
theorem pl_14 (hH : wH κ Tt mo y cnt A V nm pp U) (h : cXE V y A mo nm env σ s g T) (hc : cTr κ T0 kk pp ee f B D lo V nm (.inner 14 d z a b) env fk (fun _ => none) 0 m) (hl : (sEv d.2.2.2.1.2).length ≤ 2000) (hu : usW (cFd f pp ee) d.1 env = []) (hw : plW (cFd f pp ee) env (sEv d.2.2.2.1.2) = []) : cPl κ Tt y A mo V nm env σ g T (n + 5) m (mPs f pp ee env d.2.2.2.1.2 (mMu (mNm f pp ee env d.1 s) (mB 2) (pp d.1) s)) (mB 0) := by
  obtain ⟨-, l, nd, su, e1, e2, -⟩ := hc
  obtain ⟨b0, fb, v, n1, n2, n3, n4⟩ := c_nm h.2 hu
  obtain ⟨σ1, g1, m1, m2, m3, m4⟩ := h.must (κ := κ) (n := n + 1) (v1 := v) (v2 := 2) (t2 := mB 2) hH.1.1 hH.1.2.1 hH.1.2.2.1 (hH.1.2.2.2.2 d.1) n4 (fun z => ⟨2, rfl, h.1.bas z (by decide)⟩)
  obtain ⟨σ2, g2, q1, q2, q3, q4⟩ := c_ckq (n := n) hH e2 hl hw m2
  have c0 : ofd σ (some m) 7 0 = some (.int 91) := (h.1.1.nd e1 (by decide)).trans rfl
  have c9 : ofd σ (some m) 7 9 = some (va_rf (nR f pp ee nm env d.1)) := (h.1.1.nd e1 (by decide)).trans rfl
  have c4 : ofd σ (some m) 7 4 = some (.int (pp d.1)) := (h.1.1.nd e1 (by decide)).trans rfl
  have c15 : ofd σ1 (some m) 7 15 = some (.ref l) := (m2.1.1.nd e1 (by decide)).trans rfl
  refine ⟨σ2, 0, g2, ?_, q2, m3.tr q3, by omega, fun z => ⟨0, rfl, q2.1.bas z (by decide)⟩⟩
  rw [show n + 5 = (n + 4) + 1 from rfl, oE_X10_inferPlain]
  unfold ob_X10_inferPlain
  rw [c0, ovi_in, obn_at, if_pos rfl, c9, ovr_va, obn_at, n1, n3, ovi_in, obn_at, c_basic (n := n + 3), oin_at, c4, ovi_in, obn_at, h.yo, obn_at]
  rw [show (if (200 : Int32) = 202 then (1 : Int32) else if (200 : Int32) = 200 then 2 else if (200 : Int32) = 213 then 3 else 0) = 2 from rfl, m1, ocv_at, c15, ovr_rf, obn_at, m2.yo, obn_at, q1, ocv_at, c_basic (n := n + 3), oin_at]
  rfl
/-- cons S NAME -/
theorem pl_18 (hH : wH κ Tt mo y cnt A V nm pp U) (h : cXE V y A mo nm env σ s g T) (hc : cTr κ T0 kk pp ee f B D lo V nm (.inner 18 d z a b) env fk (fun _ => none) 0 m) (hl : (sEv d.2.2.2.1.2).length ≤ 2000) (hu : usW (cFd f pp ee) d.2.1 env = []) (hw : plW (cFd f pp ee) env (sEv d.2.2.2.1.2) = []) : cPl κ Tt y A mo V nm env σ g T (n + 5) m (mMu (mNm f pp ee env d.2.1 (mPs f pp ee env d.2.2.2.1.2 s)) (mB 3) (pp d.2.1) (mPs f pp ee env d.2.2.2.1.2 s)) (mB 3) := by
  obtain ⟨-, l, su, e1, e2⟩ := hc
  obtain ⟨σ1, g1, q1, q2, q3, q4⟩ := c_ckq (n := n) hH e2 hl hw h
  obtain ⟨b0, fb, v, n1, n2, n3, n4⟩ := c_nm q2.2 hu
  obtain ⟨σ2, g2, m1, m2, m3, m4⟩ := q2.must (κ := κ) (n := n + 1) (v1 := v) (v2 := 3) (t2 := mB 3) hH.1.1 hH.1.2.1 hH.1.2.2.1 (hH.1.2.2.2.2 d.2.1) n4 (fun z => ⟨3, rfl, q2.1.bas z (by decide)⟩)
  have c0 : ofd σ (some m) 7 0 = some (.int 203) := (h.1.1.nd e1 (by decide)).trans rfl
  have c15 : ofd σ (some m) 7 15 = some (.ref l) := (h.1.1.nd e1 (by decide)).trans rfl
  have c9 : ofd σ1 (some m) 7 9 = some (va_rf (nR f pp ee nm env d.2.1)) := (q2.1.1.nd e1 (by decide)).trans rfl
  have c4 : ofd σ1 (some m) 7 4 = some (.int (pp d.2.1)) := (q2.1.1.nd e1 (by decide)).trans rfl
  refine ⟨σ2, 3, g2, ?_, m2, q3.tr m3, by omega, fun z => ⟨3, rfl, m2.1.bas z (by decide)⟩⟩
  rw [show n + 5 = (n + 4) + 1 from rfl, oE_X10_inferPlain]
  unfold ob_X10_inferPlain
  rw [c0, ovi_in, obn_at, if_neg (by decide), if_pos rfl, c15, ovr_rf, obn_at, h.yo, obn_at, q1, ocv_at, c9, ovr_va, obn_at, n1, n3, ovi_in, obn_at, c_basic (n := n + 3), oin_at, c4, ovi_in, obn_at, q2.yo, obn_at]
  rw [show (if (213 : Int32) = 202 then (1 : Int32) else if (213 : Int32) = 200 then 2 else if (213 : Int32) = 213 then 3 else 0) = 3 from rfl, m1, ocv_at, c_basic (n := n + 3), oin_at]
  rfl
/-- an S -/
theorem pl_10 (hH : wH κ Tt mo y cnt A V nm pp U) (h : cXE V y A mo nm env σ s g T) {mk : Int32} {S : tS} {al : Int32} {su : Nat} (e2 : cSq κ T0 pp ee f B D lo V m mk env.length (nR f pp ee nm env) S al su) (hl : (sEv S.2).length ≤ 2000) (hw : plW (cFd f pp ee) env (sEv S.2) = []) (R : mS × mF) (hal : (al = 1 ∧ isN S.2 = true ∧ R = mSu f pp ee env S.2 s) ∨ (al ≠ 1 ∧ R = (mPs f pp ee env S.2 s, mB 0))) : cPl κ Tt y A mo V nm env σ g T (n + 5) m R.1 R.2 := by
  have e2' := e2
  obtain ⟨pa, na, ta, cap, pc, e1, -⟩ := e2
  have c0 : ofd σ (some m) 7 0 = some (.int 400) := (h.1.1.nd e1 (by decide)).trans rfl
  have c6 : ofd σ (some m) 7 6 = some (.int al) := (h.1.1.nd e1 (by decide)).trans rfl
  have c9 : ofd σ (some m) 7 9 = some (sLn (nR f pp ee nm env) S.2) := (h.1.1.nd e1 (by decide)).trans rfl
  rcases hal with ⟨a1, a2, rfl⟩ | ⟨a1, rfl⟩
  · have a2' := of_decide_eq_true a2
    obtain ⟨p, ep⟩ : ∃ p, S.2 = [p] := by
      cases hS : S.2 with
      | nil => rw [hS] at a2'; cases a2'.1
      | cons p ps =>
        rw [hS] at a2'
        have := a2'.1
        cases ps with
        | nil => exact ⟨p, rfl⟩
        | cons q qs => cases this
    rw [ep] at a2' hw c9
    have p1 : p.1 = 1 := a2'.2.1
    have nm1 : sNm [p] = [p] := by
      unfold sNm
      rw [List.filter_cons_of_pos (by rw [p1]; rfl)]
      rfl
    have c9' : ofd σ (some m) 7 9 = some (va_rf (nR f pp ee nm env p.2.2)) := by
      rw [c9]
      unfold sLn
      rw [nm1]
      rfl
    have hu : usW (cFd f pp ee) p.2.2 env = [] := by
      have : plW (cFd f pp ee) env (sEv [p]) = usW (cFd f pp ee) p.2.2 env ++ [] := by
        unfold sEv; rw [nm1]; rfl
      rw [this, List.append_nil] at hw
      exact hw
    obtain ⟨b0, fb, v, n1, n2, n3, n4⟩ := c_nm h.2 hu
    have eR : mSu f pp ee env S.2 s = (s, mNm f pp ee env p.2.2 s) := by
      unfold mSu
      rw [if_pos a2, ep]
      rfl
    rw [eR]
    refine ⟨σ, v, g, ?_, h, yF.rf y A σ, rfl, n4⟩
    rw [show n + 5 = (n + 4) + 1 from rfl, oE_X10_inferPlain]
    unfold ob_X10_inferPlain
    rw [c0, ovi_in, obn_at, if_neg (by decide), if_neg (by decide), if_neg (by decide), if_neg (by decide), if_neg (by decide), if_neg (by decide), if_pos rfl, c6, ovi_in, obn_at, if_pos a1, c9', ovr_va, obn_at, n1, n3, ovi_in, obn_at]
  · obtain ⟨σ1, g1, q1, q2, q3, q4⟩ := c_ckq (n := n) hH e2' hl hw h
    refine ⟨σ1, 0, g1, ?_, q2, q3, q4, fun z => ⟨0, rfl, q2.1.bas z (by decide)⟩⟩
    rw [show n + 5 = (n + 4) + 1 from rfl, oE_X10_inferPlain]
    unfold ob_X10_inferPlain
    rw [c0, ovi_in, obn_at, if_neg (by decide), if_neg (by decide), if_neg (by decide), if_neg (by decide), if_neg (by decide), if_neg (by decide), if_pos rfl, c6, ovi_in, obn_at, if_neg a1, h.yo, obn_at, q1, ocv_at, c_basic (n := n + 3), oin_at]
    rfl
end CPL
