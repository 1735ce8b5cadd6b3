/-! the class's checkTest -/
/-- how deep the class goes within a C -/
def cDp : tT → Nat
  | .leaf => 0
  | .inner g _ _ a b => if g = 24 ∨ g = 25 ∨ g = 23 then 0 else if g = 30 then max (cDp a) (cDp b) else max (cDp a) (cDp b) + 1
section CTS
variable {κ : oKv} {Tt T0 mo y cnt : Nat} {A B : Nat → Nat} {D : cDt} {V : oSt} {T : Nat → mF} {nm : Nat → Option Nat} {env : List Nat} {kk f pp ee : Nat → Int32} {lo : Nat}
theorem cXE.yo {σ : oSt} {s : mS} {g : gG} (h : cXE V y A mo nm env σ s g T) : oob σ (some y) 12 = some y := by
  rcases h.1.2 with ⟨-, F, q, -⟩ | ⟨pl, c, F, -, -, -, q⟩
  · exact q.ob
  · exact q.ob
theorem cCt_q : ∀ (t : tT) (gl : Nat → Option Nat) (k q : Nat), cWf cnt t true → cCt κ T0 kk pp ee f B D lo V env.length (nR f pp ee nm env) t gl k q → k ≤ q ∧ q ≤ k + kN t ∧ (t ≠ .leaf → k < q)
  | .leaf, gl, k, q, _, h => by
    have : k = q := h
    exact ⟨by omega, by show q ≤ k + 0; omega, fun z => absurd rfl z⟩
  | .inner g d z a b, gl, k, q, ht, h => by
    rcases ht with ⟨-, rfl, -, hb⟩ | ⟨e, -⟩
    · obtain ⟨x, -, -, hb'⟩ := h
      have := cCt_q b gl (k + 1) q hb hb'
      exact ⟨by omega, by show q ≤ k + (kN a + kN b + 1); omega, fun _ => by omega⟩
    · cases e
/-- checkTest gives the equations of t -/
def cTt (κ : oKv) (Tt y : Nat) (A : Nat → Nat) (mo : Nat) (V : oSt) (nm : Nat → Option Nat) (env : List Nat) (f pp ee : Nat → Int32) (T : Nat → mF) (t : tT) (m : Nat) : Prop := ∀ (σ : oSt) (s : mS) (g : gG) (n : Nat), cDp t + 5 ≤ n → cXE V y A mo nm env σ s g T → ∃ σ' g', oF κ Tt n 154 [va_rf (some y), va_rf (some m)] σ = some (none, σ') ∧ cXE V y A mo nm env σ' (mCt f pp ee env t s) g' T ∧ yF y A σ σ' ∧ g'.n = g.n
set_option maxHeartbeats 1000000 in
theorem c_tst (hT : 25000 ≤ Tt) (hy : V.2.1 ≤ y) (hA : ∀ i, i < 6 → V.2.1 ≤ A i) (hκ : κ.2.2.1 < V.2.1) (hpp : ∀ w, 0 ≤ pp w) (t : tT) :
    (∀ m, cWf cnt t false → kN t ≤ 2000 → (cEv t).length ≤ 2000 → plW (cFd f pp ee) env (cEv t) = [] → cCt κ T0 kk pp ee f B D lo V env.length (nR f pp ee nm env) t (fun _ => none) 0 m → cTt κ Tt y A mo V nm env f pp ee T t m) ∧
    (∀ (gl : Nat → Option Nat) (k q e pa d cap : Nat) (mc : Int32) (L : List Value), cWf cnt t true → kN t ≤ 2000 → (cEv t).length ≤ 2000 → plW (cFd f pp ee) env (cEv t) = [] → V.1 e = some (.inr (7, L)) → L[18]? = some (.ref pa) → cLs κ V pa d cap q mc gl 7 → q ≤ 2010 → cCt κ T0 kk pp ee f B D lo V env.length (nR f pp ee nm env) t gl k q → ∀ (σ : oSt) (s : mS) (g : gG) (n f' : Nat), cDp t + 5 ≤ n → q < k + f' → cXE V y A mo nm env σ s g T → ∃ σ' g', ol_X10_checkTest_69 Tt (oF κ Tt n) κ f' (some y) (some e) (nI k) σ = some (none, σ') ∧ cXE V y A mo nm env σ' (mCt f pp ee env t s) g' T ∧ yF y A σ σ' ∧ g'.n = g.n) := by
  have stop : ∀ (e pa d cap q k : Nat) (mc : Int32) (gl : Nat → Option Nat) (L : List Value), V.1 e = some (.inr (7, L)) → L[18]? = some (.ref pa) → cLs κ V pa d cap q mc gl 7 → q ≤ 2010 → k = q → ∀ (σ : oSt) (s : mS) (g : gG) (n f' : Nat), 1 ≤ n → q < k + f' → cXE V y A mo nm env σ s g T → ol_X10_checkTest_69 Tt (oF κ Tt n) κ f' (some y) (some e) (nI k) σ = some (none, σ) := fun e pa d cap q k mc gl L he hL hls hq hk σ s g n f' hn hf h => by
    obtain ⟨f', rfl⟩ : ∃ x, f' = x + 1 := ⟨f' - 1, by omega⟩
    obtain ⟨n, rfl⟩ : ∃ x, n = x + 1 := ⟨n - 1, by omega⟩
    have ls := h.1.1.ls hκ hls
    have e18 : ofd σ (some e) 7 18 = some (.ref pa) := (h.1.1.nd he (by decide)).trans hL
    rw [ol_X10_checkTest_69, e18, ovr_rf, obn_at, oob_at ls.1, obn_at, l_sz ls, oin_at, if_pos (nI_le (by omega) (by omega))]
  induction t with
  | leaf =>
    refine ⟨fun m h => (by cases h), fun gl k q e pa d cap mc L _ _ _ _ he hL hls hq hk σ s g n f' hn hf h => ?_⟩
    exact ⟨σ, g, stop e pa d cap q k mc gl L he hL hls hq hk σ s g n f' (by omega) hf h, h, yF.rf y A σ, rfl⟩
  | inner tg d z a b Ia Ib =>
    refine ⟨fun m hw hk hl hp hc => ?_, fun gl k q e pa dd cap mc L hw hk hl hp he hL hls hq hc σ s g n f' hn hf h => ?_⟩
    · rcases hw with ⟨c, _⟩ | ⟨-, hw⟩
      · cases c
      have two : ∀ code : Int32, (code = 302 ∨ code = 303) → (tg = 20 ∨ tg = 21) → cWf cnt a false → cWf cnt b true → (∃ pa q g' x, V.1 m = some (.inr (7, cLf code (pp (tPl a)) (nI env.length) pa)) ∧ cLn κ B D lo V pa q g' ∧ g' 0 = some x ∧ cCt κ T0 kk pp ee f B D lo V env.length (nR f pp ee nm env) a (fun _ => none) 0 x ∧ cCt κ T0 kk pp ee f B D lo V env.length (nR f pp ee nm env) b g' 1 q) → cTt κ Tt y A mo V nm env f pp ee T (.inner tg d z a b) m := fun code hcd hg wa wb ⟨pa, q, g', x, e1, e2, e3, e4, e5⟩ => by
        have kN2 : kN a + kN b ≤ 2000 := by
          rcases hg with rfl | rfl
          · have : kN a + kN b + 0 ≤ 2000 := hk; omega
          · have : kN a + kN b + 0 ≤ 2000 := hk; omega
        have ev : cEv (.inner tg d z a b) = cEv a ++ cEv b := by rcases hg with rfl | rfl <;> rfl
        have me : ∀ s, mCt f pp ee env (.inner tg d z a b) s = mCt f pp ee env b (mCt f pp ee env a s) := fun s => by rcases hg with rfl | rfl <;> rfl
        have dp : cDp (.inner tg d z a b) = max (cDp a) (cDp b) + 1 := by rcases hg with rfl | rfl <;> rfl
        rw [ev] at hl hp
        rw [List.length_append] at hl
        have hpa : plW (cFd f pp ee) env (cEv a) = [] ∧ plW (cFd f pp ee) env (cEv b) = [] := by
          unfold plW at hp ⊢
          rw [List.flatMap_append] at hp
          exact List.append_eq_nil_iff.mp hp
        obtain ⟨dd, cap, mc, e2, -⟩ := e2
        have hq := cCt_q b g' 1 q wb e5
        intro σ s g n hn h
        rw [dp] at hn
        obtain ⟨n, rfl⟩ : ∃ n', n = n' + 1 := ⟨n - 1, by omega⟩
        have ls := h.1.1.ls hκ e2
        have e18 : ofd σ (some m) 7 18 = some (.ref pa) := (h.1.1.nd e1 (by decide)).trans rfl
        have e0 : ofd σ (some m) 7 0 = some (.int code) := (h.1.1.nd e1 (by decide)).trans rfl
        obtain ⟨b0, fs0, gb, eb⟩ := e2.2.2 0 (by omega)
        have bx : b0 = x := by rw [e3] at gb; injection gb with gb; exact gb.symm
        subst bx
        obtain ⟨fs', eb'⟩ := h.1.1.oc eb
        have oc : ocs σ (some b0) 7 = true := by simp only [ocs, eb']; rfl
        obtain ⟨σ1, g1, i1, i2, i3, i4⟩ := Ia.1 b0 wa (by omega) (by omega) hpa.1 e4 σ s g n (by omega) h
        obtain ⟨σ2, g2, j1, j2, j3, j4⟩ := Ib.2 g' 1 q m pa dd cap mc _ wb (by omega) (by omega) hpa.2 e1 rfl e2 (by omega) e5 σ1 _ g1 n (Tt - 1) (by omega) (by omega) i2
        refine ⟨σ2, g2, ?_, by rw [me]; exact j2, i3.tr j3, by omega⟩
        obtain ⟨n2, rfl⟩ : ∃ n', n = n' + 3 := ⟨n - 3, by omega⟩
        have lg : oF κ Tt (n2 + 3) 234 [va_rf (some pa), .int (nI 0)] σ = some (some (va_rf (some b0)), σ) := by rw [← e3]; exact l_get (ls.o (by omega)) (by omega)
        obtain ⟨t1, ht1⟩ : ∃ t1, Tt = t1 + 1 := ⟨Tt - 1, by omega⟩
        have loop : ol_X10_checkTest_69 Tt (oF κ Tt (n2 + 3)) κ Tt (some y) (some m) 0 σ = some (none, σ2) := by
          have : ∀ u, u + 1 = Tt → ol_X10_checkTest_69 Tt (oF κ Tt (n2 + 3)) κ (u + 1) (some y) (some m) (nI 0) σ = some (none, σ2) := fun u hu => by
            rw [ol_X10_checkTest_69, e18, ovr_rf, obn_at, oob_at ls.1, obn_at, l_sz (n := n2 + 2) ls, oin_at, if_neg (nI_ge (by omega) (by omega)), e18, ovr_rf, obn_at, oob_at ls.1, obn_at, lg, orn_at, ogd_at oc, h.yo, obn_at, i1, ocv_at, nI_p1, show u = Tt - 1 by omega]
            exact j1
          have := this t1 ht1.symm
          rw [← ht1] at this
          exact this
        rw [oE_X10_checkTest]
        unfold ob_X10_checkTest
        rw [e0, ovi_in, obn_at]
        rcases hcd with rfl | rfl
        · rw [if_neg (by decide), if_pos rfl]
          exact loop
        · rw [if_neg (by decide), if_neg (by decide), if_pos rfl]
          exact loop
      rcases hw with ⟨hg, wa, wb⟩ | ⟨rfl, wa, rfl⟩ | ⟨rfl, rfl, rfl⟩ | ⟨rfl, w1⟩ | ⟨rfl, w1, w2⟩
      · rcases hg with rfl | rfl
        · exact two 303 (Or.inr rfl) (Or.inl rfl) wa wb hc.2
        · exact two 302 (Or.inl rfl) (Or.inr rfl) wa wb hc.2
      · obtain ⟨-, x, e1, e2⟩ := hc
        intro σ s g n hn h
        have hn : max (cDp a) 0 + 1 + 5 ≤ n := hn
        obtain ⟨n, rfl⟩ : ∃ n', n = n' + 1 := ⟨n - 1, by omega⟩
        have hk' : kN a + 0 + 0 ≤ 2000 := hk
        have hl' : (cEv a ++ []).length ≤ 2000 := hl
        have hp' : plW (cFd f pp ee) env (cEv a ++ []) = [] := hp
        rw [List.append_nil] at hl' hp'
        obtain ⟨σ1, g1, i1, i2, i3, i4⟩ := Ia.1 x wa (by omega) hl' hp' e2 σ s g n (by omega) h
        refine ⟨σ1, g1, ?_, i2, i3, i4⟩
        have e0 : ofd σ (some m) 7 0 = some (.int 217) := (h.1.1.nd e1 (by decide)).trans rfl
        have e12 : ofd σ (some m) 7 12 = some (.ref x) := (h.1.1.nd e1 (by decide)).trans rfl
        rw [oE_X10_checkTest]
        unfold ob_X10_checkTest
        rw [e0, ovi_in, obn_at, if_pos rfl, e12, ovr_rf, obn_at, h.yo, obn_at, i1, ocv_at]
      · obtain ⟨-, e1⟩ := hc
        intro σ s g n hn h
        obtain ⟨n, rfl⟩ : ∃ n', n = n' + 1 := ⟨n - 1, by omega⟩
        refine ⟨σ, g, ?_, h, yF.rf y A σ, rfl⟩
        have e0 : ofd σ (some m) 7 0 = some (.int (if d.2.1 = 1 then 223 else 205)) := (h.1.1.nd e1 (by decide)).trans rfl
        rw [oE_X10_checkTest]
        unfold ob_X10_checkTest
        rw [e0, ovi_in, obn_at]
        by_cases c : d.2.1 = 1
        · rw [if_pos c, if_neg (by decide), if_neg (by decide), if_neg (by decide), if_neg (by decide), if_neg (by decide)]
        · rw [if_neg c, if_neg (by decide), if_neg (by decide), if_neg (by decide), if_neg (by decide), if_neg (by decide)]
      · obtain ⟨-, hc⟩ := hc
        rcases hc with ⟨-, l, al, pa, su, na, ta, cap, pc, e1, -⟩ | ⟨j, S, S', e, -⟩
        · intro σ s g n hn h
          have hn : 0 + 5 ≤ n := hn
          obtain ⟨n, rfl⟩ : ∃ n', n = n' + 4 := ⟨n - 4, by omega⟩
          have hp' : usW (cFd f pp ee) d.1 env = [] := by
            have hp : usW (cFd f pp ee) d.1 env ++ [] = [] := hp
            rw [List.append_nil] at hp
            exact hp
          obtain ⟨b0, fb, v, n1, n2, n3, n4⟩ := c_nm h.2 hp'
          have e0 : ofd σ (some m) 7 0 = some (.int 402) := (h.1.1.nd e1 (by decide)).trans rfl
          have e9 : ofd σ (some m) 7 9 = some (va_rf (nR f pp ee nm env d.1)) := (h.1.1.nd e1 (by decide)).trans rfl
          have e1' : ofd σ (some m) 7 1 = some (.int (pp d.1)) := (h.1.1.nd e1 (by decide)).trans rfl
          obtain ⟨σ1, g1, m1, m2, m3, m4⟩ := h.must (κ := κ) (n := n) (v1 := v) (v2 := 1) (t2 := mB 1) hT hy hA (hpp d.1) n4 (fun z => ⟨1, rfl, h.1.bas z (by decide)⟩)
          refine ⟨σ1, g1, ?_, m2, m3, m4⟩
          rw [show n + 4 = (n + 3) + 1 from rfl, oE_X10_checkTest]
          unfold ob_X10_checkTest
          rw [e0, ovi_in, obn_at, if_neg (by decide), if_neg (by decide), if_neg (by decide), if_pos rfl, e9, ovr_va, obn_at, n1, n3, ovi_in, obn_at, c_basic (n := n + 2), oin_at, if_pos rfl, e1', ovi_in, obn_at, h.yo, obn_at, m1, ocv_at]
        · cases e
      · obtain ⟨-, hc⟩ := hc
        rcases hc with ⟨e, -⟩ | ⟨j, S, S', e, l, al, pa, su, na, ta, cap, pc, r, al2, pa2, su2, na2, ta2, cap2, pc2, q, na3, ta3, cap3, e1, sp1, sp2, -⟩
        · cases e
        · injection e with _ e _ _ _
          have eS : d.2.2.2.1 = S := congrArg (fun x : Nat × Nat × Nat × tS × tS => x.2.2.2.1) e
          have eS' : d.2.2.2.2 = S' := congrArg (fun x : Nat × Nat × Nat × tS × tS => x.2.2.2.2) e
          intro σ s g n hn h
          have hn : 0 + 5 ≤ n := hn
          obtain ⟨n, rfl⟩ : ∃ n', n = n' + 5 := ⟨n - 5, by omega⟩
          have hp : plW (cFd f pp ee) env (sEv d.2.2.2.1.2 ++ sEv d.2.2.2.2.2) = [] := hp
          have hl : (sEv d.2.2.2.1.2 ++ sEv d.2.2.2.2.2).length ≤ 2000 := hl
          rw [List.length_append] at hl
          have hpa : plW (cFd f pp ee) env (sEv d.2.2.2.1.2) = [] ∧ plW (cFd f pp ee) env (sEv d.2.2.2.2.2) = [] := by
            unfold plW at hp ⊢
            rw [List.flatMap_append] at hp
            exact List.append_eq_nil_iff.mp hp
          have sl : ∀ ps : List tP, (sEv ps).length = (sNm ps).length := fun ps => List.length_map ..
          rw [sl, sl] at hl
          obtain ⟨f1, ⟨d1, mc1, gg1, f2, f3, -⟩, -⟩ := sp1
          obtain ⟨k1, ⟨d2, mc2, gg2, k2, k3, -⟩, -⟩ := sp2
          rw [← eS] at f2 f3
          rw [← eS'] at k2 k3
          have e0 : ofd σ (some m) 7 0 = some (.int 403) := (h.1.1.nd e1 (by decide)).trans rfl
          have e15 : ofd σ (some m) 7 15 = some (.ref l) := (h.1.1.nd e1 (by decide)).trans rfl
          obtain ⟨σ1, g1, m1, m2, m3, m4⟩ := c_ck (κ := κ) (n := n) hT hy hA hκ hpp f1 rfl f2 (fun k p hp => by obtain ⟨a, a1, -, -, a2⟩ := f3 k p hp; exact ⟨a, a1, a2⟩) (by omega) hpa.1 h
          have e16 : ofd σ1 (some m) 7 16 = some (.ref r) := (m2.1.1.nd e1 (by decide)).trans rfl
          obtain ⟨σ2, g2, q1, q2, q3, q4⟩ := c_ck (κ := κ) (n := n) hT hy hA hκ hpp k1 rfl k2 (fun k p hp => by obtain ⟨a, a1, -, -, a2⟩ := k3 k p hp; exact ⟨a, a1, a2⟩) (by omega) hpa.2 m2
          refine ⟨σ2, g2, ?_, q2, m3.tr q3, by omega⟩
          rw [show n + 5 = (n + 4) + 1 from rfl, oE_X10_checkTest]
          unfold ob_X10_checkTest
          rw [e0, ovi_in, obn_at, if_neg (by decide), if_neg (by decide), if_neg (by decide), if_neg (by decide), if_pos rfl, e15, ovr_rf, obn_at, h.yo, obn_at, m1, ocv_at, e16, ovr_rf, obn_at, m2.yo, obn_at, q1, ocv_at]
    · rcases hw with ⟨-, rfl, wa, wb⟩ | ⟨c, -⟩
      · obtain ⟨x, gx, e4, e5⟩ := hc
        have hk' : kN a + kN b + 1 ≤ 2000 := hk
        have hl' : (cEv a ++ cEv b).length ≤ 2000 := hl
        have hp' : plW (cFd f pp ee) env (cEv a ++ cEv b) = [] := hp
        rw [List.length_append] at hl'
        have hpa : plW (cFd f pp ee) env (cEv a) = [] ∧ plW (cFd f pp ee) env (cEv b) = [] := by
          unfold plW at hp' ⊢
          rw [List.flatMap_append] at hp'
          exact List.append_eq_nil_iff.mp hp'
        have hn : max (cDp a) (cDp b) + 5 ≤ n := hn
        have hq2 := cCt_q b gl (k + 1) q wb e5
        obtain ⟨f', rfl⟩ : ∃ x, f' = x + 1 := ⟨f' - 1, by omega⟩
        have ls := h.1.1.ls hκ hls
        have e18 : ofd σ (some e) 7 18 = some (.ref pa) := (h.1.1.nd he (by decide)).trans hL
        obtain ⟨b0, fs0, gb, eb⟩ := hls.2.2 k (by omega)
        have bx : b0 = x := by rw [gx] at gb; injection gb with gb; exact gb.symm
        subst bx
        obtain ⟨fs', eb'⟩ := h.1.1.oc eb
        have oc : ocs σ (some b0) 7 = true := by simp only [ocs, eb']; rfl
        obtain ⟨σ1, g1, i1, i2, i3, i4⟩ := Ia.1 b0 wa (by omega) (by omega) hpa.1 e4 σ s g n (by omega) h
        obtain ⟨σ2, g2, j1, j2, j3, j4⟩ := Ib.2 gl (k + 1) q e pa dd cap mc L wb (by omega) (by omega) hpa.2 he hL hls hq e5 σ1 _ g1 n f' (by omega) (by omega) i2
        refine ⟨σ2, g2, ?_, j2, i3.tr j3, by omega⟩
        obtain ⟨n2, rfl⟩ : ∃ n', n = n' + 3 := ⟨n - 3, by omega⟩
        have lg : oF κ Tt (n2 + 3) 234 [va_rf (some pa), .int (nI k)] σ = some (some (va_rf (some b0)), σ) := by rw [← gx]; exact l_get (ls.o (by omega)) (by omega)
        rw [ol_X10_checkTest_69, e18, ovr_rf, obn_at, oob_at ls.1, obn_at, l_sz (n := n2 + 2) ls, oin_at, if_neg (nI_ge (by omega) (by omega)), e18, ovr_rf, obn_at, oob_at ls.1, obn_at, lg, orn_at, ogd_at oc, h.yo, obn_at, i1, ocv_at, nI_p1]
        exact j1
      · cases c
end CTS
