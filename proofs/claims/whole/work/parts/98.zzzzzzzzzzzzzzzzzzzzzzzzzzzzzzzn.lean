/-! run(), the class: holds() -/
section HHO
/-- what holds() reads of a C (l: of a list, g from k to m) -/
def hCn (T : Nat) (kk f pp ee : Nat → Int32) (h : xmHp) (env : List Nat) (vs : List xmV) (σ : oSt) : tT → Bool → (Nat → Option Nat) → Nat → Nat → Prop
  | .leaf, l, _, k, m => l = true ∧ k = m
  | .inner n d _ a b, l, g, k, m =>
    (n = 30 ∧ l = true ∧ k < m ∧ ∃ x, g k = some x ∧ hCn T kk f pp ee h env vs σ a false (fun _ => none) 0 x ∧ hCn T kk f pp ee h env vs σ b true g (k + 1) m) ∨
    (l = false ∧ ∃ fs, σ.1 m = some (.inr (7, fs)) ∧ (
      (((n = 20 ∧ fs[0]? = some (.int 303)) ∨ (n = 21 ∧ fs[0]? = some (.int 302))) ∧ ∃ pa q g' x, fs[18]? = some (.ref pa) ∧ oLs σ (some pa) q g' ∧ 0 < q ∧ q < 5000 ∧ g' 0 = some x ∧ hCn T kk f pp ee h env vs σ a false (fun _ => none) 0 x ∧ hCn T kk f pp ee h env vs σ b true g' 1 q) ∨
      (n = 22 ∧ fs[0]? = some (.int 217) ∧ ∃ x, fs[12]? = some (.ref x) ∧ hCn T kk f pp ee h env vs σ a false (fun _ => none) 0 x) ∨
      (n = 23 ∧ fs[0]? = some (.int (if d.2.1 = 1 then 223 else 205))) ∨
      (n = 24 ∧ fs[0]? = some (.int 402) ∧ fs[2]? = some (.int (nI vs.length)) ∧ ∃ b', fs[9]? = some (.ref b') ∧ hNa vs σ b' (xmGet f pp ee env vs d.1) ∧ (xmGet f pp ee env vs d.1).1 ≤ 1) ∨
      (n = 25 ∧ fs[0]? = some (.int 403) ∧ (∃ l' r', fs[15]? = some (.ref l') ∧ fs[16]? = some (.ref r') ∧ hSn T f pp ee h env vs σ l' d.2.2.2.1.2 ∧ hSn T f pp ee h env vs σ r' d.2.2.2.2.2) ∧ ∃ j, fs[5]? = some (.int (kk j)) ∧ aRl kk j < 6 ∧ aRl kk j = d.2.2.1)))
/-- how deep holds() goes -/
def hDp : tT → Nat
  | .leaf => 0
  | .inner n _ _ a b => if n = 30 then max (hDp a) (hDp b) else if n = 23 ∨ n = 24 ∨ n = 25 then 1 else max (hDp a) (hDp b) + 1
/-- how it ends -/
def hHo (ma : Nat) (fm : List Value) (σ : oSt) (o : Option Bool) (r : oRs) : Prop := match o with
  | some c => r = some (some (.int (b01 c)), σ)
  | none => ∃ c, r = some (some (.int (b01 c)), oput σ ma (.inr (5, fm.set 12 (.int 2))))
variable {κ : oKv} {T n : Nat} {kk : Nat → Int32} {σ : oSt} {ma ha hl top : Nat} {fm : List Value} {hp : Nat → Int64} {G : hG} {Ar : Nat → Prop} {nb : tT → List Nat → Nat → Prop} {h : xmHp} {vs : List xmV} {a : Nat} {f pp ee : Nat → Int32} {env : List Nat}
theorem hCn_nd {t : tT} {g : Nat → Option Nat} {k m : Nat} (w : hCn T kk f pp ee h env vs σ t false g k m) : ∃ fs, σ.1 m = some (.inr (7, fs)) := by
  cases t with
  | leaf => cases w.1
  | inner => rcases w with ⟨-, w, -⟩ | ⟨-, fs, w, -⟩
             · cases w
             · exact ⟨fs, w⟩
theorem b01_nar (c : Bool) : onar .boolean (b01 c) = true := by cases c <;> decide
theorem oLs.pt {pa q : Nat} {g : Nat → Option Nat} {gm : List Value} (hm : σ.1 ma = some (.inr (5, fm))) (L : oLs σ (some pa) q g) : oLs (oput σ ma (.inr (5, gm))) (some pa) q g := by
  obtain ⟨x, d, l1, l2, l3, l4, l5⟩ := L
  have np : pa ≠ ma := fun w => by
    rw [w] at l2
    rw [show ofd σ (some ma) 1 2 = none by simp only [ofd, hm]; rfl] at l2
    cases l2
  have e : (oput σ ma (.inr (5, gm))).1 pa = σ.1 pa := oput_ne np
  refine ⟨x, d, ?_, (ofd_cg e).trans l2, (ofd_cg e).trans l3, l4, fun j hj => ?_⟩
  · unfold oob at l1 ⊢
    simp only [e]
    exact l1
  · have q := l5 j hj
    have nd : d ≠ ma := fun w => by
      rw [w] at q
      simp only [oar, hm] at q
      cases q
    rw [oar_cgA (oput_ne nd)]
    exact q
set_option maxHeartbeats 1000000 in
/-- **holds() (87)** -/
theorem h_holds (M : hMa ma fm ha hl hp top σ) (H : hHp nb G top hp h) (hsc : fm[10]? = some (.int (nI a))) (hen : fm[12]? = some (.int 0)) (hs : hSc G Ar top hp vs.reverse a) (hT : vs.length < T) (hT' : 5010 ≤ T) (hl' : vs.length < 2 ^ 31) : ∀ (t : tT), (∀ (gx : Nat → Option Nat) (m n : Nat), hCn T kk f pp ee h env vs σ t false gx 0 m → hDp t ≤ n → hHo ma fm σ (xmC T f pp ee h env vs t 0) (oF κ T (n + 4) 87 [va_rf (some ma), va_rf (some m)] σ)) ∧ ∀ (g : Nat → Option Nat) (k q m n gl u : Nat) (fs : List Value) (pa : Nat), hCn T kk f pp ee h env vs σ t true g k q → hDp t ≤ n → (gl = 20 ∨ gl = 21) → σ.1 m = some (.inr (7, fs)) → fs[18]? = some (.ref pa) → oLs σ (some pa) q g → q < 5000 → q < u + k → hHo ma fm σ (xmC T f pp ee h env vs t gl) (ol_X3_holds_91 T (oF κ T (n + 4)) κ u (some ma) (some m) (b01 (decide (gl = 21))) (nI k) σ) := by
  have e12 : ovi (ofd σ (some ma) 5 12) = some 0 := by rw [ofd_at M.1.1, hen]; rfl
  -- one more in a list
  have STEP : ∀ (g : Nat → Option Nat) (k q m n gl u : Nat) (fs : List Value) (pa x : Nat) (o r : Option Bool), g k = some x → k < q → (gl = 20 ∨ gl = 21) → σ.1 m = some (.inr (7, fs)) → fs[18]? = some (.ref pa) → oLs σ (some pa) q g → q < 5000 → q < u + 1 + k → (∃ fx, σ.1 x = some (.inr (7, fx))) → hHo ma fm σ o (oF κ T (n + 4) 87 [va_rf (some ma), va_rf (some x)] σ) → (q < u + (k + 1) → hHo ma fm σ r (ol_X3_holds_91 T (oF κ T (n + 4)) κ u (some ma) (some m) (b01 (decide (gl = 21))) (nI (k + 1)) σ)) → hHo ma fm σ (match o with | none => none | some c => if c = decide (gl = 21) then r else some c) (ol_X3_holds_91 T (oF κ T (n + 4)) κ (u + 1) (some ma) (some m) (b01 (decide (gl = 21))) (nI k) σ) := fun g k q m n gl u fs pa x o r gk kq hgl hm h18 L hq hu hx P R => by
    obtain ⟨fx, hx⟩ := hx
    obtain ⟨x1, x2, l1, -⟩ := id L
    have e18 : ovr (ofd σ (some m) 7 18) = some (some pa) := by rw [ofd_at hm, h18]; rfl
    have G1 := l_get (κ := κ) (T := T) (n := n + 1) L kq
    rw [gk] at G1
    have oc : ocs σ (some x) 7 = true := by simp only [ocs, hx]; rfl
    have nle : ¬ nI q ≤ nI k := fun w => by rw [Int32.le_iff_toInt_le, nI_toInt (by omega), nI_toInt (by omega)] at w; omega
    rw [ol_X3_holds_91, e18, obn_at, l1, obn_at, l_size L, oin_at, if_neg nle, e12, obn_at, if_pos rfl, e18, obn_at, l1, obn_at, G1, orn_at, ogd_at oc, oob_at M.1.1, obn_at]
    cases o with
    | some c =>
      rw [show oF κ T (n + 4) 87 [va_rf (some ma), va_rf (some x)] σ = some (some (.int (b01 c)), σ) from P, oin_at, nI_p1]
      by_cases e : c = decide (gl = 21)
      · rw [if_pos (by rw [e])]
        simp only [if_pos e]
        exact R (by omega)
      · have ne : ¬ b01 c = b01 (decide (gl = 21)) := fun w => e (by revert w; cases c <;> cases decide (gl = 21) <;> decide)
        rw [if_neg ne]
        simp only [if_neg e]
        revert e ne
        cases decide (gl = 21) <;> cases c <;> intro e ne <;> first | exact absurd rfl e | rfl
    | none =>
      obtain ⟨c, P⟩ := P
      rw [P, oin_at, nI_p1]
      have hm' : (oput σ ma (.inr (5, fm.set 12 (.int 2)))).1 m = some (.inr (7, fs)) := by
        rw [oput_ne (fun w => by rw [w, M.1.1] at hm; cases hm)]; exact hm
      have ma' : (oput σ ma (.inr (5, fm.set 12 (.int 2)))).1 ma = some (.inr (5, fm.set 12 (.int 2))) := oput_eq _ _ _
      by_cases e : b01 c = b01 (decide (gl = 21))
      · rw [if_pos e]
        obtain ⟨u, rfl⟩ : ∃ v, u = v + 1 := ⟨u - 1, by omega⟩
        have e18' : ovr (ofd (oput σ ma (.inr (5, fm.set 12 (.int 2)))) (some m) 7 18) = some (some pa) := by rw [ofd_at hm', h18]; rfl
        have L' := L.pt (gm := fm.set 12 (.int 2)) M.1.1
        have np : pa ≠ ma := fun w => by
          rw [w] at l1
          rw [show oob σ (some ma) 1 = none by simp only [oob, M.1.1]; rfl] at l1
          cases l1
        have l1'' : oob (oput σ ma (.inr (5, fm.set 12 (.int 2)))) (some pa) 1 = some x1 := by
          unfold oob at l1 ⊢
          simp only [oput_ne np]
          exact l1
        rw [ol_X3_holds_91, e18', obn_at, l1'', obn_at, l_size L', oin_at]
        have fin : ogd (onar .boolean (b01 (decide (gl = 21)))) (some (some (.int (b01 (decide (gl = 21)))), oput σ ma (.inr (5, fm.set 12 (.int 2))))) = some (some (.int (b01 (decide (gl = 21)))), oput σ ma (.inr (5, fm.set 12 (.int 2)))) := ogd_at (b01_nar _)
        by_cases z : nI q ≤ nI (k + 1)
        · rw [if_pos z, fin]
          exact ⟨_, rfl⟩
        · rw [if_neg z, ofd_at ma', List.getElem?_set_self (by rw [M.1.2]; decide), ovi_in, obn_at, if_neg (by decide), fin]
          exact ⟨_, rfl⟩
      · rw [if_neg e]
        by_cases z : b01 (decide (gl = 21)) = 0
        · rw [if_pos z]; exact ⟨true, rfl⟩
        · rw [if_neg z]; exact ⟨false, rfl⟩
  intro t
  induction t with
  | leaf =>
    refine ⟨fun gx m n w _ => ?_, fun g k q m n gl u fs pa w hn hgl hm h18 L hq hu => ?_⟩
    · cases w.1
    · have e : k = q := w.2
      obtain ⟨u, rfl⟩ : ∃ v, u = v + 1 := ⟨u - 1, by omega⟩
      obtain ⟨x1, x2, l1, -⟩ := id L
      have e18 : ovr (ofd σ (some m) 7 18) = some (some pa) := by rw [ofd_at hm, h18]; rfl
      show ol_X3_holds_91 T (oF κ T (n + 4)) κ (u + 1) (some ma) (some m) (b01 (decide (gl = 21))) (nI k) σ = _
      rw [ol_X3_holds_91, e18, obn_at, l1, obn_at, l_size L, oin_at, if_pos (by rw [e]; exact Int32.le_refl _), ogd_at (b01_nar _)]
  | inner g d z ta tb Ia Ib =>
    refine ⟨fun gx m n w hn => ?_, fun g' k q m n gl u fs pa w hn hgl hm h18 L hq hu => ?_⟩
    · rcases w with ⟨-, w, -⟩ | ⟨-, fs, hm, w⟩
      · cases w
      have f0 : ∀ {c : Int32}, fs[0]? = some (.int c) → ovi (ofd σ (some m) 7 0) = some c := fun e => by rw [ofd_at hm, e]; rfl
      rcases w with ⟨hg, pa, q, g', x, h18, L, q0, q5, gx', wa, wb⟩ | ⟨rfl, h0, x, h12, wa⟩ | ⟨rfl, h0⟩ | ⟨rfl, h0, h2, b', h9, N, hk1⟩ | ⟨rfl, h0, ⟨l', r', h15, h16, Nl, Nr⟩, j, h5, hr, hr2⟩
      · have h30 : ¬ g = 30 := by omega
        have h23 : ¬ (g = 23 ∨ g = 24 ∨ g = 25) := by omega
        have hd : max (hDp ta) (hDp tb) + 1 ≤ n := by
          have e : hDp (.inner g d z ta tb) = max (hDp ta) (hDp tb) + 1 := by rw [hDp, if_neg h30, if_neg h23]
          omega
        obtain ⟨n, rfl⟩ : ∃ v, n = v + 1 := ⟨n - 1, by omega⟩
        obtain ⟨u, rfl⟩ : ∃ v, T = v + 1 := ⟨T - 1, by omega⟩
        have S := fun gl hgl => STEP g' 0 q m n gl u fs pa x (xmC (u + 1) f pp ee h env vs ta 0) (xmC (u + 1) f pp ee h env vs tb gl) gx' q0 hgl hm h18 L q5 (by omega) (hCn_nd wa) (Ia.1 _ x n wa (by omega)) (fun hq' => Ib.2 g' 1 q m n gl u fs pa wb (by omega) hgl hm h18 L q5 (by omega))
        rw [oE_X3_holds]
        unfold ob_X3_holds oj_X3_holds_88
        rcases hg with ⟨rfl, h0⟩ | ⟨rfl, h0⟩
        · rw [f0 h0, obn_at, if_neg (by decide), if_neg (by decide), if_pos rfl, obn_at, if_neg (by decide)]
          have S := S 20 (Or.inl rfl)
          have ex : xmC (u + 1) f pp ee h env vs (.inner 20 d z ta tb) 0 = (match xmC (u + 1) f pp ee h env vs ta 0 with | none => none | some c => if c = decide (20 = 21) then xmC (u + 1) f pp ee h env vs tb 20 else some c) := by
            rw [xmC, if_pos rfl]
            cases xmC (u + 1) f pp ee h env vs ta 0 with
            | none => rfl
            | some c => cases c <;> rfl
          rw [ex]
          exact S
        · rw [f0 h0, obn_at, if_neg (by decide), if_pos rfl, obn_at, if_pos rfl]
          have S := S 21 (Or.inr rfl)
          have ex : xmC (u + 1) f pp ee h env vs (.inner 21 d z ta tb) 0 = (match xmC (u + 1) f pp ee h env vs ta 0 with | none => none | some c => if c = decide (21 = 21) then xmC (u + 1) f pp ee h env vs tb 21 else some c) := by
            rw [xmC, if_neg (by decide), if_pos rfl]
            cases xmC (u + 1) f pp ee h env vs ta 0 with
            | none => rfl
            | some c => cases c <;> rfl
          rw [ex]
          exact S
      · have hd : hDp ta + 1 ≤ n := by
          have e : hDp (.inner 22 d z ta tb) = max (hDp ta) (hDp tb) + 1 := rfl
          omega
        obtain ⟨n, rfl⟩ : ∃ v, n = v + 1 := ⟨n - 1, by omega⟩
        have P := Ia.1 _ x n wa (by omega)
        have ex : xmC T f pp ee h env vs (.inner 22 d z ta tb) 0 = (xmC T f pp ee h env vs ta 0).map (fun c => !c) := rfl
        have e12' : ovr (ofd σ (some m) 7 12) = some (some x) := by rw [ofd_at hm, h12]; rfl
        rw [oE_X3_holds]
        unfold ob_X3_holds
        rw [f0 h0, obn_at, if_pos rfl, e12', obn_at, oob_at M.1.1, obn_at, ex]
        cases q : xmC T f pp ee h env vs ta 0 with
        | some c =>
          rw [q] at P
          rw [show oF κ T (n + 1 + 3) 87 [va_rf (some ma), va_rf (some x)] σ = some (some (.int (b01 c)), σ) from P, oin_at]
          cases c
          · rfl
          · rfl
        | none =>
          rw [q] at P
          obtain ⟨c, P⟩ := P
          rw [show oF κ T (n + 1 + 3) 87 [va_rf (some ma), va_rf (some x)] σ = _ from P, oin_at]
          cases c
          · exact ⟨true, rfl⟩
          · exact ⟨false, rfl⟩
      · rw [oE_X3_holds]
        unfold ob_X3_holds
        rw [f0 h0, obn_at]
        show _ = _
        by_cases c : d.2.1 = 1
        · rw [if_pos c, if_neg (by decide), if_neg (by decide), if_neg (by decide), if_neg (by decide), if_neg (by decide), obn_at, if_pos rfl, decide_eq_true c]
          rfl
        · rw [if_neg c, if_neg (by decide), if_neg (by decide), if_neg (by decide), if_neg (by decide), if_neg (by decide), obn_at, if_neg (by decide), decide_eq_false c]
          rfl
      · obtain ⟨gs, i, c, n1, n2, n3, n4, n5⟩ := N
        obtain ⟨xv, V1, V2⟩ := c_valueOf (κ := κ) (T := T) (n := n + 2) M hsc hs n1 n2 n4 hT hl'
        have e9 : ovr (ofd σ (some m) 7 9) = some (some b') := by rw [ofd_at hm, h9]; rfl
        have e2 : ovi (ofd σ (some m) 7 2) = some (nI vs.length) := by rw [ofd_at hm, h2]; rfl
        have xe : xv = (xmGet f pp ee env vs d.1).2 := by
          rcases V2 with ⟨-, q⟩ | ⟨q, -⟩ | ⟨q, -⟩ | ⟨q, -⟩
          · exact q
          all_goals omega
        rw [oE_X3_holds]
        unfold ob_X3_holds
        rw [f0 h0, obn_at, if_neg (by decide), if_neg (by decide), if_neg (by decide), if_pos rfl, e9, obn_at, e2, obn_at, oob_at M.1.1, obn_at, V1]
        show (if lg_cmp xv 0 = 0 then _ else _ : oRs) = some (some (.int (b01 (decide ((xmGet f pp ee env vs d.1).2 ≠ 0)))), σ)
        rw [← xe]
        by_cases c0 : xv = 0
        · rw [if_pos ((lg_eq _ _).mpr c0), decide_eq_false (fun w => w c0)]; rfl
        · rw [if_neg (fun w => c0 ((lg_eq _ _).mp w)), decide_eq_true c0]; rfl
      · have e15 : ovr (ofd σ (some m) 7 15) = some (some l') := by rw [ofd_at hm, h15]; rfl
        have R1 := h_sn (κ := κ) (T := T) (n := n + 1) M H hsc hen hs Nl hT (by omega) hl'
        have ex : xmC T f pp ee h env vs (.inner 25 d z ta tb) 0 = (if xmB (xmSm T f pp ee h env vs d.2.2.2.1.2) = true then (if xmB (xmSm T f pp ee h env vs d.2.2.2.2.2) = true then some (xmCm d.2.2.1 (xmSm T f pp ee h env vs d.2.2.2.1.2) (xmSm T f pp ee h env vs d.2.2.2.2.2)) else none) else none) := rfl
        rw [oE_X3_holds]
        unfold ob_X3_holds
        rw [f0 h0, obn_at, if_neg (by decide), if_neg (by decide), if_neg (by decide), if_neg (by decide), if_pos rfl, e15, obn_at, oob_at M.1.1, obn_at, R1, ex]
        unfold oln'
        simp only
        by_cases c1 : xmB (xmSm T f pp ee h env vs d.2.2.2.1.2) = true
        · have es : hSe σ ma fm 0 (xmSm T f pp ee h env vs d.2.2.2.1.2) = σ := by unfold hSe; rw [if_pos c1]
          have e5 : ovi (ofd σ (some m) 7 5) = some (kk j) := by rw [ofd_at hm, h5]; rfl
          have e16 : ovr (ofd σ (some m) 7 16) = some (some r') := by rw [ofd_at hm, h16]; rfl
          have R2 := h_stands (κ := κ) (T := T) (n := n) (kk := kk) (j := j) (x := xmSm T f pp ee h env vs d.2.2.2.1.2) M H hsc hen hs Nr hT (by omega) hl' hr
          rw [es, e5, obn_at, e16, obn_at, oob_at M.1.1, obn_at, R2, oin_at, ogd_at (b01_nar _), if_pos c1]
          by_cases c2 : xmB (xmSm T f pp ee h env vs d.2.2.2.2.2) = true
          · have es2 : hSe σ ma fm 0 (xmSm T f pp ee h env vs d.2.2.2.2.2) = σ := by unfold hSe; rw [if_pos c2]
            rw [if_pos c2, es2, hr2]
            rfl
          · have es2 : hSe σ ma fm 0 (xmSm T f pp ee h env vs d.2.2.2.2.2) = oput σ ma (.inr (5, fm.set 12 (.int 2))) := by unfold hSe; rw [if_neg c2, if_pos rfl]
            rw [if_neg c2, es2]
            exact ⟨_, rfl⟩
        · have es : hSe σ ma fm 0 (xmSm T f pp ee h env vs d.2.2.2.1.2) = oput σ ma (.inr (5, fm.set 12 (.int 2))) := by unfold hSe; rw [if_neg c1, if_pos rfl]
          have hm' : (oput σ ma (.inr (5, fm.set 12 (.int 2)))).1 m = some (.inr (7, fs)) := by
            rw [oput_ne (fun w => by rw [w, M.1.1] at hm; cases hm)]; exact hm
          have ma' : (oput σ ma (.inr (5, fm.set 12 (.int 2)))).1 ma = some (.inr (5, fm.set 12 (.int 2))) := oput_eq _ _ _
          have e5 : ovi (ofd (oput σ ma (.inr (5, fm.set 12 (.int 2)))) (some m) 7 5) = some (kk j) := by rw [ofd_at hm', h5]; rfl
          have e16 : ovr (ofd (oput σ ma (.inr (5, fm.set 12 (.int 2)))) (some m) 7 16) = some (some r') := by rw [ofd_at hm', h16]; rfl
          have R2 := h_stands' (κ := κ) (T := T) (n := n + 2) (kk := kk) (j := j) (e := r') (x := xmSm T f pp ee h env vs d.2.2.2.1.2) ma' (List.getElem?_set_self (by rw [M.1.2]; decide)) (by decide) hr
          rw [es, e5, obn_at, e16, obn_at, oob_at ma', obn_at, R2, oin_at, ogd_at (b01_nar _), if_neg c1]
          exact ⟨_, rfl⟩
    · rcases w with ⟨rfl, -, hkq, x, gk, wa, wb⟩ | ⟨w, -⟩
      · have hd : hDp (.inner 30 d z ta tb) = max (hDp ta) (hDp tb) := rfl
        obtain ⟨u, rfl⟩ : ∃ v, u = v + 1 := ⟨u - 1, by omega⟩
        have ex : xmC T f pp ee h env vs (.inner 30 d z ta tb) gl = (match xmC T f pp ee h env vs ta 0 with | none => none | some c => if c = decide (gl = 21) then xmC T f pp ee h env vs tb gl else some c) := rfl
        rw [ex]
        exact STEP g' k q m n gl u fs pa x _ _ gk hkq hgl hm h18 L hq (by omega) (hCn_nd wa) (Ia.1 _ x n wa (by omega)) (fun hq' => Ib.2 g' (k + 1) q m n gl u fs pa wb (by omega) hgl hm h18 L hq (by omega))
      · cases w
end HHO
