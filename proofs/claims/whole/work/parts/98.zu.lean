/-! the class's parser: both and either -/
section CQH
variable {κ : oKv} {sz T n m len cnt : Nat} {kk pp ee f : Nat → Int32} {A : Nat → Nat} {nq ni : Int32} {rt : Value} {D : cDt} {cd : Nat} {cn : Int32} {nm : Nat → Option Nat}
/-- a C of ||, over a reader of those with && -/
def aEi0 (kk : Nat → Int32) (T : Nat) (F : Nat → aR tT) (i : Nat) : aR tT := (F i).on fun c j => (aCL kk 303 F T j).on fun cs j' => .inr (tMk 20 c cs, j')
theorem aEi_eq (kk : Nat → Int32) (T : Nat) (g : Nat → aR tT) : aEi kk T g = aEi0 kk T (aBo kk T g) := rfl
/-- Node.<init> -/
theorem n_init {σ : oSt} {x : Nat} {k pl c : Int32} (h : σ.1 x = some (.inr (7, odef 7))) : oF κ T (n + 1) 102 [va_rf (some x), .int k, .int pl, .int c] σ = some (none, oput σ x (.inr (7, cNd k pl c))) := by
  rw [oE_X5_init]
  unfold ob_X5_init
  rw [odef_7] at h
  rw [obn_at, opf_at h (show 0 < 21 by decide), obn_at, opf_at (oput_eq _ _ _) (show 1 < 21 by decide), obn_at, oput_oput, opf_at (oput_eq _ _ _) (show 2 < 21 by decide), obn_at, oput_oput, opf_at (oput_eq _ _ _) (show 3 < 21 by decide), obn_at, oput_oput]
  rfl
set_option maxHeartbeats 4000000 in
theorem c_both {dp : Nat} {F : Nat → aR tT} (hm : 6 ≤ m) (hT : 2010 ≤ T) (HG : cCc κ sz T len cnt kk pp ee f A nq ni rt D cd cn nm 128 dp m F 22 165) (hF : ∀ i t j, F i = .inr (t, j) → i < j) : cCc κ sz T len cnt kk pp ee f A nq ni rt D cd cn nm 126 dp (m + 1) (aBo kk T F) 22 172 := by
  intro σ at' am bd nf ff s ν h ho hn
  have lowσ : κ.2.2.1 < sz := h.1.1.2.2.2
  have szσ : sz ≤ σ.2.1 := h.1.1.2.2.1
  have hcn : cnt ≤ 2000 := by have := h.1.2.1.2.2.2.2.2; have := h.1.2.1.2.2.2.2.1; omega
  rw [oE_X7_both]
  unfold ob_X7_both
  obtain ⟨σ1, at1, am1, bd1, nf1, ff1, e1, pl, y1, y2, y3, y4, ⟨⟨fs, y5, y5b⟩, y5c⟩, ⟨y6, y6b⟩, y7, y8⟩ := HG σ at' am bd nf ff s ν h ho hn
  rw [oob_at h.2.1, obn_at, y1, orn_at, oob_at y2.2.1, obn_at, c_kind (n := m) y2 y3 (by omega), oin_at]
  have y41 := y4.1
  by_cases cS : cK kk (aTo s F) = 302
  · rw [if_pos cS]
    -- the first stands, and a sign behind it
    obtain ⟨i, hi⟩ : ∃ i, s = .inr i := by
      cases s with
      | inl j => exact absurd (show (0 : Int32) = 302 from cS) (by decide)
      | inr i => exact ⟨i, rfl⟩
    subst hi
    obtain ⟨c, j1, eF⟩ : ∃ c j1, F i = .inr (c, j1) := by
      cases es : F i with
      | inl j => rw [aTo_ok, es] at cS; exact absurd (show (0 : Int32) = 302 from cS) (by decide)
      | inr r => exact ⟨r.1, r.2, rfl⟩
    have hati : at' = i := ho.2.1
    subst hati
    rw [aTo_ok, eF] at y3 cS
    have hj1 : at1 = j1 := y3.2.1
    subst hj1
    have aS : aIs kk 302 at1 = true := decide_eq_true cS
    obtain ⟨u1, u2, u3, u4, u5⟩ := y8 at' c at1 rfl eF
    have hij := hF at' c at1 eF
    -- the node
    rw [olet_at, oq_7]
    have g2 : cV κ sz len cnt kk pp ee f A nq ni rt (onew σ1 (.inr (7, odef 7)) 21) D at1 cd cn am1 bd1 nf1 ff1 := (y2.nw _ _).1
    have k2 : ∀ a, a ≠ σ1.2.1 → (onew σ1 (.inr (7, odef 7)) 21).1 a = σ1.1 a := fun a ha => onew_ne ha
    have e2 : (onew σ1 (.inr (7, odef 7)) 21).1 σ1.2.1 = some (.inr (7, odef 7)) := onew_eq _ _ _
    have z2 : (onew σ1 (.inr (7, odef 7)) 21).2 = (σ1.2.1 + 1, σ1.2.2.1 + 1, σ1.2.2.2 + 21) := rfl
    generalize onew σ1 (.inr (7, odef 7)) 21 = σ2 at g2 k2 e2 z2 ⊢
    have z21 : σ2.2.1 = σ1.2.1 + 1 := by rw [z2]
    have le1 : e1 < σ1.2.1 := alt y2.1.1.1 y5
    have f1 : ofd σ2 (some e1) 7 1 = some (.int pl) := by rw [ofd_at (show σ2.1 e1 = some (.inr (7, fs)) by rw [k2 e1 (by omega)]; exact y5)]; exact y5b
    have f12 : ofd σ2 (some (A 0)) 9 12 = some (.int (nI cd)) := by rw [ofd_at g2.2.1]; rfl
    obtain ⟨m3, hm3⟩ : ∃ m3, m = m3 + 3 := ⟨m - 3, by omega⟩
    have NI := n_init (κ := κ) (T := T) (n := m3 + 2) (k := 302) (pl := pl) (c := nI cd) e2
    rw [show m3 + 2 + 1 = m by omega] at NI
    rw [f1, ovi_in, obn_at, f12, ovi_in, obn_at, obn_at, NI, ocv_at]
    have e3 : (oput σ2 σ1.2.1 (.inr (7, cNd 302 pl (nI cd)))).1 σ1.2.1 = some (.inr (7, cNd 302 pl (nI cd))) := oput_eq _ _ _
    have k3 : ∀ a, a ≠ σ1.2.1 → (oput σ2 σ1.2.1 (.inr (7, cNd 302 pl (nI cd)))).1 a = σ1.1 a := fun a ha => by rw [oput_ne ha]; exact k2 a ha
    have z3 : (oput σ2 σ1.2.1 (.inr (7, cNd 302 pl (nI cd)))).2 = (σ1.2.1 + 1, σ1.2.2.1 + 1, σ1.2.2.2 + 21) := z2
    generalize oput σ2 σ1.2.1 (.inr (7, cNd 302 pl (nI cd))) = σ3 at e3 k3 z3 ⊢
    have z31 : σ3.2.1 = σ1.2.1 + 1 := by rw [z3]
    -- the list
    rw [olet_at, oq_1, obn_at]
    have e4 : (onew σ3 (.inr (1, odef 1)) 3).1 σ3.2.1 = some (.inr (1, odef 1)) := onew_eq _ _ _
    have k4 : ∀ a, a ≠ σ3.2.1 → (onew σ3 (.inr (1, odef 1)) 3).1 a = σ3.1 a := fun a ha => onew_ne ha
    have z4 : (onew σ3 (.inr (1, odef 1)) 3).2 = (σ1.2.1 + 2, σ1.2.2.1 + 2, σ1.2.2.2 + 24) := by
      show (σ3.2.1 + 1, σ3.2.2.1 + 1, σ3.2.2.2 + 3) = _
      rw [z3]
    generalize onew σ3 (.inr (1, odef 1)) 3 = σ4 at e4 k4 z4 ⊢
    rw [z31] at e4 k4 ⊢
    rw [hm3, l_init e4, ocv_at, ← hm3]
    have e5 : (oput σ4 (σ1.2.1 + 1) (.inr (1, [.int 0, .ref κ.2.2.1, .int 0]))).1 (σ1.2.1 + 1) = some (.inr (1, [.int 0, .ref κ.2.2.1, .int 0])) := oput_eq _ _ _
    have k5 : ∀ a, a ≠ σ1.2.1 + 1 → (oput σ4 (σ1.2.1 + 1) (.inr (1, [.int 0, .ref κ.2.2.1, .int 0]))).1 a = σ3.1 a := fun a ha => by rw [oput_ne ha]; exact k4 a ha
    have z5 : (oput σ4 (σ1.2.1 + 1) (.inr (1, [.int 0, .ref κ.2.2.1, .int 0]))).2 = (σ1.2.1 + 2, σ1.2.2.1 + 2, σ1.2.2.2 + 24) := z4
    generalize oput σ4 (σ1.2.1 + 1) (.inr (1, [.int 0, .ref κ.2.2.1, .int 0])) = σ5 at e5 k5 z5 ⊢
    have e5' : σ5.1 σ1.2.1 = some (.inr (7, cNd 302 pl (nI cd))) := by rw [k5 _ (by omega)]; exact e3
    have p6 : opf σ5 (some σ1.2.1) 7 18 (va_rf (some (σ1.2.1 + 1))) = some (oput σ5 σ1.2.1 (.inr (7, cLf 302 pl (nI cd) (σ1.2.1 + 1)))) := by
      rw [opf_at e5' (show 18 < 21 by decide)]; rfl
    rw [p6, obn_at]
    have e6 : (oput σ5 σ1.2.1 (.inr (7, cLf 302 pl (nI cd) (σ1.2.1 + 1)))).1 σ1.2.1 = some (.inr (7, cLf 302 pl (nI cd) (σ1.2.1 + 1))) := oput_eq _ _ _
    have k6 : ∀ a, a ≠ σ1.2.1 → (oput σ5 σ1.2.1 (.inr (7, cLf 302 pl (nI cd) (σ1.2.1 + 1)))).1 a = σ5.1 a := fun a ha => oput_ne ha
    have z6 : (oput σ5 σ1.2.1 (.inr (7, cLf 302 pl (nI cd) (σ1.2.1 + 1)))).2 = (σ1.2.1 + 2, σ1.2.2.1 + 2, σ1.2.2.2 + 24) := z5
    generalize oput σ5 σ1.2.1 (.inr (7, cLf 302 pl (nI cd) (σ1.2.1 + 1))) = σ6 at e6 k6 z6 ⊢
    have z61 : σ6.2.1 = σ1.2.1 + 2 := by rw [z6]
    have z62 : σ6.2.2.1 = σ1.2.2.1 + 2 := by rw [z6]
    have z63 : σ6.2.2.2 = σ1.2.2.2 + 24 := by rw [z6]
    have old6 : ∀ a, a < σ1.2.1 → σ6.1 a = σ1.1 a := fun a ha => by rw [k6 a (by omega), k5 a (by omega), k3 a (by omega)]
    have fr6 : ∀ q, σ6.2.1 ≤ q → σ6.1 q = none := fun q hq => by
      rw [k6 q (by omega), k5 q (by omega), k3 q (by omega)]; exact y2.1.1.1 q (by omega)
    obtain ⟨v6, r6⟩ := y2.ex old6 fr6 (by omega)
    have low6 : σ6.1 κ.2.2.1 = none := v6.1.1.2.1 _ lowσ
    have e6p : σ6.1 (σ1.2.1 + 1) = some (.inr (1, [.int 0, .ref κ.2.2.1, .int 0])) := by rw [k6 _ (by omega)]; exact e5
    have l6 : cLs κ σ6 (σ1.2.1 + 1) κ.2.2.1 0 0 0 (fun _ => none) 7 := ⟨e6p, Or.inl ⟨rfl, rfl, rfl, low6⟩, fun j hj => absurd hj (Nat.not_lt_zero _)⟩
    have okp : cOk A D σ.2.1 σ6 (σ1.2.1 + 1) := h.new (by omega) (by omega)
    have f18 : ofd σ6 (some σ1.2.1) 7 18 = some (.ref (σ1.2.1 + 1)) := by rw [ofd_at e6]; rfl
    rw [f18, ovr_rf, obn_at, oob_at e6p, obn_at]
    -- the first into it
    obtain ⟨σ7, d7, cap7, g7, w1, w2, w3, w4, w5, w6, ⟨w7, w7b⟩, w8, w9, w10, ⟨w11, w12⟩⟩ := c_ladd (κ := κ) (T := T) (m := m) v6 h.lo l6 (Or.inr ⟨rfl, low6⟩) okp (by omega) (by omega) (show σ6.1 e1 = some (.inr (7, fs)) by rw [old6 e1 le1]; exact y5) hm
    rw [w1, oin_at]
    have d7c : d7 = σ6.2.1 := by
      rcases w9 with z | z
      · exfalso
        rcases w3.2.1 with ⟨q1, -⟩ | ⟨q1, -⟩
        · omega
        · have := w4.1
          rw [z] at this
          omega
      · exact z
    have old7 : ∀ a, a < σ1.2.1 → σ7.1 a = σ1.1 a := fun a ha => by rw [w8 a (by omega) (by omega)]; exact old6 a ha
    have e7 : σ7.1 σ1.2.1 = some (.inr (7, cLf 302 pl (nI cd) (σ1.2.1 + 1))) := by rw [w8 _ (by omega) (by omega)]; exact e6
    have N7 : cNm pp ee f σ7 D nm (nCt f pp ee c ν) cd nf1 := u3.ex y2.1.1.1 old7
    -- and those behind
    have o0 : (0 : Int32) = nI 0 := rfl
    obtain ⟨σ8, at8, am8, bd8, nf8, ff8, d8, cap8, mc8, g8, q8, x1, x2, x3, ⟨x4, x4b⟩, ⟨x5, x6, x7, x8, x9, x10⟩, ⟨x11, x12⟩, ⟨x13, x13b⟩, x14⟩ := c_both_lp (κ := κ) (T := T) (m := m) (lo := σ.2.1) (e := σ1.2.1) (pl := pl) h.lo hm HG hF (by omega) T 0 σ7 at1 am1 bd1 nf1 ff1 (.inr at1) (nCt f pp ee c ν) 1 d7 cap7 (0 + 1) g7 w2 y3 (fun _ _ => N7) e7 w3 (Or.inl w4) w5 w6 (by omega) (fun i' hi' => by omega) (by omega)
    rw [← o0] at x1
    rw [x1]
    have q2 := x13b at1 rfl aS
    have eA : aBo kk T F at' = (aCL kk 302 F T at1).on fun cs j' => .inr (tMk 21 c cs, j') := by unfold aBo; rw [eF]; rfl
    have nd8 : σ8.1 σ1.2.1 = some (.inr (7, cLf 302 pl (nI cd) (σ1.2.1 + 1))) := by
      rw [x4b σ1.2.1 (by omega) (cMu.no w2 e7 (by omega)) (by omega) (by omega)]; exact e7
    refine ⟨σ8, at8, am8, bd8, nf8, ff8, σ1.2.1, pl, rfl, x2, ?_, ⟨by omega, fun a ha hmu => ?_, Or.inl rfl, Or.inl rfl⟩, ⟨⟨_, nd8, rfl⟩, by omega⟩, ⟨by omega, by omega⟩, by omega, fun i t j hi ht => ?_⟩
    · rw [aTo_ok, eA]
      rw [aTo_ok] at x3
      cases es : aCL kk 302 F T at1 with
      | inl j => rw [es] at x3; exact x3
      | inr r => rw [es] at x3; exact x3
    · rw [x4b a (by omega) hmu (by omega) (by omega), old7 a (by omega), y4.2.1 a ha hmu]
    · cases hi
      rw [eA] at ht
      obtain ⟨cs, j2, es, ht⟩ := on_ok ht
      cases ht
      obtain ⟨b1, b2, b3, b4⟩ := x14 at1 cs j rfl es
      have eR : nRes f pp ee nm (nCt f pp ee c ν) = nRes f pp ee nm ν := funext fun w => nRes_1 (nCt_1 f pp ee c ν) w
      rw [eR] at b1 b4
      have KP : cKp κ A D σ.2.1 σ1 D σ.2.1 σ8 := by
        have KC : ∀ a ci gs, (ci = 6 ∨ ci = 7) → σ1.1 a = some (.inr (ci, gs)) → σ8.1 a = some (.inr (ci, gs)) := fun a ci gs hci ea => by
          have la := alt y2.1.1.1 ea
          rw [x4b a (by omega) (cMu.no y2 ea (by omega)) (by omega) (by omega), old7 a la]
          exact ea
        refine ⟨fun a ha => ?_, fun a gs ea => ⟨gs, KC a 6 gs (Or.inl rfl) ea⟩, fun a gs ea => ⟨gs, KC a 7 gs (Or.inr rfl) ea⟩, x2.1.1.2.1 _ lowσ⟩
        have a2 := ha.2.1
        exact ⟨by rw [x4b a (by omega) ha.2.2 (by omega) (by omega), old7 a a2], ha.1, by omega, ha.2.2⟩
      have hcs : ∃ n0 d0 a0 b0, cs = .inner n0 d0 () a0 b0 := by
        obtain ⟨t', hT'⟩ : ∃ t', T = t' + 1 := ⟨T - 1, by omega⟩
        rw [hT', aCL, if_pos aS] at es
        obtain ⟨_, _, _, es⟩ := on_ok es
        obtain ⟨_, _, _, es⟩ := on_ok es
        cases es
        exact ⟨_, _, _, _, rfl⟩
      obtain ⟨n0, d0, a0, b0, rfl⟩ := hcs
      refine ⟨⟨h.new (by omega) (by omega), σ1.2.1 + 1, q8, g8, e1, by rw [← u2]; exact nd8, ⟨d8, cap8, mc8, x5, x6, x7, x8⟩, by rw [x10 0 (by omega)]; exact w7b, cCt.kp KP c _ _ _ u1, b1⟩, u2, b2, ?_, ?_⟩
      · rw [b3, u4, Int32.add_assoc, nI_add]; rfl
      · rw [b4, u5]; rfl
  · rw [if_neg cS]
    have hno : ∀ i c j1, s = .inr i → F i = .inr (c, j1) → aBo kk T F i = .inr (c, j1) := fun i c j1 hi eF => by
      subst hi
      rw [aTo_ok, eF] at cS
      obtain ⟨t', hT'⟩ : ∃ t', T = t' + 1 := ⟨T - 1, by omega⟩
      have eC : aCL kk 302 F T j1 = .inr (tZ, j1) := by rw [hT', aCL, if_neg (show ¬ aIs kk 302 j1 = true from fun z => cS (of_decide_eq_true z))]
      unfold aBo
      rw [eF]
      show ((aCL kk 302 F T j1).on fun cs j' => (.inr (tMk 21 c cs, j') : aR tT)) = _
      rw [eC]
      rfl
    have hnf : ∀ i j, s = .inr i → F i = .inl j → aBo kk T F i = .inl j := fun i j hi eF => by
      unfold aBo
      rw [eF]
      rfl
    refine ⟨σ1, at1, am1, bd1, nf1, ff1, e1, pl, rfl, y2, ?_, y4, ⟨⟨fs, y5, y5b⟩, y5c⟩, ⟨y6, by omega⟩, y7, fun i t j hi ht => ?_⟩
    · cases s with
      | inl j => exact y3
      | inr i =>
        rw [aTo_ok] at y3 ⊢
        cases es : F i with
        | inl j => rw [hnf i j rfl es]; rw [es] at y3; exact y3
        | inr r => rw [hno i r.1 r.2 rfl es]; rw [es] at y3; exact y3
    · cases es : F i with
      | inl j2 => rw [hnf i j2 hi es] at ht; cases ht
      | inr r =>
        rw [hno i r.1 r.2 hi es] at ht
        cases ht
        exact y8 i r.1 r.2 hi es
set_option maxHeartbeats 4000000 in
theorem c_either {dp : Nat} {F : Nat → aR tT} (hm : 6 ≤ m) (hT : 2010 ≤ T) (HG : cCc κ sz T len cnt kk pp ee f A nq ni rt D cd cn nm 126 dp m F 22 172) (hF : ∀ i t j, F i = .inr (t, j) → i < j) : cCc κ sz T len cnt kk pp ee f A nq ni rt D cd cn nm 127 dp (m + 1) (aEi0 kk T F) 22 190 := by
  intro σ at' am bd nf ff s ν h ho hn
  have lowσ : κ.2.2.1 < sz := h.1.1.2.2.2
  have szσ : sz ≤ σ.2.1 := h.1.1.2.2.1
  have hcn : cnt ≤ 2000 := by have := h.1.2.1.2.2.2.2.2; have := h.1.2.1.2.2.2.2.1; omega
  rw [oE_X7_either]
  unfold ob_X7_either
  obtain ⟨σ1, at1, am1, bd1, nf1, ff1, e1, pl, y1, y2, y3, y4, ⟨⟨fs, y5, y5b⟩, y5c⟩, ⟨y6, y6b⟩, y7, y8⟩ := HG σ at' am bd nf ff s ν h ho hn
  rw [oob_at h.2.1, obn_at, y1, orn_at, oob_at y2.2.1, obn_at, c_kind (n := m) y2 y3 (by omega), oin_at]
  have y41 := y4.1
  by_cases cS : cK kk (aTo s F) = 303
  · rw [if_pos cS]
    -- the first stands, and a sign behind it
    obtain ⟨i, hi⟩ : ∃ i, s = .inr i := by
      cases s with
      | inl j => exact absurd (show (0 : Int32) = 303 from cS) (by decide)
      | inr i => exact ⟨i, rfl⟩
    subst hi
    obtain ⟨c, j1, eF⟩ : ∃ c j1, F i = .inr (c, j1) := by
      cases es : F i with
      | inl j => rw [aTo_ok, es] at cS; exact absurd (show (0 : Int32) = 303 from cS) (by decide)
      | inr r => exact ⟨r.1, r.2, rfl⟩
    have hati : at' = i := ho.2.1
    subst hati
    rw [aTo_ok, eF] at y3 cS
    have hj1 : at1 = j1 := y3.2.1
    subst hj1
    have aS : aIs kk 303 at1 = true := decide_eq_true cS
    obtain ⟨u1, u2, u3, u4, u5⟩ := y8 at' c at1 rfl eF
    have hij := hF at' c at1 eF
    -- the node
    rw [olet_at, oq_7]
    have g2 : cV κ sz len cnt kk pp ee f A nq ni rt (onew σ1 (.inr (7, odef 7)) 21) D at1 cd cn am1 bd1 nf1 ff1 := (y2.nw _ _).1
    have k2 : ∀ a, a ≠ σ1.2.1 → (onew σ1 (.inr (7, odef 7)) 21).1 a = σ1.1 a := fun a ha => onew_ne ha
    have e2 : (onew σ1 (.inr (7, odef 7)) 21).1 σ1.2.1 = some (.inr (7, odef 7)) := onew_eq _ _ _
    have z2 : (onew σ1 (.inr (7, odef 7)) 21).2 = (σ1.2.1 + 1, σ1.2.2.1 + 1, σ1.2.2.2 + 21) := rfl
    generalize onew σ1 (.inr (7, odef 7)) 21 = σ2 at g2 k2 e2 z2 ⊢
    have z21 : σ2.2.1 = σ1.2.1 + 1 := by rw [z2]
    have le1 : e1 < σ1.2.1 := alt y2.1.1.1 y5
    have f1 : ofd σ2 (some e1) 7 1 = some (.int pl) := by rw [ofd_at (show σ2.1 e1 = some (.inr (7, fs)) by rw [k2 e1 (by omega)]; exact y5)]; exact y5b
    have f12 : ofd σ2 (some (A 0)) 9 12 = some (.int (nI cd)) := by rw [ofd_at g2.2.1]; rfl
    obtain ⟨m3, hm3⟩ : ∃ m3, m = m3 + 3 := ⟨m - 3, by omega⟩
    have NI := n_init (κ := κ) (T := T) (n := m3 + 2) (k := 303) (pl := pl) (c := nI cd) e2
    rw [show m3 + 2 + 1 = m by omega] at NI
    rw [f1, ovi_in, obn_at, f12, ovi_in, obn_at, obn_at, NI, ocv_at]
    have e3 : (oput σ2 σ1.2.1 (.inr (7, cNd 303 pl (nI cd)))).1 σ1.2.1 = some (.inr (7, cNd 303 pl (nI cd))) := oput_eq _ _ _
    have k3 : ∀ a, a ≠ σ1.2.1 → (oput σ2 σ1.2.1 (.inr (7, cNd 303 pl (nI cd)))).1 a = σ1.1 a := fun a ha => by rw [oput_ne ha]; exact k2 a ha
    have z3 : (oput σ2 σ1.2.1 (.inr (7, cNd 303 pl (nI cd)))).2 = (σ1.2.1 + 1, σ1.2.2.1 + 1, σ1.2.2.2 + 21) := z2
    generalize oput σ2 σ1.2.1 (.inr (7, cNd 303 pl (nI cd))) = σ3 at e3 k3 z3 ⊢
    have z31 : σ3.2.1 = σ1.2.1 + 1 := by rw [z3]
    -- the list
    rw [olet_at, oq_1, obn_at]
    have e4 : (onew σ3 (.inr (1, odef 1)) 3).1 σ3.2.1 = some (.inr (1, odef 1)) := onew_eq _ _ _
    have k4 : ∀ a, a ≠ σ3.2.1 → (onew σ3 (.inr (1, odef 1)) 3).1 a = σ3.1 a := fun a ha => onew_ne ha
    have z4 : (onew σ3 (.inr (1, odef 1)) 3).2 = (σ1.2.1 + 2, σ1.2.2.1 + 2, σ1.2.2.2 + 24) := by
      show (σ3.2.1 + 1, σ3.2.2.1 + 1, σ3.2.2.2 + 3) = _
      rw [z3]
    generalize onew σ3 (.inr (1, odef 1)) 3 = σ4 at e4 k4 z4 ⊢
    rw [z31] at e4 k4 ⊢
    rw [hm3, l_init e4, ocv_at, ← hm3]
    have e5 : (oput σ4 (σ1.2.1 + 1) (.inr (1, [.int 0, .ref κ.2.2.1, .int 0]))).1 (σ1.2.1 + 1) = some (.inr (1, [.int 0, .ref κ.2.2.1, .int 0])) := oput_eq _ _ _
    have k5 : ∀ a, a ≠ σ1.2.1 + 1 → (oput σ4 (σ1.2.1 + 1) (.inr (1, [.int 0, .ref κ.2.2.1, .int 0]))).1 a = σ3.1 a := fun a ha => by rw [oput_ne ha]; exact k4 a ha
    have z5 : (oput σ4 (σ1.2.1 + 1) (.inr (1, [.int 0, .ref κ.2.2.1, .int 0]))).2 = (σ1.2.1 + 2, σ1.2.2.1 + 2, σ1.2.2.2 + 24) := z4
    generalize oput σ4 (σ1.2.1 + 1) (.inr (1, [.int 0, .ref κ.2.2.1, .int 0])) = σ5 at e5 k5 z5 ⊢
    have e5' : σ5.1 σ1.2.1 = some (.inr (7, cNd 303 pl (nI cd))) := by rw [k5 _ (by omega)]; exact e3
    have p6 : opf σ5 (some σ1.2.1) 7 18 (va_rf (some (σ1.2.1 + 1))) = some (oput σ5 σ1.2.1 (.inr (7, cLf 303 pl (nI cd) (σ1.2.1 + 1)))) := by
      rw [opf_at e5' (show 18 < 21 by decide)]; rfl
    rw [p6, obn_at]
    have e6 : (oput σ5 σ1.2.1 (.inr (7, cLf 303 pl (nI cd) (σ1.2.1 + 1)))).1 σ1.2.1 = some (.inr (7, cLf 303 pl (nI cd) (σ1.2.1 + 1))) := oput_eq _ _ _
    have k6 : ∀ a, a ≠ σ1.2.1 → (oput σ5 σ1.2.1 (.inr (7, cLf 303 pl (nI cd) (σ1.2.1 + 1)))).1 a = σ5.1 a := fun a ha => oput_ne ha
    have z6 : (oput σ5 σ1.2.1 (.inr (7, cLf 303 pl (nI cd) (σ1.2.1 + 1)))).2 = (σ1.2.1 + 2, σ1.2.2.1 + 2, σ1.2.2.2 + 24) := z5
    generalize oput σ5 σ1.2.1 (.inr (7, cLf 303 pl (nI cd) (σ1.2.1 + 1))) = σ6 at e6 k6 z6 ⊢
    have z61 : σ6.2.1 = σ1.2.1 + 2 := by rw [z6]
    have z62 : σ6.2.2.1 = σ1.2.2.1 + 2 := by rw [z6]
    have z63 : σ6.2.2.2 = σ1.2.2.2 + 24 := by rw [z6]
    have old6 : ∀ a, a < σ1.2.1 → σ6.1 a = σ1.1 a := fun a ha => by rw [k6 a (by omega), k5 a (by omega), k3 a (by omega)]
    have fr6 : ∀ q, σ6.2.1 ≤ q → σ6.1 q = none := fun q hq => by
      rw [k6 q (by omega), k5 q (by omega), k3 q (by omega)]; exact y2.1.1.1 q (by omega)
    obtain ⟨v6, r6⟩ := y2.ex old6 fr6 (by omega)
    have low6 : σ6.1 κ.2.2.1 = none := v6.1.1.2.1 _ lowσ
    have e6p : σ6.1 (σ1.2.1 + 1) = some (.inr (1, [.int 0, .ref κ.2.2.1, .int 0])) := by rw [k6 _ (by omega)]; exact e5
    have l6 : cLs κ σ6 (σ1.2.1 + 1) κ.2.2.1 0 0 0 (fun _ => none) 7 := ⟨e6p, Or.inl ⟨rfl, rfl, rfl, low6⟩, fun j hj => absurd hj (Nat.not_lt_zero _)⟩
    have okp : cOk A D σ.2.1 σ6 (σ1.2.1 + 1) := h.new (by omega) (by omega)
    have f18 : ofd σ6 (some σ1.2.1) 7 18 = some (.ref (σ1.2.1 + 1)) := by rw [ofd_at e6]; rfl
    rw [f18, ovr_rf, obn_at, oob_at e6p, obn_at]
    -- the first into it
    obtain ⟨σ7, d7, cap7, g7, w1, w2, w3, w4, w5, w6, ⟨w7, w7b⟩, w8, w9, w10, ⟨w11, w12⟩⟩ := c_ladd (κ := κ) (T := T) (m := m) v6 h.lo l6 (Or.inr ⟨rfl, low6⟩) okp (by omega) (by omega) (show σ6.1 e1 = some (.inr (7, fs)) by rw [old6 e1 le1]; exact y5) hm
    rw [w1, oin_at]
    have d7c : d7 = σ6.2.1 := by
      rcases w9 with z | z
      · exfalso
        rcases w3.2.1 with ⟨q1, -⟩ | ⟨q1, -⟩
        · omega
        · have := w4.1
          rw [z] at this
          omega
      · exact z
    have old7 : ∀ a, a < σ1.2.1 → σ7.1 a = σ1.1 a := fun a ha => by rw [w8 a (by omega) (by omega)]; exact old6 a ha
    have e7 : σ7.1 σ1.2.1 = some (.inr (7, cLf 303 pl (nI cd) (σ1.2.1 + 1))) := by rw [w8 _ (by omega) (by omega)]; exact e6
    have N7 : cNm pp ee f σ7 D nm (nCt f pp ee c ν) cd nf1 := u3.ex y2.1.1.1 old7
    -- and those behind
    have o0 : (0 : Int32) = nI 0 := rfl
    obtain ⟨σ8, at8, am8, bd8, nf8, ff8, d8, cap8, mc8, g8, q8, x1, x2, x3, ⟨x4, x4b⟩, ⟨x5, x6, x7, x8, x9, x10⟩, ⟨x11, x12⟩, ⟨x13, x13b⟩, x14⟩ := c_either_lp (κ := κ) (T := T) (m := m) (lo := σ.2.1) (e := σ1.2.1) (pl := pl) h.lo hm HG hF (by omega) T 0 σ7 at1 am1 bd1 nf1 ff1 (.inr at1) (nCt f pp ee c ν) 1 d7 cap7 (0 + 1) g7 w2 y3 (fun _ _ => N7) e7 w3 (Or.inl w4) w5 w6 (by omega) (fun i' hi' => by omega) (by omega)
    rw [← o0] at x1
    rw [x1]
    have q2 := x13b at1 rfl aS
    have eA : aEi0 kk T F at' = (aCL kk 303 F T at1).on fun cs j' => .inr (tMk 20 c cs, j') := by unfold aEi0; rw [eF]; rfl
    have nd8 : σ8.1 σ1.2.1 = some (.inr (7, cLf 303 pl (nI cd) (σ1.2.1 + 1))) := by
      rw [x4b σ1.2.1 (by omega) (cMu.no w2 e7 (by omega)) (by omega) (by omega)]; exact e7
    refine ⟨σ8, at8, am8, bd8, nf8, ff8, σ1.2.1, pl, rfl, x2, ?_, ⟨by omega, fun a ha hmu => ?_, Or.inl rfl, Or.inl rfl⟩, ⟨⟨_, nd8, rfl⟩, by omega⟩, ⟨by omega, by omega⟩, by omega, fun i t j hi ht => ?_⟩
    · rw [aTo_ok, eA]
      rw [aTo_ok] at x3
      cases es : aCL kk 303 F T at1 with
      | inl j => rw [es] at x3; exact x3
      | inr r => rw [es] at x3; exact x3
    · rw [x4b a (by omega) hmu (by omega) (by omega), old7 a (by omega), y4.2.1 a ha hmu]
    · cases hi
      rw [eA] at ht
      obtain ⟨cs, j2, es, ht⟩ := on_ok ht
      cases ht
      obtain ⟨b1, b2, b3, b4⟩ := x14 at1 cs j rfl es
      have eR : nRes f pp ee nm (nCt f pp ee c ν) = nRes f pp ee nm ν := funext fun w => nRes_1 (nCt_1 f pp ee c ν) w
      rw [eR] at b1 b4
      have KP : cKp κ A D σ.2.1 σ1 D σ.2.1 σ8 := by
        have KC : ∀ a ci gs, (ci = 6 ∨ ci = 7) → σ1.1 a = some (.inr (ci, gs)) → σ8.1 a = some (.inr (ci, gs)) := fun a ci gs hci ea => by
          have la := alt y2.1.1.1 ea
          rw [x4b a (by omega) (cMu.no y2 ea (by omega)) (by omega) (by omega), old7 a la]
          exact ea
        refine ⟨fun a ha => ?_, fun a gs ea => ⟨gs, KC a 6 gs (Or.inl rfl) ea⟩, fun a gs ea => ⟨gs, KC a 7 gs (Or.inr rfl) ea⟩, x2.1.1.2.1 _ lowσ⟩
        have a2 := ha.2.1
        exact ⟨by rw [x4b a (by omega) ha.2.2 (by omega) (by omega), old7 a a2], ha.1, by omega, ha.2.2⟩
      have hcs : ∃ n0 d0 a0 b0, cs = .inner n0 d0 () a0 b0 := by
        obtain ⟨t', hT'⟩ : ∃ t', T = t' + 1 := ⟨T - 1, by omega⟩
        rw [hT', aCL, if_pos aS] at es
        obtain ⟨_, _, _, es⟩ := on_ok es
        obtain ⟨_, _, _, es⟩ := on_ok es
        cases es
        exact ⟨_, _, _, _, rfl⟩
      obtain ⟨n0, d0, a0, b0, rfl⟩ := hcs
      refine ⟨⟨h.new (by omega) (by omega), σ1.2.1 + 1, q8, g8, e1, by rw [← u2]; exact nd8, ⟨d8, cap8, mc8, x5, x6, x7, x8⟩, by rw [x10 0 (by omega)]; exact w7b, cCt.kp KP c _ _ _ u1, b1⟩, u2, b2, ?_, ?_⟩
      · rw [b3, u4, Int32.add_assoc, nI_add]; rfl
      · rw [b4, u5]; rfl
  · rw [if_neg cS]
    have hno : ∀ i c j1, s = .inr i → F i = .inr (c, j1) → aEi0 kk T F i = .inr (c, j1) := fun i c j1 hi eF => by
      subst hi
      rw [aTo_ok, eF] at cS
      obtain ⟨t', hT'⟩ : ∃ t', T = t' + 1 := ⟨T - 1, by omega⟩
      have eC : aCL kk 303 F T j1 = .inr (tZ, j1) := by rw [hT', aCL, if_neg (show ¬ aIs kk 303 j1 = true from fun z => cS (of_decide_eq_true z))]
      unfold aEi0
      rw [eF]
      show ((aCL kk 303 F T j1).on fun cs j' => (.inr (tMk 20 c cs, j') : aR tT)) = _
      rw [eC]
      rfl
    have hnf : ∀ i j, s = .inr i → F i = .inl j → aEi0 kk T F i = .inl j := fun i j hi eF => by
      unfold aEi0
      rw [eF]
      rfl
    refine ⟨σ1, at1, am1, bd1, nf1, ff1, e1, pl, rfl, y2, ?_, y4, ⟨⟨fs, y5, y5b⟩, y5c⟩, ⟨y6, by omega⟩, y7, fun i t j hi ht => ?_⟩
    · cases s with
      | inl j => exact y3
      | inr i =>
        rw [aTo_ok] at y3 ⊢
        cases es : F i with
        | inl j => rw [hnf i j rfl es]; rw [es] at y3; exact y3
        | inr r => rw [hno i r.1 r.2 rfl es]; rw [es] at y3; exact y3
    · cases es : F i with
      | inl j2 => rw [hnf i j2 hi es] at ht; cases ht
      | inr r =>
        rw [hno i r.1 r.2 hi es] at ht
        cases ht
        exact y8 i r.1 r.2 hi es
end CQH
