/-! weakenAll(): one turn of its loop -/
/-- what is wanted of each that must FIT -/
def wyF (T cnt : Nat) (kk pp ee f R R6 : Nat → Int32) (L : List Nat) (Γ : uGm) (Bb : Int) (Hm : Nat) (FK : Nat × List Bool → List gFc) (x : gFit) : Prop := (gMs (gSy x.2.1) = true ∧ gMs (gSy x.2.2) = true) ∧ (qSg T cnt kk pp ee f R L Γ Bb x.1 ∧ gAq Γ ((scN x.1).map Prod.fst) Bb x.2.1 ∧ gAq Γ ((scN x.1).map Prod.fst) Bb x.2.2) ∧ (∀ y A, (y, A) ∈ scN x.1 → gMs (gSy A) = true) ∧ (((scC x.1).map (fun c => cdW c.1)).sum ≤ 6 ∧ ∀ c, c ∈ scC x.1 → cdH c.1 < Hm) ∧ (∀ y A, (y, A) ∈ scN x.1 → (R6 (Γ.1 y) = 0 ↔ yK (gSy A) = 2)) ∧ (scK Γ.2.2.1 Γ.2.2.2.1 FK x.1 ∧ tyK Γ.2.2.1 Γ.2.2.2.1 FK x.2.1 ∧ tyK Γ.2.2.1 Γ.2.2.2.1 FK x.2.2)
theorem lcS.kn {σ : oSt} : ∀ (Sc : List sEn) (s : Option Nat) (Ws : List Nat), lcS σ Sc s Ws → ∀ w, w ∈ Ws → ∃ fs, σ.1 w = some (.inr (4, fs))
  | [], s, Ws, ⟨_, h2⟩, w, hw => by rw [h2] at hw; cases hw
  | .inl a :: r, s, Ws, ⟨q, ou, fs, k, gs, w0, hs, v, Ws', _, _, _, ⟨h7, _⟩, h9, h10⟩, w, hw => by
    rw [h9] at hw
    rcases List.mem_cons.mp hw with z | z
    · exact ⟨hs, by rw [z]; exact h7⟩
    · exact lcS.kn r ou Ws' h10 w z
  | .inr (m, h) :: r, s, Ws, ⟨q, ou, _, h10⟩, w, hw => lcS.kn r ou Ws h10 w hw
section WY1
variable {κ : oKv} {T T0 cnt : Nat} {kk f fc pp ee R R6 : Nat → Int32} {L : List Nat} {nm : Nat → Option Nat} {φ : Nat → Nat} {Bb : Int} {B : Nat → Nat} {D : cDt} {lo : Nat} {V : oSt} {st : Nat} {l : Nat → Nat} {b0 : Nat} {Γ : uGm} {Ψ : kGh} {σ0 σG σ : oSt} {K : Int} {j o pa ph ta th ch la N len0 n Hm : Nat} {cf : List Value} {Fc : Nat → Nat → Bool} {lk : Nat → Int32} {FK : Nat × List Bool → List gFc} {Dn : Nat → Prop} {ct : Nat → Nat → Option Nat} {x : gFit}
theorem rl_kn {i : Nat} (hf : wFr Ψ.2.2.1 pa ph ta th σG σ) (hc : chI σG σ) (h : ftR st l b0 Γ.2.2.1 Γ.2.2.2.1 Ψ σG (nCl κ T T0 kk pp ee f fc B D V nm lo) Dn (ct 0 i) (ct 1 i) (ct 2 i) x) {kp : Nat × List Bool} (hr : rlK x kp) : ∃ fs, σ.1 (Ψ.2.1 kp) = some (.inr (4, fs)) := by
  obtain ⟨Sc, Es, ka, kb, oa, ob, hS, -, kA, kB, -⟩ := h
  rcases hr with ⟨m, e1, e2⟩ | ⟨y, A, m, e0, e1, e2⟩
  · obtain ⟨gs, w, hs, v, -, ⟨g2, -⟩, g3⟩ := kA.og hf hc
    rw [e2, ← g3 m e1]; exact ⟨hs, g2⟩
  · obtain ⟨Ws, w1, w2⟩ := hS.lc hf hc Sc _ _ Es
    rw [e2]
    exact lcS.kn Sc _ Ws w1 _ (w2 y A m e0 e1)
set_option maxHeartbeats 1000000 in
/-- **one turn of weakenAll()'s loop** -/
theorem c_wa1 {i t : Nat} {c x3 x4 : Int32} {k17 : Option Nat → Option Nat → Int32 → Int32 → Int32 → oSt → oRs} (W : wkH T T0 f fc pp ee R L nm φ Bb lo b0 V σG Ψ pa ph ta th) (hT : 100200 ≤ T) (hN : Hm + 60 ≤ n) (hL : wyL b0 Ψ.2.2.1 la σG) (hR0 : R6 1500 = 0) (hO : ∀ σ, wFr Ψ.2.2.1 pa ph ta th σG σ → oLs σ (some (l 0)) N (ct 0) ∧ oLs σ (some (l 1)) N (ct 1) ∧ oLs σ (some (l 2)) N (ct 2)) (hcf : cf[2]? = some (.ref j) ∧ cf[3]? = some (.ref (l 0)) ∧ cf[4]? = some (.ref (l 1)) ∧ cf[5]? = some (.ref (l 2))) (hs0 : σ0.2.1 + 25 < T) (hc0 : cnI K σ0) (h : wyI st l b0 Ψ.2.2.1 K j o pa ph ta th ch la N len0 cf σ0 σG σ Fc lk) (hi : i < N) (hft : ftR st l b0 Γ.2.2.1 Γ.2.2.2.1 Ψ σG (nCl κ T T0 kk pp ee f fc B D V nm lo) Dn (ct 0 i) (ct 1 i) (ct 2 i) x) (hx : wyF T cnt kk pp ee f R R6 L Γ Bb Hm FK x) (hfk : fkp Γ.2.2.1 Γ.2.2.2.1 x = true) (hcc : 0 ≤ (c + 1).toInt) (hB : 0 < (lk i).toInt → (∀ kp, rlK x kp → (chG σ (Ψ.2.1 kp)).toInt < (lk i).toInt) → wyS T f pp ee R R6 Γ Ψ.2.1 Fc x) : (ol_X0_weakenAll_33 T (oF κ T (n + 4)) κ k17 (t + 1) (some ch) (some la) c x3 x4 (nI i) σ = ol_X0_weakenAll_33 T (oF κ T (n + 4)) κ k17 t (some ch) (some la) c x3 x4 (nI (i + 1)) σ ∧ wyS T f pp ee R R6 Γ Ψ.2.1 Fc x) ∨ (∃ σ', ol_X0_weakenAll_33 T (oF κ T (n + 4)) κ k17 (t + 1) (some ch) (some la) c x3 x4 (nI i) σ = ol_X0_weakenAll_33 T (oF κ T (n + 4)) κ k17 t (some ch) (some la) (c + 1) x3 x4 (nI (i + 1)) σ' ∧ wyI st l b0 Ψ.2.2.1 K j o pa ph ta th ch la N len0 cf σ0 σG σ' Fc (upd lk i (c + 1)) ∧ wyS T f pp ee R R6 Γ Ψ.2.1 Fc x ∧ ∀ w fs, σ.1 w = some (.inr (4, fs)) → chG σ' w = chG σ w) ∨ ∃ σ' Fc' m, ol_X0_weakenAll_33 T (oF κ T (n + 4)) κ k17 (t + 1) (some ch) (some la) c x3 x4 (nI i) σ = ol_X0_weakenAll_33 T (oF κ T (n + 4)) κ k17 t (some ch) (some la) (c + 1) 1 x4 (nI (i + 1)) σ' ∧ wyI st l b0 Ψ.2.2.1 K j o pa ph ta th ch la N len0 cf σ0 σG σ' Fc' (upd lk i (c + 1)) ∧ (x.2.2.1 = .inr m ∧ gIn Γ.2.2.1 Γ.2.2.2.1 m.2.2.1 m.2.2.2.2 ≠ []) ∧ (∀ w i, w ≠ Ψ.2.1 (m.1, m.2.1) → Fc' w i = Fc w i) ∧ (∀ w i, Fc' w i = true → Fc w i = true) ∧ (∀ w i, Fc w i = true → Fc' w i ≠ true → ∃ y, (gIn Γ.2.2.1 Γ.2.2.2.1 m.2.2.1 m.2.2.2.2)[i]? = some y ∧ qNo T f pp ee R R6 (fun kp => Fc (Ψ.2.1 kp)) Γ x.1 x.2.1 x.2.2.2 y) ∧ (∀ k y, (gIn Γ.2.2.1 Γ.2.2.2.1 m.2.2.1 m.2.2.2.2)[k]? = some y → Fc' (Ψ.2.1 (m.1, m.2.1)) k = true → ¬ qNo T f pp ee R R6 (fun kp => Fc (Ψ.2.1 kp)) Γ x.1 x.2.1 x.2.2.2 y) ∧ (∃ k, k < (gIn Γ.2.2.1 Γ.2.2.2.1 m.2.2.1 m.2.2.2.2).length ∧ Fc (Ψ.2.1 (m.1, m.2.1)) k = true ∧ Fc' (Ψ.2.1 (m.1, m.2.1)) k ≠ true) ∧ chG σ' (Ψ.2.1 (m.1, m.2.1)) = c + 1 ∧ ∀ w fs, w ≠ Ψ.2.1 (m.1, m.2.1) → σ.1 w = some (.inr (4, fs)) → chG σ' w = chG σ w := by
  obtain ⟨hgs, ⟨hq, hqA, hqB⟩, hmN, ⟨hAt, hHm⟩, hR6, hS0, hX0, hY0⟩ := hx
  have hchi := h.chi
  obtain ⟨⟨ca, len, W1, b, cl, fa, fo, rd, wk, ps, P, Tr, J, j1, j2⟩, hf, hD, hs, ⟨p1, p2, p3⟩, hch, hla⟩ := id h
  obtain ⟨Sc, Es, ka, kb, oa, ob, hS, hDn, kA, kB, m, hm⟩ := id hft
  have hJ := W.1.1
  have hne : gIn Γ.2.2.1 Γ.2.2.2.1 m.2.2.1 m.2.2.2.2 ≠ [] := fun z => by
    have q := of_decide_eq_true hfk
    unfold gFa at q
    rw [hm] at q
    have q : 0 < (gIn Γ.2.2.1 Γ.2.2.2.1 m.2.2.1 m.2.2.2.2).length := q
    rw [z] at q
    exact absurd q (Nat.not_lt_zero _)
  obtain ⟨L0, L1, L2⟩ := hO σ hf
  have N31 : N < 2 ^ 31 := by
    obtain ⟨_, _, _, _, _, q, _⟩ := L0
    exact q
  obtain ⟨w, ra0, sa0, G, F, hk0, hG, hOr, hlF, hFt, hmm⟩ := kB.dy hJ hf hD hs hgs.2
  obtain ⟨⟨ew, Qw, -⟩, hK, eF, hte⟩ := hmm m hm
  obtain ⟨gk, gk1, gk2, gk3, -⟩ := id hG
  obtain ⟨fw, cap, hr', gs', fw1, fw2, fw3, fw4, -⟩ := id hOr
  have lt2 : σ.2.1 < T := by
    have := j2.cn hc0 p3 j1
    omega
  have ci : (nI i).toNatClampNeg = i := nI_clamp (by omega)
  have zi : zin (nI i) N = true := zin_n hi N31
  obtain ⟨_, _, ob2, -⟩ := id L2
  have e1 : oln2 κ σ (some la) = some (nI N) := by
    simp only [oln2, hla]
    rfl
  have e2 : ovr (ofd σ (some ch) 2 5) = some (some (l 2)) := by rw [ofd_at hch, hcf.2.2.2]; rfl
  have e3 : ovr (ofd σ (some kb) 4 1) = some (some w) := by rw [ofd_at gk1, gk3]; rfl
  have e4 : ovi (ofd σ (some w) 4 7) = some (nI F.length) := by rw [ofd_at fw1, fw3]; rfl
  have g1 := l_get (κ := κ) (T := T) (n := n + 1) L2 hi
  rw [ob] at g1
  have c4 : ocs σ (some kb) 4 = true := by simp [ocs, gk1]
  have ni : nI i + 1 = nI (i + 1) := nI_p1 i
  by_cases cF : F = []
  · left
    refine ⟨?_, fun m' hm' k y hy hk => ?_⟩
    · rw [ol_X0_weakenAll_33, e1, obn_at, if_neg (nI_ge hi N31), e2, obn_at, ob2, obn_at, g1, orn_at, ogd_at c4, e3, obn_at, e4, obn_at, if_pos (by rw [cF]; decide)]
      unfold oj_X0_weakenAll_140
      rw [ni]
    · rw [hm] at hm'
      injection hm' with hm'
      subst hm'
      rw [← ew] at hk
      have : (y.1, kTm Ψ.1 y.2) ∈ F := by
        rw [eF]
        refine (fQk_ix 0 _ _).mpr ⟨k, ?_, by rw [Nat.zero_add]; exact hk⟩
        rw [List.getElem?_map, hy]; rfl
      rw [cF] at this
      cases this
  · have F1 : 1 ≤ F.length := Nat.succ_le_of_lt (List.length_pos_iff.mpr cF)
    obtain ⟨gsA, wA, hsA, vA, kA1, kA2, kA3⟩ := kA.og hf hchi
    obtain ⟨Ws, lc1, lc2⟩ := hS.lc hf hchi Sc _ _ Es
    obtain ⟨c1, -⟩ := hS.cp Sc _ _ Es
    have lnS : Sc.length < T := Nat.lt_of_le_of_lt (cScp.ln p1.1 (cScp.wf hf Sc _ c1)) lt2
    obtain ⟨v, v1, v2, v3⟩ := c_last (κ := κ) (T := T) (n := n) hch hcf.2.1 hcf.2.2.1 L0 L1 hi oa kA1 kA2 lc1 lnS
    have vrl : ∀ kp, rlK x kp → (chG σ (Ψ.2.1 kp)).toInt ≤ v.toInt := by
      rintro kp (⟨m', q1, q2⟩ | ⟨y, A, m', q0, q1, q2⟩)
      · rw [q2, ← kA3 m' q1]; exact v2
      · rw [q2]; exact v3 _ (lc2 y A m' q0 q1)
    have v0 : 0 ≤ v.toInt := by
      have := p2.ge kA2.1
      omega
    have obc : oob σ (some ch) 2 = some ch := by simp [oob, hch]
    have e5 : oai σ (some la) .int (nI i) = some (lk i) := by rw [oai_at hla zi, ci]
    have beg : ol_X0_weakenAll_33 T (oF κ T (n + 4)) κ k17 (t + 1) (some ch) (some la) c x3 x4 (nI i) σ = (if v < lk i then oj_X0_weakenAll_140 T (oF κ T (n + 4)) κ k17 (ol_X0_weakenAll_33 T (oF κ T (n + 4)) κ k17 t) (some ch) (some la) c x3 x4 (nI i) σ else obn (osi σ (some la) .int (nI i) (c + 1)) fun s25 =>
          obn (ovr (ofd s25 (some ch) 2 2)) fun v27 =>
          obn (ovr (ofd s25 (some ch) 2 3)) fun v29 =>
          obn (oob s25 v29 1) fun a31 =>
          orn (oF κ T (n + 4) 234 [va_rf v29, .int (nI i)] s25) fun r35 s33 =>
          ogd (ocs s33 r35 10) (
          obn (ovr (ofd s33 (some ch) 2 4)) fun v37 =>
          obn (oob s33 v37 1) fun a39 =>
          orn (oF κ T (n + 4) 234 [va_rf v37, .int (nI i)] s33) fun r43 s41 =>
          ogd (ocs s41 r43 4) (
          obn (ovr (ofd s41 (some ch) 2 5)) fun v45 =>
          obn (oob s41 v45 1) fun a47 =>
          orn (oF κ T (n + 4) 234 [va_rf v45, .int (nI i)] s41) fun r51 s49 =>
          ogd (ocs s49 r51 4) (
          obn (oob s49 v27 3) fun a53 =>
          oin (oF κ T (n + 4) 67 [va_rf v27, va_rf r35, va_rf r43, va_rf r51] s49) fun r57 s55 =>
          if r57 = 0 then
            oj_X0_weakenAll_140 T (oF κ T (n + 4)) κ k17 (ol_X0_weakenAll_33 T (oF κ T (n + 4)) κ k17 t) (some ch) (some la) (c + 1) x3 x4 (nI i) s55
          else
            obn (opf s55 (some w) 4 8 (.int (c + 1))) fun s59 =>
            oj_X0_weakenAll_140 T (oF κ T (n + 4)) κ k17 (ol_X0_weakenAll_33 T (oF κ T (n + 4)) κ k17 t) (some ch) (some la) (c + 1) 1 x4 (nI i) s59)))) := by
      rw [ol_X0_weakenAll_33, e1, obn_at, if_neg (nI_ge hi N31), e2, obn_at, ob2, obn_at, g1, orn_at, ogd_at c4, e3, obn_at, e4, obn_at, if_neg (show ¬ nI F.length ≤ 0 from nI_ge (a := 0) (b := F.length) (by omega) (by omega)), obc, obn_at, v1]
      show obn (oai σ (some la) .int (nI i)) _ = _
      rw [e5, obn_at]
    rw [beg]
    by_cases cv : v < lk i
    · left
      rw [if_pos cv]
      rw [Int32.lt_iff_toInt_lt] at cv
      refine ⟨?_, hB (by omega) (fun kp hkp => ?_)⟩
      · unfold oj_X0_weakenAll_140
        rw [ni]
      · have := vrl kp hkp
        omega
    · right
      rw [if_neg cv, osi_at hla zi, ci, obn_at]
      have h1 := h.lw hL (upd lk i (c + 1))
      have ck1 : ∀ w, chG (oput σ la (.inl (.int, N, .inl (upd lk i (c + 1))))) w = chG σ w := fun w => chG_la hla w
      have kn1 : ∀ w fs, σ.1 w = some (.inr (4, fs)) → (oput σ la (.inl (.int, N, .inl (upd lk i (c + 1))))).1 w = some (.inr (4, fs)) := fun w fs e => by
        rw [oput_ne (fun z => by rw [z, hla] at e; cases e)]; exact e
      generalize oput σ la (.inl (.int, N, .inl (upd lk i (c + 1)))) = σ1 at h1 ck1 kn1
      obtain ⟨⟨ca1, len1, W2, b1, cl1, fa1, fo1, rd1, wk1, ps1, P1, Tr1, J1, j11, j12⟩, hf1, hD1, hs1, ⟨p11, p12, p13⟩, hch1, hla1⟩ := id h1
      obtain ⟨L0, L1, L2⟩ := hO σ1 hf1
      obtain ⟨_, _, ob0, -⟩ := id L0
      obtain ⟨_, _, ob1, -⟩ := id L1
      obtain ⟨_, _, ob2, -⟩ := id L2
      have lt1 : σ1.2.1 < T := by
        have := j12.cn hc0 p13 j11
        omega
      have a2 : ovr (ofd σ1 (some ch) 2 2) = some (some j) := by rw [ofd_at hch1, hcf.1]; rfl
      have a3 : ovr (ofd σ1 (some ch) 2 3) = some (some (l 0)) := by rw [ofd_at hch1, hcf.2.1]; rfl
      have a4 : ovr (ofd σ1 (some ch) 2 4) = some (some (l 1)) := by rw [ofd_at hch1, hcf.2.2.1]; rfl
      have a5 : ovr (ofd σ1 (some ch) 2 5) = some (some (l 2)) := by rw [ofd_at hch1, hcf.2.2.2]; rfl
      have g0 := l_get (κ := κ) (T := T) (n := n + 1) L0 hi
      have g1 := l_get (κ := κ) (T := T) (n := n + 1) L1 hi
      have g2 := l_get (κ := κ) (T := T) (n := n + 1) L2 hi
      rw [oa] at g1
      rw [ob] at g2
      have s10 : ocs σ1 (ct 0 i) 10 = true := by
        cases e : ct 0 i with
        | none => rfl
        | some q =>
          obtain ⟨fs, q1⟩ := hS.ob Sc _ _ Es q e
          have q2 := hf1.o q1 (by decide) (by decide) (by decide) (by decide) (by decide)
          simp [ocs, q2]
      have s4a : ocs σ1 (some ka) 4 = true := by simp [ocs, kn1 ka _ kA1.1]
      have s4b : ocs σ1 (some kb) 4 = true := by simp [ocs, kn1 kb _ gk1]
      have obj : oob σ1 (some j) 3 = some j := by simp [oob, J1.1]
      have on : ∀ (o : Option Nat) (f : Option Nat → oSt → oRs), orn (some (some (va_rf o), σ1)) f = f o σ1 := fun o f => by cases o <;> rfl
      rw [a2, obn_at, a3, obn_at, ob0, obn_at, g0, on, ogd_at s10, a4, obn_at, ob1, obn_at, g1, orn_at, ogd_at s4a, a5, obn_at, ob2, obn_at, g2, orn_at, ogd_at s4b, obj, obn_at]
      obtain ⟨v', σ2, ca2, len2, W3, f2, fa2, ps2, P2, Tr2, Fc', R1, J2, ⟨X, K2, hX⟩, ⟨m1, m2⟩, hf2, hD2, hs2, n1, ⟨n2, n3⟩, n4, n5⟩ := wk_one (κ := κ) (N := n + 3) (R6 := R6) (A := x.2.1) (Bt := x.2.2) W hT (by omega) hS kA kB hm hgs hne hq hqA hqB hmN hAt hHm hR0 hR6 hf1 hD1 hs1 J1 j11 p11.1 lt1
      have R1 : oF κ T (n + 4) 67 [va_rf (some j), va_rf (ct 0 i), va_rf (some ka), va_rf (some kb)] σ1 = some (some (.int v'), σ2) := R1
      rw [R1]
      have p21 : rwI 0 σ2 := (cQo_oF (κ := κ) rwI_ok T (n + 4)).c67 _ _ _ _ σ1 p11 _ R1
      have p22 : kn8 σ2 := (cQo_oF (κ := κ) kn8_ok T (n + 4)).c67 _ _ _ _ σ1 p12 _ R1
      have p23 : cnI K σ2 := (cQo_oF (κ := κ) cnI_ok T (n + 4)).c67 _ _ _ _ σ1 p13 _ R1
      have nXl : ¬ X la := fun z => by
        rcases (hX la z).2 with ⟨fs, q⟩ | ⟨w', fs, i', q1, q2, q3⟩
        · obtain ⟨y, q'⟩ := hL.2.2.1
          rw [q'] at q; cases q
        · exact hL.2.2.2 w' fs i' la q1 q2 q3 rfl
      have lb := hL.2.1
      have h2 : wyI st l b0 Ψ.2.2.1 K j o pa ph ta th ch la N len0 cf σ0 σG σ2 Fc' (upd lk i (c + 1)) := ⟨⟨ca2, len2, W3, 0, 1, fa2, f2, rd1 + 1, some kb, ps2, P2, Tr2, J2, m2, j12.tr m1⟩, hf2, hD2, hs2, ⟨p21, p22, p23⟩, K2.1 ch _ hch1 ⟨by show (2 : Nat) ≠ 3; decide, by show (2 : Nat) ≠ 8; decide⟩ (fun f z => by injection z with z; injection z with z; exact absurd z (by decide)) (fun f z => by injection z with z; injection z with z; exact absurd z (by decide)) (fun y z => by cases z), K2.1 la _ hla1 ⟨fun z => (by cases z), by omega, by omega, by omega, by omega⟩ (fun f z => by cases z) (fun f z => by cases z) (fun y _ _ => nXl)⟩
      have ck2 : ∀ w fs, σ.1 w = some (.inr (4, fs)) → chG σ2 w = chG σ w := fun w fs e => (chG_kx K2 (kn1 w fs e)).trans (ck1 w)
      rcases n5 with ⟨ev, i', y, y1, y2, y3⟩ | ⟨ev, n6⟩
      · right
        obtain ⟨ra2, sa2, hO2, -⟩ := hD2 w _ hK
        obtain ⟨fs2, _, _, _, z1, z2, -⟩ := hO2
        refine ⟨_, Fc', m, ?_, h2.cw z1 z2 hcc, ⟨hm, hne⟩, n1, n2, n3, fun k y hy hk => ((n4 k y hy).mp hk).2, ⟨i', (List.getElem?_eq_some_iff.mp y1).1, y2, fun z => ((n4 i' y y1).mp z).2 y3⟩, ?_, fun w' fs hw e => ?_⟩
        · show (if v' = 0 then _ else _) = _
          rw [ev, if_neg (by decide), opf_at z1 (by omega), obn_at]
          unfold oj_X0_weakenAll_140
          rw [ni]
        · rw [chG_ch z1 z2, if_pos ew.symm]
        · rw [chG_ch z1 z2, if_neg (by rw [ew]; exact hw)]
          exact ck2 w' fs e
      · left
        have eF : Fc' = Fc := by
          funext w' k
          cases q : Fc w' k with
          | false =>
            cases q' : Fc' w' k with
            | false => rfl
            | true => have := n2 w' k q'; rw [q] at this; cases this
          | true =>
            cases q' : Fc' w' k with
            | true => rfl
            | false =>
              obtain ⟨y, y1, y2⟩ := n3 w' k q (by rw [q']; decide)
              have ec : w' = Ψ.2.1 (m.1, m.2.1) := Classical.byContradiction (fun z => by
                have := n1 w' k z
                rw [q, q'] at this; cases this)
              rw [ec] at q
              exact absurd y2 (n6 k y y1 q)
        rw [eF] at h2
        refine ⟨σ2, ?_, h2, fun m' hm' k y hy hk => ?_, ck2⟩
        · show (if v' = 0 then _ else _) = _
          rw [ev, if_pos rfl]
          unfold oj_X0_weakenAll_140
          rw [ni]
        · rw [hm] at hm'
          injection hm' with hm'
          subst hm'
          exact n6 k y hy hk
end WY1
