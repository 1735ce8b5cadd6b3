/-! the class's gather(): fit() -/
/-- how deep in its TEMPLATE -/
def gDq (A : gTy) : Nat := match A.1 with
  | .inl _ => 0
  | .inr m => m.2.1.count true
/-- cells and places that fit() makes -/
def fCn : tY → Nat
  | .leaf => 0
  | .inner k _ _ a b => if k = 0 then (if gMs a = true then 13 else 4) + fCn a + fCn b else 0
def fCp : tY → Nat → Nat → Nat
  | .leaf, _, _ => 0
  | .inner k _ _ a b, p, q => if k = 0 then (if gMs a = true then 54 + t15 p + t15 q + 2 * p + 2 * q + fCp a q p + fCp b (p + 1) (q + 1) else 2 * t15 p + 2 * t15 q + fCp a q p + fCp b p q) else 0
/-- **what holds while gather() goes on**: the Checker, its lists, what must FIT -/
def gaS (κ : oKv) (st : Nat) (l : Nat → Nat) (b0 : Nat) (nq : tQ → Int) (xs : List tQ) (CN : Nat → gCd → Prop) (ch : Nat) (Ψ : kGh) (Dn : Nat → Prop) (cf : List Value) (σ : oSt) (ln : Nat → Nat) (ct : Nat → Nat → Option Nat) (cs : Nat) (Fs : List gFit) : Prop := gIv st l b0 Ψ.2.2.1 σ ∧ (σ.1 κ.2.2.1 = none ∧ κ.2.2.1 < σ.2.1) ∧ lFo4 κ l σ ln ct cs ∧ (σ.1 ch = some (.inr (2, cf)) ∧ cf[3]? = some (.ref (l 0)) ∧ cf[4]? = some (.ref (l 1)) ∧ cf[5]? = some (.ref (l 2)) ∧ cf[6]? = some (.ref (l 3))) ∧ ftL st l b0 nq xs Ψ σ CN Dn ln ct Fs
section GAF
variable {κ : oKv} {T : Nat} {st : Nat} {l : Nat → Nat} {b0 : Nat} {nq : tQ → Int} {xs : List tQ} {CN : Nat → gCd → Prop} {ch : Nat} {Ψ : kGh} {Dn : Nat → Prop} {cf : List Value} {σ σ' : oSt} {ln : Nat → Nat} {ct : Nat → Nat → Option Nat} {cs : Nat} {Fs : List gFit}
theorem gaS.nw {d e : Nat} (h : gaS κ st l b0 nq xs CN ch Ψ Dn cf σ ln ct cs Fs) (o : oNl σ σ' d e) (h6 : oN6 σ σ') : gaS κ st l b0 nq xs CN ch Ψ Dn cf σ' ln ct cs Fs := by
  obtain ⟨iv, ⟨h1, h1'⟩, h2, ⟨h3, h3'⟩, h4⟩ := h
  have lc : ch < σ.2.1 := Nat.lt_of_not_le (fun e => by rw [iv.1 _ e] at h3; cases h3)
  exact ⟨(iv.go o h6).1, ⟨by rw [o.1 _ h1']; exact h1, by rw [o.nx]; omega⟩, h2.kp o.1 iv.1 iv.2.1 h1', ⟨by rw [o.1 _ lc]; exact h3, h3'⟩, h4.sp (W := fun _ => False) (iv.kp o h6) (gAg.rf _ _) iv.1 (fun _ _ z => z) (fun _ z => z)⟩
/-- add() to one of its lists, said again -/
theorem gaS.ad {i : Nat} {o : Option Nat} {n : Nat} (hi : i < 4) (h : gaS κ st l b0 nq xs CN ch Ψ Dn cf σ ln ct cs Fs) (ho : ∀ b, o = some b → ∃ fs, σ.1 b = some (.inr (lkd i, fs))) (hn : ln i ≤ 12100) : ∃ σ' ct' cs', oF κ T (n + 6) 227 [va_rf (some (l i)), va_rf o] σ = some (some (.int 1), σ') ∧ lFo4 κ l σ' (fun k => if k = i then ln i + 1 else ln k) ct' cs' ∧ ((∀ j, j < ln i → ct' i j = ct i j) ∧ ct' i (ln i) = o ∧ ∀ k, k ≠ i → ct' k = ct k) ∧ gIv st l b0 Ψ.2.2.1 σ' ∧ (σ'.1 κ.2.2.1 = none ∧ κ.2.2.1 < σ'.2.1) ∧ σ'.1 ch = some (.inr (2, cf)) ∧ (∀ W, gKp st l b0 W σ σ') ∧ gCs cs cs' σ σ' 0 0 ∧ lXp l σ σ' := by
  obtain ⟨iv, ⟨h1, h1'⟩, h2, ⟨h3, h3'⟩, h4⟩ := h
  obtain ⟨σ', ct', cs', dd, a1, a2, a3, a4, a5, a6, a7, a8, a9, a10, a11, a12⟩ := c_lad (T := T) (n := n) hi h2 iv h1 h1' ho hn
  refine ⟨σ', ct', cs', a1, a2, ⟨a3, a4, a5⟩, a9, ⟨a8, Nat.lt_of_lt_of_le h1' (a10 (fun _ => False)).2.2.2⟩, ?_, a10, a11, a12⟩
  obtain ⟨d, c, mc, q1, -⟩ := h2
  rw [a6 ch (fun z => by rw [z, (q1 i hi).1.1] at h3; cases h3) (fun z => ?_)]
  · exact h3
  · rcases a7 with w | ⟨j, mc', m', hj, w⟩
    · rw [z, iv.1 _ w] at h3; cases h3
    · have e := (q1 j hj).1
      rw [e.1] at w
      injection w with w
      injection w with w
      injection w with _ w
      injection w with _ w
      injection w with w _
      injection w with w
      rw [z, ← w] at h3
      rcases e.2.1 with ⟨_, _, _, y⟩ | ⟨y, _⟩
      · rw [y] at h3; cases h3
      · rw [y] at h3; cases h3
set_option maxHeartbeats 1000000 in
/-- fit() of what is no function -/
theorem c_fit0 {n k : Nat} {a b : tY} {A B : gTy} {sc : List gEn} {Sc : List sEn} {s : Option Nat} {Es : List (gN × Nat)} {ka kb : Nat} (hy : gSy B = .inner k () () a b) (hk : k ≠ 0) (hw : yW (.inner k () () a b)) (hB : ∃ m, B.1 = .inr m) (hS : scR st l b0 nq xs Ψ σ CN Sc s sc Es) (hD : ∀ a, Sum.inl a ∈ Sc → Dn a) (hA' : kRl st l b0 nq xs Ψ σ (fun y b => (y, b) ∈ Es) ka A) (hB' : kRl st l b0 nq xs Ψ σ (fun y b => (y, b) ∈ Es) kb B) (hn : ln 0 + 1 ≤ 12100) (G : gaS κ st l b0 nq xs CN ch Ψ Dn cf σ ln ct cs Fs) : ∃ σ' ln' ct' cs', oj_X0_fit_146 T (oF κ T (n + 6)) κ (some ch) (some ka) (some kb) s σ = some (none, σ') ∧ gaS κ st l b0 nq xs CN ch Ψ Dn cf σ' ln' ct' cs' (Fs ++ gFi (.inner k () () a b) A B sc) ∧ (∀ W, gKp st l b0 W σ σ') ∧ gCs cs cs' σ σ' 0 0 ∧ lXp l σ σ' ∧ (ln' 3 = ln 3 ∧ ct' 3 = ct 3 ∧ ln' 0 ≤ ln 0 + yLs (.inner k () () a b)) := by
  obtain ⟨m, eB⟩ := hB
  have k4 : k ≤ 4 := by unfold yW at hw; rw [if_neg hk] at hw; exact hw
  have eY : m.2.2.1 = .inner k () () a b := by unfold gSy at hy; rw [eB] at hy; exact hy
  have kB := hB'
  unfold kRl at kB
  rw [eB] at kB
  obtain ⟨b1, b2, G2, b3, b4, b5⟩ := kB
  rw [eY] at b2 b3
  obtain ⟨fs, gn, ins, f1, f0, fo, -⟩ := b3.f
  have b2' := b2.2
  rw [if_neg hk] at b2'
  obtain ⟨⟨fw, w1, w2, w3, w4, -⟩, -⟩ := b2'
  unfold oj_X0_fit_146
  rw [ofd_at f1, f0, ovi_i, obn_at]
  have eF : gFi (.inner k () () a b) A B sc = if k = 2 then [] else [(sc, A, B)] := by
    unfold gFi
    rw [if_neg hk]
  have eL : yLs (.inner k () () a b) = if k = 2 then 0 else 1 := by
    unfold yLs
    rw [if_neg hk]
  by_cases c2 : k = 2
  · rw [if_pos ((cKd_202 hw).mpr (by rw [c2]; rfl)), eF, if_pos c2, List.append_nil]
    exact ⟨σ, ln, ct, cs, rfl, G, fun W => gKp.rf, ⟨Nat.le_refl _, by omega, by omega⟩, lXp.rf, rfl, rfl, by omega⟩
  rw [if_neg (fun e => c2 (by have e : k + 1 = 3 := (cKd_202 hw).mp e; omega)), ofd_at f1, fo, ovr_rf, obn_at, ofd_at w1, w3, ovi_i, obn_at, eF, if_neg c2, eL, if_neg c2]
  rw [if_neg c2, List.length_map] at w3 w4 ⊢
  have fa : gFa nq xs B = gIn nq xs (.inner k () () a b) m.2.2.2.2 := by unfold gFa; rw [eB]; dsimp only; rw [eY]
  by_cases c0 : (gIn nq xs (.inner k () () a b) m.2.2.2.2).length = 0
  · rw [c0, if_pos (show nI 0 ≤ 0 by decide)]
    refine ⟨σ, ln, ct, cs, rfl, ?_, fun W => gKp.rf, ⟨Nat.le_refl _, by omega, by omega⟩, lXp.rf, rfl, rfl, by omega⟩
    obtain ⟨g1, g2, g3, g4, g5⟩ := G
    refine ⟨g1, g2, g3, g4, ?_⟩
    unfold ftL at g5 ⊢
    rw [List.filter_append, List.filter_cons_of_neg (by unfold fkp; rw [fa, c0]; decide), List.filter_nil, List.append_nil]
    refine ⟨g5.1, g5.2.1, fun x hx => ?_⟩
    rcases List.mem_append.mp hx with w | w
    · exact g5.2.2 x w
    · rw [List.mem_singleton.mp w]
      exact ⟨hA'.mT, hB'.mT, hS.mT Sc s sc Es⟩
  have pos : fkp nq xs (sc, A, B) = true := by unfold fkp; rw [fa]; exact decide_eq_true (by omega)
  obtain ⟨g1, g2, g3, ⟨g4, g41, g42, g43, g44⟩, g5⟩ := id G
  rw [if_neg (show ¬ nI _ ≤ 0 from nI_ge (a := 0) (by omega) (by omega)), ofd_at g4, g41, ovr_rf, obn_at]
  have hl0 : ∀ i, i < 4 → ∀ {s : oSt} {ln : Nat → Nat} {ct : Nat → Nat → Option Nat} {cs : Nat}, lFo4 κ l s ln ct cs → ∃ fs, s.1 (l i) = some (.inr (1, fs)) := fun i hi {s ln ct cs} h => by
    obtain ⟨d, c, mc, q, -⟩ := h
    exact ⟨_, (q i hi).1.1⟩
  have fr : ∀ (s : oSt), gKp st l b0 (fun _ => False) σ s → ∀ (x : Nat) (kd : Int32) (w : Nat) (GG : List (Nat × kTe)), kGq st l b0 Ψ.2.2.1 σ x w kd GG → ∃ fs, s.1 x = some (.inr (4, fs)) := fun s K x kd w GG h => by
    obtain ⟨fs, gn, ins, z, -⟩ := h
    exact ⟨fs, K.ob z (by decide) (by decide) (by decide) (by decide)⟩
  obtain ⟨wA, GA, kA⟩ := hA'.kd
  have n0 : ln 1 = ln 0 ∧ ln 2 = ln 0 := g5.1.2
  -- the Scope
  obtain ⟨s1, ct1, cs1, r1, r2, ⟨r3, r4, r5⟩, r6, r7, r8, r9, r10, r11⟩ := gaS.ad (T := T) (n := n) (i := 0) (o := s) (by decide) G (hS.ob Sc s sc Es) (by omega)
  obtain ⟨x0, e0⟩ := hl0 0 (by decide) g3
  rw [oob_at e0, obn_at, r1, oin_at, ofd_at r8, g42, ovr_rf, obn_at]
  have G1 : gaS κ st l b0 nq xs CN ch Ψ Dn cf s1 (fun k => if k = 0 then ln 0 + 1 else ln k) ct1 cs1 [] → True := fun _ => trivial
  -- lefts
  have fk : ∀ {s : oSt}, gKp st l b0 (fun _ => False) σ s → ∀ b, some ka = some b → ∃ fs, s.1 b = some (.inr (lkd 1, fs)) := fun K b e => by
    injection e with e
    rw [← e]
    exact fr _ K _ _ _ _ kA
  have fk2 : ∀ {s : oSt}, gKp st l b0 (fun _ => False) σ s → ∀ b, some kb = some b → ∃ fs, s.1 b = some (.inr (lkd 2, fs)) := fun K b e => by
    injection e with e
    rw [← e]
    exact fr _ K _ _ _ _ b3
  obtain ⟨x1, e1⟩ := hl0 1 (by decide) r2
  obtain ⟨s2, ct2, cs2, dd2, q1, q2, q3, q4, q5, q6, q7, q8, q9, q10, q11, q12⟩ := c_lad (T := T) (n := n) (i := 1) (o := some ka) (by decide) r2 r6 r7.1 r7.2 (fk (r9 _)) (by show ln 1 ≤ 12100; omega)
  have ch2 : s2.1 ch = some (.inr (2, cf)) := by
    rw [q6 ch (fun z => by rw [z, e1] at r8; cases r8) (fun z => ?_)]
    · exact r8
    · rcases q7 with w | ⟨j, mc', m', hj, w⟩
      · rw [z, r6.1 _ w] at r8; cases r8
      · obtain ⟨d, c, mc, qq, -⟩ := r2
        have e := (qq j hj).1
        rw [e.1] at w
        injection w with w
        injection w with w
        injection w with _ w
        injection w with _ w
        injection w with w _
        injection w with w
        rw [z, ← w] at r8
        rcases e.2.1 with ⟨_, _, _, y⟩ | ⟨y, _⟩
        · rw [y] at r8; cases r8
        · rw [y] at r8; cases r8
  rw [oob_at e1, obn_at, q1, oin_at, ofd_at ch2, g43, ovr_rf, obn_at]
  have K2 : ∀ W, gKp st l b0 W σ s2 := fun W => (r9 W).tr (q10 W)
  obtain ⟨x2, e2⟩ := hl0 2 (by decide) q2
  obtain ⟨s3, ct3, cs3, dd3, p1, p2, p3, p4, p5, p6, p7, p8, p9, p10, p11, p12⟩ := c_lad (T := T) (n := n) (i := 2) (o := some kb) (by decide) q2 q9 q8 (Nat.lt_of_lt_of_le r7.2 (q10 (fun _ => False)).2.2.2) (fk2 (K2 _)) (by show ln 2 ≤ 12100; omega)
  have ch3 : s3.1 ch = some (.inr (2, cf)) := by
    rw [p6 ch (fun z => by rw [z, e2] at ch2; cases ch2) (fun z => ?_)]
    · exact ch2
    · rcases p7 with w | ⟨j, mc', m', hj, w⟩
      · rw [z, q9.1 _ w] at ch2; cases ch2
      · obtain ⟨d, c, mc, qq, -⟩ := q2
        have e := (qq j hj).1
        rw [e.1] at w
        injection w with w
        injection w with w
        injection w with _ w
        injection w with _ w
        injection w with w _
        injection w with w
        rw [z, ← w] at ch2
        rcases e.2.1 with ⟨_, _, _, y⟩ | ⟨y, _⟩
        · rw [y] at ch2; cases ch2
        · rw [y] at ch2; cases ch2
  rw [oob_at e2, obn_at, p1, oin_at]
  have K3 : ∀ W, gKp st l b0 W σ s3 := fun W => (K2 W).tr (p10 W)
  refine ⟨s3, _, ct3, cs3, rfl, ⟨p9, ⟨p8, Nat.lt_of_lt_of_le g2.2 (K3 (fun _ => False)).2.2.2⟩, p2, ⟨ch3, g41, g42, g43, g44⟩, ?_⟩, K3, (r10.tr q11).tr p11, (r11.tr q12).tr p12, rfl, ?_, ?_⟩
  · unfold ftL
    rw [List.filter_append, List.filter_cons_of_pos pos, List.filter_nil]
    refine ⟨⟨?_, ?_, ?_⟩, fun i x hx => ?_, fun x hx => ?_⟩
    · show ln 0 + 1 = _
      rw [List.length_append, g5.1.1]
      rfl
    · show ln 1 + 1 = ln 0 + 1
      omega
    · show ln 2 + 1 = ln 0 + 1
      omega
    · have c3 : ct3 0 = ct1 0 ∧ ct3 1 = ct2 1 := ⟨(p5 0 (by decide)).trans (q5 0 (by decide)), p5 1 (by decide)⟩
      by_cases ci : i < (Fs.filter (fkp nq xs)).length
      · rw [List.getElem?_append_left ci] at hx
        rw [← g5.1.1] at ci
        have old := (g5.2.1 i x hx).sp (K3 (fun _ => False)) (gAg.rf _ _) g1.1 (fun _ _ z => z) (fun _ z => z)
        have t0 : ct3 0 i = ct 0 i := by rw [c3.1]; exact r3 i ci
        have t1 : ct3 1 i = ct 1 i := by
          rw [c3.2]
          have : ct2 1 i = ct1 1 i := q3 i (by show i < ln 1; omega)
          rw [this, r5 1 (by decide)]
        have t2 : ct3 2 i = ct 2 i := by
          have : ct3 2 i = ct2 2 i := p3 i (by show i < ln 2; omega)
          rw [this, q5 2 (by decide), r5 2 (by decide)]
        rw [t0, t1, t2]
        exact old
      · rw [List.getElem?_append_right (by omega)] at hx
        have zi : i - (Fs.filter (fkp nq xs)).length = 0 := by
          cases e : i - (Fs.filter (fkp nq xs)).length with
          | zero => rfl
          | succ j => rw [e] at hx; cases hx
        rw [zi] at hx
        injection hx with hx
        have ei : i = ln 0 := by rw [g5.1.1]; omega
        rw [← hx]
        have t0 : ct3 0 i = s := by rw [c3.1, ei]; exact r4
        have t1 : ct3 1 i = some ka := by
          rw [c3.2, ei, ← n0.1]
          exact q4
        have t2 : ct3 2 i = some kb := by
          rw [ei, ← n0.2]
          exact p4
        refine ⟨Sc, Es, ka, kb, t1, t2, ?_, hD, hA'.sp (K3 (fun _ => False)) (gAg.rf _ _) g1.1, hB'.sp (K3 (fun _ => False)) (gAg.rf _ _) g1.1, _, eB⟩
        rw [t0]
        exact hS.sp (K3 (fun _ => False)) (gAg.rf _ _) g1.1 Sc s sc Es (fun _ _ z => z)
    · rcases List.mem_append.mp hx with w | w
      · exact (g5.2.2 x w).sp (K3 (fun _ => False)) (gAg.rf _ _)
      · rw [List.mem_singleton.mp w]
        exact mdF.sp (K3 (fun _ => False)) (gAg.rf _ _) ⟨hA'.mT, hB'.mT, hS.mT Sc s sc Es⟩
  · rw [p5 3 (by decide), q5 3 (by decide), r5 3 (by decide)]
  · show ln 0 + 1 ≤ ln 0 + 1
    omega
end GAF
