/-! gather() of a PROGRAM -/
section GPR
variable {κ : oKv} {T sz len cnt j n lo p x e0 at2 cd' jd N S P A x0 : Nat} {kk pp ee f fc : Nat → Int32} {xs : List tQ} {is : List (Nat × Nat)} {e : tT} {α : Nat → tY} {B : Nat → Nat} {V : oSt} {D : cDt} {nm : Nat → Option Nat} {am2 : Int32} {fb fr fz fn : Nat → Int32} {g g' : gG} {ρ ρ' : Nat → tY} {lv : Int32} {σ σ1 : oSt} {τ : zSt} {q0 : Nat → gTy} {A0 : gTy}
/-- a Checker as it is made -/
def chF (p y j s : Nat) : List Value := [.ref p, .ref y, .ref j, .ref (s + 1), .ref (s + 2), .ref (s + 3), .ref (s + 4), .ref (s + 5), .int 0, .int (-1)]
/-- what a PROGRAM asks -/
noncomputable def pWk (T : Nat) (f pp ee : Nat → Int32) (is : List (Nat × Nat)) (e : tT) (α : Nat → tY) (q0 : Nat → gTy) (A0 : gTy) : gSt × gTy := gWk T f pp ee (pTE f pp ee is e α) (pTN f pp ee is e α) e (is.map Prod.fst) (gIs is [] (q0, [], [])).1 A0 (gIs is [] (q0, [], [])).2
/-- the state as gather() is called -/
def jS1 (κ : oKv) (x p y j : Nat) (σ σ1 : oSt) : Prop := (∀ a, a < σ.2.1 → a ≠ x → σ1.1 a = σ.1 a) ∧ (∃ fs, σ1.1 x = some (.inr (14, fs))) ∧ σ1.1 σ.2.1 = some (.inr (2, chF p y j σ.2.1)) ∧ (∀ i, i < 4 → σ1.1 (σ.2.1 + 1 + i) = some (.inr (1, [.int 0, .ref κ.2.2.1, .int 0]))) ∧ σ1.1 (σ.2.1 + 5) = some (.inl (.object "LiquidTongue$Name", 73, .inr (.inr (.inr (.inr (fun _ => none)))))) ∧ (∀ q, σ1.2.1 ≤ q → σ1.1 q = none) ∧ σ1.2.1 = σ.2.1 + 6
/-- the state after gather() -/
def jS2 (κ : oKv) (T lo cnt p jd : Nat) (kk pp ee f fc : Nat → Int32) (xs : List tQ) (is : List (Nat × Nat)) (e : tT) (α : Nat → tY) (B : Nat → Nat) (V : oSt) (D : cDt) (nm : Nat → Option Nat) (g : gG) (ρ : Nat → tY) (lv : Int32) (s : Nat) (W : gSt) (Ψ : kGh) (Ls : List Nat) (σ' : oSt) (ln : Nat → Nat) (ct : Nat → Nat → Option Nat) (cs : Nat) : Prop := gwS κ (s + 5) (fun i => s + 1 + i) lo (pNq T f pp ee) xs p s V.2.1 (chF p V.2.1 jd s) (fun i => V.2.1 + 1 + i) (4 * cnt + 8) g ρ lv (-1) (nCl κ T T kk pp ee f fc B D V nm lo) (nRl κ T T kk pp ee f fc B D V nm lo) pp V lo (s + 6) nm (pTN f pp ee is e α) (fun u => (nm u).getD 0) (is.map Prod.fst ++ tW e) cnt (is.map Prod.fst ++ wW e) Ψ Ls σ' ln ct cs W
set_option maxHeartbeats 1000000 in
/-- **gather() of a PROGRAM** -/
theorem c_gp (hq0 : ∀ u, q0 u = gNtd) (hT : 9010 ≤ T) (hn : 195 ≤ n) (hp : pgT T len cnt j kk pp ee f fc xs is e α) (hR : pgR T len cnt kk pp ee f xs is e α N S P A x0 g' ρ' τ) (hV : pgV κ T sz len cnt kk pp ee fc xs is e B p V D at2 cd' am2 nm e0 fb fr fz fn) (hB : ∃ w r v ka pa ea, B = pA w r v ka pa ea p) (hsz : sz ≤ lo) (hS : pgS κ T lo cnt kk pp ee f fc is e α B p V D nm e0 g ρ lv σ) (n5 : n5I lo σ) (oR : oRm sz σ) (hκ : κ.2.2.1 < sz) (hVσ : V.2.1 ≤ σ.2.1) (hx : ∃ fs, σ.1 x = some (.inr (14, fs))) (hxl : x < lo) (h1 : jS1 κ x p V.2.1 jd σ σ1) (mx : gMx f pp ee (pTE f pp ee is e α) (pTN f pp ee is e α) 59 e (is.map Prod.fst)) (h10 : (pWk T f pp ee is e α q0 A0).1.2.1.length ≤ 12000) (h11 : (pWk T f pp ee is e α q0 A0).1.2.2.length ≤ 12000) : ∃ σ' Ψ Ls ln ct cs, oF κ T (n + 5) 37 [va_rf (some σ.2.1)] σ1 = some (none, σ') ∧ jS2 κ T lo cnt p jd kk pp ee f fc xs is e α B V D nm g ρ lv σ.2.1 (pWk T f pp ee is e α q0 A0).1 Ψ Ls σ' ln ct cs ∧ gKp (σ.2.1 + 5) (fun i => σ.2.1 + 1 + i) lo (fun x => ∃ u, u ∈ is.map Prod.fst ++ wW e ∧ x = (nm u).getD 0) σ1 σ' ∧ gwC xs.length ((is.map Prod.fst ++ tW e).map (fun u => (nm u).getD 0)) Ls 0 cs σ1 σ' (2 * is.length + (wCo T f pp ee (pTE f pp ee is e α) (pTN f pp ee is e α) xs e (is.map Prod.fst) (gIs is [] (q0, [], [])).1 A0 (gIs is [] (q0, [], [])).2).1) (19 * is.length + (wCo T f pp ee (pTE f pp ee is e α) (pTN f pp ee is e α) xs e (is.map Prod.fst) (gIs is [] (q0, [], [])).1 A0 (gIs is [] (q0, [], [])).2).2) := by
  obtain ⟨a1, a2, a3, a4, a5, a6, a7⟩ := h1
  obtain ⟨⟨t1, t2, t3, t4, t5, t6, t7⟩, t8, t9, t10, t11, t12⟩ := tx_1 (by omega) hp hR.2.1
  obtain ⟨inv, u1, u2, u3, u4, u5⟩ := tx_2 (by omega) hp hR
  obtain ⟨hb, hq⟩ := tx_3 (by omega) hp hR mx u1
  obtain ⟨y1, y2⟩ := tx_5 (by omega) hp hR.2.1
  obtain ⟨i1, i2⟩ := pTN_in (f := f) (pp := pp) (ee := ee) (α := α) t11
  have hp' := hp
  obtain ⟨⟨p1, p1', p1''⟩, p2, p3, p4, ⟨p5, p5'⟩, ⟨⟨⟨g1, g1'⟩, g2, ⟨i0, g3⟩, ⟨g4, g4', g4''⟩, g5, g6, g7⟩, p6', p6'', p6a⟩, p7, p8, p9, p10, p11, p12⟩ := hp
  obtain ⟨-, ⟨r1, -⟩, -⟩ := hR
  obtain ⟨⟨d1, d2⟩, -⟩ := aPr_d p2
  have nq : ∀ q, q ∈ xs → -20000 ≤ pNq T f pp ee q ∧ pNq T f pp ee q ≤ 20000 := fun q hq => tx_qn (by omega) r1 p8 (d2 q hq)
  have zq : ∀ q, q ∈ xs → q.1 ≤ 2 ∧ q.2.1 ≤ 4 ∧ (zNu T fc pp ee q.2.2.2.2).toInt = pNq T f pp ee q := fun q hq => ⟨(d2 q hq).1, (d2 q hq).2.1, by rw [zNu_a r1 p1'' p9 p12]; rfl⟩
  have G0 := gw_0 (CN := nCl κ T T kk pp ee f fc B D V nm lo) (NR := nRl κ T T kk pp ee f fc B D V nm lo) (q0 := q0) hq0 hS hV hB hsz n5 oR hκ hVσ zq d1 t11 hx hxl a1 a2 a3 a4 a5 a6 a7
  have pm := wW_pm e 0 g2 p6'
  have pm' := List.Perm.append_left (is.map Prod.fst) pm
  have E := gIs_w (Γ := pGm T f pp ee xs is e α (τ.2.2.1 32) inv) (C := 10010000) (B := 8008000000002) (rt := pRt f pp ee is e α) (tN := pTN f pp ee is e α) is [] [] (q0, [], []) ⟨rfl, trivial, fun u hu => (by cases hu)⟩ (fun y hy => ⟨i1 y hy, u1 _ (List.mem_append_left _ (List.mem_map.mpr ⟨y, hy, rfl⟩))⟩) (by rw [List.nil_append]; exact (List.nodup_append.mp t11).1)
  rw [List.nil_append] at E
  obtain ⟨e1, e2, e3⟩ := E
  obtain ⟨⟨l1, l2, l3, l4⟩, s2, s3, s4, s5, ⟨s6, s6'⟩, s7⟩ := hS
  obtain ⟨v1, v2, -, v4, v5, v6, ⟨-, v7, -⟩, v8⟩ := hV
  obtain ⟨w0, b0, c0, ka, pa, ea, rfl⟩ := hB
  obtain ⟨mc, vls⟩ := v1.1.2.2.2.1.1
  have vcell := v1.2.1
  have vsm := v1.1.1.2.1
  have vat := v1.2.2
  have nmS : ∀ u, u ∈ is.map Prod.fst ++ tW e → nm u = some ((nm u).getD 0) ∧ p ≤ (nm u).getD 0 := fun u hu => by
    obtain ⟨b, fs, c, gs, q1, q2, -⟩ := s4 u hu
    rw [q1]
    exact ⟨rfl, q2⟩
  have X : cTX κ T kk pp ee fc (pA w0 b0 c0 ka pa ea p) D (fun m u => eXw σ1 g ρ (pTE f pp ee is e α) m u) p V nm e (is.map Prod.fst) 0 (fun _ => none) 0 e0 := by
    refine cTX.imo (lo0 := p) e p (is.map Prod.fst) 0 (fun _ => none) 0 e0 (Nat.le_refl _) (fun m u fs hm em hX => ?_) s5
    obtain ⟨⟨c, q1, q2, q3⟩, -⟩ := hX
    refine ⟨c, ?_, q2, q3⟩
    obtain ⟨v, w, ev⟩ := l1 m fs (Nat.le_trans s2 hm) em
    have lt : m < σ.2.1 := Nat.lt_of_not_le (fun z => by rw [oR.2.1 m z] at ev; cases ev)
    have ne : m ≠ x := by omega
    have ev1 := ev
    rw [← a1 m lt ne] at ev1
    rw [ofd_at ev] at q1
    rw [ofd_at ev1]
    exact q1
  have R := c_gather (κ := κ) (T := T) (T0 := T) (n := n) (Γ := pGm T f pp ee xs is e α (τ.2.2.1 32) inv) (C := 10010000) (Bd := 8008000000002) (rt := pRt f pp ee is e α) (M := 59) (CB := cbS T cnt kk pp ee f (τ.2.2.1 32) (is.map Prod.fst ++ tW e) 8008000000002 (pTN f pp ee is e α)) (NB := nbS T cnt kk pp ee f (τ.2.2.1 32) (is.map Prod.fst ++ tW e) 8008000000002 (pTN f pp ee is e α)) (tE := pTE f pp ee is e α) (tN := pTN f pp ee is e α) (A := A0) (lo1 := p) (i := i0) (j := cnt) hT (fun q hq => by have := nq q hq; omega) ⟨rfl, rfl, rfl, rfl⟩ rfl p10 u2 (by decide) (by decide) (y2 59) y1 (fun env w => by rw [nFind_cg p9 p1'']) (fun ps => sPl_a r1 p1'' p9 p12 ps) (Nat.le_refl _) (Nat.le_trans hVσ (by omega)) (by omega) ⟨s2, vcell, rfl, rfl⟩ rfl vls ⟨by show lo ≤ p + 2; omega, fun h0 => ?_⟩ (fun k b hk hb => ?_) (by rw [v5, List.length_append, List.length_map]; omega) ⟨g1, by omega⟩ (fun k y hy => ?_) (pm'.nodup_iff.mpr t11) (fun u hu => pm'.mem_iff.mp hu) i1 G0 (fun k h => h) g2.e t5 (by rw [e2]; exact hq) t12 e1 g4' t9 ⟨g3, Nat.le_refl _⟩ s2 X (by omega) h10 h11 (by omega)
  · obtain ⟨σ', Ψ', Ls', ln', ct', cs', z1, z2, z3, z4, z5, z6⟩ := R
    exact ⟨σ', Ψ', Ls', ln', ct', cs', z1, z2, z4, z6⟩
  · rcases v7 with z | z
    · exact Nat.le_trans s2 z
    · exfalso
      rcases vls.2.1 with ⟨q1, -⟩ | ⟨q1, -⟩
      · omega
      · rw [z, vsm _ hκ] at q1; cases q1
  · rw [v5] at hk
    obtain ⟨u, hu⟩ : ∃ u, (is.map Prod.fst ++ tW e)[k]? = some u := ⟨_, List.getElem?_eq_getElem hk⟩
    have := v6 k u hu
    obtain ⟨q1, q2⟩ := nmS u (List.mem_of_getElem? hu)
    rw [this, q1] at hb
    injection hb with hb
    omega
  · have hu : (is.map Prod.fst ++ tW e)[k]? = some y.1 := by
      rw [List.getElem?_append_left (by rw [List.length_map]; exact (List.getElem?_eq_some_iff.mp hy).1), List.getElem?_map, hy]
      rfl
    rw [v6 k y.1 hu]
    exact (nmS y.1 (List.mem_of_getElem? hu)).1
end GPR
