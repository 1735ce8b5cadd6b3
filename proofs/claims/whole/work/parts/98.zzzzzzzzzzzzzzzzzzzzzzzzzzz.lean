/-! weakenAll() as a whole -/
section WKA
variable {κ : oKv} {T T0 cnt : Nat} {kk f fc pp ee R R6 : Nat → Int32} {L : List Nat} {nm : Nat → Option Nat} {φ : Nat → Nat} {Bb : Int} {B : Nat → Nat} {D : cDt} {lo : Nat} {V : oSt} {st : Nat} {l : Nat → Nat} {b0 : Nat} {Γ : uGm} {Ψ : kGh} {σ : oSt} {K : Int} {j o pa ph ta th ch N n Hm : Nat} {cf : List Value} {FK : Nat × List Bool → List gFc} {Dn : Nat → Prop} {ln : Nat → Nat} {ct : Nat → Nat → Option Nat} {cs : Nat} {Fs : List gFit} {Ks : List (Nat × List Bool)}
/-- the row of looks is among what is the Knowns' own -/
def wyP (Ψ : kGh) (la : Nat) : kGh := (Ψ.1, Ψ.2.1, fun x => Ψ.2.2.1 x ∨ x = la, Ψ.2.2.2)
theorem wyP.ag (Ψ : kGh) (σ : oSt) : gAg σ Ψ (wyP Ψ σ.2.1) := ⟨fun _ _ => rfl, fun _ _ _ => rfl, fun x hx => ⟨fun z => z.elim id (fun e => by omega), Or.inl⟩, fun _ z => z⟩
theorem wyN_1 (cell : Nat × List Bool → Nat) : ∀ Ks : List (Nat × List Bool), wyN FK cell (fun _ _ => true) Ks ≤ (Ks.map (fun kp => (FK kp).length)).sum
  | [] => Nat.le_refl _
  | kp :: r => by
    have := wyN_1 cell r
    have e : ((List.range (FK kp).length).filter (fun _ => true)).length ≤ (FK kp).length := Nat.le_trans (List.length_filter_le _ _) (by rw [List.length_range]; exact Nat.le_refl _)
    rw [List.map_cons, List.sum_cons]
    show ((List.range (FK kp).length).filter (fun _ => true)).length + _ ≤ (FK kp).length + _
    omega
/-- a list of the Checker's, as long as only INSTANCES are lost -/
theorem cLo.wf {Q : Nat → Prop} {σ' : oSt} {x d cap len ci : Nat} {mc : Int32} {g : Nat → Option Nat} (h : cLo κ σ x d cap len mc g ci) (hl : len < 2 ^ 31) (J : ∃ gp gt hp ht, σ.1 pa = some (.inl (.object "LiquidTongue$Node", 40, .inr (.inr (.inr (.inr gp))))) ∧ σ.1 ph = some (.inl (.boolean, 40, .inl hp)) ∧ σ.1 ta = some (.inl (.object "LiquidTongue$Name", 40, .inr (.inr (.inr (.inr gt))))) ∧ σ.1 th = some (.inl (.boolean, 40, .inl ht))) (hf : wFr Q pa ph ta th σ σ') (hcap : cap < 2 ^ 31) : oLs σ' (some x) len g := by
  obtain ⟨h1, h2, -⟩ := h
  obtain ⟨gp, gt, hp, ht, j1, j2, j3, j4⟩ := J
  have e1 := hf.o h1 (by decide) (by decide) (by decide) (by decide) (by decide)
  refine ⟨x, d, oob_at e1, by rw [ofd_at e1]; rfl, by rw [ofd_at e1]; rfl, hl, fun i hi => ?_⟩
  rcases h2 with ⟨z, -⟩ | ⟨z, z1, z2⟩
  · omega
  · have nt : ∀ {y : Nat} {ty : FieldType} {w}, σ.1 y = some (.inl (ty, w)) → ty ≠ .object "java/lang/Object" → d ≠ y := fun {y ty w} e ne q => by
      rw [← q, z] at e
      injection e with e; injection e with e; injection e with e _
      exact ne e.symm
    have e2 := hf.a z (fun w => by cases w) ⟨nt j1 (fun w => by injection w with w; exact absurd w (by decide +kernel)), nt j2 (fun w => by cases w), nt j3 (fun w => by injection w with w; exact absurd w (by decide +kernel)), nt j4 (fun w => by cases w)⟩ (fun w => by
      rcases w with w | w
      · cases w
      · injection w with w; exact absurd w (by decide +kernel))
    simp only [oar, e2, zin_n (show i < cap by omega) hcap, if_true, nI_clamp (show i < 2 ^ 31 by omega)]
theorem jSt.ar {ca len W b : Nat} {cl fa : Int32} {fo : Nat → Int64} {rd : Int32} {wk : Option Nat} {ps : Int32} {P Tr : List (Nat × Bool)} (J : jSt σ j o ca pa ph ta th len W b cl fa fo rd wk ps P Tr) : ∃ gp gt hp ht, σ.1 pa = some (.inl (.object "LiquidTongue$Node", 40, .inr (.inr (.inr (.inr gp))))) ∧ σ.1 ph = some (.inl (.boolean, 40, .inl hp)) ∧ σ.1 ta = some (.inl (.object "LiquidTongue$Name", 40, .inr (.inr (.inr (.inr gt))))) ∧ σ.1 th = some (.inl (.boolean, 40, .inl ht)) := by
  obtain ⟨-, -, ⟨gp, hp, a4, a5, -⟩, ⟨gt, ht, a6, a7, -⟩, -⟩ := J
  exact ⟨gp, gt, hp, ht, a4, a5, a6, a7⟩
theorem gSb_wy {cell : Nat × List Bool → Nat} {Fc : Nat → Nat → Bool} (h : ∀ x, x ∈ Fs.filter (fkp Γ.2.2.1 Γ.2.2.2.1) → wyS T f pp ee R R6 Γ cell Fc x) : gSb T f pp ee R R6 Γ Fs (fun kp => Fc (cell kp)) := fun x hx m hm k y hy hk => by
  refine h x (List.mem_filter.mpr ⟨hx, ?_⟩) m hm k y hy hk
  unfold fkp gFa
  rw [hm]
  refine decide_eq_true ?_
  have := (List.getElem?_eq_some_iff.mp hy).1
  show 0 < (gIn _ _ _ _).length
  omega
set_option maxHeartbeats 1000000 in
/-- **weakenAll()** -/
theorem c_wkA {ca len W0 b1 : Nat} {cl0 fa0 : Int32} {fo : Nat → Int64} {rd : Int32} {wk : Option Nat} {ps : Int32} {P Tr : List (Nat × Bool)} {M : Nat} (W : wkH T T0 f fc pp ee R L nm φ Bb lo b0 V σ Ψ pa ph ta th) (hT : 200200 ≤ T) (hN : Hm + 60 ≤ n) (hR0 : R6 1500 = 0) (G : gaS κ st l b0 Γ.2.2.1 Γ.2.2.2.1 (nCl κ T T0 kk pp ee f fc B D V nm lo) ch Ψ Dn cf σ ln ct cs Fs) (hcf : cf[2]? = some (.ref j)) (hln : ln 0 ≤ 12100) (hro : kRo Ψ σ) (h0 : σ.1 0 = none) (P0 : rwI 0 σ ∧ kn8 σ ∧ cnI K σ) (J : jSt σ j o ca pa ph ta th len W0 b1 cl0 fa0 fo rd wk ps P Tr) (hl : len ≤ 201600) (hs0 : σ.2.1 + 26 < T) (hF : ∀ x, x ∈ Fs.filter (fkp Γ.2.2.1 Γ.2.2.2.1) → wyF T cnt kk pp ee f R R6 L Γ Bb Hm FK x ∧ ∀ m : gTm, x.2.2.1 = .inr m → (m.1, m.2.1) ∈ Ks) (hK : ∀ kp, FK kp ≠ [] → Ψ.2.2.2 kp.1 ∧ ∃ fs, σ.1 (Ψ.2.1 kp) = some (.inr (4, fs))) (hM : (Ks.map (fun kp => (FK kp).length)).sum ≤ M) (hM2 : M ≤ 100000) : ∃ σ' Fc lk, oF κ T (n + 5) 68 [va_rf (some ch)] σ = some (none, σ') ∧ wyI st l b0 (wyP Ψ σ.2.1).2.2.1 K j o pa ph ta th ch σ.2.1 (ln 0) len cf (onew σ (.inl (.int, ln 0, .inl (fun _ => 0))) (ln 0)) (onew σ (.inl (.int, ln 0, .inl (fun _ => 0))) (ln 0)) σ' Fc lk ∧ gGr T f pp ee R R6 Γ FK Fs (fun kp => Fc (Ψ.2.1 kp)) := by
  obtain ⟨g1, g2, g3, ⟨g4, g41, g42, g43, g44⟩, ⟨g50, g51, g52⟩, g6, g7⟩ := G
  obtain ⟨⟨w1, w1'⟩, ⟨w2, w2', w2''⟩, w3, w4, w5, w6, w7, w8⟩ := W
  have hfr := g1.1
  have la : ∀ {x : Nat} {cc : oC}, σ.1 x = some cc → x ≠ σ.2.1 := fun {x cc} e z => by
    rw [z, hfr _ (Nat.le_refl _)] at e; cases e
  obtain ⟨d, c, mc, q, -⟩ := g3
  have l31 : ∀ i, i < 3 → ln i = ln 0 := fun i hi => by
    have : i = 0 ∨ i = 1 ∨ i = 2 := by omega
    rcases this with rfl | rfl | rfl
    · rfl
    · exact g51
    · exact g52
  have cls : ∀ i, i < 3 → oLs σ (some (l i)) (ln 0) (ct i) := fun i hi => by
    have := (q i (by omega)).1.wf (Q := Ψ.2.2.1) (by have := l31 i hi; omega) J.ar wFr.rf (by
      have := (q i (by omega)).2
      have := l31 i hi
      omega)
    rw [l31 i hi] at this
    exact this
  have new : ∀ {x : Nat} {cc : oC}, σ.1 x = some cc → (onew σ (.inl (.int, ln 0, .inl (fun _ => 0))) (ln 0)).1 x = some cc := fun {x cc} e => by
    rw [onew_ne (la e)]; exact e
  have nla : (onew σ (.inl (.int, ln 0, .inl (fun _ => 0))) (ln 0)).1 σ.2.1 = some (.inl (.int, ln 0, .inl (fun _ => 0))) := onew_eq ..
  have nxt : (onew σ (.inl (.int, ln 0, .inl (fun _ => 0))) (ln 0)).2.1 = σ.2.1 + 1 := rfl
  have old : ∀ {x : Nat} {fs : List Value}, (onew σ (.inl (.int, ln 0, .inl (fun _ => 0))) (ln 0)).1 x = some (.inr (4, fs)) → σ.1 x = some (.inr (4, fs)) := fun {x fs} e => by
    by_cases z : x = σ.2.1
    · rw [z, nla] at e; cases e
    · rw [onew_ne z] at e; exact e
  have kp : gKp st l b0 (fun _ => False) σ (onew σ (.inl (.int, ln 0, .inl (fun _ => 0))) (ln 0)) := (oNl.new hfr).kp hfr g1.2.1 (fun x fs hx e => by
    by_cases z : x = σ.2.1
    · rw [z, nla] at e; cases e
    · rw [onew_ne z, hfr x hx] at e; cases e)
  have P1 : rwI 0 (onew σ (.inl (.int, ln 0, .inl (fun _ => 0))) (ln 0)) ∧ kn8 (onew σ (.inl (.int, ln 0, .inl (fun _ => 0))) (ln 0)) ∧ cnI K (onew σ (.inl (.int, ln 0, .inl (fun _ => 0))) (ln 0)) := ⟨P0.1.na _ _, P0.2.1.na _ _, P0.2.2.nw _ _⟩
  have J1 : jSt (onew σ (.inl (.int, ln 0, .inl (fun _ => 0))) (ln 0)) j o ca pa ph ta th len W0 b1 cl0 fa0 fo rd wk ps P Tr := J.cg (fun x hx => onew_ne (by
    obtain ⟨a1, ⟨a2, a3⟩, ⟨gp, hp, a4, a5, -⟩, ⟨gt, ht, a6, a7, -⟩, -⟩ := id J
    rcases hx with z | z | z | z | z | z | z <;> rw [z]
    · exact la a1
    · exact la a2
    · exact la a3
    · exact la a4
    · exact la a5
    · exact la a6
    · exact la a7))
  have e1 : oF κ T (n + 5) 68 [va_rf (some ch)] σ = ol_X0_weakenAll_17 T (oF κ T (n + 4)) κ T (some ch) (some σ.2.1) 0 1 (nI 0) (onew σ (.inl (.int, ln 0, .inl (fun _ => 0))) (ln 0)) := by
    have a5 : ovr (ofd σ (some ch) 2 5) = some (some (l 2)) := by rw [ofd_at g4, g43]; rfl
    obtain ⟨_, _, ob, -⟩ := cls 2 (by decide)
    rw [oE_X0_weakenAll]
    unfold ob_X0_weakenAll
    rw [a5, obn_at, ob, obn_at, l_size (n := n + 3) (cls 2 (by decide)), oin_at, ogd_at (by
      unfold onn
      rw [nI_clamp (by omega), decide_eq_true (show ¬ nI (ln 0) < 0 from nI_pos (by omega)), decide_eq_true (show ln 0 ≤ 60000000 by omega)]; rfl)]
    rw [nI_clamp (by omega)]
    rfl
  have eqN : (M + 1) * ln 0 ≤ 100001 * 12100 := Nat.mul_le_mul (by omega) hln
  generalize hσ : onew σ (.inl (.int, ln 0, .inl (fun _ => 0))) (ln 0) = σG at new nla nxt old kp P1 J1 e1
  have vJG : vJ lo V σG := by
    refine ⟨fun a fs h1 h2 => ?_, fun a fs h1 h2 => ?_, fun a k fs h1 h2 h3 => new (w2.2.2.1 a k fs h1 h2 h3), fun a y h1 h2 h3 => new (w2.2.2.2 a y h1 h2 h3)⟩
    · obtain ⟨gs, e, e'⟩ := w2.1 a fs h1 h2
      exact ⟨gs, new e, e'⟩
    · obtain ⟨gs, e⟩ := w2.2.1 a fs h1 h2
      exact ⟨gs, new e⟩
  have W' : wkH T T0 f fc pp ee R L nm φ Bb lo b0 V σG (wyP Ψ σ.2.1) pa ph ta th := ⟨⟨w1, w1'⟩, ⟨vJG, by omega, w2''⟩, fun a ha => ha.elim (w3 a) (fun e => by rw [e]; exact w2'), w4, w5, P1.1, w7, w8⟩
  have hL : wyL b0 (wyP Ψ σ.2.1).2.2.1 σ.2.1 σG := ⟨Or.inr rfl, g1.2.2.1.1, ⟨_, nla⟩, fun w fs i r e hi er => by
    have := (P0.1.2.2.1 w fs i r (Nat.zero_le _) (old e) hi er).2
    omega⟩
  have ag := wyP.ag Ψ σ
  have hO : ∀ σ', wFr (wyP Ψ σ.2.1).2.2.1 pa ph ta th σG σ' → oLs σ' (some (l 0)) (ln 0) (ct 0) ∧ oLs σ' (some (l 1)) (ln 0) (ct 1) ∧ oLs σ' (some (l 2)) (ln 0) (ct 2) := fun σ' hf => by
    have go : ∀ i, i < 3 → oLs σ' (some (l i)) (ln 0) (ct i) := fun i hi => by
      obtain ⟨z1, z2, z3⟩ := (q i (by omega)).1
      have : cLo κ σG (l i) (d i) (c i) (ln i) (mc i) (ct i) (lkd i) := ⟨new z1, z2.imp (fun ⟨y1, y2, y3, y4⟩ => ⟨y1, y2, y3, by
        rw [← hσ, onew_ne (by rw [y3]; have := g2.2; omega)]; exact y4⟩) (fun ⟨y1, y2⟩ => ⟨new y1, y2⟩), fun j hj b e => by
        obtain ⟨fs, e'⟩ := z3 j hj b e
        exact ⟨fs, new e'⟩⟩
      have := this.wf (by have := l31 i hi; omega) J1.ar hf (by
        have := (q i (by omega)).2
        have := l31 i hi
        omega)
      rw [l31 i hi] at this
      exact this
    exact ⟨go 0 (by decide), go 1 (by decide), go 2 (by decide)⟩
  have C : wyC κ T T0 cnt kk f fc pp ee R R6 L nm φ Bb B D lo V st l b0 Γ (wyP Ψ σ.2.1) σG σG K j pa ph ta th σ.2.1 (ln 0) n Hm cf FK Dn ct Fs (Fs.filter (fkp Γ.2.2.1 Γ.2.2.2.1)) Ks := ⟨W', ⟨by omega, hN⟩, hL, hR0, hO, ⟨hcf, g41, g42, g43⟩, ⟨by omega, P1.2.2⟩, ⟨g50.symm, fun i x hx => by
    have hm := List.mem_of_getElem? hx
    obtain ⟨m1, m2⟩ := List.mem_filter.mp hm
    exact ⟨(g6 i x hx).sp kp ag hfr (fun _ _ z => z) (fun _ z => z), (hF x hm).1, m2, m1, (hF x hm).2⟩⟩, fun kp' kp'' n1 n2 e => by
    obtain ⟨a1, fs, a2⟩ := hK kp' n1
    obtain ⟨b1', -⟩ := hK kp'' n2
    have ne : Ψ.2.1 kp' ≠ 0 := fun z => by rw [z, h0] at a2; cases a2
    obtain ⟨r1, r2⟩ := hro.2 kp'.1 kp'.2 kp''.1 kp''.2 a1 b1' ne e
    exact Prod.ext r1 r2⟩
  have fq1 : ∀ (F : List kFc) (k : Nat), fQk (fun _ => true) k F = F := fun F => by
    induction F with
    | nil => intro k; rfl
    | cons x F ih =>
      intro k
      show (if true = true then x :: fQk (fun _ => true) (k + 1) F else _) = _
      rw [if_pos rfl, ih]
  have hD : wkD st l b0 (wyP Ψ σ.2.1).2.2.1 σG σG (fun _ _ => true) := fun w F hF' => by
    rw [fq1]
    by_cases cF : F = []
    · obtain ⟨ra, sa, z⟩ := hF'.or
      exact ⟨ra, sa, z, fun y => absurd cF y⟩
    · obtain ⟨fs, f1, f2, f3, f4, f5⟩ := id hF'
      rcases f5 with f5 | ⟨ra, sa, cap, hr, gs, f6, f7, f8, f9, ⟨f10, f11, f12, f13, f14⟩, -⟩
      · exact absurd f5 cF
      · obtain ⟨ra', sa', z⟩ := hF'.or
        have er : ra' = ra ∧ sa' = sa := by
          obtain ⟨fs', cap', hr', gs', c1, c2, c3, c4, c5⟩ := id z
          rw [f1] at c1
          injection c1 with c1; injection c1 with c1; injection c1 with _ c1
          subst c1
          rcases c5 with c5 | ⟨c5, c6, -⟩
          · exact absurd c5 cF
          · rw [f6] at c5
            rw [f7] at c6
            injection c5 with c5; injection c5 with c5
            injection c6 with c6; injection c6 with c6
            exact ⟨c5.symm, c6.symm⟩
        rw [er.1, er.2] at z
        exact ⟨ra, sa, z, fun _ => ⟨⟨⟨⟨_, f8⟩, _, f9⟩, ⟨f13, f14⟩, f11, f12⟩, fs, f1, f6, f7⟩⟩
  have I0 : wyI st l b0 (wyP Ψ σ.2.1).2.2.1 K j o pa ph ta th ch σ.2.1 (ln 0) len cf σG σG σG (fun _ _ => true) (fun _ => 0) := ⟨⟨ca, len, W0, b1, cl0, fa0, fo, rd, wk, ps, P, Tr, J1, hl, ⟨Nat.le_refl _, Nat.le_refl _, ⟨0, rfl, by omega⟩, Nat.le_refl _⟩⟩, wFr.rf, hD, fun _ _ _ => rfl, P1, new g4, nla⟩
  have J0 : wyJ T f pp ee R R6 Γ (wyP Ψ σ.2.1).2.1 FK Fs (Fs.filter (fkp Γ.2.2.1 Γ.2.2.2.1)) (ln 0) σG (fun _ _ => true) (fun _ => 0) 0 := ⟨fun _ _ => Int.le_refl _, fun i x _ z => absurd z (show ¬ (0 : Int) < (0 : Int32).toInt by decide), fun al _ kp k _ _ => rfl⟩
  obtain ⟨σ', Fc, lk, c', r1, r2, r3, r4⟩ := c_wa17 C (by omega) M 0 σG _ _ 0 T (by omega) (by omega) I0 J0 (by decide) (by
    show (0 : Int) + _ + 1 < 2 ^ 31
    omega) (Nat.le_trans (wyN_1 _ Ks) hM)
  exact ⟨σ', Fc, lk, e1.trans r1, r2, gSb_wy r4, r3.2.2⟩
end WKA
