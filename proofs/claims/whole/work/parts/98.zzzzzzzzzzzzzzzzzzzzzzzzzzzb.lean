/-! findDoubt() as a whole -/
section FDW
variable {κ : oKv} {T T0 cnt : Nat} {kk f fc pp ee R R6 : Nat → Int32} {L : List Nat} {nm : Nat → Option Nat} {φ : Nat → Nat} {Bb : Int} {B : Nat → Nat} {D : cDt} {lo : Nat} {V : oSt} {st : Nat} {l : Nat → Nat} {b0 : Nat} {Γ : uGm} {Ψ : kGh} {σ : oSt} {K : Int} {j o pa ph ta th ch N n Hm i0 : Nat} {cf : List Value} {Dn : Nat → Prop} {ln : Nat → Nat} {ct : Nat → Nat → Option Nat} {cs : Nat} {Fs : List gFit} {Ns : List gNd}
theorem wkH.nw {y} {k : Nat} (hfr : ∀ q, σ.2.1 ≤ q → σ.1 q = none) (W : wkH T T0 f fc pp ee R L nm φ Bb lo b0 V σ Ψ pa ph ta th) : wkH T T0 f fc pp ee R L nm φ Bb lo b0 V (onew σ (.inl y) k) (wyP Ψ σ.2.1) pa ph ta th := by
  obtain ⟨⟨w1, w1'⟩, ⟨w2, w2', w2''⟩, w3, w4, w5, w6, w7, w8⟩ := W
  have new : ∀ {x : Nat} {cc : oC}, σ.1 x = some cc → (onew σ (.inl y) k).1 x = some cc := fun {x cc} e => by
    rw [onew_ne (fun z => by rw [z, hfr _ (Nat.le_refl _)] at e; cases e)]; exact e
  refine ⟨⟨w1, w1'⟩, ⟨⟨fun a fs h1 h2 => ?_, fun a fs h1 h2 => ?_, fun a k fs h1 h2 h3 => new (w2.2.2.1 a k fs h1 h2 h3), fun a y h1 h2 h3 => new (w2.2.2.2 a y h1 h2 h3)⟩, Nat.le_succ_of_le w2', w2''⟩, fun a ha => ha.elim (w3 a) (fun e => by rw [e]; exact w2'), w4, w5, w6.na _ _, w7, w8⟩
  · obtain ⟨gs, e, e'⟩ := w2.1 a fs h1 h2
    exact ⟨gs, new e, e'⟩
  · obtain ⟨gs, e⟩ := w2.2.1 a fs h1 h2
    exact ⟨gs, new e⟩
/-- **findDoubt()** -/
theorem c_fdA {len la N' : Nat} {σ' : oSt} {Fc : Nat → Nat → Bool} {lk : Nat → Int32} (W : wkH T T0 f fc pp ee R L nm φ Bb lo b0 V σ Ψ pa ph ta th) (h0L : 0 ∉ L) (hT : 200200 ≤ T) (hN : Hm + 60 ≤ n) (hR0 : R6 1500 = 0) (G : gaS κ st l b0 Γ.2.2.1 Γ.2.2.2.1 (nCl κ T T0 kk pp ee f fc B D V nm lo) ch Ψ Dn cf σ ln ct cs Fs) (Gn : ndL st l b0 Γ.2.2.1 Γ.2.2.2.1 Ψ σ (nCl κ T T0 kk pp ee f fc B D V nm lo) Dn (nRl κ T T0 kk pp ee f fc B D V nm lo) pp i0 ln ct Ns) (hcf : cf.length = 10 ∧ cf[2]? = some (.ref j) ∧ cf[9]? = some (.int (-1))) (hln : ln 3 ≤ 12100) (hs0 : σ.2.1 + 26 < T) (hc : cnI K σ) (hF : ∀ x, x ∈ Ns → fdF T cnt kk pp ee f R R6 L Γ Bb Hm x) (hp0 : ∀ w, 0 ≤ pp w) (J : ∃ gp gt hp ht, σ.1 pa = some (.inl (.object "LiquidTongue$Node", 40, .inr (.inr (.inr (.inr gp))))) ∧ σ.1 ph = some (.inl (.boolean, 40, .inl hp)) ∧ σ.1 ta = some (.inl (.object "LiquidTongue$Name", 40, .inr (.inr (.inr (.inr gt))))) ∧ σ.1 th = some (.inl (.boolean, 40, .inl ht))) (I : wyI st l b0 (wyP Ψ σ.2.1).2.2.1 K j o pa ph ta th ch la N' len cf (onew σ (.inl (.int, ln 0, .inl (fun _ => 0))) (ln 0)) (onew σ (.inl (.int, ln 0, .inl (fun _ => 0))) (ln 0)) σ' Fc lk) : ∃ σ'' p, oF κ T (n + 5) 65 [va_rf (some ch)] σ' = some (none, σ'') ∧ fdI st l b0 (wyP Ψ σ.2.1).2.2.1 K j o pa ph ta th ch len cf (onew σ (.inl (.int, ln 0, .inl (fun _ => 0))) (ln 0)) (onew σ (.inl (.int, ln 0, .inl (fun _ => 0))) (ln 0)) σ'' Fc p ∧ plQ pp (nSo T f pp ee R R6 (fun kp => Fc (Ψ.2.1 kp)) Γ) (Ns.flatMap gN2) p := by
  obtain ⟨g1, g2, g3, ⟨g4, g41, g42, g43, g44⟩, -⟩ := G
  have hfr := g1.1
  have W' := wkH.nw (y := (.int, ln 0, .inl (fun _ => 0))) (k := ln 0) hfr W
  have ag := wyP.ag Ψ σ
  have new : ∀ {x : Nat} {cc : oC}, σ.1 x = some cc → (onew σ (.inl (.int, ln 0, .inl (fun _ => 0))) (ln 0)).1 x = some cc := fun {x cc} e => by
    rw [onew_ne (fun z => by rw [z, hfr _ (Nat.le_refl _)] at e; cases e)]; exact e
  have nla : (onew σ (.inl (.int, ln 0, .inl (fun _ => 0))) (ln 0)).1 σ.2.1 = some (.inl (.int, ln 0, .inl (fun _ => 0))) := onew_eq ..
  have kp : gKp st l b0 (fun _ => False) σ (onew σ (.inl (.int, ln 0, .inl (fun _ => 0))) (ln 0)) := (oNl.new hfr).kp hfr g1.2.1 (fun x fs hx e => by
    by_cases z : x = σ.2.1
    · rw [z, nla] at e; cases e
    · rw [onew_ne z, hfr x hx] at e; cases e)
  have cG : cnI K (onew σ (.inl (.int, ln 0, .inl (fun _ => 0))) (ln 0)) := hc.nw _ _
  have nxt : (onew σ (.inl (.int, ln 0, .inl (fun _ => 0))) (ln 0)).2.1 = σ.2.1 + 1 := rfl
  have kL : (onew σ (.inl (.int, ln 0, .inl (fun _ => 0))) (ln 0)).1 κ.2.2.1 = none := by
    rw [onew_ne (by have := g2.2; omega)]; exact g2.1
  generalize hσ : onew σ (.inl (.int, ln 0, .inl (fun _ => 0))) (ln 0) = σG at *
  obtain ⟨d, c, mc, q, -⟩ := g3
  have J1 : ∃ gp gt hp ht, σG.1 pa = some (.inl (.object "LiquidTongue$Node", 40, .inr (.inr (.inr (.inr gp))))) ∧ σG.1 ph = some (.inl (.boolean, 40, .inl hp)) ∧ σG.1 ta = some (.inl (.object "LiquidTongue$Name", 40, .inr (.inr (.inr (.inr gt))))) ∧ σG.1 th = some (.inl (.boolean, 40, .inl ht)) := by
    obtain ⟨gp, gt, hp, ht, a1, a2, a3, a4⟩ := J
    exact ⟨gp, gt, hp, ht, new a1, new a2, new a3, new a4⟩
  have hO : ∀ σ', wFr (wyP Ψ σ.2.1).2.2.1 pa ph ta th σG σ' → oLs σ' (some (l 3)) (ln 3) (ct 3) := fun σ' hf => by
    obtain ⟨z1, z2, z3⟩ := (q 3 (by omega)).1
    have : cLo κ σG (l 3) (d 3) (c 3) (ln 3) (mc 3) (ct 3) (lkd 3) := ⟨new z1, z2.imp (fun ⟨y1, y2, y3, y4⟩ => ⟨y1, y2, y3, by rw [y3]; exact kL⟩) (fun ⟨y1, y2⟩ => ⟨new y1, y2⟩), fun j hj b e => by
      obtain ⟨fs, e'⟩ := z3 j hj b e
      exact ⟨fs, new e'⟩⟩
    exact this.wf (by omega) J1 hf (by
      have := (q 3 (by omega)).2
      omega)
  obtain ⟨i1, i2, i3, i4, i5, i6, -⟩ := I
  have e9 : cf.set 9 (.int (-1)) = cf := by
    refine List.ext_getElem? (fun k => ?_)
    by_cases ck : k = 9
    · rw [ck, List.getElem?_set_self (by omega), hcf.2.2]
    · rw [List.getElem?_set_ne (fun z => ck z.symm)]
  have I' : fdI st l b0 (wyP Ψ σ.2.1).2.2.1 K j o pa ph ta th ch len cf σG σG σ' Fc (-1) := ⟨i1, i2, i3, i4, i5, by rw [e9]; exact i6⟩
  obtain ⟨σ'', p, r1, r2, r3⟩ := c_fd2 (κ := κ) (T := T) (n := n) (Ns := Ns) (i0 := i0) (Dn := Dn) (ct := ct) (N := ln 3) (Ψ := wyP Ψ σ.2.1) W' h0L (by omega) hN hR0 hO ⟨hcf.1, hcf.2.1, g44⟩ (by omega) cG Gn.1.symm (fun k x hx => by
    obtain ⟨m, fs, os, Sc, Es, w, n0, ⟨n1, n2, n3, n4⟩, n5, n6, n7⟩ := Gn.2 k x hx
    exact ⟨⟨m, fs, os, Sc, Es, w, n0, ⟨new n1, n2, n3, n4⟩, n5.sp kp ag hfr Sc os x.1 Es (fun _ _ z => z), n6, n7⟩, hF x (List.mem_of_getElem? hx)⟩) hp0 (ln 3) 0 σ' (-1) T (by omega) (by omega) I' (Or.inl ⟨rfl, fun x hx => by cases hx⟩)
  refine ⟨σ'', p, ?_, r2, r3⟩
  rw [oE_X0_findDoubt]
  unfold ob_X0_findDoubt
  exact r1
end FDW
