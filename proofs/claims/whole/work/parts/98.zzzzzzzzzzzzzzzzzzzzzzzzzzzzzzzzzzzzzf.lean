/-! type(): the letters of told NAMES lie in the PROGRAM -/
section TYT
variable {κ : oKv} {T sz len cnt j lo p N S P A x0 w : Nat} {kk pp ee f fc fb fr fz fn : Nat → Int32} {xs : List tQ} {is : List (Nat × Nat)} {e : tT} {α : Nat → tY} {B : Nat → Nat} {V : oSt} {D : cDt} {at2 cd' : Nat} {am2 : Int32} {nm : Nat → Option Nat} {e0 : Nat} {g : gG} {ρ : Nat → tY} {lv : Int32} {σ : oSt} {τ : zSt}
theorem ty_tx (hT : 2010 ≤ T) (hp : pgT T len cnt j kk pp ee f fc xs is e α) (hr : rPo T len cnt kk pp ee f xs is e N S P A x0 τ) (hV : pgV κ T sz len cnt kk pp ee fc xs is e B p V D at2 cd' am2 nm e0 fb fr fz fn) (hS : pgS κ T lo cnt kk pp ee f fc is e α B p V D nm e0 g ρ lv σ) (hw : w ∈ is.map Prod.fst ++ tW e) : ∃ b q r h gs, nm w = some b ∧ σ.1 b = some (.inr (6, gs)) ∧ gs[0]? = some (.ref q) ∧ (lo ≤ q ∧ lo ≤ r ∧ r < V.2.1) ∧ cTx σ q r (wL pp ee w) h ∧ ∀ i, i < wL pp ee w → h i = fc (wA pp w + i) := by
  obtain ⟨-, -, -, h0, -⟩ := tx_1 hT hp hr
  obtain ⟨-, -, -, -, -, ⟨⟨⟨-, g1'⟩, g2, -⟩, -⟩, -, -, -, mono, -⟩ := id hp
  have lt : w < cnt := by
    rcases List.mem_append.mp hw with z | z
    · obtain ⟨y, y1, y2⟩ := List.mem_map.mp z
      rw [← y2]; exact (g1' y y1).1
    · exact tWf_tW e _ g2 w z
  have hw0 : 0 < w := Nat.pos_of_ne_zero (fun z => h0 (by rw [← z]; exact hw))
  have pz := hV.2.2.2.2.2.2.2.1.2.2.2.2
  have p0 := mono 0 w hw0 lt
  have nz : wA pp w ≠ 0 := fun z => by
    have a0 : (0 : Int) ≤ (pp 0).toInt := by have := Int32.le_iff_toInt_le.mp (pz 0); exact this
    have aw : (0 : Int) ≤ (pp w).toInt := by have := Int32.le_iff_toInt_le.mp (pz w); exact this
    have c1 := i32_cl aw
    have z : (pp w).toNatClampNeg = 0 := z
    have c2 := Int32.lt_iff_toInt_lt.mp p0
    omega
  obtain ⟨b, b1, q, r, i1, i2, i3, h, c1, c2, c3, c4⟩ := hV.2.2.2.2.2.2.1.2.2.2 w hw
  obtain ⟨bq, br⟩ := c4.resolve_left nz
  obtain ⟨b', fs', c, gs', d1, d2, -⟩ := hS.2.2.2.1 w hw
  rw [b1] at d1
  injection d1 with d1
  subst d1
  have hlp := hS.2.1
  obtain ⟨gs, e1, -, e2, -⟩ := hS.1.2.1 b _ (by omega) c1
  have v3 := hS.1.2.2.1
  refine ⟨b, q, r, h, gs, b1, e1, e2, ⟨by omega, by omega, Nat.lt_of_not_le (fun z => by have := c2.2.1; rw [hS.1.2.2.2 r z] at this; cases this)⟩, ⟨?_, ?_, c2.2.2⟩, c3⟩
  · exact v3 q _ (by omega) c2.1 (fun _ z => by cases z) (fun _ z => by cases z) (fun k fs z => by injection z with z; injection z with z _; rw [← z]; decide) (fun _ z => by cases z)
  · exact v3 r _ (by omega) c2.2.1 (fun _ z => by cases z) (fun _ z => by cases z) (fun k fs z => by cases z) (fun _ z => by injection z with z; injection z with z; cases z)
end TYT
