/-! the class's gather(): walk(), and then what it answers must FIT -/
section WFT
variable {κ : oKv} {T n : Nat} {st : Nat} {l : Nat → Nat} {b0 : Nat} {nq : tQ → Int} {xs : List tQ} {pg ch ty : Nat} {cf : List Value} {At : Nat → Nat} {mo : Nat} {g : gG} {ρ : Nat → tY} {lv ov : Int32} {CN : Nat → gCd → Prop} {NR : Nat → (Nat × Nat × tT × List tP × List Nat × Nat) → Prop} {pp : Nat → Int32} {V : oSt} {lo g0 : Nat} {nm : Nat → Option Nat} {tN : Nat → tY} {φ : Nat → Nat} {Us : List Nat} {i j cnt : Nat} {tl tl' : List Nat} {Ψ : kGh} {Ls : List Nat} {σ : oSt} {cs : Nat} {s1 : gSt} {A1 Bt : gTy} {dd : Nat × Nat} {R : oRs} {Γ : uGm} {C Bd : Int} {rt : Nat → gTm} {env : List Nat} {sc : List gEn} {Sc : List sEn} {os : Option Nat} {Es : List (gN × Nat)} {q : Nat → gTy} {kW : Nat} {y : tY} {ln : Nat → Nat} {ct : Nat → Nat → Option Nat} {s : gSt}
/-- NAMES that are done with are not those that are told within -/
theorem gwS.dj (h : gwS κ st l b0 nq xs pg ch ty cf At mo g ρ lv ov CN NR pp V lo g0 nm tN φ Us i tl Ψ Ls σ ln ct cs s) (ht : ∀ u, u ∈ tl → u ∈ Us) (ht' : ∀ u, u ∈ tl' → u ∈ Us) : ∀ a, dnO g0 φ tl a → ¬ ∃ u, u ∈ tl' ∧ u ∉ tl ∧ a = φ u := fun a ha ⟨u, u1, u2, u3⟩ => by
  obtain ⟨N1, N2⟩ := h.2.2.2.2.2.1
  rcases ha with ha | ⟨v, v1, v2⟩
  · have := (N1 u (ht' u u1)).2.1.2
    omega
  · have := N2 v u (ht v v1) (ht' u u1) (by rw [← v2, ← u3])
    subst this
    exact u2 v1
/-- **walk(), and then fit()** -/
theorem wk_fit (hT : 2010 ≤ T) (hQ : rtQ Γ rt) (hC : 0 ≤ C) (h : gwS κ st l b0 nq xs pg ch ty cf At mo g ρ lv ov CN NR pp V lo g0 nm tN φ Us i tl Ψ Ls σ ln ct cs s) (W : wkR κ st l b0 nq xs pg ch ty cf At mo g ρ lv ov CN NR pp V lo g0 nm tN φ Us (fun y b => (y, b) ∈ Es) i j tl tl' Ψ Ls σ cs s1 A1 dd R) (hE : gwE st l b0 nq xs Ψ σ CN (dnO g0 φ tl) nm tN lo Ls env sc Sc os Es q) (kB : kRl st l b0 nq xs Ψ σ (fun y b => (y, b) ∈ Es) kW Bt) (ht : ∀ u, u ∈ tl → u ∈ Us) (ht' : ∀ u, u ∈ tl' → u ∈ Us) (htt : ∀ u, u ∈ tl → u ∈ tl') (hq : ∀ u, u ∈ env → s1.1 u = q u) (eA : gSy A1 = y) (eB : gSy Bt = y) (yw : yW y) (wA : wfT Γ C Bd rt (nmS sc) A1) (wB : wfT Γ C Bd rt (nmS sc) Bt) (mB : ∃ m, Bt.1 = .inr m ∧ m.2.2.2.1 = []) (hw : scW Γ C Bd rt tN (scN sc)) (hD : yDp y ≤ 60) (hn : 7 + yDp y ≤ n) (hl : s1.2.1.length + yLs y + 1 ≤ 12100) (hpp : ∀ u v, u < v → v < cnt → pp u < pp v) (hj : j ≤ cnt) : ∃ k σm σ' Ψ' Ls' ln' ct' cs', R = some (some (va_rf (some k)), σm) ∧ (∃ v, σm.1 ch = some (.inr (2, v))) ∧ oF κ T (n + 1) 12 [va_rf (some ch), va_rf (some k), va_rf (some kW), va_rf os] σm = some (none, σ') ∧ gwS κ st l b0 nq xs pg ch ty cf At mo g ρ lv ov CN NR pp V lo g0 nm tN φ Us j tl' Ψ' Ls' σ' ln' ct' cs' (gFt (gFi y A1 Bt sc) s1) ∧ gwE st l b0 nq xs Ψ' σ' CN (dnO g0 φ tl') nm tN lo Ls' env sc Sc os Es s1.1 ∧ kRl st l b0 nq xs Ψ' σ' (fun y b => (y, b) ∈ Es) kW Bt ∧ (gAg σ Ψ Ψ' ∧ ∀ k, Ψ'.2.2.2 k → Ψ.2.2.2 k ∨ (2 * i ≤ k ∧ k < 2 * j)) ∧ (gKp st l b0 (fun x => ∃ u, u ∈ tl' ∧ u ∉ tl ∧ x = φ u) σ σ' ∧ wK7 pp i j σ σ') ∧ (∀ z, z ∈ Ls → z ∈ Ls') ∧ gwC xs.length Ls Ls' cs cs' σ σ' (dd.1 + (wFt y A1 Bt).1) (dd.2 + (wFt y A1 Bt).2) := by
  obtain ⟨σm, k, Ψ', Ls', ln1, ct1, cs1, w1, w2, w3, ⟨w4, w4'⟩, ⟨w5, w6⟩, w7, w8⟩ := W
  have hfr := h.2.1.1.1
  have dj := h.dj ht ht'
  have E1 := hE.sp (Dn' := dnO g0 φ tl') (Ls' := Ls') (q' := s1.1) w5 w4 hfr dj (fun _ z => dnO.up htt z) w7 hq
  have kB1 := kB.sp w5 w4 hfr
  obtain ⟨σ', ln', ct', cs', f1, f2, ⟨f3, f4, f5⟩, f6, -⟩ := w3.ft (n := n) hT hQ hC E1 w2 kB1 eA eB yw wA wB mB hw hD hn (by have := w3.len.1; omega) hpp hj
  obtain ⟨v, hv⟩ := w3.2.1.2.2.2.1
  refine ⟨k, σm, σ', Ψ', Ls', ln', ct', cs', w1, ⟨_, hv⟩, f1, f2, E1.sp (f3 (fun _ => False)) (gAg.rf _ _) w3.2.1.1.1 (fun _ _ z => z) (fun _ z => z) (fun _ z => z) (fun _ _ => rfl), kB1.sp (f3 (fun _ => False)) (gAg.rf _ _) w3.2.1.1.1, ⟨w4, w4'⟩, ⟨w5.tr (f3 _), w6.tr (f5 i j)⟩, w7, ?_⟩
  obtain ⟨x1, x2, x3⟩ := w8.tr f6
  exact ⟨x1, x2, x3⟩
end WFT
