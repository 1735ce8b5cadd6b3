/-! the class's gather(): walk() of true, false, nil, brackets -/
section CW1
variable {κ : oKv} {T T0 : Nat} {st : Nat} {l : Nat → Nat} {b0 : Nat} {nq : tQ → Int} {xs : List tQ} {pg ch ty : Nat} {cf : List Value} {At : Nat → Nat} {mo : Nat} {g : gG} {ρ : Nat → tY} {lv ov : Int32} {CN : Nat → gCd → Prop} {NR : Nat → (Nat × Nat × tT × List tP × List Nat × Nat) → Prop} {V : oSt} {lo g0 : Nat} {nm : Nat → Option Nat} {tE tN : Nat → tY} {φ : Nat → Nat} {Us : List Nat} {kk pp ee f fc : Nat → Int32} {B : Nat → Nat} {D : cDt} {Γ : uGm} {C Bd : Int} {rt : Nat → gTm} {M : Nat} {CB : List Nat → List (gCd × Bool) → Prop} {NB : List Nat → List (gCd × Bool) → (Nat × Nat × tT × List tP × List Nat × Nat) → Prop} {cnt : Nat}
theorem wkR.tu {E : gN → Nat → Prop} {i j : Nat} {tl tl' tl2 : List Nat} {Ψ : kGh} {Ls : List Nat} {σ : oSt} {cs : Nat} {s' : gSt} {A : gTy} {dd : Nat × Nat} {R : oRs} (h : wkR κ st l b0 nq xs pg ch ty cf At mo g ρ lv ov CN NR pp V lo g0 nm tN φ Us E i j tl tl' Ψ Ls σ cs s' A dd R) (hs : ∀ u, u ∈ tl' → u ∈ tl2) : wkR κ st l b0 nq xs pg ch ty cf At mo g ρ lv ov CN NR pp V lo g0 nm tN φ Us E i j tl tl2 Ψ Ls σ cs s' A dd R := by
  obtain ⟨σ', k, Ψ', Ls', ln', ct', cs', r1, r2, r3, r4, ⟨r5, r6⟩, r7⟩ := h
  exact ⟨σ', k, Ψ', Ls', ln', ct', cs', r1, r2, r3.dn hs, r4, ⟨r5.mo (fun x ⟨u, a, b, c⟩ => ⟨u, hs u a, b, c⟩), r6⟩, r7⟩
theorem cw_8 {d z} {a b : tT} {gg : Nat} (hg : gg = 8 ∨ gg = 9) (hpp : ∀ u v, u < v → v < cnt → pp u < pp v) : cWk κ T T0 st l b0 nq xs pg ch ty cf At mo g ρ lv ov CN NR V lo g0 nm tE tN φ Us kk pp ee f fc B D Γ C Bd rt M CB NB cnt (.inner gg d z a b) := by
  intro env sc Sc os Es A s Ψ Ls σ ln ct cs i j m fk tl y N hE hI hN
  obtain ⟨-, ⟨h2, h2'⟩, ⟨lo1, h3, h3'⟩, -, -, -, h7, h8, -⟩ := hI
  obtain ⟨n, rfl⟩ : ∃ n, N = n + 3 := ⟨N - 3, by omega⟩
  have ij : i ≤ j := tRg.le _ i j h2
  rcases hg with c | c
  · subst c
    obtain ⟨o1, o2⟩ := h3'
    obtain ⟨gs, g1, -, g3⟩ := h7.2.2.1.1.nd (by have := o1.1; omega) o2
    have := wk_pl (κ := κ) (T := T) (n := n + 2) (os := os) (E := fun y b => (y, b) ∈ Es) h7 g1 ((g3 17 (by decide) (by decide)).trans rfl) ((g3 0 (by decide) (by decide)).trans rfl) (by decide) (c_plB (κ := κ) (T := T) (n := n) h7.2.1 g1 (Or.inr ((g3 0 (by decide) (by decide)).trans rfl))) hpp (by omega) ij
    exact this.tu (fun u hu => List.mem_append_left _ hu)
  · subst c
    obtain ⟨o1, o2⟩ := h3'
    obtain ⟨gs, g1, -, g3⟩ := h7.2.2.1.1.nd (by have := o1.1; omega) o2
    have := wk_pl (κ := κ) (T := T) (n := n + 2) (os := os) (E := fun y b => (y, b) ∈ Es) h7 g1 ((g3 17 (by decide) (by decide)).trans rfl) ((g3 0 (by decide) (by decide)).trans rfl) (by decide) (c_plB (κ := κ) (T := T) (n := n) h7.2.1 g1 (Or.inl ((g3 0 (by decide) (by decide)).trans rfl))) hpp (by omega) ij
    exact this.tu (fun u hu => List.mem_append_left _ hu)
theorem cw_17 {d z} {a b : tT} (hpp : ∀ u v, u < v → v < cnt → pp u < pp v) : cWk κ T T0 st l b0 nq xs pg ch ty cf At mo g ρ lv ov CN NR V lo g0 nm tE tN φ Us kk pp ee f fc B D Γ C Bd rt M CB NB cnt (.inner 17 d z a b) := by
  intro env sc Sc os Es A s Ψ Ls σ ln ct cs i j m fk tl y N hE hI hN
  obtain ⟨-, ⟨h2, h2'⟩, ⟨lo1, h3, h3'⟩, -, -, -, h7, h8, -⟩ := hI
  obtain ⟨n, rfl⟩ : ∃ n, N = n + 4 := ⟨N - 4, by omega⟩
  have ij : i ≤ j := tRg.le _ i j h2
  obtain ⟨o1, o2⟩ := h3'
  obtain ⟨gs, g1, -, g3⟩ := h7.2.2.1.1.nd (by have := o1.1; omega) o2
  have := wk_pl (κ := κ) (T := T) (n := n + 3) (os := os) (E := fun y b => (y, b) ∈ Es) h7 g1 ((g3 17 (by decide) (by decide)).trans rfl) ((g3 0 (by decide) (by decide)).trans rfl) (by decide) (c_plN (κ := κ) (T := T) (n := n) h7.2.1 g1 ((g3 0 (by decide) (by decide)).trans rfl)) hpp (by omega) ij
  exact this.tu (fun u hu => List.mem_append_left _ hu)
/-- brackets -/
theorem cw_16 {d z} {a b : tT} (ih : cWk κ T T0 st l b0 nq xs pg ch ty cf At mo g ρ lv ov CN NR V lo g0 nm tE tN φ Us kk pp ee f fc B D Γ C Bd rt M CB NB cnt a) : cWk κ T T0 st l b0 nq xs pg ch ty cf At mo g ρ lv ov CN NR V lo g0 nm tE tN φ Us kk pp ee f fc B D Γ C Bd rt M CB NB cnt (.inner 16 d z a b) := by
  intro env sc Sc os Es A s Ψ Ls σ ln ct cs i j m fk tl y N hE hI hN
  obtain ⟨⟨a1, a2, a3, a4⟩, ⟨h2, h2'⟩, ⟨lo1, h3, h3'⟩, h4, h5, h6, h7, h8, h9, h10⟩ := hI
  obtain ⟨n, rfl⟩ : ∃ n, N = n + 1 := ⟨N - 1, by omega⟩
  obtain ⟨⟨r1, r2, -⟩, k, ⟨r3, -⟩, r4, r5⟩ : (i ≤ d.1 ∧ d.1 < j ∧ _) ∧ ∃ k, (d.1 + 1 ≤ k ∧ _) ∧ tRg a (d.1 + 1) k ∧ tRg b k j := h2
  obtain ⟨o1, x, o2, o3⟩ := h3'
  obtain ⟨gs, g1, -, g3⟩ := h7.2.2.1.1.nd (by have := o1.1; omega) o2
  have kj : k ≤ j := tRg.le b k j r5
  have a1 : CB env (scC sc) ∧ eT a ∧ gHq T f pp ee tE tN Γ C Bd rt M CB NB a env (scC sc) := a1
  have hH : tH (.inner 16 d z a b) = max (tH a) (tH b) + 1 := rfl
  have W := ih env sc Sc os Es A s Ψ Ls σ ln ct cs (d.1 + 1) k x fk tl y n a1.2.1 ⟨⟨a1.2.2, a2, a3, a4.1.2.1, a4.2.2.1⟩, ⟨r4, by omega⟩, ⟨lo1, h3, o3⟩, h4, h5, fun q q1 q2 => h6 q (by omega) (by omega), h7.ix (by omega), h8, by omega, h10⟩ (by omega)
  have f12 : ofd σ (some m) 7 12 = some (.ref x) := (ofd_at g1).trans ((g3 12 (by decide) (by decide)).trans rfl)
  rw [c_wk0 g1 ((g3 17 (by decide) (by decide)).trans rfl)]
  unfold oj_X0_walk_21
  obtain ⟨v, hv⟩ := h7.2.1.2.2.2.1
  rw [c_pl0 g1 ((g3 0 (by decide) (by decide)).trans rfl), ovi_i, obn_at, if_pos rfl, f12, ovr_rf, obn_at, oob_at hv, obn_at]
  obtain ⟨σ', kk', Ψ', Ls', ln', ct', cs', w1, w2, w3, ⟨w4, w4'⟩, ⟨w5, w6⟩, w7⟩ := W
  rw [w1, orn_at]
  exact ⟨σ', kk', Ψ', Ls', ln', ct', cs', rfl, w2, w3.ix kj, ⟨w4, fun q hq => (w4' q hq).imp id (fun z => ⟨by omega, by omega⟩)⟩, ⟨w5, w6.mo (by omega) kj⟩, w7⟩
end CW1
