/-! the class's gather(): walk() of S and of S :: NAME -/
section CW10
variable {κ : oKv} {T T0 : Nat} {st : Nat} {l : Nat → Nat} {b0 : Nat} {nq : tQ → Int} {xs : List tQ} {pg ch ty : Nat} {cf : List Value} {At : Nat → Nat} {mo : Nat} {g : gG} {ρ : Nat → tY} {lv ov : Int32} {CN : Nat → gCd → Prop} {NR : Nat → (Nat × Nat × tT × List tP × List Nat × Nat) → Prop} {V : oSt} {lo g0 : Nat} {nm : Nat → Option Nat} {tE tN : Nat → tY} {φ : Nat → Nat} {Us : List Nat} {kk pp ee f fc : Nat → Int32} {B : Nat → Nat} {D : cDt} {Γ : uGm} {C Bd : Int} {rt : Nat → gTm} {M : Nat} {CB : List Nat → List (gCd × Bool) → Prop} {NB : List Nat → List (gCd × Bool) → (Nat × Nat × tT × List tP × List Nat × Nat) → Prop} {cnt : Nat} {i : Nat} {tl : List Nat} {Ψ : kGh} {Ls : List Nat} {σ : oSt} {ln : Nat → Nat} {ct : Nat → Nat → Option Nat} {cs : Nat} {s : gSt}
/-- types of told NAMES are types of the document -/
theorem gwS.yw (h : gwS κ st l b0 nq xs pg ch ty cf At mo g ρ lv ov CN NR pp V lo g0 nm tN φ Us i tl Ψ Ls σ ln ct cs s) {u : Nat} (hu : u ∈ Us) : yW (tN u) := by
  obtain ⟨-, -, -, fs, c, -, -, cn, ρc, -⟩ := h.2.2.2.2.2.1.1 u hu
  have := h.2.1.2.2.2.2.2.2.w _ c (Nat.le_refl _) cn
  rw [ρc] at this
  exact this
theorem cw_10 {d z} {a b : tT} (hpp : ∀ u v, u < v → v < cnt → pp u < pp v) (hfc : ∀ env w, nFind fc pp ee env w = nFind f pp ee env w) (hsp : ∀ ps, sPl T0 (fun j => fc j &&& 255) pp ee ps = sPl T f pp ee ps) (hb : b0 ≤ lo) (hV : V.2.1 ≤ g0) : cWk κ T T0 st l b0 nq xs pg ch ty cf At mo g ρ lv ov CN NR V lo g0 nm tE tN φ Us kk pp ee f fc B D Γ C Bd rt M CB NB cnt (.inner 10 d z a b) := by
  intro env sc Sc os Es A s Ψ Ls σ ln ct cs i j m fk tl y N hE hI hN
  obtain ⟨⟨a1, a2, a3, a4, a5⟩, ⟨h2, h2'⟩, ⟨lo1, h3, h3'⟩, -, h5, -, h7, h8, -⟩ := hI
  obtain ⟨n, rfl⟩ : ∃ n, N = n + 4 := ⟨N - 4, by omega⟩
  have ij : i ≤ j := tRg.le _ i j h2
  obtain ⟨su, o1⟩ := h3'
  have sf := a5.1.1 (Or.inl rfl)
  have := wk_S (κ := κ) (T := T) (n := n) (os := os) (f := f) (Γ := Γ) (C := C) (Bd := Bd) (rt := rt) o1 (a4.1 (Or.inl rfl)) h3 h7 h8 a1.2 a3 (hfc env) (hsp _) sf.1 (fun v e => sf.2 (1, false, v) (by rw [e]; exact List.mem_singleton_self _) (by show 0 < 1; omega)) hb hV (fun u hu => h7.yw (h5.2 u (h5.1 u hu))) hpp (by omega) ij
  exact (this.tu (fun u hu => List.mem_append_left _ hu)).cu (by unfold wSc; split <;> decide) (by unfold wSc; split <;> decide)
theorem cw_18 {d z} {a b : tT} (hT : 2010 ≤ T) (hpp : ∀ u v, u < v → v < cnt → pp u < pp v) (hfc : ∀ env w, nFind fc pp ee env w = nFind f pp ee env w) (hl : ∀ env y u, gOk f pp ee tE tN (.inner 18 d z a b) env y → nFind f pp ee env d.2.1 = some u → gMs (tN u) = true) : cWk κ T T0 st l b0 nq xs pg ch ty cf At mo g ρ lv ov CN NR V lo g0 nm tE tN φ Us kk pp ee f fc B D Γ C Bd rt M CB NB cnt (.inner 18 d z a b) := by
  intro env sc Sc os Es A s Ψ Ls σ ln ct cs i j m fk tl y N hE hI hN
  obtain ⟨⟨a1, a2, a3, a4, a5⟩, ⟨h2, h2'⟩, ⟨lo1, h3, h3'⟩, -, h5, -, h7, h8, -⟩ := hI
  obtain ⟨n, rfl⟩ : ∃ n, N = n + 6 := ⟨N - 6, by omega⟩
  have ij : i ≤ j := tRg.le _ i j h2
  obtain ⟨o1, le, su, o2, -⟩ := h3'
  obtain ⟨u, hu⟩ := a5.1.2.2.2.2.1 rfl
  have ue := nF_mem hu
  obtain ⟨gs, g1, -, g3⟩ := h7.2.2.1.1.nd (by have := o1.1; omega) o2
  obtain ⟨dd, fa, k, f1, f3, f4, f5⟩ := h8.2.2.2.2 u ue
  have h9 : gs[9]? = some (.ref (Ψ.1 (.inl u))) := by
    rw [g3 9 (by decide) (by decide)]
    show some (va_rf (nR fc pp ee nm env d.2.1)) = _
    unfold nR
    rw [hfc, hu]
    show some (va_rf (nm u)) = _
    rw [(h8.2.2.2.1.1 u ue).1]
    rfl
  have gu : gNu f pp ee env d.2.1 = u := by unfold gNu; rw [hu]; rfl
  have := wk_pl (κ := κ) (T := T) (n := n + 5) (os := os) (E := fun y b => (y, b) ∈ Es) h7 g1 ((g3 17 (by decide) (by decide)).trans rfl) ((g3 0 (by decide) (by decide)).trans rfl) (by decide) (c_plC (κ := κ) (T := T) (n := n) (x := .inl u) hT h7.2.1 g1 ((g3 0 (by decide) (by decide)).trans rfl) h9 f1 (h8.en (by
    rw [a3.1]
    exact List.mem_reverse.mpr (List.mem_map.mpr ⟨u, List.mem_filter.mpr ⟨ue, hl env y u a2 hu⟩, rfl⟩)))) hpp (by omega) ij
  have := this.tu (tl2 := tl ++ wW (.inner 18 d z a b)) (fun u hu => List.mem_append_left _ hu)
  show wkR κ st l b0 nq xs pg ch ty cf At mo g ρ lv ov CN NR pp V lo g0 nm tN φ Us (fun y b => (y, b) ∈ Es) i j tl (tl ++ wW (.inner 18 d z a b)) Ψ Ls σ cs s (gEq (yB 3) (some (.inl (gNu f pp ee env d.2.1), 1), 1)) (6, 25) _
  rw [gu]
  exact this
end CW10
