/-! the class's gather(): a NAME is told: what is known of it, and a Scope with it -/
section GTL
variable {κ : oKv} {T n : Nat} {st : Nat} {l : Nat → Nat} {b0 : Nat} {nq : tQ → Int} {xs : List tQ} {pg ch ty : Nat} {cf : List Value} {At : Nat → Nat} {mo : Nat} {g : gG} {ρ : Nat → tY} {lv ov : Int32} {CN : Nat → gCd → Prop} {NR : Nat → (Nat × Nat × tT × List tP × List Nat × Nat) → Prop} {pp : Nat → Int32} {V : oSt} {lo g0 : Nat} {nm : Nat → Option Nat} {tN : Nat → tY} {φ : Nat → Nat} {Us : List Nat} {i cnt u k : Nat} {tl : List Nat} {Ψ : kGh} {Ls : List Nat} {σ : oSt} {ln : Nat → Nat} {ct : Nat → Nat → Option Nat} {cs : Nat} {s : gSt} {A : gTy} {env : List Nat} {sc : List gEn} {Sc : List sEn} {os : Option Nat} {Es : List (gN × Nat)} {q : Nat → gTy}
theorem gwS.nu (h : gwS κ st l b0 nq xs pg ch ty cf At mo g ρ lv ov CN NR pp V lo g0 nm tN φ Us i tl Ψ Ls σ ln ct cs s) (hu : u ∈ Us) (hnt : u ∉ tl) (htl : ∀ u, u ∈ tl → u ∈ Us) : ∀ a, dnO g0 φ tl a → ¬ a = φ u := fun a ha z => by
  obtain ⟨N1, N2⟩ := h.2.2.2.2.2.1
  subst z
  rcases ha with ha | ⟨v, v1, v2⟩
  · have := (N1 u hu).2.1.2
    omega
  · have := N2 u v hu (htl v v1) v2
    subst this
    exact hnt v1
/-- **name.known = k** -/
theorem gwS.kw (h : gwS κ st l b0 nq xs pg ch ty cf At mo g ρ lv ov CN NR pp V lo g0 nm tN φ Us i tl Ψ Ls σ ln ct cs s) (hE : gwE st l b0 nq xs Ψ σ CN (dnO g0 φ tl) nm tN lo Ls env sc Sc os Es q) (kA : kRl st l b0 nq xs Ψ σ (fun y b => (y, b) ∈ Es) k A) (hu : u ∈ Us) (hnt : u ∉ tl) (htl : ∀ u, u ∈ tl → u ∈ Us) (hen : u ∉ env) (hpp : ∀ u v, u < v → v < cnt → pp u < pp v) (hi : i ≤ cnt) : ∃ fs S, σ.1 (φ u) = some (.inr (6, fs)) ∧ fs.length = 8 ∧ S = oput σ (φ u) (.inr (6, fs.set 4 (.ref k))) ∧ gwS κ st l b0 nq xs pg ch ty cf At mo g ρ lv ov CN NR pp V lo g0 nm tN φ Us i (tl ++ [u]) Ψ Ls S ln ct cs (gTn u A s) ∧ gwE st l b0 nq xs Ψ S CN (dnO g0 φ (tl ++ [u])) nm tN lo Ls env sc Sc os Es (fun v => if v = u then A else q v) ∧ kRl st l b0 nq xs Ψ S (fun y b => (y, b) ∈ Es) k A ∧ (gKp st l b0 (fun x => x = φ u) σ S ∧ shX st σ S) ∧ gwC xs.length Ls Ls cs cs σ S 0 0 := by
  have nu := h.nu hu hnt htl
  have hfr := h.2.1.1.1
  obtain ⟨N1, N2⟩ := h.2.2.2.2.2.1
  obtain ⟨a1, ⟨a2, a2'⟩, a3, fs, c, f0, f2, cn, ρc, f3⟩ := N1 u hu
  have f8 : fs.length = 8 := (h.2.1.2.1.1 _ _ (h.2.1.2.2.2.2.2.1.2 _ a3).1 f0).1
  obtain ⟨G1, ⟨k1, s1⟩, c1⟩ := h.kn (k := k) hu hnt htl f0 hpp hi
  exact ⟨fs, _, f0, f8, rfl, (G1.dn (fun v hv => List.mem_append_left _ hv)).tt (List.mem_append_right _ (List.mem_singleton.mpr rfl)) hu ⟨_, k, oput_eq _ _ _, List.getElem?_set_self (by omega), (kA.sp k1 (gAg.rf _ _) hfr).mo (hE.e0 h.2.2.2.2.2.2.1)⟩, hE.sp (Dn' := dnO g0 φ (tl ++ [u])) k1 (gAg.rf _ _) hfr nu (fun _ z => dnO.up (fun v hv => List.mem_append_left _ hv) z) (fun _ z => z) (fun v hv => if_neg (fun z => hen (by rw [← z]; exact hv))), kA.sp k1 (gAg.rf _ _) hfr, ⟨k1, s1⟩, c1⟩
/-- **new Scope(name, outer)** -/
theorem gwS.sc2 (h : gwS κ st l b0 nq xs pg ch ty cf At mo g ρ lv ov CN NR pp V lo g0 nm tN φ Us i tl Ψ Ls σ ln ct cs s) (hE : gwE st l b0 nq xs Ψ σ CN (dnO g0 φ tl) nm tN lo Ls env sc Sc os Es q) (kA : kRl st l b0 nq xs Ψ σ (fun y b => (y, b) ∈ Es) k A) (hu : u ∈ tl) (htl : ∀ u, u ∈ tl → u ∈ Us) (hen : u ∉ env) (he : ∀ v, v ∈ env → v ∈ Us) (hA : gSy A = tN u) (h4 : ∃ fs, σ.1 (φ u) = some (.inr (6, fs)) ∧ fs[4]? = some (.ref k)) (hqu : q u = A) (hpp : ∀ u v, u < v → v < cnt → pp u < pp v) (hi : i ≤ cnt) : ∃ S, S = onew σ (.inr (10, [.ref (φ u), va_rf none, .int 0, va_rf os])) 4 ∧ gwS κ st l b0 nq xs pg ch ty cf At mo g ρ lv ov CN NR pp V lo g0 nm tN φ Us i tl Ψ Ls S ln ct cs s ∧ gwE st l b0 nq xs Ψ S CN (dnO g0 φ tl) nm tN lo Ls env sc Sc os Es q ∧ gwE st l b0 nq xs Ψ S CN (dnO g0 φ tl) nm tN lo Ls (env ++ [u]) (gNm (.inl u) A sc) (.inl (φ u) :: Sc) (some σ.2.1) (if gMs (tN u) = true then (.inl u, φ u) :: Es else Es) q ∧ kRl st l b0 nq xs Ψ S (fun y b => (y, b) ∈ Es) k A ∧ (gKp st l b0 (fun _ => False) σ S ∧ shX st σ S) ∧ gwC xs.length Ls Ls cs cs σ S 1 4 := by
  have hfr := h.2.1.1.1
  have hφ := h.2.2.2.2.2.2.1
  have uU := htl u hu
  obtain ⟨N1, N2⟩ := h.2.2.2.2.2.1
  obtain ⟨a1, ⟨a2, a2'⟩, a3, fs, c, f0, f2, cn, ρc, f3⟩ := N1 u uU
  obtain ⟨fs', f0', f4⟩ := h4
  rw [f0] at f0'
  injection f0' with f0'
  injection f0' with f0'
  injection f0' with _ f0'
  subst f0'
  have f8 : fs.length = 8 := (h.2.1.2.1.1 _ _ (h.2.1.2.2.2.2.2.1.2 _ a3).1 f0).1
  have yw : yW (tN u) := by
    have := h.2.1.2.2.2.2.2.2.w _ c (Nat.le_refl _) cn
    rw [ρc] at this
    exact this
  have E1 := hE.tel (w := u) (A := A) (k := k) (fs := fs) h.2.1.1 hen yw hA (Or.inr ⟨u, hu, hφ u⟩) (by rw [hφ u]; exact a3) (by rw [hφ u]; exact ⟨a1, a2⟩) (fun v hv z => by
    rw [hφ v, hφ u] at z
    have := N2 v u (he v hv) uU z
    subst this
    exact hen hv) (by rw [hφ u]; exact f0) f8 f3 f4 kA
  rw [hφ u] at E1
  have o1 : oNl σ (onew σ (.inr (10, [.ref (φ u), va_rf none, .int 0, va_rf os])) 4) 1 4 := oNl.new hfr
  obtain ⟨G1, ⟨k1, s1⟩, c1⟩ := h.nw o1 (o10_n6 hfr) hpp hi
  exact ⟨_, rfl, G1, hE.sp k1 (gAg.rf _ _) hfr (fun _ _ z => z) (fun _ z => z) (fun _ z => z) (fun _ _ => rfl), E1.sp (W := fun _ => False) gKp.rf (gAg.rf _ _) G1.2.1.1.1 (fun _ _ z => z) (fun _ z => z) (fun _ z => z) (fun v _ => by
    show q v = if v = u then A else q v
    by_cases c : v = u
    · rw [if_pos c, c, hqu]
    · rw [if_neg c]), kA.sp k1 (gAg.rf _ _) hfr, ⟨k1, s1⟩, c1⟩
end GTL
