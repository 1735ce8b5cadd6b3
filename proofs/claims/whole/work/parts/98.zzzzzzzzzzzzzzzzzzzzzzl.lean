/-! the class's gather(): Scopes that are made -/
section GWO
variable {κ : oKv} {T n : Nat} {st : Nat} {l : Nat → Nat} {b0 : Nat} {nq : tQ → Int} {xs : List tQ} {Ψ : kGh} {σ : oSt} {CN : Nat → gCd → Prop} {Dn : Nat → Prop} {nm : Nat → Option Nat} {tN : Nat → tY} {lo : Nat} {Ls : List Nat} {env : List Nat} {sc : List gEn} {Sc : List sEn} {os : Option Nat} {Es : List (gN × Nat)} {q : Nat → gTy} {Q : Nat → Prop} {m w k : Nat} {c : gCd} {hh : Bool} {fs : List Value} {A : gTy} {kd : Int32} {gs : List Value}
theorem o10_n6 {v : List Value} (hfr : ∀ q, σ.2.1 ≤ q → σ.1 q = none) : ∀ z f, σ.2.1 ≤ z → (onew σ (.inr (10, v)) 4).1 z = some (.inr (6, f)) → False := fun z f hz e => by
  by_cases c : z = σ.2.1
  · rw [c, onew_eq] at e; cases e
  · rw [onew_ne c, hfr z hz] at e; cases e
/-- new Scope(test, holds, scope) -/
theorem gwE.cd (h : gwE st l b0 nq xs Ψ σ CN Dn nm tN lo Ls env sc Sc os Es q) (iv : gIv st l b0 Q σ) (hc : CN m c) : gwE st l b0 nq xs Ψ (onew σ (.inr (10, [va_rf none, .ref m, .int (b01 hh), va_rf os])) 4) CN Dn nm tN lo Ls env (.inr (c, hh) :: sc) (.inr (m, hh) :: Sc) (some σ.2.1) Es q := by
  have o : oNl σ (onew σ (.inr (10, [va_rf none, .ref m, .int (b01 hh), va_rf os])) 4) 1 4 := oNl.new iv.1
  have kp := iv.kp (W := fun _ => False) o (fun z f hz e => (o10_n6 iv.1 z f hz e).elim)
  obtain ⟨h1, h2, h3, h4, h5⟩ := h.sp (Dn' := Dn) (Ls' := Ls) (q' := q) kp (gAg.rf _ _) iv.1 (fun _ _ z => z) (fun _ z => z) (fun _ z => z) (fun _ _ => rfl)
  refine ⟨⟨σ.2.1, os, c, sc, ⟨rfl, onew_eq _ _ _⟩, rfl, hc, h1⟩, fun a ha => ?_, h3, h4, h5⟩
  rcases List.mem_cons.mp ha with z | z
  · cases z
  · exact h2 a z
/-- new Scope(name, scope): the NAME told at word w, of which k is known -/
theorem gwE.tel (h : gwE st l b0 nq xs Ψ σ CN Dn nm tN lo Ls env sc Sc os Es q) (iv : gIv st l b0 Q σ) (hw : w ∉ env) (yw : yW (tN w)) (hA : gSy A = tN w) (hD : Dn (Ψ.1 (.inl w))) (hL : Ψ.1 (.inl w) ∈ Ls) (hn : nm w = some (Ψ.1 (.inl w)) ∧ lo ≤ Ψ.1 (.inl w)) (hi : ∀ u, u ∈ env → Ψ.1 (.inl u) ≠ Ψ.1 (.inl w)) (hf : σ.1 (Ψ.1 (.inl w)) = some (.inr (6, fs))) (h8 : fs.length = 8) (f3 : fs[3]? = some (.int (cKd (yK (tN w))))) (f4 : fs[4]? = some (.ref k)) (kk : kRl st l b0 nq xs Ψ σ (fun y b => (y, b) ∈ Es) k A) : gwE st l b0 nq xs Ψ (onew σ (.inr (10, [.ref (Ψ.1 (.inl w)), va_rf none, .int 0, va_rf os])) 4) CN Dn nm tN lo Ls (env ++ [w]) (gNm (.inl w) A sc) (.inl (Ψ.1 (.inl w)) :: Sc) (some σ.2.1) (if gMs (tN w) = true then (.inl w, Ψ.1 (.inl w)) :: Es else Es) (fun u => if u = w then A else q u) := by
  have o : oNl σ (onew σ (.inr (10, [.ref (Ψ.1 (.inl w)), va_rf none, .int 0, va_rf os])) 4) 1 4 := oNl.new iv.1
  have kp := iv.kp (W := fun _ => False) o (fun z f hz e => (o10_n6 iv.1 z f hz e).elim)
  obtain ⟨h1, h2, h3, h4, h5⟩ := h.sp (Dn' := Dn) (Ls' := Ls) (q' := q) kp (gAg.rf _ _) iv.1 (fun _ _ z => z) (fun _ z => z) (fun _ z => z) (fun _ _ => rfl)
  have kk1 := kk.sp kp (gAg.rf _ _) iv.1
  have hf1 : (onew σ (.inr (10, [.ref (Ψ.1 (.inl w)), va_rf none, .int 0, va_rf os])) 4).1 (Ψ.1 (.inl w)) = some (.inr (6, fs)) := by
    rw [onew_ne (fun z => by rw [z, iv.1 _ (Nat.le_refl _)] at hf; cases hf)]; exact hf
  have sub : ∀ (y : gN) (b : Nat), (y, b) ∈ Es → (y, b) ∈ (if gMs (tN w) = true then (.inl w, Ψ.1 (.inl w)) :: Es else Es) := fun y b z => by
    split
    · exact List.mem_cons_of_mem _ z
    · exact z
  refine ⟨⟨σ.2.1, os, fs, cKd (yK (tN w)), ⟨rfl, onew_eq _ _ _⟩, ⟨hf1, h8, f3⟩, ?_⟩, fun a ha => ?_, fun p hp => ?_, ⟨fun u hu => ?_, fun u v hu hv e => ?_⟩, fun u hu => ?_⟩
  · rw [isM_g yw]
    unfold gNm
    rw [hA]
    cases e : gMs (tN w) with
    | true =>
      rw [if_pos rfl, if_pos rfl]
      exact Or.inr ⟨rfl, .inl w, A, k, sc, Es, ⟨rfl, rfl, fun p hp z => by
        obtain ⟨⟨u, u1, u2⟩, u3, -⟩ := h3 p hp
        rw [u3, u2] at z
        exact hi u u1 z, fun _ _ => rfl⟩, f4, by rw [hA], kk1, h1⟩
    | false =>
      rw [if_neg (by decide), if_neg (by decide)]
      exact Or.inl ⟨rfl, ⟨k, A, f4, kk1⟩, h1⟩
  · rcases List.mem_cons.mp ha with z | z
    · injection z with z
      rw [z]; exact hD
    · exact h2 a z
  · split at hp
    · rcases List.mem_cons.mp hp with z | z
      · rw [z]
        exact ⟨⟨w, List.mem_append_right _ (List.mem_singleton_self _), rfl⟩, rfl, hL⟩
      · obtain ⟨⟨u, u1, u2⟩, u3⟩ := h3 p z
        exact ⟨⟨u, List.mem_append_left _ u1, u2⟩, u3⟩
    · obtain ⟨⟨u, u1, u2⟩, u3⟩ := h3 p hp
      exact ⟨⟨u, List.mem_append_left _ u1, u2⟩, u3⟩
  · rcases List.mem_append.mp hu with z | z
    · exact h4.1 u z
    · rw [List.mem_singleton.mp z]; exact hn
  · rcases List.mem_append.mp hu with z | z
    · rcases List.mem_append.mp hv with z' | z'
      · exact h4.2 u v z z' e
      · rw [List.mem_singleton.mp z'] at e
        exact absurd e (hi u z)
    · rw [List.mem_singleton.mp z] at e ⊢
      rcases List.mem_append.mp hv with z' | z'
      · exact absurd e.symm (hi v z')
      · exact (List.mem_singleton.mp z').symm
  · rcases List.mem_append.mp hu with z | z
    · obtain ⟨d, f, k', g1, g3, g4, g5⟩ := h5 u z
      refine ⟨d, f, k', g1, g3, g4, ?_⟩
      have : u ≠ w := fun e => hw (e ▸ z)
      rw [show (fun u => if u = w then A else q u) u = q u from if_neg this]
      exact g5.mo sub
    · rw [List.mem_singleton.mp z, show (fun u => if u = w then A else q u) w = A from if_pos rfl]
      exact ⟨hD, fs, k, hf1, f3, f4, kk1.mo sub⟩
/-- walk() of an E at which nothing must be SO -/
theorem c_wk0 (hm : σ.1 m = some (.inr (7, gs))) (h17 : gs[17]? = some (va_rf none)) {ch : Nat} : oF κ T (n + 1) 30 [va_rf (some ch), va_rf (some m), va_rf os] σ = oj_X0_walk_21 T (oF κ T n) κ (some ch) (some m) os σ := by
  have f17 : ofd σ (some m) 7 17 = some (va_rf none) := (ofd_at hm).trans h17
  rw [oE_X0_walk]
  unfold ob_X0_walk
  rw [f17, show ovr (some (va_rf none)) = some none from rfl, obn_at, if_pos rfl]
/-- of an E without an E in it -/
theorem c_w21 (hm : σ.1 m = some (.inr (7, gs))) (h0 : gs[0]? = some (.int kd)) {ch : Nat} (hk : kd ≠ 40 ∧ kd ≠ 201 ∧ kd ≠ 206 ∧ kd ≠ 207 ∧ kd ≠ 212 ∧ kd ≠ 214 ∧ kd ≠ 219 ∧ kd ≠ 220 ∧ kd ≠ 401) : oj_X0_walk_21 T (oF κ T n) κ (some ch) (some m) os σ = orn (oF κ T n 20 [va_rf (some m)] σ) fun r s => some (some (va_rf r), s) := by
  obtain ⟨k1, k2, k3, k4, k5, k6, k7, k8, k9⟩ := hk
  unfold oj_X0_walk_21
  rw [c_pl0 hm h0, ovi_i, obn_at, if_neg k1, if_neg k2, if_neg k3, if_neg k4, if_neg k5, if_neg k6, if_neg k7, if_neg k8, if_neg k9]
end GWO
