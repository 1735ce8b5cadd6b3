/-! the class's gather(): what holds while walk() goes on -/
/-- nodes whose first words lie elsewhere stay -/
def wK7 (pp : Nat → Int32) (i j : Nat) (σ σ' : oSt) : Prop := ∀ m fs, σ.1 m = some (.inr (7, fs)) → (∀ w, i ≤ w → w < j → fs[1]? ≠ some (.int (pp w))) → σ'.1 m = some (.inr (7, fs))
section WKS
variable {κ : oKv} {st : Nat} {l : Nat → Nat} {b0 : Nat} {nq : tQ → Int} {xs : List tQ} {σ σ' σ2 : oSt} {Ψ Ψ' : kGh} {CN : Nat → gCd → Prop} {Dn Dn' : Nat → Prop} {W : Nat → Prop} {pp : Nat → Int32} {i j i' j' cnt : Nat} {ln : Nat → Nat} {ct : Nat → Nat → Option Nat} {cs : Nat}
theorem wK7.rf : wK7 pp i j σ σ := fun _ _ h _ => h
theorem wK7.tr (h : wK7 pp i j σ σ') (g : wK7 pp i j σ' σ2) : wK7 pp i j σ σ2 := fun m fs e n => g m fs (h m fs e n) n
theorem wK7.mo (h : wK7 pp i' j' σ σ') (h1 : i ≤ i') (h2 : j' ≤ j) : wK7 pp i j σ σ' := fun m fs e n => h m fs e (fun w a b => n w (by omega) (by omega))
theorem shX.w7 (h : shX st σ σ') : wK7 pp i j σ σ' := fun m fs e _ => h.1 m 7 fs e (by decide) (by decide)
theorem lXp.w7 (h : lXp l σ σ') (lf : lFo4 κ l σ ln ct cs) : wK7 pp i j σ σ' := fun m fs e _ => by
  obtain ⟨a, b⟩ := lf.ne e (fun _ z => by injection z with z; injection z with z _; exact absurd z (by decide)) (fun _ _ z => by cases z)
  exact (h.1 m _ e a b).1
/-- **what must be SO**, in the list: nodes with their Scopes; NR says which nodes ask what -/
def ndR (st : Nat) (l : Nat → Nat) (b0 : Nat) (nq : tQ → Int) (xs : List tQ) (Ψ : kGh) (σ : oSt) (CN : Nat → gCd → Prop) (Dn : Nat → Prop) (NR : Nat → (Nat × Nat × tT × List tP × List Nat × Nat) → Prop) (pp : Nat → Int32) (i : Nat) (om : Option Nat) (x : gNd) : Prop := ∃ m fs os Sc Es w, om = some m ∧ (σ.1 m = some (.inr (7, fs)) ∧ fs[1]? = some (.int (pp w)) ∧ w < i ∧ fs[20]? = some (va_rf os)) ∧ scR st l b0 nq xs Ψ σ CN Sc os x.1 Es ∧ (∀ a, Sum.inl a ∈ Sc → Dn a) ∧ NR m x.2
def ndL (st : Nat) (l : Nat → Nat) (b0 : Nat) (nq : tQ → Int) (xs : List tQ) (Ψ : kGh) (σ : oSt) (CN : Nat → gCd → Prop) (Dn : Nat → Prop) (NR : Nat → (Nat × Nat × tT × List tP × List Nat × Nat) → Prop) (pp : Nat → Int32) (i : Nat) (ln : Nat → Nat) (ct : Nat → Nat → Option Nat) (Ns : List gNd) : Prop := ln 3 = Ns.length ∧ ∀ (k : Nat) (x : gNd), Ns[k]? = some x → ndR st l b0 nq xs Ψ σ CN Dn NR pp i (ct 3 k) x
variable {NR : Nat → (Nat × Nat × tT × List tP × List Nat × Nat) → Prop} {Ns : List gNd}
theorem ndR.sp {om : Option Nat} {x : gNd} (h : ndR st l b0 nq xs Ψ σ CN Dn NR pp i om x) (kk : gKp st l b0 W σ σ') (w7 : wK7 pp i j σ σ') (ag : gAg σ Ψ Ψ') (hfr : ∀ q, σ.2.1 ≤ q → σ.1 q = none) (hW : ∀ a, Dn a → ¬ W a) (hD : ∀ a, Dn a → Dn' a) (hpp : ∀ u v, u < v → v < cnt → pp u < pp v) (hj : j ≤ cnt) (hi : i ≤ i') : ndR st l b0 nq xs Ψ' σ' CN Dn' NR pp i' om x := by
  obtain ⟨m, fs, os, Sc, Es, w, h1, ⟨h2, h3, h4, h5⟩, h6, h7, h8⟩ := h
  refine ⟨m, fs, os, Sc, Es, w, h1, ⟨w7 m fs h2 (fun w' a b z => ?_), h3, by omega, h5⟩, h6.sp kk ag hfr Sc os x.1 Es (fun a ha => hW a (h7 a ha)), fun a ha => hD a (h7 a ha), h8⟩
  rw [h3] at z
  injection z with z
  injection z with z
  have := hpp w w' (by omega) (by omega)
  rw [z] at this
  exact absurd this (Int32.lt_irrefl)
theorem ndL.sp (h : ndL st l b0 nq xs Ψ σ CN Dn NR pp i ln ct Ns) (kk : gKp st l b0 W σ σ') (w7 : wK7 pp i j σ σ') (ag : gAg σ Ψ Ψ') (hfr : ∀ q, σ.2.1 ≤ q → σ.1 q = none) (hW : ∀ a, Dn a → ¬ W a) (hD : ∀ a, Dn a → Dn' a) (hpp : ∀ u v, u < v → v < cnt → pp u < pp v) (hj : j ≤ cnt) (hi : i ≤ i') : ndL st l b0 nq xs Ψ' σ' CN Dn' NR pp i' ln ct Ns := ⟨h.1, fun k x e => (h.2 k x e).sp kk w7 ag hfr hW hD hpp hj hi⟩
/-- **what counts at a place**, in cells: the Scope, NAMES and what is known of them -/
def gwE (st : Nat) (l : Nat → Nat) (b0 : Nat) (nq : tQ → Int) (xs : List tQ) (Ψ : kGh) (σ : oSt) (CN : Nat → gCd → Prop) (Dn : Nat → Prop) (nm : Nat → Option Nat) (tN : Nat → tY) (lo : Nat) (Ls : List Nat) (env : List Nat) (sc : List gEn) (Sc : List sEn) (os : Option Nat) (Es : List (gN × Nat)) (q : Nat → gTy) : Prop := scR st l b0 nq xs Ψ σ CN Sc os sc Es ∧ (∀ a, Sum.inl a ∈ Sc → Dn a) ∧ (∀ p, p ∈ Es → (∃ u, u ∈ env ∧ p.1 = .inl u) ∧ p.2 = Ψ.1 p.1 ∧ p.2 ∈ Ls) ∧ enC nm Ψ.1 lo env ∧ ∀ u, u ∈ env → Dn (Ψ.1 (.inl u)) ∧ ∃ fs k, σ.1 (Ψ.1 (.inl u)) = some (.inr (6, fs)) ∧ fs[3]? = some (.int (cKd (yK (tN u)))) ∧ fs[4]? = some (.ref k) ∧ kRl st l b0 nq xs Ψ σ (fun y b => (y, b) ∈ Es) k (q u)
variable {nm : Nat → Option Nat} {tN : Nat → tY} {lo : Nat} {Ls Ls' : List Nat} {env : List Nat} {sc : List gEn} {Sc : List sEn} {os : Option Nat} {Es : List (gN × Nat)} {q q' : Nat → gTy}
theorem gwE.sp (h : gwE st l b0 nq xs Ψ σ CN Dn nm tN lo Ls env sc Sc os Es q) (kk : gKp st l b0 W σ σ') (ag : gAg σ Ψ Ψ') (hfr : ∀ q, σ.2.1 ≤ q → σ.1 q = none) (hW : ∀ a, Dn a → ¬ W a) (hD : ∀ a, Dn a → Dn' a) (hL : ∀ a, a ∈ Ls → a ∈ Ls') (hq : ∀ u, u ∈ env → q' u = q u) : gwE st l b0 nq xs Ψ' σ' CN Dn' nm tN lo Ls' env sc Sc os Es q' := by
  obtain ⟨h1, h2, h3, h4, h5⟩ := h
  have eI : ∀ u, Ψ'.1 (.inl u) = Ψ.1 (.inl u) := fun u => ag.1 (.inl u) trivial
  refine ⟨h1.sp kk ag hfr Sc os sc Es (fun a ha => hW a (h2 a ha)), fun a ha => hD a (h2 a ha), fun p hp => ?_, ⟨fun u hu => by rw [eI u]; exact h4.1 u hu, fun u v hu hv e => h4.2 u v hu hv (by rw [← eI u, ← eI v]; exact e)⟩, fun u hu => ?_⟩
  · obtain ⟨⟨u, u1, u2⟩, u3, u4⟩ := h3 p hp
    exact ⟨⟨u, u1, u2⟩, by rw [u3, u2, eI u], hL _ u4⟩
  · obtain ⟨d, fs, k, f1, f3, f4, f5⟩ := h5 u hu
    obtain ⟨fs', a1, -, a3⟩ := kk.2.1 _ _ f1
    rw [eI u, hq u hu]
    exact ⟨hD _ d, fs', k, a1, (a3 3 (by decide) (fun z => absurd z (by decide))).trans f3, (a3 4 (by decide) (fun _ => hW _ d)).trans f4, f5.sp kk ag hfr⟩
end WKS
