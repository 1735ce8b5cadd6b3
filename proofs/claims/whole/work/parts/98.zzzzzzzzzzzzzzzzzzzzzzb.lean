/-! the class's gather(): walk()'s state, and how its steps keep it -/
/-- NAMES of which no more is found out: those that are made, and those of tl -/
def dnO (g0 : Nat) (φ : Nat → Nat) (tl : List Nat) (x : Nat) : Prop := g0 ≤ x ∨ ∃ u, u ∈ tl ∧ x = φ u
/-- told NAMES in cells -/
def gwN (nm : Nat → Option Nat) (tN : Nat → tY) (g : gG) (ρ : Nat → tY) (lo g0 : Nat) (φ : Nat → Nat) (Us Ls : List Nat) (σ : oSt) : Prop := (∀ u, u ∈ Us → nm u = some (φ u) ∧ (lo ≤ φ u ∧ φ u < g0) ∧ φ u ∈ Ls ∧ ∃ fs c, σ.1 (φ u) = some (.inr (6, fs)) ∧ fs[2]? = some (.int (nI c)) ∧ c < g.n ∧ ρ c = tN u ∧ fs[3]? = some (.int (cKd (yK (tN u))))) ∧ ∀ u v, u ∈ Us → v ∈ Us → φ u = φ v → u = v
/-- each place of a TEMPLATE has a cell of its own -/
def kRo (Ψ : kGh) (σ : oSt) : Prop := (∀ k p, Ψ.2.2.2 k → Ψ.2.1 (k, p) < σ.2.1) ∧ ∀ k p k' p', Ψ.2.2.2 k → Ψ.2.2.2 k' → Ψ.2.1 (k, p) ≠ 0 → Ψ.2.1 (k, p) = Ψ.2.1 (k', p') → k = k' ∧ p = p'
theorem kRo.up {Ψ Ψ' : kGh} {σ σ' : oSt} (h : kRo Ψ σ) (e1 : Ψ'.2.1 = Ψ.2.1) (e2 : Ψ'.2.2.2 = Ψ.2.2.2) (hl : σ.2.1 ≤ σ'.2.1) : kRo Ψ' σ' := by
  unfold kRo
  rw [e1, e2]
  exact ⟨fun k p hk => Nat.lt_of_lt_of_le (h.1 k p hk) hl, h.2⟩
/-- what is known of the NAMES that are told -/
def gwT (st : Nat) (l : Nat → Nat) (b0 : Nat) (nq : tQ → Int) (xs : List tQ) (Ψ : kGh) (σ : oSt) (φ : Nat → Nat) (Us tl : List Nat) (q : Nat → gTy) : Prop := ∀ u, q u ≠ gNtd → (u ∈ tl ∧ u ∈ Us) ∧ ∃ fs k, σ.1 (φ u) = some (.inr (6, fs)) ∧ fs[4]? = some (.ref k) ∧ kRl st l b0 nq xs Ψ σ (fun y b => ∃ v, y = .inl v ∧ b = φ v) k (q u)
/-- **walk()'s state**: s what the reading has gathered, at words below i -/
def gwS (κ : oKv) (st : Nat) (l : Nat → Nat) (b0 : Nat) (nq : tQ → Int) (xs : List tQ) (pg ch ty : Nat) (cf : List Value) (At : Nat → Nat) (mo : Nat) (g : gG) (ρ : Nat → tY) (lv ov : Int32) (CN : Nat → gCd → Prop) (NR : Nat → (Nat × Nat × tT × List tP × List Nat × Nat) → Prop) (pp : Nat → Int32) (V : oSt) (lo g0 : Nat) (nm : Nat → Option Nat) (tN : Nat → tY) (φ : Nat → Nat) (Us : List Nat) (i : Nat) (tl : List Nat) (Ψ : kGh) (Ls : List Nat) (σ : oSt) (ln : Nat → Nat) (ct : Nat → Nat → Option Nat) (cs : Nat) (s : gSt) : Prop := (∃ v, gaS κ st l b0 nq xs CN ch Ψ (dnO g0 φ tl) (cf.set 8 (.int v)) σ ln ct cs s.2.1) ∧ tpB st l b0 nq xs Ψ.2.2.1 pg ch ty cf At mo g ρ lv ov Ls σ ∧ (vM lo V σ ∧ pgQ lo V st l b0 σ) ∧ ((∀ x, Ψ.2.2.1 x → g0 ≤ x) ∧ g0 ≤ σ.2.1 ∧ kRo Ψ σ) ∧ ndL st l b0 nq xs Ψ σ CN (dnO g0 φ tl) NR pp i ln ct s.2.2 ∧ gwN nm tN g ρ lo g0 φ Us Ls σ ∧ (∀ u, Ψ.1 (.inl u) = φ u) ∧ gwT st l b0 nq xs Ψ σ φ Us tl s.1
/-- what it costs: places of the lists and NAMES' terms are paid for -/
def gwC (kq : Nat) (Ls Ls' : List Nat) (cs cs' : Nat) (σ σ' : oSt) (dn ds : Nat) : Prop := cs ≤ cs' ∧ 10 * (σ'.2.2.1 + tmP kq σ' Ls') ≤ 10 * (σ.2.2.1 + tmP kq σ Ls) + (cs' - cs) + 10 * dn ∧ σ'.2.2.2 + 3 * tmP kq σ' Ls' ≤ σ.2.2.2 + 3 * tmP kq σ Ls + (cs' - cs) + ds
theorem gwC.tr {kq : Nat} {L1 L2 L3 : List Nat} {c1 c2 c3 : Nat} {a b c : oSt} {d e d' e' : Nat} (h : gwC kq L1 L2 c1 c2 a b d e) (g : gwC kq L2 L3 c2 c3 b c d' e') : gwC kq L1 L3 c1 c3 a c (d + d') (e + e') := by
  obtain ⟨h1, h2, h3⟩ := h
  obtain ⟨g1, g2, g3⟩ := g
  exact ⟨by omega, by omega, by omega⟩
theorem gPl2.c {kq : Nat} {L1 L2 : List Nat} {a b : oSt} {d e : Nat} (h : gPl2 kq L1 L2 a b d e) (c : Nat) : gwC kq L1 L2 c c a b d e := by
  obtain ⟨h1, h2⟩ := h
  exact ⟨Nat.le_refl _, by omega, by omega⟩
section GWM
variable {κ : oKv} {T n : Nat} {st : Nat} {l : Nat → Nat} {b0 : Nat} {nq : tQ → Int} {xs : List tQ} {pg ch ty : Nat} {cf : List Value} {At : Nat → Nat} {mo : Nat} {g : gG} {ρ : Nat → tY} {lv ov : Int32} {CN : Nat → gCd → Prop} {NR : Nat → (Nat × Nat × tT × List tP × List Nat × Nat) → Prop} {pp : Nat → Int32} {V : oSt} {lo g0 : Nat} {nm : Nat → Option Nat} {tN : Nat → tY} {φ : Nat → Nat} {Us : List Nat} {i cnt : Nat} {tl : List Nat} {Ψ Ψ' : kGh} {Ls Ls' : List Nat} {σ σ' : oSt} {ln : Nat → Nat} {ct : Nat → Nat → Option Nat} {cs : Nat} {s : gSt} {W : Nat → Prop} {E : gN → Nat → Prop} {A : gTy} {dn ds : Nat} {R : oRs}
theorem gwN.sp (h : gwN nm tN g ρ lo g0 φ Us Ls σ) (k : gKp st l b0 W σ σ') (hL : ∀ a, a ∈ Ls → a ∈ Ls') : gwN nm tN g ρ lo g0 φ Us Ls' σ' := ⟨fun u hu => by
  obtain ⟨a1, a2, a3, fs, c, e1, e2, e3, e4, e5⟩ := h.1 u hu
  obtain ⟨fs', b1, -, b3⟩ := k.2.1 _ _ e1
  exact ⟨a1, a2, hL _ a3, fs', c, b1, (b3 2 (by decide) (fun z => absurd z (by decide))).trans e2, e3, e4, (b3 3 (by decide) (fun z => absurd z (by decide))).trans e5⟩, h.2⟩
theorem gwT.sp {q : Nat → gTy} (h : gwT st l b0 nq xs Ψ σ φ Us tl q) (k : gKp st l b0 W σ σ') (ag : gAg σ Ψ Ψ') (fr : ∀ q, σ.2.1 ≤ q → σ.1 q = none) (hW : ∀ a, dnO g0 φ tl a → ¬ W a) : gwT st l b0 nq xs Ψ' σ' φ Us tl q := fun u hu => by
  obtain ⟨⟨a1, a1'⟩, fs, kk, a2, a3, a4⟩ := h u hu
  obtain ⟨fs', b1, b2, b3⟩ := k.2.1 _ _ a2
  exact ⟨⟨a1, a1'⟩, fs', kk, b1, by rw [b3 4 (by decide) (fun _ => hW _ (Or.inr ⟨u, a1, rfl⟩))]; exact a3, a4.sp k ag fr⟩
theorem gwT.dx {tl' : List Nat} {q : Nat → gTy} (h : gwT st l b0 nq xs Ψ σ φ Us tl q) (ht : ∀ u, u ∈ tl → u ∈ tl') : gwT st l b0 nq xs Ψ σ φ Us tl' q := fun u hu => ⟨⟨ht u (h u hu).1.1, (h u hu).1.2⟩, (h u hu).2⟩
theorem gwT.tt {u : Nat} {q : Nat → gTy} (h : gwT st l b0 nq xs Ψ σ φ Us tl q) (hu : u ∈ tl) (hU : u ∈ Us) (hk : ∃ fs k, σ.1 (φ u) = some (.inr (6, fs)) ∧ fs[4]? = some (.ref k) ∧ kRl st l b0 nq xs Ψ σ (fun y b => ∃ v, y = .inl v ∧ b = φ v) k A) : gwT st l b0 nq xs Ψ σ φ Us tl (fun v => if v = u then A else q v) := fun w hw => by
  by_cases c : w = u
  · subst c
    have e : (fun v => if v = w then A else q v) w = A := if_pos rfl
    rw [e]
    exact ⟨⟨hu, hU⟩, hk⟩
  · have e : (fun v => if v = u then A else q v) w = q w := if_neg c
    rw [e] at hw ⊢
    exact h w hw
/-- a Known or a TEMPLATE is made -/
theorem gwS.sh (h : gwS κ st l b0 nq xs pg ch ty cf At mo g ρ lv ov CN NR pp V lo g0 nm tN φ Us i tl Ψ Ls σ ln ct cs s) (t : tpB st l b0 nq xs Ψ'.2.2.1 pg ch ty cf At mo g ρ lv ov Ls' σ') (k : gKp st l b0 W σ σ') (sh : shX st σ σ') (ag : gAg σ Ψ Ψ') (hW : ∀ a, dnO g0 φ tl a → ¬ W a) (hL : ∀ a, a ∈ Ls → a ∈ Ls') (hro : kRo Ψ' σ') (hpp : ∀ u v, u < v → v < cnt → pp u < pp v) (hi : i ≤ cnt) : gwS κ st l b0 nq xs pg ch ty cf At mo g ρ lv ov CN NR pp V lo g0 nm tN φ Us i tl Ψ' Ls' σ' ln ct cs s := by
  obtain ⟨⟨v, h1⟩, h2, ⟨h3, h3'⟩, ⟨h4, h4', -⟩, h5, h6, h7, h8⟩ := h
  obtain ⟨v', hv⟩ := t.2.2.2.1
  obtain ⟨f5, hf⟩ := h2.2.2.2.2.1
  have fr := h1.1.1
  have hs : ∃ f, σ.1 st = some (.inl (.object "LiquidTongue$Name", 73, f)) := ⟨_, hf⟩
  refine ⟨⟨v', h1.sh k sh t.1 ag hW (fun _ z => z) hs hv (fun i hi => by rw [List.getElem?_set_ne (fun z => hi z.symm), List.getElem?_set_ne (fun z => hi z.symm)])⟩, t, h3.kp h3' k, ⟨fun x hx => ?_, Nat.le_trans h4' sh.2.2.2, hro⟩, h5.sp (j := i) k sh.w7 ag fr hW (fun _ z => z) hpp hi (Nat.le_refl _), h6.sp k hL, fun u => (ag.1 (.inl u) trivial).trans (h7 u), h8.sp k ag fr hW⟩
  by_cases z : x < σ.2.1
  · exact h4 x ((ag.2.2.1 x z).mp hx)
  · omega
/-- **a function that makes a Known** -/
theorem gwS.km (h : gwS κ st l b0 nq xs pg ch ty cf At mo g ρ lv ov CN NR pp V lo g0 nm tN φ Us i tl Ψ Ls σ ln ct cs s) (k : kMd st l b0 nq xs pg ch ty cf At mo g ρ lv ov Ψ Ls σ E A dn ds R) (hpp : ∀ u v, u < v → v < cnt → pp u < pp v) (hi : i ≤ cnt) : ∃ σ' k Ψ', R = some (some (va_rf (some k)), σ') ∧ kRl st l b0 nq xs Ψ' σ' E k A ∧ gwS κ st l b0 nq xs pg ch ty cf At mo g ρ lv ov CN NR pp V lo g0 nm tN φ Us i tl Ψ' Ls σ' ln ct cs s ∧ gAg σ Ψ Ψ' ∧ Ψ'.2.2.2 = Ψ.2.2.2 ∧ (gKp st l b0 (fun _ => False) σ σ' ∧ shX st σ σ') ∧ gwC xs.length Ls Ls cs cs σ σ' dn ds := by
  obtain ⟨σ', kk, Q', r1, r2, r3, r4, ⟨r5, r6, -⟩, r7⟩ := k
  have ag : gAg σ Ψ (Ψ.1, Ψ.2.1, Q', Ψ.2.2.2) := ⟨fun _ _ => rfl, fun _ _ _ => rfl, r4, fun _ z => z⟩
  exact ⟨σ', kk, _, r1, r2, h.sh r3 r5 r6 ag (fun _ _ z => z) (fun _ z => z) (h.2.2.2.1.2.2.up rfl rfl r6.2.2.2) hpp hi, ag, rfl, ⟨r5, r6⟩, r7.c cs⟩
/-- cells are made -/
theorem gwS.nw {d e : Nat} (h : gwS κ st l b0 nq xs pg ch ty cf At mo g ρ lv ov CN NR pp V lo g0 nm tN φ Us i tl Ψ Ls σ ln ct cs s) (o : oNl σ σ' d e) (N2 : ∀ z f, σ.2.1 ≤ z → σ'.1 z = some (.inr (6, f)) → False) (hpp : ∀ u v, u < v → v < cnt → pp u < pp v) (hi : i ≤ cnt) : gwS κ st l b0 nq xs pg ch ty cf At mo g ρ lv ov CN NR pp V lo g0 nm tN φ Us i tl Ψ Ls σ' ln ct cs s ∧ (gKp st l b0 (fun _ => False) σ σ' ∧ shX st σ σ') ∧ gwC xs.length Ls Ls cs cs σ σ' d e := by
  obtain ⟨t1, c1, k1, s1, e1⟩ := h.2.1.nw (W := fun _ => False) o (fun z f hz e => (N2 z f hz e).elim)
  exact ⟨h.sh t1 k1 s1 (gAg.rf _ _) (fun _ _ z => z) (fun _ z => z) (h.2.2.2.1.2.2.up rfl rfl s1.2.2.2) hpp hi, ⟨k1, s1⟩, c1.c cs⟩
end GWM
