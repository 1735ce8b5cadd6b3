/-! the class's gather(): Scopes, and what must FIT, in cells -/
/-- what a type speaks of was made -/
def mdT (Ψ : kGh) (σ : oSt) (A : gTy) : Prop := ∀ m : gTm, A.1 = .inr m → Ψ.2.2.2 m.1 ∧ ∃ fs, σ.1 (Ψ.2.1 (m.1, m.2.1)) = some (.inr (4, fs))
def mdF (Ψ : kGh) (σ : oSt) (x : gFit) : Prop := mdT Ψ σ x.2.1 ∧ mdT Ψ σ x.2.2 ∧ ∀ p, p ∈ scN x.1 → mdT Ψ σ p.2
section SCR
variable (st : Nat) (l : Nat → Nat) (b0 : Nat) (nq : tQ → Int) (xs : List tQ) (Ψ : kGh) (σ : oSt) (CN : Nat → gCd → Prop)
/-- **a Scope stands for what is known at a place**; Es: which cells stand for its NAMES -/
def scR : List sEn → Option Nat → List gEn → List (gN × Nat) → Prop
  | [], s, sc, Es => s = none ∧ sc = [] ∧ Es = []
  | .inl a :: r, s, sc, Es => ∃ q ou fs bs, (s = some q ∧ σ.1 q = some (.inr (10, [.ref a, va_rf none, .int 0, va_rf ou]))) ∧ (σ.1 a = some (.inr (6, fs)) ∧ fs.length = 8 ∧ fs[3]? = some (.int bs)) ∧ ((isM bs = false ∧ (∃ k A, fs[4]? = some (.ref k) ∧ kRl st l b0 nq xs Ψ σ (fun y b => (y, b) ∈ Es) k A) ∧ scR r ou sc Es) ∨ (isM bs = true ∧ ∃ x A k sc' Es', (sc = .inl (x, A) :: sc' ∧ Es = (x, a) :: Es' ∧ (∀ p, p ∈ Es' → p.2 ≠ a) ∧ ∀ u, x = .inl u → a = Ψ.1 x) ∧ fs[4]? = some (.ref k) ∧ bs = cKd (yK (gSy A)) ∧ kRl st l b0 nq xs Ψ σ (fun y b => (y, b) ∈ Es') k A ∧ scR r ou sc' Es'))
  | .inr (m, h) :: r, s, sc, Es => ∃ q ou c sc', (s = some q ∧ σ.1 q = some (.inr (10, [va_rf none, .ref m, .int (b01 h), va_rf ou]))) ∧ sc = .inr (c, h) :: sc' ∧ CN m c ∧ scR r ou sc' Es
/-- what must FIT, in cells -/
def ftR (Dn : Nat → Prop) (os oa ob : Option Nat) (x : gFit) : Prop := ∃ Sc Es ka kb, oa = some ka ∧ ob = some kb ∧ scR st l b0 nq xs Ψ σ CN Sc os x.1 Es ∧ (∀ a, Sum.inl a ∈ Sc → Dn a) ∧ kRl st l b0 nq xs Ψ σ (fun y b => (y, b) ∈ Es) ka x.2.1 ∧ kRl st l b0 nq xs Ψ σ (fun y b => (y, b) ∈ Es) kb x.2.2 ∧ ∃ m, x.2.2.1 = .inr m
/-- what may be lost -/
def fkp (x : gFit) : Bool := decide (0 < (gFa nq xs x.2.2).length)
/-- **all that must FIT**, in the lists -/
def ftL (Dn : Nat → Prop) (ln : Nat → Nat) (ct : Nat → Nat → Option Nat) (Fs : List gFit) : Prop := (ln 0 = (Fs.filter (fkp nq xs)).length ∧ ln 1 = ln 0 ∧ ln 2 = ln 0) ∧ (∀ (i : Nat) (x : gFit), (Fs.filter (fkp nq xs))[i]? = some x → ftR st l b0 nq xs Ψ σ CN Dn (ct 0 i) (ct 1 i) (ct 2 i) x) ∧ ∀ x, x ∈ Fs → mdF Ψ σ x
end SCR
section SCS
variable {st : Nat} {l : Nat → Nat} {b0 : Nat} {nq : tQ → Int} {xs : List tQ} {Ψ Ψ' : kGh} {σ σ' : oSt} {CN : Nat → gCd → Prop} {W : Nat → Prop} {Dn Dn' : Nat → Prop}
theorem scR.sp (kk : gKp st l b0 W σ σ') (ag : gAg σ Ψ Ψ') (hfr : ∀ q, σ.2.1 ≤ q → σ.1 q = none) : ∀ (Sc : List sEn) (s : Option Nat) (sc : List gEn) (Es : List (gN × Nat)), (∀ a, Sum.inl a ∈ Sc → ¬ W a) → scR st l b0 nq xs Ψ σ CN Sc s sc Es → scR st l b0 nq xs Ψ' σ' CN Sc s sc Es
  | [], s, sc, Es, _, h => h
  | .inl a :: r, s, sc, Es, hW, ⟨q, ou, fs, bs, ⟨h1, h2⟩, ⟨h3, h4, h5⟩, h6⟩ => by
    obtain ⟨fs', n1, n2, n3⟩ := kk.2.1 _ _ h3
    refine ⟨q, ou, fs', bs, ⟨h1, kk.ob h2 (by decide) (by decide) (by decide) (by decide)⟩, ⟨n1, n2.trans h4, (n3 3 (by decide) (fun z => absurd z (by decide))).trans h5⟩, ?_⟩
    rcases h6 with ⟨h6, ⟨k0, A0, h70, h71⟩, h7⟩ | ⟨h6, x, A, k, sc', Es', h7, h8, h9, h10, h11⟩
    · exact Or.inl ⟨h6, ⟨k0, A0, (n3 4 (by decide) (fun _ => hW a (List.mem_cons_self ..))).trans h70, h71.sp kk ag hfr⟩, scR.sp kk ag hfr r ou sc Es (fun b hb => hW b (List.mem_cons_of_mem _ hb)) h7⟩
    · exact Or.inr ⟨h6, x, A, k, sc', Es', ⟨h7.1, h7.2.1, h7.2.2.1, fun u e => (h7.2.2.2 u e).trans (by rw [e]; exact (ag.1 (.inl u) trivial).symm)⟩, (n3 4 (by decide) (fun _ => hW a (List.mem_cons_self ..))).trans h8, h9, h10.sp kk ag hfr, scR.sp kk ag hfr r ou sc' Es' (fun b hb => hW b (List.mem_cons_of_mem _ hb)) h11⟩
  | .inr (m, h) :: r, s, sc, Es, hW, ⟨q, ou, c, sc', ⟨h1, h2⟩, h3, h4, h5⟩ => ⟨q, ou, c, sc', ⟨h1, kk.ob h2 (by decide) (by decide) (by decide) (by decide)⟩, h3, h4, scR.sp kk ag hfr r ou sc' Es (fun b hb => hW b (List.mem_cons_of_mem _ hb)) h5⟩
theorem scR.nm : ∀ (Sc : List sEn) (s : Option Nat) (sc : List gEn) (Es : List (gN × Nat)), scR st l b0 nq xs Ψ σ CN Sc s sc Es → nmS sc = Es.map Prod.fst
  | [], s, sc, Es, ⟨_, h2, h3⟩ => by rw [h2, h3]; rfl
  | .inl a :: r, s, sc, Es, ⟨q, ou, fs, bs, _, _, h6⟩ => by
    rcases h6 with ⟨h6, -, h7⟩ | ⟨h6, x, A, k, sc', Es', ⟨h7, h7', -⟩, h8, h9, h10, h11⟩
    · exact scR.nm r ou sc Es h7
    · rw [h7, h7', List.map_cons, ← scR.nm r ou sc' Es' h11]; rfl
  | .inr (m, h) :: r, s, sc, Es, ⟨q, ou, c, sc', ⟨h1, h2⟩, h3, h4, h5⟩ => by
    rw [h3, ← scR.nm r ou sc' Es h5]; rfl
/-- the Scope's own object -/
theorem scR.oe : ∀ (Sc : List sEn) (s : Option Nat) (sc : List gEn) (Es : List (gN × Nat)), scR st l b0 nq xs Ψ σ CN Sc s sc Es → ∀ p, p ∈ Es → ∃ fs, σ.1 p.2 = some (.inr (6, fs))
  | [], s, sc, Es, ⟨_, h2, h3⟩, p, hp => by rw [h3] at hp; cases hp
  | .inl a :: r, s, sc, Es, ⟨q, ou, fs, bs, _, ⟨h4, _⟩, h6⟩, p, hp => by
    rcases h6 with ⟨h6, -, h7⟩ | ⟨h6, x, A, k, sc', Es', ⟨h7, h7', -⟩, h8, h9, h10, h11⟩
    · exact scR.oe r ou sc Es h7 p hp
    · rw [h7'] at hp
      rcases List.mem_cons.mp hp with z | z
      · rw [z]; exact ⟨fs, h4⟩
      · exact scR.oe r ou sc' Es' h11 p z
  | .inr (m, h) :: r, s, sc, Es, ⟨q, ou, c, sc', ⟨h1, h2⟩, h3, h4, h5⟩, p, hp => scR.oe r ou sc' Es h5 p hp
/-- a Scope's NAMES have cells of their own -/
theorem scR.nd : ∀ (Sc : List sEn) (s : Option Nat) (sc : List gEn) (Es : List (gN × Nat)), scR st l b0 nq xs Ψ σ CN Sc s sc Es → (Es.map Prod.snd).Nodup
  | [], s, sc, Es, ⟨_, h2, h3⟩ => by rw [h3]; exact List.nodup_nil
  | .inl a :: r, s, sc, Es, ⟨q, ou, fs, bs, _, _, h6⟩ => by
    rcases h6 with ⟨h6, -, h7⟩ | ⟨h6, x, A, k, sc', Es', ⟨h7, h7', h7'', -⟩, h8, h9, h10, h11⟩
    · exact scR.nd r ou sc Es h7
    · rw [h7', List.map_cons]
      refine List.nodup_cons.mpr ⟨fun z => ?_, scR.nd r ou sc' Es' h11⟩
      obtain ⟨p, p1, p2⟩ := List.mem_map.mp z
      exact h7'' p p1 p2
  | .inr (m, h) :: r, s, sc, Es, ⟨q, ou, c, sc', ⟨h1, h2⟩, h3, h4, h5⟩ => scR.nd r ou sc' Es h5
/-- a told NAME is in its own cell -/
theorem scR.to : ∀ (Sc : List sEn) (s : Option Nat) (sc : List gEn) (Es : List (gN × Nat)), scR st l b0 nq xs Ψ σ CN Sc s sc Es → ∀ p, p ∈ Es → ∀ u, p.1 = .inl u → p.2 = Ψ.1 p.1
  | [], s, sc, Es, ⟨_, h2, h3⟩, p, hp => by rw [h3] at hp; cases hp
  | .inl a :: r, s, sc, Es, ⟨q, ou, fs, bs, _, ⟨h4, _⟩, h6⟩, p, hp => by
    rcases h6 with ⟨h6, -, h7⟩ | ⟨h6, x, A, k, sc', Es', ⟨h7, h7', -, h7t⟩, h8, h9, h10, h11⟩
    · exact scR.to r ou sc Es h7 p hp
    · rw [h7'] at hp
      rcases List.mem_cons.mp hp with z | z
      · rw [z]; exact h7t
      · exact scR.to r ou sc' Es' h11 p z
  | .inr (m, h) :: r, s, sc, Es, ⟨q, ou, c, sc', ⟨h1, h2⟩, h3, h4, h5⟩, p, hp => scR.to r ou sc' Es h5 p hp
theorem scR.ob : ∀ (Sc : List sEn) (s : Option Nat) (sc : List gEn) (Es : List (gN × Nat)), scR st l b0 nq xs Ψ σ CN Sc s sc Es → ∀ b, s = some b → ∃ fs, σ.1 b = some (.inr (10, fs))
  | [], s, sc, Es, ⟨h1, h2, h3⟩, b, e => by rw [h1] at e; cases e
  | .inl a :: r, s, sc, Es, ⟨q, ou, fs, bs, ⟨h1, h2⟩, _, h6⟩, b, e => by
    rw [h1] at e
    injection e with e
    rw [← e]
    exact ⟨_, h2⟩
  | .inr (m, h) :: r, s, sc, Es, ⟨q, ou, c, sc', ⟨h1, h2⟩, h3, h4, h5⟩, b, e => by
    rw [h1] at e
    injection e with e
    rw [← e]
    exact ⟨_, h2⟩
theorem mdT.sp {A : gTy} (kk : gKp st l b0 W σ σ') (ag : gAg σ Ψ Ψ') (h : mdT Ψ σ A) : mdT Ψ' σ' A := fun m e => by
  obtain ⟨h1, fs, h2⟩ := h m e
  exact ⟨ag.2.2.2 _ h1, fs, by rw [ag.2.1 _ _ h1]; exact kk.ob h2 (by decide) (by decide) (by decide) (by decide)⟩
theorem mdF.sp {x : gFit} (kk : gKp st l b0 W σ σ') (ag : gAg σ Ψ Ψ') (h : mdF Ψ σ x) : mdF Ψ' σ' x := ⟨h.1.sp kk ag, h.2.1.sp kk ag, fun p hp => (h.2.2 p hp).sp kk ag⟩
theorem kRl.mT {E : gN → Nat → Prop} {k : Nat} {A : gTy} (h : kRl st l b0 nq xs Ψ σ E k A) : mdT Ψ σ A := fun m e => by
  unfold kRl at h
  rw [e] at h
  obtain ⟨⟨h1, -⟩, h2, -⟩ := h
  refine ⟨h1, ?_⟩
  have h4 : ∃ kd G', kGq st l b0 Ψ.2.2.1 σ (Ψ.2.1 (m.1, m.2.1)) (Ψ.2.1 (m.1, m.2.1)) kd G' := by
    cases q : m.2.2.1 with
    | leaf =>
      rw [q] at h2
      exact ⟨_, _, h2.1⟩
    | inner kk u1 u2 a b =>
      rw [q] at h2
      exact ⟨_, _, h2.1⟩
  obtain ⟨kd, G', fs, gn, ins, f1, -⟩ := h4
  exact ⟨fs, f1⟩
theorem scR.mT : ∀ (Sc : List sEn) (s : Option Nat) (sc : List gEn) (Es : List (gN × Nat)), scR st l b0 nq xs Ψ σ CN Sc s sc Es → ∀ p, p ∈ scN sc → mdT Ψ σ p.2
  | [], s, sc, Es, ⟨_, h2, _⟩, p, hp => by rw [h2] at hp; cases hp
  | .inl a :: r, s, sc, Es, ⟨q, ou, fs, bs, _, _, h6⟩, p, hp => by
    rcases h6 with ⟨-, -, h7⟩ | ⟨-, x, A, k, sc', Es', ⟨h7, -⟩, -, -, h10, h11⟩
    · exact scR.mT r ou sc Es h7 p hp
    · rw [h7] at hp
      have hp : p ∈ (x, A) :: scN sc' := hp
      rcases List.mem_cons.mp hp with w | w
      · rw [w]; exact h10.mT
      · exact scR.mT r ou sc' Es' h11 p w
  | .inr (m, h) :: r, s, sc, Es, ⟨q, ou, c, sc', _, h3, _, h5⟩, p, hp => by
    rw [h3] at hp
    exact scR.mT r ou sc' Es h5 p hp
theorem ftR.sp {os oa ob : Option Nat} {x : gFit} (kk : gKp st l b0 W σ σ') (ag : gAg σ Ψ Ψ') (hfr : ∀ q, σ.2.1 ≤ q → σ.1 q = none) (hW : ∀ a, Dn a → ¬ W a) (hD : ∀ a, Dn a → Dn' a) (h : ftR st l b0 nq xs Ψ σ CN Dn os oa ob x) : ftR st l b0 nq xs Ψ' σ' CN Dn' os oa ob x := by
  obtain ⟨Sc, Es, ka, kb, h1, h2, h3, h4, h5, h6, h7⟩ := h
  exact ⟨Sc, Es, ka, kb, h1, h2, h3.sp kk ag hfr Sc os x.1 Es (fun a ha => hW a (h4 a ha)), fun a ha => hD a (h4 a ha), h5.sp kk ag hfr, h6.sp kk ag hfr, h7⟩
theorem ftL.sp {ln : Nat → Nat} {ct : Nat → Nat → Option Nat} {Fs : List gFit} (kk : gKp st l b0 W σ σ') (ag : gAg σ Ψ Ψ') (hfr : ∀ q, σ.2.1 ≤ q → σ.1 q = none) (hW : ∀ a, Dn a → ¬ W a) (hD : ∀ a, Dn a → Dn' a) (h : ftL st l b0 nq xs Ψ σ CN Dn ln ct Fs) : ftL st l b0 nq xs Ψ' σ' CN Dn' ln ct Fs := ⟨h.1, fun i x e => (h.2.1 i x e).sp kk ag hfr hW hD, fun x hx => (h.2.2 x hx).sp kk ag⟩
/-- kinds are those of the document -/
def yW : tY → Prop
  | .leaf => False
  | .inner k _ _ a b => if k = 0 then yW a ∧ yW b else k ≤ 4
theorem isM_g {y : tY} (h : yW y) : isM (cKd (yK y)) = gMs y := by
  match y, h with
  | .inner k _ _ a b, h =>
    have k4 : k ≤ 4 := by
      unfold yW at h
      split at h
      · omega
      · exact h
    unfold gMs
    show isM (cKd (k + 1)) = (k + 1 == 2 || k + 1 == 4 || k + 1 == 5)
    rcases (by omega : k = 0 ∨ k = 1 ∨ k = 2 ∨ k = 3 ∨ k = 4) with z | z | z | z | z <;> subst z <;> decide
theorem cKd_206 {y : tY} (h : yW y) : cKd (yK y) = 206 ↔ yK y = 1 := by
  match y, h with
  | .inner k _ _ a b, h =>
    have k4 : k ≤ 4 := by
      unfold yW at h
      split at h
      · omega
      · exact h
    show cKd (k + 1) = 206 ↔ k + 1 = 1
    rcases (by omega : k = 0 ∨ k = 1 ∨ k = 2 ∨ k = 3 ∨ k = 4) with z | z | z | z | z <;> subst z <;> decide
theorem cKd_202 {y : tY} (h : yW y) : cKd (yK y) = 202 ↔ yK y = 3 := by
  match y, h with
  | .inner k _ _ a b, h =>
    have k4 : k ≤ 4 := by
      unfold yW at h
      split at h
      · omega
      · exact h
    show cKd (k + 1) = 202 ↔ k + 1 = 3
    rcases (by omega : k = 0 ∨ k = 1 ∨ k = 2 ∨ k = 3 ∨ k = 4) with z | z | z | z | z <;> subst z <;> decide
/-- types that the class found -/
theorem yTf.w {y : Nat} {A : Nat → Nat} {mo : Nat} {g : gG} {ρ : Nat → tY} {lv ov : Int32} (h : yTf y A mo g ρ lv ov σ) : ∀ (k c : Nat), yH (ρ c) ≤ k → c < g.n → yW (ρ c)
  | k, c, hk, hc => by
    obtain ⟨F, h1, ⟨⟨c1, c2, c3⟩, -⟩, h2, h3, -⟩ := id h
    have r := gR_lt h2.1 hc
    rcases h3.at h2 hc with ⟨e1, e2, e3, e4⟩ | ⟨e1, e2⟩
    · have hh : yH (ρ (g.L (gR g c))) < yH (ρ c) ∧ yH (ρ (g.R (gR g c))) < yH (ρ c) := by
        rw [e2]
        show _ < max _ _ + 1 ∧ _ < max _ _ + 1
        omega
      match k, hk with
      | 0, hk => omega
      | k + 1, hk =>
        rw [e2]
        show if 0 = 0 then _ else _
        rw [if_pos rfl]
        exact ⟨yTf.w h k _ (by omega) e3, yTf.w h k _ (by omega) e4⟩
    · rw [e2]
      have k5 : g.K (gR g c) ≤ 5 := by
        by_cases z : gR g c < 4
        · rw [c2 _ z]; omega
        · have := c3 _ (by omega) r; omega
      show if g.K (gR g c) - 2 + 1 = 0 then _ else g.K (gR g c) - 2 + 1 ≤ 4
      rw [if_neg (by omega)]
      omega
end SCS
