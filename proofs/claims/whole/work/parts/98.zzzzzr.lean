/-! the reference's typer: new types, the contract of typeOf -/
section GTN
variable {g : gG} {T : Nat → mF} {s s1 : mS} {ρ : Nat → tY}
theorem gS_nw0 {k l r : Nat} : gS (gNw g k l r) ρ ↔ gS g ρ ∧ (k = 1 → ρ g.n = yA (ρ l) (ρ r)) ∧ (∀ j, k = j + 2 → ρ g.n = yB j) := by
  have low : ∀ t, t < g.n → (gNw g k l r).K t = g.K t ∧ (gNw g k l r).L t = g.L t ∧ (gNw g k l r).R t = g.R t ∧ (gNw g k l r).S t = g.S t := fun t ht => ⟨un_ne _ _ (by omega), un_ne _ _ (by omega), un_ne _ _ (by omega), un_ne _ _ (by omega)⟩
  have hi : (gNw g k l r).K g.n = k ∧ (gNw g k l r).L g.n = l ∧ (gNw g k l r).R g.n = r ∧ (gNw g k l r).S g.n = g.n := ⟨un_at _ _ _, un_at _ _ _, un_at _ _ _, un_at _ _ _⟩
  refine ⟨fun H => ⟨fun t ht => ?_, ?_⟩, fun H t ht => ?_⟩
  · have := H t (show t < g.n + 1 by omega)
    obtain ⟨l1, l2, l3, l4⟩ := low t ht
    rw [l1, l2, l3, l4] at this
    exact this
  · have := H g.n (show g.n < g.n + 1 by omega)
    rw [hi.1, hi.2.1, hi.2.2.1, hi.2.2.2] at this
    exact this.2
  · by_cases c : t = g.n
    · subst c
      rw [hi.1, hi.2.1, hi.2.2.1, hi.2.2.2]
      exact ⟨rfl, H.2⟩
    · have ht' : t < g.n := by have : t < g.n + 1 := ht; omega
      obtain ⟨l1, l2, l3, l4⟩ := low t ht'
      rw [l1, l2, l3, l4]
      exact H.1 t ht'
theorem gS_lo (hK : gK g) {ρ ρ' : Nat → tY} (e : ∀ c, c < g.n → ρ c = ρ' c) (z : gS g ρ) : gS g ρ' := fun t ht => by
  obtain ⟨a1, a2, a3⟩ := z t ht
  have hs : g.S t < g.n := by obtain ⟨d, hd⟩ := hK.1; exact (hd t ht).1
  refine ⟨by rw [← e t ht, ← e _ hs]; exact a1, fun k => ?_, fun k e2 => by rw [← e t ht]; exact a3 k e2⟩
  have hl := (hK.2 t ht).1 k
  rw [← e t ht, ← e _ hl.1, ← e _ hl.2]
  exact a2 k
/-- a new plain one -/
theorem gT.pla (h : gT g T s) (hK : gK g) (k : Nat) : gT (gNw g (k + 2) 0 0) (mUp T g.n (mB k)) s := by
  obtain ⟨h1, h2, h3⟩ := h
  have low : ∀ c, c < g.n → mUp T g.n (mB k) c = T c := fun c hc => mUp_ne _ _ (by omega)
  refine ⟨fun α hα => gS_nw0.mpr ⟨gS_lo hK (fun c hc => by rw [low c hc]) (h1 α hα), fun z => absurd z (by omega), fun j z => ?_⟩, fun ρ hρ => ?_, fun α α' e => ?_⟩
  · have e : j = k := by omega
    rw [e]
    show mUp T g.n (mB k) g.n α = yB k
    rw [mUp_at]
    rfl
  · obtain ⟨q1, -, q3⟩ := gS_nw0.mp hρ
    obtain ⟨α, q4, q5⟩ := h2 ρ q1
    refine ⟨α, q4, fun c hc => ?_⟩
    have hc : c < g.n + 1 := hc
    by_cases e : c = g.n
    · rw [e, mUp_at]; exact q3 k rfl
    · rw [low c (by omega)]; exact q5 c (by omega)
  · refine ⟨(h3 α α' e).1, fun c hc => ?_⟩
    have hc : c < g.n + 1 := hc
    by_cases q : c = g.n
    · rw [q, mUp_at]; rfl
    · rw [low c (by omega)]; exact (h3 α α' e).2 c (by omega)
/-- a new free one -/
theorem gT.fre (h : gT g T s) (hK : gK g) : gT (gNw g 0 0 0) (mUp T g.n (mV s.2.1)) (mFr 1 s) := by
  obtain ⟨h1, h2, h3⟩ := h
  have low : ∀ c, c < g.n → mUp T g.n (mV s.2.1) c = T c := fun c hc => mUp_ne _ _ (by omega)
  refine ⟨fun α hα => gS_nw0.mpr ⟨gS_lo hK (fun c hc => by rw [low c hc]) (h1 α hα), fun z => (by cases z), fun j z => absurd z (by omega)⟩, fun ρ hρ => ?_, fun α α' e => ?_⟩
  · obtain ⟨q1, -, -⟩ := gS_nw0.mp hρ
    obtain ⟨α, q2, q3⟩ := h2 ρ q1
    have ag : ∀ i, i < s.2.1 → α i = (fun i => if i = s.2.1 then ρ g.n else α i) i := fun i hi => (if_neg (by omega)).symm
    refine ⟨fun i => if i = s.2.1 then ρ g.n else α i, ((h3 _ _ ag).1).mp q2, fun c hc => ?_⟩
    have hc : c < g.n + 1 := hc
    by_cases e : c = g.n
    · rw [e, mUp_at]; exact (if_pos rfl).symm
    · rw [low c (by omega), q3 c (by omega)]
      exact (h3 _ _ ag).2 c (by omega)
  · have e' : ∀ i, i < s.2.1 → α i = α' i := fun i hi => e i (by show i < s.2.1 + 1; omega)
    refine ⟨(h3 α α' e').1, fun c hc => ?_⟩
    have hc : c < g.n + 1 := hc
    by_cases q : c = g.n
    · rw [q, mUp_at]; exact e s.2.1 (by show s.2.1 < s.2.1 + 1; omega)
    · rw [low c (by omega)]; exact (h3 α α' e').2 c (by omega)
/-- the free ones from k on may be numbered otherwise -/
theorem gT.perm {k : Nat} (h : gT g T s) (π : Nat → Nat) (hp : ∀ i, π (π i) = i) (hf : ∀ i, i < k → π i = i) (hr : ∀ i, i < s.2.1 → π i < s.2.1) (hl : ∀ α α' : Nat → tY, (∀ i, i < k → α i = α' i) → (mAll s.1 α ↔ mAll s.1 α')) : gT g (fun c α => T c (fun i => α (π i))) s := by
  obtain ⟨h1, h2, h3⟩ := h
  have ag : ∀ α : Nat → tY, mAll s.1 α ↔ mAll s.1 (fun i => α (π i)) := fun α => hl _ _ (fun i hi => by show α i = α (π i); rw [hf i hi])
  refine ⟨fun α hα => h1 _ ((ag α).mp hα), fun ρ hρ => ?_, fun α α' e => ⟨(h3 α α' e).1, fun c hc => (h3 _ _ (fun i hi => e _ (hr i hi))).2 c hc⟩⟩
  obtain ⟨α, q1, q2⟩ := h2 ρ hρ
  refine ⟨fun i => α (π i), (ag α).mp q1, fun c hc => ?_⟩
  rw [q2 c hc]
  show T c α = T c (fun i => α (π (π i)))
  rw [show (fun i => α (π (π i))) = α from funext fun i => by rw [hp i]]
end GTN
/-- types that the reference makes of it, at most -/
def tC : tT → Nat
  | .leaf => 0
  | .inner g d _ a b =>
    if g = 1 ∨ g = 16 ∨ g = 31 ∨ g = 34 then tC a + tC b
    else if g = 2 then 2 * d.2.1 + 1 + tC a + tC b
    else if g = 3 then 2 + tC a + tC b
    else if g = 4 ∨ g = 5 then (cEv a).length + tC b
    else if g = 15 then 3 * tQn a + tC a
    else if g = 19 then 3 + tC a + tC b
    else if g = 33 ∨ g = 35 then (sEv d.2.2.2.1.2).length + 1 + tC b
    else (sEv d.2.2.2.1.2).length + (sEv d.2.2.2.2.2).length + 2 + tC a + tC b
/-- functions among them -/
def tA : tT → Nat
  | .leaf => 0
  | .inner g d _ a b => (if g = 2 then d.2.1 else if g = 3 then 1 else if g = 15 then tQn a else 0) + (if g = 4 ∨ g = 5 then 0 else tA a) + tA b
/-- how deep the reference goes within -/
def tDr : tT → Nat
  | .leaf => 0
  | .inner g _ _ a b => if g = 31 ∨ g = 33 ∨ g = 34 ∨ g = 35 then max (tDr a) (tDr b) else if g = 4 ∨ g = 5 then max (kD a) (tDr b) + 3 else max (tDr a) (tDr b) + 3
/-- what typeOf or typed gives -/
def rRes (k0 : Nat) (Z : List (Nat × Nat)) (L : List Nat) (env : List Nat) (W : List Nat) (τ : zSt) (g : gG) (T : Nat → mF) (c am B : Nat) (r : mS × mF) (v : Int32) (τ' : zSt) : Prop := ∃ g' T' c', rXE k0 L env τ' r.1 g' T' c' am ∧ c' ≤ c + B ∧ tFm τ τ' ∧ xE g T g' T' ∧ (mSat r.1.1 → ∃ x, v = nI x ∧ gY g' T' r.1 x r.2) ∧ (∀ u, u ∈ W → dY L τ' g' T' r.1 u) ∧ (∀ j, (∀ u, u ∈ W → L[j]? ≠ some u) → τ'.2.2.1 31 j = τ.2.2.1 31 j) ∧ nZ Z τ τ' g' T' r.1
/-- what stands fast while the reference finds types -/
def rH (Tt len cnt lo N S P A : Nat) (L : List Nat) (V : zSt) (kk pp ee f : Nat → Int32) : Prop := (9010 ≤ Tt ∧ N ≤ 2100 ∧ S ≤ 2100 ∧ P ≤ 2100 ∧ A ≤ 2100) ∧ rW V Tt len cnt kk pp ee f ∧ L.length ≤ 700 ∧ L.Nodup
/-- the tree t at node m, read within env -/
def rTe (cnt lo N S P A : Nat) (L : List Nat) (V : zSt) (kk pp ee f : Nat → Int32) (t : tT) (env : List Nat) (m : Nat) : Prop := rTr pp V lo N S P A t 0 0 m ∧ tWf kk cnt t 0 ∧ tO3 t ∧ rWo f pp ee (V.2.2.1 32) L t env ∧ (∀ u, u ∈ env → u ∉ tEv t) ∧ (tEv t).Nodup ∧ nPw (nE V t 0 m)
/-- the contract of typed() (51) -/
def rTyp (ks : Nat → Nat) (qs : List Nat) (Tt h0 k0 cnt lo N S P A aM : Nat) (L : List Nat) (V : zSt) (kk pp ee f : Nat → Int32) (t : tT) : Prop := ∀ env τ s g T c am m n, rTe cnt lo N S P A L V kk pp ee f t env m → tFm V τ → rXE k0 L env τ s g T c am → mSat s.1 → c + tC t ≤ 9000 → am + tA t ≤ aM → aM + 7 + tDr t ≤ n → ∃ τ' v, zF h0 qs ks Tt n 51 [.ref h0, .int (nI m)] τ = some (some (.int v), τ') ∧ rRes k0 (nE V t 0 m).tail L env (tW t) τ g T c (am + tA t) (tC t) (mE f pp ee t env s) v τ'
/-- the contract of typeOf() (49) -/
def rInf (ks : Nat → Nat) (qs : List Nat) (Tt h0 k0 cnt lo N S P A aM : Nat) (L : List Nat) (V : zSt) (kk pp ee f : Nat → Int32) (t : tT) : Prop := ∀ env τ s g T c am m n, rTe cnt lo N S P A L V kk pp ee f t env m → tFm V τ → rXE k0 L env τ s g T c am → c + tC t ≤ 9000 → am + tA t ≤ aM → aM + 8 + tDr t ≤ n → ∃ τ' v, zF h0 qs ks Tt n 49 [.ref h0, .int (nI m)] τ = some (some (.int v), τ') ∧ rRes k0 (nE V t 0 m) L env (tW t) τ g T c (am + tA t) (tC t) (mE f pp ee t env s) v τ'
section RTO
variable {ks : Nat → Nat} {qs : List Nat} {Tt h0 k0 len cnt lo N S P A aM c am am' : Nat} {Z : List (Nat × Nat)} {L env W : List Nat} {V τ : zSt} {s s' : mS} {g : gG} {T : Nat → mF} {kk pp ee f : Nat → Int32} {t : tT}
theorem rX.mo (h : rX k0 τ s g T c am) (ha : am ≤ am') : rX k0 τ s g T c am' := by
  obtain ⟨h0, h⟩ := h
  refine ⟨h0, ?_⟩
  rcases h with ⟨h1, h2, h3, h4, h5⟩ | h
  · exact Or.inl ⟨h1, h2, h3, by omega, h5⟩
  · exact Or.inr h
theorem rXE.mo (h : rXE k0 L env τ s g T c am) (ha : am ≤ am') : rXE k0 L env τ s g T c am' := ⟨h.1.mo ha, h.2⟩
/-- behind a fault nothing changes -/
theorem rX.no (h : rX k0 τ s g T c am) (hs : ¬ mSat s.1) (hl : mLe W s s') : rX k0 τ s' g T c am := by
  obtain ⟨h0, h⟩ := h
  rcases h with ⟨h1, -⟩ | ⟨pl, h1, h2⟩
  · exact absurd h1 hs
  · exact ⟨h0, Or.inr ⟨pl, h1.noS hl, h2⟩⟩
theorem dY.no {u : Nat} (hs : ¬ mSat s.1) : dY L τ g T s u := fun _ _ z => absurd z hs
theorem mLe.ns (h : mLe W s s') (hs : ¬ mSat s.1) : ¬ mSat s'.1 := fun z => hs (h.sat z)
/-- nothing was done, behind a fault -/
theorem rRes.no {B : Nat} {r : mS × mF} {v : Int32} (h : rXE k0 L env τ s g T c am) (hs : ¬ mSat s.1) (hl : mLe W s r.1) (ha : am ≤ am') : rRes k0 Z L env W τ g T c am' B r v τ :=
  ⟨g, T, c, ⟨(h.1.no hs hl).mo ha, fun _ _ => dY.no (hl.ns hs)⟩, Nat.le_add_right _ _, tFm.rf τ, xE.rf g T, fun z => absurd z (hl.ns hs), fun _ _ => dY.no (hl.ns hs), fun _ _ => rfl, nZ.no (hl.ns hs)⟩
/-- row 39 is not spoken of -/
theorem rX.r39 (h : rX k0 τ s g T c am) (r : Nat → Int32) : rX k0 (zA τ 39 r) s g T c am := by
  obtain ⟨h0, h⟩ := h
  refine ⟨h0, ?_⟩
  rcases h with ⟨h1, h2, h3, h4, k, h5, h6⟩ | h
  · refine Or.inl ⟨h1, h2, h3, h4, k, ?_, h6⟩
    exact h5
  · exact Or.inr h
/-- typeOf() by typed() -/
theorem r_49 (H : rH Tt len cnt lo N S P A L V kk pp ee f) (hm : ∀ env m, rTe cnt lo N S P A L V kk pp ee f t env m → m < 2100) (h : rTyp ks qs Tt h0 k0 cnt lo N S P A aM L V kk pp ee f t) : rInf ks qs Tt h0 k0 cnt lo N S P A aM L V kk pp ee f t := fun env τ s g T c am m n ht fm hx hc ha hn => by
  obtain ⟨n, rfl⟩ : ∃ n', n = n' + 1 := ⟨n - 1, by omega⟩
  have hm := hm env m ht
  rw [zE_typeOf]
  unfold b_typeOf
  by_cases hs : mSat s.1
  · rw [if_pos (hx.1.bad.mp hs)]
    obtain ⟨τ', v, e1, g', T', c', q1, q2, q3, q4, q5, q6, q7, q8⟩ := h env τ s g T c am m n ht fm hx hs hc ha (by omega)
    simp only [e1, zci, zgd, zin_n hm (by decide), if_true, zlet, nI_clamp (show m < 2 ^ 31 by omega)]
    refine ⟨_, v, rfl, g', T', c', ⟨q1.1.r39 _, q1.2⟩, q2, q3.tr ⟨fun _ _ _ _ _ => rfl, rfl, fun k hk => zAn _ _ (by omega), rfl, fnK.sm rfl rfl rfl rfl⟩, q4, q5, q6, q7, ?_⟩
    have ec := nE_cons (V := V) ht.2.1 0 m
    have pw := ht.2.2.2.2.2.2
    rw [ec] at pw ⊢
    obtain ⟨-, pw⟩ := nPw1 pw
    refine ⟨fun p hp y => ?_, fun j hj => ?_⟩
    · rcases List.mem_cons.mp hp with rfl | hp
      · obtain ⟨x, x1, x2⟩ := q5 y
        exact ⟨x, (upd_at _ _ _).trans x1, by rw [mE_et ht.2.1]; exact x2⟩
      · obtain ⟨x, x1, x2⟩ := q8.1 p hp y
        exact ⟨x, (upd_ne _ _ (pw p hp).1).trans x1, x2⟩
    · exact (upd_ne _ _ (fun e => hj _ (List.mem_cons_self ..) e.symm)).trans (q8.2 j (fun p hp => hj p (List.mem_cons_of_mem _ hp)))
  · rw [if_neg (fun z => hs (hx.1.bad.mpr z))]
    exact ⟨τ, 0, rfl, rRes.no hx hs (mLe.e t env s) (by omega)⟩
end RTO
