/-! the class's infer: a call's NAME becomes a function -/
section GOP
variable {g : gG} {T : Nat → mF} {s : mS} {r : Nat} {t : mF} {pl : Int32}
theorem gT.imp (h : gT g T s) {P : (Nat → tY) → Prop} (hP : ∀ α, mAll s.1 α → P α) : gT g T (mAdd P pl s) := by
  have key : ∀ α, mAll (mAdd P pl s).1 α ↔ mAll s.1 α := fun α => by
    show mAll (s.1 ++ [_]) α ↔ _
    rw [mAll_ap, mAll_one]
    exact ⟨fun z => z.1, fun z => ⟨z, hP α z⟩⟩
  refine ⟨fun α hα => h.1 α ((key α).mp hα), fun ρ hρ => ?_, fun α α' e => ?_⟩
  · obtain ⟨α, q1, q2⟩ := h.2.1 ρ hρ
    exact ⟨α, (key α).mpr q1, q2⟩
  · rw [key, key]
    exact h.2.2 α α' e
/-- a free end becomes a function of two new ones -/
def gOp (g : gG) (r : Nat) : gG := gLk (gNw (gNw (gNw g 0 0 0) 0 0 0) 1 g.n (g.n + 1)) r (g.n + 2)
def tOp (g : gG) (T : Nat → mF) (r : Nat) : Nat → mF := mUp (mUp (mUp T g.n (fun α => yL (T r α))) (g.n + 1) (fun α => yR (T r α))) (g.n + 2) (T r)
theorem gOp_K (hK : gK g) (hC : gC g) (hr : r < g.n) (hs : g.S r = r) (hk : g.K r = 0) : gK (gNw (gNw (gNw g 0 0 0) 0 0 0) 1 g.n (g.n + 1)) ∧ gC (gNw (gNw (gNw g 0 0 0) 0 0 0) 1 g.n (g.n + 1)) ∧ gK (gOp g r) ∧ gC (gOp g r) ∧ (gOp g r).n = g.n + 3 := by
  have k1 := hK.nw (k := 0) (l := 0) (r := 0) (fun z => by cases z)
  have c1 := gC.nw hK hC (k := 0) (l := 0) (r := 0) (fun z => by cases z)
  have k2 := k1.nw (k := 0) (l := 0) (r := 0) (fun z => by cases z)
  have c2 := gC.nw k1 c1 (k := 0) (l := 0) (r := 0) (fun z => by cases z)
  have n2 : (gNw (gNw g 0 0 0) 0 0 0).n = g.n + 2 := rfl
  have k3 := k2.nw (k := 1) (l := g.n) (r := g.n + 1) (fun _ => ⟨by rw [n2]; omega, by rw [n2]; omega⟩)
  have c3 := gC.nw k2 c2 (k := 1) (l := g.n) (r := g.n + 1) (fun _ => ⟨by rw [n2]; omega, by rw [n2]; omega⟩)
  have S3 : ∀ x, x < g.n → (gNw (gNw (gNw g 0 0 0) 0 0 0) 1 g.n (g.n + 1)).S x = g.S x := fun x hx => by
    show un (un (un g.S g.n g.n) (g.n + 1) (g.n + 1)) (g.n + 2) (g.n + 2) x = _
    rw [un_ne _ _ (by omega), un_ne _ _ (by omega), un_ne _ _ (by omega)]
  have K3 : ∀ x, x < g.n → (gNw (gNw (gNw g 0 0 0) 0 0 0) 1 g.n (g.n + 1)).K x = g.K x := fun x hx => by
    show un (un (un g.K g.n 0) (g.n + 1) 0) (g.n + 2) 1 x = _
    rw [un_ne _ _ (by omega), un_ne _ _ (by omega), un_ne _ _ (by omega)]
  have Sf : (gNw (gNw (gNw g 0 0 0) 0 0 0) 1 g.n (g.n + 1)).S (g.n + 2) = g.n + 2 := un_at _ _ _
  have rs : (gNw (gNw (gNw g 0 0 0) 0 0 0) 1 g.n (g.n + 1)).S r = r := (S3 r hr).trans hs
  have rk : (gNw (gNw (gNw g 0 0 0) 0 0 0) 1 g.n (g.n + 1)).K r = 0 := (K3 r hr).trans hk
  have rn : r < (gNw (gNw (gNw g 0 0 0) 0 0 0) 1 g.n (g.n + 1)).n := by show r < g.n + 3; omega
  have fn : g.n + 2 < (gNw (gNw (gNw g 0 0 0) 0 0 0) 1 g.n (g.n + 1)).n := by show g.n + 2 < g.n + 3; omega
  exact ⟨k3, c3, k3.lk rs rn fn Sf (by omega) (Or.inl rk), gLk_C k3 c3 rs rn fn Sf (by omega) (Or.inl rk) (fun z => by rw [rk] at z; cases z), rfl⟩
theorem gOp_S (hK : gK g) (hr : r < g.n) (hs : g.S r = r) {ρ : Nat → tY} : gS (gOp g r) ρ ↔ gS g ρ ∧ ρ r = yA (ρ g.n) (ρ (g.n + 1)) ∧ ρ (g.n + 2) = ρ r := by
  have h0 : 0 < g.n := by omega
  have k1 := hK.nw (k := 0) (l := 0) (r := 0) (fun z => by cases z)
  have k2 := k1.nw (k := 0) (l := 0) (r := 0) (fun z => by cases z)
  have S3 : (gNw (gNw (gNw g 0 0 0) 0 0 0) 1 g.n (g.n + 1)).S r = r := by
    show un (un (un g.S g.n g.n) (g.n + 1) (g.n + 1)) (g.n + 2) (g.n + 2) r = _
    rw [un_ne _ _ (by omega), un_ne _ _ (by omega), un_ne _ _ (by omega)]
    exact hs
  unfold gOp
  rw [gS_lk S3 (show r < g.n + 3 by omega), gS_nw k2 (show g.n < g.n + 2 by omega) (show g.n + 1 < g.n + 2 by omega), gS_nw k1 (show 0 < g.n + 1 by omega) (show 0 < g.n + 1 by omega), gS_nw hK h0 h0]
  have nn : (gNw (gNw g 0 0 0) 0 0 0).n = g.n + 2 := rfl
  rw [nn]
  refine ⟨fun z => ?_, fun z => ?_⟩
  · obtain ⟨⟨⟨⟨z1, -⟩, -⟩, z2, -⟩, z3⟩ := z
    exact ⟨z1, z3.trans (z2 rfl), z3.symm⟩
  · obtain ⟨z1, z2, z3⟩ := z
    exact ⟨⟨⟨⟨z1, fun q => (by cases q), fun j q => absurd q (by omega)⟩, fun q => (by cases q), fun j q => absurd q (by omega)⟩, fun _ => z3.trans z2, fun j q => absurd q (by omega)⟩, z3.symm⟩
theorem gT.opn (h : gT g T s) (hK : gK g) (hr : gY g T s r t) (hs : g.S r = r) : gT (gOp g r) (tOp g T r) (mAdd (fun α => yIs (t α)) pl s) := by
  have hrn := hr.1
  have low : ∀ c, c < g.n → tOp g T r c = T c := fun c hc => by unfold tOp; rw [mUp_ne _ _ (by omega), mUp_ne _ _ (by omega), mUp_ne _ _ (by omega)]
  have t0 : tOp g T r g.n = fun α => yL (T r α) := by unfold tOp; rw [mUp_ne _ _ (by omega), mUp_ne _ _ (by omega), mUp_at]
  have t1 : tOp g T r (g.n + 1) = fun α => yR (T r α) := by unfold tOp; rw [mUp_ne _ _ (by omega), mUp_at]
  have t2 : tOp g T r (g.n + 2) = T r := by unfold tOp; rw [mUp_at]
  have key : ∀ α, mAll (mAdd (fun α => yIs (t α)) pl s).1 α ↔ mAll s.1 α ∧ yIs (T r α) := fun α => by
    show mAll (s.1 ++ [_]) α ↔ _
    rw [mAll_ap, mAll_one]
    exact ⟨fun z => ⟨z.1, by rw [hr.2 α z.1]; exact z.2⟩, fun z => ⟨z.1, by show yIs (t α); rw [← hr.2 α z.1]; exact z.2⟩⟩
  have loc : ∀ (ρ ρ' : Nat → tY), (∀ c, c < g.n → ρ c = ρ' c) → gS g ρ → gS g ρ' := fun ρ ρ' e z t ht => by
    obtain ⟨a1, a2, a3⟩ := z t ht
    have hs : g.S t < g.n := by obtain ⟨d, hd⟩ := hK.1; exact (hd t ht).1
    refine ⟨by rw [← e t ht, ← e _ hs]; exact a1, fun k => ?_, fun k e2 => by rw [← e t ht]; exact a3 k e2⟩
    have hl := (hK.2 t ht).1 k
    rw [← e t ht, ← e _ hl.1, ← e _ hl.2]
    exact a2 k
  refine ⟨fun α hα => ?_, fun ρ hρ => ?_, fun α α' e => ?_⟩
  · obtain ⟨z1, z2⟩ := (key α).mp hα
    refine (gOp_S hK hrn hs).mpr ⟨loc _ _ (fun c hc => by rw [low c hc]) (h.1 α z1), ?_, ?_⟩
    · show tOp g T r r α = yA (tOp g T r g.n α) (tOp g T r (g.n + 1) α)
      rw [low r hrn, t0, t1]
      exact z2
    · show tOp g T r (g.n + 2) α = tOp g T r r α
      rw [low r hrn, t2]
  · obtain ⟨z1, z2, z3⟩ := (gOp_S hK hrn hs).mp hρ
    obtain ⟨α, q1, q2⟩ := h.2.1 ρ z1
    have er := q2 r hrn
    have e0 : T r α = yA (ρ g.n) (ρ (g.n + 1)) := er.symm.trans z2
    refine ⟨α, (key α).mpr ⟨q1, by rw [e0]; rfl⟩, fun c hc => ?_⟩
    have hc : c < g.n + 3 := hc
    by_cases c0 : c < g.n
    · rw [low c c0]; exact q2 c c0
    · by_cases c1 : c = g.n
      · rw [c1, t0]; show ρ g.n = yL (T r α); rw [e0]; rfl
      · by_cases c2 : c = g.n + 1
        · rw [c2, t1]; show ρ (g.n + 1) = yR (T r α); rw [e0]; rfl
        · rw [show c = g.n + 2 by omega, t2, z3]; exact er
  · obtain ⟨l1, l2⟩ := h.2.2 α α' e
    have er := l2 r hrn
    refine ⟨by rw [key, key, l1, er], fun c hc => ?_⟩
    have hc : c < g.n + 3 := hc
    by_cases c0 : c < g.n
    · rw [low c c0]; exact l2 c c0
    · by_cases c1 : c = g.n
      · rw [c1, t0]; show yL (T r α) = yL (T r α'); rw [er]
      · by_cases c2 : c = g.n + 1
        · rw [c2, t1]; show yR (T r α) = yR (T r α'); rw [er]
        · rw [show c = g.n + 2 by omega, t2]; exact er
/-- and it has a solution -/
theorem gOp_sat (hK : gK g) (hC : gC g) (hr : r < g.n) (hs : g.S r = r) (hk : g.K r = 0) (hsat : ∃ ρ, gS g ρ) : ∃ ρ, gS (gOp g r) ρ := by
  obtain ⟨k3, c3, -, -, -⟩ := gOp_K hK hC hr hs hk
  obtain ⟨ρ0, h0⟩ := hsat
  have hz : 0 < g.n := by omega
  have k1 := hK.nw (k := 0) (l := 0) (r := 0) (fun z => by cases z)
  have k2 := k1.nw (k := 0) (l := 0) (r := 0) (fun z => by cases z)
  have e3 : gS (gNw (gNw (gNw g 0 0 0) 0 0 0) 1 g.n (g.n + 1)) (fun c => if c = g.n + 2 then yA (yB 0) (yB 0) else if c < g.n then ρ0 c else yB 0) := by
    have hs : ∀ t, t < g.n → g.S t < g.n := fun t ht => by obtain ⟨d, hd⟩ := hK.1; exact (hd t ht).1
    have lo : ∀ t, t < g.n → (fun c => if c = g.n + 2 then yA (yB 0) (yB 0) else if c < g.n then ρ0 c else yB 0) t = ρ0 t := fun t ht => by
      show (if t = g.n + 2 then _ else if t < g.n then ρ0 t else yB 0) = _
      rw [if_neg (by omega), if_pos ht]
    rw [gS_nw k2 (show g.n < g.n + 2 by omega) (show g.n + 1 < g.n + 2 by omega), gS_nw k1 (show 0 < g.n + 1 by omega) (show 0 < g.n + 1 by omega), gS_nw hK hz hz]
    refine ⟨⟨⟨fun t ht => ?_, fun q => (by cases q), fun j q => absurd q (by omega)⟩, fun q => (by cases q), fun j q => absurd q (by omega)⟩, fun _ => ?_, fun j q => absurd q (by omega)⟩
    · obtain ⟨a1, a2, a3⟩ := h0 t ht
      refine ⟨by rw [lo t ht, lo _ (hs t ht)]; exact a1, fun k => ?_, fun k e2 => by rw [lo t ht]; exact a3 k e2⟩
      have hl := (hK.2 t ht).1 k
      rw [lo t ht, lo _ hl.1, lo _ hl.2]
      exact a2 k
    · show (if g.n + 2 = g.n + 2 then yA (yB 0) (yB 0) else _) = yA (if g.n = g.n + 2 then _ else if g.n < g.n then _ else yB 0) (if g.n + 1 = g.n + 2 then _ else if g.n + 1 < g.n then _ else yB 0)
      rw [if_pos rfl, if_neg (by omega), if_neg (by omega), if_neg (by omega), if_neg (by omega)]
  have Sx : ∀ x, x < g.n + 3 → g.n ≤ x → (gNw (gNw (gNw g 0 0 0) 0 0 0) 1 g.n (g.n + 1)).S x = x := fun x h1 h2 => by
    show un (un (un g.S g.n g.n) (g.n + 1) (g.n + 1)) (g.n + 2) (g.n + 2) x = x
    by_cases c2 : x = g.n + 2
    · rw [c2, un_at]
    · rw [un_ne _ _ c2]
      by_cases c1 : x = g.n + 1
      · rw [c1, un_at]
      · rw [un_ne _ _ c1, show x = g.n by omega, un_at]
  have rs : (gNw (gNw (gNw g 0 0 0) 0 0 0) 1 g.n (g.n + 1)).S r = r := by
    show un (un (un g.S g.n g.n) (g.n + 1) (g.n + 1)) (g.n + 2) (g.n + 2) r = _
    rw [un_ne _ _ (by omega), un_ne _ _ (by omega), un_ne _ _ (by omega)]
    exact hs
  have rk : (gNw (gNw (gNw g 0 0 0) 0 0 0) 1 g.n (g.n + 1)).K r = 0 := by
    show un (un (un g.K g.n 0) (g.n + 1) 0) (g.n + 2) 1 r = _
    rw [un_ne _ _ (by omega), un_ne _ _ (by omega), un_ne _ _ (by omega)]
    exact hk
  have Lf : (gNw (gNw (gNw g 0 0 0) 0 0 0) 1 g.n (g.n + 1)).L (g.n + 2) = g.n := un_at _ _ _
  have Rf : (gNw (gNw (gNw g 0 0 0) 0 0 0) 1 g.n (g.n + 1)).R (g.n + 2) = g.n + 1 := un_at _ _ _
  have Kx : ∀ x, x = g.n ∨ x = g.n + 1 → (gNw (gNw (gNw g 0 0 0) 0 0 0) 1 g.n (g.n + 1)).K x = 0 := fun x hx => by
    show un (un (un g.K g.n 0) (g.n + 1) 0) (g.n + 2) 1 x = 0
    rcases hx with e | e
    · rw [e, un_ne _ _ (by omega), un_ne _ _ (by omega), un_at]
    · rw [e, un_ne _ _ (by omega), un_at]
  obtain ⟨ρ, q1, q2⟩ := gBind k3 c3 e3 (v := r) (t := g.n + 2) (show r < g.n + 3 by omega) rs rk (show g.n + 2 < g.n + 3 by omega) (Sx _ (by omega) (by omega)) (by omega) (M := fun x => x = g.n + 2) (fun x hx _ _ => by
    rw [hx, Lf, Rf, gR_fix (Sx g.n (by omega) (by omega)), gR_fix (Sx (g.n + 1) (by omega) (by omega))]
    exact ⟨⟨by omega, fun z => by rw [Kx _ (Or.inl rfl)] at z; cases z⟩, ⟨by omega, fun z => by rw [Kx _ (Or.inr rfl)] at z; cases z⟩⟩) (fun _ => rfl)
  exact ⟨ρ, (gS_lk rs (show r < g.n + 3 by omega)).mpr ⟨q1, q2⟩⟩
end GOP
