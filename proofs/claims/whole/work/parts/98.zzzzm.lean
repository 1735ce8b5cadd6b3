/-! the class: isFinite -/
/-- while a type is gone through: c colours, W what is still to be looked at -/
def dI (g : gG) (fd : Nat) (c : Nat → Nat) (p : Nat) (W : Nat → Nat) : Prop := ((∀ i, i < p → W i < g.n) ∧ ∀ t, c t ≤ 2) ∧ (∀ t, c t = 1 → (t < g.n ∧ g.K t = 1) ∧ ∃ j, j < p ∧ gR g (W j) = t ∧ (∀ i, j < i → i < p → gR g (W i) ≠ t ∧ ∀ ρ, gS g ρ → yH (ρ (W i)) < yH (ρ t)) ∧ (c (gR g (g.L t)) = 2 ∨ ∃ i, j < i ∧ i < p ∧ gR g (W i) = gR g (g.L t)) ∧ (c (gR g (g.R t)) = 2 ∨ ∃ i, j < i ∧ i < p ∧ gR g (W i) = gR g (g.R t))) ∧ (∃ rk : Nat → Nat, ∀ t, c t = 2 → g.K t = 1 → (c (gR g (g.L t)) = 2 ∧ rk (gR g (g.L t)) < rk t) ∧ (c (gR g (g.R t)) = 2 ∧ rk (gR g (g.R t)) < rk t)) ∧ (c (gR g fd) = 2 ∨ ∃ i, i < p ∧ gR g (W i) = gR g fd)
section DFS
variable {g : gG} {fd p x : Nat} {c W : Nat → Nat}
theorem dI.pop (h : dI g fd c (p + 1) W) (hx : x = gR g (W p)) (hc : c x ≠ 0 ∨ g.K x ≠ 1) : dI g fd (un c x 2) p W := by
  obtain ⟨⟨h1, h0⟩, h2, ⟨rk, h3⟩, h4⟩ := h
  have two : ∀ t, c t = 2 → un c x 2 t = 2 := fun t e => by
    by_cases q : t = x
    · rw [q, un_at]
    · rw [un_ne _ _ q]; exact e
  have cov : ∀ y j, (c y = 2 ∨ ∃ i, j < i ∧ i < p + 1 ∧ gR g (W i) = y) → (un c x 2 y = 2 ∨ ∃ i, j < i ∧ i < p ∧ gR g (W i) = y) := fun y j z => by
    rcases z with z | ⟨i, z1, z2, z3⟩
    · exact Or.inl (two y z)
    · by_cases q : i = p
      · left
        rw [← z3, q, ← hx, un_at]
      · exact Or.inr ⟨i, z1, by omega, z3⟩
  refine ⟨⟨fun i hi => h1 i (by omega), fun t => by unfold un; split; omega; exact h0 t⟩, fun t ht => ?_, ?_, ?_⟩
  · have tx : t ≠ x := fun e => by rw [e, un_at] at ht; cases ht
    rw [un_ne _ _ tx] at ht
    obtain ⟨a, j, b1, b2, b3, b4, b5⟩ := h2 t ht
    have jp : j ≠ p := fun e => tx (by rw [← b2, e, hx])
    exact ⟨a, j, by omega, b2, fun i i1 i2 => b3 i i1 (by omega), cov _ j b4, cov _ j b5⟩
  · by_cases q : c x = 1
    · -- its children are done
      obtain ⟨a, j, b1, b2, b3, b4, b5⟩ := h2 x q
      have jp : j = p := by
        by_cases e : j = p
        · exact e
        · exact absurd hx.symm (b3 p (by omega) (by omega)).1
      have b4' : c (gR g (g.L x)) = 2 := by
        rcases b4 with z | ⟨i, z1, z2, -⟩
        · exact z
        · omega
      have b5' : c (gR g (g.R x)) = 2 := by
        rcases b5 with z | ⟨i, z1, z2, -⟩
        · exact z
        · omega
      have nx : ∀ y, c y = 2 → y ≠ x := fun y e z => by rw [z, q] at e; cases e
      refine ⟨un rk x (rk (gR g (g.L x)) + rk (gR g (g.R x)) + 1), fun t ht kt => ?_⟩
      by_cases e : t = x
      · subst e
        rw [un_at, un_ne rk _ (nx _ b4'), un_ne rk _ (nx _ b5')]
        exact ⟨⟨two _ b4', by omega⟩, ⟨two _ b5', by omega⟩⟩
      · rw [un_ne _ _ e] at ht
        obtain ⟨⟨d1, d2⟩, d3, d4⟩ := h3 t ht kt
        rw [un_ne rk _ e, un_ne rk _ (nx _ d1), un_ne rk _ (nx _ d3)]
        exact ⟨⟨two _ d1, d2⟩, ⟨two _ d3, d4⟩⟩
    · refine ⟨rk, fun t ht kt => ?_⟩
      have ht' : c t = 2 := by
        by_cases e : t = x
        · rw [e] at kt ⊢
          rcases hc with z | z
          · by_cases z2 : c x = 2
            · exact z2
            · have := h0 x; omega
          · exact absurd kt z
        · rw [un_ne _ _ e] at ht; exact ht
      obtain ⟨⟨d1, d2⟩, d3, d4⟩ := h3 t ht' kt
      exact ⟨⟨two _ d1, d2⟩, ⟨two _ d3, d4⟩⟩
  · rcases h4 with z | ⟨i, z1, z2⟩
    · exact Or.inl (two _ z)
    · by_cases q : i = p
      · left
        rw [← z2, q, ← hx, un_at]
      · exact Or.inr ⟨i, by omega, z2⟩
theorem dI.bad (hK : gK g) (h : dI g fd c (p + 1) W) (hx : x = gR g (W p)) (h0 : c x = 0) (kx : g.K x = 1) (hb : un c x 1 (gR g (g.L x)) = 1 ∨ un c x 1 (gR g (g.R x)) = 1) : ∀ ρ, ¬ gS g ρ := fun ρ hρ => by
  obtain ⟨⟨h1, -⟩, h2, -, -⟩ := h
  have hW := h1 p (by omega)
  have hxn : x < g.n := by rw [hx]; exact gR_lt hK.1 hW
  have ex : ρ x = ρ (W p) := by rw [hx]; exact gR_eq hK.1 hW hρ
  have hl := (hK.2 x hxn).1 kx
  have e := (hρ x hxn).2.1 kx
  have key : ∀ y, y < g.n → yH (ρ y) < yH (ρ x) → un c x 1 (gR g y) = 1 → False := fun y hy ly z => by
    have ey := gR_eq hK.1 hy hρ
    by_cases q : gR g y = x
    · rw [q] at ey; rw [ey] at ly; omega
    · rw [un_ne _ _ q] at z
      obtain ⟨-, j, b1, b2, b3, -, -⟩ := h2 _ z
      have jp : j ≠ p := fun w => q (by rw [← b2, w, hx])
      have := (b3 p (by omega) (by omega)).2 ρ hρ
      rw [ey, ← ex] at this
      omega
  rcases hb with z | z
  · exact key _ hl.1 (by rw [e]; exact (yA_lt _ _).1) z
  · exact key _ hl.2 (by rw [e]; exact (yA_lt _ _).2) z
theorem dI.push (hK : gK g) (h : dI g fd c (p + 1) W) (hx : x = gR g (W p)) (h0 : c x = 0) (kx : g.K x = 1) (hl1 : un c x 1 (gR g (g.L x)) ≠ 1) (hr1 : un c x 1 (gR g (g.R x)) ≠ 1) : dI g fd (un c x 1) (p + 3) (un (un W (p + 1) (gR g (g.R x))) (p + 2) (gR g (g.L x))) := by
  obtain ⟨⟨h1, hc2⟩, h2, ⟨rk, h3⟩, h4⟩ := h
  have hW := h1 p (by omega)
  have hxn : x < g.n := by rw [hx]; exact gR_lt hK.1 hW
  have hl := (hK.2 x hxn).1 kx
  have hln := gR_lt hK.1 hl.1
  have hrn := gR_lt hK.1 hl.2
  have lo : ∀ i, i < p + 1 → un (un W (p + 1) (gR g (g.R x))) (p + 2) (gR g (g.L x)) i = W i := fun i hi => by rw [un_ne _ _ (by omega), un_ne _ _ (by omega)]
  have w1 : un (un W (p + 1) (gR g (g.R x))) (p + 2) (gR g (g.L x)) (p + 1) = gR g (g.R x) := by rw [un_ne _ _ (by omega), un_at]
  have w2 : un (un W (p + 1) (gR g (g.R x))) (p + 2) (gR g (g.L x)) (p + 2) = gR g (g.L x) := un_at _ _ _
  have fl : gR g (gR g (g.L x)) = gR g (g.L x) := gR_fix (gR_root hK.1 hl.1)
  have fr : gR g (gR g (g.R x)) = gR g (g.R x) := gR_fix (gR_root hK.1 hl.2)
  have two : ∀ t, c t = 2 → un c x 1 t = 2 := fun t e => by
    rw [un_ne _ _ (fun z => by rw [z, h0] at e; cases e)]; exact e
  have kid : ∀ ρ, gS g ρ → yH (ρ (gR g (g.L x))) < yH (ρ x) ∧ yH (ρ (gR g (g.R x))) < yH (ρ x) := fun ρ hρ => by
    rw [gR_eq hK.1 hl.1 hρ, gR_eq hK.1 hl.2 hρ, (hρ x hxn).2.1 kx]
    exact yA_lt _ _
  refine ⟨⟨fun i hi => ?_, fun t => by unfold un; split; omega; exact hc2 t⟩, fun t ht => ?_, ⟨rk, fun t ht kt => ?_⟩, ?_⟩
  · by_cases a : i < p + 1
    · rw [lo i a]; exact h1 i a
    · by_cases b : i = p + 1
      · rw [b, w1]; exact hrn
      · rw [show i = p + 2 by omega, w2]; exact hln
  · by_cases tx : t = x
    · subst tx
      refine ⟨⟨hxn, kx⟩, p, by omega, by rw [lo p (by omega)]; exact hx.symm, fun i i1 i2 => ?_, Or.inr ⟨p + 2, by omega, by omega, by rw [w2, fl]⟩, Or.inr ⟨p + 1, by omega, by omega, by rw [w1, fr]⟩⟩
      by_cases b : i = p + 1
      · rw [b, w1, fr]
        exact ⟨fun z => hr1 (by rw [z, un_at]), fun ρ hρ => (kid ρ hρ).2⟩
      · rw [show i = p + 2 by omega, w2, fl]
        exact ⟨fun z => hl1 (by rw [z, un_at]), fun ρ hρ => (kid ρ hρ).1⟩
    · have ht' : c t = 1 := by rw [un_ne _ _ tx] at ht; exact ht
      obtain ⟨a, j, b1, b2, b3, b4, b5⟩ := h2 t ht'
      have jp : j ≠ p := fun e => tx (by rw [← b2, e, hx])
      have cov : ∀ y, (c y = 2 ∨ ∃ i, j < i ∧ i < p + 1 ∧ gR g (W i) = y) → (un c x 1 y = 2 ∨ ∃ i, j < i ∧ i < p + 3 ∧ gR g (un (un W (p + 1) (gR g (g.R x))) (p + 2) (gR g (g.L x)) i) = y) := fun y z => by
        rcases z with z | ⟨i, z1, z2, z3⟩
        · exact Or.inl (two y z)
        · exact Or.inr ⟨i, z1, by omega, by rw [lo i z2]; exact z3⟩
      have up : ∀ ρ, gS g ρ → yH (ρ x) < yH (ρ t) := fun ρ hρ => by
        have := (b3 p (by omega) (by omega)).2 ρ hρ
        rw [← gR_eq hK.1 hW hρ, ← hx] at this
        exact this
      refine ⟨a, j, by omega, by rw [lo j b1]; exact b2, fun i i1 i2 => ?_, cov _ b4, cov _ b5⟩
      by_cases q : i < p + 1
      · rw [lo i q]; exact b3 i i1 q
      · by_cases b : i = p + 1
        · rw [b, w1, fr]
          exact ⟨fun z => hr1 (by rw [z]; exact ht), fun ρ hρ => by have := (kid ρ hρ).2; have := up ρ hρ; omega⟩
        · rw [show i = p + 2 by omega, w2, fl]
          exact ⟨fun z => hl1 (by rw [z]; exact ht), fun ρ hρ => by have := (kid ρ hρ).1; have := up ρ hρ; omega⟩
  · have ht' : c t = 2 := by
      by_cases tx : t = x
      · rw [tx, un_at] at ht; cases ht
      · rw [un_ne _ _ tx] at ht; exact ht
    obtain ⟨⟨d1, d2⟩, d3, d4⟩ := h3 t ht' kt
    exact ⟨⟨two _ d1, d2⟩, ⟨two _ d3, d4⟩⟩
  · rcases h4 with z | ⟨i, z1, z2⟩
    · exact Or.inl (two _ z)
    · exact Or.inr ⟨i, by omega, by rw [lo i z1]; exact z2⟩
/-- all is gone through: one and other have a solution -/
theorem dI.fin {g0 : gG} {one other : Nat} (hK0 : gK g0) (hC0 : gC g0) (hs : ∃ ρ, gS g0 ρ) (J : gJ g0 g one other) (ho : one < g0.n) (hw : other < g0.n) (h : dI g one c 0 W) : ∃ ρ, gS g ρ := by
  obtain ⟨-, -, ⟨rk, h3⟩, h4⟩ := h
  obtain ⟨⟨j1, j2, j3, j4⟩, jK, jC, jm, je, js⟩ := J
  have h4 : c (gR g one) = 2 := by
    rcases h4 with z | ⟨i, z, -⟩
    · exact z
    · omega
  obtain ⟨β, hβ⟩ := gRank (g := g) (r := rk) (B := fun t => c t = 2) h3
  obtain ⟨ρ0, hs⟩ := hs
  have ends : ∀ t, t < g0.n → gR g (gR g0 t) = gR g t := fun t ht => jm _ _ (gR_lt hK0.1 ht) ht (by rw [gR_fix (gR_root hK0.1 ht)])
  have kd : ∀ t, t < g0.n → g0.K t ≠ 0 → g.K (gR g t) = g0.K t := fun t ht nz => by
    rcases gR_kind jK (show t < g.n by rw [j1]; exact ht) with e | e
    · rw [j2] at e; exact absurd e nz
    · rw [e, j2]
  have key : ∀ x, x < g0.n → g0.S x = x → (fun x => c (gR g x) = 2) x → (g0.K x = 1 → ((fun x => c (gR g x) = 2) (gR g0 (g0.L x)) ∧ (fun x => c (gR g x) = 2) (gR g0 (g0.R x))) ∧ (fun x => β (gR g x)) x = yA ((fun x => β (gR g x)) (gR g0 (g0.L x))) ((fun x => β (gR g x)) (gR g0 (g0.R x)))) ∧ ∀ k, g0.K x = k + 2 → (fun x => β (gR g x)) x = yB k := by
    intro x hx hxs hb
    have hb : c (gR g x) = 2 := hb
    refine ⟨fun hk => ?_, fun k hk => ?_⟩
    · have hl := (hK0.2 x hx).1 hk
      have kx := (kd x hx (by omega)).trans hk
      obtain ⟨⟨b1, -⟩, b3, -⟩ := h3 _ hb kx
      obtain ⟨c1, c2⟩ := jC x (by rw [j1]; exact hx) (by rw [j2]; exact hk)
      have bb := (hβ _ hb).1 kx
      rw [j3] at c1
      rw [j4] at c2
      rw [j3] at b1
      rw [j4] at b3
      rw [j3, j4] at bb
      show (c (gR g (gR g0 (g0.L x))) = 2 ∧ c (gR g (gR g0 (g0.R x))) = 2) ∧ β (gR g x) = yA (β (gR g (gR g0 (g0.L x)))) (β (gR g (gR g0 (g0.R x))))
      rw [ends _ hl.1, ends _ hl.2, c1, c2]
      exact ⟨⟨b1, b3⟩, bb⟩
    · exact (hβ _ hb).2 k ((kd x hx (by omega)).trans hk)
  obtain ⟨ρ, r1, r2, -⟩ := gEx (B := fun x => c (gR g x) = 2) (β := fun x => β (gR g x)) hK0 hC0 hs key
  refine ⟨ρ, (js ρ).mpr ⟨r1, ?_⟩⟩
  have a1 := r2 one ho (by show c (gR g (gR g0 one)) = 2; rw [ends _ ho]; exact h4)
  have a2 := r2 other hw (by show c (gR g (gR g0 other)) = 2; rw [ends _ hw, ← je]; exact h4)
  rw [a1, a2]
  show β (gR g (gR g0 one)) = β (gR g (gR g0 other))
  rw [ends _ ho, ends _ hw, je]
theorem dI.st (hfd : fd < g.n) (hW : W 0 = fd) (hc : ∀ t, c t = 0) : dI g fd c 1 W := by
  refine ⟨⟨fun i hi => ?_, fun t => ?_⟩, fun t ht => ?_, ⟨fun _ => 0, fun t ht => ?_⟩, Or.inr ⟨0, by omega, by rw [hW]⟩⟩
  · rw [show i = 0 by omega, hW]; exact hfd
  · rw [hc]; omega
  · rw [hc] at ht; cases ht
  · rw [hc] at ht; cases ht
end DFS
