/-! the reference's richOf(): what must be SO, a TEMPLATE at a place -/
section UAM
variable {ks : Nat → Nat} {qs : List Nat} {T n h0 S P : Nat} {L env : List Nat} {pp : Nat → Int32} {Γ : uGm} {tN : Nat → tY} {v v' : Nat → Nat} {V τ τ' : zSt} {CD : tT → Nat → Prop} {s : gSt}
/-- one row of what must be SO; the state of a list that grows -/
def uNq (CD : tT → Nat → Prop) (pp : Nat → Int32) (V : zSt) (S P : Nat) (Γ : uGm) (tN : Nat → tY) (env : List Nat) (v : Nat → Nat) (τ : zSt) (s : gSt) (r : List (gNd × Nat)) : Prop := uVn τ v ∧ uTf V τ ∧ uTd Γ tN env v τ s.1 ∧ uFl CD Γ v τ s.2.1 ∧ v 123 = r.length ∧ ∀ i x, r[i]? = some x → uNr CD pp V S P Γ v τ i x ∧ uIq Γ τ x.1.1
theorem uAl.q (h : uAl CD pp V S P Γ tN env v τ s) : uNq CD pp V S P Γ tN env v τ s (s.2.2.flatMap gN2) := h
theorem uNq.al {x : gNd} (h : uNq CD pp V S P Γ tN env v τ s (s.2.2.flatMap gN2 ++ gN2 x)) : uAl CD pp V S P Γ tN env v τ (gNe x s) := by
  have e : (gNe x s).2.2.flatMap gN2 = s.2.2.flatMap gN2 ++ gN2 x := by
    show (s.2.2 ++ [x]).flatMap gN2 = _
    rw [List.flatMap_append, List.flatMap_cons, List.flatMap_nil, List.append_nil]
  refine ⟨h.1, h.2.1, h.2.2.1, h.2.2.2.1, ?_⟩
  show uNl CD pp V S P Γ v τ (gNe x s).2.2
  unfold uNl
  rw [e]
  exact h.2.2.2.2
theorem uSc.mo {N N' : Nat} {sc : List gEn} {e g : Int32} (h : uSc N CD Γ v τ sc e g) (hN : N ≤ N') : uSc N' CD Γ v τ sc e g := by
  obtain ⟨⟨ch, a1, a2, a3⟩, h2⟩ := h
  exact ⟨⟨ch, a1, by omega, a3⟩, h2⟩
/-- mustBeSo() -/
theorem r_so1 {r : List (gNd × Nat)} {x : gNd} {kd N : Nat} {x2 e g : Int32} (h : uNq CD pp V S P Γ tN env v τ s r) (hk : if kd = 0 then ∃ m, x2 = nI m ∧ m < 2100 ∧ CD x.2.2.2.1 m else ∃ y w, x2 = nI y ∧ rSm pp V S P y (w, x.2.2.2.2.1)) (hS : uSc N CD Γ v τ x.1 e g) (hN : N ≤ 200) (hq : uIq Γ τ x.1) (hl : v 123 < 2100) : ∃ τ', zF h0 qs ks T (n + 1) 79 [.ref h0, .int (nI kd), .int x2, .int (if kd = 3 then nI (Γ.1 (.inl x.2.2.2.2.2.2)) else -1), .int e, .int g, .int (pp x.2.1)] τ = some (none, τ') ∧ uNq CD pp V S P Γ tN env (uUp v 123) τ' s (r ++ [(x, kd)]) ∧ uFr v τ τ' ∧ uKr Γ τ τ' := by
  obtain ⟨h1, h2, h3, h4, h5, h6⟩ := h
  obtain ⟨τ', a1, a2, a3, ⟨a4, a5, a6, a7, a8, a9⟩, a10⟩ := r_mustBeSo (h0 := h0) (qs := qs) (ks := ks) (T := T) (n := n) (x1 := nI kd) (x2 := x2) (x3 := if kd = 3 then nI (Γ.1 (.inl x.2.2.2.2.2.2)) else -1) (x4 := e) (x5 := g) (x6 := pp x.2.1) h1 hl
  have ke : uKe τ τ' := ⟨a10.1, a10.2.1, a10.2.2.1, a10.2.2.2⟩
  have kr : uKr Γ τ τ' := ke.kr
  have le := uUp_le v 123
  refine ⟨τ', a1, ⟨a2, h2.fr a3, h3.up le a3 kr, h4.up le (uUp_ne v (by decide)) a3 kr.2, ?_, fun i y hy => ?_⟩, a3, kr⟩
  · rw [uUp_at, h5, List.length_append]; rfl
  · rcases get_ap hy with ⟨e1, e2⟩ | ⟨hj, hx⟩
    · subst e1 e2
      rw [← h5]
      refine ⟨⟨by rw [uUp_at]; omega, a4, by rw [a5]; exact hk, a6, ?_, a9⟩, hq.ik kr.2⟩
      rw [a7, a8]
      exact (hS.mo hN).up le a3
    · obtain ⟨w1, w2⟩ := h6 i y hx
      exact ⟨w1.up le a3, w2.ik kr.2⟩
/-- namesAt(), template() -/
theorem r_tpl {g : gG} {ρ : Nat → tY} {c0 key w q N : Nat} {w0 e go : Int32} {ns : List Nat} {y : tY} {sc : List gEn} (hT : 9010 ≤ T) (hR : rTf V g ρ) (hc : c0 < g.n) (hρ : ρ c0 = y) (hns : ns = List.range' w q) (hw : q = 0 ∨ (w0 = nI w ∧ w + q ≤ 2010 ∧ ∀ i, i < q → V.2.2.1 32 (w + i) = nI (Γ.1 (.inl (w + i))))) (hQ : uQs Γ V) (fm : uTf V τ) (hV : uVn τ v) (hS : uSc N CD Γ v τ sc e go) (hN : N ≤ 200) (hO : mOk Γ y (key, [], y, ns, gSs sc) (v 100) (v 98)) (hX : mSx y (key, [], y, ns, gSs sc) ≤ 60) (hl : ∀ k, k ∈ uCt → v k + tmC Γ y (key, [], y, ns, gSs sc) k ≤ uLm k) (hn : yDp y + 4 ≤ n) (hn2 : 2 ≤ n) : ∃ τ1 τ2 t v', zF h0 qs ks T n 75 [.ref h0, .int e] τ = some (none, τ1) ∧ uTf V τ1 ∧ zF h0 qs ks T n 76 [.ref h0, .int (nI c0), .int w0, .int (nI q)] τ1 = some (some (.int (nI t)), τ2) ∧ uVn τ2 v' ∧ uGe v v' (tmC Γ y (key, [], y, ns, gSs sc)) ∧ (v' 98 = v 98 + yLs y ∧ v' 100 = v 100 + yFz y q) ∧ uFr v τ τ2 ∧ (uKr Γ τ τ2 ∧ uNw Γ (v 100) (v' 100) τ2) ∧ uTy Γ v' τ2 y t (gTp key y ns sc) := by
  obtain ⟨n', rfl⟩ : ∃ n', n = n' + 2 := ⟨n - 2, by omega⟩
  have s60 := Nat.le_trans (mSx_ge y (key, [], y, ns, gSs sc)) hX
  obtain ⟨τ1, a1, a2, a3, a4, a5, a6⟩ := r_namesAt (h0 := h0) (qs := qs) (ks := ks) (T := T) (n := n') (by omega) hV hS hN s60
  have f1 := fm.fr a3
  have rf : rTf τ1 g ρ := by
    obtain ⟨⟨k, ⟨h1, h2⟩, ⟨h3, h4⟩, h5⟩, h6⟩ := hR
    refine ⟨⟨k, ⟨(f1.1 59 (by decide) (by decide) (by decide)).trans h1, h2⟩, ⟨(f1.1 60 (by decide) (by decide) (by decide)).trans h3, h4⟩, fun t ht => ?_⟩, h6⟩
    rw [f1.r (k := 34) (by decide), f1.r (k := 35) (by decide), f1.r (k := 36) (by decide), f1.r (k := 37) (by decide), f1.r (k := 38) (by decide)]
    exact h5 t ht
  obtain ⟨t, τ2, v', b1, b2, b3, b4, b5, b6, b7, b8, b9⟩ := r_template (h0 := h0) (qs := qs) (ks := ks) (Γ := Γ) hT y c0 (key, [], y, ns, gSs sc) w0 w q (n' + 2) v τ1 rf hc hρ rfl hns (by
    rcases hw with hw | ⟨h1, h2, h3⟩
    · exact Or.inl hw
    · exact Or.inr ⟨h1, h2, fun i hi => by rw [f1.r (by decide)]; exact h3 i hi⟩) a2 a6 ⟨(f1.1 39 (by decide) (by decide) (by decide)).trans hQ.1, hQ.2.1, fun q qq e => by rw [f1.r (k := 22) (by decide), f1.r (k := 25) (by decide)]; exact hQ.2.2 q qq e⟩ hO hX hl hn
  have k1 : uKr Γ τ τ1 := ⟨a4 74 (by unfold uAy; omega) (by decide) (by decide), by rw [a4 66 (by unfold uAy; omega) (by decide) (by decide)], fun x _ z => by
    unfold uIs at z ⊢
    rw [a4 66 (by unfold uAy; omega) (by decide) (by decide), a4 67 (by unfold uAy; omega) (by decide) (by decide)]
    exact z⟩
  have hq : ns.length = q := by rw [hns, List.length_range']
  rw [show (key, ([] : List Bool), y, ns, gSs sc).2.2.2.1.length = q from hq] at b4
  exact ⟨τ1, τ2, t, v', a1, f1, b1, b2, b3, b4, a3.tr b5 (fun _ => Nat.le_refl _), ⟨k1.tr ⟨b6.1 74 (by omega), b8.1⟩, b8.2⟩, b9⟩
end UAM
