/-! run(), the reference: the whole loop -/
/-- what is left to do -/
def xmMu (m : xmM) : Nat := 4 * m.2.2.1 + 2 * m.2.1.length + (match m.2.2.2 with | .inl _ => 0 | .inr _ => 1)
/-- a value, and nothing waits -/
def xmDn (m : xmM) : Option (xmHp × Nat × xmV) := match m with
  | (h, [], n, .inr v) => some (h, n, v)
  | _ => none
/-- **a run**: how it ends and FUEL that is left, or the heap, FUEL and the value -/
def xmGo (T : Nat) (f pp ee : Nat → Int32) : Nat → xmM → (Nat × Nat) ⊕ (xmHp × Nat × xmV)
  | 0, _ => .inl (1, 0)
  | k + 1, m => match xmDn m with
    | some r => .inr r
    | none => match xmSt T f pp ee m with
      | .inl e => .inl e
      | .inr m' => xmGo T f pp ee k m'
section XEM
variable {T cnt : Nat} {kk f pp ee : Nat → Int32} {h : xmHp} {env : List Nat} {vs : List xmV}
theorem xmAp_mu {fr : List xmFr} {n : Nat} {v : xmV} {rest : List xmV} {w : xmM} (q : xmAp h fr n v rest = .inr w) : xmMu w ≤ 4 * n + 2 * fr.length + 2 := by
  unfold xmAp at q
  simp only at q
  rcases ite_ca q with (⟨-, q⟩ | ⟨-, q⟩)
  · injection q with q; subst q; unfold xmMu; simp only; omega
  · rcases ite_ca q with (⟨-, q⟩ | ⟨-, q⟩)
    · cases q
    · injection q with q; subst q; unfold xmMu; simp only [List.length_cons]; omega
theorem xmBg_mu {fr : List xmFr} {n : Nat} {t : tT} {w : xmM} (q : xmBg T f pp ee h fr n env vs t = .inr w) : xmMu w ≤ 4 * n + 2 * fr.length + 2 := by
  cases t with
  | leaf => unfold xmBg at q; cases q
  | inner g d z a b =>
    unfold xmBg at q
    change (if g = 1 then _ else _ : (Nat × Nat) ⊕ xmM) = _ at q
    rcases ite_ca q with (⟨-, q⟩ | ⟨-, q⟩)
    · (injection q with q; subst q; unfold xmMu; simp only [List.length_cons]; omega)
    rcases ite_ca q with (⟨-, q⟩ | ⟨-, q⟩)
    · (injection q with q; subst q; unfold xmMu; simp only [List.length_cons]; omega)
    rcases ite_ca q with (⟨-, q⟩ | ⟨-, q⟩)
    · (injection q with q; subst q; unfold xmMu; simp only [List.length_cons]; omega)
    rcases ite_ca q with (⟨-, q⟩ | ⟨-, q⟩)
    · cases q2 : xmC T f pp ee h env vs a 0 with
      | none => rw [q2] at q; cases q
      | some c => rw [q2] at q; injection q with q; subst q; unfold xmMu; simp only [List.length_cons]; omega
    rcases ite_ca q with (⟨-, q⟩ | ⟨-, q⟩)
    · cases q2 : xmC T f pp ee h env vs a 0 with
      | none => rw [q2] at q; cases q
      | some c =>
        rw [q2] at q
        rcases ite_ca q with (⟨-, q⟩ | ⟨-, q⟩)
        · (injection q with q; subst q; unfold xmMu; simp only [List.length_cons]; omega)
        · (cases q; done)
    rcases ite_ca q with (⟨-, q⟩ | ⟨-, q⟩)
    · rcases ite_ca q with (⟨-, q⟩ | ⟨-, q⟩)
      · rcases ite_ca q with (⟨-, q⟩ | ⟨-, q⟩)
        · rcases ite_ca q with (⟨-, q⟩ | ⟨-, q⟩)
          · (injection q with q; subst q; unfold xmMu; simp only [List.length_cons]; omega)
          · (cases q; done)
        · (cases q; done)
      · (cases q; done)
    rcases ite_ca q with (⟨-, q⟩ | ⟨-, q⟩)
    · rcases ite_ca q with (⟨-, q⟩ | ⟨-, q⟩)
      · rcases ite_ca q with (⟨-, q⟩ | ⟨-, q⟩)
        · (cases q; done)
        · rcases ite_ca q with (⟨-, q⟩ | ⟨-, q⟩)
          · (cases q; done)
          · (injection q with q; subst q; unfold xmMu; simp only [List.length_cons]; omega)
      · (cases q; done)
    rcases ite_ca q with (⟨-, q⟩ | ⟨-, q⟩)
    · (injection q with q; subst q; unfold xmMu; simp only [List.length_cons]; omega)
    rcases ite_ca q with (⟨-, q⟩ | ⟨-, q⟩)
    · (injection q with q; subst q; unfold xmMu; simp only [List.length_cons]; omega)
    rcases ite_ca q with (⟨-, q⟩ | ⟨-, q⟩)
    · rcases ite_ca q with (⟨-, q⟩ | ⟨-, q⟩)
      · (injection q with q; subst q; unfold xmMu; simp only [List.length_cons]; omega)
      · rcases ite_ca q with (⟨-, q⟩ | ⟨-, q⟩)
        · (injection q with q; subst q; unfold xmMu; simp only [List.length_cons]; omega)
        · (cases q; done)
    rcases ite_ca q with (⟨-, q⟩ | ⟨-, q⟩)
    · rcases ite_ca q with (⟨-, q⟩ | ⟨-, q⟩)
      · rcases ite_ca q with (⟨-, q⟩ | ⟨-, q⟩)
        · rcases ite_ca q with (⟨-, q⟩ | ⟨-, q⟩)
          · (injection q with q; subst q; unfold xmMu; simp only [List.length_cons]; omega)
          · (cases q; done)
        · rcases ite_ca q with (⟨-, q⟩ | ⟨-, q⟩)
          · (cases q; done)
          · (injection q with q; subst q; unfold xmMu; simp only [List.length_cons]; omega)
      · (cases q; done)
    rcases ite_ca q with (⟨-, q⟩ | ⟨-, q⟩)
    · rcases ite_ca q with (⟨-, q⟩ | ⟨-, q⟩)
      · rcases ite_ca q with (⟨-, q⟩ | ⟨-, q⟩)
        · (injection q with q; subst q; unfold xmMu; simp only [List.length_cons]; omega)
        · (cases q; done)
      · (cases q; done)
    rcases ite_ca q with (⟨-, q⟩ | ⟨-, q⟩)
    · cases q2 : xmAg T f pp ee env vs a h n with
      | inl c => rw [q2] at q; cases q
      | inr r => rw [q2] at q; have h1 := xmAp_mu q; have h2 := xmAg_n _ _ _ _ q2; omega
    rcases ite_ca q with (⟨-, q⟩ | ⟨-, q⟩)
    · (injection q with q; subst q; unfold xmMu; simp only [List.length_cons]; omega)
    rcases ite_ca q with (⟨-, q⟩ | ⟨-, q⟩)
    · (injection q with q; subst q; unfold xmMu; simp only [List.length_cons]; omega)
    rcases ite_ca q with (⟨-, q⟩ | ⟨-, q⟩)
    · rcases ite_ca q with (⟨-, q⟩ | ⟨-, q⟩)
      · (injection q with q; subst q; unfold xmMu; simp only [List.length_cons]; omega)
      · (cases q; done)
    rcases ite_ca q with (⟨-, q⟩ | ⟨-, q⟩)
    · (injection q with q; subst q; unfold xmMu; simp only [List.length_cons]; omega)
    · (injection q with q; subst q; unfold xmMu; simp only [List.length_cons]; omega)
theorem xmSt_mu {m m' : xmM} (q : xmSt T f pp ee m = .inr m') : xmMu m' < xmMu m := by
  obtain ⟨h, fr, n, ctl⟩ := m
  cases ctl with
  | inl y =>
    obtain ⟨t, env, vs⟩ := y
    cases n with
    | zero => cases q
    | succ n =>
      have h1 := xmBg_mu (show xmBg T f pp ee h fr n env vs t = .inr m' from q)
      have h2 : xmMu (h, fr, n + 1, .inl (t, env, vs)) = 4 * (n + 1) + 2 * fr.length + 0 := rfl
      omega
  | inr v =>
    have h2 : xmMu (h, fr, n, .inr v) = 4 * n + 2 * fr.length + 1 := rfl
    cases fr with
    | nil => exfalso; cases n <;> cases q
    | cons F fr =>
      rw [List.length_cons] at h2
      cases F with
      | inl x =>
        obtain ⟨u, b, env, vs⟩ := x
        have q : (.inr (h, fr, n, .inl (b, env ++ [u], vs ++ [v])) : (Nat × Nat) ⊕ xmM) = .inr m' := by cases n <;> exact q
        injection q with q
        subst q
        have h3 : xmMu (h, fr, n, .inl (b, env ++ [u], vs ++ [v])) = 4 * n + 2 * fr.length + 0 := rfl
        omega
      | inr rest =>
        cases rest with
        | nil =>
          have q : (.inr (h, fr, n, .inr v) : (Nat × Nat) ⊕ xmM) = .inr m' := by cases n <;> exact q
          injection q with q
          subst q
          have h3 : xmMu (h, fr, n, .inr v) = 4 * n + 2 * fr.length + 1 := rfl
          omega
        | cons x rest =>
          have q : xmAp h fr n v (x :: rest) = .inr m' := by cases n <;> exact q
          have := xmAp_mu q
          omega
end XEM
section XRW
variable {pp kk ee f : Nat → Int32} {tE tN : Nat → tY} {L : List Nat} {V τ : zSt} {N S P A c n cnt len N0 : Nat} {ks : Nat → Nat} {qs : List Nat} {T h0 m : Nat} {y0 : tY}
/-- **the loop of run()** -/
theorem r_lp (X : rXs T len cnt S P kk pp ee f L V) (hN : N ≤ 2000) (hA : A ≤ 2000) (hN0 : N0 ≤ 20000) {x1 : Int32} : ∀ (k : Nat) (w : xmM) (x2 x3 x4 : Int32) (τ : zSt) (t : Nat), xmMu w < k → 3 * k ≤ t → rRl pp V N S P A N0 τ x2 x3 x4 w → xmI cnt kk f pp ee tE tN (V.2.2.1 32) L y0 w → xmN N0 w → (∀ e, xmGo T f pp ee k w = .inl e → ∃ τ', l_run_238 T (zF h0 qs ks T (m + 1310)) h0 qs ks t x1 x2 x3 x4 τ = j_run_332 T (zF h0 qs ks T (m + 1310)) h0 qs ks x1 τ' ∧ xFm V τ' ∧ τ'.1 191 = nI e.1 ∧ τ'.1 164 = nI e.2 ∧ 1 ≤ e.1 ∧ e.1 ≤ 6) ∧ ∀ r, xmGo T f pp ee k w = .inr r → ∃ τ' c, l_run_238 T (zF h0 qs ks T (m + 1310)) h0 qs ks t x1 x2 x3 x4 τ = j_run_332 T (zF h0 qs ks T (m + 1310)) h0 qs ks x1 τ' ∧ rXa pp V N S P A τ' c r.2.1 r.1 [] ∧ τ'.1 192 = nI r.2.2.1 ∧ τ'.2.1 193 = r.2.2.2 ∧ (xmH cnt kk f pp ee tE tN (V.2.2.1 32) L r.1 ∧ xmT tE tN r.1 y0 r.2.2) ∧ xmN N0 (r.1, [], r.2.1, .inr r.2.2)
  | 0, w, x2, x3, x4, τ, t, hk, ht, R, Iv, hn => by omega
  | k + 1, w, x2, x3, x4, τ, t, hk, ht, R, Iv, hn => by
    obtain ⟨t, rfl⟩ : ∃ u, t = u + 3 := ⟨t - 3, by omega⟩
    have IH := r_lp X hN hA hN0 (x1 := x1) k
    cases q : xmDn w with
    | some r =>
      have ex : xmGo T f pp ee (k + 1) w = .inr r := by unfold xmGo; rw [q]
      rw [ex]
      refine ⟨fun e he => (by cases he), fun r' he => ?_⟩
      injection he with he
      subst he
      obtain ⟨h, fr, n, ctl⟩ := w
      cases fr with
      | cons F fr => cases q
      | nil =>
        cases ctl with
        | inl y => cases q
        | inr v =>
          injection q with q
          subst q
          obtain ⟨c, I, -, rfl, r192, r193⟩ := R
          obtain ⟨H, -, yy, hv, hy⟩ := Iv
          have hy : yy = y0 := hy
          subst hy
          obtain ⟨d, d1, d2⟩ := I.2.2.2.2.1
          have d2 : d = 0 := d2
          refine ⟨τ, c, ?_, I, r192, r193, ⟨H, hv⟩, hn⟩
          rw [l_run_238, if_pos I.2.2.2.2.2.2.1, if_pos rfl, if_pos (by rw [d1, d2]; decide)]
    | none =>
      have nd : w.2.1 = [] → ∀ v, w.2.2.2 ≠ .inr v := fun h1 v h2 => by
        obtain ⟨h, fr, n, ctl⟩ := w
        have h1 : fr = [] := h1
        have h2 : ctl = .inr v := h2
        subst h1 h2
        cases q
      obtain ⟨B1, B2⟩ := r_lp1 (h0 := h0) (qs := qs) (ks := ks) (m := m) (x1 := x1) X hN hA hN0 R Iv hn nd t
      cases q2 : xmSt T f pp ee w with
      | inl e =>
        have ex : xmGo T f pp ee (k + 1) w = .inl e := by unfold xmGo; rw [q]; simp only [q2]
        rw [ex]
        refine ⟨fun e' he => ?_, fun r' he => (by cases he)⟩
        injection he with he
        subst he
        exact B1 e q2
      | inr w' =>
        have ex : xmGo T f pp ee (k + 1) w = xmGo T f pp ee k w' := by rw [xmGo, q]; simp only [q2]
        rw [ex]
        obtain ⟨τ', x2', x3', x4', t', ht', b1, b2⟩ := B2 w' q2
        obtain ⟨I', n'⟩ := xm_st hN0 Iv hn q2
        have hmu := xmSt_mu q2
        rw [b1]
        exact IH w' x2' x3' x4' τ' t' (by omega) (by omega) b2 I' n'
end XRW
