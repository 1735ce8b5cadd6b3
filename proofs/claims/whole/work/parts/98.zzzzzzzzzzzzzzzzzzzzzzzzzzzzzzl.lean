/-! run(), the reference: the loop -/
section XEN
variable {T cnt : Nat} {kk f pp ee : Nat → Int32} {h : xmHp} {env : List Nat} {vs : List xmV}
theorem ite_ca {α : Type} {p : Prop} [Decidable p] {a b e : α} (q : (if p then a else b) = e) : (p ∧ a = e) ∨ (¬ p ∧ b = e) := by
  by_cases h : p
  · rw [if_pos h] at q; exact Or.inl ⟨h, q⟩
  · rw [if_neg h] at q; exact Or.inr ⟨h, q⟩
theorem xmAg_e : ∀ (a : tT) (h : xmHp) (n : Nat) (e : Nat × Nat), xmAg T f pp ee env vs a h n = .inl e → 1 ≤ e.1 ∧ e.1 ≤ 6
  | .leaf, h, n, e, q => by unfold xmAg at q; cases q
  | .inner g d z a b, h, n, e, q => by
    have Ib := xmAg_e b
    unfold xmAg at q
    have K : ∀ {v : xmV} {h' : xmHp} {n' : Nat}, (match xmAg T f pp ee env vs b h' n' with | .inl c => .inl c | .inr r => .inr (r.1, r.2.1, v :: r.2.2) : (Nat × Nat) ⊕ (xmHp × Nat × List xmV)) = .inl e → 1 ≤ e.1 ∧ e.1 ≤ 6 := fun {v h' n'} q => by
      cases q2 : xmAg T f pp ee env vs b h' n' with
      | inl c =>
        rw [q2] at q
        injection q with q
        rw [← q]
        exact Ib h' n' c q2
      | inr r => rw [q2] at q; cases q
    by_cases c1 : g = 33
    · rw [if_pos c1] at q
      by_cases c2 : isN d.2.2.2.1.2 = true
      · rw [if_pos c2] at q; exact K q
      · rw [if_neg c2] at q
        by_cases c3 : xmB (xmSm T f pp ee h env vs d.2.2.2.1.2) = true
        · rw [if_pos c3] at q; exact K q
        · rw [if_neg c3] at q
          injection q with q
          rw [← q]
          exact ⟨Nat.le_of_ble_eq_true rfl, Nat.le_of_ble_eq_true rfl⟩
    · rw [if_neg c1] at q
      by_cases c2 : g = 34
      · rw [if_pos c2] at q
        cases n with
        | zero =>
          injection q with q
          rw [← q]
          exact ⟨Nat.le_of_ble_eq_true rfl, Nat.le_of_ble_eq_true rfl⟩
        | succ n => exact K q
      · rw [if_neg c2] at q
        exact K q
theorem xmAp_e {fr : List xmFr} {n : Nat} {v : xmV} {rest : List xmV} {e : Nat × Nat} (q : xmAp h fr n v rest = .inl e) : 1 ≤ e.1 ∧ e.1 ≤ 6 := by
  unfold xmAp at q
  simp only at q
  split at q
  · cases q
  · split at q
    · injection q with q
      rw [← q]
      exact ⟨Nat.le_of_ble_eq_true rfl, Nat.le_of_ble_eq_true rfl⟩
    · cases q
theorem xmBg_e {fr : List xmFr} {n : Nat} {t : tT} {e : Nat × Nat} (wf : tWf kk cnt t 0) (q : xmBg T f pp ee h fr n env vs t = .inl e) : 1 ≤ e.1 ∧ e.1 ≤ 6 := by
  cases t with
  | leaf => cases wf
  | inner g d z a b =>
    unfold xmBg at q
    change (if g = 1 then _ else _ : (Nat × Nat) ⊕ xmM) = _ at q
    rcases ite_ca q with (⟨-, q⟩ | ⟨-, q⟩)
    · (cases q; done)
    rcases ite_ca q with (⟨-, q⟩ | ⟨-, q⟩)
    · (cases q; done)
    rcases ite_ca q with (⟨-, q⟩ | ⟨-, q⟩)
    · (cases q; done)
    rcases ite_ca q with (⟨-, q⟩ | ⟨-, q⟩)
    · cases q2 : xmC T f pp ee h env vs a 0 with
      | none => rw [q2] at q; injection q with q; rw [← q]; exact ⟨Nat.le_of_ble_eq_true rfl, Nat.le_of_ble_eq_true rfl⟩
      | some c => rw [q2] at q; cases q
    rcases ite_ca q with (⟨-, q⟩ | ⟨-, q⟩)
    · cases q2 : xmC T f pp ee h env vs a 0 with
      | none => rw [q2] at q; injection q with q; rw [← q]; exact ⟨Nat.le_of_ble_eq_true rfl, Nat.le_of_ble_eq_true rfl⟩
      | some c =>
        rw [q2] at q
        rcases ite_ca q with (⟨-, q⟩ | ⟨-, q⟩)
        · (cases q; done)
        · (injection q with q; rw [← q]; exact ⟨Nat.le_of_ble_eq_true rfl, Nat.le_of_ble_eq_true rfl⟩)
    rcases ite_ca q with (⟨-, q⟩ | ⟨-, q⟩)
    · rcases ite_ca q with (⟨-, q⟩ | ⟨-, q⟩)
      · rcases ite_ca q with (⟨-, q⟩ | ⟨-, q⟩)
        · rcases ite_ca q with (⟨-, q⟩ | ⟨-, q⟩)
          · (cases q; done)
          · (injection q with q; rw [← q]; exact ⟨Nat.le_of_ble_eq_true rfl, Nat.le_of_ble_eq_true rfl⟩)
        · (injection q with q; rw [← q]; exact ⟨Nat.le_of_ble_eq_true rfl, Nat.le_of_ble_eq_true rfl⟩)
      · (injection q with q; rw [← q]; exact ⟨Nat.le_of_ble_eq_true rfl, Nat.le_of_ble_eq_true rfl⟩)
    rcases ite_ca q with (⟨-, q⟩ | ⟨-, q⟩)
    · rcases ite_ca q with (⟨-, q⟩ | ⟨-, q⟩)
      · rcases ite_ca q with (⟨-, q⟩ | ⟨-, q⟩)
        · (injection q with q; rw [← q]; exact ⟨Nat.le_of_ble_eq_true rfl, Nat.le_of_ble_eq_true rfl⟩)
        · rcases ite_ca q with (⟨-, q⟩ | ⟨-, q⟩)
          · (injection q with q; rw [← q]; exact ⟨Nat.le_of_ble_eq_true rfl, Nat.le_of_ble_eq_true rfl⟩)
          · (cases q; done)
      · (injection q with q; rw [← q]; exact ⟨Nat.le_of_ble_eq_true rfl, Nat.le_of_ble_eq_true rfl⟩)
    rcases ite_ca q with (⟨-, q⟩ | ⟨-, q⟩)
    · (cases q; done)
    rcases ite_ca q with (⟨-, q⟩ | ⟨-, q⟩)
    · (cases q; done)
    rcases ite_ca q with (⟨-, q⟩ | ⟨-, q⟩)
    · rcases ite_ca q with (⟨-, q⟩ | ⟨-, q⟩)
      · (cases q; done)
      · rcases ite_ca q with (⟨-, q⟩ | ⟨-, q⟩)
        · (cases q; done)
        · (injection q with q; rw [← q]; exact ⟨Nat.le_of_ble_eq_true rfl, Nat.le_of_ble_eq_true rfl⟩)
    rcases ite_ca q with (⟨-, q⟩ | ⟨-, q⟩)
    · rcases ite_ca q with (⟨-, q⟩ | ⟨-, q⟩)
      · rcases ite_ca q with (⟨-, q⟩ | ⟨-, q⟩)
        · rcases ite_ca q with (⟨-, q⟩ | ⟨-, q⟩)
          · (cases q; done)
          · (injection q with q; rw [← q]; exact ⟨Nat.le_of_ble_eq_true rfl, Nat.le_of_ble_eq_true rfl⟩)
        · rcases ite_ca q with (⟨-, q⟩ | ⟨-, q⟩)
          · (injection q with q; rw [← q]; exact ⟨Nat.le_of_ble_eq_true rfl, Nat.le_of_ble_eq_true rfl⟩)
          · (cases q; done)
      · (injection q with q; rw [← q]; exact ⟨Nat.le_of_ble_eq_true rfl, Nat.le_of_ble_eq_true rfl⟩)
    rcases ite_ca q with (⟨-, q⟩ | ⟨-, q⟩)
    · rcases ite_ca q with (⟨-, q⟩ | ⟨-, q⟩)
      · rcases ite_ca q with (⟨-, q⟩ | ⟨-, q⟩)
        · (cases q; done)
        · (injection q with q; rw [← q]; exact ⟨Nat.le_of_ble_eq_true rfl, Nat.le_of_ble_eq_true rfl⟩)
      · (injection q with q; rw [← q]; exact ⟨Nat.le_of_ble_eq_true rfl, Nat.le_of_ble_eq_true rfl⟩)
    rcases ite_ca q with (⟨-, q⟩ | ⟨-, q⟩)
    · cases q2 : xmAg T f pp ee env vs a h n with
      | inl c => rw [q2] at q; injection q with q; rw [← q]; exact xmAg_e _ _ _ _ q2
      | inr r => rw [q2] at q; exact xmAp_e q
    rcases ite_ca q with (⟨-, q⟩ | ⟨-, q⟩)
    · (cases q; done)
    rcases ite_ca q with (⟨-, q⟩ | ⟨-, q⟩)
    · (cases q; done)
    rcases ite_ca q with (⟨-, q⟩ | ⟨-, q⟩)
    · rcases ite_ca q with (⟨-, q⟩ | ⟨-, q⟩)
      · (cases q; done)
      · (injection q with q; rw [← q]; exact ⟨Nat.le_of_ble_eq_true rfl, Nat.le_of_ble_eq_true rfl⟩)
    rcases ite_ca q with (⟨-, q⟩ | ⟨-, q⟩)
    · (cases q; done)
    · (cases q; done)
theorem xmAg_n : ∀ (a : tT) (h : xmHp) (n : Nat) (r : xmHp × Nat × List xmV), xmAg T f pp ee env vs a h n = .inr r → r.2.1 ≤ n
  | .leaf, h, n, r, q => by unfold xmAg at q; injection q with q; rw [← q]; exact Nat.le_refl _
  | .inner g d z a b, h, n, r, q => by
    have Ib := xmAg_n b
    unfold xmAg at q
    have K : ∀ {v : xmV} {h' : xmHp} {n' : Nat}, n' ≤ n → (match xmAg T f pp ee env vs b h' n' with | .inl c => .inl c | .inr r => .inr (r.1, r.2.1, v :: r.2.2) : (Nat × Nat) ⊕ (xmHp × Nat × List xmV)) = .inr r → r.2.1 ≤ n := fun {v h' n'} hn q => by
      cases q2 : xmAg T f pp ee env vs b h' n' with
      | inl c => rw [q2] at q; cases q
      | inr r' =>
        rw [q2] at q
        injection q with q
        rw [← q]
        exact Nat.le_trans (Ib h' n' r' q2) hn
    by_cases c1 : g = 33
    · rw [if_pos c1] at q
      by_cases c2 : isN d.2.2.2.1.2 = true
      · rw [if_pos c2] at q; exact K (Nat.le_refl _) q
      · rw [if_neg c2] at q
        by_cases c3 : xmB (xmSm T f pp ee h env vs d.2.2.2.1.2) = true
        · rw [if_pos c3] at q; exact K (Nat.le_refl _) q
        · rw [if_neg c3] at q; cases q
    · rw [if_neg c1] at q
      by_cases c2 : g = 34
      · rw [if_pos c2] at q
        cases n with
        | zero => cases q
        | succ n => exact K (Nat.le_succ _) q
      · rw [if_neg c2] at q
        exact K (Nat.le_refl _) q
theorem xmAp_n {fr : List xmFr} {n : Nat} {v : xmV} {rest : List xmV} {w : xmM} (q : xmAp h fr n v rest = .inr w) : w.2.2.1 = n := by
  unfold xmAp at q
  simp only at q
  split at q
  · injection q with q; rw [← q]
  · split at q
    · cases q
    · injection q with q; rw [← q]
theorem xmBg_n {fr : List xmFr} {n : Nat} {t : tT} {w : xmM} (q : xmBg T f pp ee h fr n env vs t = .inr w) : w.2.2.1 ≤ n := by
  cases t with
  | leaf => unfold xmBg at q; cases q
  | inner g d z a b =>
    unfold xmBg at q
    change (if g = 1 then _ else _ : (Nat × Nat) ⊕ xmM) = _ at q
    rcases ite_ca q with (⟨-, q⟩ | ⟨-, q⟩)
    · (injection q with q; rw [← q]; exact Nat.le_refl _)
    rcases ite_ca q with (⟨-, q⟩ | ⟨-, q⟩)
    · (injection q with q; rw [← q]; exact Nat.le_refl _)
    rcases ite_ca q with (⟨-, q⟩ | ⟨-, q⟩)
    · (injection q with q; rw [← q]; exact Nat.le_refl _)
    rcases ite_ca q with (⟨-, q⟩ | ⟨-, q⟩)
    · cases q2 : xmC T f pp ee h env vs a 0 with
      | none => rw [q2] at q; cases q
      | some c => rw [q2] at q; injection q with q; rw [← q]; exact Nat.le_refl _
    rcases ite_ca q with (⟨-, q⟩ | ⟨-, q⟩)
    · cases q2 : xmC T f pp ee h env vs a 0 with
      | none => rw [q2] at q; cases q
      | some c =>
        rw [q2] at q
        rcases ite_ca q with (⟨-, q⟩ | ⟨-, q⟩)
        · (injection q with q; rw [← q]; exact Nat.le_refl _)
        · (cases q; done)
    rcases ite_ca q with (⟨-, q⟩ | ⟨-, q⟩)
    · rcases ite_ca q with (⟨-, q⟩ | ⟨-, q⟩)
      · rcases ite_ca q with (⟨-, q⟩ | ⟨-, q⟩)
        · rcases ite_ca q with (⟨-, q⟩ | ⟨-, q⟩)
          · (injection q with q; rw [← q]; exact Nat.le_refl _)
          · (cases q; done)
        · (cases q; done)
      · (cases q; done)
    rcases ite_ca q with (⟨-, q⟩ | ⟨-, q⟩)
    · rcases ite_ca q with (⟨-, q⟩ | ⟨-, q⟩)
      · rcases ite_ca q with (⟨-, q⟩ | ⟨-, q⟩)
        · (cases q; done)
        · rcases ite_ca q with (⟨-, q⟩ | ⟨-, q⟩)
          · (cases q; done)
          · (injection q with q; rw [← q]; exact Nat.le_refl _)
      · (cases q; done)
    rcases ite_ca q with (⟨-, q⟩ | ⟨-, q⟩)
    · (injection q with q; rw [← q]; exact Nat.le_refl _)
    rcases ite_ca q with (⟨-, q⟩ | ⟨-, q⟩)
    · (injection q with q; rw [← q]; exact Nat.le_refl _)
    rcases ite_ca q with (⟨-, q⟩ | ⟨-, q⟩)
    · rcases ite_ca q with (⟨-, q⟩ | ⟨-, q⟩)
      · (injection q with q; rw [← q]; exact Nat.le_refl _)
      · rcases ite_ca q with (⟨-, q⟩ | ⟨-, q⟩)
        · (injection q with q; rw [← q]; exact Nat.le_refl _)
        · (cases q; done)
    rcases ite_ca q with (⟨-, q⟩ | ⟨-, q⟩)
    · rcases ite_ca q with (⟨-, q⟩ | ⟨-, q⟩)
      · rcases ite_ca q with (⟨-, q⟩ | ⟨-, q⟩)
        · rcases ite_ca q with (⟨-, q⟩ | ⟨-, q⟩)
          · (injection q with q; rw [← q]; exact Nat.le_refl _)
          · (cases q; done)
        · rcases ite_ca q with (⟨-, q⟩ | ⟨-, q⟩)
          · (cases q; done)
          · (injection q with q; rw [← q]; exact Nat.le_refl _)
      · (cases q; done)
    rcases ite_ca q with (⟨-, q⟩ | ⟨-, q⟩)
    · rcases ite_ca q with (⟨-, q⟩ | ⟨-, q⟩)
      · rcases ite_ca q with (⟨-, q⟩ | ⟨-, q⟩)
        · (injection q with q; rw [← q]; exact Nat.le_refl _)
        · (cases q; done)
      · (cases q; done)
    rcases ite_ca q with (⟨-, q⟩ | ⟨-, q⟩)
    · cases q2 : xmAg T f pp ee env vs a h n with
      | inl c => rw [q2] at q; cases q
      | inr r => rw [q2] at q; rw [xmAp_n q]; exact xmAg_n _ _ _ _ q2
    rcases ite_ca q with (⟨-, q⟩ | ⟨-, q⟩)
    · (injection q with q; rw [← q]; exact Nat.le_refl _)
    rcases ite_ca q with (⟨-, q⟩ | ⟨-, q⟩)
    · (injection q with q; rw [← q]; exact Nat.le_refl _)
    rcases ite_ca q with (⟨-, q⟩ | ⟨-, q⟩)
    · rcases ite_ca q with (⟨-, q⟩ | ⟨-, q⟩)
      · (injection q with q; rw [← q]; exact Nat.le_refl _)
      · (cases q; done)
    rcases ite_ca q with (⟨-, q⟩ | ⟨-, q⟩)
    · (injection q with q; rw [← q]; exact Nat.le_refl _)
    · (injection q with q; rw [← q]; exact Nat.le_refl _)
end XEN
section XRL
variable {pp kk ee f : Nat → Int32} {tE tN : Nat → tY} {L : List Nat} {V τ : zSt} {N S P A c n cnt len N0 : Nat} {h : xmHp} {fr : List xmFr} {ks : Nat → Nat} {qs : List Nat} {T h0 m : Nat} {y0 : tY}
/-- the reference in its loop -/
def rRl (pp : Nat → Int32) (V : zSt) (N S P A N0 : Nat) (τ : zSt) (x2 x3 x4 : Int32) (w : xmM) : Prop := ∃ c, rXa pp V N S P A τ c w.2.2.1 w.1 w.2.1 ∧ (match w.2.2.2 with
  | .inl y => c + xmW w.2.1 ≤ 10 + 12 * (N0 - w.2.2.1) ∧ x4 = 1 ∧ ∃ nd, x3 = nI nd ∧ nd < N ∧ rTr pp V 0 N S P A y.1 0 0 nd ∧ rEc (V.2.2.1 32) τ c y.2.1 y.2.2 x2
  | .inr v => c + xmW w.2.1 ≤ 6 + 12 * (N0 - w.2.2.1) ∧ x4 = 0 ∧ τ.1 192 = nI v.1 ∧ τ.2.1 193 = v.2)
/-- what waits, one less -/
theorem rXa.pop {F : xmFr} {d d' : Nat} {k2 : Int32} (I : rXa pp V N S P A τ c n h (F :: fr)) (hk : rFk pp V N S P A τ c fr d') (e190 : k2 = nI (xmDp fr)) : rXa pp V N S P A (zI (zI τ 189 (nI d')) 190 k2) c n h fr := by
  obtain ⟨F', ⟨a1, a2, a3, a4, a5⟩, b, y, -, e1, e2, e3⟩ := I
  have K : ∀ nf nd, xKp c nf nd τ (zI (zI τ 189 (nI d')) 190 k2) := fun _ _ => ⟨fun _ _ => ⟨rfl, rfl, rfl, rfl⟩, fun _ _ _ _ _ => rfl, fun _ _ _ _ _ => rfl⟩
  have ne : ∀ j, j ≠ 189 → j ≠ 190 → (zI (zI τ 189 (nI d')) 190 k2).1 j = τ.1 j := fun j h1 h2 => by rw [zI_ne h2, zI_ne h1]
  exact ⟨F'.tr ((xFm.i τ (k := 189) _ (by decide)).tr (xFm.i (zI τ 189 (nI d')) (k := 190) _ (by decide))), ⟨(ne _ (by decide) (by decide)).trans a1, (ne _ (by decide) (by decide)).trans a2, (ne _ (by decide) (by decide)).trans a3, (ne _ (by decide) (by decide)).trans a4, (ne _ (by decide) (by decide)).trans a5⟩, b.kp (K _ 0) (Nat.le_refl _), y.kp ⟨rfl, rfl, rfl, rfl, rfl, rfl⟩, ⟨d', by rw [zI_ne (by decide), zI_eq], rFk.kp (K 0 d') (Nat.le_refl _) fr d' (Nat.le_refl _) hk⟩, by rw [zI_eq, e190], (ne _ (by decide) (by decide)).trans e2, (ne _ (by decide) (by decide)).trans e3⟩
theorem zI_id {τ : zSt} {k : Nat} {v : Int32} (e : τ.1 k = v) : zI τ k v = τ := by
  refine Prod.ext ?_ rfl
  funext j
  show (if j = k then v else τ.1 j) = τ.1 j
  by_cases q : j = k
  · rw [if_pos q, q, e]
  · rw [if_neg q]
set_option maxHeartbeats 2000000 in
/-- **one step of the loop** -/
theorem r_lp1 {x1 x2 x3 x4 : Int32} {w : xmM} (X : rXs T len cnt S P kk pp ee f L V) (hN : N ≤ 2000) (hA : A ≤ 2000) (hN0 : N0 ≤ 20000) (R : rRl pp V N S P A N0 τ x2 x3 x4 w) (Iv : xmI cnt kk f pp ee tE tN (V.2.2.1 32) L y0 w) (hn : xmN N0 w) (nd : w.2.1 = [] → ∀ v, w.2.2.2 ≠ .inr v) (t : Nat) : (∀ e, xmSt T f pp ee w = .inl e → ∃ τ', l_run_238 T (zF h0 qs ks T (m + 1310)) h0 qs ks (t + 3) x1 x2 x3 x4 τ = j_run_332 T (zF h0 qs ks T (m + 1310)) h0 qs ks x1 τ' ∧ xFm V τ' ∧ τ'.1 191 = nI e.1 ∧ τ'.1 164 = nI e.2 ∧ 1 ≤ e.1 ∧ e.1 ≤ 6) ∧ ∀ w', xmSt T f pp ee w = .inr w' → ∃ τ' x2' x3' x4' t', t ≤ t' ∧ l_run_238 T (zF h0 qs ks T (m + 1310)) h0 qs ks (t + 3) x1 x2 x3 x4 τ = l_run_238 T (zF h0 qs ks T (m + 1310)) h0 qs ks t' x1 x2' x3' x4' τ' ∧ rRl pp V N S P A N0 τ' x2' x3' x4' w' := by
  obtain ⟨h, fr, n, ctl⟩ := w
  obtain ⟨c, I, R⟩ := R
  obtain ⟨H, hdp, Iv⟩ := Iv
  obtain ⟨n1, n2, n3, n4⟩ := hn
  have n1 : n ≤ N0 := n1
  have n2 : h.1.length + xmRf fr ≤ N0 - n := n2
  have n3 : h.2.1.length ≤ 6 + (N0 - n) := n3
  have n4 : h.2.2.length ≤ N0 - n := n4
  have I : rXa pp V N S P A τ c n h fr := I
  have H : xmH cnt kk f pp ee tE tN (V.2.2.1 32) L h := H
  have hdp : xmDp fr ≤ 50 := hdp
  have h191 := I.2.2.2.2.2.2.1
  have h164 := I.2.2.2.2.2.2.2
  have ne0 : ∀ e : Nat, 1 ≤ e → e ≤ 6 → ¬ nI e = (0 : Int32) := fun e h1 h2 q => by have := nI_inj' (b := 0) (by omega) (by omega) q; omega
  -- behind an answer of begun() or applies()
  have ENDL : ∀ (a2 a3 a4 : Int32) (τ' : zSt) (e : Nat) (u : Nat), 1 ≤ e → e ≤ 6 → τ'.1 191 = nI e → l_run_238 T (zF h0 qs ks T (m + 1310)) h0 qs ks (u + 1) x1 a2 a3 a4 τ' = j_run_332 T (zF h0 qs ks T (m + 1310)) h0 qs ks x1 τ' := fun a2 a3 a4 τ' e u h1 h2 h3 => by
    rw [l_run_238, if_neg (by rw [h3]; exact ne0 e h1 h2)]
  cases ctl with
  | inl y =>
    obtain ⟨ty, env, vs⟩ := y
    obtain ⟨yy, w, En, hh, hK⟩ := Iv
    obtain ⟨rc, rfl, nd', rfl, r3, r4, r5⟩ := R
    have rc : c + xmW fr ≤ 10 + 12 * (N0 - n) := rc
    have w : xmE cnt kk f pp ee tE tN (V.2.2.1 32) L ty env yy := w
    have En : xmEn tE tN h env vs := En
    have hh : tH ty + xmSg fr ≤ 31 := hh
    have hfr := (xmK.len fr yy hK)
    have J : l_run_238 T (zF h0 qs ks T (m + 1310)) h0 qs ks (t + 3) x1 x2 (nI nd') 1 τ = j_run_257 T (zF h0 qs ks T (m + 1310)) h0 qs ks (l_run_238 T (zF h0 qs ks T (m + 1310)) h0 qs ks (t + 2)) x1 x2 (nI nd') 1 τ := by
      rw [l_run_238, if_pos h191, if_neg (by decide)]
    rw [J]
    unfold j_run_257
    rw [if_neg (by decide), h164]
    cases n with
    | zero =>
      rw [if_pos (show nI 0 = (0 : Int32) from rfl), zlet]
      refine ⟨fun e he => ?_, fun w' he => by unfold xmSt at he; cases he⟩
      unfold xmSt at he
      injection he with he
      subst he
      exact ⟨_, rfl, I.1.tr (xFm.i τ 1 (by decide)), zI_eq _ _ _, (zI_ne (by decide)).trans h164, Nat.le_of_ble_eq_true rfl, Nat.le_of_ble_eq_true rfl⟩
    | succ n =>
      rw [if_neg (show ¬ nI (n + 1) = (0 : Int32) from fun q => by have := nI_inj' (b := 0) (by omega) (by omega) q; omega), zlet, ← nI_p1, nI_pm]
      have I1 : rXa pp V N S P A (zI τ 164 (nI n)) c n h fr := by
        obtain ⟨F', ⟨a1, a2, a3, a4, a5⟩, b, y, ⟨d, d1, d2⟩, e1, e2, e3⟩ := I
        have K : ∀ nf nd, xKp c nf nd τ (zI τ 164 (nI n)) := fun _ _ => ⟨fun _ _ => ⟨rfl, rfl, rfl, rfl⟩, fun _ _ _ _ _ => rfl, fun _ _ _ _ _ => rfl⟩
        have ne : ∀ j, j ≠ 164 → (zI τ 164 (nI n)).1 j = τ.1 j := fun j h1 => zI_ne h1
        exact ⟨F'.tr (xFm.i τ (k := 164) _ (by decide)), ⟨(ne _ (by decide)).trans a1, (ne _ (by decide)).trans a2, (ne _ (by decide)).trans a3, (ne _ (by decide)).trans a4, (ne _ (by decide)).trans a5⟩, b.kp (K _ 0) (Nat.le_refl _), y.kp ⟨rfl, rfl, rfl, rfl, rfl, rfl⟩, ⟨d, (ne _ (by decide)).trans d1, rFk.kp (K 0 d) (Nat.le_refl _) fr d (Nat.le_refl _) d2⟩, (ne _ (by decide)).trans e1, (ne _ (by decide)).trans e2, zI_eq _ _ _⟩
      have B := r_bg (h0 := h0) (qs := qs) (ks := ks) (m := m) (nd := nd') X hN hA I1 w (by omega) H (by omega) (by omega) (by omega) (by omega) hdp En r4 (r5.kp (show rSk τ (zI τ 164 (nI n)) c from fun _ _ => ⟨rfl, rfl, rfl, rfl⟩) (Nat.le_refl _)) (by omega)
      have ex : xmSt T f pp ee (h, fr, n + 1, .inl (ty, env, vs)) = xmBg T f pp ee h fr n env vs ty := rfl
      rw [ex]
      cases q : xmBg T f pp ee h fr n env vs ty with
      | inl e =>
        rw [q] at B
        obtain ⟨x, τ', b1, b2, b3, b4, b5⟩ := B
        refine ⟨fun e' he' => ?_, fun w' he' => (by cases he')⟩
        injection he' with he'
        subst he'
        obtain ⟨l1, l2⟩ := xmBg_e w.2.1.1 q
        rw [b1, zci_at]
        rcases b2 with b2 | b2
        · rw [if_pos b2]
          exact ⟨τ', ENDL _ _ _ τ' e.1 (t + 1) l1 l2 b4, b3, b4, b5, l1, l2⟩
        · rw [if_neg (by rw [b2]; decide)]
          exact ⟨τ', ENDL _ _ _ τ' e.1 (t + 1) l1 l2 b4, b3, b4, b5, l1, l2⟩
      | inr w' =>
        rw [q] at B
        obtain ⟨x, τ', c', b1, b2, b3⟩ := B
        refine ⟨fun e' he' => (by cases he'), fun w'' he' => ?_⟩
        injection he' with he'
        subst he'
        obtain ⟨h', fr', n', ctl'⟩ := w'
        rw [b1, zci_at]
        have hn' : n' ≤ n := xmBg_n q
        cases ctl' with
        | inr v =>
          obtain ⟨b3, b4, b5, b6⟩ := b3
          have b3 : c' + xmW fr' ≤ c + xmW fr + 8 := b3
          rw [if_pos b4]
          exact ⟨τ', _, _, _, t + 2, by omega, rfl, c', b2, by show c' + xmW fr' ≤ 6 + 12 * (N0 - n'); omega, b4, b5, b6⟩
        | inl y =>
          obtain ⟨b3, b4, nd2, b5, b6, b7, b8⟩ := b3
          have b3 : c' + xmW fr' ≤ c + xmW fr + 8 + 4 := b3
          rw [if_neg (by rw [b4]; decide)]
          exact ⟨τ', _, _, _, t + 2, by omega, rfl, c', b2, by show c' + xmW fr' ≤ 10 + 12 * (N0 - n'); omega, b4, nd2, b5, b6, b7, b8⟩
  | inr v =>
    obtain ⟨rc, rfl, r192, r193⟩ := R
    have rc : c + xmW fr ≤ 6 + 12 * (N0 - n) := rc
    obtain ⟨yy, hv, hK⟩ := Iv
    have hv : xmT tE tN h yy v := hv
    cases fr with
    | nil => exact absurd rfl (nd rfl v)
    | cons F fr =>
      obtain ⟨dd, d1, d2⟩ := I.2.2.2.2.1
      have hdd := rFk.le (F :: fr) dd d2
      have hlen := (xmK.len (F :: fr) yy hK)
      -- one turn of the loop with goesOn()
      have J : ∀ (u d' : Nat) (σ : zSt) (a2 a3 : Int32), σ.1 191 = 0 → σ.1 189 = nI (d' + 1) → d' < 19999 → l_run_238 T (zF h0 qs ks T (m + 1310)) h0 qs ks (u + 1) x1 a2 a3 0 σ = zci (b_goesOn T (zF h0 qs ks T (m + 1309)) h0 qs ks σ) fun r4 s2 => l_run_238 T (zF h0 qs ks T (m + 1310)) h0 qs ks u x1 (s2.1 195) (s2.1 194) r4 s2 := fun u d' σ a2 a3 e1 e2 e3 => by
        rw [l_run_238, if_pos e1, if_pos rfl, if_neg (by rw [e2, Int32.le_iff_toInt_le, nI_toInt (by omega)]; show ¬ ((d' + 1 : Nat) : Int) ≤ 0; omega)]
        unfold j_run_257
        rw [if_pos rfl, zE_goesOn]
      have pre : ∀ (d' : Nat) (σ : zSt), σ.1 189 = nI (d' + 1) → zI σ 189 (σ.1 189 - 1) = zI σ 189 (nI d') := fun d' σ e => by rw [e, ← nI_p1, nI_pm]
      cases F with
      | inl x =>
        obtain ⟨u, b, env, vs⟩ := x
        obtain ⟨d', mm, xb, s, e, ⟨f1, f2, f3⟩, ⟨⟨g1, hu'⟩, g2, g3, g4, g5⟩, E, hk⟩ := d2
        subst e
        obtain ⟨k1, yb, w, En, k2, k3⟩ := hK
        have w : xmE cnt kk f pp ee tE tN (V.2.2.1 32) L b (env ++ [u]) yb := w
        have En : xmEn tE tN h env vs := En
        have g2 : nV V mm 3 = nI u := g2
        have ex : xmSt T f pp ee (h, .inl (u, b, env, vs) :: fr, n, .inr v) = .inr (h, fr, n, .inl (b, env ++ [u], vs ++ [v])) := by cases n <;> rfl
        rw [ex]
        refine ⟨fun e' he' => (by cases he'), fun w'' he' => ?_⟩
        injection he' with he'
        subst he'
        have I1 := I.pop (d := d') hk (k2 := nI (xmDp fr)) rfl
        have i190 : (zI τ 189 (nI d')).1 190 = nI (xmDp fr) := (zI_ne (by decide)).trans I.2.2.2.2.2.1
        rw [zI_id i190] at I1
        have hu2 : u ∈ env ++ [u] := List.mem_append_right _ (List.mem_singleton_self _)
        have rto := w.2.2.2.1 u hu2
        have hnd := List.nodup_append.mp w.2.2.1.1
        have ni : u ∉ env := fun q => hnd.2.2 u q u (List.mem_singleton_self _) rfl
        have hu' : u < 2010 := hu'
        rw [J (t + 2) d' τ x2 x3 h191 d1 (by omega)]
        unfold b_goesOn
        have z9 : zin (nI d') 20000 = true := zin_n (by omega) (by decide)
        have c9 : (nI d').toNatClampNeg = d' := nI_clamp (by omega)
        have q9 : (zI τ 189 (nI d')).1 189 = nI d' := zI_eq _ _ _
        have f1' : (zI τ 189 (nI d')).2.2.1 116 d' = 0 := f1
        have f2' : (zI τ 189 (nI d')).2.2.1 117 d' = nI mm := f2
        have f3' : (zI τ 189 (nI d')).2.2.1 118 d' = s := f3
        rw [zlet, pre d' τ d1, q9, zgd_at z9, c9, if_pos f1', zgd_at z9, zgd_at z9, f2', zgd_at (zin_n (by omega) (by decide)), nI_clamp (by omega), (I1.1.r6 mm).2.1, g2, zgd_at (zin_n (by omega) (by decide)), nI_clamp (by omega), I1.1.1 32 (by decide), f3']
        have e192 : (zI τ 189 (nI d')).1 192 = nI v.1 := (zI_ne (by decide)).trans r192
        have e193 : (zI τ 189 (nI d')).2.1 193 = v.2 := r193
        rw [e192, e193, r_slot I1.2.1.1 (by omega), zci_at, zgd_at (zin_n (by omega) (by decide))]
        have E1 : rEc (V.2.2.1 32) (slS (zI τ 189 (nI d')) c s (V.2.2.1 32 u) (nI v.1) v.2) (c + 1) (env ++ [u]) (vs ++ [v]) (nI c) := (E.kp (show rSk τ (zI τ 189 (nI d')) c from fun _ _ => ⟨rfl, rfl, rfl, rfl⟩) (Nat.le_refl _)).sn (L := L) X.2.2.1.1 (fun w' hw' => w.2.2.2.1 w' (List.mem_append_left _ hw')) rto ni En.1
        have I2 := I1.sl (x1 := s) (x2 := V.2.2.1 32 u) (x3 := nI v.1) (x4 := v.2)
        rw [(I2.1.r6 mm).2.2.2.2, g3, r_then, zci_at, zgd_at (by decide), zci_at]
        refine ⟨_, _, _, _, t + 2, by omega, rfl, c + 1, (I2.i (by omega)).i (by omega), ?_, rfl, xb, ?_, g4, g5, ?_⟩
        · show c + 1 + xmW fr ≤ 10 + 12 * (N0 - n)
          have : c + xmW fr ≤ 6 + 12 * (N0 - n) := rc
          omega
        · rw [zI_ne (by decide), zI_eq]
        · rw [zI_eq]
          exact E1.kp (show rSk (slS (zI τ 189 (nI d')) c s (V.2.2.1 32 u) (nI v.1) v.2) (zI (zI (slS (zI τ 189 (nI d')) c s (V.2.2.1 32 u) (nI v.1) v.2) 194 (nI xb)) 195 (nI c)) (c + 1) from fun _ _ => ⟨rfl, rfl, rfl, rfl⟩) (Nat.le_refl _)
      | inr rest =>
        have dp : xmDp (.inr rest :: fr) = xmDp fr + 1 := rfl
        have e190 : τ.1 190 - 1 = nI (xmDp fr) := by rw [I.2.2.2.2.2.1, dp, ← nI_p1, nI_pm]
        rcases d2 with ⟨er, d', e, f1, hk⟩ | ⟨⟨er, hr4⟩, d', s, e, f1, ⟨f2, f3⟩, hs, hk⟩
        · subst er e
          have ex : xmSt T f pp ee (h, .inr [] :: fr, n, .inr v) = .inr (h, fr, n, .inr v) := by cases n <;> rfl
          rw [ex]
          refine ⟨fun e' he' => (by cases he'), fun w'' he' => ?_⟩
          injection he' with he'
          subst he'
          have I1 := I.pop (d := d') hk (k2 := nI (xmDp fr)) rfl
          rw [J (t + 2) d' τ x2 x3 h191 d1 (by omega)]
          unfold b_goesOn
          have z9 : zin (nI d') 20000 = true := zin_n (by omega) (by decide)
          have c9 : (nI d').toNatClampNeg = d' := nI_clamp (by omega)
          have q9 : (zI τ 189 (nI d')).1 189 = nI d' := zI_eq _ _ _
          have f1' : (zI τ 189 (nI d')).2.2.1 116 d' = 1 := f1
          have e190' : (zI τ 189 (nI d')).1 190 - 1 = nI (xmDp fr) := by rw [zI_ne (by decide)]; exact e190
          rw [zlet, pre d' τ d1, q9, zgd_at z9, c9, f1', if_neg (by decide), if_pos rfl, zlet, e190', zci_at]
          refine ⟨_, _, _, _, t + 2, by omega, rfl, c, I1, ?_, rfl, ?_, r193⟩
          · show c + xmW fr ≤ 6 + 12 * (N0 - n)
            have : c + (0 + xmW fr) ≤ 6 + 12 * (N0 - n) := rc
            omega
          · rw [zI_ne (by decide), zI_ne (by decide)]; exact r192
        · subst e
          cases rest with
          | nil => exact absurd rfl er
          | cons x0 rest =>
            have ex : xmSt T f pp ee (h, .inr (x0 :: rest) :: fr, n, .inr v) = xmAp h fr n v (x0 :: rest) := by cases n <;> rfl
            rw [ex]
            have I1 := I.pop (d := d') hk (k2 := nI (xmDp fr)) rfl
            -- first the call's end
            rw [J (t + 2) (d' + 1) τ x2 x3 h191 d1 (by omega)]
            unfold b_goesOn
            have z9 : zin (nI (d' + 1)) 20000 = true := zin_n (by omega) (by decide)
            have c9 : (nI (d' + 1)).toNatClampNeg = d' + 1 := nI_clamp (by omega)
            have q9 : (zI τ 189 (nI (d' + 1))).1 189 = nI (d' + 1) := zI_eq _ _ _
            have f1' : (zI τ 189 (nI (d' + 1))).2.2.1 116 (d' + 1) = 1 := f1
            have e190' : (zI τ 189 (nI (d' + 1))).1 190 - 1 = nI (xmDp fr) := by rw [zI_ne (by decide)]; exact e190
            rw [zlet, pre (d' + 1) τ d1, q9, zgd_at z9, c9, f1', if_neg (by decide), if_pos rfl, zlet, e190', zci_at]
            -- then its ARGS
            rw [J (t + 1) d' _ _ _ (by rw [zI_ne (by decide), zI_ne (by decide)]; exact h191) (by rw [zI_ne (by decide), zI_eq]) (by omega)]
            unfold b_goesOn
            have z8 : zin (nI d') 20000 = true := zin_n (by omega) (by decide)
            have c8 : (nI d').toNatClampNeg = d' := nI_clamp (by omega)
            have ez : zI (zI (zI τ 189 (nI (d' + 1))) 190 (nI (xmDp fr))) 189 (nI d') = zI (zI τ 189 (nI d')) 190 (nI (xmDp fr)) := by
              refine Prod.ext ?_ rfl
              funext j
              show (if j = 189 then _ else if j = 190 then _ else if j = 189 then _ else _) = (if j = 190 then _ else if j = 189 then _ else _)
              by_cases qa : j = 189
              · subst qa; rfl
              · simp only [qa, if_false]
            have q8 : (zI (zI τ 189 (nI d')) 190 (nI (xmDp fr))).1 189 = nI d' := by rw [zI_ne (by decide), zI_eq]
            have f2' : (zI (zI τ 189 (nI d')) 190 (nI (xmDp fr))).2.2.1 116 d' = 2 := f2
            have f3' : (zI (zI τ 189 (nI d')) 190 (nI (xmDp fr))).2.2.1 117 d' = s := f3
            rw [zlet, pre d' _ (by rw [zI_ne (by decide), zI_eq]), ez, q8, zgd_at z8, c8, f2', if_neg (by decide), if_neg (by decide), zgd_at z8, f3']
            have hr : xmAr tE tN h yy (x0 :: rest) := hK.1
            have B := r_app (h0 := h0) (qs := qs) (ks := ks) (m := m + 1306) (x1 := s) X hN I1 H (by have a := hlen.1; have b := hlen.2; rw [List.length_cons] at a; omega) (by omega) (by omega) hv hr (fun q => by cases q) r193 (rCh.kp (show rSk τ (zI (zI τ 189 (nI d')) 190 (nI (xmDp fr))) c from fun _ _ => ⟨rfl, rfl, rfl, rfl⟩) (Nat.le_refl _) _ _ hs) hr4 (by omega)
            have B := rOt_bo B
            cases q : xmAp h fr n v (x0 :: rest) with
            | inl e =>
              rw [q] at B
              obtain ⟨x, τ', b1, b2, b3, b4, b5⟩ := B
              refine ⟨fun e' he' => ?_, fun w' he' => (by cases he')⟩
              injection he' with he'
              subst he'
              obtain ⟨l1, l2⟩ := xmAp_e q
              rw [b1, zci_at]
              exact ⟨τ', ENDL _ _ _ τ' e.1 t l1 l2 b4, b3, b4, b5, l1, l2⟩
            | inr w' =>
              rw [q] at B
              obtain ⟨x, τ', c', b1, b2, b3⟩ := B
              refine ⟨fun e' he' => (by cases he'), fun w'' he' => ?_⟩
              injection he' with he'
              subst he'
              obtain ⟨h', fr', n', ctl'⟩ := w'
              have hn' : n' = n := xmAp_n q
              subst hn'
              rw [b1, zci_at]
              have rc : c + ((x0 :: rest).length + xmW fr) ≤ 6 + 12 * (N0 - n') := rc
              cases ctl' with
              | inr v =>
                obtain ⟨b3, b4, b5, b6⟩ := b3
                have b3 : c' + xmW fr' ≤ c + xmW fr + (x0 :: rest).length := b3
                exact ⟨τ', _, _, _, t + 1, by omega, rfl, c', b2, by show c' + xmW fr' ≤ 6 + 12 * (N0 - n'); omega, b4, b5, b6⟩
              | inl y =>
                obtain ⟨b3, b4, nd2, b5, b6, b7, b8⟩ := b3
                have b3 : c' + xmW fr' ≤ c + xmW fr + (x0 :: rest).length + 4 := b3
                exact ⟨τ', _, _, _, t + 1, by omega, rfl, c', b2, by show c' + xmW fr' ≤ 10 + 12 * (N0 - n'); omega, b4, nd2, b5, b6, b7, b8⟩
end XRL
