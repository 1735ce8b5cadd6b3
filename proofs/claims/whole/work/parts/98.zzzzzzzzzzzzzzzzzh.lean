/-! the reference: decide() begins: all is empty, INPUTS are told -/
/-- what decide() empties -/
def dF1 (τ τ' : zSt) : Prop := (∀ k, k ∉ uCt → k ≠ 131 → τ'.1 k = τ.1 k) ∧ τ'.2.1 = τ.2.1 ∧ (∀ k, k ≠ 66 → k ≠ 89 → τ'.2.2.1 k = τ.2.2.1 k) ∧ τ'.2.2.2 = τ.2.2.2
/-- nothing is there yet -/
def dEm (τ : zSt) : Prop := uVn τ (fun _ => 0) ∧ rCo τ [] ∧ iI τ ∧ ∀ x, x < 1501 → τ.2.2.1 66 x = 0
section DCB
variable {ks : Nat → Nat} {qs : List Nat} {T n h0 : Nat} {τ : zSt}
theorem r_dc62 {call : zCl} : ∀ (d j t : Nat) (τ : zSt), j + d = 1501 → d < t → (∀ x, x < j → τ.2.2.1 89 x = -1) → ∃ τ', l_decide_62 T call h0 qs ks t (nI j) τ = l_decide_84 T call h0 qs ks T 0 τ' ∧ (τ'.1 = τ.1 ∧ τ'.2.1 = τ.2.1 ∧ (∀ k, k ≠ 89 → τ'.2.2.1 k = τ.2.2.1 k) ∧ τ'.2.2.2 = τ.2.2.2) ∧ ∀ x, x < 1501 → τ'.2.2.1 89 x = -1
  | 0, j, t, τ, hj, ht, h => by
    obtain ⟨t, rfl⟩ : ∃ t', t = t' + 1 := ⟨t - 1, by omega⟩
    rw [l_decide_62, if_pos (show (1501 : Int32) ≤ nI j from nI_le (a := 1501) (by omega) (by omega))]
    exact ⟨τ, rfl, ⟨rfl, rfl, fun _ _ => rfl, rfl⟩, fun x hx => h x (by omega)⟩
  | d + 1, j, t, τ, hj, ht, h => by
    obtain ⟨t, rfl⟩ : ∃ t', t = t' + 1 := ⟨t - 1, by omega⟩
    obtain ⟨τ', a1, ⟨a2, a3, a4, a5⟩, a6⟩ := r_dc62 (call := call) d (j + 1) t (zA τ 89 (upd (τ.2.2.1 89) j (-1))) (by omega) (by omega) (fun x hx => by
      show (if x = j then (-1 : Int32) else τ.2.2.1 89 x) = -1
      by_cases z : x = j
      · rw [if_pos z]
      · rw [if_neg z]; exact h x (by omega))
    refine ⟨τ', ?_, ⟨a2, a3, fun k hk => (a4 k hk).trans (if_neg hk), a5⟩, a6⟩
    rw [l_decide_62, if_neg (show ¬ (1501 : Int32) ≤ nI j from nI_ge (a := j) (b := 1501) (by omega) (by omega)), zgd_at (zin_n (by omega) (by decide)), nI_clamp (by omega), nI_p1]
    exact a1
theorem r_dc84 {call : zCl} : ∀ (d j t : Nat) (τ : zSt), j + d = 1501 → d < t → (∀ x, x < j → τ.2.2.1 66 x = 0) → ∃ τ', l_decide_84 T call h0 qs ks t (nI j) τ = l_decide_108 T call h0 qs ks T (-1) 0 τ' ∧ (τ'.1 = τ.1 ∧ τ'.2.1 = τ.2.1 ∧ (∀ k, k ≠ 66 → τ'.2.2.1 k = τ.2.2.1 k) ∧ τ'.2.2.2 = τ.2.2.2) ∧ ∀ x, x < 1501 → τ'.2.2.1 66 x = 0
  | 0, j, t, τ, hj, ht, h => by
    obtain ⟨t, rfl⟩ : ∃ t', t = t' + 1 := ⟨t - 1, by omega⟩
    rw [l_decide_84, if_pos (show (1501 : Int32) ≤ nI j from nI_le (a := 1501) (by omega) (by omega))]
    exact ⟨τ, rfl, ⟨rfl, rfl, fun _ _ => rfl, rfl⟩, fun x hx => h x (by omega)⟩
  | d + 1, j, t, τ, hj, ht, h => by
    obtain ⟨t, rfl⟩ : ∃ t', t = t' + 1 := ⟨t - 1, by omega⟩
    obtain ⟨τ', a1, ⟨a2, a3, a4, a5⟩, a6⟩ := r_dc84 (call := call) d (j + 1) t (zA τ 66 (upd (τ.2.2.1 66) j 0)) (by omega) (by omega) (fun x hx => by
      show (if x = j then (0 : Int32) else τ.2.2.1 66 x) = 0
      by_cases z : x = j
      · rw [if_pos z]
      · rw [if_neg z]; exact h x (by omega))
    refine ⟨τ', ?_, ⟨a2, a3, fun k hk => (a4 k hk).trans (if_neg hk), a5⟩, a6⟩
    rw [l_decide_84, if_neg (show ¬ (1501 : Int32) ≤ nI j from nI_ge (a := j) (b := 1501) (by omega) (by omega)), zgd_at (zin_n (by omega) (by decide)), nI_clamp (by omega), nI_p1]
    exact a1
/-- decide() up to the INPUTS -/
theorem r_dcB (hT : 1600 ≤ T) : ∃ τ1, zF h0 qs ks T (n + 1) 110 [.ref h0] τ = l_decide_108 T (zF h0 qs ks T n) h0 qs ks T (-1) 0 τ1 ∧ dF1 τ τ1 ∧ dEm τ1 := by
  rw [zE_decide]
  unfold b_decide
  simp only [zlet]
  generalize e0 : zI (zI (zI (zI (zI (zI (zI (zI (zI (zI (zI (zI τ 75 0) 79 0) 85 0) 91 0) 98 0) 99 0) 100 0) 109 0) 110 0) 116 0) 123 0) 131 0 = σ
  have F : ∀ k, (k ∈ uCt ∨ k = 131 → σ.1 k = 0) ∧ (k ∉ uCt → k ≠ 131 → σ.1 k = τ.1 k) := fun k => by
    rw [← e0]
    unfold uCt
    simp only [List.mem_cons, List.not_mem_nil, or_false]
    show _ ∧ (_ → _ → (if k = 131 then (0 : Int32) else if k = 123 then 0 else if k = 116 then 0 else if k = 110 then 0 else if k = 109 then 0 else if k = 100 then 0 else if k = 99 then 0 else if k = 98 then 0 else if k = 91 then 0 else if k = 85 then 0 else if k = 79 then 0 else if k = 75 then 0 else τ.1 k) = τ.1 k)
    constructor
    · intro h
      show (if k = 131 then (0 : Int32) else if k = 123 then 0 else if k = 116 then 0 else if k = 110 then 0 else if k = 109 then 0 else if k = 100 then 0 else if k = 99 then 0 else if k = 98 then 0 else if k = 91 then 0 else if k = 85 then 0 else if k = 79 then 0 else if k = 75 then 0 else τ.1 k) = 0
      rcases h with (h | h | h | h | h | h | h | h | h | h | h) | h <;> rw [h] <;> rfl
    · intro h h'
      simp only [not_or] at h
      obtain ⟨q1, q2, q3, q4, q5, q6, q7, q8, q9, q10, q11⟩ := h
      rw [if_neg h', if_neg q11, if_neg q10, if_neg q9, if_neg q8, if_neg q7, if_neg q6, if_neg q5, if_neg q4, if_neg q3, if_neg q2, if_neg q1]
  have G : σ.2 = τ.2 := by rw [← e0]; rfl
  obtain ⟨σ1, a1, ⟨a2, a3, a4, a5⟩, a6⟩ := r_dc62 (h0 := h0) (qs := qs) (ks := ks) (T := T) (call := zF h0 qs ks T n) 1501 0 T σ (Nat.zero_add _) (by omega) (fun x hx => absurd hx (Nat.not_lt_zero _))
  have a1 : l_decide_62 T (zF h0 qs ks T n) h0 qs ks T 0 σ = _ := a1
  obtain ⟨σ2, b1, ⟨b2, b3, b4, b5⟩, b6⟩ := r_dc84 (h0 := h0) (qs := qs) (ks := ks) (T := T) (call := zF h0 qs ks T n) 1501 0 T σ1 (Nat.zero_add _) (by omega) (fun x hx => absurd hx (Nat.not_lt_zero _))
  have b1 : l_decide_84 T (zF h0 qs ks T n) h0 qs ks T 0 σ1 = _ := b1
  rw [a1, b1]
  have e1 : σ2.1 = σ.1 := b2.trans a2
  have e89 : σ2.2.2.1 89 = σ1.2.2.1 89 := b4 89 (by decide)
  refine ⟨σ2, rfl, ⟨fun k h1 h2 => by rw [e1]; exact (F k).2 h1 h2, by rw [b3, a3, G], fun k h1 h2 => by rw [b4 k h1, a4 k h2, G], by rw [b5, a5, G]⟩, fun k hk => ⟨by rw [e1, (F k).1 (Or.inl hk)]; rfl, Nat.zero_le _⟩, ⟨by rw [e1, (F 131).1 (Or.inr rfl)]; rfl, Nat.zero_le _, List.nodup_nil, fun k x z => (by cases z), fun x hx _ => by rw [e89]; exact a6 x hx⟩, ⟨0, 0, fun _ => 0, fun _ => 0, ⟨by rw [e1, (F 98).1 (Or.inl (by decide))]; rfl, Nat.zero_le _⟩, ⟨by rw [e1, (F 99).1 (Or.inl (by decide))]; rfl, Nat.zero_le _⟩, fun i hi => absurd hi (Nat.not_lt_zero _), fun j hj => absurd hj (Nat.not_lt_zero _)⟩, b6⟩
end DCB
