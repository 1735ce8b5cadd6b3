/-! the class's parser: functions.add -/
section CQL
variable {κ : oKv} {sz T n m len cnt : Nat} {kk pp ee f : Nat → Int32} {A : Nat → Nat} {nq ni : Int32} {rt : Value} {σ σ' : oSt} {D : cDt} {at' cd : Nat} {cn am bd nf ff : Int32}
set_option maxHeartbeats 1000000 in
theorem c_fadd {b : Nat} {fs : List Value} (h : cV κ sz len cnt kk pp ee f A nq ni rt σ D at' cd cn am bd nf ff) (hb : σ.1 b = some (.inr (7, fs))) (hm : 6 ≤ n) : ∃ σ' D', oF κ T n 227 [va_rf (some (A 9)), va_rf (some b)] σ = some (some (.int 1), σ') ∧ cG κ sz len cnt kk pp ee f A σ' D' ∧ σ'.1 (A 0) = σ.1 (A 0) ∧ cFr A σ D σ' D' ∧ (∀ a, a < σ.2.1 → a ≠ A 9 → a ≠ D.1.2.1 → σ'.1 a = σ.1 a) ∧ (D'.1.2.2.2.2 = (D.1.2.2.2.2.1, D.1.2.2.2.2.2 + 1) ∧ D'.2.1 = D.2.1 ∧ D'.2.2.1 = D.2.2.1) ∧ ((∀ j, j < D.1.2.2.2.2.2 → D'.2.2.2 j = D.2.2.2 j) ∧ D'.2.2.2 D.1.2.2.2.2.2 = some b) ∧ (σ'.2.2.1 ≤ σ.2.2.1 + 1 ∧ σ'.2.2.2 + 4 * D.1.2.2.1 + 4 * D.1.2.2.2.1 ≤ σ.2.2.2 + 4 * D'.1.2.2.1 + 4 * D'.1.2.2.2.1) := by
  obtain ⟨m, rfl⟩ : ∃ m, n = m + 6 := ⟨n - 6, by omega⟩
  obtain ⟨hg, h0, h4, h5, h6, h7⟩ := h
  have hg' := hg
  obtain ⟨⟨a1, a2, a3, a4⟩, ⟨b1, b2, b3, b4, b5, b6, b7⟩, c1, ⟨⟨mc1, d1⟩, ⟨mc', d2⟩, d3, d4, d5, d6⟩, e1⟩ := hg
  have ltd : D.1.1 < σ.2.1 := hg'.lt (by unfold cSt; simp)
  have lfd : D.1.2.1 < σ.2.1 := hg'.lt (by unfold cSt; simp)
  obtain ⟨σ', d', cap', g', l1, l2, l3, l4, l5, l6⟩ := l_add (κ := κ) (T := T) (n := m) (a2 _ a4) (by omega) d2 hb (by decide) (by decide) (by omega) (a1 _ (Nat.le_refl _))
  have hA9 : A 9 < σ.2.1 := alt a1 d2.1
  have hn' : σ.2.1 ≤ σ'.2.1 := by
    rcases l6 with ⟨-, -, z⟩ | ⟨-, -, -, -, z⟩
    · rw [z]; exact Nat.le_refl _
    · rw [z]; exact Nat.le_succ _
  have hd' : d' = D.1.2.1 ∨ (d' = σ.2.1 ∧ σ'.2.1 = σ.2.1 + 1) := by
    rcases l6 with ⟨z, -⟩ | ⟨z, -, -, -, z2⟩
    · exact Or.inl z
    · exact Or.inr ⟨z, by rw [z2]⟩
  have key : ∀ a, a < σ.2.1 → a ≠ A 9 → a ≠ D.1.2.1 → σ'.1 a = σ.1 a := fun a ha h8 htd => l5 a h8 (by omega)
  have ne : ∀ a c, σ.1 a = some c → (∀ x, c ≠ .inl (.object "java/lang/Object", x)) → (∀ gs, c ≠ .inr (1, gs)) → σ'.1 a = some c := fun a c e hc hc1 => by
    rw [key a (alt a1 e) (fun z => by rw [z, d2.1] at e; cases e; exact hc1 _ rfl) (fun z => by
      rcases d2.2.1 with ⟨-, -, q, q'⟩ | ⟨q, -⟩
      · rw [z, q'] at e; cases e
      · rw [z, q] at e; cases e; exact hc _ rfl)]
    exact e
  -- the row of told is as it was
  have grow : D.1.2.1 = κ.2.2.1 → d' = σ.2.1 := fun z => by
    rcases d2.2.1 with ⟨q1, q2, q3, q4⟩ | ⟨q1, -⟩
    · rcases l6 with ⟨y1, y2, -⟩ | ⟨y1, -⟩
      · exfalso
        rcases l2.2.1 with ⟨w1, -⟩ | ⟨-, w2, w3⟩
        · omega
        · omega
      · exact y1
    · rw [z, a2 _ a4] at q1; cases q1
  have nd1 : D.1.1 ≠ A 9 := fun q => by
    rcases d1.2.1 with ⟨-, -, -, q2⟩ | ⟨q2, -⟩
    · rw [q, d2.1] at q2; cases q2
    · rw [q, d2.1] at q2; cases q2
  have hfd : σ'.1 D.1.1 = σ.1 D.1.1 := by
    by_cases c : D.1.1 = D.1.2.1
    · have z : D.1.1 = κ.2.2.1 := by rcases d4 with y | y
                                     · exact absurd c y
                                     · exact y
      have := grow (c.symm.trans z)
      exact l5 _ nd1 (by omega)
    · exact key _ ltd nd1 c
  refine ⟨σ', ((D.1.1, d', D.1.2.2.1, cap', D.1.2.2.2.2.1, D.1.2.2.2.2.2 + 1), D.2.1, D.2.2.1, g'), l1, ⟨⟨fun q hq => ?_, fun q hq => ?_, by omega, a4⟩, ⟨?_, b2.keep ?_ ?_, ?_, ?_, ?_, b6, b7⟩, ?_, ⟨⟨mc1, ?_⟩, ⟨_, l2⟩, d3, ?_, d5, ?_⟩, e1⟩, ?_, ⟨hn', fun a ha hmu => ?_, Or.inl rfl, ?_⟩, key, ⟨rfl, rfl, rfl⟩, ⟨l3, l4⟩, ?_⟩
  · rw [l5 q (by omega) (by omega)]
    exact a1 q (by omega)
  · have hq8 : q ≠ A 9 := fun z => by
      have w := d2.1
      rw [← z, a2 q hq] at w; cases w
    rcases hd' with z | z
    · by_cases zq : q = D.1.2.1
      · exfalso
        rcases l2.2.1 with ⟨w1, -⟩ | ⟨w1, -⟩
        · omega
        · rcases d2.2.1 with ⟨q1, q2, q3, q4⟩ | ⟨q1, -⟩
          · have := grow q3; omega
          · rw [← zq, a2 q hq] at q1; cases q1
      · rw [l5 q hq8 (by omega)]; exact a2 q hq
    · rw [l5 q hq8 (by omega)]; exact a2 q hq
  · exact ne _ _ b1 (fun x z => by cases z) (fun x z => by cases z)
  · obtain ⟨fs', q⟩ := b2.r
    rw [q]; exact ne _ _ q (fun x z => by cases z) (fun x z => by cases z)
  · rcases b2.v with ⟨fs', q⟩ | ⟨x', q⟩
    · rw [q]; exact ne _ _ q (fun x z => by cases z) (fun x z => by cases z)
    · rw [q]; exact ne _ _ q (fun x z => by cases z) (fun x z => by cases z)
  · exact ne _ _ b3 (fun x z => by cases z) (fun x z => by cases z)
  · exact ne _ _ b4 (fun x z => by cases z) (fun x z => by cases z)
  · exact ne _ _ b5 (fun x z => by cases z) (fun x z => by cases z)
  · exact ne _ _ c1 (fun x z => by injection z with z; injection z with z1 z2; injection z1 with z3; exact absurd z3 (by decide)) (fun x z => by cases z)
  · refine d1.keep (key _ (alt a1 d1.1) d3 (fun z => by
      rcases d2.2.1 with ⟨-, -, q, q'⟩ | ⟨q, -⟩
      · rw [← z, d1.1] at q'; cases q'
      · rw [← z, d1.1] at q; cases q)) hfd (fun a gs e => ⟨gs, ne a _ e (fun x z => by cases z) (fun x z => by cases z)⟩)
  · show D.1.1 ≠ d' ∨ D.1.1 = κ.2.2.1
    rcases hd' with z | z
    · rw [z]; exact d4
    · exact Or.inl (by omega)
  · show cap' ≤ 10 + 2 * (D.1.2.2.2.2.2 + 1)
    rcases l6 with ⟨-, z, -⟩ | ⟨-, z1, z2, z3, -⟩
    · omega
    · by_cases c : D.1.2.2.2.1 = 0
      · have := z2 c; omega
      · have := z3 (by omega); omega
  · exact (ne _ _ h0 (fun x z => by cases z) (fun x z => by cases z)).trans h0.symm
  · exact key a ha (fun z => hmu (Or.inr (Or.inr (Or.inr (Or.inl z))))) (fun z => hmu (Or.inr (Or.inr (Or.inr (Or.inr (Or.inr z))))))
  · rcases hd' with z | z
    · exact Or.inl z
    · exact Or.inr (show σ.2.1 ≤ d' by omega)
  · show σ'.2.2.1 ≤ σ.2.2.1 + 1 ∧ σ'.2.2.2 + 4 * D.1.2.2.1 + 4 * D.1.2.2.2.1 ≤ σ.2.2.2 + 4 * D.1.2.2.1 + 4 * cap'
    rcases l6 with ⟨-, z, z2⟩ | ⟨-, z1, z2, z3, z4⟩
    · rw [z2]; omega
    · rw [z4]
      show σ.2.2.1 + 1 ≤ σ.2.2.1 + 1 ∧ σ.2.2.2 + cap' + 4 * D.1.2.2.1 + 4 * D.1.2.2.2.1 ≤ σ.2.2.2 + 4 * D.1.2.2.1 + 4 * cap'
      by_cases c : D.1.2.2.2.1 = 0
      · have := z2 c; omega
      · have := z3 (by omega)
        have h10 : 10 ≤ D.1.2.2.2.1 := by
          rcases d2.2.1 with ⟨-, q, -⟩ | ⟨-, -, q⟩
          · omega
          · exact q
        omega
end CQL
