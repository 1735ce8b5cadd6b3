/-! the class's parser: a NAME into a list of the tree's own -/
section CQN
variable {κ : oKv} {sz T n m len cnt : Nat} {kk pp ee f : Nat → Int32} {A : Nat → Nat} {nq ni : Int32} {rt : Value} {σ σ' : oSt} {D D' : cDt} {at' cd : Nat} {cn am bd nf ff : Int32} {lo pa d cap q b : Nat} {mc : Int32} {g : Nat → Option Nat} {fs : List Value}
set_option maxHeartbeats 1000000 in
theorem c_nadd (h : cV κ sz len cnt kk pp ee f A nq ni rt σ D at' cd cn am bd nf ff) (hA : ∀ k, 1 ≤ k → k ≤ 6 → A k < lo) (hl : cLs κ σ pa d cap q mc g 6) (hd : cOk A D lo σ d ∨ (d = κ.2.2.1 ∧ σ.1 d = none)) (hp : cOk A D lo σ pa) (hc : cap ≤ 10 + 2 * q) (hq : q ≤ 4000) (hb : σ.1 b = some (.inr (6, fs))) (hm : 6 ≤ m) : ∃ σ' d' cap' g', oF κ T m 227 [va_rf (some pa), va_rf (some b)] σ = some (some (.int 1), σ') ∧ cV κ sz len cnt kk pp ee f A nq ni rt σ' D at' cd cn am bd nf ff ∧ cLs κ σ' pa d' cap' (q + 1) (mc + 1) g' 6 ∧ cOk A D lo σ' d' ∧ cOk A D lo σ' pa ∧ cap' ≤ 10 + 2 * (q + 1) ∧ ((∀ j, j < q → g' j = g j) ∧ g' q = some b) ∧ (∀ a, a ≠ pa → a ≠ d' → σ'.1 a = σ.1 a) ∧ (d' = d ∨ d' = σ.2.1) ∧ σ.2.1 ≤ σ'.2.1 ∧ (σ'.2.2.1 ≤ σ.2.2.1 + 1 ∧ σ'.2.2.2 + 4 * cap ≤ σ.2.2.2 + 4 * cap') := by
  have lowσ : κ.2.2.1 < sz := h.1.1.2.2.2
  obtain ⟨m6, hm6⟩ : ∃ m6, m = m6 + 6 := ⟨m - 6, by omega⟩
  obtain ⟨σ5, d', pc', gg', q1, q2, q3, q4, q5, q6⟩ := l_add (κ := κ) (T := T) (n := m6) (h.1.1.2.1 _ lowσ) (by have := h.1.1.2.2.1; omega) hl hb (by decide) (by decide) (by omega) (h.1.1.1 _ (Nat.le_refl _))
  rw [← hm6] at q1
  have hd' : d' = d ∨ (d' = σ.2.1 ∧ σ5.2.1 = σ.2.1 + 1) := by
    rcases q6 with ⟨z, -⟩ | ⟨z, -, -, -, z2⟩
    · exact Or.inl z
    · exact Or.inr ⟨z, by rw [z2]⟩
  have hn5 : σ.2.1 ≤ σ5.2.1 := by
    rcases q6 with ⟨-, -, z2⟩ | ⟨-, -, -, -, z2⟩
    · rw [z2]; exact Nat.le_refl _
    · rw [z2]; exact Nat.le_succ _
  have okd : d' = d → cOk A D lo σ d := fun z => by
    rcases hd with y | ⟨y, y'⟩
    · exact y
    · exfalso
      have w := q2.2.1
      rcases w with ⟨w1, -⟩ | ⟨w1, w2, w3⟩
      · omega
      · rcases hl.2.1 with ⟨x1, x2, x3, x4⟩ | ⟨x1, -⟩
        · rcases q6 with ⟨-, z2, -⟩ | ⟨z2, -⟩
          · omega
          · have : d < sz := by rw [x3]; exact lowσ
            have := h.1.1.2.2.1
            omega
        · rw [y'] at x1; cases x1
  have row4 : ∀ c, σ.1 d = some c → ∃ y, c = .inl (.object "java/lang/Object", y) := fun c ec => by
    rcases hl.2.1 with ⟨-, -, -, y⟩ | ⟨y, -⟩
    · rw [y] at ec; cases ec
    · rw [y] at ec; cases ec; exact ⟨_, rfl⟩
  have NEc : ∀ x c, σ.1 x = some c → (∀ fs, c ≠ .inr (1, fs)) → (∀ y, c ≠ .inl (.object "java/lang/Object", y)) → σ5.1 x = some c := fun x c ec c1 c2 => by
    rw [q5 x (fun z => by rw [z, hl.1] at ec; cases ec; exact c1 _ rfl) (fun z => by
      rcases hd' with y | y
      · rw [z, y] at ec; obtain ⟨w, hw⟩ := row4 c ec; exact c2 w hw
      · rw [z, y.1, h.1.1.1 _ (Nat.le_refl _)] at ec; cases ec)]
    exact ec
  have lo4 : lo < σ.2.1 := by have := hp.2.1; have := hp.1; omega
  have NElo : ∀ x, x < lo → σ5.1 x = σ.1 x := fun x hx => q5 x (by have := hp.1; omega) (fun z => by
    rcases hd' with y | y
    · have := (okd y).1; omega
    · omega)
  have NEo : ∀ x, cSt A D x ∨ x = A 0 → σ5.1 x = σ.1 x := fun x hx => q5 x (fun z => by
    rcases hx with y | y
    · rw [z] at y; exact hp.nst hA y
    · exact hp.n0 (z.symm.trans y)) (fun z => by
    rcases hd' with w | w
    · rcases hx with y | y
      · rw [z, w] at y; exact (okd w).nst hA y
      · exact (okd w).n0 ((z.trans w).symm.trans y)
    · rcases hx with y | y
      · have := h.1.lt y; omega
      · have := alt h.1.1.1 h.2.1; omega)
  have fr5 : ∀ q, σ5.2.1 ≤ q → σ5.1 q = none := fun q hq => by
    rw [q5 q (by have := alt h.1.1.1 hl.1; omega) (fun z => by
      rcases hd' with y | y
      · have := (okd y).2.1; omega
      · omega)]
    exact h.1.1.1 q (by omega)
  have szlo : sz ≤ lo := by
    have b1 := h.1.2.1.1
    have := hA 1 (by omega) (by omega)
    by_cases c : sz ≤ A 1
    · omega
    · rw [h.1.1.2.1 (A 1) (by omega)] at b1; cases b1
  have v5 : cV κ sz len cnt kk pp ee f A nq ni rt σ5 D at' cd cn am bd nf ff := h.gn (fun x hx => NEo x (Or.inl hx)) (NEo _ (Or.inr rfl)) (fun a fs ea => ⟨fs, NEc a _ ea (fun _ z => by cases z) (fun _ z => by cases z)⟩) (fun a fs ea => ⟨fs, NEc a _ ea (fun _ z => by cases z) (fun _ z => by cases z)⟩) fr5 (fun q hq => by rw [NElo q (by omega)]; exact h.1.1.2.1 q hq) hn5
  refine ⟨σ5, d', pc', gg', q1, v5, q2, ?_, ⟨hp.1, by have := hp.2.1; omega, hp.2.2⟩, ?_, ⟨q3, q4⟩, q5, ?_, hn5, ?_, ?_⟩
  · rcases hd' with y | ⟨y, y2⟩
    · rw [y]; exact ⟨(okd y).1, by have := (okd y).2.1; omega, (okd y).2.2⟩
    · rw [y]
      have := h.new (σ' := σ5) (a := σ.2.1) (Nat.le_refl _) (by omega)
      exact ⟨by omega, this.2⟩
  · rcases q6 with ⟨-, z, -⟩ | ⟨-, z1, z2, z3, -⟩
    · omega
    · by_cases c : cap = 0
      · have := z2 c; omega
      · have := z3 (by omega); omega
  · rcases hd' with y | y
    · exact Or.inl y
    · exact Or.inr y.1
  · rcases q6 with ⟨-, -, z⟩ | ⟨-, -, -, -, z⟩
    · rw [z]; omega
    · rw [z]; exact Nat.le_refl _
  · rcases q6 with ⟨-, z1, z⟩ | ⟨-, z0, z1, z2, z⟩
    · rw [z]; omega
    · rw [z]
      show σ.2.2.2 + pc' + 4 * cap ≤ σ.2.2.2 + 4 * pc'
      by_cases c : cap = 0
      · have := z1 c; omega
      · have := z2 (by omega)
        have h10' : 10 ≤ cap := by
          rcases hl.2.1 with ⟨-, y, -⟩ | ⟨-, -, y⟩
          · omega
          · exact y
        omega
end CQN
