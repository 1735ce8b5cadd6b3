/-! from what speaks of what is in scope to what can be asked -/
section WAQ
variable {Γ : uGm} {C B : Int} {rt : Nat → gTm} {S : List gN} {A : gTy}
/-- QUALS within bounds -/
def qlW (Γ : uGm) (C B : Int) : Prop := (∃ Cq, (∀ q, q ∈ Γ.2.2.2.1 → q.2.1 ≤ 4 ∧ -Cq ≤ Γ.2.2.1 q ∧ Γ.2.2.1 q ≤ Cq) ∧ 2 * (C + Cq) + 2 ≤ B) ∧ Γ.2.2.2.1.length ≤ 6 ∧ B < 1125899906842624 ∧ 0 ≤ C
theorem gRs_nil (t : gTe) : gRs [] t = t := by
  unfold gRs
  cases e : t.1 with
  | none => rfl
  | some x => rfl
theorem gTf_mem {G : List (gN × gTe)} {a : gN} {u : gTe} (h : gTf G a = some u) : ∃ p, p ∈ G ∧ p.2 = u := by
  unfold gTf at h
  obtain ⟨p, h1, h2⟩ := Option.map_eq_some_iff.mp h
  exact ⟨p, List.mem_of_find?_eq_some h1, h2⟩
theorem gIn_mem {nq : tQ → Int} {xs : List tQ} {y : tY} {l : List gN} {x : gFc} (h : x ∈ gIn nq xs y l) : ∃ q, q ∈ xs ∧ x.1 = q.2.1 ∧ x.2.2 = nq q ∧ (x.2.1 = none ∨ ∃ s e, s ∈ l ∧ x.2.1 = some (s, e) ∧ (e = 1 ∨ e = -1)) := by
  unfold gIn at h
  obtain ⟨q, hq, h⟩ := List.mem_flatMap.mp h
  refine ⟨q, hq, ?_⟩
  split at h
  · split at h
    · obtain ⟨s, hs, e⟩ := List.mem_map.mp h
      rw [← e]
      refine ⟨rfl, rfl, Or.inr ⟨s, _, hs, rfl, ?_⟩⟩
      split
      · exact Or.inr rfl
      · exact Or.inl rfl
    · rw [List.mem_singleton.mp h]
      exact ⟨rfl, rfl, Or.inl rfl⟩
  · cases h
theorem gIl_le : ∀ (xs : List tQ) (y : tY) (c : Nat), gIl xs y c ≤ xs.length * (c + 1)
  | [], _, _ => Nat.zero_le _
  | q :: xs, y, c => by
    have ih := gIl_le xs y c
    unfold gIl at ih ⊢
    rw [List.map_cons, List.sum_cons, List.length_cons, Nat.add_mul]
    have : (if (q.1 = 0 ∧ yK y = 2) ∨ (q.1 = 1 ∧ yK y = 4) ∨ (q.1 = 2 ∧ yK y = 5) then (if q.2.2.2.1 = true then c else 1) else 0) ≤ 1 * (c + 1) := by
      split
      · split <;> omega
      · omega
    omega
/-- a leaf that can be asked -/
theorem wfT.aq (hq : qlW Γ C B) (h : wfT Γ C B rt S A) : gAq Γ S B A := by
  obtain ⟨⟨Cq, q1, q2⟩, q3, q4, q5⟩ := hq
  obtain ⟨A1, G⟩ := A
  cases A1 with
  | inl x =>
    obtain ⟨⟨h1, h2, h3⟩, h4⟩ := h
    have h1 : G = [] := h1
    subst h1
    refine ⟨fun c hc => ?_, fun p hp => (by cases hp), Nat.le_trans h3 (by decide), Nat.zero_le _⟩
    obtain ⟨a1, a2, a3, a4⟩ := h4 c hc
    refine ⟨a1, a2, fun y e w => ?_, ?_⟩
    · rw [show ((.inl x, []) : gTy).2 = [] from rfl, gRs_nil] at w
      exact a4 y e w
    · rw [show ((.inl x, []) : gTy).2 = [] from rfl, gRs_nil]
      exact a3
  | inr m =>
    obtain ⟨⟨a1, a2, a3, a4, a5⟩, ⟨b1, b2⟩, c⟩ := h
    have b1 : G.length ≤ m.2.1.length := b1
    have b2 : ∀ p, p ∈ G → p.1 ∈ m.2.2.2.2 ∧ gTw Γ p.2 ∧ -C ≤ p.2.2 ∧ p.2.2 ≤ C := b2
    have c : ∀ s, s ∈ m.2.2.2.2 → gIt G S s := c
    refine ⟨fun x hx => ?_, fun p hp => ⟨a5 _ (b2 p hp).1, (b2 p hp).2.1⟩, ?_, by show G.length ≤ 200; omega⟩
    · obtain ⟨q, hq, e1, e2, e3⟩ := gIn_mem (show x ∈ gIn Γ.2.2.1 Γ.2.2.2.1 m.2.2.1 m.2.2.2.2 from hx)
      obtain ⟨z1, z2, z3⟩ := q1 q hq
      show x.1 ≤ 4 ∧ gTw Γ x.2 ∧ (∀ y e, (gRs G x.2).1 = some (y, e) → y ∈ S) ∧ gTb B (gRs G x.2)
      have bd : ∀ w : Int, -(C + Cq) ≤ w → w ≤ C + Cq → ∀ o, gTb B (o, w) := fun w w1 w2 o => ⟨⟨by show -1125899906842624 ≤ w; omega, by show w ≤ 1125899906842624; omega⟩, by show -B ≤ 2 * w - 2; omega, by show 2 * w + 2 ≤ B; omega⟩
      obtain ⟨x1, x2, x3⟩ := x
      dsimp only at e1 e2 e3 ⊢
      subst e2
      rcases e3 with e3 | ⟨s, e, hs, e3, he⟩
      · subst e3
        refine ⟨by omega, fun y e w => (by cases w), fun y e w => (by cases w), bd _ (by omega) (by omega) _⟩
      · subst e3
        refine ⟨by omega, fun y e' w => ?_, fun y e' w => (c s hs).rs w, ?_⟩
        · injection w with w; injection w with w1 w2
          rw [← w1, ← w2]
          exact ⟨a5 s hs, he⟩
        · unfold gRs
          dsimp only
          cases g : gTf G s with
          | none => exact bd _ (by omega) (by omega) _
          | some u =>
            obtain ⟨p, hp, ep⟩ := gTf_mem g
            obtain ⟨-, -, u1, u2⟩ := b2 p hp
            rw [ep] at u1 u2
            refine bd _ ?_ ?_ _
            · rcases he with he | he <;> rw [he] <;> omega
            · rcases he with he | he <;> rw [he] <;> omega
    · show (gIn Γ.2.2.1 Γ.2.2.2.1 m.2.2.1 m.2.2.2.2).length ≤ 8000
      rw [gIn_len]
      have i1 := gIl_le Γ.2.2.2.1 m.2.2.1 m.2.2.2.2.length
      have i2 : Γ.2.2.2.1.length * (m.2.2.2.2.length + 1) ≤ 6 * (m.2.2.2.2.length + 1) := Nat.mul_le_mul_right _ q3
      omega
theorem scW.cl {tN : Nat → tY} (hq : qlW Γ C B) : ∀ (l : List (gN × gTy)), scW Γ C B rt tN l → (l.map Prod.fst).Nodup ∧ eCl Γ B l
  | [], _ => ⟨List.nodup_nil, trivial⟩
  | x :: r, ⟨h1, _, ⟨h3, _⟩, h4⟩ => ⟨List.nodup_cons.mpr ⟨h1, (scW.cl hq r h4).1⟩, h3.aq hq, (scW.cl hq r h4).2⟩
end WAQ
