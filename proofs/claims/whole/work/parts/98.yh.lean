/-! the reference reads an ARG -/
theorem aAk.sh {cnt c X i X' : Nat} {s : Sum Nat Nat} (h : aAk cnt c X i X' s) (b : Nat) : aAk cnt c (X + b) i (X' + b) s := ⟨by have := h.1; omega, by have := h.2; omega⟩
section RAR
variable {κ : oKv} {ks : Nat → Nat} {qs : List Nat} {T m h0 len cnt sz d N S P A C z i k zc : Nat} {τ τ0 : zSt} {s : Sum Nat Nat} {kk pp ee f : Nat → Int32} {G H : Nat → aR tT}
theorem rR.tp (h : rR T len cnt kk pp ee f d τ N S P A C s) (C' : Nat) : rR T len cnt kk pp ee f d (zI τ 45 (nI C')) N S P A C' s := by
  obtain ⟨h1, ⟨a1, a2, a3, a4, a5, a6⟩, h3⟩ := h
  refine ⟨h1, ⟨a1, a2, a3, a4, a5, rfl⟩, ?_⟩
  cases s with
  | inl j => exact h3
  | inr i => exact h3
/-- an ARG is put down -/
theorem q_301 (h : rR T len cnt kk pp ee f d τ N S P A C s) (hC : C + 3 ≤ 600) (k32 : Int32 → Int32 → Int32 → zSt → zRs) (call : zCl) (x2 x4 : Int32) (c : Nat) (x6 x7 x8 : Int32) : ∃ τ', j_call_301 T call h0 qs ks k32 x2 x4 (nI c) x6 x7 x8 τ = k32 x2 x4 (nI (c + 1)) τ' ∧ rR T len cnt kk pp ee f d τ' N S P A (C + 3) s ∧ rAg N S P A C τ τ' ∧ (τ'.2.2.1 29 C = x7 ∧ τ'.2.2.1 29 (C + 1) = x8 ∧ τ'.2.2.1 29 (C + 2) = x6) ∧ rAt 0 N S P A τ τ' := by
  have w45 : τ.1 45 = nI C := h.2.1.2.2.2.2.2
  have e1 : nI C + 1 = nI (C + 1) := by rw [nI_1]
  have e2 : nI C + 2 = nI (C + 2) := nI_add C 2
  have e3 : nI C + 3 = nI (C + 3) := nI_add C 3
  unfold j_call_301
  simp only [zlet, zA1, w45, e1, e2, e3, zgd_at (zin_n (show C < 600 by omega) (show 600 < 2 ^ 31 by decide)), zgd_at (zin_n (show C + 1 < 600 by omega) (show 600 < 2 ^ 31 by decide)), zgd_at (zin_n (show C + 2 < 600 by omega) (show 600 < 2 ^ 31 by decide)), nI_clamp (show C < 2 ^ 31 by omega), nI_clamp (show C + 1 < 2 ^ 31 by omega), nI_clamp (show C + 2 < 2 ^ 31 by omega), nI_1]
  refine ⟨_, rfl, (((h.a _ (show 6 ≤ 29 by omega)).a _ (show 6 ≤ 29 by omega)).a _ (show 6 ≤ 29 by omega)).tp (C + 3), ?_, ⟨?_, ?_, ?_⟩, ?_⟩
  · exact ((((rAg.rf τ).a (rFz.n29 (Nat.le_refl C))).a (rFz.n29 (Nat.le_succ C))).a (rFz.n29 (by omega))).i (by omega)
  · rw [zI2, zAe, upd_ne _ _ (by omega), zAe, upd_ne _ _ (by omega), zAe, upd_at]
  · rw [zI2, zAe, upd_ne _ _ (by omega), zAe, upd_at]
  · rw [zI2, zAe, upd_at]
  · refine ⟨fun m _ _ => funext fun q => ?_, fun q j a b _ => ?_, fun q j a b _ => ?_, fun m _ => funext fun q => ?_⟩
    · show (zA (zA (zA τ 29 _) 29 _) 29 _).2.2.1 (6 + q % 7) m = τ.2.2.1 (6 + q % 7) m
      rw [zAn _ _ (by omega), zAn _ _ (by omega), zAn _ _ (by omega)]
    · rw [zI2, zAn _ _ (by omega), zAn _ _ (by omega), zAn _ _ (by omega)]
    · rw [zI2, zAn _ _ (by omega), zAn _ _ (by omega), zAn _ _ (by omega)]
    · show (zA (zA (zA τ 29 _) 29 _) 29 _).2.2.1 (19 + q % 3) m = τ.2.2.1 (19 + q % 3) m
      rw [zAn _ _ (by omega), zAn _ _ (by omega), zAn _ _ (by omega)]
/-- the ARGS are copied -/
theorem q_366 (x2 : Int32) (b : Nat) (call : zCl) : ∀ (t c : Nat) (τ : zSt) (A : Nat), c ≤ b → b < c + t → A + (b - c) ≤ 2100 → C + 3 * b ≤ 600 → rR T len cnt kk pp ee f d τ N S P A (C + 3 * b) s → ∃ τ', l_call_366 T call h0 qs ks t x2 (nI C) (nI b) (nI c) τ = some (some (.int x2), τ') ∧ rR T len cnt kk pp ee f d τ' N S P (A + (b - c)) C s ∧ rAg N S P A C τ τ' ∧ rAt 0 N S P A τ τ' ∧ (∀ a q, c ≤ a → a < b → q < 3 → gV τ' (A + (a - c)) q = τ.2.2.1 29 (C + 3 * a + q))
  | 0, c, τ, A, h1, h2, _, _, _ => by omega
  | t + 1, c, τ, A, h1, h2, h3, h4, h => by
    rw [l_call_366]
    by_cases e : c = b
    · subst e
      rw [if_pos (nI_le (Nat.le_refl _) (by omega)), zlet_at, Nat.sub_self]
      refine ⟨_, rfl, h.tp C, (rAg.rf τ).i (by omega), ⟨fun _ _ _ => rfl, fun _ _ _ _ _ => rfl, fun _ _ _ _ _ => rfl, fun _ _ => rfl⟩, fun a q e1 e2 => by omega⟩
    · rw [if_neg (nI_ge (show c < b by omega) (by omega))]
      have w32 : τ.1 32 = nI A := h.2.1.2.2.2.2.1
      have e3 : (3 : Int32) * nI c = nI (3 * c) := by
        unfold nI
        rw [Int32.ofNat_mul]
        rfl
      have e4 : nI C + (3 : Int32) * nI c = nI (C + 3 * c) := by rw [e3, nI_add]
      have e5 : nI (C + 3 * c) + 2 = nI (C + 3 * c + 2) := nI_add _ 2
      simp only [zlet, zA1, w32, e4, e5, nI_1, zgd_at (zin_n (show C + 3 * c < 600 by omega) (show 600 < 2 ^ 31 by decide)), zgd_at (zin_n (show C + 3 * c + 1 < 600 by omega) (show 600 < 2 ^ 31 by decide)), zgd_at (zin_n (show C + 3 * c + 2 < 600 by omega) (show 600 < 2 ^ 31 by decide)), zgd_at (zin_n (show A < 2100 by omega) (show 2100 < 2 ^ 31 by decide)), nI_clamp (show A < 2 ^ 31 by omega), nI_clamp (show C + 3 * c < 2 ^ 31 by omega), nI_clamp (show C + 3 * c + 1 < 2 ^ 31 by omega), nI_clamp (show C + 3 * c + 2 < 2 ^ 31 by omega)]
      simp only [zAn _ _ (show 29 ≠ 20 by decide), zAn _ _ (show 29 ≠ 19 by decide), zAn _ _ (show 20 ≠ 19 by decide), zAn _ _ (show 21 ≠ 20 by decide), zAn _ _ (show 21 ≠ 19 by decide)]
      have k1 := ((h.a (upd (τ.2.2.1 19) A (τ.2.2.1 29 (C + 3 * c))) (show 6 ≤ 19 by omega)).a (upd (τ.2.2.1 20) A (τ.2.2.1 29 (C + 3 * c + 1))) (show 6 ≤ 20 by omega)).a (upd (τ.2.2.1 21) A (τ.2.2.1 29 (C + 3 * c + 2))) (show 6 ≤ 21 by omega)
      have k2 : rR T len cnt kk pp ee f d (zI (zA (zA (zA τ 19 (upd (τ.2.2.1 19) A (τ.2.2.1 29 (C + 3 * c)))) 20 (upd (τ.2.2.1 20) A (τ.2.2.1 29 (C + 3 * c + 1)))) 21 (upd (τ.2.2.1 21) A (τ.2.2.1 29 (C + 3 * c + 2)))) 32 (nI (A + 1))) N S P (A + 1) (C + 3 * b) s := by
        obtain ⟨q1, ⟨a1, a2, a3, a4, a5, a6⟩, q3⟩ := k1
        refine ⟨q1, ⟨a1, a2, a3, a4, rfl, a6⟩, ?_⟩
        cases s with
        | inl j => exact q3
        | inr i => exact q3
      have r29 : (zI (zA (zA (zA τ 19 (upd (τ.2.2.1 19) A (τ.2.2.1 29 (C + 3 * c)))) 20 (upd (τ.2.2.1 20) A (τ.2.2.1 29 (C + 3 * c + 1)))) 21 (upd (τ.2.2.1 21) A (τ.2.2.1 29 (C + 3 * c + 2)))) 32 (nI (A + 1))).2.2.1 29 = τ.2.2.1 29 := by
        rw [zI2, zAn _ _ (by decide), zAn _ _ (by decide), zAn _ _ (by decide)]
      have rg : ∀ x q, q < 3 → gV (zI (zA (zA (zA τ 19 (upd (τ.2.2.1 19) A (τ.2.2.1 29 (C + 3 * c)))) 20 (upd (τ.2.2.1 20) A (τ.2.2.1 29 (C + 3 * c + 1)))) 21 (upd (τ.2.2.1 21) A (τ.2.2.1 29 (C + 3 * c + 2)))) 32 (nI (A + 1))) x q = if x = A then τ.2.2.1 29 (C + 3 * c + q) else gV τ x q := fun x q hq => by
        have : q = 0 ∨ q = 1 ∨ q = 2 := by omega
        rcases this with rfl | rfl | rfl
        · show (zA (zA (zA τ 19 _) 20 _) 21 _).2.2.1 19 x = if x = A then _ else τ.2.2.1 19 x
          rw [zAn _ _ (by decide), zAn _ _ (by decide), zAe]
          rfl
        · show (zA (zA (zA τ 19 _) 20 _) 21 _).2.2.1 20 x = if x = A then _ else τ.2.2.1 20 x
          rw [zAn _ _ (by decide), zAe]
          rfl
        · show (zA (zA (zA τ 19 _) 20 _) 21 _).2.2.1 21 x = if x = A then _ else τ.2.2.1 21 x
          rw [zAe]
          rfl
      have k3 : rAg N S P A C τ (zI (zA (zA (zA τ 19 (upd (τ.2.2.1 19) A (τ.2.2.1 29 (C + 3 * c)))) 20 (upd (τ.2.2.1 20) A (τ.2.2.1 29 (C + 3 * c + 1)))) 21 (upd (τ.2.2.1 21) A (τ.2.2.1 29 (C + 3 * c + 2)))) 32 (nI (A + 1))) := by
        have z1 := (rAg.rf τ).a (N := N) (S := S) (P := P) (A := A) (C := C) (k := 19) (x := A) (v := τ.2.2.1 29 (C + 3 * c)) (rFz.n19 (by omega) (by omega) (Nat.le_refl A))
        have z2 := z1.a (k := 20) (x := A) (v := τ.2.2.1 29 (C + 3 * c + 1)) (rFz.n19 (by omega) (by omega) (Nat.le_refl A))
        rw [zAn _ _ (show 20 ≠ 19 by decide)] at z2
        have z3 := z2.a (k := 21) (x := A) (v := τ.2.2.1 29 (C + 3 * c + 2)) (rFz.n19 (by omega) (by omega) (Nat.le_refl A))
        rw [zAn _ _ (show 21 ≠ 20 by decide), zAn _ _ (show 21 ≠ 19 by decide)] at z3
        exact z3.i (by omega)
      generalize zI (zA (zA (zA τ 19 (upd (τ.2.2.1 19) A (τ.2.2.1 29 (C + 3 * c)))) 20 (upd (τ.2.2.1 20) A (τ.2.2.1 29 (C + 3 * c + 1)))) 21 (upd (τ.2.2.1 21) A (τ.2.2.1 29 (C + 3 * c + 2)))) 32 (nI (A + 1)) = τ1 at k2 k3 r29 rg ⊢
      obtain ⟨τ', l1, l2, l3, l4, l5⟩ := q_366 x2 b call t (c + 1) τ1 (A + 1) (by omega) (by omega) (by omega) h4 k2
      refine ⟨τ', l1, ?_, k3.tr l3 (Nat.le_refl _) (Nat.le_refl _) (Nat.le_refl _) (Nat.le_succ _) (Nat.le_refl _), (k3.at 0).tr (l4.wk (Nat.le_refl _) (Nat.le_refl _) (Nat.le_refl _) (Nat.le_refl _) (Nat.le_succ _)), fun a q e1 e2 hq3 => ?_⟩
      · rw [show A + (b - c) = A + 1 + (b - (c + 1)) by omega]; exact l2
      · by_cases ea : a = c
        · subst ea
          rw [Nat.sub_self, Nat.add_zero]
          have g0 : gV τ' A = gV τ1 A := l4.2.2.2 A (by omega)
          rw [g0, rg A q hq3, if_pos rfl]
        · rw [show A + (a - c) = A + 1 + (a - (c + 1)) by omega, l5 a q (by omega) e2 hq3, r29]
end RAR
