/-! the reading of a PROGRAM; the reference's number() and QUALS -/
/-- a QUAL: its base (0 int, 1 array, 2 list), its REL, whether - stands first, whether * stands, its NUMBER (with - ahead?, its word) -/
abbrev tQ : Type := Nat × Nat × Bool × Bool × Option (Bool × Nat)
section APR
variable (kk : Nat → Int32) (T : Nat)
/-- one of three words -/
def aBs (a b c i : Nat) : aR Nat := if aIs kk a i = true then .inr (0, i + 1) else if aIs kk b i = true then .inr (1, i + 1) else if aIs kk c i = true then .inr (2, i + 1) else .inl i
/-- a QUAL's term from j on, and ; -/
def aQt (g r j : Nat) : aR tQ := aR.on (.inr ((), if aIs kk 45 j = true then j + 1 else j)) fun _ j1 =>
  if aIs kk 42 j1 = true then
    (if (aIs kk 45 (j1 + 1) || aIs kk 43 (j1 + 1)) = true then (aMs kk 2 (j1 + 2)).on fun _ j3 => (aMs kk 59 j3).on fun _ j4 => .inr ((g, r, aIs kk 45 j, true, some (aIs kk 45 (j1 + 1), j1 + 2)), j4)
    else (aMs kk 59 (j1 + 1)).on fun _ j4 => .inr ((g, r, aIs kk 45 j, true, none), j4))
  else (aMs kk 2 j1).on fun _ j3 => (aMs kk 59 j3).on fun _ j4 => .inr ((g, r, aIs kk 45 j, false, some (aIs kk 45 j, j1)), j4)
/-- a QUAL, its first word at i -/
def aQl (i : Nat) : aR tQ := (aBs kk 210 200 213 (i + 1)).on fun g i1 => (aMs kk 58 i1).on fun _ i2 => (aMs kk 224 i2).on fun _ i3 => if aRl kk i3 < 5 then aQt kk g (aRl kk i3) (i3 + 1) else .inl i3
/-- at most q QUALS more -/
def aQs : Nat → Nat → aR (List tQ)
  | 0, i => if aIs kk 218 i = true then .inl i else .inr ([], i)
  | q + 1, i => if aIs kk 218 i = true then (aQl kk i).on fun x j => (aQs q j).on fun xs j' => .inr (x :: xs, j') else .inr ([], i)
/-- an INPUT, its first word at i: its NAME's word, its base -/
def aNp (i : Nat) : aR (Nat × Nat) := (aMs kk 1 (i + 1)).on fun _ i1 => (aMs kk 58 i1).on fun _ i2 => (aBs kk 210 202 200 i2).on fun b i3 => (aMs kk 59 i3).on fun _ i4 => .inr ((i + 1, b), i4)
def aNs : Nat → Nat → aR (List (Nat × Nat))
  | 0, i => if aIs kk 209 i = true then .inl i else .inr ([], i)
  | q + 1, i => if aIs kk 209 i = true then (aNp kk i).on fun x j => (aNs q j).on fun xs j' => .inr (x :: xs, j') else .inr ([], i)
/-- a PROGRAM of cnt words -/
def aPr (cnt : Nat) : aR (List tQ × List (Nat × Nat) × tT) := (aQs kk 6 0).on fun qs j => (aNs kk 6 j).on fun is j' => (aE kk T 31 j').on fun t j2 => if j2 = cnt then .inr ((qs, is, t), j2) else .inl j2
end APR
/-- the value of the NUMBER at word w -/
def nW (T : Nat) (f pp ee : Nat → Int32) (w : Nat) : Int32 := nVal f (ee w).toNatClampNeg T (pp w).toNatClampNeg 0
def nQ (T : Nat) (f pp ee : Nat → Int32) (d : Option (Bool × Nat)) : Int32 := match d with
  | none => 0
  | some (g, w) => if g = true then -(nW T f pp ee w) else nW T f pp ee w
section RNQ
variable {κ : oKv} {ks : Nat → Nat} {qs : List Nat} {T m h0 len cnt sz d N S P A C z i k zc n : Nat} {τ τ0 : zSt} {s : Sum Nat Nat} {kk pp ee f : Nat → Int32} {G H : Nat → aR tT}
theorem rW.vl (h : rW τ T len cnt kk pp ee f) (hi : i < cnt) : ∃ a e, pp i = nI a ∧ ee i = nI e ∧ τ.2.2.1 4 i = nI a ∧ τ.2.2.1 5 i = nI e ∧ a ≤ e ∧ e ≤ 2000 := by
  obtain ⟨h1, h2, h3, h4, h5, h6, h7, h8⟩ := h
  obtain ⟨a, b1, b2, b3, b4, b5, b6⟩ := h5 i hi
  exact ⟨a, _, b4, b5, (h3 i hi).2.1.trans b4, (h3 i hi).2.2.trans b5, by omega, by omega⟩
/-- number() -/
theorem q_number (hT : 2010 ≤ T) (h : rR T len cnt kk pp ee f d τ N S P A C s) (hm : 3 ≤ m) : ∃ (x : Int32) (τ' : zSt), zF h0 qs ks T m 17 [.ref h0] τ = some (some (.int x), τ') ∧ rR T len cnt kk pp ee f d τ' N S P A C (aTo s (aMs kk 2)) ∧ rAg N S P A C τ τ' ∧ (∀ i, s = .inr i → aIs kk 2 i = true → x = nW T f pp ee i) ∧ (∀ j, s = .inl j → x = 0 ∧ τ' = τ) := by
  obtain ⟨n, rfl⟩ : ∃ n, m = n + 3 := ⟨m - 3, by omega⟩
  have hcn := h.1.cn
  rw [zE_number]
  unfold b_number
  cases s with
  | inl j =>
    rw [if_neg (show ¬ τ.1 11 = 0 by rw [h.2.2.1]; decide)]
    exact ⟨0, τ, rfl, h, rAg.rf τ, fun i e => (by cases e), fun _ _ => ⟨rfl, rfl⟩⟩
  | inr i =>
    have hi := h.2.2.2.2
    have w10 : τ.1 10 = nI i := h.2.2.2.1
    have k2 := h.1.k2 hi
    rw [if_pos h.2.2.1, w10, zgd_at (zin_n (show i < 2010 by omega) (show 2010 < 2 ^ 31 by decide)), nI_clamp (show i < 2 ^ 31 by omega)]
    simp only [aTo, aMs]
    by_cases g : aIs kk 2 i = true
    · have hlt := h.1.lt hi (by decide) g
      obtain ⟨a, e, y1, y2, y3, y4, y5, y6⟩ := h.1.vl hlt
      obtain ⟨k1, k3⟩ := h.nx hlt
      rw [if_pos (k2.mpr g), if_pos g, zlet_at, show nI i + 1 = nI (i + 1) by rw [nI_1], zIe, nI_pred, rn_num (τ := zI τ 10 (nI (i + 1))) (by omega) y3 y4 h.1.1 y5 y6 hT, zci_at]
      refine ⟨_, _, rfl, k1, k3, fun i' e' _ => ?_, fun j e => (by cases e)⟩
      cases e'
      unfold nW
      rw [y1, y2, nI_clamp (by omega), nI_clamp (by omega)]
    · rw [if_neg (fun e => g (k2.mp e)), if_neg g]
      obtain ⟨τ1, f1, f2, f3⟩ := q_form (h0 := h0) (qs := qs) (ks := ks) (m := n + 2) h (by omega)
      rw [f1, zcv_at]
      exact ⟨0, τ1, rfl, f2, f3, fun i' e' g' => (by cases e'; exact absurd g' g), fun j e => (by cases e)⟩
end RNQ
