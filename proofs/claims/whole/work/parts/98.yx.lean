/-! NAMES as they are read; the class's parser as cells -/
/-- where a word begins, how long it is, whether two words are the same text -/
def wA (pp : Nat → Int32) (w : Nat) : Nat := (pp w).toNatClampNeg
def wL (pp ee : Nat → Int32) (w : Nat) : Nat := (ee w).toNatClampNeg - (pp w).toNatClampNeg
def wEq (f pp ee : Nat → Int32) (w u : Nat) : Bool := tEq (wL pp ee w) (fun j => f (wA pp w + j)) (wL pp ee u) (fun j => f (wA pp u + j))
/-- NAMES that count (the words that tell them), NAMES told, the first wrong word -/
abbrev nSt : Type := List Nat × List Nat × Option Nat
section NAM
variable (f pp ee : Nat → Int32)
/-- the first of the first 12 that count with this text -/
def nFind (env : List Nat) (w : Nat) : Option Nat := (env.take 12).find? (fun u => wEq f pp ee u w)
def nBad (ν : nSt) (w : Nat) : nSt := match ν.2.2 with
  | none => (ν.1, ν.2.1, some w)
  | some _ => ν
def nTell (w : Nat) (ν : nSt) : nSt := if ν.2.2 = none ∧ (12 ≤ ν.1.length ∨ nFind f pp ee ν.1 w ≠ none) then (ν.1, ν.2.1 ++ [w], some w) else (ν.1, ν.2.1 ++ [w], ν.2.2)
def nCnt (w : Nat) (ν : nSt) : nSt := (ν.1 ++ [w], ν.2)
def nUse (w : Nat) (ν : nSt) : nSt := if nFind f pp ee ν.1 w = none then nBad ν w else ν
def nOff (k : Nat) (ν : nSt) : nSt := (ν.1.take (ν.1.length - k), ν.2)
end NAM
/-- lists: where the rows of told and functions are, how large, how many; told's NAMES; the NAMES that count -/
abbrev cDt : Type := (Nat × Nat × Nat × Nat × Nat × Nat) × (Nat → Option Nat) × (Nat → Option Nat) × (Nat → Option Nat)
/-- the cells that the parser itself changes -/
def cMu (A : Nat → Nat) (D : cDt) (a : Nat) : Prop := a = A 0 ∨ a = A 7 ∨ a = A 8 ∨ a = A 9 ∨ a = D.1.1 ∨ a = D.1.2.1
/-- kept while it reads -/
def cFr (A : Nat → Nat) (σ : oSt) (D : cDt) (σ' : oSt) (D' : cDt) : Prop := σ.2.1 ≤ σ'.2.1 ∧ (∀ a, a < σ.2.1 → ¬ cMu A D a → σ'.1 a = σ.1 a) ∧ (D'.1.1 = D.1.1 ∨ σ.2.1 ≤ D'.1.1) ∧ (D'.1.2.1 = D.1.2.1 ∨ σ.2.1 ≤ D'.1.2.1)
theorem cFr.rf (A : Nat → Nat) (σ : oSt) (D : cDt) : cFr A σ D σ D := ⟨Nat.le_refl _, fun _ _ _ => rfl, Or.inl rfl, Or.inl rfl⟩
theorem cFr.tr {A : Nat → Nat} {σ σ' σ'' : oSt} {D D' D'' : cDt} (h : cFr A σ D σ' D') (h' : cFr A σ' D' σ'' D'') : cFr A σ D σ'' D'' := by
  obtain ⟨a1, a2, a3, a4⟩ := h
  obtain ⟨b1, b2, b3, b4⟩ := h'
  refine ⟨by omega, fun a ha hm => ?_, ?_, ?_⟩
  · rw [b2 a (by omega) (fun hm' => hm ?_)]
    · exact a2 a ha hm
    · unfold cMu at hm' ⊢
      rcases hm' with e | e | e | e | e | e
      · exact Or.inl e
      · exact Or.inr (Or.inl e)
      · exact Or.inr (Or.inr (Or.inl e))
      · exact Or.inr (Or.inr (Or.inr (Or.inl e)))
      · rcases a3 with z | z
        · exact Or.inr (Or.inr (Or.inr (Or.inr (Or.inl (e.trans z)))))
        · omega
      · rcases a4 with z | z
        · exact Or.inr (Or.inr (Or.inr (Or.inr (Or.inr (e.trans z)))))
        · omega
  · rcases b3 with z | z
    · rw [z]; exact a3
    · exact Or.inr (by omega)
  · rcases b4 with z | z
    · rw [z]; exact a4
    · exact Or.inr (by omega)
/-- the parser's own fields -/
def cPs (A : Nat → Nat) (nq ni : Int32) (rt : Value) (at' cd : Nat) (cn am bd nf ff : Int32) : List Value := [.ref (A 1), .ref (A 7), .ref (A 8), .ref (A 9), .ref (A 10), .ref (A 11), .ref (A 12), .ref (A 13), .int nq, .int ni, rt, .int (nI at'), .int (nI cd), .int cn, .int am, .int bd, .int nf, .int ff]
/-- the text's String; of no letters it lies among the constants -/
def cTz (σ : oSt) (r v len : Nat) (f : Nat → Int32) : Prop := cTx σ r v len f ∨ (len = 0 ∧ v = r ∧ ∃ fs, σ.1 r = some (.inr (0, fs)))
theorem cTz.keep {σ σ' : oSt} {r v len : Nat} {f : Nat → Int32} (h : cTz σ r v len f) (h1 : σ'.1 r = σ.1 r) (h2 : σ'.1 v = σ.1 v) : cTz σ' r v len f := by
  rcases h with h | ⟨a, b, fs, c⟩
  · exact Or.inl (h.keep h1 h2)
  · exact Or.inr ⟨a, b, fs, h1.trans c⟩
theorem cTz.r {σ : oSt} {r v len : Nat} {f : Nat → Int32} (h : cTz σ r v len f) : ∃ fs, σ.1 r = some (.inr (0, fs)) := by
  rcases h with h | ⟨a, b, fs, c⟩
  · exact ⟨_, h.1⟩
  · exact ⟨fs, c⟩
theorem cTz.v {σ : oSt} {r v len : Nat} {f : Nat → Int32} (h : cTz σ r v len f) : (∃ fs, σ.1 v = some (.inr (0, fs))) ∨ (∃ x, σ.1 v = some (.inl (.byte, x))) := by
  rcases h with h | ⟨a, b, fs, c⟩
  · exact Or.inr ⟨_, h.2.1⟩
  · exact Or.inl ⟨fs, by rw [b]; exact c⟩
theorem cTz.tx {σ : oSt} {r v len : Nat} {f : Nat → Int32} (h : cTz σ r v len f) (h0 : 0 < len) : cTx σ r v len f := by
  rcases h with h | ⟨a, -⟩
  · exact h
  · omega
/-- what stands while the parser reads -/
def cG (κ : oKv) (sz len cnt : Nat) (kk pp ee f : Nat → Int32) (A : Nat → Nat) (σ : oSt) (D : cDt) : Prop :=
  ((∀ q, σ.2.1 ≤ q → σ.1 q = none) ∧ (∀ q, q < sz → σ.1 q = none) ∧ sz ≤ σ.2.1 ∧ κ.2.2.1 < sz) ∧
  (σ.1 (A 1) = some (.inr (13, [.ref (A 2), .ref (A 4), .ref (A 5), .ref (A 6), .int (nI cnt), .int (-1)])) ∧ cTz σ (A 2) (A 3) len f ∧ σ.1 (A 4) = some (.inl (.int, len + 1, .inl kk)) ∧ σ.1 (A 5) = some (.inl (.int, len + 1, .inl pp)) ∧ σ.1 (A 6) = some (.inl (.int, len + 1, .inl ee)) ∧ cnt ≤ len ∧ len ≤ 2000) ∧
  (σ.1 (A 7) = some (.inl (.object "LiquidTongue$Name", 12, .inr (.inr (.inr (.inr D.2.2.1)))))) ∧
  ((∃ mc, cLs κ σ (A 8) D.1.1 D.1.2.2.1 D.1.2.2.2.2.1 mc D.2.1 6) ∧ (∃ mc, cLs κ σ (A 9) D.1.2.1 D.1.2.2.2.1 D.1.2.2.2.2.2 mc D.2.2.2 7) ∧ A 8 ≠ A 9 ∧ (D.1.1 ≠ D.1.2.1 ∨ D.1.1 = κ.2.2.1) ∧ D.1.2.2.1 ≤ 10 + 2 * D.1.2.2.2.2.1 ∧ D.1.2.2.2.1 ≤ 10 + 2 * D.1.2.2.2.2.2) ∧
  ((∀ j, j < cnt → ∃ a e, pp j = nI a ∧ ee j = nI e ∧ a < e ∧ e ≤ len) ∧ kk cnt = 0 ∧ pp cnt = nI len)
def cV (κ : oKv) (sz len cnt : Nat) (kk pp ee f : Nat → Int32) (A : Nat → Nat) (nq ni : Int32) (rt : Value) (σ : oSt) (D : cDt) (at' cd : Nat) (cn am bd nf ff : Int32) : Prop := cG κ sz len cnt kk pp ee f A σ D ∧ σ.1 (A 0) = some (.inr (9, cPs A nq ni rt at' cd cn am bd nf ff)) ∧ at' ≤ cnt ∧ cd ≤ 4000 ∧ D.1.2.2.2.2.1 ≤ at' ∧ D.1.2.2.2.2.2 ≤ at'
/-- at word i without a fault of grammar, or with one at word j -/
def cO (pp : Nat → Int32) (cnt at' : Nat) (bd : Int32) (s : Sum Nat Nat) : Prop := match s with
  | .inr i => bd = -1 ∧ at' = i ∧ i ≤ cnt
  | .inl j => bd = pp j ∧ j ≤ cnt
/-- the NAME's object at b is of the word w -/
def cNc (pp ee f : Nat → Int32) (σ : oSt) (b w : Nat) : Prop := ∃ (q u : Nat) (i1 i2 i3 : Int32) (g : Nat → Int32), σ.1 b = some (.inr (6, [.ref q, .int i1, .int i2, .int i3, .null, .null, .int 0, .int 0])) ∧ cTx σ q u (wL pp ee w) g ∧ (∀ j, j < wL pp ee w → g j = f (wA pp w + j)) ∧ (wA pp w = 0 ∨ (b < q ∧ b < u))
/-- NAMES: those that count stand in the row, those told in the list -/
def cNm (pp ee f : Nat → Int32) (σ : oSt) (D : cDt) (nm : Nat → Option Nat) (ν : nSt) (cd : Nat) (nf : Int32) : Prop := ν.1.length = cd ∧ (∀ k u, ν.1[k]? = some u → k < 12 → ∃ b, D.2.2.1 k = some b ∧ nm u = some b ∧ cNc pp ee f σ b u) ∧ (ν.2.1.length = D.1.2.2.2.2.1 ∧ ∀ k u, ν.2.1[k]? = some u → D.2.1 k = nm u) ∧ (match ν.2.2 with | none => nf = -1 | some w => nf = pp w ∧ ∃ a, pp w = nI a ∧ a ≤ 2000) ∧ (∀ x ∈ ν.1, wL pp ee x ≤ 2000) ∧ ∀ u, u ∈ ν.2.1 → ∃ b, nm u = some b ∧ cNc pp ee f σ b u
