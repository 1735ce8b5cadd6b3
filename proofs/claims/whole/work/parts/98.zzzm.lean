/-! the reference's NAMES -/
/-- those that count (numbers), those told (words), whose, the least wrong place -/
abbrev kSt : Type := List Nat × List Nat × (Nat → Int32) × Int32
def kBad (pp : Nat → Int32) (w : Nat) (q : kSt) : kSt := (q.1, q.2.1, q.2.2.1, if q.2.2.2 < 0 then pp w else if q.2.2.2 ≤ pp w then q.2.2.2 else pp w)
def kTell (w : Nat) (q : kSt) : kSt := (q.1, q.2.1 ++ [w], upd q.2.2.1 w (nI q.2.1.length), q.2.2.2)
def kR (τ : zSt) (q : kSt) : Prop := (τ.1 50 = nI q.2.1.length ∧ ∀ i w, q.2.1[i]? = some w → τ.2.2.1 30 i = nI w) ∧ (τ.1 51 = nI q.1.length ∧ ∀ i d, q.1[i]? = some d → τ.2.2.1 33 i = nI d) ∧ τ.2.2.1 32 = q.2.2.1 ∧ τ.1 52 = q.2.2.2
/-- all else stays -/
def kFm (τ τ' : zSt) : Prop := (∀ k, k ≠ 50 → k ≠ 51 → k ≠ 52 → τ'.1 k = τ.1 k) ∧ τ'.2.1 = τ.2.1 ∧ (∀ k, k ≠ 30 → k ≠ 32 → k ≠ 33 → τ'.2.2.1 k = τ.2.2.1 k) ∧ τ'.2.2.2 = τ.2.2.2
theorem kFm.rf (τ : zSt) : kFm τ τ := ⟨fun _ _ _ _ => rfl, rfl, fun _ _ _ _ => rfl, rfl⟩
theorem kFm.tr {τ τ' τ'' : zSt} (h : kFm τ τ') (g : kFm τ' τ'') : kFm τ τ'' := ⟨fun k a b c => (g.1 k a b c).trans (h.1 k a b c), g.2.1.trans h.2.1, fun k a b c => (g.2.2.1 k a b c).trans (h.2.2.1 k a b c), g.2.2.2.trans h.2.2.2⟩
section KRS
variable {ks : Nat → Nat} {qs : List Nat} {T n h0 len cnt : Nat} {τ : zSt} {kk pp ee f : Nat → Int32}
theorem kFm.rw {τ' : zSt} (g : kFm τ τ') (h : rW τ T len cnt kk pp ee f) : rW τ' T len cnt kk pp ee f := h.keep (g.2.2.1 1 (by decide) (by decide) (by decide)) (g.2.2.1 3 (by decide) (by decide) (by decide)) (g.2.2.1 4 (by decide) (by decide) (by decide)) (g.2.2.1 5 (by decide) (by decide) (by decide))
theorem r_sameL {c d a a' l : Nat} {call : zCl} (hc : c < 2010) (hd : d < 2010) (h4c : τ.2.2.1 4 c = nI a) (h5c : τ.2.2.1 5 c = nI (a + l)) (h4d : τ.2.2.1 4 d = nI a') (hl : a + l ≤ 2000) (hl' : a' + l ≤ 2000) (hx : τ.2.2.1 1 = f) : ∀ (t j : Nat), j ≤ l → l < j + t → l_sameWord_33 T call h0 qs ks t (nI c) (nI d) (nI j) τ = some (some (.int (b01 (decide (∀ i, i < l → j ≤ i → f (a + i) = f (a' + i))))), τ)
  | 0, j, _, h => by omega
  | t + 1, j, hj, ht => by
    rw [l_sameWord_33]
    simp only [zgd, zin_n hc (by decide), zin_n hd (by decide), if_true, nI_clamp (show c < 2 ^ 31 by omega), nI_clamp (show d < 2 ^ 31 by omega), h4c, h5c, h4d, nI_sub, nI_add]
    by_cases c1 : j < l
    · rw [if_neg (nI_ge c1 (by omega))]
      simp only [zin_n (show a + j < 2000 by omega) (by decide), zin_n (show a' + j < 2000 by omega) (by decide), if_true, nI_clamp (show a + j < 2 ^ 31 by omega), nI_clamp (show a' + j < 2 ^ 31 by omega), hx]
      by_cases c2 : f (a + j) = f (a' + j)
      · rw [if_pos c2]
        have e := r_sameL (call := call) hc hd h4c h5c h4d hl hl' hx t (j + 1) (by omega) (by omega)
        have e2 : nI j + 1 = nI (j + 1) := nI_add j 1 ▸ rfl
        rw [e2, e]
        refine congrArg (fun b => some (some (Value.int (b01 b)), τ)) ?_
        refine decide_eq_decide.mpr ⟨fun h i h1 h2 => ?_, fun h i h1 h2 => h i h1 (by omega)⟩
        by_cases c3 : i = j
        · rw [c3]; exact c2
        · exact h i h1 (by omega)
      · rw [if_neg c2, decide_eq_false (fun h => c2 (h j c1 (Nat.le_refl _)))]
        rfl
    · rw [if_pos (nI_le (by omega) (by omega)), decide_eq_true (fun i h1 h2 => absurd h1 (by omega))]
      rfl
/-- wrongName(w) -/
theorem r_wrong {q : kSt} {w : Nat} (hw : rW τ T len cnt kk pp ee f) (h : kR τ q) (hi : w < cnt) : ∃ τ', zF h0 qs ks T (n + 1) 32 [.ref h0, .int (nI w)] τ = some (none, τ') ∧ kR τ' (kBad pp w q) ∧ kFm τ τ' := by
  have hcn := hw.cn
  have hp := hw.pl (i := w) (by omega)
  rw [zE_wrongName]
  unfold b_wrongName j_wrongName_20
  simp only [zgd, zin_n (show w < 2010 by omega) (by decide), if_true, nI_clamp (show w < 2 ^ 31 by omega), hp, zlet, h.2.2.2]
  have k1 : ∀ v : Int32, kR (zI τ 52 v) (q.1, q.2.1, q.2.2.1, v) := fun v => ⟨h.1, h.2.1, h.2.2.1, rfl⟩
  have k2 : ∀ v : Int32, kFm τ (zI τ 52 v) := fun v => ⟨fun k _ _ c => zIn τ v c, rfl, fun _ _ _ _ => rfl, rfl⟩
  unfold kBad
  by_cases c1 : q.2.2.2 < 0
  · rw [if_pos c1, if_pos c1]; exact ⟨_, rfl, k1 _, k2 _⟩
  · rw [if_neg c1, if_neg c1]
    by_cases c2 : q.2.2.2 ≤ pp w
    · rw [if_pos c2, if_pos c2]; exact ⟨_, rfl, h, kFm.rf τ⟩
    · rw [if_neg c2, if_neg c2]; exact ⟨_, rfl, k1 _, k2 _⟩
end KRS
