/-! the reference: uses, namesOfSum -/
/-- looked up from the end -/
def kSee (f pp ee : Nat → Int32) (L l : List Nat) (w : Nat) : Option Nat := l.reverse.find? (fun u => wEq f pp ee (kW L u) w)
def kUsO (pp : Nat → Int32) (w : Nat) (q : kSt) : Option Nat → kSt
  | some u => (q.1, q.2.1, upd q.2.2.1 w (nI u), q.2.2.2)
  | none => kBad pp w (q.1, q.2.1, upd q.2.2.1 w (-1), q.2.2.2)
def kUse (f pp ee : Nat → Int32) (w : Nat) (q : kSt) : kSt := kUsO pp w q (kSee f pp ee q.2.1 q.1 w)
section KRU
variable {ks : Nat → Nat} {qs : List Nat} {T n h0 len cnt : Nat} {τ : zSt} {kk pp ee f : Nat → Int32} {q : kSt}
theorem kR.who (h : kR τ q) (r : Nat → Int32) : kR (zA τ 32 r) (q.1, q.2.1, r, q.2.2.2) ∧ kFm τ (zA τ 32 r) := ⟨⟨h.1, h.2.1, rfl, h.2.2.2⟩, ⟨fun _ _ _ _ => rfl, rfl, fun k _ c _ => if_neg c, rfl⟩⟩
theorem r_useL {w : Nat} (hT : 2010 ≤ T) (hw : rW τ T len cnt kk pp ee f) (h : kR τ q) (ho : kOk cnt q) (hi : w < cnt) (hE : q.1.length ≤ 400) : ∀ (t i : Nat), i ≤ q.1.length → i < t → ∃ τ', l_uses_7 T (zF h0 qs ks T (n + 1)) h0 qs ks t (nI w) (nI i - 1) τ = some (none, τ') ∧ kR τ' (kUsO pp w q (kSee f pp ee q.2.1 (q.1.take i) w)) ∧ kFm τ τ'
  | 0, i, _, ht => by omega
  | t + 1, 0, _, _ => by
    have hcn := hw.cn
    rw [l_uses_7, if_pos (by decide)]
    simp only [zgd, zlet, zin_n (show w < 2010 by omega) (by decide), if_true, nI_clamp (show w < 2 ^ 31 by omega)]
    obtain ⟨g1, g2⟩ := h.who (upd (τ.2.2.1 32) w (-1))
    obtain ⟨υ, u1, u2, u3⟩ := r_wrong (n := n) (h0 := h0) (qs := qs) (ks := ks) (g2.rw hw) g1 hi
    rw [u1]
    simp only [zcv]
    rw [h.2.2.1] at u2
    exact ⟨υ, rfl, u2, g2.tr u3⟩
  | t + 1, i + 1, hl, ht => by
    have hcn := hw.cn
    have hL := ho.2.2
    have c : i < q.1.length := by omega
    have e3 : q.1[i]? = some q.1[i] := List.getElem?_eq_getElem c
    have e4 : q.1[i] < q.2.1.length := ho.2.1 _ (List.getElem_mem c)
    obtain ⟨e5, e6⟩ := ho.w e4
    have ks1 : kSee f pp ee q.2.1 (q.1.take (i + 1)) w = if wEq f pp ee (kW q.2.1 q.1[i]) w = true then some q.1[i] else kSee f pp ee q.2.1 (q.1.take i) w := by
      unfold kSee
      rw [List.take_succ, e3, Option.toList_some, List.reverse_append, List.reverse_singleton, List.singleton_append, List.find?_cons]
      cases wEq f pp ee (kW q.2.1 q.1[i]) w <;> rfl
    rw [ks1, l_uses_7, nI_s1, if_neg (show ¬ nI i < 0 from fun z => by have := Int32.lt_iff_toInt_lt.mp z; rw [nI_toInt (by omega)] at this; have : ((i : Nat) : Int) < (0 : Int) := this; omega)]
    simp only [zgd, zlet, zin_n (show i < 400 by omega) (by decide), zin_n (show q.1[i] < 700 by omega) (by decide), zin_n (show w < 2010 by omega) (by decide), if_true, nI_clamp (show i < 2 ^ 31 by omega), nI_clamp (show w < 2 ^ 31 by omega), nI_clamp (show q.1[i] < 2 ^ 31 by omega), h.2.1.2 i _ e3, h.1.2 _ _ e5, r_sameW hT hw e6 hi, zci]
    by_cases hq : wEq f pp ee (kW q.2.1 q.1[i]) w = true
    · rw [if_neg (by rw [hq]; decide), if_pos hq]
      obtain ⟨g1, g2⟩ := h.who (upd (τ.2.2.1 32) w (nI q.1[i]))
      rw [h.2.2.1] at g1
      refine ⟨_, rfl, ?_, g2⟩
      rw [h.2.2.1]
      exact g1
    · have hq' : wEq f pp ee (kW q.2.1 q.1[i]) w = false := by simpa using hq
      rw [if_pos (by rw [hq']; rfl), if_neg hq, ← Int32.sub_eq_add_neg]
      exact r_useL hT hw h ho hi hE t i (by omega) (by omega)
/-- uses(w) -/
theorem r_uses {w : Nat} (hT : 2010 ≤ T) (hw : rW τ T len cnt kk pp ee f) (h : kR τ q) (ho : kOk cnt q) (hi : w < cnt) (hE : q.1.length ≤ 400) : ∃ τ', zF h0 qs ks T (n + 2) 35 [.ref h0, .int (nI w)] τ = some (none, τ') ∧ kR τ' (kUse f pp ee w q) ∧ kFm τ τ' := by
  rw [zE_uses]
  unfold b_uses
  rw [h.2.1.1]
  obtain ⟨τ', t1, t2, t3⟩ := r_useL (n := n) (h0 := h0) (qs := qs) (ks := ks) hT hw h ho hi hE T q.1.length (Nat.le_refl _) (by omega)
  rw [List.take_length] at t2
  exact ⟨τ', t1, t2, t3⟩
end KRU
