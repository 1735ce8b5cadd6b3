/-! weakenAll(): Scopes are no longer than there are cells -/
theorem va_ri {o o' : Option Nat} (h : va_rf o = va_rf o') : o = o' := by
  cases o with
  | none => cases o' with
    | none => rfl
    | some b => cases h
  | some a => cases o' with
    | none => cases h
    | some b =>
      have h : Value.ref a = Value.ref b := h
      injection h with h
      rw [h]
section SLN
variable {bs : Nat → Int32} {kn : Nat → Nat} {σ : oSt}
theorem cScp.uq : ∀ (L1 L2 : List sEn) (s : Option Nat), cScp bs kn σ L1 s → cScp bs kn σ L2 s → L1 = L2
  | [], [], _, _, _ => rfl
  | [], .inl _ :: _, s, h, ⟨q, _, _, e, _⟩ => by have h : s = none := h; rw [h] at e; cases e
  | [], .inr (_, _) :: _, s, h, ⟨q, _, e, _⟩ => by have h : s = none := h; rw [h] at e; cases e
  | .inl _ :: _, [], s, ⟨q, _, _, e, _⟩, h => by have h : s = none := h; rw [h] at e; cases e
  | .inr (_, _) :: _, [], s, ⟨q, _, e, _⟩, h => by have h : s = none := h; rw [h] at e; cases e
  | .inl a :: r, .inl a' :: r', s, ⟨q, ou, v, e1, e2, _, e4⟩, ⟨q', ou', v', f1, f2, _, f4⟩ => by
    rw [e1] at f1
    injection f1 with f1
    subst f1
    rw [e2] at f2
    injection f2 with f2; injection f2 with f2; injection f2 with _ f2
    injection f2 with g1 f2; injection f2 with _ f2; injection f2 with _ f2; injection f2 with g4 _
    injection g1 with g1
    have g4 := va_ri g4
    subst g1 g4
    rw [cScp.uq r r' ou e4 f4]
  | .inl a :: r, .inr (m, h) :: r', s, ⟨q, ou, v, e1, e2, _, e4⟩, ⟨q', ou', f1, f2, f4⟩ => by
    rw [e1] at f1
    injection f1 with f1
    subst f1
    rw [e2] at f2
    injection f2 with f2; injection f2 with f2; injection f2 with _ f2
    injection f2 with g1 f2
    cases g1
  | .inr (m, h) :: r, .inl a :: r', s, ⟨q', ou', f1, f2, f4⟩, ⟨q, ou, v, e1, e2, _, e4⟩ => by
    rw [e1] at f1
    injection f1 with f1
    subst f1
    rw [e2] at f2
    injection f2 with f2; injection f2 with f2; injection f2 with _ f2
    injection f2 with g1 f2
    cases g1
  | .inr (m, h) :: r, .inr (m', h') :: r', s, ⟨q, ou, e1, e2, e4⟩, ⟨q', ou', f1, f2, f4⟩ => by
    rw [e1] at f1
    injection f1 with f1
    subst f1
    rw [e2] at f2
    injection f2 with f2; injection f2 with f2; injection f2 with _ f2
    injection f2 with _ f2; injection f2 with g1 f2; injection f2 with g2 f2; injection f2 with g4 _
    injection g1 with g1
    injection g2 with g2
    have g4 := va_ri g4
    have g3 : h = h' := by
      revert g2
      cases h <;> cases h' <;> decide
    subst g1 g3 g4
    rw [cScp.uq r r' ou e4 f4]
theorem cScp.ad (hfr : ∀ q, σ.2.1 ≤ q → σ.1 q = none) : ∀ (L : List sEn) (s : Option Nat), cScp bs kn σ L s → ∃ qs : List Nat, qs.length = L.length ∧ ∀ (i q : Nat), qs[i]? = some q → cScp bs kn σ (L.drop i) (some q) ∧ q < σ.2.1
  | [], _, _ => ⟨[], rfl, fun i q h => by cases h⟩
  | .inl a :: r, s, ⟨q, ou, v, e1, e2, e3, e4⟩ => by
    obtain ⟨qs, h1, h2⟩ := cScp.ad hfr r ou e4
    refine ⟨q :: qs, by show qs.length + 1 = r.length + 1; rw [h1], fun i x hx => ?_⟩
    cases i with
    | zero =>
      have hx : some q = some x := hx
      injection hx with hx
      rw [← hx]
      exact ⟨⟨q, ou, v, rfl, e2, e3, e4⟩, Nat.lt_of_not_le (fun z => by rw [hfr q z] at e2; cases e2)⟩
    | succ i => exact h2 i x hx
  | .inr (m, h) :: r, s, ⟨q, ou, e1, e2, e4⟩ => by
    obtain ⟨qs, h1, h2⟩ := cScp.ad hfr r ou e4
    refine ⟨q :: qs, by show qs.length + 1 = r.length + 1; rw [h1], fun i x hx => ?_⟩
    cases i with
    | zero =>
      have hx : some q = some x := hx
      injection hx with hx
      rw [← hx]
      exact ⟨⟨q, ou, rfl, e2, e4⟩, Nat.lt_of_not_le (fun z => by rw [hfr q z] at e2; cases e2)⟩
    | succ i => exact h2 i x hx
/-- **no longer than there are cells** -/
theorem cScp.ln (hfr : ∀ q, σ.2.1 ≤ q → σ.1 q = none) {L : List sEn} {s : Option Nat} (h : cScp bs kn σ L s) : L.length ≤ σ.2.1 := by
  obtain ⟨qs, h1, h2⟩ := cScp.ad hfr L s h
  rw [← h1]
  refine nd_len _ qs ?_ (fun x hx => ?_)
  · refine List.pairwise_iff_getElem.mpr (fun i j hi hj hij e => ?_)
    have hq : qs[i]? = some qs[i] := List.getElem?_eq_getElem hi
    have hq' : qs[j]? = some qs[i] := by rw [e]; exact List.getElem?_eq_getElem hj
    have := cScp.uq _ _ _ (h2 i _ hq).1 (h2 j _ hq').1
    have := congrArg List.length this
    rw [List.length_drop, List.length_drop] at this
    omega
  · obtain ⟨i, hi⟩ := List.getElem?_of_mem hx
    exact (h2 i x hi).2
end SLN
