/-! the class's Judge: what a node of a C means -/
/-- a way on: the order does not matter, and nothing goes on from limits or truths that contradict -/
def kDd (K : oKt) : Prop := kInv K ∧ ∀ L ts, K L ts → xOk (xC L) ∧ tCo ts
section KDD
variable {K : oKt} {B : List oBr}
theorem exB.d (h : kDd K) : kDd (exB B K) := ⟨exB.inv h.1, fun L ts ⟨b, _, hk⟩ => ⟨xOk.mono (fun l w => List.mem_append_right _ w) (h.2 _ _ hk).1, fun x p q w w' => (h.2 _ _ hk).2 x p q (List.mem_append_right _ w) (List.mem_append_right _ w')⟩⟩
theorem exL.d (h : kDd K) : ∀ Bs, kDd (exL Bs K)
  | [] => h
  | B :: Bs => exB.d (exL.d h Bs)
end KDD
/-- what waits, truths -/
def pMn (Mn : Nat → Bool → List oBr) (P : List (Nat × Bool)) : List (List oBr) := P.map (fun x => Mn x.1 x.2)
def tMn (ti : Nat → Nat) (Tr : List (Nat × Bool)) : List (Nat × Bool) := Tr.map (fun x => (ti x.1, x.2))
/-- one way of any -/
def brAny : List (List oBr) → List oBr
  | [] => []
  | B :: Bs => B ++ brAny Bs
theorem cLs.jk {κ : oKv} {σ σ' : oSt} {pa ph ta th x d cap l : Nat} {mc : Int32} {g : Nat → Option Nat} (h : cLs κ σ x d cap l mc g 7) (k : jKp pa ph ta th σ σ') (h4 : d ≠ pa ∧ d ≠ ph ∧ d ≠ ta ∧ d ≠ th) (h5 : d < σ.2.1) : cLs κ σ' x d cap l mc g 7 := by
  obtain ⟨h1, h2, h3⟩ := h
  refine ⟨k.1 _ _ h1 ⟨by show (1 : Nat) ≠ 3; decide, by show (1 : Nat) ≠ 8; decide⟩, ?_, fun j hj => ?_⟩
  · rcases h2 with ⟨a, b, c, d⟩ | ⟨a, b, c⟩
    · exact Or.inl ⟨a, b, c, k.2.1 _ d (Or.inl h5)⟩
    · exact Or.inr ⟨k.1 _ _ a ⟨fun e => (by cases e), h4⟩, b, c⟩
  · obtain ⟨b, fs, e1, e2⟩ := h3 j hj
    exact ⟨b, fs, e1, k.1 _ _ e2 ⟨by show (7 : Nat) ≠ 3; decide, by show (7 : Nat) ≠ 8; decide⟩⟩
/-- a node that waits: it holds in one of several ways -/
def jW (σ : oSt) (m : Nat) (h : Bool) : Prop := ∃ fs, σ.1 m = some (.inr (7, fs)) ∧ (fs[0]? = some (.int (if h = true then 303 else 302)) ∨ (fs[0]? = some (.int 403) ∧ ∃ r, fs[5]? = some (.int (jRc r)) ∧ r ≤ 5 ∧ (if h = true then r else rNo r) = 5))
theorem jW.jk {σ σ' : oSt} {pa ph ta th m : Nat} {h : Bool} (w : jW σ m h) (k : jKp pa ph ta th σ σ') : jW σ' m h := by
  obtain ⟨fs, h1, h2⟩ := w
  exact ⟨fs, k.1 _ _ h1 ⟨by show (7 : Nat) ≠ 3; decide, by show (7 : Nat) ≠ 8; decide⟩, h2⟩
section JMN
variable {κ : oKv} {σ σ' : oSt} {pa ph ta th c : Nat} {rd : Int32} {B : Int} {sl ti : Nat → Nat} {Mn : Nat → Bool → List oBr} {X : Nat → Prop}
/-- node m means Mn m, H high, of a comparisons and truths -/
def jMn (X : Nat → Prop) (κ : oKv) (σ : oSt) (pa ph ta th : Nat) (rd : Int32) (sl ti : Nat → Nat) (c : Nat) (B : Int) (Mn : Nat → Bool → List oBr) : Nat → Nat → Nat → Prop
  | 0, _, _ => False
  | H + 1, a, m => ∃ fs, σ.1 m = some (.inr (7, fs)) ∧ 1 ≤ a ∧ ((fs[0]? = some (.int 217) ∧ ∃ x, fs[12]? = some (.ref x) ∧ jMn X κ σ pa ph ta th rd sl ti c B Mn H a x ∧ ∀ h, Mn m h = Mn x (!h)) ∨ (∃ (an : Bool) (li dd cap q : Nat) (mc : Int32) (g : Nat → Option Nat) (xs : List (Nat × Nat)), fs[0]? = some (.int (if an = true then 302 else 303)) ∧ fs[18]? = some (.ref li) ∧ cLs κ σ li dd cap q mc g 7 ∧ (xs.length = q ∧ 2 ≤ q) ∧ (dd ≠ pa ∧ dd ≠ ph ∧ dd ≠ ta ∧ dd ≠ th) ∧ dd < σ.2.1 ∧ (∀ (i : Nat) (y : Nat × Nat), xs[i]? = some y → g i = some y.1 ∧ jMn X κ σ pa ph ta th rd sl ti c B Mn H y.2 y.1) ∧ (xs.map Prod.snd).sum = a ∧ ∀ h, Mn m h = if an = h then brAll (xs.map (fun x => Mn x.1 h)) else brAny (xs.map (fun x => Mn x.1 h))) ∨ (∃ bo : Bool, fs[0]? = some (.int (if bo = true then 223 else 205)) ∧ ∀ h, Mn m h = if bo = h then [([], [])] else []) ∨ (∃ x gs, fs[0]? = some (.int 402) ∧ fs[9]? = some (.ref x) ∧ σ.1 x = some (.inr (6, gs)) ∧ ∀ h, Mn m h = [([], [(ti x, h)])]) ∨ (∃ su Ls pl r, fs[0]? = some (.int 403) ∧ fs[5]? = some (.int (jRc r)) ∧ r ≤ 5 ∧ fs[19]? = some (.ref su) ∧ (jSm σ pa ph ta th rd sl c B su Ls pl ∧ ∀ fs', σ.1 su = some (.inr (11, fs')) → ∀ t', fs'[1]? = some (.ref t') → ¬ X t') ∧ ∀ h, Mn m h = cmB (sMp sl Ls) pl.toInt (if h = true then r else rNo r)))
theorem jMn.nd : ∀ {H a m : Nat}, jMn X κ σ pa ph ta th rd sl ti c B Mn H a m → (∃ xf, σ.1 m = some (.inr (7, xf))) ∧ 1 ≤ a
  | 0, _, _, h => False.elim h
  | _ + 1, _, _, ⟨fs, h1, h2, _⟩ => ⟨⟨fs, h1⟩, h2⟩
theorem jMn.jk (k : jKp pa ph ta th σ σ') : ∀ (H a m : Nat), jMn X κ σ pa ph ta th rd sl ti c B Mn H a m → jMn X κ σ' pa ph ta th rd sl ti c B Mn H a m
  | 0, _, _, h => False.elim h
  | H + 1, a, m, ⟨fs, h1, h0, hM⟩ => by
    have ih := jMn.jk k H
    refine ⟨fs, k.1 _ _ h1 ⟨by show (7 : Nat) ≠ 3; decide, by show (7 : Nat) ≠ 8; decide⟩, h0, ?_⟩
    rcases hM with ⟨e, x, e1, e2, e3⟩ | ⟨an, li, dd, cap, q, mc, g, xs, e, e1, e2, e3, e4, e5, e6, e7, e8⟩ | ⟨bo, e, e3⟩ | ⟨x, gs, e, e1, e2, e3⟩ | ⟨su, Ls, pl, r, e, e1, e2, e4, ⟨e5, e6⟩, e3⟩
    · exact Or.inl ⟨e, x, e1, ih _ _ e2, e3⟩
    · exact Or.inr (Or.inl ⟨an, li, dd, cap, q, mc, g, xs, e, e1, e2.jk k e4 e5, e3, e4, Nat.lt_of_lt_of_le e5 k.2.2, fun i y hy => ⟨(e6 i y hy).1, ih _ _ (e6 i y hy).2⟩, e7, e8⟩)
    · exact Or.inr (Or.inr (Or.inl ⟨bo, e, e3⟩))
    · exact Or.inr (Or.inr (Or.inr (Or.inl ⟨x, gs, e, e1, k.1 _ _ e2 ⟨by show (6 : Nat) ≠ 3; decide, by show (6 : Nat) ≠ 8; decide⟩, e3⟩)))
    · exact Or.inr (Or.inr (Or.inr (Or.inr ⟨su, Ls, pl, r, e, e1, e2, e4, ⟨e5.jk k, fun fs' h => by
      obtain ⟨na, ta', cap, hs, -⟩ := e5
      obtain ⟨g, h', s1, -⟩ := hs
      have s2 := k.1 _ _ s1 ⟨by show (11 : Nat) ≠ 3; decide, by show (11 : Nat) ≠ 8; decide⟩
      rw [h] at s2
      injection s2 with s2
      injection s2 with s2
      injection s2 with s2 s3
      subst s3
      exact e6 _ s1⟩, e3⟩)))
theorem jMn.up : ∀ (H a m : Nat), jMn X κ σ pa ph ta th rd sl ti c B Mn H a m → jMn X κ σ pa ph ta th rd sl ti c B Mn (H + 1) a m
  | 0, _, _, h => False.elim h
  | H + 1, a, m, ⟨fs, h1, h0, hM⟩ => by
    have ih := jMn.up H
    refine ⟨fs, h1, h0, ?_⟩
    rcases hM with ⟨e, x, e1, e2, e3⟩ | ⟨an, li, dd, cap, q, mc, g, xs, e, e1, e2, e3, e4, e5, e6, e7, e8⟩ | hM
    · exact Or.inl ⟨e, x, e1, ih _ _ e2, e3⟩
    · exact Or.inr (Or.inl ⟨an, li, dd, cap, q, mc, g, xs, e, e1, e2, e3, e4, e5, fun i y hy => ⟨(e6 i y hy).1, ih _ _ (e6 i y hy).2⟩, e7, e8⟩)
    · exact Or.inr (Or.inr hM)
end JMN
