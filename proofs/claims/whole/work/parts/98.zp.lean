/-! the class's parser: a C in cells -/
/-- a C's first word -/
def tPl : tT → Nat
  | .leaf => 0
  | .inner g d _ a _ => if g = 20 ∨ g = 21 then tPl a else d.1
/-- the node of ! -/
def cNf (pl cd : Int32) (x : Nat) : List Value := [.int 217, .int pl, .int cd, .int pl, .int 0, .int 0, .int 0, .int 0, .int 0, .null, .null, .null, .ref x, .null, .null, .null, .null, .null, .null, .null, .null]
/-- the node of && and || -/
def cLf (k pl cd : Int32) (pa : Nat) : List Value := [.int k, .int pl, .int cd, .int pl, .int 0, .int 0, .int 0, .int 0, .int 0, .null, .null, .null, .null, .null, .null, .null, .null, .null, .ref pa, .null, .null]
/-- a list of nodes in cells -/
def cLn (κ : oKv) (A : Nat → Nat) (D : cDt) (lo : Nat) (σ : oSt) (pa n : Nat) (g : Nat → Option Nat) : Prop := ∃ d cap mc, cLs κ σ pa d cap n mc g 7 ∧ (cOk A D lo σ d ∨ (d = κ.2.2.1 ∧ σ.1 d = none)) ∧ cOk A D lo σ pa ∧ cap ≤ 10 + 2 * n
/-- the C at m; a list: those of g from k to m -/
def cCt (κ : oKv) (T : Nat) (kk pp ee f : Nat → Int32) (A : Nat → Nat) (D : cDt) (lo : Nat) (σ : oSt) (cd : Nat) (ns : Nat → Option Nat) : tT → (Nat → Option Nat) → Nat → Nat → Prop
  | .leaf, _, k, m => k = m
  | .inner n d _ a b, g, k, m => match n with
    | 30 => ∃ x, g k = some x ∧ cCt κ T kk pp ee f A D lo σ cd ns a (fun _ => none) 0 x ∧ cCt κ T kk pp ee f A D lo σ cd ns b g (k + 1) m
    | 20 => cOk A D lo σ m ∧ ∃ pa q g' x, σ.1 m = some (.inr (7, cLf 303 (pp (tPl a)) (nI cd) pa)) ∧ cLn κ A D lo σ pa q g' ∧ g' 0 = some x ∧ cCt κ T kk pp ee f A D lo σ cd ns a (fun _ => none) 0 x ∧ cCt κ T kk pp ee f A D lo σ cd ns b g' 1 q
    | 21 => cOk A D lo σ m ∧ ∃ pa q g' x, σ.1 m = some (.inr (7, cLf 302 (pp (tPl a)) (nI cd) pa)) ∧ cLn κ A D lo σ pa q g' ∧ g' 0 = some x ∧ cCt κ T kk pp ee f A D lo σ cd ns a (fun _ => none) 0 x ∧ cCt κ T kk pp ee f A D lo σ cd ns b g' 1 q
    | 22 => cOk A D lo σ m ∧ ∃ x, σ.1 m = some (.inr (7, cNf (pp d.1) (nI cd) x)) ∧ cCt κ T kk pp ee f A D lo σ cd ns a (fun _ => none) 0 x
    | 23 => cOk A D lo σ m ∧ σ.1 m = some (.inr (7, cNd (if d.2.1 = 1 then 223 else 205) (pp d.1) (nI cd)))
    | 24 => cOk A D lo σ m ∧ cCr κ T kk pp ee f A D lo σ m d.1 cd ns (.inner 24 d () a b)
    | 25 => cOk A D lo σ m ∧ cCr κ T kk pp ee f A D lo σ m d.1 cd ns (.inner 25 d () a b)
    | _ => False
section CQC
variable {κ : oKv} {sz T n m len cnt : Nat} {kk pp ee f : Nat → Int32} {A : Nat → Nat} {σ σ' : oSt} {D D' : cDt} {cd : Nat} {ns : Nat → Option Nat} {lo lo' e i : Nat}
/-- what keeps the tree's cells -/
def cKp (κ : oKv) (A : Nat → Nat) (D : cDt) (lo : Nat) (σ : oSt) (D' : cDt) (lo' : Nat) (σ' : oSt) : Prop := (∀ a, cOk A D lo σ a → σ'.1 a = σ.1 a ∧ cOk A D' lo' σ' a) ∧ (∀ a fs, σ.1 a = some (.inr (6, fs)) → ∃ fs', σ'.1 a = some (.inr (6, fs'))) ∧ (∀ a fs, σ.1 a = some (.inr (7, fs)) → ∃ fs', σ'.1 a = some (.inr (7, fs'))) ∧ σ'.1 κ.2.2.1 = none
theorem cSp.kp {ps : List tP} {al : Int32} {pa su na ta cap pc : Nat} (G : cKp κ A D lo σ D' lo' σ') (h : cSp κ T pp ee f A D lo σ e i cd ns ps al pa su na ta cap pc) : cSp κ T pp ee f A D' lo' σ' e i cd ns ps al pa su na ta cap pc := by
  obtain ⟨hk, h6, h7, hlow⟩ := G
  obtain ⟨h1, ⟨d, mc, g, h2, h3, h4, h5⟩, h8, h9, h10, h11, h12, h13⟩ := h
  have hd : σ'.1 d = σ.1 d := by
    rcases h4 with z | ⟨z, z'⟩
    · exact (hk d z).1
    · rw [z', z]; exact hlow
  refine ⟨by rw [(hk e h9).1]; exact h1, ⟨d, mc, g, h2.keep (hk pa h10).1 hd h7, fun k p ek => ?_, ?_, h5⟩, ?_, (hk e h9).2, (hk pa h10).2, (hk su h11).2, (hk na h12).2, (hk ta h13).2⟩
  · obtain ⟨a, e1, e2, e3, e4⟩ := h3 k p ek
    exact ⟨a, e1, e2, (hk a e3).2, by rw [(hk a e3).1]; exact e4⟩
  · rcases h4 with z | ⟨z, z'⟩
    · exact Or.inl (hk d z).2
    · exact Or.inr ⟨z, hd.trans z'⟩
  · exact h8.keep (fun a ha => by
      rcases ha with z | z | z
      · rw [z]; exact (hk su h11).1
      · rw [z]; exact (hk na h12).1
      · rw [z]; exact (hk ta h13).1) h6
theorem cLn.kp {pa q : Nat} {g : Nat → Option Nat} (G : cKp κ A D lo σ D' lo' σ') (h : cLn κ A D lo σ pa q g) : cLn κ A D' lo' σ' pa q g := by
  obtain ⟨hk, h6, h7, hlow⟩ := G
  obtain ⟨d, cap, mc, h2, h4, h10, h5⟩ := h
  have hd : σ'.1 d = σ.1 d := by
    rcases h4 with z | ⟨z, z'⟩
    · exact (hk d z).1
    · rw [z', z]; exact hlow
  refine ⟨d, cap, mc, h2.keep (hk pa h10).1 hd h7, ?_, (hk pa h10).2, h5⟩
  rcases h4 with z | ⟨z, z'⟩
  · exact Or.inl (hk d z).2
  · exact Or.inr ⟨z, hd.trans z'⟩
theorem cCr.kp {t : tT} (G : cKp κ A D lo σ D' lo' σ') (he : σ'.1 e = σ.1 e) (h : cCr κ T kk pp ee f A D lo σ e i cd ns t) : cCr κ T kk pp ee f A D' lo' σ' e i cd ns t := by
  rcases h with ⟨h1, l, al, pa, su, na, ta, cap, pc, h2, h3⟩ | ⟨j, S, S', h1, l, al, pa, su, na, ta, cap, pc, r, al2, pa2, su2, na2, ta2, cap2, pc2, q, na3, ta3, cap3, h2, h3, h4, h5, h6, h7, h8⟩
  · exact Or.inl ⟨h1, l, al, pa, su, na, ta, cap, pc, by rw [he]; exact h2, h3.kp G⟩
  · refine Or.inr ⟨j, S, S', h1, l, al, pa, su, na, ta, cap, pc, r, al2, pa2, su2, na2, ta2, cap2, pc2, q, na3, ta3, cap3, by rw [he]; exact h2, h3.kp G, h4.kp G, ?_, (G.1 q h6).2, (G.1 na3 h7).2, (G.1 ta3 h8).2⟩
    exact h5.keep (fun a ha => by
      rcases ha with z | z | z
      · rw [z]; exact (G.1 q h6).1
      · rw [z]; exact (G.1 na3 h7).1
      · rw [z]; exact (G.1 ta3 h8).1) G.2.1
/-- a C is kept where its cells are -/
theorem cCt.kp (G : cKp κ A D lo σ D' lo' σ') : ∀ (t : tT) (g : Nat → Option Nat) (k m : Nat), cCt κ T kk pp ee f A D lo σ cd ns t g k m → cCt κ T kk pp ee f A D' lo' σ' cd ns t g k m
  | .leaf, _, _, _, h => h
  | .inner n d _ a b, g, k, m, h => by
    have Ia := cCt.kp G a
    have Ib := cCt.kp G b
    unfold cCt at h ⊢
    split at h
    · obtain ⟨x, h1, h2, h3⟩ := h
      exact ⟨x, h1, Ia _ _ _ h2, Ib _ _ _ h3⟩
    · obtain ⟨h1, pa, q, g', x, h2, h3, h4, h5, h6⟩ := h
      exact ⟨(G.1 m h1).2, pa, q, g', x, by rw [(G.1 m h1).1]; exact h2, h3.kp G, h4, Ia _ _ _ h5, Ib _ _ _ h6⟩
    · obtain ⟨h1, pa, q, g', x, h2, h3, h4, h5, h6⟩ := h
      exact ⟨(G.1 m h1).2, pa, q, g', x, by rw [(G.1 m h1).1]; exact h2, h3.kp G, h4, Ia _ _ _ h5, Ib _ _ _ h6⟩
    · obtain ⟨h1, x, h2, h3⟩ := h
      exact ⟨(G.1 m h1).2, x, by rw [(G.1 m h1).1]; exact h2, Ia _ _ _ h3⟩
    · obtain ⟨h1, h2⟩ := h
      exact ⟨(G.1 m h1).2, by rw [(G.1 m h1).1]; exact h2⟩
    · obtain ⟨h1, h2⟩ := h
      exact ⟨(G.1 m h1).2, h2.kp G (G.1 m h1).1⟩
    · obtain ⟨h1, h2⟩ := h
      exact ⟨(G.1 m h1).2, h2.kp G (G.1 m h1).1⟩
    · exact h
end CQC
