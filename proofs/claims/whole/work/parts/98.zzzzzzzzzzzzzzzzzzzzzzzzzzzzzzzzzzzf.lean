/-! type(): tell(), the class -/
/-- what a type may say -/
def tOk (Nm : gN → Prop) (sy : gTy → List gFc) : tY → gTy → Prop
  | .leaf, A => (sy A).length ≤ 900 ∧ ∀ c, c ∈ sy A → ∀ a e, c.2.1 = some (a, e) → Nm a
  | .inner k _ _ a b, A => if k = 0 then Nm (gPn A) ∧ tOk Nm sy a (gTk A) ∧ tOk Nm sy b (gAn A) else (sy A).length ≤ 900 ∧ ∀ c, c ∈ sy A → ∀ a e, c.2.1 = some (a, e) → Nm a
theorem tKw_len (k : Nat) : (tKw k).length ≤ 5 := by
  unfold tKw
  split
  · decide
  · split
    · decide
    · split
      · decide
      · decide
section TSG
variable {κ : oKv} {ks : Nat → Nat} {wd : Nat → List Int32} {bk : gN → Nat} {sy : gTy → List gFc} {T n x nl sz k w da da' d d' cap cap' cl cl' : Nat} {lo : Nat × (Nat → Prop)} {na : gN → Nat} {Nm : gN → Prop} {σ u : oSt} {s : tPs} {G : List (Nat × kTe)} {kd : Int32} {A : gTy}
theorem tOr.ok : ∀ (y : tY) (A : gTy) (w : Nat), tOr na Nm sy lo σ G y A w → tOk Nm sy y A
  | .leaf, A, w, ⟨_, ra, sa, F, _, c3, c4⟩ => ⟨by rw [c4.1]; exact c3, c4.mm⟩
  | .inner k _ _ a b, A, w, ⟨_, c2⟩ => by
    unfold tOk
    by_cases c : k = 0
    · rw [if_pos c] at c2 ⊢
      obtain ⟨fs, wl, wr, m1, ⟨m2, m3, m4, m5⟩, m6, m7⟩ := c2
      exact ⟨m3, tOr.ok a _ _ m6, tOr.ok b _ _ m7⟩
    · rw [if_neg c] at c2 ⊢
      obtain ⟨ra, sa, F, _, c3, c4⟩ := c2
      exact ⟨by rw [c4.1]; exact c3, c4.mm⟩
theorem tLef_D (hw : ∀ w, (wd w).length ≤ 3000) {C : List gFc} {m kw : Nat} (hl : C.length ≤ 900) (hc : ∀ c, c ∈ C → ∀ a e, c.2.1 = some (a, e) → Nm a) (h1 : s.2.Nodup) (h2 : ∀ a, a ∈ s.2 → Nm a) : (tLef wd bk true C m kw s).2.Nodup ∧ (∀ a, a ∈ (tLef wd bk true C m kw s).2 → Nm a) ∧ (tLef wd bk true C m kw s).1.length ≤ s.1.length + 3000000 := by
  obtain ⟨e1, e2, e3⟩ := tFs_D wd bk hw Nm C true s hc h1 h2
  refine ⟨e1, e2, ?_⟩
  show (((tFs wd bk true C s).1 ++ (if m = 0 then [] else [125])) ++ tKw kw).length ≤ _
  have k5 := tKw_len kw
  have m1 : (if m = 0 then [] else [(125 : Int32)]).length ≤ 1 := by split <;> decide
  rw [List.length_append, List.length_append]
  omega
theorem tTy_D (hw : ∀ w, (wd w).length ≤ 3000) : ∀ (y : tY) (A : gTy) (s : tPs), tOk Nm sy y A → s.2.Nodup → (∀ a, a ∈ s.2 → Nm a) → (tTy wd bk sy y A s).2.Nodup ∧ (∀ a, a ∈ (tTy wd bk sy y A s).2 → Nm a) ∧ (tTy wd bk sy y A s).1.length ≤ s.1.length + (6000000 * tSz y + 3000000)
  | .leaf, A, s, h, h1, h2 => by
    obtain ⟨e1, e2, e3⟩ := tLef_D (bk := bk) (m := (sy A).length) (kw := tKk (cKd 0)) hw h.1 h.2 h1 h2
    exact ⟨e1, e2, by show _ ≤ s.1.length + (6000000 * 0 + 3000000); exact e3⟩
  | .inner k _ _ a b, A, s, h, h1, h2 => by
    unfold tOk at h
    unfold tTy tSz
    by_cases c : k = 0
    · rw [if_pos c] at h
      obtain ⟨g1, g2, g3⟩ := h
      simp only [if_pos c]
      have n1 := tNm_nd wd (gPn A) s h1
      have n2 : ∀ b, b ∈ (tNm wd (gPn A) s).2 → Nm b := fun b hb => by
        rcases (tNm_D wd (gPn A) s).1 b hb with r | r
        · exact h2 b r
        · rw [r]; exact g1
      have n3 := tNm_L wd hw (gPn A) s
      generalize tNm wd (gPn A) s = s1 at n1 n2 n3
      by_cases ca : yK a = 1
      · simp only [if_pos ca]
        obtain ⟨p1, p2, p3⟩ := tTy_D hw a (gTk A) ((s1.1 ++ [58]) ++ [40], s1.2) g2 n1 n2
        obtain ⟨q1, q2, q3⟩ := tTy_D hw b (gAn A) (((tTy wd bk sy a (gTk A) ((s1.1 ++ [58]) ++ [40], s1.2)).1 ++ [41]) ++ [45, 62], (tTy wd bk sy a (gTk A) ((s1.1 ++ [58]) ++ [40], s1.2)).2) g3 p1 p2
        refine ⟨q1, q2, Nat.le_trans q3 ?_⟩
        have p3 : _ ≤ ((s1.1 ++ [58]) ++ [(40 : Int32)]).length + _ := p3
        simp only [List.length_append, List.length_cons, List.length_nil] at p3 ⊢
        omega
      · simp only [if_neg ca]
        obtain ⟨p1, p2, p3⟩ := tTy_D hw a (gTk A) (s1.1 ++ [58], s1.2) g2 n1 n2
        obtain ⟨q1, q2, q3⟩ := tTy_D hw b (gAn A) ((tTy wd bk sy a (gTk A) (s1.1 ++ [58], s1.2)).1 ++ [45, 62], (tTy wd bk sy a (gTk A) (s1.1 ++ [58], s1.2)).2) g3 p1 p2
        refine ⟨q1, q2, Nat.le_trans q3 ?_⟩
        have p3 : _ ≤ (s1.1 ++ [(58 : Int32)]).length + _ := p3
        simp only [List.length_append, List.length_cons, List.length_nil] at p3 ⊢
        omega
    · rw [if_neg c] at h
      rw [if_neg c]
      obtain ⟨e1, e2, e3⟩ := tLef_D (bk := bk) (m := (sy A).length) (kw := tKk (cKd (k + 1))) hw h.1 h.2 h1 h2
      exact ⟨e1, e2, Nat.le_trans e3 (by omega)⟩
/-- a leaf's text, whichever kind -/
theorem p_t187 (hT : 100100 ≤ T) (hin : ∀ a b, Nm a → Nm b → na a = na b → a = b) (hw : ∀ w, (wd w).length ≤ 3000) {y : tY} (hy : yK y ≠ 1) (W : cLw κ ks T sz x da σ) (h : cTp κ x nl na s cap da d cl σ) (hN : tNs κ wd bk na x nl da d Nm σ) (hD : ∀ b, b ∈ s.2 → Nm b) (h4 : s.2.length ≤ 1500) (hk : kPk lo σ k w G (cKd (yK y))) (hO : tOr na Nm sy lo σ G y A w) (hl : s.1.length < 767000000) : ∃ u cap' da' d' cl', oF κ T (n + 9) 187 [va_rf (some x), va_rf (some k)] σ = some (none, u) ∧ cTp κ x nl na (tTy wd bk sy y A s) cap' da' d' cl' u ∧ tFww x nl da d σ da' d' u ∧ cPyz σ cap cl u cap' cl' := by
  obtain ⟨kG, fs, ins, kc, -, k0⟩ := hk
  have H : ∀ {kw : Int32}, fs[0]? = some (.int kw) → (∃ ra sa F, kOr lo σ w ra sa F ∧ F.length ≤ 900 ∧ tFc na Nm F G (sy A)) → ∃ u cap' da' d' cl', oF κ T (n + 9) 187 [va_rf (some x), va_rf (some k)] σ = some (none, u) ∧ cTp κ x nl na (tLef wd bk true (sy A) (sy A).length (tKk kw) s) cap' da' d' cl' u ∧ tFww x nl da d σ da' d' u ∧ cPyz σ cap cl u cap' cl' := fun {kw} k0 ⟨ra, sa, F, o1, o2, o3⟩ => by
    rw [o3.1]
    exact p_leaf hT hin hw o3 W h hN hD o1 kG ⟨fs, kc, k0⟩ (by omega) (by omega)
  match y, hy, k0, hO with
  | .leaf, _, k0, hO => exact H k0 hO.2
  | .inner j _ _ a b, hy, k0, hO =>
    have c : j ≠ 0 := fun z => hy (by rw [z]; rfl)
    have hO := hO.2
    rw [if_neg c] at hO
    unfold tTy
    rw [if_neg c]
    exact H k0 hO
theorem cKd_k1 : ∀ {y : tY}, (cKd (yK y) = 206 ↔ yK y = 1)
  | .leaf => by decide
  | .inner j _ _ a b => by
    show cKd (j + 1) = 206 ↔ j + 1 = 1
    unfold cKd
    by_cases c0 : j = 0
    · subst c0; decide
    · rw [if_neg (by omega), if_neg (by omega)]
      constructor
      · intro z
        split at z
        · cases z
        · split at z
          · cases z
          · split at z
            · cases z
            · cases z
      · intro z; omega
end TSG
