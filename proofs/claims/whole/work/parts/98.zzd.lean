/-! a tree's cells are kept; NAMES behind it -/
section TRL
variable {κ : oKv} {T : Nat} {kk pp ee f : Nat → Int32} {A : Nat → Nat} {D D' : cDt} {lo lo' : Nat} {σ σ' : oSt} {nm nm' : Nat → Option Nat}
theorem memA {P : Nat → Prop} {env l : List Nat} (h1 : ∀ u ∈ env, P u) (h2 : ∀ u ∈ l, P u) : ∀ u ∈ env ++ l, P u := fun u hu => by
  rcases List.mem_append.mp hu with z | z
  · exact h1 u z
  · exact h2 u z
theorem cKp.up {l2 : Nat} (G : cKp κ A D lo σ D' lo' σ') (h : lo ≤ l2) : cKp κ A D l2 σ D' l2 σ' := ⟨fun a ha => by
  obtain ⟨w1, w2⟩ := G.1 a ⟨by have := ha.1; omega, ha.2⟩
  exact ⟨w1, ha.1, w2.2⟩, G.2⟩
set_option maxHeartbeats 2000000 in
theorem cTr.kq {P : Nat → Prop} (hP : ∀ u, P u → nm' u = nm u) : ∀ (t : tT) (lo lo' : Nat) (G : cKp κ A D lo σ D' lo' σ') (env : List Nat) (fk : Nat) (g : Nat → Option Nat) (k m : Nat), (∀ u ∈ env, P u) → (∀ u ∈ tW t, P u) → (∀ x, x < fk + nF t → D'.2.2.2 x = D.2.2.2 x) → cTr κ T kk pp ee f A D lo σ nm t env fk g k m → cTr κ T kk pp ee f A D' lo' σ' nm' t env fk g k m
  | .leaf, _, _, _, _, _, _, _, _, _, _, _, h => h
  | .inner n d _ a b, lo, lo', G, env, fk, g, k, m, he, hw, hf, h => by
    have Ia := cTr.kq hP a lo lo' G
    have Ib := cTr.kq hP b lo lo' G
    have hR : nR f pp ee nm' env = nR f pp ee nm env := nR_cg (fun u hu => hP u (he u hu))
    unfold cTr at h ⊢
    rw [hR]
    split at h
    · obtain ⟨h1, x, y, w, h2, h3, h4, h5⟩ := h
      replace hw : ∀ u ∈ (d.1 + 1) :: (tW a ++ tW b), P u := hw
      replace hf : ∀ x, x < fk + (0 + nF a + nF b) → D'.2.2.2 x = D.2.2.2 x := hf
      exact ⟨(G.1 m h1).2, x, y, w, by rw [(G.1 m h1).1]; exact h2, h3.kp G (hP _ (hw _ (by simp))), Ia _ _ _ _ _ he (fun u hu => hw u (by simp [hu])) (fun x hx => hf x (by omega)) h4, Ib _ _ _ _ _ (memA he (fun u hu => hw u (by simp at hu; simp [hu]))) (fun u hu => hw u (by simp [hu])) (fun x hx => hf x (by omega)) h5⟩
    · obtain ⟨h1, x, y, w, q, h2, h3, h4, h5, h6, h7⟩ := h
      replace hw : ∀ u ∈ (d.1 + 2) :: (List.range' (d.1 + 3) d.2.1 ++ (tW a ++ tW b)), P u := hw
      replace hf : ∀ x, x < fk + (1 + nF a + nF b) → D'.2.2.2 x = D.2.2.2 x := hf
      exact ⟨(G.1 m h1).2, x, y, w, q, by rw [(G.1 m h1).1]; exact h2, (hf fk (by omega)).trans h3, h4.kp G (hP _ (hw _ (by simp))), h5.kp G (fun x hx => hP _ (hw _ (by simp only [List.mem_cons, List.mem_append, List.mem_range'_1]; omega))), Ia _ _ _ _ _ (memA he (fun u hu => hw u (by simp only [List.mem_cons, List.mem_append, List.mem_singleton] at hu ⊢; rcases hu with z | z; exact Or.inl (by simpa using z); exact Or.inr (Or.inl z)))) (fun u hu => hw u (by simp [hu])) (fun x hx => hf x (by omega)) h6, Ib _ _ _ _ _ (memA he (fun u hu => hw u (by simp at hu; simp [hu]))) (fun u hu => hw u (by simp [hu])) (fun x hx => hf x (by omega)) h7⟩
    · obtain ⟨h1, x, q, mk, h2, h3, h4, h5⟩ := h
      replace hw : ∀ u ∈ (d.1 + 1) :: tW a, P u := hw
      replace hf : ∀ x, x < fk + (1 + nF a + nF b) → D'.2.2.2 x = D.2.2.2 x := hf
      exact ⟨(G.1 m h1).2, x, q, mk, by rw [(G.1 m h1).1]; exact h2, (hf fk (by omega)).trans h3, h4.kp (G.up (by have := h1.1; omega)) (fun x hx => hP _ (hw _ (by rw [show d.1 + 1 + x = d.1 + 1 by omega]; simp))), cTr.kq hP a (m + 1) (m + 1) (G.up (by have := h1.1; omega)) _ _ _ _ _ (memA he (fun u hu => hw u (by simp at hu; simp [hu]))) (fun u hu => hw u (by simp [hu])) (fun x hx => hf x (by omega)) h5⟩
    · obtain ⟨h1, c, x, y, h2, h3, h4⟩ := h
      replace hw : ∀ u ∈ tW b, P u := hw
      replace hf : ∀ x, x < fk + (0 + 0 + nF b) → D'.2.2.2 x = D.2.2.2 x := hf
      exact ⟨(G.1 m h1).2, c, x, y, by rw [(G.1 m h1).1]; exact h2, h3.kp G, Ib _ _ _ _ _ he hw (fun x hx => hf x (by omega)) h4⟩
    · obtain ⟨h1, c, x, h2, h3, h4⟩ := h
      replace hw : ∀ u ∈ tW b, P u := hw
      replace hf : ∀ x, x < fk + (0 + 0 + nF b) → D'.2.2.2 x = D.2.2.2 x := hf
      exact ⟨(G.1 m h1).2, c, x, by rw [(G.1 m h1).1]; exact h2, h3.kp G, Ib _ _ _ _ _ he hw (fun x hx => hf x (by omega)) h4⟩
    · obtain ⟨h1, x, l, r, nd, su, su', h2, h3, h4, h5, h6⟩ := h
      replace hw : ∀ u ∈ tW a, P u := hw
      replace hf : ∀ x, x < fk + (0 + nF a + nF b) → D'.2.2.2 x = D.2.2.2 x := hf
      exact ⟨(G.1 m h1).2, x, l, r, nd, su, su', by rw [(G.1 m h1).1]; exact h2, h3.kp G, h4.kp G, h5.kp G, Ia _ _ _ _ _ he hw (fun x hx => hf x (by omega)) h6⟩
    · obtain ⟨h1, l, c, su, h2, h3, h4⟩ := h
      exact ⟨(G.1 m h1).2, l, c, su, by rw [(G.1 m h1).1]; exact h2, h3.kp G, h4.kp G⟩
    · exact ⟨(G.1 m h.1).2, by rw [(G.1 m h.1).1]; exact h.2⟩
    · exact ⟨(G.1 m h.1).2, by rw [(G.1 m h.1).1]; exact h.2⟩
    · obtain ⟨su, h⟩ := h
      exact ⟨su, h.kp G⟩
    · obtain ⟨h1, l, r, su, su', h2, h3, h4⟩ := h
      exact ⟨(G.1 m h1).2, l, r, su, su', by rw [(G.1 m h1).1]; exact h2, h3.kp G, h4.kp G⟩
    · obtain ⟨h1, l, r, c, su, su', h2, h3, h4, h5⟩ := h
      exact ⟨(G.1 m h1).2, l, r, c, su, su', by rw [(G.1 m h1).1]; exact h2, h3.kp G, h4.kp G, h5.kp G⟩
    · obtain ⟨h1, l, r, c, su, su', h2, h3, h4, h5⟩ := h
      exact ⟨(G.1 m h1).2, l, r, c, su, su', by rw [(G.1 m h1).1]; exact h2, h3.kp G, h4.kp G, h5.kp G⟩
    · obtain ⟨h1, l, nd, su, h2, h3, h4⟩ := h
      exact ⟨(G.1 m h1).2, l, nd, su, by rw [(G.1 m h1).1]; exact h2, h3.kp G, h4.kp G⟩
    · obtain ⟨h1, pa, q, g', h2, h3, h4⟩ := h
      replace hw : ∀ u ∈ tW a, P u := hw
      replace hf : ∀ x, x < fk + (0 + nF a + nF b) → D'.2.2.2 x = D.2.2.2 x := hf
      exact ⟨(G.1 m h1).2, pa, q, g', by rw [(G.1 m h1).1]; exact h2, h3.kp G, Ia _ _ _ _ _ he hw (fun x hx => hf x (by omega)) h4⟩
    · obtain ⟨h1, x, h2, h3⟩ := h
      replace hw : ∀ u ∈ tW a ++ tW b, P u := hw
      replace hf : ∀ x, x < fk + (0 + nF a + nF b) → D'.2.2.2 x = D.2.2.2 x := hf
      exact ⟨(G.1 m h1).2, x, by rw [(G.1 m h1).1]; exact h2, Ia _ _ _ _ _ he (fun u hu => hw u (by simp [hu])) (fun x hx => hf x (by omega)) h3⟩
    · exact ⟨(G.1 m h.1).2, by rw [(G.1 m h.1).1]; exact h.2⟩
    · obtain ⟨h1, l, su, h2, h3⟩ := h
      exact ⟨(G.1 m h1).2, l, su, by rw [(G.1 m h1).1]; exact h2, h3.kp G⟩
    · obtain ⟨h1, x, y, c, q, su, na, ta, h2, h3, ⟨h4, k1, k2, k3⟩, h5, h6, h7⟩ := h
      replace hw : ∀ u ∈ tW a ++ ([d.2.1, d.2.1 + 1] ++ tW b), P u := hw
      replace hf : ∀ x, x < fk + (0 + nF a + nF b) → D'.2.2.2 x = D.2.2.2 x := hf
      exact ⟨(G.1 m h1).2, x, y, c, q, su, na, ta, by rw [(G.1 m h1).1]; exact h2, h3.kp G, ⟨h4.kp G k1 k2 k3, (G.1 su k1).2, (G.1 na k2).2, (G.1 ta k3).2⟩, h5.kp G (fun x hx => hP _ (hw _ (by simp only [List.mem_append, List.mem_cons]; omega))), Ia _ _ _ _ _ he (fun u hu => hw u (by simp [hu])) (fun x hx => hf x (by omega)) h6, Ib _ _ _ _ _ (memA he (fun u hu => hw u (by simp only [List.mem_append]; exact Or.inr (Or.inl hu)))) (fun u hu => hw u (by simp [hu])) (fun x hx => hf x (by omega)) h7⟩
    · obtain ⟨x, h1, h2, h3⟩ := h
      replace hw : ∀ u ∈ tW a ++ tW b, P u := hw
      replace hf : ∀ x, x < fk + (0 + nF a + nF b) → D'.2.2.2 x = D.2.2.2 x := hf
      exact ⟨x, h1, Ia _ _ _ _ _ he (fun u hu => hw u (by simp [hu])) (fun x hx => hf x (by omega)) h2, Ib _ _ _ _ _ he (fun u hu => hw u (by simp [hu])) (fun x hx => hf x (by omega)) h3⟩
    · obtain ⟨x, su, h1, h2, h3⟩ := h
      replace hw : ∀ u ∈ tW a ++ tW b, P u := hw
      replace hf : ∀ x, x < fk + (0 + nF a + nF b) → D'.2.2.2 x = D.2.2.2 x := hf
      exact ⟨x, su, h1, h2.kp G, Ib _ _ _ _ _ he (fun u hu => hw u (by simp [hu])) (fun x hx => hf x (by omega)) h3⟩
    · obtain ⟨x, fs, h1, ⟨k1, k2, k3⟩, h2, h3⟩ := h
      replace hw : ∀ u ∈ tW a ++ tW b, P u := hw
      replace hf : ∀ x, x < fk + (0 + nF a + nF b) → D'.2.2.2 x = D.2.2.2 x := hf
      exact ⟨x, fs, h1, ⟨(G.1 x k1).2, by rw [(G.1 x k1).1]; exact k2, k3⟩, Ia _ _ _ _ _ he (fun u hu => hw u (by simp [hu])) (fun x hx => hf x (by omega)) h2, Ib _ _ _ _ _ he (fun u hu => hw u (by simp [hu])) (fun x hx => hf x (by omega)) h3⟩
    · obtain ⟨x, h1, ⟨k1, k2⟩, h3⟩ := h
      replace hw : ∀ u ∈ tW a ++ tW b, P u := hw
      replace hf : ∀ x, x < fk + (0 + nF a + nF b) → D'.2.2.2 x = D.2.2.2 x := hf
      exact ⟨x, h1, ⟨(G.1 x k1).2, by rw [(G.1 x k1).1]; exact k2⟩, Ib _ _ _ _ _ he (fun u hu => hw u (by simp [hu])) (fun x hx => hf x (by omega)) h3⟩
    · exact h
theorem cTr.kp (G : cKp κ A D lo σ D' lo' σ') {P : Nat → Prop} (hP : ∀ u, P u → nm' u = nm u) (t : tT) (env : List Nat) (fk : Nat) (g : Nat → Option Nat) (k m : Nat) (he : ∀ u ∈ env, P u) (hw : ∀ u ∈ tW t, P u) (hf : ∀ x, x < fk + nF t → D'.2.2.2 x = D.2.2.2 x) (h : cTr κ T kk pp ee f A D lo σ nm t env fk g k m) : cTr κ T kk pp ee f A D' lo' σ' nm' t env fk g k m := cTr.kq hP t lo lo' G env fk g k m he hw hf h
theorem nUse_12 (w : Nat) (ν : nSt) : (nUse f pp ee w ν).1 = ν.1 ∧ (nUse f pp ee w ν).2.1 = ν.2.1 := by
  unfold nUse
  split
  · unfold nBad; split <;> exact ⟨rfl, rfl⟩
  · exact ⟨rfl, rfl⟩
theorem nPt_12 (p : tP) (ν : nSt) : (nPt f pp ee p ν).1 = ν.1 ∧ (nPt f pp ee p ν).2.1 = ν.2.1 := by
  unfold nPt
  split
  · exact ⟨rfl, rfl⟩
  · exact nUse_12 _ _
theorem nPs_12 : ∀ (ps : List tP) (ν : nSt), (nPs f pp ee ps ν).1 = ν.1 ∧ (nPs f pp ee ps ν).2.1 = ν.2.1
  | [], _ => ⟨rfl, rfl⟩
  | p :: ps, ν => by
    have h := nPs_12 ps (nPt f pp ee p ν)
    have h2 := nPt_12 (f := f) (pp := pp) (ee := ee) p ν
    exact ⟨h.1.trans h2.1, h.2.trans h2.2⟩
theorem nCt_2 : ∀ (t : tT) (ν : nSt), (nCt f pp ee t ν).2.1 = ν.2.1
  | .leaf, _ => rfl
  | .inner g d _ a b, ν => by
    unfold nCt
    split
    · exact (nUse_12 _ _).2
    · split
      · rw [(nPs_12 _ _).2, (nPs_12 _ _).2]
      · rw [nCt_2 b, nCt_2 a]
theorem nTell_12 (w : Nat) (ν : nSt) : (nTell f pp ee w ν).1 = ν.1 ∧ (nTell f pp ee w ν).2.1 = ν.2.1 ++ [w] := by
  unfold nTell
  split <;> exact ⟨rfl, rfl⟩
theorem nPar_12 : ∀ (q w : Nat) (ν : nSt), (nPar f pp ee q w ν).1 = ν.1 ++ List.range' w q ∧ (nPar f pp ee q w ν).2.1 = ν.2.1 ++ List.range' w q
  | 0, w, ν => by simp [nPar]
  | q + 1, w, ν => by
    have h := nPar_12 q (w + 1) (nCnt w (nTell f pp ee w ν))
    have h2 := nTell_12 (f := f) (pp := pp) (ee := ee) w ν
    unfold nPar
    rw [h.1, h.2, List.range'_succ]
    have e1 : (nCnt w (nTell f pp ee w ν)).1 = ν.1 ++ [w] := by show (nTell f pp ee w ν).1 ++ [w] = _; rw [h2.1]
    have e2 : (nCnt w (nTell f pp ee w ν)).2.1 = ν.2.1 ++ [w] := h2.2
    rw [e1, e2]
    simp
theorem nOff_1 {k : Nat} {ν : nSt} {env l : List Nat} (h : ν.1 = env ++ l) (hl : l.length = k) : (nOff k ν).1 = env := by
  show ν.1.take (ν.1.length - k) = env
  rw [h, List.length_append, hl, Nat.add_sub_cancel, List.take_left]
theorem nT_12 : ∀ (t : tT) (ν : nSt), (nT f pp ee t ν).1 = ν.1 ∧ (nT f pp ee t ν).2.1 = ν.2.1 ++ tW t
  | .leaf, ν => ⟨rfl, (List.append_nil _).symm⟩
  | .inner g d _ a b, ν => by
    have Ia := nT_12 a
    have Ib := nT_12 b
    unfold nT tW
    by_cases c1 : g = 1
    · rw [if_pos c1, if_pos c1]
      have e := Ib (nCnt (d.1 + 1) (nT f pp ee a (nTell f pp ee (d.1 + 1) ν)))
      have e2 := Ia (nTell f pp ee (d.1 + 1) ν)
      have e3 := nTell_12 (f := f) (pp := pp) (ee := ee) (d.1 + 1) ν
      refine ⟨nOff_1 (l := [d.1 + 1]) ?_ rfl, ?_⟩
      · rw [e.1]; show (nT f pp ee a (nTell f pp ee (d.1 + 1) ν)).1 ++ _ = _; rw [e2.1, e3.1]
      · show (nT f pp ee b _).2.1 = _
        rw [e.2]; show (nT f pp ee a (nTell f pp ee (d.1 + 1) ν)).2.1 ++ _ = _; rw [e2.2, e3.2]; simp
    rw [if_neg c1, if_neg c1]
    by_cases c2 : g = 2
    · rw [if_pos c2, if_pos c2]
      have p1 := nPar_12 (f := f) (pp := pp) (ee := ee) 1 (d.1 + 2) ν
      have p2 := nPar_12 (f := f) (pp := pp) (ee := ee) d.2.1 (d.1 + 3) (nPar f pp ee 1 (d.1 + 2) ν)
      have e2 := Ia (nPar f pp ee d.2.1 (d.1 + 3) (nPar f pp ee 1 (d.1 + 2) ν))
      have o1 : (nOff d.2.1 (nT f pp ee a (nPar f pp ee d.2.1 (d.1 + 3) (nPar f pp ee 1 (d.1 + 2) ν)))).1 = ν.1 ++ [d.1 + 2] := nOff_1 (l := List.range' (d.1 + 3) d.2.1) (by rw [e2.1, p2.1, p1.1]; rfl) (List.length_range' ..)
      have e := Ib (nOff d.2.1 (nT f pp ee a (nPar f pp ee d.2.1 (d.1 + 3) (nPar f pp ee 1 (d.1 + 2) ν))))
      refine ⟨nOff_1 (l := [d.1 + 2]) (e.1.trans o1) rfl, ?_⟩
      show (nT f pp ee b _).2.1 = _
      rw [e.2]; show (nT f pp ee a (nPar f pp ee d.2.1 (d.1 + 3) (nPar f pp ee 1 (d.1 + 2) ν))).2.1 ++ _ = _
      rw [e2.2, p2.2, p1.2]; simp
    rw [if_neg c2, if_neg c2]
    by_cases c3 : g = 3
    · rw [if_pos c3, if_pos c3]
      have p1 := nPar_12 (f := f) (pp := pp) (ee := ee) 1 (d.1 + 1) ν
      have e := Ia (nPar f pp ee 1 (d.1 + 1) ν)
      refine ⟨nOff_1 (l := [d.1 + 1]) (e.1.trans p1.1) rfl, ?_⟩
      show (nT f pp ee a _).2.1 = _
      rw [e.2, p1.2]; simp
    rw [if_neg c3, if_neg c3]
    by_cases c4 : g = 4 ∨ g = 5
    · rw [if_pos c4, if_pos c4]
      have e := Ib (nCt f pp ee a ν)
      exact ⟨e.1.trans (nCt_1 f pp ee a ν), by rw [e.2, nCt_2]⟩
    rw [if_neg c4, if_neg c4]
    by_cases c6 : g = 6
    · rw [if_pos c6, if_pos (Or.inl c6)]
      have e := Ia (nPs f pp ee d.2.2.2.2.2 (nPs f pp ee d.2.2.2.1.2 (nUse f pp ee (d.1 + 1) ν)))
      rw [(nPs_12 _ _).1, (nPs_12 _ _).1, (nPs_12 _ _).2, (nPs_12 _ _).2, (nUse_12 _ _).1, (nUse_12 _ _).2] at e
      exact e
    rw [if_neg c6]
    by_cases c14 : g = 14
    · rw [if_pos c14, if_neg (show ¬ (g = 6 ∨ g = 15) by omega), if_pos (Or.inl c14)]
      rw [(nPs_12 _ _).1, (nPs_12 _ _).2, (nUse_12 _ _).1, (nUse_12 _ _).2]
      exact ⟨rfl, (List.append_nil _).symm⟩
    rw [if_neg c14]
    by_cases c15 : g = 15
    · rw [if_pos c15, if_pos (Or.inr c15)]
      have e := Ia (nUse f pp ee d.1 ν)
      rw [(nUse_12 _ _).1, (nUse_12 _ _).2] at e
      exact e
    rw [if_neg c15, if_neg (show ¬ (g = 6 ∨ g = 15) by omega)]
    by_cases c18 : g = 18
    · rw [if_pos c18, if_pos (Or.inr c18)]
      rw [(nUse_12 _ _).1, (nUse_12 _ _).2, (nPs_12 _ _).1, (nPs_12 _ _).2]
      exact ⟨rfl, (List.append_nil _).symm⟩
    rw [if_neg c18, if_neg (show ¬ (g = 14 ∨ g = 18) by omega)]
    by_cases c19 : g = 19
    · rw [if_pos c19, if_pos c19]
      have p1 := nPar_12 (f := f) (pp := pp) (ee := ee) 2 d.2.1 (nT f pp ee a (nUse f pp ee (d.1 + 1) ν))
      have e2 := Ia (nUse f pp ee (d.1 + 1) ν)
      rw [(nUse_12 _ _).1, (nUse_12 _ _).2] at e2
      have e := Ib (nPar f pp ee 2 d.2.1 (nT f pp ee a (nUse f pp ee (d.1 + 1) ν)))
      refine ⟨nOff_1 (l := [d.2.1, d.2.1 + 1]) (by rw [e.1, p1.1, e2.1]; rfl) rfl, ?_⟩
      show (nT f pp ee b _).2.1 = _
      rw [e.2, p1.2, e2.2]
      show _ ++ _ ++ [d.2.1, d.2.1 + 1] ++ _ = _
      simp
    rw [if_neg c19, if_neg c19]
    have e2 := Ia (nPs f pp ee d.2.2.2.2.2 (nPs f pp ee d.2.2.2.1.2 ν))
    rw [(nPs_12 _ _).1, (nPs_12 _ _).1, (nPs_12 _ _).2, (nPs_12 _ _).2] at e2
    have e := Ib (nT f pp ee a (nPs f pp ee d.2.2.2.2.2 (nPs f pp ee d.2.2.2.1.2 ν)))
    exact ⟨e.1.trans e2.1, by rw [e.2, e2.2, List.append_assoc]⟩
end TRL
