/-! ROOM: R80 for a PROGRAM: one call, one function ARG of it, its longest way -/
theorem ySp_i : ∀ (U : tY) (i : Nat), i < ySp U → yK (yRs i U) = 1
  | .leaf, i, h => absurd h (Nat.not_lt_zero _)
  | .inner k u v a b, i, h => by
    by_cases c : k = 0
    · subst c
      cases i with
      | zero => rfl
      | succ i => exact ySp_i b i (by
          have e : ySp (.inner 0 u v a b : tY) = ySp b + 1 := rfl
          omega)
    · rw [ySp, if_neg c] at h
      exact absurd h (Nat.not_lt_zero _)
section CVN
variable {tE tN : Nat → tY}
/-- what let rec and fun themselves ask for is a unit's -/
theorem cvO_u : ∀ (t : tT) (env : List Nat) (o : tY × Nat), o ∈ cvO tE tN t → ∃ k m, (((0, k) : Nat × Nat), m) ∈ gUn tN t env ∧ uY tE tN (0, k) = o.1
  | .leaf, _, _, h => by cases h
  | .inner g d z a b, env, o, h => by
    have Ia := fun env' => cvO_u a env' o
    have Ib := fun env' => cvO_u b env' o
    rw [cvO] at h
    rw [gUn]
    by_cases c1 : g = 1
    · rw [if_pos c1] at h ⊢
      rcases List.mem_append.mp h with h | h
      · obtain ⟨k, m, h1, h2⟩ := Ia env h
        exact ⟨k, m, List.mem_cons_of_mem _ (List.mem_append_left _ h1), h2⟩
      · obtain ⟨k, m, h1, h2⟩ := Ib _ h
        exact ⟨k, m, List.mem_cons_of_mem _ (List.mem_append_right _ h1), h2⟩
    rw [if_neg c1] at h ⊢
    by_cases c2 : g = 2
    · rw [if_pos c2] at h ⊢
      rcases List.mem_cons.mp h with e | h
      · rw [e]
        exact ⟨2 * d.1 + 1, _, List.mem_cons_of_mem _ (List.mem_cons_self ..), uY_f d.1⟩
      · rcases List.mem_append.mp h with h | h
        · obtain ⟨k, m, h1, h2⟩ := Ia _ h
          exact ⟨k, m, List.mem_cons_of_mem _ (List.mem_cons_of_mem _ (List.mem_append_right _ (List.mem_append_left _ h1))), h2⟩
        · obtain ⟨k, m, h1, h2⟩ := Ib _ h
          exact ⟨k, m, List.mem_cons_of_mem _ (List.mem_cons_of_mem _ (List.mem_append_right _ (List.mem_append_right _ h1))), h2⟩
    rw [if_neg c2] at h ⊢
    by_cases c3 : g = 3
    · rw [if_pos c3] at h ⊢
      rcases List.mem_cons.mp h with e | h
      · rw [e]
        refine ⟨2 * d.1, _, List.mem_cons_self .., ?_⟩
        show (if (0 : Nat) = 0 then (if (2 * d.1) % 2 = 0 then tE (2 * d.1 / 2) else tN (2 * d.1 / 2 + 2)) else tN (2 * d.1)) = tE d.1
        rw [if_pos rfl, if_pos (by omega), show 2 * d.1 / 2 = d.1 by omega]
      · obtain ⟨k, m, h1, h2⟩ := Ia _ h
        exact ⟨k, m, List.mem_cons_of_mem _ (List.mem_cons_of_mem _ h1), h2⟩
    rw [if_neg c3] at h ⊢
    by_cases c4 : g = 4
    · rw [if_pos (Or.inl c4)] at h
      rw [if_pos c4]
      obtain ⟨k, m, h1, h2⟩ := Ib env h
      exact ⟨k, m, List.mem_cons_of_mem _ h1, h2⟩
    rw [if_neg c4]
    by_cases c5 : g = 5
    · subst c5
      rw [if_pos (Or.inr rfl)] at h
      rw [if_neg (by decide), if_pos (Or.inl rfl)]
      exact Ib env h
    rw [if_neg (show ¬ (g = 4 ∨ g = 5) by omega)] at h
    by_cases c6 : g = 6 ∨ g = 16
    · rw [if_pos c6] at h
      rw [if_neg (by omega), if_neg (by omega), if_pos (by omega)]
      exact Ia env h
    rw [if_neg c6] at h
    by_cases c15 : g = 15
    · rw [if_pos c15] at h
      rw [if_neg (by omega), if_neg (by omega), if_pos (by omega)]
      exact Ia env h
    rw [if_neg c15] at h
    by_cases c19 : g = 19
    · rw [if_pos c19] at h ⊢
      rcases List.mem_append.mp h with h | h
      · obtain ⟨k, m, h1, h2⟩ := Ia env h
        exact ⟨k, m, List.mem_cons_of_mem _ (List.mem_append_left _ h1), h2⟩
      · obtain ⟨k, m, h1, h2⟩ := Ib _ h
        exact ⟨k, m, List.mem_cons_of_mem _ (List.mem_append_right _ h1), h2⟩
    rw [if_neg c19] at h
    by_cases c31 : g = 31 ∨ g = 34
    · rw [if_pos c31] at h
      rw [if_neg (by omega), if_neg (by omega), if_neg (by omega), if_pos c31]
      rcases List.mem_append.mp h with h | h
      · obtain ⟨k, m, h1, h2⟩ := Ia env h
        exact ⟨k, m, List.mem_append_left _ h1, h2⟩
      · obtain ⟨k, m, h1, h2⟩ := Ib env h
        exact ⟨k, m, List.mem_append_right _ h1, h2⟩
    rw [if_neg c31] at h
    by_cases c33 : g = 33 ∨ g = 35
    · rw [if_pos c33] at h
      rw [if_neg (by omega), if_pos (by omega)]
      exact Ib env h
    rw [if_neg c33] at h
    cases h
/-- what lies in a unit's type lies in a TEMPLATE's -/
theorem uY_in {ρ : Nat → Nat × Nat} {Un : List ((Nat × Nat) × Nat)} {Ls W : List Nat} {l : List (Nat × tY × List Nat)} (h : tlH ρ tE tN Un Ls W l) {id : Nat × Nat} {m : Nat} (hu : (id, m) ∈ Un) : ∃ x, x ∈ l ∧ ∀ z, yIn z (uY tE tN id) → yIn z x.2.1 := by
  obtain ⟨x, hx, h1⟩ := h.wh hu
  refine ⟨x, hx, fun z hz => ?_⟩
  rcases h1 with ⟨-, h2⟩ | ⟨i, u, h2, h3⟩
  · rw [← h2]; exact hz
  · obtain ⟨n1, n2, -, -⟩ := h.nm (k := x.1) (Y := x.2.1) hx h2
    obtain ⟨-, q⟩ := h.1.1 x hx
    rw [h3, uY_p, ← n2] at hz
    exact yIn_rs i x.2.1 (fun i' hi' => by
      have : ∃ u', x.2.2[i']? = some u' := ⟨_, List.getElem?_eq_getElem (Nat.lt_trans hi' n1)⟩
      obtain ⟨u', hu'⟩ := this
      exact (q i' u' hu').1) (yIn_l (q i u h2).1 hz)
end CVN
section TXN
variable {T len cnt j N S P Q x0 : Nat} {kk pp ee f fc : Nat → Int32} {xs : List tQ} {is : List (Nat × Nat)} {e : tT} {α : Nat → tY} {g' : gG} {ρ' : Nat → tY} {τ : zSt}
/-- arrows of a unit's type are asked for by calls, by let rec or by fun -/
theorem tx_z {wt : Nat} (hT : 2010 ≤ T) (hp : pgT T len cnt j kk pp ee f fc xs is e α) (hR : pgR T len cnt kk pp ee f xs is e α N S P Q x0 g' ρ' τ) : ∀ x, x ∈ tLs (pTE f pp ee is e α) (pTN f pp ee is e α) e → ∀ z, yIn z x.2.1 → (∃ c, c ∈ cvE f pp ee wt (pTN f pp ee is e α) e (is.map Prod.fst) (fun _ => 0) ∧ ∃ i, i < c.2.1 ∧ z = yRs i c.1) ∨ ∃ o, o ∈ cvO (pTE f pp ee is e α) (pTN f pp ee is e α) e ∧ ∃ i, i < o.2 ∧ z = yRs i o.1 := by
  intro x hx z hz
  obtain ⟨c1, c2⟩ := tx_cv hT hp hR.2.1
  have C : cvQ (cvC f pp ee (pTN f pp ee is e α) e (is.map Prod.fst)) z ∨ cvQ (cvO (pTE f pp ee is e α) (pTN f pp ee is e α) e) z := by
    obtain ⟨-, -, -, -, -, ⟨⟨g1, g2, ⟨i0, g3⟩, -⟩, tgd, -⟩, -⟩ := hp
    rcases tLs_ty (tE := pTE f pp ee is e α) (tN := pTN f pp ee is e α) e 0 g2 tgd x hx with ⟨u, q1, q2⟩ | ⟨u, q1, q2⟩
    · exact c1 u q1 z (by rw [← q2]; exact hz)
    · exact c2 u (List.mem_append_right _ q1) z (by rw [← q2]; exact hz)
  rcases C with ⟨c, hc, i, hi, e1⟩ | C
  · rw [← cvE_c (wt := wt) e (is.map Prod.fst) (fun _ => 0)] at hc
    obtain ⟨c', hc', e2⟩ := List.mem_map.mp hc
    rw [← e2] at hi e1
    exact Or.inl ⟨c', hc', i, hi, e1⟩
  · exact Or.inr C
theorem cl_mx (L : List (tY × Nat × Nat × Nat)) : ∃ M, ∀ c, c ∈ L → yZ c.1 ≤ M := by
  induction L with
  | nil => exact ⟨0, fun c h => by cases h⟩
  | cons c L ih =>
    obtain ⟨M, hM⟩ := ih
    refine ⟨max M (yZ c.1), fun d hd => ?_⟩
    rcases List.mem_cons.mp hd with e | e
    · rw [e]; omega
    · have := hM d e
      omega
/-- what R80 says of one function ARG of one call: the called unit id0 at place a, c calls told there at places 0 to m, and an ARG at i0 -/
def r80 (tE tN : Nat → tY) (Un : List ((Nat × Nat) × Nat)) (L : List (tY × Nat × Nat × Nat)) (wt : Nat) (R : tY → Nat) (V NN : Nat) (Y : tY) (m i0 : Nat) : Prop :=
  ∃ (id0 : Nat × Nat) (m0 a : Nat), (id0, m0) ∈ Un ∧ Y = yRs a (uY tE tN id0) ∧ ∃ tu to : Nat,
    sNx (fun i => yLa (uY tE tN id0) (a + i)) m + (a + i0 + 1) + (tu + to) ≤ NN ∧
    (∀ G : tY → Prop, (∀ i, i < m → G (yL (yRs i Y))) → ∃ (J1 : List (((Nat × Nat) × Nat) × List (tY × Nat × Nat × Nat) × (tY × Nat × Nat × Nat))) (n : Nat), (∀ j, j ∈ J1 → (∃ m, (j.1.1, m) ∈ Un) ∧ j.1.2 ≤ 3 ∧ G (uY tE tN j.1.1)) ∧ (J1.map (fun j => uY tE tN j.1.1)).Nodup ∧ n ≤ L.length ∧ (J1.map chW).sum ≤ 4 * n ∧ yHt (yL (yRs i0 Y)) ≤ (J1.map chW).sum + (tu + to) ∧ (G (uY tE tN id0) → yHt (yL (yRs i0 Y)) ≤ (J1.map chW).sum + to) ∧ kSm L + 8 * (662 * n + 274 * (J1.map chW).sum) ≤ (J1.map (chK tE tN wt R)).sum + 8 * lcT L + (L.length - n) * V)
set_option maxHeartbeats 1000000 in
/-- **R80 for a PROGRAM** -/
theorem tx_80 {wt V : Nat} {R : tY → Nat} (hT : 2010 ≤ T) (hp : pgT T len cnt j kk pp ee f fc xs is e α) (hR : pgR T len cnt kk pp ee f xs is e α N S P Q x0 g' ρ' τ)
    (hk : ∀ c, c ∈ cvE f pp ee wt (pTN f pp ee is e α) e (is.map Prod.fst) (fun _ => 0) → c.2.2.2 ≤ kB wt R c.2.1 c.1 c.2.2.1)
    (hV : ∀ c, c ∈ cvE f pp ee wt (pTN f pp ee is e α) e (is.map Prod.fst) (fun _ => 0) → c.2.2.2 ≤ 8 * lc c.1 c.2.1 + V)
    {c0 : tY × Nat × Nat × Nat} (hc0 : c0 ∈ cvE f pp ee wt (pTN f pp ee is e α) e (is.map Prod.fst) (fun _ => 0)) {i0 : Nat} (hi0 : i0 < c0.2.1) (hk0 : yK (yRs i0 c0.1) = 1) :
    r80 (pTE f pp ee is e α) (pTN f pp ee is e α) (gUn (pTN f pp ee is e α) e (is.map Prod.fst)) (cvE f pp ee wt (pTN f pp ee is e α) e (is.map Prod.fst) (fun _ => 0)) wt R V (tlN (tLs (pTE f pp ee is e α) (pTN f pp ee is e α) e)) c0.1 c0.2.1 i0 := by
  obtain ⟨t1, t4, -⟩ := tx_ch (wt := wt) hT hp hR.2.1
  have G := tx_gu hT hp hR
  obtain ⟨ρ, H⟩ := tx_tl hT hp hR
  have Zc := tx_z (wt := wt) hT hp hR
  have hU : ∀ x, x ∈ gUi e → ∃ m, (x.1, m) ∈ gUn (pTN f pp ee is e α) e (is.map Prod.fst) := fun x hx => gUi_n e (is.map Prod.fst) x hx
  have hO := fun o => cvO_u (tE := pTE f pp ee is e α) (tN := pTN f pp ee is e α) e (is.map Prod.fst) o
  revert t1 t4 Zc hk hV hc0 hU hO H G
  generalize cvE f pp ee wt (pTN f pp ee is e α) e (is.map Prod.fst) (fun _ => 0) = L
  generalize gUn (pTN f pp ee is e α) e (is.map Prod.fst) = Un
  generalize cvO (pTE f pp ee is e α) (pTN f pp ee is e α) e = O
  generalize tLs (pTE f pp ee is e α) (pTN f pp ee is e α) e = l
  generalize pTE f pp ee is e α = tE
  generalize pTN f pp ee is e α = tN
  intro hk hV hc0 t1 t4 G H Zc hU hO
  obtain ⟨M, hM⟩ := cl_mx L
  -- the called unit
  obtain ⟨k1, k2⟩ := t1 c0 hc0 (by omega)
  obtain ⟨x, hx, TT, -, ch⟩ := ch_ex t1 hM (M + 1) c0.1 _ k1 (by omega) k2
  obtain ⟨eY, -⟩ := chR_to _ _ _ _ _ ch
  obtain ⟨m0, hm0⟩ := hU x hx
  have rr : ∀ i, yRs i c0.1 = yRs (chN TT + i) (uY tE tN x.1) := fun i => by rw [eY, yRs_ad]
  have g0 := (sx_u H hm0).1
  obtain ⟨xt, hxt, zin⟩ := uY_in H hm0
  -- arrows of the longest way
  have yin : ∀ z, z ∈ yWt (yL (yRs i0 c0.1)) → yIn z (uY tE tN x.1) := fun z hz => by
    have h1 := (yWt_in _ z hz).1
    rw [rr] at h1
    exact yIn_rs (chN TT + i0) _ (fun i hi => yK_is (by
      have hk' : yK (yRs (chN TT + i0) (uY tE tN x.1)) = 1 := by rw [← rr]; exact hk0
      exact ySp_i _ _ (by have := ySp_k g0 hk'; omega))) (yIn_l (yK_is (by rw [← rr]; exact hk0)) h1)
  have cd : ∀ p : tY → Prop, ∃ Z1 : List tY, Z1.Sublist (yWt (yL (yRs i0 c0.1))) ∧ ∀ z, z ∈ Z1 ↔ z ∈ yWt (yL (yRs i0 c0.1)) ∧ p z := fun p => ⟨(yWt (yL (yRs i0 c0.1))).filter (fun z => @decide (p z) (Classical.propDecidable _)), List.filter_sublist, fun z => by
    rw [List.mem_filter]
    exact ⟨fun h => ⟨h.1, @of_decide_eq_true _ (Classical.propDecidable _) h.2⟩, fun h => ⟨h.1, @decide_eq_true _ (Classical.propDecidable _) h.2⟩⟩⟩
  obtain ⟨Zc1, s1, s2⟩ := cd (fun z => ∃ c, c ∈ L ∧ ∃ i, i < c.2.1 ∧ z = yRs i c.1)
  obtain ⟨J, j1, j2, j3, j4, -⟩ := ch_sel t1 hM Zc1 ((yWt_p _).sublist s1) (fun z hz => ((s2 z).mp hz).2)
  obtain ⟨Zy, Zu, Zo, q1, q2, q3, q4⟩ := ch_ps H hU (O := O) hO j1 hm0 (a := chN TT) (m := c0.2.1) (i0 := i0) hi0 (by rw [← rr]; exact hk0) (Z := yWt (yL (yRs i0 c0.1))) (yWt_p _) (fun z hz => by
    obtain ⟨h1, h2⟩ := yWt_in _ z hz
    rw [← rr]
    exact ⟨yIn_k h1, h2⟩) (fun z hz => by
    rcases Zc xt hxt z (zin z (yin z hz)) with c | c
    · exact Or.inl (j4 z ((s2 z).mpr ⟨hz, c⟩))
    · exact Or.inr c)
  rw [yWt_l] at q1
  refine ⟨x.1, m0, chN TT, hm0, eY, Zu.length, Zo.length, q4, fun Gp hG => ?_⟩
  obtain ⟨J1, n, e1, e2, e3, e4, e5, e6, -⟩ := ch_spl hk t4 hV j1 j2 j3 Gp
  have hG' : ∀ j, j ∈ J → (∃ i, i < c0.2.1 ∧ uY tE tN j.1.1 = yL (yRs (chN TT + i) (uY tE tN x.1))) → j ∈ J1 := fun j hj ⟨i, hi, e⟩ => e2 j hj (by
    rw [e, ← rr]
    exact hG i hi)
  have w1 := q2 J1 hG'
  refine ⟨J1, n, fun j hj => ⟨hU _ (j1 j (e1 j hj).1).1, (G _ (j1 j (e1 j hj).1).1).2, (e1 j hj).2⟩, e3, e4, e5, by omega, fun hg => ?_, e6⟩
  have w2 := q3 J1 (fun j hj h => h.elim (hG' j hj) (fun e => e2 j hj (by rw [e]; exact hg)))
  omega
end TXN
