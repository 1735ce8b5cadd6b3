/-! numbers of a PROGRAM's NAMES and places; what can be asked -/
section TX2
variable {kk pp ee f fc : Nat → Int32} {T len cnt j N S P A x0 : Nat} {xs : List tQ} {is : List (Nat × Nat)} {e : tT} {α : Nat → tY} {τ : zSt}
/-- types of NAMES, of Es -/
def pTN (f pp ee : Nat → Int32) (is : List (Nat × Nat)) (e : tT) (α : Nat → tY) (u : Nat) : tY := (mEnd f pp ee is e).2.2.1 u α
def pTE (f pp ee : Nat → Int32) (is : List (Nat × Nat)) (e : tT) (α : Nat → tY) (u : Nat) : tY := (mEnd f pp ee is e).2.2.2.1 u α
/-- numbers of QUALS -/
def pNq (T : Nat) (f pp ee : Nat → Int32) (x : tQ) : Int := (nQ T f pp ee x.2.2.2.2).toInt
theorem tx_rn (hT : 2010 ≤ T) (hp : pgT T len cnt j kk pp ee f fc xs is e α) (hr : rPo T len cnt kk pp ee f xs is e N S P A x0 τ) : rNu (τ.2.2.1 32) (is.map Prod.fst ++ tW e) := by
  obtain ⟨-, -, -, -, nd, -⟩ := tx_1 hT hp hr
  obtain ⟨⟨p1, p1', p1''⟩, p2, p3, p4, ⟨p5, p5'⟩, ⟨⟨g1, g2, ⟨i0, g3⟩, ⟨g4, g4', g4''⟩, g5, g6, g7⟩, p6', p6'', p6'''⟩, p7, p8, p9, p10, p11, p12⟩ := hp
  obtain ⟨r1, -, -, -, -, -, ⟨r2, r3, r4⟩⟩ := hr
  obtain ⟨q1, q2, ⟨q3, q4⟩, q5, q6, q7, q8⟩ := aPr_rd p8 (gW_of hT r1 p7 p8) p2
  have q8' : 3 * (tW e).length + 1 ≤ len := by
    have e : gL pp cnt len cnt = len := if_neg (by omega)
    rw [e] at q8
    exact q8
  refine ⟨by rw [List.length_append, List.length_map]; omega, nd, fun u hu => ?_⟩
  rcases List.mem_append.mp hu with hu | hu
  · obtain ⟨i, hi, ei⟩ := List.mem_iff_getElem.mp hu
    rw [List.length_map] at hi
    refine ⟨i, ?_, ?_⟩
    · rw [← ei, List.getElem_map]
      exact r3 i _ (List.getElem?_eq_getElem hi)
    · rw [List.getElem?_append_left (by rw [List.length_map]; exact hi), List.getElem?_eq_getElem (by rw [List.length_map]; exact hi), ei]
  · exact rWo_to e _ p6' r2 u hu
/-- types of TEMPLATES -/
theorem tx_pr (hp : pgT T len cnt j kk pp ee f fc xs is e α) {g' : gG} {ρ' : Nat → tY} (hR : pgR T len cnt kk pp ee f xs is e α N S P A x0 g' ρ' τ) : ∀ x, x ∈ tLs (pTE f pp ee is e α) (pTN f pp ee is e α) e → yPr x.2.1 ∧ 1 ≤ yK x.2.1 := by
  obtain ⟨⟨p1, p1', p1''⟩, p2, p3, p4, ⟨p5, p5'⟩, ⟨⟨g1, g2, ⟨i0, g3⟩, ⟨g4, g4', g4''⟩, g5, g6, g7⟩, p6', p6'', p6'''⟩, p7, p8, p9, p10, p11, p12⟩ := hp
  obtain ⟨-, -, ⟨-, hK, hC, -⟩, h4, h5⟩ := hR
  intro x hx
  rcases tLs_ty e 0 g2 p6' x hx with ⟨u, u1, u2⟩ | ⟨u, u1, u2⟩
  · obtain ⟨q, q1, q2⟩ := nE_tg τ e 0 x0 0 g2 p6' u u1
    obtain ⟨c, -, c2, c3⟩ := h4 q q1 (by rw [q2]; exact u1)
    rw [u2, show pTE f pp ee is e α u = ρ' c by rw [c3, q2]; rfl]
    exact hC.pr hK _ c (Nat.le_refl _) c2
  · obtain ⟨k, hk⟩ := List.getElem?_of_mem (List.mem_append_right (is.map Prod.fst) u1)
    obtain ⟨c, -, c2, c3⟩ := h5 k u hk
    rw [u2, show pTN f pp ee is e α u = ρ' c by rw [c3]; rfl]
    exact hC.pr hK _ c (Nat.le_refl _) c2
theorem tx_lv (hp : pgT T len cnt j kk pp ee f fc xs is e α) : tLv (tLs (pTE f pp ee is e α) (pTN f pp ee is e α) e) ≤ 60 := by
  obtain ⟨⟨p1, p1', p1''⟩, p2, p3, p4, ⟨p5, p5'⟩, ⟨⟨g1, g2, ⟨i0, g3⟩, ⟨g4, g4', g4''⟩, g5, g6, g7⟩, p6', p6'', p6'''⟩, p7, p8, p9, p10, p11, p12⟩ := hp
  obtain ⟨h1, h2⟩ := tOv_ok (tE := pTE f pp ee is e α) (tN := pTN f pp ee is e α) p7.2 e 0 (0, -1) g2 p6' (fun _ => Nat.zero_le _)
  have e1 := h1 p5'
  have e2 := (h2 p5').2
  omega
/-- the numbers of a PROGRAM -/
def pGm (T : Nat) (f pp ee : Nat → Int32) (xs : List tQ) (is : List (Nat × Nat)) (e : tT) (α : Nat → tY) (R : Nat → Int32) (inv : Nat → gN) : uGm := gaM R (tLs (pTE f pp ee is e α) (pTN f pp ee is e α) e) (pTN f pp ee is e α) (pNq T f pp ee) xs inv
/-- the TEMPLATE of a key -/
def pRt (f pp ee : Nat → Int32) (is : List (Nat × Nat)) (e : tT) (α : Nat → tY) : Nat → gTm := rtO (tLe (pTE f pp ee is e α) (pTN f pp ee is e α) e (is.map Prod.fst))
/-- numbers of QUALS are small -/
theorem tx_qn (hT : 2010 ≤ T) (hw : rW τ T len cnt kk pp ee f) (hz : ∀ i, cnt ≤ i → kk i = 0) {x : tQ} (hx : tQd kk x) : -20000 ≤ pNq T f pp ee x ∧ pNq T f pp ee x ≤ 20000 := by
  unfold pNq
  cases h : x.2.2.2.2 with
  | none => exact ⟨show (-20000 : Int) ≤ (0 : Int32).toInt by decide, show (0 : Int32).toInt ≤ 20000 by decide⟩
  | some q =>
    obtain ⟨g, w⟩ := q
    have hk := hx.2.2 g w h
    have hc : w < cnt := Nat.lt_of_not_le (fun z => by rw [hz w z] at hk; exact absurd hk (by decide))
    have b := nW_bd hT hw hc hk
    have l4 : wtL pp ee w ≤ 5 := by
      obtain ⟨h1, h2, h3, h4, h5, h6, h7, h8⟩ := hw
      obtain ⟨a, e, a1, a2, a3, a4, a5⟩ := wW_4 hT h8 h5 hc hk
      unfold wtL
      rw [a1, a2, nI_clamp (by omega), nI_clamp (by omega)]
      omega
    show -20000 ≤ (if g = true then -(nW T f pp ee w) else nW T f pp ee w).toInt ∧ (if g = true then -(nW T f pp ee w) else nW T f pp ee w).toInt ≤ 20000
    cases g with
    | false => rw [if_neg (by decide)]; omega
    | true =>
      rw [if_pos rfl, Int32.toInt_neg, Int.bmod_eq_of_le (by omega) (by omega)]
      omega
/-- **Gamma of a PROGRAM** -/
theorem tx_2 (hT : 2010 ≤ T) (hp : pgT T len cnt j kk pp ee f fc xs is e α) {g' : gG} {ρ' : Nat → tY} (hR : pgR T len cnt kk pp ee f xs is e α N S P A x0 g' ρ' τ) : ∃ inv, (∀ w, w ∈ is.map Prod.fst ++ tW e → uNm (pGm T f pp ee xs is e α (τ.2.2.1 32) inv) (.inl w)) ∧ rtQ (pGm T f pp ee xs is e α (τ.2.2.1 32) inv) (pRt f pp ee is e α) ∧ rtI (pGm T f pp ee xs is e α (τ.2.2.1 32) inv) (pRt f pp ee is e α) ∧ gNb (pTE f pp ee is e α) (pTN f pp ee is e α) (pGm T f pp ee xs is e α (τ.2.2.1 32) inv) e 0 0 ∧ qlW (pGm T f pp ee xs is e α (τ.2.2.1 32) inv) 10010000 8008000000002 := by
  obtain ⟨⟨t1, t2, t3, t4, t5, t6, t7⟩, t8, t9, t10, t11, t12⟩ := tx_1 hT hp hR.2.1
  have hN := tx_rn hT hp hR.2.1
  have hlv := tx_lv hp
  have hpr := tx_pr hp hR
  obtain ⟨⟨p1, p1', p1''⟩, p2, p3, p4, ⟨p5, p5'⟩, ⟨⟨g1, g2, ⟨i0, g3⟩, ⟨g4, g4', g4''⟩, g5, g6, g7⟩, p6', p6'', p6'''⟩, p7, p8, p9, p10, p11, p12⟩ := hp
  obtain ⟨-, ⟨r1, -, -, -, -, -, ⟨r2, r3, r4⟩⟩, -⟩ := hR
  have hl : lsF (tLs (pTE f pp ee is e α) (pTN f pp ee is e α) e) ≤ 800 := by
    have := lsF_le (tLs (pTE f pp ee is e α) (pTN f pp ee is e α) e)
    omega
  obtain ⟨inv, hi⟩ := inv_ex (l := tLs (pTE f pp ee is e α) (pTN f pp ee is e α) e) hN
  have na := tLs_na (R := τ.2.2.1 32) (L := is.map Prod.fst ++ tW e) e (is.map Prod.fst) _ t12 r2
  have rt := rt_gaM (tE := pTE f pp ee is e α) (tN := pTN f pp ee is e α) (nq := pNq T f pp ee) (xs := xs) (env := is.map Prod.fst) hi hN hl (fun x hx i w h => (na x hx i w h).1) (fun x hx => (hpr x hx).1)
  obtain ⟨⟨q1, q2⟩, -⟩ := aPr_d p2
  refine ⟨inv, fun w hw => gaM_nm hi hN hl (.inl w) hw, rt.1, rt.2, gNb_of e 0 0 (gaM_ok hi hN hl (tLs_nd e i0 cnt g3).2 na), ⟨20000, fun q hq => ⟨(q2 q hq).2.1, (tx_qn hT r1 p8 (q2 q hq)).1, (tx_qn hT r1 p8 (q2 q hq)).2⟩, by decide⟩, q1, by decide, by decide⟩
/-- **all that a PROGRAM asks can be asked**, given how large its types are -/
theorem tx_3 (hT : 2010 ≤ T) (hp : pgT T len cnt j kk pp ee f fc xs is e α) {g' : gG} {ρ' : Nat → tY} (hR : pgR T len cnt kk pp ee f xs is e α N S P A x0 g' ρ' τ) (mx : gMx f pp ee (pTE f pp ee is e α) (pTN f pp ee is e α) 59 e (is.map Prod.fst)) {Γ : uGm} (hu : ∀ w, w ∈ is.map Prod.fst ++ tW e → uNm Γ (.inl w)) : gHb T f pp ee (pTN f pp ee is e α) Γ 10010000 8008000000002 (pRt f pp ee is e α) (cbS T cnt kk pp ee f (τ.2.2.1 32) (is.map Prod.fst ++ tW e) 8008000000002 (pTN f pp ee is e α)) (nbS T cnt kk pp ee f (τ.2.2.1 32) (is.map Prod.fst ++ tW e) 8008000000002 (pTN f pp ee is e α)) e (is.map Prod.fst) [] ∧ gHq T f pp ee (pTE f pp ee is e α) (pTN f pp ee is e α) Γ 10010000 8008000000002 (pRt f pp ee is e α) 59 (cbS T cnt kk pp ee f (τ.2.2.1 32) (is.map Prod.fst ++ tW e) 8008000000002 (pTN f pp ee is e α)) (nbS T cnt kk pp ee f (τ.2.2.1 32) (is.map Prod.fst ++ tW e) 8008000000002 (pTN f pp ee is e α)) e (is.map Prod.fst) [] := by
  obtain ⟨⟨t1, t2, t3, t4, t5, t6, t7⟩, t8, t9, t10, t11, t12⟩ := tx_1 hT hp hR.2.1
  obtain ⟨⟨p1, p1', p1''⟩, p2, p3, p4, ⟨p5, p5'⟩, ⟨⟨g1, g2, ⟨i0, g3⟩, ⟨g4, g4', g4''⟩, g5, g6, g7⟩, p6', p6'', p6'''⟩, p7, p8, p9, p10, p11, p12⟩ := hp
  obtain ⟨-, ⟨r1, -, -, -, -, -, ⟨r2, r3, r4⟩⟩, -⟩ := hR
  obtain ⟨n1, n2, n3⟩ := List.nodup_append.mp t11
  have hb := gHb_of (Γ := Γ) (C := 10010000) (B := 8008000000002) (rt := pRt f pp ee is e α) hT r1 p7 hu (Int.le_refl _) (Int.le_refl _) e 0 (is.map Prod.fst) [] 0 _ g2 r2 p6''' t12 p6' t1 t3 t2 t8 ⟨⟨fun u hu => List.mem_append_left _ hu, by rw [List.length_map]; omega⟩, fun c hc => (by cases hc), fun c h hc => (by cases hc), ⟨rfl, Nat.zero_le _⟩, by show 0 + tH e ≤ 32; omega, Nat.zero_le _⟩
  refine ⟨hb, gHq_of hu e 0 (is.map Prod.fst) [] g2 r2 n2 (fun w hw z => n3 w z w hw rfl) (fun m hm => rtO_me _ (tLe_nd g3) m hm) mx hb⟩
end TX2
