/-! run(), the class: an element is set; array(), await() -/
section HHS
variable {nb : tT → List Nat → Nat → Prop} {G : hG} {top : Nat} {hp : Nat → Int64} {h : xmHp}
theorem hAr_set {YA : List Nat} {ys : List (List Int64)} {y : List Int64} {i j : Nat} {x : Int64} (hy : ys[i]? = some y) (z : Nat) : hAr YA (ys.set i (y.set j x)) z ↔ hAr YA ys z := by
  have hi := xget_lt hy
  constructor
  · rintro ⟨k, w, b, e1, e2, q1, q2⟩
    by_cases c : k = i
    · subst c
      rw [List.getElem?_set_self hi] at e1
      injection e1 with e1
      subst e1
      rw [List.length_set] at q2
      exact ⟨k, y, b, hy, e2, q1, q2⟩
    · rw [List.getElem?_set_ne (fun w => c w.symm)] at e1
      exact ⟨k, w, b, e1, e2, q1, q2⟩
  · rintro ⟨k, w, b, e1, e2, q1, q2⟩
    by_cases c : k = i
    · subst c
      rw [hy] at e1
      injection e1 with e1
      subst e1
      exact ⟨k, y.set j x, b, List.getElem?_set_self hi, e2, q1, by rw [List.length_set]; exact q2⟩
    · exact ⟨k, w, b, by rw [List.getElem?_set_ne (fun w => c w.symm)]; exact e1, e2, q1, q2⟩
/-- an element is set: what is no element stays -/
theorem hKp_st (H : hHp nb G top hp h) {y : List Int64} {i j a : Nat} {x : Int64} (hy : h.2.1[i]? = some y) (hg : G.2.1[i]? = some a) (hj : j < y.length) : hKp (hAr G.2.1 h.2.1) (hAr G.2.1 (h.2.1.set i (y.set j x))) top top hp (vp_updL hp (a + 1 + j) x) := fun b hb => by
  refine ⟨⟨hb.1, hb.2.1, fun w => hb.2.2 ((hAr_set hy b).mp w)⟩, ?_⟩
  rw [vp_L, if_neg (fun w => hb.2.2 ⟨i, y, a, hy, hg, by omega, by omega⟩)]
theorem hHp.st (H : hHp nb G top hp h) {y : List Int64} {i j a : Nat} {x : Int64} (hy : h.2.1[i]? = some y) (hg : G.2.1[i]? = some a) (hj : j < y.length) : hHp nb G top (vp_updL hp (a + 1 + j) x) (h.1, h.2.1.set i (y.set j x), h.2.2) := by
  have K := hKp_st (x := x) H hy hg hj
  have hi := xget_lt hy
  obtain ⟨⟨a1, a2, a3, a4, a5⟩, b, c, d, e⟩ := H
  refine ⟨⟨a1, by show _ = (h.2.1.set i (y.set j x)).length; rw [List.length_set]; exact a2, a3, a4, by show _ + (h.2.1.set i (y.set j x)).length + _ < _; rw [List.length_set]; exact a5⟩, fun k fn a' e1 e2 => ?_, fun k z a' e1 e2 => ?_, fun k l z a' b' hij e1 e2 e3 => ?_, fun k l a' e1 e2 => ?_⟩
  · obtain ⟨⟨q1, q2, q3⟩, q4, ⟨s, q5, q6⟩, q7⟩ := b k fn a' e1 e2
    exact ⟨⟨(K _ q1).1, (K _ q2).1, (K _ q3).1⟩, ⟨q4.choose, (K _ q1).2.trans q4.choose_spec.1, q4.choose_spec.2⟩, ⟨s, (K _ q2).2.trans q5, q6.kp (hGe.rf _) K⟩, (K _ q3).2.trans q7⟩
  · have e1 : (h.2.1.set i (y.set j x))[k]? = some z := e1
    by_cases ck : k = i
    · subst ck
      rw [List.getElem?_set_self hi] at e1
      injection e1 with e1
      subst e1
      rw [hg] at e2
      injection e2 with e2
      subst e2
      obtain ⟨⟨c1, c2⟩, c3, c4⟩ := c k y a hy hg
      refine ⟨⟨(K _ c1).1, by rw [List.length_set]; exact c2⟩, by rw [(K _ c1).2, List.length_set]; exact c3, fun l w ew => ?_⟩
      rw [vp_L]
      by_cases cl : l = j
      · subst cl
        rw [List.getElem?_set_self hj] at ew
        injection ew with ew
        rw [if_pos rfl, ew]
      · rw [List.getElem?_set_ne (fun w => cl w.symm)] at ew
        rw [if_neg (by omega)]
        exact c4 l w ew
    · rw [List.getElem?_set_ne (fun w => ck w.symm)] at e1
      obtain ⟨⟨c1, c2⟩, c3, c4⟩ := c k z a' e1 e2
      refine ⟨⟨(K _ c1).1, c2⟩, (K _ c1).2.trans c3, fun l w ew => ?_⟩
      have hlz := xget_lt ew
      rw [vp_L, if_neg (fun q => ?_)]
      · exact c4 l w ew
      · rcases Nat.lt_or_gt_of_ne ck with g | g
        · have := d k i z a' a g e1 e2 hg; omega
        · have := d i k y a a' g hy hg e2; omega
  · have e1 : (h.2.1.set i (y.set j x))[k]? = some z := e1
    by_cases ck : k = i
    · subst ck
      rw [List.getElem?_set_self hi] at e1
      injection e1 with e1
      subst e1
      rw [List.length_set]
      exact d k l y a' b' hij hy e2 e3
    · rw [List.getElem?_set_ne (fun w => ck w.symm)] at e1
      exact d k l z a' b' hij e1 e2 e3
  · obtain ⟨⟨q1, q2, q3⟩, q4, q5, q6⟩ := e k l a' e1 e2
    exact ⟨⟨(K _ q1).1, (K _ q2).1, (K _ q3).1⟩, (K _ q1).2.trans q4, by rw [(K _ q2).2]; exact q5, (K _ q3).2.trans q6⟩
end HHS
section HAA
variable {κ : oKv} {T n : Nat} {σ : oSt} {ma ha hl top : Nat} {fm : List Value} {hp : Nat → Int64}
/-- **array() (77)** -/
theorem h_array {z el : Nat} (hT : 1010 ≤ T) (M : hMa ma fm ha hl hp top σ) (hz : z ≤ 1000) (hel : fm[14]? = some (.int (nI el))) (hk : top + (z + 1) ≤ 332100) (hne : ma ≠ ha) (hml : ma < σ.2.1) (hhl : ha < σ.2.1) (hfr : ∀ q, σ.2.1 ≤ q → σ.1 q = none) : ∃ σ' ha' hl' hp', oF κ T (n + 3) 77 [va_rf (some ma), .int (nI z)] σ = some (some (.int (nI top)), σ') ∧ hMa ma (((fm.set 4 (.ref ha')).set 5 (.int (nI (top + (z + 1))))).set 14 (.int (nI (el + z)))) ha' hl' hp' (top + (z + 1)) σ' ∧ ((∀ i, i < top → hp' i = hp i) ∧ hp' top = xmNi z ∧ ∀ i, i < z → hp' (top + 1 + i) = 0) ∧ hGr ma ha hl σ σ' ha' hl' ∧ ha' ≠ ma ∧ ha' < σ'.2.1 := by
  obtain ⟨σ1, ha', hl', hp1, R, M1, k1, g1, n1, n2⟩ := h_room (κ := κ) (T := T) (n := n) (k := z + 1) M hk hne hml hhl hfr
  obtain ⟨S1, M2⟩ := M1.sj n1 (i := top) (by omega) (xmNi z)
  have S1' : osj σ1 (some ha') (nI top) (nI z).toInt64 = _ := S1
  have fl := M.1.2
  have hel' : ((fm.set 4 (.ref ha')).set 5 (.int (nI (top + (z + 1)))))[14]? = some (.int (nI el)) := by
    rw [List.getElem?_set_ne (by decide), List.getElem?_set_ne (by decide)]; exact hel
  obtain ⟨σ3, hp3, a1, a2, a3, a4, a5, a6⟩ := h_ar18 (κ := κ) (T := T) (call := oF κ T (n + 2)) (z := z) (c := top) (el := el) hz n1 (by omega) hel' z 1 T _ _ M2 (by omega) (Nat.le_refl _) (by omega)
  rw [oE_X3_array]
  unfold ob_X3_array
  rw [oob_at M.1.1, obn_at, nI_p1, R]
  unfold oin
  simp only
  rw [M1.hp4, obn_at, S1', obn_at]
  have a1' : ol_X3_array_18 T (oF κ T (n + 2)) κ T (some ma) (nI z) (nI top) 1 (oput σ1 ha' (.inl (.long, hl', .inr (.inl (vp_updL hp1 top (xmNi z)))))) = _ := a1
  rw [a1']
  obtain ⟨⟨m1, m2⟩, ⟨m3, m4⟩, m5, m6, m7, m8⟩ := a2
  obtain ⟨G1, G2, G3⟩ := g1.w (c := .inl (.long, hl', .inr (.inl (vp_updL hp1 top (xmNi z))))) n2 hhl
  have e2 : σ3.2 = σ1.2 := a6
  refine ⟨_, ha', hl', hp3, rfl, ⟨⟨oput_eq _ _ _, by rw [List.length_set]; exact m2⟩, ⟨by rw [List.getElem?_set_ne (by decide)]; exact m3, by rw [List.getElem?_set_ne (by decide)]; exact m4⟩, (oput_ne n1).trans m5, m6, m7, m8⟩, ⟨fun i hi => ?_, ?_, fun i hi => a4 _ (by omega) (by omega)⟩, ⟨fun x hx q1 q2 => ?_, fun q hq => ?_, ?_⟩, n1, ?_⟩
  · rw [a3 i (by omega), vp_L, if_neg (by omega)]; exact k1 i hi
  · rw [a3 top (by omega), vp_L, if_pos rfl]
  · rw [oput_ne q1]
    by_cases c : x = ha'
    · exfalso
      rcases G3 with ⟨e, -⟩ | ⟨e, -⟩
      · exact q2 (c.trans e)
      · omega
    · rw [a5 x c]; exact G1 x hx q1 q2
  · have hq : σ3.2.1 ≤ q := hq
    rw [e2] at hq
    have g := G2 q hq
    have q1 : q ≠ ma := fun w => by
      have := g1.2.2
      rcases this with ⟨-, -, e⟩ | ⟨-, -, e⟩ <;> (rw [e] at hq; first | (have hq : σ.2.1 ≤ q := hq; omega) | (have hq : σ.2.1 + 1 ≤ q := hq; omega))
    have q2 : q ≠ ha' := fun w => absurd n2 (Nat.not_lt.mpr (by rw [← w]; exact hq))
    rw [oput_ne q1, a5 q q2]
    exact g
  · show _ ∨ (_ ∧ _ ∧ σ3.2 = _)
    rw [e2]
    rcases G3 with ⟨r1, r2, r3⟩ | r
    · exact Or.inl ⟨r1, r2, e2.trans r3⟩
    · exact Or.inr r
  · show ha' < σ3.2.1
    rw [e2]; exact n2
end HAA
