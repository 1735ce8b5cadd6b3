/-! what a C means, by the columns of the words that count; the reference's nodes mean it -/
/-- nodes, atoms, ways -/
abbrev dMg : Type := Nat × Nat × (Bool → List oBr)
def dZ : dMg := (1, 1, fun _ => [])
def dBn (an : Bool) (F G : dMg) : dMg := (F.1 + G.1 + 1, F.2.1 + G.2.1, bnM an F.2.2 G.2.2)
section DTM
variable (T : Nat) (f pp ee : Nat → Int32) (env : List Nat) (sl ti : Nat → Nat)
/-- the line of a comparison, by columns; its number -/
def dLi (p1 p2 : List tP) : List (Nat × Int) := (sLs (nFind f pp ee env) (-1) p2 (sLs (nFind f pp ee env) 1 p1 [])).map (fun q => (sl q.1, q.2.toInt))
def dPl (p1 p2 : List tP) : Int := (nLs T f pp ee (-1) p2 (nLs T f pp ee 1 p1 0)).toInt
/-- **a C means**; a list of parts goes on from acc -/
def dW : tT → Bool → dMg → dMg
  | .leaf, _, acc => acc
  | .inner g d _ a b, an, acc =>
    if g = 30 then dW b an (dBn an acc (dW a false dZ))
    else if g = 20 then dW b false (dW a false dZ)
    else if g = 21 then dW b true (dW a false dZ)
    else if g = 22 then ((dW a false dZ).1 + 1, (dW a false dZ).2.1, fun h => (dW a false dZ).2.2 (!h))
    else if g = 23 then (1, 1, fun h => if decide (d.2.1 = 1) = h then [([], [])] else [])
    else if g = 24 then (1, 1, fun h => [([], [(ti (gNu f pp ee env d.1), h)])])
    else (1, 1, fun h => cmB (dLi f pp ee env sl d.2.2.2.1.2 d.2.2.2.2.2) (dPl T f pp ee d.2.2.2.1.2 d.2.2.2.2.2) (if h = true then d.2.2.1 else rNo d.2.2.1))
/-- true is 1, false 0 -/
def dOk : tT → Bool
  | .leaf => true
  | .inner g d _ a b => (!decide (g = 23) || decide (d.2.1 ≤ 1)) && (dOk a && dOk b)
/-- comparisons are FACTS of measured NAMES, their numbers are not too large -/
def dFo (cov : Nat → Prop) (B : Int) : tT → Prop
  | .leaf => True
  | .inner g d _ a b => (g = 25 → sFa (sDf (sL (nFind f pp ee env) d.2.2.2.1.2) (sL (nFind f pp ee env) d.2.2.2.2.2)) = true ∧ d.2.2.1 ≤ 5 ∧ ((-1125899906842624 ≤ dPl T f pp ee d.2.2.2.1.2 d.2.2.2.2.2 ∧ dPl T f pp ee d.2.2.2.1.2 d.2.2.2.2.2 ≤ 1125899906842624) ∧ -B ≤ 2 * dPl T f pp ee d.2.2.2.1.2 d.2.2.2.2.2 - 2 ∧ 2 * dPl T f pp ee d.2.2.2.1.2 d.2.2.2.2.2 + 2 ≤ B) ∧ ∀ q, q ∈ sLs (nFind f pp ee env) (-1) d.2.2.2.2.2 (sLs (nFind f pp ee env) 1 d.2.2.2.1.2 []) → cov q.1) ∧ dFo cov B a ∧ dFo cov B b
end DTM
section RMN
variable {ks : Nat → Nat} {qs : List Nat} {T h0 c : Nat} {V : zSt} {B : Int}
theorem rMn.mo : ∀ (H H' s a : Nat) (m : Int32) (D : Bool → List oBr), H ≤ H' → rMn ks qs T h0 V c B H s a m D → rMn ks qs T h0 V c B H' s a m D
  | 0, _, _, _, _, _, _, h => False.elim h
  | H + 1, 0, _, _, _, _, hl, _ => by omega
  | H + 1, H' + 1, s, a, m, D, hl, h => by
    rcases h with h | ⟨u, hm, h⟩
    · exact Or.inl h
    · refine Or.inr ⟨u, hm, ?_⟩
      rcases h with ⟨an, m1, m2, s1, s2, a1, a2, D1, D2, e1, e2, e3, r1, r2, e⟩ | ⟨m1, s1, D1, e1, e2, r1, e⟩ | h | h | h
      · exact Or.inl ⟨an, m1, m2, s1, s2, a1, a2, D1, D2, e1, e2, e3, rMn.mo H H' _ _ _ _ (by omega) r1, rMn.mo H H' _ _ _ _ (by omega) r2, e⟩
      · exact Or.inr (Or.inl ⟨m1, s1, D1, e1, e2, rMn.mo H H' _ _ _ _ (by omega) r1, e⟩)
      · exact Or.inr (Or.inr (Or.inl h))
      · exact Or.inr (Or.inr (Or.inr (Or.inl h)))
      · exact Or.inr (Or.inr (Or.inr (Or.inr h)))
end RMN
section DRM
variable {ks : Nat → Nat} {qs : List Nat} {T h0 len cnt lo N S P A c : Nat} {V : zSt} {L env : List Nat} {kk pp ee f : Nat → Int32} {B : Int} {sl : Nat → Nat} {cov : Nat → Prop}
/-- from gQ: what the tree and the words lie in is as it was -/
theorem gQ.lh {τ : zSt} (H : rLh T len cnt S P L env V kk pp ee f) (q : gQ V τ) : rLh T len cnt S P L env τ kk pp ee f := ⟨H.1, H.2.1.keep (q.2.2.1 1 (by decide)) (q.2.2.1 3 (by decide)) (q.2.2.1 4 (by decide)) (q.2.2.1 5 (by decide)), by rw [q.2.2.1 32 (by decide)]; exact H.2.2.1, H.2.2.2⟩
theorem gQ.at {τ : zSt} (q : gQ V τ) : rAt lo N S P A V τ := by
  have e : ∀ k, k ≤ 39 → τ.2.2.1 k = V.2.2.1 k := fun k hk => q.2.2.1 k (fun z => by
    simp only [List.mem_cons, List.not_mem_nil, or_false] at z
    omega)
  exact ⟨fun m _ _ => funext fun k => congrFun (e _ (by omega)) m, fun k j a b _ => congrFun (e k (by omega)) j, fun k j a b _ => congrFun (e k (by omega)) j, fun m _ => funext fun k => congrFun (e _ (by omega)) m⟩
theorem gFm.bk {a b c : zSt} (h : gFm a b) (g : gFm a c) : gFm b c := ⟨fun k x => (g.1 k x).trans (h.1 k x).symm, fun k x => (g.2.1 k x).trans (h.2.1 k x).symm, fun k x y => (g.2.2.1 k x y).trans (h.2.2.1 k x y).symm, g.2.2.2.trans h.2.2.2.symm⟩
theorem sFa_i {M : List (Nat × Int32)} (h : sFa M = true) (hb : sBd 3000 M) : M.length ≤ 2 ∧ ∀ q, q ∈ M → -2 ≤ q.2.toInt ∧ q.2.toInt ≤ 2 := by
  rcases (sFa_iff M).mp h with ⟨h1, h2⟩ | h1 | ⟨h1, h2⟩
  · refine ⟨by omega, fun q hq => ?_⟩
    have := (jAbs_eq1 (K := 3000) (by decide) (hb q hq)).mp (h2 q hq)
    omega
  · refine ⟨by omega, fun q hq => ?_⟩
    rw [List.eq_nil_of_length_eq_zero h1] at hq
    cases hq
  · refine ⟨by omega, fun q hq => ?_⟩
    have := (jAbs_lt2 (K := 3000) (by decide) (hb q hq)).mp (h2 q hq)
    omega
set_option maxHeartbeats 1000000 in
/-- **the reference's node of a C means what the C means** -/
theorem r_dW (hN : N ≤ 2100) (H : rLh T len cnt S P L env V kk pp ee f) (hcov : ∀ u, cov u → V.2.2.1 89 (nuO (V.2.2.1 32) u) = nI (sl u) ∧ sl u < c) (hc : c ≤ 60) (hinj : ∀ u v, cov u → cov v → sl u = sl v → u = v) (t : tT) (m : Nat) (wf : cWf cnt t false) (hg : tGd kk cnt t) (hu : rWs f pp ee (V.2.2.1 32) L env (cEv t)) (hF : dFo T f pp ee env cov B t) (hO : dOk t = true) (ht : rTr pp V lo N S P A t 0 0 m) : ∃ Hh, rMn ks qs T h0 V c B Hh (dW T f pp ee env sl (nuO (V.2.2.1 32)) t false dZ).1 (dW T f pp ee env sl (nuO (V.2.2.1 32)) t false dZ).2.1 (nI m) (dW T f pp ee env sl (nuO (V.2.2.1 32)) t false dZ).2.2 := by
  refine (r_cw (α := Bool × dMg) (K := fun m _ F => F.1 = true → ∃ Hh, rMn ks qs T h0 V c B Hh F.2.1 F.2.2.1 (nI m) F.2.2.2) (X := fun t => (tGd kk cnt t ∧ dFo T f pp ee env cov B t) ∧ ∀ w, w ∈ cEv t → rUs f pp ee (V.2.2.1 32) L env w) (val := fun t => (dOk t, dW T f pp ee env sl (nuO (V.2.2.1 32)) t false dZ)) (cmb := fun gl F Fa => (F.1 && Fa.1, dBn (gl == 21) F.2 Fa.2)) (vl := fun gl F b => (F.1 && dOk b, dW T f pp ee env sl (nuO (V.2.2.1 32)) b (gl == 21) F.2)) (C := 0) (cnt := cnt) hN (fun m D D' F h hd => h) ?_ ?_ ?_ ?_ ?_ ?_ ?_ ?_ ?_ t).1 m wf ⟨⟨hg, hF⟩, hu⟩ ht hO
  · rintro g d z a b ⟨⟨⟨-, -, ⟨h24, -⟩, ha, hb⟩, -, fa, fb⟩, hu⟩
    by_cases c24 : g = 24 ∨ g = 25
    · obtain ⟨rfl, rfl⟩ := h24 c24
      exact ⟨⟨⟨trivial, trivial⟩, fun w hw => by cases hw⟩, ⟨trivial, trivial⟩, fun w hw => by cases hw⟩
    · unfold cEv at hu
      rw [if_neg (fun z => c24 (Or.inl z)), if_neg (fun z => c24 (Or.inr z))] at hu
      exact ⟨⟨⟨ha, fa⟩, fun w hw => hu w (List.mem_append_left _ hw)⟩, ⟨hb, fb⟩, fun w hw => hu w (List.mem_append_right _ hw)⟩
  · rintro g d z a b (rfl | rfl) <;> rfl
  · intro gl F
    show (F.1 && true, F.2) = F
    rw [Bool.and_true]
  · intro gl F d z a b
    show (F.1 && (true && (dOk a && dOk b)), _) = ((F.1 && dOk a) && dOk b, _)
    rw [Bool.true_and, Bool.and_assoc]
    rfl
  · intro gl m m0 mb D Da F Fa hgl hm e6 e9 e10 K0 Kb hf
    obtain ⟨f1, f2⟩ := Bool.and_eq_true_iff.mp hf
    obtain ⟨H1, r1⟩ := K0 f1
    obtain ⟨H2, r2⟩ := Kb f2
    refine ⟨max H1 H2 + 1, Or.inr ⟨m, ⟨rfl, hm⟩, Or.inl ⟨gl == 21, _, _, _, _, _, _, _, _, ?_, e9, e10, rMn.mo _ _ _ _ _ _ (Nat.le_max_left _ _) r1, rMn.mo _ _ _ _ _ _ (Nat.le_max_right _ _) r2, rfl, rfl, rfl⟩⟩⟩
    rw [e6]
    rcases hgl with rfl | rfl <;> rfl
  · intro d z a m x D hm e6 e9 K0 hf
    have hf : (true && (dOk a && true)) = true := hf
    rw [Bool.true_and, Bool.and_true] at hf
    obtain ⟨H1, r1⟩ := K0 hf
    exact ⟨H1 + 1, Or.inr ⟨m, ⟨rfl, hm⟩, Or.inr (Or.inl ⟨_, _, _, e6, e9, r1, rfl, rfl⟩)⟩⟩
  · intro d z m hm ht hf
    have hf : ((!decide (23 = 23) || decide (d.2.1 ≤ 1)) && (true && true)) = true := hf
    have h1 : d.2.1 ≤ 1 := by simpa using hf
    obtain ⟨t0, t1⟩ := ht
    refine ⟨1, Or.inr ⟨m, ⟨rfl, hm⟩, Or.inr (Or.inr (Or.inl ⟨decide (d.2.1 = 1), t0.2.1, ?_, rfl, rfl, rfl⟩))⟩⟩
    have t1 : V.2.2.1 9 m = nI d.2.1 := t1
    rw [t1]
    rcases (by omega : d.2.1 = 0 ∨ d.2.1 = 1) with e | e <;> rw [e] <;> rfl
  · intro d z a b m hm hd hx ht hf
    obtain ⟨t0, t1⟩ := ht
    have hu : rUs f pp ee (V.2.2.1 32) L env d.1 := hx.2 d.1 (List.mem_singleton_self _)
    obtain ⟨u, e1, e2, e3⟩ := H.2.2.1.us hu
    have eu : gNu f pp ee env d.1 = u := by unfold gNu; rw [e1]; rfl
    refine ⟨1, Or.inr ⟨m, ⟨rfl, hm⟩, Or.inr (Or.inr (Or.inr (Or.inl ⟨d.1, nuO (V.2.2.1 32) u, t0.2.1, t1, ?_, e3, ?_, rfl, rfl, ?_⟩)))⟩⟩
    · have := H.2.1.2.2.2.2.2.2
      omega
    · have := (H.2.2.1.at e2).2.2
      omega
    · show (fun h => [([], [(nuO (V.2.2.1 32) (gNu f pp ee env d.1), h)])]) = _
      rw [eu]
  · rintro d z a b m hm w1 w2 ⟨⟨⟨⟨g1, g2⟩, -, ⟨h24, -⟩, -, -⟩, hF, -, -⟩, hu⟩ ht hf
    obtain ⟨rfl, rfl⟩ := h24 (Or.inr rfl)
    have hu : ∀ w, w ∈ sEv d.2.2.2.1.2 ++ sEv d.2.2.2.2.2 → rUs f pp ee (V.2.2.1 32) L env w := hu
    obtain ⟨t0, ⟨t8, t5⟩, x, y, ⟨t1, t2⟩, s1, s2⟩ := ht
    obtain ⟨f1, f2, f3, f4⟩ := hF rfl
    have hE : ∀ w u, nFind f pp ee env w = some u → u ∈ env := fun w u e => by
      obtain ⟨j, -, ej⟩ := nFind_mem e
      exact List.mem_of_getElem? ej
    obtain ⟨k1, k2, k3, k4⟩ := sLs_ok (nFind f pp ee env) hE H.2.2.2.2 g1 g2
    have sf : sFa (sLs (nFind f pp ee env) (-1) d.2.2.2.2.2 (sLs (nFind f pp ee env) 1 d.2.2.2.1.2 [])) = true := by rw [← sFa_pm (sDf_pm (nFind f pp ee env) d.2.2.2.1.2 d.2.2.2.2.2)]; exact f1
    obtain ⟨l1, l2⟩ := sFa_i sf k4
    generalize eM : sLs (nFind f pp ee env) (-1) d.2.2.2.2.2 (sLs (nFind f pp ee env) 1 d.2.2.2.1.2 []) = M at k1 k2 k3 k4 f4 sf l1 l2
    have hL : ∀ q, q ∈ M → q.1 ∈ L := fun q hq => H.2.2.2.1 _ (k2 q hq)
    have hcl : ∀ q, q ∈ M → cOl V (nuO (V.2.2.1 32) q.1) = sl q.1 := fun q hq => by
      obtain ⟨c1, c2⟩ := hcov _ (f4 q hq)
      unfold cOl
      rw [c1, nI_clamp (by omega)]
    refine ⟨1, Or.inr ⟨m, ⟨rfl, hm⟩, Or.inr (Or.inr (Or.inr (Or.inr ⟨rMp (nuO (V.2.2.1 32)) M, nLs T f pp ee (-1) d.2.2.2.2.2 (nLs T f pp ee 1 d.2.2.2.1.2 0), d.2.2.1, t0.2.1, ⟨⟨t5, f2⟩, ⟨⟨by rw [rMp_len]; exact l1, ?_, ?_⟩, f3⟩, ?_⟩, rfl, rfl, ?_⟩)))⟩⟩
    · intro q hq
      obtain ⟨q0, hq0, rfl⟩ := List.mem_map.mp hq
      obtain ⟨c1, c2⟩ := hcov _ (f4 q0 hq0)
      have nu := (H.2.2.1.at (hL q0 hq0)).2.2
      have l2 := l2 q0 hq0
      refine ⟨by show nuO _ q0.1 < 1501; omega, ?_, ?_, l2.1, l2.2, i32_ne0.mp (k1.2 q0 hq0)⟩
      · show V.2.2.1 89 (nuO _ q0.1) = nI (cOl V (nuO _ q0.1))
        rw [hcl q0 hq0]
        exact c1
      · show cOl V (nuO _ q0.1) < c
        rw [hcl q0 hq0]
        exact c2
    · intro q q' e
      match M, e, k1, hcl, f4 with
      | [q0, q1], e, k1, hcl, f4 =>
        have e : [(nuO (V.2.2.1 32) q0.1, q0.2), (nuO (V.2.2.1 32) q1.1, q1.2)] = [q, q'] := e
        injection e with e e'
        injection e' with e' _
        subst e e'
        show cOl V (nuO _ q0.1) ≠ cOl V (nuO _ q1.1)
        rw [hcl q0 (by simp), hcl q1 (by simp)]
        intro z
        have z := hinj _ _ (f4 q0 (by simp)) (f4 q1 (by simp)) z
        have nd : [q0.1, q1.1].Nodup := k1.1
        rw [z] at nd
        simp at nd
      | [], e, _, _, _ => cases e
      | [_], e, _, _, _ => cases e
      | _ :: _ :: _ :: _, e, _, _, _ => exact absurd (congrArg List.length e) (by show _ + 1 + 1 + 1 ≠ 2; omega)
    · intro n τ q
      obtain ⟨τ1, τ2, τ3, a1, a2, a3, a4, a5, a6, a7, a8⟩ := r_line2 (h0 := h0) (qs := qs) (ks := ks) (n := n) (τ := τ) (q.lh H) (gFm.rf τ) w1 w2 g1 g2 (fun w hw => by rw [q.2.2.1 32 (by decide)]; exact hu w (List.mem_append_left _ hw)) (fun w hw => by rw [q.2.2.1 32 (by decide)]; exact hu w (List.mem_append_right _ hw)) ((gQ.at (lo := 0) (N := 0) (S := S) (P := P) (A := 0) q).sm s1 (Nat.le_refl _) (Nat.le_refl _)) ((gQ.at (lo := 0) (N := 0) (S := S) (P := P) (A := 0) q).sm s2 (Nat.le_refl _) (Nat.le_refl _))
      have t1 : V.2.2.1 9 m = nI x := t1
      have t2 : V.2.2.1 10 m = nI y := t2
      rw [t1, t2]
      rw [q.2.2.1 32 (by decide), eM] at a7
      exact ⟨τ1, τ2, τ3, a1, a2, a3, a2.bk a4, a5, a4.bk a6, a7, a8⟩
    · show (fun h => cmB (dLi f pp ee env sl d.2.2.2.1.2 d.2.2.2.2.2) _ _) = _
      have e : dLi f pp ee env sl d.2.2.2.1.2 d.2.2.2.2.2 = dLn V (rMp (nuO (V.2.2.1 32)) M) := by
        unfold dLi dLn rMp
        rw [eM, List.map_map]
        exact List.map_congr_left (fun q hq => by show (sl q.1, _) = (cOl V (nuO _ q.1), _); rw [hcl q hq])
      rw [e]
      rfl
end DRM
