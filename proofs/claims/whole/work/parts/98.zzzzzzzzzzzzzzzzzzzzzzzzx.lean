/-! the class's conditions mean what the reading says: a C -/
section CMW
variable {T T0 cnt : Nat} {f fc pp ee : Nat → Int32} {env : List Nat} {sl ti sl' ti' : Nat → Nat} {nm : Nat → Option Nat} {φ : Nat → Nat} {cov : Nat → Prop} {Bb : Int}
theorem nR_of (hfc : ∀ env w, nFind fc pp ee env w = nFind f pp ee env w) (hnm : ∀ u, u ∈ env → nm u = some (φ u)) (w : Nat) : nR fc pp ee nm env w = (nFind f pp ee env w).map φ := by
  unfold nR
  rw [hfc]
  cases e : nFind f pp ee env w with
  | none => rfl
  | some u => exact hnm u (nF_mem e)
theorem sL_of {ns ns' : Nat → Option Nat} (h : ∀ w, ns w = (ns' w).map φ) (hE : ∀ w u, ns' w = some u → u ∈ env) (hφ : ∀ u v, u ∈ env → v ∈ env → φ u = φ v → u = v) : ∀ (ps : List tP) (L : List (Nat × Int32)), rIn (· ∈ env) L → ps.foldl (fun L p => if p.1 = 0 then L else match ns p.2.2 with | some b => sAdd L b (sg p.2.1) | none => L) (rMp φ L) = rMp φ (ps.foldl (fun L p => if p.1 = 0 then L else match ns' p.2.2 with | some b => sAdd L b (sg p.2.1) | none => L) L) ∧ rIn (· ∈ env) (ps.foldl (fun L p => if p.1 = 0 then L else match ns' p.2.2 with | some b => sAdd L b (sg p.2.1) | none => L) L)
  | [], L, hL => ⟨rfl, hL⟩
  | p :: ps, L, hL => by
    rw [List.foldl_cons, List.foldl_cons]
    by_cases c : p.1 = 0
    · rw [if_pos c, if_pos c]
      exact sL_of h hE hφ ps L hL
    · rw [if_neg c, if_neg c, h p.2.2]
      cases e : ns' p.2.2 with
      | none => exact sL_of h hE hφ ps L hL
      | some u =>
        have ue := hE _ _ e
        show ps.foldl _ (sAdd (rMp φ L) (φ u) (sg p.2.1)) = _ ∧ _
        rw [sAdd_mp (E := (· ∈ env)) hφ ue hL]
        exact sL_of h hE hφ ps _ (sAdd_in (E := (· ∈ env)) ue hL _)
/-- **a C means what the reading says** -/
theorem cMl_w (hfc : ∀ env w, nFind fc pp ee env w = nFind f pp ee env w) (hnm : ∀ u, u ∈ env → nm u = some (φ u)) (hφ : ∀ u v, u ∈ env → v ∈ env → φ u = φ v → u = v) (hsp : ∀ ps, sPl T0 (fun j => fc j &&& 255) pp ee ps = sPl T f pp ee ps) (hsl : ∀ u, cov u → sl (φ u) = sl' u) (hti : ∀ u, u ∈ env → ti (φ u) = ti' u) : ∀ (t : tT) (l : Bool), cWf cnt t l → cGo (nR fc pp ee nm env) t → dFo T f pp ee env cov Bb t → cNw T f pp ee t → (l = false → ∃ P, cMl sl ti T0 pp ee fc (nR fc pp ee nm env) t = [P] ∧ P.1 = tAt t ∧ ∀ h, bE (P.2 h) ((dW T f pp ee env sl' ti' t false dZ).2.2 h)) ∧ (l = true → ((cMl sl ti T0 pp ee fc (nR fc pp ee nm env) t).map Prod.fst).sum = tAt t ∧ ∀ (an : Bool) (acc : dMg) (acc' : Bool → List oBr), (∀ h, bE (acc' h) (acc.2.2 h)) → ∀ h, bE (if an = h then brAll (acc' h :: (cMl sl ti T0 pp ee fc (nR fc pp ee nm env) t).map (fun E => E.2 h)) else brAny (acc' h :: (cMl sl ti T0 pp ee fc (nR fc pp ee nm env) t).map (fun E => E.2 h))) ((dW T f pp ee env sl' ti' t an acc).2.2 h))
  | .leaf, l, w, _, _, _ => by
    have w : l = true := w
    refine ⟨fun z => (by rw [z] at w; cases w), fun _ => ⟨rfl, fun an acc acc' ha h => ?_⟩⟩
    show bE (if an = h then brAll [acc' h] else brAny [acc' h]) (acc.2.2 h)
    by_cases c : an = h
    · rw [if_pos c]
      refine bE.tr (fun K hK L ts => ?_) (ha h)
      rw [exB.all hK]
      exact Iff.rfl
    · rw [if_neg c]
      show bE (acc' h ++ []) _
      rw [List.append_nil]
      exact ha h
  | .inner n d z a b, l, w, go, fo, nw => by
    have Ia := cMl_w hfc hnm hφ hsp hsl hti a
    have Ib := cMl_w hfc hnm hφ hsp hsl hti b
    obtain ⟨⟨g24, g25, g20⟩, ga, gb⟩ := go
    obtain ⟨f25, fa, fb⟩ := fo
    obtain ⟨n25, na, nb⟩ := nw
    have lst : ∀ an : Bool, cWf cnt a false → cWf cnt b true → ((cMl sl ti T0 pp ee fc (nR fc pp ee nm env) a ++ cMl sl ti T0 pp ee fc (nR fc pp ee nm env) b).map Prod.fst).sum = tAt a + tAt b ∧ ∀ h, bE (if an = h then brAll ((cMl sl ti T0 pp ee fc (nR fc pp ee nm env) a ++ cMl sl ti T0 pp ee fc (nR fc pp ee nm env) b).map (fun E => E.2 h)) else brAny ((cMl sl ti T0 pp ee fc (nR fc pp ee nm env) a ++ cMl sl ti T0 pp ee fc (nR fc pp ee nm env) b).map (fun E => E.2 h))) ((dW T f pp ee env sl' ti' b an (dW T f pp ee env sl' ti' a false dZ)).2.2 h) := fun an wa wb => by
      obtain ⟨P, e1, e2, e3⟩ := (Ia false wa ga fa na).1 rfl
      obtain ⟨e4, e5⟩ := (Ib true wb gb fb nb).2 rfl
      rw [e1]
      refine ⟨?_, fun h => e5 an _ P.2 e3 h⟩
      rw [List.singleton_append, List.map_cons, List.sum_cons, e2, e4]
    rcases w with ⟨hl, rfl, wa, wb⟩ | ⟨hl, w⟩
    · refine ⟨fun z => (by rw [z] at hl; cases hl), fun _ => ?_⟩
      obtain ⟨P, e1, e2, e3⟩ := (Ia false wa ga fa na).1 rfl
      obtain ⟨e4, e5⟩ := (Ib true wb gb fb nb).2 rfl
      have eM : cMl sl ti T0 pp ee fc (nR fc pp ee nm env) (.inner 30 d z a b) = P :: cMl sl ti T0 pp ee fc (nR fc pp ee nm env) b := by
        show cMl sl ti T0 pp ee fc (nR fc pp ee nm env) a ++ cMl sl ti T0 pp ee fc (nR fc pp ee nm env) b = _
        rw [e1]; rfl
      rw [eM]
      refine ⟨?_, fun an acc acc' ha h => ?_⟩
      · rw [List.map_cons, List.sum_cons, e2, e4]; rfl
      · have eD : dW T f pp ee env sl' ti' (.inner 30 d z a b) an acc = dW T f pp ee env sl' ti' b an (dBn an acc (dW T f pp ee env sl' ti' a false dZ)) := rfl
        rw [eD]
        have step := e5 an (dBn an acc (dW T f pp ee env sl' ti' a false dZ)) (fun h => if an = h then brAnd (acc' h) (P.2 h) else acc' h ++ P.2 h) (fun h => by
          show bE (if an = h then _ else _) (bnM an acc.2.2 (dW T f pp ee env sl' ti' a false dZ).2.2 h)
          unfold bnM
          by_cases c : an = h
          · rw [if_pos c, if_pos c]; exact (ha h).an (e3 h)
          · rw [if_neg c, if_neg c]; exact (ha h).ap (e3 h)) h
        refine bE.tr ?_ step
        by_cases c : an = h
        · simp only [if_pos c]
          exact bE.al (bE.rf _)
        · simp only [if_neg c]
          show bE (acc' h ++ (P.2 h ++ brAny _)) ((acc' h ++ P.2 h) ++ brAny _)
          rw [List.append_assoc]
          exact bE.rf _
    · refine ⟨fun _ => ?_, fun z => (by rw [z] at hl; cases hl)⟩
      rcases w with ⟨hg, wa, wb⟩ | ⟨rfl, wa, hb⟩ | ⟨rfl, -, -⟩ | ⟨rfl, -⟩ | ⟨rfl, -⟩
      · rcases hg with rfl | rfl
        · obtain ⟨l1, l2⟩ := lst false wa wb
          exact ⟨_, rfl, l1, l2⟩
        · obtain ⟨l1, l2⟩ := lst true wa wb
          exact ⟨_, rfl, l1, l2⟩
      · obtain ⟨P, e1, e2, e3⟩ := (Ia false wa ga fa na).1 rfl
        refine ⟨(P.1, fun h => P.2 (!h)), ?_, ?_, fun h => e3 (!h)⟩
        · show (cMl sl ti T0 pp ee fc (nR fc pp ee nm env) a).map _ = _
          rw [e1]; rfl
        · show P.1 = tAt a + tAt b
          rw [e2, hb]; rfl
      · exact ⟨_, rfl, rfl, fun h => bE.rf _⟩
      · refine ⟨_, rfl, rfl, fun h => ?_⟩
        obtain ⟨x, hx⟩ := g24 rfl
        rw [nR_of hfc hnm] at hx
        cases e : nFind f pp ee env d.1 with
        | none => rw [e] at hx; cases hx
        | some u =>
          have gu : gNu f pp ee env d.1 = u := by unfold gNu; rw [e]; rfl
          show bE [([], [(ti ((nR fc pp ee nm env d.1).getD 0), h)])] [([], [(ti' (gNu f pp ee env d.1), h)])]
          rw [nR_of hfc hnm, e, gu]
          show bE [([], [(ti (φ u), h)])] _
          rw [hti u (nF_mem e)]
          exact bE.rf _
      · refine ⟨_, rfl, rfl, fun h => ?_⟩
        obtain ⟨t1, t2, t3, t4⟩ := f25 rfl
        obtain ⟨m1, m2⟩ := n25 rfl
        have hs := fun ps => sL_of (φ := φ) (env := env) (ns := nR fc pp ee nm env) (ns' := nFind f pp ee env) (nR_of hfc hnm) (fun w u e => nF_mem e) hφ ps [] (fun q hq => by cases hq)
        have eL : sDf (sL (nR fc pp ee nm env) d.2.2.2.1.2) (sL (nR fc pp ee nm env) d.2.2.2.2.2) = rMp φ (sDf (sL (nFind f pp ee env) d.2.2.2.1.2) (sL (nFind f pp ee env) d.2.2.2.2.2)) := by
          have a1 : sL (nR fc pp ee nm env) d.2.2.2.1.2 = rMp φ (sL (nFind f pp ee env) d.2.2.2.1.2) := (hs _).1
          have a2 : sL (nR fc pp ee nm env) d.2.2.2.2.2 = rMp φ (sL (nFind f pp ee env) d.2.2.2.2.2) := (hs _).1
          rw [a1, a2]
          exact sDf_mp hφ (hs _).2 (hs _).2
        have pm := sDf_pm (nFind f pp ee env) d.2.2.2.1.2 d.2.2.2.2.2
        have eS : sMp sl (rMp φ (sDf (sL (nFind f pp ee env) d.2.2.2.1.2) (sL (nFind f pp ee env) d.2.2.2.2.2))) = (sDf (sL (nFind f pp ee env) d.2.2.2.1.2) (sL (nFind f pp ee env) d.2.2.2.2.2)).map (fun q => (sl' q.1, q.2.toInt)) := by
          unfold sMp rMp
          rw [List.map_map]
          refine List.map_congr_left (fun q hq => ?_)
          show (sl (φ q.1), q.2.toInt) = _
          rw [hsl q.1 (t4 q (pm.subset hq))]
        show bE (cmB (sMp sl (sDf (sL (nR fc pp ee nm env) d.2.2.2.1.2) (sL (nR fc pp ee nm env) d.2.2.2.2.2))) (cmPl T0 pp ee fc d.2.2.2.1.2 d.2.2.2.2.2).toInt (if h = true then d.2.2.1 else rNo d.2.2.1)) (cmB (dLi f pp ee env sl' d.2.2.2.1.2 d.2.2.2.2.2) (dPl T f pp ee d.2.2.2.1.2 d.2.2.2.2.2) (if h = true then d.2.2.1 else rNo d.2.2.1))
        rw [eL, eS, cmPl_d hsp m1 m2]
        refine bE.eq (cmB_pm (pm.map _) ?_ _ _)
        rw [List.length_map]
        rcases (sFa_iff _).mp t1 with z | z | z <;> omega
end CMW
