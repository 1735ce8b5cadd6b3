/-! all conditions and S's of a read PROGRAM can be asked -/
/-- conditions gone through where env counts; H levels are left -/
def cCo (T cnt : Nat) (kk pp ee f R : Nat → Int32) (L : List Nat) (B : Int) (tN : Nat → tY) (env : List Nat) (cs : List (gCd × Bool)) (cn : Int32) (H : Nat) : Prop := ((∀ u, u ∈ env → u ∈ L) ∧ env.length ≤ 12) ∧ (∀ c, c ∈ cs → gCq T cnt kk pp ee f R L B (gSv tN env) c.1) ∧ (∀ c h, (Sum.inl c, h) ∈ cs → cWf cnt c.1 false ∧ dNh c.1 ≤ 32 ∧ cDp c.1 ≤ 100) ∧ (cn = nI (csA cs) ∧ csA cs ≤ 6) ∧ csM cs + H ≤ 32 ∧ cs.length ≤ csA cs + csM cs
section CCO
variable {T len cnt : Nat} {kk pp ee f R : Nat → Int32} {L env env' : List Nat} {B C : Int} {tE tN : Nat → tY} {cs : List (gCd × Bool)} {cn : Int32} {H H' : Nat} {V : zSt} {Γ : uGm} {rt : Nat → gTm}
theorem tAt_le : ∀ (t : tT) (l : Bool), cWf cnt t l → (l = false → tAt t ≤ kN t + 1 ∧ 1 ≤ tAt t) ∧ (l = true → tAt t ≤ kN t)
  | .leaf, l, h => ⟨fun e => (by have h : l = true := h; rw [h] at e; cases e), fun _ => Nat.le_refl _⟩
  | .inner g d z a b, l, h => by
    unfold tAt kN
    rcases h with ⟨hl, hg, ha, hb⟩ | ⟨hl, h⟩
    · subst hl hg
      have A := (tAt_le a false ha).1 rfl
      have Bq := (tAt_le b true hb).2 rfl
      refine ⟨fun e => (by cases e), fun _ => ?_⟩
      rw [if_neg (by decide), if_neg (by decide), if_pos rfl]
      omega
    · subst hl
      refine ⟨fun _ => ?_, fun e => (by cases e)⟩
      rcases h with ⟨hg, ha, hb⟩ | ⟨hg, ha, hb⟩ | ⟨hg, _⟩ | ⟨hg, _⟩ | ⟨hg, _⟩
      · have A := (tAt_le a false ha).1 rfl
        have Bq := (tAt_le b true hb).2 rfl
        rw [if_neg (by omega), if_neg (by omega), if_neg (by omega)]
        omega
      · have A := (tAt_le a false ha).1 rfl
        subst hg hb
        rw [if_neg (by decide), if_neg (by decide), if_neg (by decide)]
        show tAt a + 0 ≤ kN a + 0 + 0 + 1 ∧ 1 ≤ tAt a + 0
        omega
      · subst hg; rw [if_pos (by decide), if_pos (by decide)]; omega
      · subst hg; rw [if_pos (by decide), if_pos (by decide)]; omega
      · subst hg; rw [if_pos (by decide), if_pos (by decide)]; omega
theorem csA_w : ∀ cs : List (gCd × Bool), (cs.map (fun x => gAw x.1)).sum = csA cs
  | [] => rfl
  | (.inl c, _) :: r => by
    rw [List.map_cons, List.sum_cons, csA_w r]; rfl
  | (.inr _, _) :: r => by
    rw [List.map_cons, List.sum_cons, csA_w r]
    show 0 + csA r = csA r
    omega
theorem cCo.cb (h : cCo T cnt kk pp ee f R L B tN env cs cn H) : cbS T cnt kk pp ee f R L B tN env cs := by
  obtain ⟨h1, h2, h3, h4, h5, h6⟩ := h
  exact ⟨h1, h2, ⟨by omega, by rw [csA_w]; exact h4.2, fun c h e => ⟨(h3 c h e).1, (h3 c h e).2.2⟩⟩, cs_ok (fun c h e => ⟨(h3 c h e).1, (h3 c h e).2.1⟩) h4.2 (by omega)⟩
theorem cCo.up (h : cCo T cnt kk pp ee f R L B tN env cs cn H) (he : (∀ u, u ∈ env' → u ∈ L) ∧ env'.length ≤ 12) (hs : ∀ u, u ∈ env → u ∈ env') (hH : H' ≤ H) : cCo T cnt kk pp ee f R L B tN env' cs cn H' := by
  obtain ⟨h1, h2, h3, h4, h5, h6⟩ := h
  refine ⟨he, fun c hc => (h2 c hc).mo (fun s hs' => ?_), h3, h4, by omega, h6⟩
  obtain ⟨u, u1, u2, u3⟩ := gSv_me.mp hs'
  exact gSv_me.mpr ⟨u, hs u u1, u2, u3⟩
theorem cCo.fl (h : cCo T cnt kk pp ee f R L B tN env cs cn H) : cCo T cnt kk pp ee f R L B tN env (cFl cs) cn H := by
  obtain ⟨h1, h2, h3, h4, h5, h6⟩ := h
  match cs, h2, h3, h4, h5, h6 with
  | [], h2, h3, h4, h5, h6 => exact ⟨h1, h2, h3, h4, h5, h6⟩
  | (.inl c, b) :: r, h2, h3, h4, h5, h6 =>
    refine ⟨h1, fun x hx => ?_, fun x b' hx => ?_, h4, h5, h6⟩
    · rcases List.mem_cons.mp (show x ∈ (Sum.inl c, !b) :: r from hx) with e | e
      · rw [e]; exact h2 (.inl c, b) (List.mem_cons_self ..)
      · exact h2 x (List.mem_cons_of_mem _ e)
    · rcases List.mem_cons.mp (show (Sum.inl x, b') ∈ (Sum.inl c, !b) :: r from hx) with e | e
      · have : x = c := Sum.inl.inj (congrArg Prod.fst e)
        rw [this]; exact h3 c b (List.mem_cons_self ..)
      · exact h3 x b' (List.mem_cons_of_mem _ e)
  | (.inr l, b) :: r, h2, h3, h4, h5, h6 =>
    refine ⟨h1, fun x hx => ?_, fun x b' hx => ?_, h4, h5, h6⟩
    · rcases List.mem_cons.mp (show x ∈ (Sum.inr l, !b) :: r from hx) with e | e
      · rw [e]; exact h2 (.inr l, b) (List.mem_cons_self ..)
      · exact h2 x (List.mem_cons_of_mem _ e)
    · rcases List.mem_cons.mp (show (Sum.inl x, b') ∈ (Sum.inr l, !b) :: r from hx) with e | e
      · exact absurd (congrArg Prod.fst e) (by intro z; cases z)
      · exact h3 x b' (List.mem_cons_of_mem _ e)
/-- a C more -/
theorem cCo.cd {a : tT} (h : cCo T cnt kk pp ee f R L B tN env cs cn H) (b : Bool) (hT : 2010 ≤ T) (hw : rW V T len cnt kk pp ee f) (hB : 40040002 ≤ B) (wf : cWf cnt a false) (gd : tGd kk cnt a) (rq : cRq kk a ∧ kD a ≤ 1200 ∧ dNh a ≤ 32 ∧ cDp a ≤ 100) (ws : rWs f pp ee R L env (cEv a)) (ck : gCk f pp ee tN env a) (rf : cn + nI (tAt a) ≤ 6 ∧ cRtF (nFind f pp ee env) a) : cCo T cnt kk pp ee f R L B tN env ((.inl (a, env), b) :: cs) (cn + nI (tAt a)) H := by
  obtain ⟨h1, h2, h3, ⟨h4, h4'⟩, h5, h6⟩ := h
  have tl := (tAt_le a false wf).1 rfl
  have kd : kN a ≤ 1200 := by have := rq.2.1; unfold kD at this; omega
  have e : cn + nI (tAt a) = nI (tAt a + csA cs) := by rw [h4, Nat.add_comm (tAt a), nI_add]
  have le : tAt a + csA cs ≤ 6 := by
    have := rf.1
    rw [e, Int32.le_iff_toInt_le, nI_toInt (by omega)] at this
    have z : (6 : Int32).toInt = 6 := rfl
    rw [z] at this
    omega
  refine ⟨h1, fun c hc => ?_, fun c b' hc => ?_, ⟨e, le⟩, h5, ?_⟩
  · rcases List.mem_cons.mp hc with e | e
    · rw [e]
      exact ⟨h1.1, h1.2, gd, ws, dFo_of a ck (dNu_of hT hw hB a gd rq.1 rf.2), rq.1.dk, rq.2.1⟩
    · exact h2 c e
  · rcases List.mem_cons.mp hc with e | e
    · have : c = (a, env) := Sum.inl.inj (congrArg Prod.fst e)
      rw [this]; exact ⟨wf, rq.2.2⟩
    · exact h3 c b' e
  · show cs.length + 1 ≤ tAt a + csA cs + csM cs
    omega
/-- a match more -/
theorem cCo.mt {u : Nat} (h : cCo T cnt kk pp ee f R L B tN env cs cn (H + 1)) (b : Bool) (hu : u ∈ env) (ht : tN u = yB 3) : cCo T cnt kk pp ee f R L B tN env ((.inr u, b) :: cs) cn H := by
  obtain ⟨h1, h2, h3, h4, h5, h6⟩ := h
  refine ⟨h1, fun c hc => ?_, fun c b' hc => ?_, h4, ?_, ?_⟩
  · rcases List.mem_cons.mp hc with e | e
    · rw [e]
      exact ⟨gSv_me.mpr ⟨u, hu, by rw [ht]; rfl, rfl⟩, h1.1 u hu⟩
    · exact h2 c e
  · rcases List.mem_cons.mp hc with e | e
    · exact absurd (congrArg Prod.fst e) (by intro z; cases z)
    · exact h3 c b' e
  · show csM cs + 1 + H ≤ 32
    omega
  · show cs.length + 1 ≤ csA cs + (csM cs + 1)
    omega
/-- an ARG that is a NAME -/
theorem tmW_nm {u w : Nat} (hu : uNm Γ (.inl u)) (hf : nFind f pp ee env w = some u) (hs : Sum.inl u ∈ gSv tN env) (hC : 0 ≤ C) (hB : 2 ≤ B) : tmW Γ C B (gSv tN env) (gOf T f pp ee env [(1, false, w)]) := by
  have e : gOf T f pp ee env [(1, false, w)] = (some (.inl u, 1), 0) := by
    have h1 : sL (nFind f pp ee env) [(1, false, w)] = [(u, 1)] := by
      rw [sL_eq, sLs_cons]
      dsimp only
      rw [if_neg (by decide), hf]
      rfl
    have h2 : sPl T f pp ee [(1, false, w)] = 0 := rfl
    unfold gOf
    rw [h1, h2]
    rfl
  rw [e]
  refine ⟨fun y e w => ?_, gTb_0 hB _, ⟨by show -C ≤ 0; omega, hC⟩, fun y e w => ?_⟩
  · injection w with w
    injection w with w1 w2
    rw [← w1, ← w2]
    exact ⟨hu, Or.inl rfl⟩
  · injection w with w
    injection w with w1 w2
    rw [← w1]
    exact hs
/-- what must be SO of an S -/
theorem nb_of {kd pl u : Nat} {ps : List tP} (he : (∀ u, u ∈ env → u ∈ L) ∧ env.length ≤ 12) (h0 : 1 ≤ kd ∧ kd ≤ 3) (hT : 2010 ≤ T) (hw : rW V T len cnt kk pp ee f) (hB : 40040002 ≤ B) (po : pOk cnt ps) (gd : sGd cnt ps) (kn : sKn kk ps) (ws : rWs f pp ee R L env (sEv ps)) (so : gSo f pp ee tN env ps) (hu : kd = 3 → u ∈ env ∧ tN u = yB 2) : nbS T cnt kk pp ee f R L B tN env cs (pl, kd, .leaf, ps, env, u) := by
  obtain ⟨b1, b2⟩ := nLs_sm (s0 := 1) (Or.inl rfl) hT hw gd kn
  refine ⟨⟨h0.2, fun _ => kn⟩, he, fun e => (by have e : kd = 0 := e; omega), fun _ => ⟨⟨po, gd, ws⟩, fun e => (hu e).1, fun k hk _ => ⟨?_, ⟨by dsimp only; omega, by dsimp only; omega⟩, by dsimp only; omega, by dsimp only; omega⟩⟩⟩
  refine nLi_me so (fun e => ?_)
  rcases hk with hk | ⟨_, hk⟩
  · exact hu (by rw [← e]; exact hk.symm)
  · omega
theorem rEv.hd {t : tT} (wf : tWf kk cnt t 0) (h : rEv L t env) : (∀ u, u ∈ env → u ∈ L) ∧ env.length ≤ 12 := by
  match t, wf, h with
  | .inner g d z a b, _, h => exact ⟨h.1.2, h.1.1⟩
/-- **gHb of a read tree** -/
theorem gHb_of (hT : 2010 ≤ T) (hw : rW V T len cnt kk pp ee f) (ho : oW pp ee cnt) (hu : ∀ w, w ∈ L → uNm Γ (.inl w)) (hC : 10010000 ≤ C) (hB : 8008000000002 ≤ B) : ∀ (t : tT) (l : Nat) (env : List Nat) (cs : List (gCd × Bool)) (cn : Int32) (y : tY), tWf kk cnt t l → rWo f pp ee R L t env → rEv L t env → gOk f pp ee tE tN t env y → tGd kk cnt t → tKn kk t → tCq kk t → tPr t → fRt f pp ee t env cn → cCo T cnt kk pp ee f R L B tN env cs cn (tH t) → gHb T f pp ee tN Γ C B rt (cbS T cnt kk pp ee f R L B tN) (nbS T cnt kk pp ee f R L B tN) t env cs
  | .leaf, _, _, _, _, _, _, _, _, _, _, _, _, _, _, _ => trivial
  | .inner g d z a b, l, env, cs, cn, y, wf, wo, ev, ok, gd, kn, cq, pr, fr, co => by
    obtain ⟨w1, w2, w3, w4, w5, w6, w7, w8, w9⟩ := wf.ch
    have gg : g = 1 ∨ g = 2 ∨ g = 3 ∨ g = 4 ∨ g = 5 ∨ g = 6 ∨ g = 7 ∨ g = 8 ∨ g = 9 ∨ g = 10 ∨ g = 11 ∨ g = 12 ∨ g = 13 ∨ g = 14 ∨ g = 15 ∨ g = 16 ∨ g = 17 ∨ g = 18 ∨ g = 19 ∨ g = 31 ∨ g = 33 ∨ g = 34 ∨ g = 35 := by clear w1 w2 w3 w4 w5 w6 w7; omega
    have Ia := fun l env cs cn y => gHb_of hT hw ho hu hC hB a l env cs cn y
    have Ib := fun l env cs cn y => gHb_of hT hw ho hu hC hB b l env cs cn y
    have he : (∀ u, u ∈ env → u ∈ L) ∧ env.length ≤ 12 := ⟨ev.1.2, ev.1.1⟩
    have hm : ∀ u, u ∈ env → uNm Γ (.inl u) := fun u h => hu u (he.1 u h)
    obtain ⟨⟨d1, d2⟩, d3, -, da, db⟩ := gd
    obtain ⟨⟨k1, k2⟩, ka, kb⟩ := kn
    have pO : (g = 6 → pOk cnt d.2.2.2.1.2 ∧ pOk cnt d.2.2.2.2.2) ∧ (g = 7 ∨ g = 14 → pOk cnt d.2.2.2.1.2) ∧ (g = 12 ∨ g = 13 → pOk cnt d.2.2.2.2.2) ∧ (g = 4 ∨ g = 5 → cWf cnt a false) := by
      rcases wf with ⟨_, h, _⟩ | ⟨_, _, _, h⟩ | ⟨_, h⟩
      · subst h; exact ⟨fun e => absurd e (by decide), fun e => absurd e (by decide), fun e => absurd e (by decide), fun e => absurd e (by decide)⟩
      · rcases h with ⟨h, _⟩ | ⟨h, _⟩ | ⟨h, _⟩ <;> subst h <;> exact ⟨fun e => absurd e (by decide), fun e => absurd e (by decide), fun e => absurd e (by decide), fun e => absurd e (by decide)⟩
      · refine ⟨fun e => ?_, fun e => ?_, fun e => ?_, fun e => ?_⟩
        all_goals rcases h with ⟨h, _⟩ | ⟨h, _⟩ | ⟨h, _⟩ | ⟨h, wc, _⟩ | ⟨h, wc, _⟩ | ⟨h, _, wc, _⟩ | ⟨h, wc, _⟩ | ⟨h, _⟩ | ⟨h, wc, _⟩ | ⟨h, _, wc⟩ | ⟨h, _⟩ | ⟨h, _⟩ | ⟨h, _⟩ | ⟨h, _⟩
        all_goals first | omega | exact wc | exact wc.2
    obtain ⟨p6, p7, p12, pc⟩ := pO
    have B1 : 40040002 ≤ B := by omega
    have B2 : 20020002 ≤ B := by omega
    unfold rWo at wo
    unfold rEv at ev
    replace ev := ev.2
    unfold gOk at ok
    unfold tCq at cq
    unfold tPr at pr
    unfold fRt at fr
    unfold gHb
    refine ⟨co.cb, ?_⟩
    have hH : (g = 31 ∨ g = 33 ∨ g = 34 ∨ g = 35 → tH (.inner g d z a b) = max (tH a) (tH b)) ∧ (g = 4 ∨ g = 5 → tH (.inner g d z a b) = tH b + 1) ∧ (¬ (g = 31 ∨ g = 33 ∨ g = 34 ∨ g = 35) → ¬ (g = 4 ∨ g = 5) → tH (.inner g d z a b) = max (tH a) (tH b) + 1) := by
      have e0 : tH (.inner g d z a b) = if g = 31 ∨ g = 33 ∨ g = 34 ∨ g = 35 then max (tH a) (tH b) else if g = 4 ∨ g = 5 then tH b + 1 else max (tH a) (tH b) + 1 := rfl
      rw [e0]
      exact ⟨fun e => by rw [if_pos e], fun e => by rw [if_neg (by clear w1 w2 w3 w4 w5 w6 w7 p6 p7 p12 pc; omega), if_pos e], fun e e' => by rw [if_neg e, if_neg e']⟩
    have sub : ∀ (x : List Nat) u, u ∈ env → u ∈ env ++ x := fun x u h => List.mem_append_left _ h
    rcases gg with h | h | h | h | h | h | h | h | h | h | h | h | h | h | h | h | h | h | h | h | h | h | h <;> subst h <;> simp only [reduceIte, Nat.reduceEqDiff, or_self, or_false, false_or, or_true, true_or, ne_eq, not_true_eq_false, not_false_eq_true, false_implies, true_implies, forall_const, true_and, and_true] at wo ev ok cq pr fr ka da db d3 w1 w2 w3 w4 w5 w6 w7 p6 p7 p12 pc hH ⊢
    · obtain ⟨wa, wb⟩ := w1
      have e2 := ev.2.hd wb
      exact ⟨(co.up e2 (sub _) (Nat.le_refl _)).cb, Ia 0 env cs cn _ wa wo.2.1 ev.1 ok.2.1 da ka cq.1 pr.1 fr.1 (co.up he (fun _ h => h) (by omega)), Ib 0 _ cs cn _ wb wo.2.2 ev.2 ok.2.2 db kb cq.2 pr.2 fr.2 (co.up e2 (sub _) (by omega))⟩
    · obtain ⟨wa, wb⟩ := w1
      have e1 := ev.1.hd wa
      have e2 := ev.2.hd wb
      obtain ⟨-, ⟨r, -, o1⟩, o2⟩ := ok
      exact ⟨(co.up e1 (sub _) (Nat.le_refl _)).cb, Ia 0 _ cs cn _ wa wo.2.1 ev.1 o1 da ka cq.1 pr.1 fr.1 (co.up e1 (sub _) (by omega)), Ib 0 _ cs cn _ wb wo.2.2 ev.2 o2 db kb cq.2 pr.2 fr.2 (co.up e2 (sub _) (by omega))⟩
    · have e1 := ev.hd w2
      obtain ⟨-, r, -, o1⟩ := ok
      exact ⟨(co.up e1 (sub _) (Nat.le_refl _)).cb, Ia 0 _ cs cn _ w2 wo.2 ev o1 da ka cq.1 pr.1 fr (co.up e1 (sub _) (by omega))⟩
    · exact Ib 1 env _ _ _ w3 wo.2 ev ok.2.2 db kb cq.2 pr fr.2 ((co.up he (fun _ h => h) (by omega)).cd true hT hw B1 pc da cq.1 wo.1 ok.2.1 fr.1)
    · have c1 := (co.up (H' := tH b) he (fun _ h => h) (by omega)).cd (a := a) false hT hw B1 pc da cq.1 wo.1 ok.1 fr.1
      exact ⟨⟨⟨Nat.zero_le _, fun e => absurd rfl e⟩, he, fun _ => c1.cb, fun e => absurd rfl e⟩, Ib 0 env _ _ _ w4 wo.2 ev ok.2 db kb cq.2 pr fr.2 ((co.up he (fun _ h => h) (by omega)).cd true hT hw B1 pc da cq.1 wo.1 ok.1 fr.1)⟩
    · exact ⟨nb_of he (by decide) hT hw B1 p6.1 d1 k1 wo.2.1 ok.2.1.1 (fun _ => ⟨wo.1.m, ok.1⟩), Ia 0 env cs cn _ w2 wo.2.2.2 ev.1 ok.2.2 da ka cq.1 pr.1 fr.1 (co.up he (fun _ h => h) (by omega))⟩
    · exact ⟨nb_of he (by decide) hT hw B1 p7 d1 k1 wo.1 ok.2 (fun e => absurd e (by decide)), fun ht => tmW_of hm hT hw d1 k1 ok.2 ht hC B2⟩
    · exact suW_of hm hT hw d1 k1 wo.1 ok.2 hC B2
    · obtain ⟨i, l', j, o1, o2⟩ := pr.1
      exact fun S => gSg_w hT hw d2 k2 B2 (fun _ => pr_ok hT hw ho d1 k1 d2 k2 o1 o2 hB)
    · exact ⟨nb_of he (by decide) hT hw B1 p12 d2 k2 wo.2.1 ok.2.2 (fun e => absurd e (by decide)), fun S => gSg_w hT hw d2 k2 B2 (fun e => absurd e (by decide))⟩
    · exact ⟨nb_of he (by decide) hT hw B1 p12 d2 k2 wo.2.1 ok.2.2 (fun e => absurd e (by decide)), fun S => gSg_w hT hw d2 k2 B2 (fun e => absurd e (by decide))⟩
    · exact nb_of he (by decide) hT hw B1 p7 d1 k1 wo.2 ok.2.2 (fun _ => ⟨wo.1.m, ok.2.1⟩)
    · exact Ia 2 env cs cn _ w5 wo.2 ev.1 ok.2 da ka cq.1 pr.1 fr.1 (co.up he (fun _ h => h) (by omega))
    · exact Ia 0 env cs cn _ w2 wo.2.2.1 ev.1 ok da ka cq.1 pr.1 fr.1 (co.up he (fun _ h => h) (by omega))
    · obtain ⟨wa, wb⟩ := w1
      have e2 := ev.2.hd wb
      obtain ⟨-, ol, -, o1, o2⟩ := ok
      have c1 : cCo T cnt kk pp ee f R L B tN env cs cn (max (tH a) (tH b) + 1) := co.up he (fun _ h => h) (by omega)
      have ct := c1.mt true wo.1.m ol
      have cf := (c1.mt false wo.1.m ol).up e2 (sub _) (Nat.le_refl _)
      exact ⟨⟨ct.cb, cf.cb⟩, Ia 0 env _ cn _ wa wo.2.1 ev.1 o1 da ka cq.1 pr.1 fr.1 (ct.up he (fun _ h => h) (by omega)), Ib 0 _ _ cn _ wb wo.2.2.2 ev.2 o2 db kb cq.2 pr.2 fr.2 (cf.up e2 (fun _ h => h) (by omega))⟩
    · obtain ⟨wa, wb⟩ := w1
      exact ⟨co.fl.cb, Ia 0 env cs cn _ wa wo.2.2.1 ev.1 ok.1 da ka cq.1 pr.1 fr.1 (co.up he (fun _ h => h) (by omega)), Ib 0 env _ cn _ wb wo.2.2.2 ev.2 ok.2 db kb cq.2 pr.2 fr.2 (co.fl.up he (fun _ h => h) (by omega))⟩
    · refine ⟨⟨suW_of hm hT hw d1 k1 wo.1 (fun e => ok.2.1.2 (Or.inr e)) hC B2, fun hs => ?_⟩, Ib 2 env cs cn _ w6 wo.2.2.2 ev.2 ok.2.2 db kb cq.2 pr.2.2 fr.2 (co.up he (fun _ h => h) (by omega))⟩
      by_cases e : d.2.1 = 1
      · exact tmW_of hm hT hw d1 k1 (ok.2.1.2 (Or.inl e)) (fr.1 e) hC B2
      · obtain ⟨k, w, hk, es⟩ := pr.1 e
        rcases (by omega : k = 0 ∨ k = 1) with h0 | h0 <;> subst h0
        · refine tmW_of hm hT hw d1 k1 (ok.2.1.2 (Or.inr (by rw [es]; rfl))) ?_ hC B2
          rw [es]
          unfold gTs
          rw [sL_eq, sLs_cons]
          dsimp only
          rw [if_pos rfl]
          rfl
        · have hn : isN d.2.2.2.1.2 = true := by rw [es]; rfl
          have us := wo.1 _ (isN_ev hn)
          rw [es] at us
          obtain ⟨n, u, _, _, hf⟩ := us
          have hf : nFind f pp ee env w = some u := hf
          have eg : gSk f pp ee tN env d.2.2.2.1.2 = tN u := by
            unfold gSk gNu
            rw [if_pos hn, es]
            show tN ((nFind f pp ee env w).getD 0) = tN u
            rw [hf]
            rfl
          rw [eg] at hs
          obtain ⟨q, _, eq⟩ := nFind_mem hf
          have hue := List.mem_of_getElem? eq
          rw [es]
          exact tmW_nm (hm u hue) hf (gSv_me.mpr ⟨u, hue, hs, rfl⟩) (by omega) (by omega)
    · obtain ⟨wa, wb⟩ := w7
      exact ⟨Ia 0 env cs cn _ wa wo.2.2.1 ev.1 ok.2.1 da ka cq.1 pr.1 fr.1 (co.up he (fun _ h => h) (by omega)), Ib 2 env cs cn _ wb wo.2.2.2 ev.2 ok.2.2 db kb cq.2 pr.2 fr.2 (co.up he (fun _ h => h) (by omega))⟩
    · exact Ib 2 env cs cn _ w6 wo.2.2.2 ev.2 ok.2.2 db kb cq.2 pr.2 fr.2 (co.up he (fun _ h => h) (by omega))
end CCO
