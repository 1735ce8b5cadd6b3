/-! what gWk makes can be asked -/
/-- atoms of a condition that may wait -/
def gAw (c : gCd) : Nat := match c with
  | .inl y => tAt y.1
  | .inr _ => 0
/-- conditions that can be asked where env counts -/
def cbS (T cnt : Nat) (kk pp ee f R : Nat → Int32) (L : List Nat) (B : Int) (tN : Nat → tY) (env : List Nat) (cs : List (gCd × Bool)) : Prop := ((∀ u, u ∈ env → u ∈ L) ∧ env.length ≤ 12) ∧ (∀ c, c ∈ cs → gCq T cnt kk pp ee f R L B (gSv tN env) c.1) ∧ (cs.length ≤ 100 ∧ (cs.map (fun x => gAw x.1)).sum ≤ 6 ∧ ∀ c h, (Sum.inl c, h) ∈ cs → cWf cnt c.1 false ∧ cDp c.1 ≤ 100) ∧ ∀ sl : gN → Nat, (cs.map (fun x => (cdM T f pp ee R sl x.1).1)).sum ≤ 400 ∧ (cs.map (fun x => (cdM T f pp ee R sl x.1).2.1)).sum ≤ 40
/-- what must be SO can be asked where env counts -/
def nbS (T cnt : Nat) (kk pp ee f R : Nat → Int32) (L : List Nat) (B : Int) (tN : Nat → tY) (env : List Nat) (cs : List (gCd × Bool)) (x : Nat × Nat × tT × List tP × List Nat × Nat) : Prop := (x.2.1 ≤ 3 ∧ (x.2.1 ≠ 0 → sKn kk x.2.2.2.1)) ∧ ((∀ u, u ∈ x.2.2.2.2.1 → u ∈ L) ∧ x.2.2.2.2.1.length ≤ 12) ∧ (x.2.1 = 0 → cbS T cnt kk pp ee f R L B tN env ((.inl (x.2.2.1, x.2.2.2.2.1), false) :: cs)) ∧ (x.2.1 ≠ 0 → (pOk cnt x.2.2.2.1 ∧ sGd cnt x.2.2.2.1 ∧ rWs f pp ee R L x.2.2.2.2.1 (sEv x.2.2.2.1)) ∧ (x.2.1 = 3 → x.2.2.2.2.2 ∈ x.2.2.2.2.1) ∧ ∀ kd, (kd = x.2.1 ∨ (x.2.1 = 3 ∧ kd = 2)) → sFa (nLi (nFind f pp ee x.2.2.2.2.1) kd x.2.2.2.2.2 x.2.2.2.1) = true → (∀ q, q ∈ nLi (nFind f pp ee x.2.2.2.2.1) kd x.2.2.2.2.2 x.2.2.2.1 → Sum.inl q.1 ∈ gSv tN env) ∧ (-1125899906842624 ≤ (nLs T f pp ee 1 x.2.2.2.1 0).toInt ∧ (nLs T f pp ee 1 x.2.2.2.1 0).toInt ≤ 1125899906842624) ∧ -B ≤ 2 * (nLs T f pp ee 1 x.2.2.2.1 0).toInt - 2 ∧ 2 * (nLs T f pp ee 1 x.2.2.2.1 0).toInt + 2 ≤ B)
/-- a type that is there -/
def ocT (Fs : List gFit) (Ns : List gNd) (OT : gTy → Prop) (X : gTy) : Prop := (∃ x, x ∈ Fs ∧ (X = x.2.1 ∨ X = x.2.2 ∨ ∃ u, (u, X) ∈ scN x.1)) ∨ (∃ y, y ∈ Ns ∧ ∃ u, (u, X) ∈ scN y.1) ∨ OT X
/-- INSTANCES by place -/
noncomputable def fkO (Γ : uGm) (rt : Nat → gTm) (Fs : List gFit) (Ns : List gNd) (OT : gTy → Prop) (kp : Nat × List Bool) : List gFc := @ite _ (∃ X m, ocT Fs Ns OT X ∧ X.1 = .inr m ∧ (m.1, m.2.1) = kp) (Classical.propDecidable _) (gIn Γ.2.2.1 Γ.2.2.2.1 (mGo (rt kp.1) kp.2).2.2.1 (mGo (rt kp.1) kp.2).2.2.2.2) []
/-- places that are measured have numbers of their own -/
def rtI (Γ : uGm) (rt : Nat → gTm) : Prop := ∀ kp kp' : Nat × List Bool, gMs (mGo (rt kp.1) kp.2).2.2.1 = true → gMs (mGo (rt kp'.1) kp'.2).2.2.1 = true → Γ.2.1 kp = Γ.2.1 kp' → kp = kp'
section DGO
variable {T cnt : Nat} {kk pp ee f R : Nat → Int32} {L : List Nat} {Γ : uGm} {C B : Int} {rt : Nat → gTm} {tN : Nat → tY} {env : List Nat} {sc : List gEn} {Fs : List gFit} {Ns : List gNd} {OT : gTy → Prop}
theorem dFo.mo {cov cov' : Nat → Prop} (h : ∀ u, cov u → cov' u) : ∀ (t : tT), dFo T f pp ee env cov B t → dFo T f pp ee env cov' B t
  | .leaf, _ => trivial
  | .inner g d z a b, ⟨h1, h2, h3⟩ => ⟨fun e => ⟨(h1 e).1, (h1 e).2.1, (h1 e).2.2.1, fun q hq => h _ ((h1 e).2.2.2 q hq)⟩, dFo.mo h a h2, dFo.mo h b h3⟩
theorem gCq.mo {S S' : List gN} (h : ∀ s, s ∈ S → s ∈ S') (c : gCd) (w : gCq T cnt kk pp ee f R L B S c) : gCq T cnt kk pp ee f R L B S' c := by
  match c, w with
  | .inl c, ⟨w1, w2, w3, w4, w5, w6⟩ => exact ⟨w1, w2, w3, w4, dFo.mo (fun u hu => h _ hu) c.1 w5, w6⟩
  | .inr l, ⟨w1, w2⟩ => exact ⟨h _ w1, w2⟩
theorem qSg_of (hq : qlW Γ C B) (hw : scW Γ C B rt tN (scN sc)) (hl : (scN sc).length ≤ 59) (hs : ∀ s, s ∈ gSv tN env → s ∈ nmS sc) (hi : ∀ u, Sum.inl u ∈ nmS sc → Sum.inl u ∈ gSv tN env) (cb : cbS T cnt kk pp ee f R L B tN env (scC sc)) : qSg T cnt kk pp ee f R L Γ B sc := by
  obtain ⟨⟨c0, -⟩, c1, ⟨c2, -⟩, c3⟩ := cb
  obtain ⟨w1, w2⟩ := scW.cl hq _ hw
  refine ⟨w1, fun x hx => scW.nm _ hw _ (List.mem_map.mpr ⟨x, hx, rfl⟩), by omega, fun u hu => ?_, w2, fun x hx => (c1 x hx).mo hs, c2, (c3 _).1, (c3 _).2⟩
  obtain ⟨v, v1, -, v2⟩ := gSv_me.mp (hi u hu)
  have : u = v := Sum.inl.inj v2
  rw [this]
  exact c0 v v1
theorem scW.ty : ∀ (l : List (gN × gTy)), scW Γ C B rt tN l → ∀ u X, (u, X) ∈ l → ∃ S, wfT Γ C B rt S X
  | [], _, _, _, h => by cases h
  | x :: r, ⟨_, _, ⟨h3, _⟩, h4⟩, u, X, h => by
    rcases List.mem_cons.mp h with z | z
    · rw [← z] at h3; exact ⟨_, h3⟩
    · exact scW.ty r h4 u X z
theorem wfT.go {S : List gN} {X : gTy} {m : gTm} (h : wfT Γ C B rt S X) (e : X.1 = .inr m) : m = mGo (rt m.1) m.2.1 := by
  unfold wfT at h
  rw [e] at h
  exact h.1.1
theorem gIn_ms {nq : tQ → Int} {xs : List tQ} {y : tY} {l : List gN} (h : 0 < (gIn nq xs y l).length) : gMs y = true := by
  obtain ⟨x, hx⟩ := List.exists_mem_of_length_pos h
  unfold gIn at hx
  obtain ⟨q, -, hx⟩ := List.mem_flatMap.mp hx
  split at hx
  · rename_i c
    unfold gMs
    rcases c with ⟨-, c⟩ | ⟨-, c⟩ | ⟨-, c⟩ <;> rw [c] <;> rfl
  · cases hx
theorem gSv_le (env : List Nat) : (gSv tN env).length ≤ env.length := by
  unfold gSv
  rw [List.length_map]
  exact List.length_filter_le _ _
/-- **all that gWk makes can be asked** -/
theorem dGd_of (hq : qlW Γ C B) (hI : rtI Γ rt) (hF : ∀ x, x ∈ Fs → fP Γ C B rt 59 tN (cbS T cnt kk pp ee f R L B tN) x) (hN : ∀ x, x ∈ Ns → nP Γ C B rt tN (cbS T cnt kk pp ee f R L B tN) (nbS T cnt kk pp ee f R L B tN) x) (hO : ∀ X, OT X → ∃ S, wfT Γ C B rt S X) : dGd T cnt kk pp ee f R L Γ B (fkO Γ rt Fs Ns OT) Fs Ns OT := by
  have oc : ∀ X m, ocT Fs Ns OT X → X.1 = .inr m → m = mGo (rt m.1) m.2.1 := fun X m h e => by
    rcases h with ⟨x, hx, h⟩ | ⟨x, hx, u, h⟩ | h
    · obtain ⟨env, sc, ⟨⟨a1, a2⟩, a3, -⟩, -⟩ := hF x hx
      rcases h with h | h | ⟨u, h⟩
      · rw [← h] at a1; exact a1.go e
      · rw [← h] at a2; exact a2.go e
      · obtain ⟨S, w⟩ := scW.ty _ a3 u X h
        exact w.go e
    · obtain ⟨env, -, a3, -⟩ := hN x hx
      obtain ⟨S, w⟩ := scW.ty _ a3 u X h
      exact w.go e
    · obtain ⟨S, w⟩ := hO X h
      exact w.go e
  have ty : ∀ X, ocT Fs Ns OT X → tyK Γ.2.2.1 Γ.2.2.2.1 (fkO Γ rt Fs Ns OT) X := fun X h m e => by
    unfold fkO
    rw [if_pos ⟨X, m, h, e, rfl⟩]
    dsimp only
    rw [← oc X m h e]
  refine ⟨fun x hx => ?_, fun x hx => ?_, ⟨fun kp h => ?_, fun kp kp' h h' e => ?_⟩⟩
  · obtain ⟨env, sc, ⟨⟨a1, a2⟩, a3, ⟨a4, -⟩, a5, a6, a7⟩, b1, b2⟩ := hF x hx
    have me : ∀ s, s ∈ nmS sc ↔ s ∈ gSv tN env := fun s => by rw [b2, List.mem_reverse]
    refine ⟨⟨qSg_of hq a3 a4 (fun s hs => a6 s ((me s).mpr hs)) (fun u hu => (me _).mp (a7 u hu)) (by rw [a5]; exact b1), a1.aq hq, a2.aq hq⟩, fun z hz => ty _ (Or.inl ⟨x, hx, Or.inr (Or.inr ⟨z.1, hz⟩)⟩), ty _ (Or.inl ⟨x, hx, Or.inl rfl⟩), ty _ (Or.inl ⟨x, hx, Or.inr (Or.inl rfl)⟩)⟩
  · obtain ⟨env, b2, a3, b1, b3⟩ := hN x hx
    have me : ∀ s, s ∈ nmS x.1 ↔ s ∈ gSv tN env := fun s => by rw [b2, List.mem_reverse]
    have ln : (scN x.1).length ≤ 59 := by
      have := congrArg List.length b2
      unfold nmS at this
      rw [List.length_map, List.length_reverse] at this
      have h1 := gSv_le (tN := tN) env
      have h2 := b1.1.2
      omega
    obtain ⟨⟨n1, -⟩, n2, n3, n4⟩ := b3
    refine ⟨⟨qSg_of hq a3 ln (fun s hs => (me s).mpr hs) (fun u hu => (me _).mp hu) b1, n2, fun h0 => ?_, fun h0 => ?_⟩, n1⟩
    · exact qSg_of (sc := .inr (.inl (x.2.2.2.1, x.2.2.2.2.2.1), false) :: x.1) hq a3 ln (fun s hs => (me s).mpr hs) (fun u hu => (me _).mp hu) (n3 h0)
    · obtain ⟨m1, m2, m3⟩ := n4 h0
      exact ⟨m1, m2, fun kd hk hs => ⟨fun q hq' => (me _).mpr ((m3 kd hk hs).1 q hq'), (m3 kd hk hs).2⟩⟩
  · unfold fkO at h ⊢
    by_cases c : ∃ X m, ocT Fs Ns OT X ∧ X.1 = .inr m ∧ (m.1, m.2.1) = kp
    · rw [if_pos c]
      obtain ⟨X, m, c1, c2, c3⟩ := c
      refine ⟨X, m, c1, c2, c3, ?_⟩
      rw [← c3]
      dsimp only
      rw [← oc X m c1 c2]
    · rw [if_neg c] at h
      cases h
  · have ms : ∀ kp, 0 < (fkO Γ rt Fs Ns OT kp).length → gMs (mGo (rt kp.1) kp.2).2.2.1 = true := fun kp h => by
      unfold fkO at h
      split at h
      · exact gIn_ms h
      · cases h
    exact hI kp kp' (ms kp h) (ms kp' h') e
end DGO
