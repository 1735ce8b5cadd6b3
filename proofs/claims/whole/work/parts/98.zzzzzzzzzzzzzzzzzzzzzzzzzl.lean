/-! weakenAll(): the conditions of a Scope, as the Judge wants them -/
section VJK
variable {lo : Nat} {V σ σ' : oSt} {Q : Nat → Prop} {pa ph ta th : Nat}
theorem vJ.wf (h : vJ lo V σ) (k : wFr Q pa ph ta th σ σ') (hJ : pa < lo ∧ ph < lo ∧ ta < lo ∧ th < lo) (hQ : ∀ a, Q a → V.2.1 ≤ a) (hfr : ∀ a, V.2.1 ≤ a → V.1 a = none) : vJ lo V σ' := by
  obtain ⟨h1, h2, h3, h4⟩ := h
  refine ⟨fun a fs hl e => ?_, fun a fs hl e => ?_, fun a c fs hl e hk => ?_, fun a y hl e hy => ?_⟩
  · obtain ⟨gs, g1, g2⟩ := h1 a fs hl e
    exact ⟨gs, k.o g1 (by decide) (by decide) (by decide) (by decide) (by decide), g2⟩
  · obtain ⟨gs, g1⟩ := h2 a fs hl e
    obtain ⟨gs', g2, -⟩ := k.2.2.1 a gs g1
    exact ⟨gs', g2⟩
  · exact k.o (h3 a c fs hl e hk) (by omega) (by omega) (by omega) (by omega) (by omega)
  · exact k.a (h4 a y hl e hy) hy ⟨by omega, by omega, by omega, by omega⟩ (fun _ z => by rw [hfr a (hQ a z)] at e; cases e)
theorem vJ.jb (h : vJ lo V σ) (k : jKb pa ph ta th σ σ') (hJ : pa < lo ∧ ph < lo ∧ ta < lo ∧ th < lo) : vJ lo V σ' := by
  obtain ⟨h1, h2, h3, h4⟩ := h
  have ob : ∀ {x c : Nat} {fs : List Value}, σ.1 x = some (.inr (c, fs)) → c ≠ 3 → c ≠ 8 → c ≠ 4 → c ≠ 6 → σ'.1 x = some (.inr (c, fs)) := fun {x c fs} e c3 c8 c4 c6 => k.1 x _ e ⟨c3, c8⟩ (fun f z => by injection z with z; injection z with z _; exact c4 z) (fun f z => by injection z with z; injection z with z _; exact c6 z)
  refine ⟨fun a fs hl e => ?_, fun a fs hl e => ?_, fun a c fs hl e hk => ?_, fun a y hl e hy => ?_⟩
  · obtain ⟨gs, g1, g2⟩ := h1 a fs hl e
    exact ⟨gs, ob g1 (by decide) (by decide) (by decide) (by decide), g2⟩
  · obtain ⟨gs, g1⟩ := h2 a fs hl e
    obtain ⟨gs', g2, -⟩ := k.2.2.1 a gs g1
    exact ⟨gs', g2⟩
  · exact ob (h3 a c fs hl e hk) (by omega) (by omega) (by omega) (by omega)
  · exact k.1 a _ (h4 a y hl e hy) ⟨hy, by omega, by omega, by omega, by omega⟩ (fun f z => by cases z) (fun f z => by cases z)
end VJK
/-- **a NAME's place in the octagon is the same** -/
theorem slot_eq : ∀ (Es : List (gN × Nat)), (Es.map Prod.fst).Nodup → (Es.map Prod.snd).Nodup → ∀ y a, (y, a) ∈ Es → slO (Es.map Prod.snd) a = gSl (Es.map Prod.fst) y
  | [], _, _, _, _, h => by cases h
  | (y0, a0) :: Es, n1, n2, y, a, h => by
    have n1' : y0 ∉ Es.map Prod.fst ∧ (Es.map Prod.fst).Nodup := List.nodup_cons.mp n1
    have n2' : a0 ∉ Es.map Prod.snd ∧ (Es.map Prod.snd).Nodup := List.nodup_cons.mp n2
    rcases List.mem_cons.mp h with z | z
    · injection z with z1 z2
      subst z1 z2
      unfold slO gSl
      rw [List.map_cons, List.map_cons, List.idxOf_cons_self, List.findIdx_cons]
      simp
    · have ya : a0 ≠ a := fun q => n2'.1 (by rw [q]; exact List.mem_map.mpr ⟨_, z, rfl⟩)
      have yy : y0 ≠ y := fun q => n1'.1 (by rw [q]; exact List.mem_map.mpr ⟨_, z, rfl⟩)
      have ih := slot_eq Es n1'.2 n2'.2 y a z
      unfold slO gSl at ih ⊢
      rw [List.map_cons, List.map_cons, List.idxOf_cons, List.findIdx_cons, decide_eq_false yy, beq_eq_false_iff_ne.mpr ya]
      show _ + 1 + 1 = _ + 1 + 1
      omega
section CDJ
variable {T T0 cnt : Nat} {kk f fc pp ee R : Nat → Int32} {L env : List Nat} {nm : Nat → Option Nat} {φ : Nat → Nat} {cov : Nat → Prop} {Bb : Int}
theorem cGo_of (hfc : ∀ env w, nFind fc pp ee env w = nFind f pp ee env w) (hL : ∀ u, u ∈ L → nm u = some (φ u)) : ∀ (t : tT), tGd kk cnt t → rWs f pp ee R L env (cEv t) → dFo T f pp ee env cov Bb t → cBn t → cGo (nR fc pp ee nm env) t
  | .leaf, _, _, _, _ => trivial
  | .inner g d z a b, ⟨_, _, ⟨g24, _⟩, ga, gb⟩, hu, ⟨f25, fa, fb⟩, ⟨b2, ba, bb⟩ => by
    have hs : rWs f pp ee R L env (cEv a) ∧ rWs f pp ee R L env (cEv b) := by
      by_cases c : g = 24 ∨ g = 25
      · obtain ⟨rfl, rfl⟩ := g24 c
        exact ⟨fun w hw => (by cases hw), fun w hw => (by cases hw)⟩
      · have e : cEv (.inner g d z a b) = cEv a ++ cEv b := by
          show (if g = 24 then _ else if g = 25 then _ else _) = _
          rw [if_neg (fun z => c (Or.inl z)), if_neg (fun z => c (Or.inr z))]
        rw [e] at hu
        exact ⟨fun w hw => hu w (List.mem_append_left _ hw), fun w hw => hu w (List.mem_append_right _ hw)⟩
    refine ⟨⟨fun e => ?_, fun e => (f25 e).2.1, b2⟩, cGo_of hfc hL a ga hs.1 fa ba, cGo_of hfc hL b gb hs.2 fb bb⟩
    subst e
    obtain ⟨n, u, -, h1, h2⟩ := hu d.1 (List.mem_singleton.mpr rfl)
    refine ⟨φ u, ?_⟩
    unfold nR
    rw [hfc, h2]
    exact hL u (List.mem_of_getElem? h1)
theorem sDf_of (hfc : ∀ env w, nFind fc pp ee env w = nFind f pp ee env w) (hnm : ∀ u, u ∈ env → nm u = some (φ u)) (hφ : ∀ u v, u ∈ env → v ∈ env → φ u = φ v → u = v) (p1 p2 : List tP) : sDf (sL (nR fc pp ee nm env) p1) (sL (nR fc pp ee nm env) p2) = rMp φ (sDf (sL (nFind f pp ee env) p1) (sL (nFind f pp ee env) p2)) := by
  have hs := fun ps => sL_of (φ := φ) (env := env) (ns := nR fc pp ee nm env) (ns' := nFind f pp ee env) (nR_of hfc hnm) (fun w u e => nF_mem e) hφ ps [] (fun q hq => by cases hq)
  have a1 : sL (nR fc pp ee nm env) p1 = rMp φ (sL (nFind f pp ee env) p1) := (hs _).1
  have a2 : sL (nR fc pp ee nm env) p2 = rMp φ (sL (nFind f pp ee env) p2) := (hs _).1
  rw [a1, a2]
  exact sDf_mp hφ (hs _).2 (hs _).2
theorem cSoJ_of (hfc : ∀ env w, nFind fc pp ee env w = nFind f pp ee env w) (hnm : ∀ u, u ∈ env → nm u = some (φ u)) (hφ : ∀ u v, u ∈ env → v ∈ env → φ u = φ v → u = v) (hsp : ∀ ps, sPl T0 (fun j => fc j &&& 255) pp ee ps = sPl T f pp ee ps) (he : env.length ≤ 12) : ∀ (t : tT), tGd kk cnt t → dFo T f pp ee env cov Bb t → cNw T f pp ee t → cSoJ T0 pp ee fc (nR fc pp ee nm env) (fun x => ∃ u, cov u ∧ x = φ u) Bb t
  | .leaf, _, _, _ => trivial
  | .inner g d z a b, ⟨⟨s1, s2⟩, _, _, ga, gb⟩, ⟨f25, fa, fb⟩, ⟨n25, na, nb⟩ => by
    refine ⟨fun e => ?_, cSoJ_of hfc hnm hφ hsp he a ga fa na, cSoJ_of hfc hnm hφ hsp he b gb fb nb⟩
    obtain ⟨t1, t2, ⟨t3, t3'⟩, t4⟩ := f25 e
    obtain ⟨m1, m2⟩ := n25 e
    have pm := sDf_pm (nFind f pp ee env) d.2.2.2.1.2 d.2.2.2.2.2
    have ok := sLs_ok (cnt := cnt) (nFind f pp ee env) (fun w u e => nF_mem e) he s1 s2
    rw [sDf_of hfc hnm hφ, cmPl_d hsp m1 m2]
    refine ⟨by rw [sFa_mp]; exact t1, fun q hq => ?_, t3, t3'⟩
    obtain ⟨p, hp, rfl⟩ := List.mem_map.mp hq
    have pM := pm.subset hp
    have nz := ok.1.2 p pM
    have ja := jAbs_1 (by decide : 3000 ≤ 100000) (ok.2.2.2 p pM)
    have nz' : p.2.toInt ≠ 0 := fun z => nz (Int32.toInt_inj.mp (z.trans (by decide)))
    have up : (jAbs p.2).toInt ≤ 2 := by
      rcases (sFa_iff _).mp t1 with ⟨_, w⟩ | w | ⟨_, w⟩
      · rw [w p hp]; decide
      · rw [List.length_eq_zero_iff.mp w] at hp; cases hp
      · have := w p hp
        rw [Int32.lt_iff_toInt_lt] at this
        have : ¬ (2 : Int) < (jAbs p.2).toInt := this
        omega
    rw [ja] at up
    refine ⟨⟨?_, ?_, nz'⟩, p.1, t4 p pM, rfl⟩
    · show -2 ≤ p.2.toInt
      split at up <;> omega
    · show p.2.toInt ≤ 2
      split at up <;> omega
end CDJ
