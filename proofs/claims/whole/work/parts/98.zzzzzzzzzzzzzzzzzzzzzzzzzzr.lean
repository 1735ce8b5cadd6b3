/-! findDoubt(): what must be SO, node by node -/
section CQN
variable {κ : oKv} {B : Nat → Nat} {D : cDt} {lo lo1 : Nat} {V σ : oSt} {sl ti : Nat → Nat} {pa ph ta th c : Nat} {rd : Int32} {Bb : Int} {nd su na tb cap cd r : Nat} {rl : Int32} {Lc : List (Nat × Int32)} {pl : Int64}
theorem cq_mn (h : cCq B D lo1 V nd su cd rl) (hr : rl = jRc r) (h5 : r ≤ 5) (hs : cSm V su na tb cap Lc pl) : mnR V sl ti 1 nd (1, fun h => cmB (sMp sl Lc) pl.toInt (if h = true then r else rNo r)) := by
  obtain ⟨ok, pl', e⟩ := h
  exact ⟨_, e, Or.inr (Or.inr (Or.inr (Or.inr ⟨su, na, tb, cap, Lc, pl, r, rfl, by rw [← hr]; rfl, h5, rfl, hs, rfl⟩)))⟩
theorem cq_j {H : Nat} (hM : vJ lo V σ) (hl : lo ≤ lo1) (h : cCq B D lo1 V nd su cd rl) (hr : rl = jRc r) (h5 : r ≤ 5) (hs : cSm V su na tb cap Lc pl) (ho : lo ≤ su ∧ lo ≤ na ∧ lo ≤ tb) (hN : ∀ q, q ∈ Lc → lo ≤ q.1) (hJ : pa < lo ∧ ph < lo ∧ ta < lo ∧ th < lo) (h1 : sFa Lc = true) (h2 : ∀ q, q ∈ Lc → -2 ≤ q.2.toInt ∧ q.2.toInt ≤ 2 ∧ q.2.toInt ≠ 0) (h3 : ∀ q, q ∈ Lc → nSl σ rd sl c q.1) (h4 : -1125899906842624 ≤ pl.toInt ∧ pl.toInt ≤ 1125899906842624) (h6 : -Bb ≤ 2 * pl.toInt - 2 ∧ 2 * pl.toInt + 2 ≤ Bb) : jMn (fun _ => False) κ σ pa ph ta th rd sl ti c Bb (fun m => (mnV V sl ti m).2) (H + 1) 1 nd := by
  have em := mnV_eq (cq_mn (sl := sl) (ti := ti) h hr h5 hs)
  obtain ⟨ok, pl', e⟩ := h
  obtain ⟨gs, g1, g2⟩ := hM.nx (Nat.le_trans hl ok.1) e
  refine ⟨gs, g1, Nat.le_refl _, Or.inr (Or.inr (Or.inr (Or.inr ⟨su, Lc, pl, r, (g2 0 (by decide) (by decide)).trans rfl, ((g2 5 (by decide) (by decide)).trans rfl).trans (by rw [hr]; rfl), h5, (g2 19 (by decide) (by decide)).trans rfl, ⟨hM.js hs ho hN hJ h1 h2 h3 h4 h6, fun _ _ _ _ z => z⟩, fun h => ?_⟩)))⟩
  show (mnV V sl ti nd).2 h = _
  rw [em]
/-- what isFormed() sees -/
theorem cq_if (hM : vJ lo V σ) (hl : lo ≤ lo1) (h : cCq B D lo1 V nd su cd rl) (hs : cSm V su na tb cap Lc pl) (ho : lo ≤ su ∧ lo ≤ na ∧ lo ≤ tb) (hN : ∀ q, q ∈ Lc → lo ≤ q.1) : ifO σ nd (sFa Lc) ∧ ∀ fs, σ.1 nd = some (.inr (7, fs)) → fs[0]? ≠ some (.int 302) := by
  obtain ⟨ok, pl', e⟩ := h
  obtain ⟨gs, g1, g2⟩ := hM.nx (Nat.le_trans hl ok.1) e
  refine ⟨⟨gs, 403, g1, (g2 0 (by decide) (by decide)).trans rfl, Or.inr ⟨rfl, su, na, tb, cap, Lc, pl, (g2 19 (by decide) (by decide)).trans rfl, hM.sm hs ho hN, rfl⟩⟩, fun fs e' => ?_⟩
  rw [g1] at e'
  injection e' with e'; injection e' with e'; injection e' with _ e'
  rw [← e', g2 0 (by decide) (by decide)]
  intro z
  injection z with z; injection z with z
  exact absurd z (by decide)
end CQN
section LNS
variable {T T0 cnt : Nat} {f fc pp ee : Nat → Int32} {nm : Nat → Option Nat} {φ : Nat → Nat} {env : List Nat} {ps : List tP}
/-- the line of an S, to the class and to the reading -/
theorem ln_s (hfc : ∀ env w, nFind fc pp ee env w = nFind f pp ee env w) (hnm : ∀ u, u ∈ env → nm u = some (φ u)) (hφ : ∀ u v, u ∈ env → v ∈ env → φ u = φ v → u = v) : sL (nR fc pp ee nm env) ps = rMp φ (sLs (nFind f pp ee env) 1 ps []) := by
  rw [← sL_eq]
  exact (sL_of (φ := φ) (env := env) (fun w => nR_of hfc hnm w) (fun w u e => nF_mem e) hφ ps [] (fun q hq => by cases hq)).1
theorem rMp_ni {M : List (Nat × Int32)} (hφ : ∀ u v, u ∈ env → v ∈ env → φ u = φ v → u = v) (hi : rIn (· ∈ env) M) (h : sNi M) : sNi (rMp φ M) := by
  refine ⟨?_, fun q hq => ?_⟩
  · have : (rMp φ M).map Prod.fst = (M.map Prod.fst).map φ := by unfold rMp; rw [List.map_map, List.map_map]; rfl
    rw [this]
    refine List.pairwise_map.mpr (List.Pairwise.imp_of_mem (fun {a b} ha hb ne e => ne ?_) h.1)
    obtain ⟨p, p1, rfl⟩ := List.mem_map.mp ha
    obtain ⟨q, q1, rfl⟩ := List.mem_map.mp hb
    exact hφ _ _ (hi p p1) (hi q q1) e
  · obtain ⟨p, p1, rfl⟩ := List.mem_map.mp hq
    exact h.2 p p1
theorem ln_3 {w u : Nat} (hfc : ∀ env w, nFind fc pp ee env w = nFind f pp ee env w) (hnm : ∀ u, u ∈ env → nm u = some (φ u)) (hφ : ∀ u v, u ∈ env → v ∈ env → φ u = φ v → u = v) (hu : nFind f pp ee env w = some u) : (sNo (nR fc pp ee nm env w) (-1) (sAll 1 (sL (nR fc pp ee nm env) ps) [])).Perm (rMp φ (sAdd (sLs (nFind f pp ee env) 1 ps []) u (-1))) := by
  have ue : u ∈ env := nF_mem hu
  have hin : rIn (· ∈ env) (sLs (nFind f pp ee env) 1 ps []) := sLs.in (fun w u e => nF_mem e) ps [] (fun q hq => by cases hq)
  have ni : sNi (sLs (nFind f pp ee env) 1 ps []) := sLs.ni ps [] sNi.nil
  have eN : nR fc pp ee nm env w = some (φ u) := by
    rw [nR_of hfc hnm, hu]; rfl
  rw [ln_s hfc hnm hφ, eN, ← sAdd_mp (E := (· ∈ env)) hφ ue hin]
  have n1 := rMp_ni hφ hin ni
  refine sNi.perm (sNi.add (sNi.all 1 _ _ sNi.nil) _ _) (sNi.add n1 _ _) (fun x => ?_)
  show sCf (sAdd _ _ _) x = _
  rw [sCf_add, sCf_add, sCf_all]
  show sCf [] x + 1 * _ + _ = _
  have : sCf [] x = 0 := rfl
  rw [this, Int32.zero_add, Int32.one_mul]
end LNS
