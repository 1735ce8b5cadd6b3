/-! weakenAll(): a condition of a Scope, to the Judge and to the reading -/
/-- atoms of a condition; how deep it goes -/
def cdA : gCd → Nat
  | .inl y => tAt y.1
  | .inr _ => 1
def cdH : gCd → Nat
  | .inl y => tHt y.1
  | .inr _ => 0
theorem kN_kD (t : tT) : kN t ≤ kD t := by unfold kD; omega
theorem mn_403 {V : oSt} {sl ti : Nat → Nat} {H m : Nat} {D : Nat × (Bool → List oBr)} (h : mnR V sl ti H m D) (w : jNw V m) : D.1 = 1 := by
  cases H with
  | zero => exact h.elim
  | succ H =>
    obtain ⟨fs, h1, h⟩ := h
    obtain ⟨gs, r, g1, g2, -⟩ := w
    rw [h1] at g1
    injection g1 with g1; injection g1 with g1; injection g1 with _ g1
    subst g1
    rcases h with ⟨e, -⟩ | ⟨an, li, dd, cap, q, mc, g, Ds, e, -⟩ | ⟨bo, e, e3⟩ | ⟨x, e, e1, e2⟩ | ⟨su, na, ta, cap, L, pl, r, e, e1, e2, e3, e4, e5⟩
    · rw [g2] at e
      injection e with e; injection e with e
      exact absurd e (by decide)
    · rw [g2] at e
      injection e with e; injection e with e
      exact absurd e (by revert an; decide)
    · rw [e3]
    · rw [e2]
    · rw [e5]
section CDK
variable {κ : oKv} {T T0 cnt : Nat} {kk f fc pp ee R : Nat → Int32} {L : List Nat} {S : List gN} {nm : Nat → Option Nat} {φ : Nat → Nat} {Bb : Int} {B : Nat → Nat} {D : cDt} {lo : Nat} {V σ : oSt} {sl ti : Nat → Nat} {sl' : gN → Nat} {X : Nat → Prop} {pa ph ta th c : Nat} {rd : Int32}
/-- **a condition of a Scope: what it means, and that the Judge can take it** -/
theorem cd_j (hM : vJ lo V σ) (hV : V.2.1 ≤ σ.2.1) (hJ : pa < lo ∧ ph < lo ∧ ta < lo ∧ th < lo) (hX : ∀ x, X x → V.2.1 ≤ x) (hfr : ∀ a, V.2.1 ≤ a → V.1 a = none) (hfc : ∀ env w, nFind fc pp ee env w = nFind f pp ee env w) (hsp : ∀ ps, sPl T0 (fun j => fc j &&& 255) pp ee ps = sPl T f pp ee ps) (hL : ∀ u, u ∈ L → nm u = some (φ u) ∧ lo ≤ φ u ∧ ∃ fs, V.1 (φ u) = some (.inr (6, fs))) (hφ : ∀ u v, u ∈ L → v ∈ L → φ u = φ v → u = v) (hti : ∀ u, u ∈ L → ti (φ u) = nuO R u) (hsl : ∀ u, Sum.inl u ∈ S → sl (φ u) = sl' (.inl u) ∧ u ∈ L ∧ nSl σ rd sl c (φ u)) (hB : 2 ≤ Bb) : ∀ (x : gCd) (m : Nat), nCl κ T T0 kk pp ee f fc B D V nm lo m x → gCq T cnt kk pp ee f R L Bb S x → (lo ≤ m ∧ (mnV V sl ti m).1 = cdA x) ∧ (∀ h, bE ((mnV V sl ti m).2 h) ((cdM T f pp ee R sl' x).2.2 h)) ∧ (∀ H, cdH x < H → jMn X κ σ pa ph ta th rd sl ti c Bb (fun m => (mnV V sl ti m).2) H (cdA x) m) ∧ (∀ u, x = .inr u → jNw σ m) ∧ (jNw V m → cdA x = 1)
  | .inl (t, env), m, hn, hq => by
    obtain ⟨⟨bn, nw, n, wf⟩, lo1, h1, h2⟩ := hn
    obtain ⟨q1, q2, q3, q4, q5, q6, q7⟩ := hq
    have q1 : ∀ u, u ∈ env → u ∈ L := q1
    have hnm : ∀ u, u ∈ env → nm u = some (φ u) := fun u hu => (hL u (q1 u hu)).1
    have hφ' : ∀ u v, u ∈ env → v ∈ env → φ u = φ v → u = v := fun u v hu hv => hφ u v (q1 u hu) (q1 v hv)
    have go : cGo (nR fc pp ee nm env) t := cGo_of hfc (fun u hu => (hL u hu).1) t q3 q4 q5 bn
    have so : cSoJ T0 pp ee fc (nR fc pp ee nm env) (fun x => ∃ u, Sum.inl u ∈ S ∧ x = φ u) Bb t := cSoJ_of hfc hnm hφ' hsp q2 t q3 q5 nw
    have k7 : kN t < 1073741824 := by
      have := kN_kD t
      have : kD t ≤ 1200 := q7
      omega
    have hns : ∀ w x, nR fc pp ee nm env w = some x → lo ≤ x ∧ ∃ fs, V.1 x = some (.inr (6, fs)) := fun w x e => by
      rw [nR_of hfc hnm] at e
      cases e' : nFind f pp ee env w with
      | none => rw [e'] at e; cases e
      | some u =>
        rw [e'] at e
        have e : some (φ u) = some x := e
        injection e with e
        rw [← e]
        exact (hL u (q1 u (nF_mem e'))).2
    obtain ⟨P, e1, ⟨e2, e3⟩, e4⟩ := (cCt_j (sl := sl) (ti := ti) (rd := rd) (c := c) hM h1 hV hJ hX hfr hns (fun x hx => by
      obtain ⟨u, u1, u2⟩ := hx
      rw [u2]
      exact ⟨(hL u (hsl u u1).2.1).2.1, (hsl u u1).2.2⟩) t false _ _ _ wf go k7 so h2).1 rfl
    obtain ⟨P', f1, f2, f3⟩ := (cMl_w (sl := sl) (ti := ti) (sl' := fun u => sl' (.inl u)) (ti' := nuO R) hfc hnm hφ' hsp (fun u hu => (hsl u hu).1) (fun u hu => hti u (q1 u hu)) t false wf go q5 nw).1 rfl
    rw [e1] at f1
    injection f1 with f1
    subst f1
    refine ⟨⟨e2, by rw [e3]; exact f2⟩, fun h => by rw [e3]; exact f3 h, fun H hH => ?_, fun u z => (by cases z), fun nw' => ?_⟩
    · show jMn X κ σ pa ph ta th rd sl ti c Bb (fun m => (mnV V sl ti m).2) H (tAt t) m
      rw [← f2]
      exact e4 H hH
    · obtain ⟨P', p1, p2⟩ := (cCt_mn (sl := sl) (ti := ti) t false _ _ _ wf go k7 h2).1 rfl
      rw [e1] at p1
      injection p1 with p1
      subst p1
      exact f2.symm.trans (mn_403 (p2 _ (Nat.lt_succ_self _)) nw')
  | .inr u, m, hn, hq => by
    obtain ⟨lo1, su, na, tb, w, env, h1, h2, ⟨ok, pl, h3⟩, h4, o1, o2, o3⟩ := hn
    obtain ⟨q1, q2⟩ := hq
    obtain ⟨s1, s2, s3⟩ := hsl u q1
    obtain ⟨l1, l2, l3⟩ := hL u q2
    have eN : sNo (nR fc pp ee nm env w) 1 [] = [(φ u, 1)] := by
      unfold nR
      rw [hfc, h2]
      show sNo (nm u) 1 [] = _
      rw [l1]
      exact sAdd_1 _
    rw [eN] at h4
    have hm := Nat.le_trans h1 ok.1
    have mn : ∀ H, 0 < H → mnR V sl ti H m (1, fun h => cmB (sMp sl [(φ u, 1)]) ((0 : Int64).toInt) (if h = true then 2 else rNo 2)) := fun H hH => by
      obtain ⟨H, rfl⟩ : ∃ H', H = H' + 1 := ⟨H - 1, by omega⟩
      exact ⟨_, h3, Or.inr (Or.inr (Or.inr (Or.inr ⟨su, na, tb, 2, _, _, 2, rfl, rfl, by decide, rfl, h4, rfl⟩)))⟩
    have em := mnV_eq (mn 1 (by decide))
    obtain ⟨gs, g1, g3⟩ := hM.nx hm h3
    refine ⟨⟨hm, by rw [em]; rfl⟩, fun h => ?_, fun H hH => ?_, fun v _ => ⟨gs, 2, g1, (g3 0 (by decide) (by decide)).trans rfl, (g3 5 (by decide) (by decide)).trans rfl, by decide, by decide⟩, fun _ => rfl⟩
    · rw [em]
      show bE (cmB [(sl (φ u), (1 : Int32).toInt)] ((0 : Int64).toInt) (if h = true then 2 else rNo 2)) (cmB [(sl' (.inl u), 1)] 0 (if h = true then 2 else 3))
      rw [s1]
      exact bE.rf _
    · obtain ⟨H, rfl⟩ : ∃ H', H = H' + 1 := ⟨H - 1, by have : 0 < H := hH; omega⟩
      have js := hM.js (pa := pa) (ph := ph) (ta := ta) (th := th) (rd := rd) (sl := sl) (c := c) (Bb := Bb) h4 ⟨Nat.le_trans h1 o1.1, Nat.le_trans h1 o2.1, Nat.le_trans h1 o3.1⟩ (fun q hq => by rw [List.mem_singleton.mp hq]; exact l2) hJ (by rfl) (fun q hq => by rw [List.mem_singleton.mp hq]; exact (by decide : -2 ≤ (1 : Int32).toInt ∧ (1 : Int32).toInt ≤ 2 ∧ (1 : Int32).toInt ≠ 0)) (fun q hq => by rw [List.mem_singleton.mp hq]; exact s3) (by decide) ⟨by show -Bb ≤ 2 * 0 - 2; omega, by show 2 * 0 + 2 ≤ Bb; omega⟩
      refine ⟨gs, g1, Nat.le_refl 1, Or.inr (Or.inr (Or.inr (Or.inr ⟨su, _, _, 2, (g3 0 (by decide) (by decide)).trans rfl, (g3 5 (by decide) (by decide)).trans rfl, by decide, (g3 19 (by decide) (by decide)).trans rfl, ⟨js, fun fs' hf t' ht hx => ?_⟩, fun h => ?_⟩)))⟩
      · obtain ⟨g1', h1', s1', -, s3', -⟩ := h4
        have s1'' := hM.2.2.1 su 11 _ (Nat.le_trans h1 o1.1) s1' (Or.inr rfl)
        rw [hf] at s1''
        injection s1'' with s1''; injection s1'' with s1''; injection s1'' with _ s1''
        rw [s1''] at ht
        have ht : some (Value.ref tb) = some (.ref t') := ht
        injection ht with ht; injection ht with ht
        rw [← ht] at hx
        rw [hfr _ (hX _ hx)] at s3'
        cases s3'
      · show (mnV V sl ti m).2 h = _
        rw [em]
end CDK
