/-! findDoubt(): one question -/
/-- nodes that are tests of match -/
def mtN (V : oSt) (m : Nat) : Prop := ∃ su pl cd, V.1 m = some (.inr (7, cEf pl cd 300 (.ref su)))
section FDA
variable {κ : oKv} {T T0 cnt : Nat} {kk f fc pp ee R R6 : Nat → Int32} {L : List Nat} {nm : Nat → Option Nat} {φ : Nat → Nat} {Bb : Int} {B : Nat → Nat} {D : cDt} {lo : Nat} {V : oSt} {st : Nat} {l : Nat → Nat} {b0 : Nat} {Γ : uGm} {Ψ : kGh} {σG σ : oSt} {pa ph ta th : Nat} {Fc : Nat → Nat → Bool} {Sc : List sEn} {s : Option Nat} {sc : List gEn} {Es : List (gN × Nat)} {ti : Nat → Nat}
theorem nCl.mt {m u : Nat} (h : nCl κ T T0 kk pp ee f fc B D V nm lo m (.inr u)) : mtN V m := by
  obtain ⟨lo1, su, na, tb, w, env, h1, h2, ⟨ok, pl, h3⟩, -⟩ := h
  exact ⟨su, pl, _, h3⟩
set_option maxHeartbeats 1000000 in
/-- **a question whether a node holds** -/
theorem fd_ask {N Hm ca len W0 b1 j o nd a : Nat} {cl0 fa0 : Int32} {fo : Nat → Int64} {rd : Int32} {wk : Option Nat} {ps : Int32} {P Tr : List (Nat × Bool)} {BR : List oBr} (W : wkH T T0 f fc pp ee R L nm φ Bb lo b0 V σG Ψ pa ph ta th) (ti1 : ∀ u, u ∈ L → ti (φ u) = nuO R u) (ti2 : ∀ x y, ti x = ti y → x = y) (hT : 100200 ≤ T) (hN : Hm + 60 ≤ N) (hS : scR st l b0 Γ.2.2.1 Γ.2.2.2.1 Ψ σG (nCl κ T T0 kk pp ee f fc B D V nm lo) Sc s sc Es) (hq : qSg T cnt kk pp ee f R L Γ Bb sc) (hmN : ∀ y A, (y, A) ∈ scN sc → gMs (gSy A) = true) (hAt : ((scC sc).map (fun c => cdW c.1)).sum + a ≤ 12) (h13 : (scN sc).length + 1 ≤ 13) (hHm : ∀ c, c ∈ scC sc → cdH c.1 < Hm) (hR0 : R6 1500 = 0) (hR6 : ∀ y A, (y, A) ∈ scN sc → (R6 (Γ.1 y) = 0 ↔ yK (gSy A) = 2)) (hf : wFr Ψ.2.2.1 pa ph ta th σG σ) (hD : wkD st l b0 Ψ.2.2.1 σG σ Fc) (hs : ∀ w, ¬ Ψ.2.2.1 w → ∀ i, Fc w i = true) (J : jSt σ j o ca pa ph ta th len W0 b1 cl0 fa0 fo rd wk ps P Tr) (hl : len ≤ 201600) (hfr : ∀ q, σ.2.1 ≤ q → σ.1 q = none) (hs2 : σ.2.1 < T) (hNd : ∀ σ1, jKb pa ph ta th σ σ1 → (∀ a, a ∈ Es.map Prod.snd → nSl σ1 (rd + 1) (slO (Es.map Prod.snd)) ((Es.map Prod.snd).length + 1) a) → jMn (fun _ => False) κ σ1 pa ph ta th (rd + 1) (slO (Es.map Prod.snd)) ti ((Es.map Prod.snd).length + 1) Bb (fun m => (mnV V (slO (Es.map Prod.snd)) ti m).2) Hm a nd) (hbe : bE ((mnV V (slO (Es.map Prod.snd)) ti nd).2 false) BR) (ha : (mnV V (slO (Es.map Prod.snd)) ti nd).1 = a) (hmt : ¬ mtN V nd) (hF : ∀ σ0, jKp pa ph ta th σ σ0 → oF κ T N 39 [va_rf (some nd)] σ0 = some (some (.int 1), σ0)) : ∃ v σ' ca' len' W' f' fa' ps' P' Tr', oF κ T (N + 1) 64 [va_rf (some j), va_rf s, va_rf (some nd)] σ = some (some (.int v), σ') ∧ jSt σ' j o ca' pa ph ta th len' W' 0 1 fa' f' (rd + 1) none ps' P' Tr' ∧ jKx (fun _ => False) pa ph ta th σ σ' ∧ (gMo len len' σ σ' ∧ len' ≤ 201600) ∧ ((v = 1 ∧ ¬ exB BR (exL (qWy T f pp ee R sc) (kFe (fun _ => True))) (qLm (fun kp => Fc (Ψ.2.1 kp)) Γ R6 sc none) []) ∨ (v = 0 ∧ exB BR (exL (qWy T f pp ee R sc) (kFe (fun _ => True))) (qLm (fun kp => Fc (Ψ.2.1 kp)) Γ R6 sc none) [])) := by
  have hJ := W.1.1
  have hblo := W.1.2
  have hWQ := W.2.2.1
  obtain ⟨hB2, hB3⟩ := W.2.2.2.2.2.2.1
  obtain ⟨w7, w8, w8', w8''⟩ := W.2.2.2.2.1
  obtain ⟨c1, c2, ⟨c3, c3'⟩, c4, c5⟩ := hS.cp Sc s sc Es
  have n2 := hS.nd Sc s sc Es
  obtain ⟨Dk, dk1, dk2⟩ := dk_all (Γ := Γ) (Bb := Bb) (sc := sc) (kn := knG σG) hJ hf hD hs n2 c4 (fun i y A h => by
    obtain ⟨a, a1, a2, -⟩ := c5 i y A h
    exact ⟨a, a1, a2⟩) (fun y A h => ⟨hmN y A h, eCl_m _ hq.2.2.2.2.1 (y, A) h⟩)
  have lnE : Es.length + 1 ≤ 60 := by
    have := hq.2.2.1
    omega
  have hcd : ∀ (i m' : Nat) (h : Bool), (tsL Sc)[i]? = some (m', h) → ∃ c, (scC sc)[i]? = some (c, h) ∧ nCl κ T T0 kk pp ee f fc B D V nm lo m' c ∧ gCq T cnt kk pp ee f R L Bb ((scN sc).map Prod.fst) c := fun i m' h e => by
    obtain ⟨c, e1, e2⟩ := c3' i m' h e
    exact ⟨c, e1, e2, hq.2.2.2.2.2.1 (c, h) (List.mem_of_getElem? e1)⟩
  have eS : (scN sc).map Prod.fst = Es.map Prod.fst := hS.nm Sc s sc Es
  have slE : ∀ y a, (y, a) ∈ Es → slO (Es.map Prod.snd) a = gSl ((scN sc).map Prod.fst) y := fun y a h => by
    rw [slot_eq Es (by rw [← eS]; exact hq.1) n2 y a h, eS]
  have hcm : ∀ (c : gCd) (m' : Nat), nCl κ T T0 kk pp ee f fc B D V nm lo m' c → gCq T cnt kk pp ee f R L Bb ((scN sc).map Prod.fst) c → (mnV V (slO (Es.map Prod.snd)) ti m').1 = cdA c ∧ ∀ h, bE ((mnV V (slO (Es.map Prod.snd)) ti m').2 h) ((cdM T f pp ee R (gSl ((scN sc).map Prod.fst)) c).2.2 h) := fun c m' h1 h2 => cd_m W.2.2.2.1.1 W.2.2.2.1.2 w7 w8 ti1 (fun u hu => by
    have hu' := hu
    rw [eS] at hu'
    obtain ⟨p, p1, p2⟩ := List.mem_map.mp hu'
    have p3 : p.2 = φ u := by
      rw [hS.to Sc s sc Es p p1 u p2, p2]; exact W.2.2.2.2.2.2.2 u
    exact slE _ _ (by rw [← p2, ← p3]; exact p1)) c m' h1 h2
  have main := c_surez (κ := κ) (T := T) (X := fun _ => False) (N := N) (Hm := Hm) (lo := (b0, Ψ.2.2.1)) (bs := bsG σG) (kn := knG σG) (Sc := Sc) (s := s) (Dk := Dk) (m := nd) (B := Bb) (ti := ti) (Mn := fun m => (mnV V (slO (Es.map Prod.snd)) ti m).2) (at' := fun y => if y = nd then a else atM V (slO (Es.map Prod.snd)) ti y) hT hJ hB2 (by
    rw [c2, List.length_map]
    have : ((2 * (Es.length + 1) : Nat) : Int) * Bb ≤ 120 * Bb := Int.mul_le_mul_of_nonneg_right (by omega) (by omega)
    omega) hN ti2 J hl hfr (cScp.wf hf Sc s c1) (Nat.lt_of_le_of_lt (cScp.ln hfr (cScp.wf hf Sc s c1)) hs2) (by rw [c2]; exact n2) (by rw [c2, List.length_map]; omega) (by rw [c2]; exact dk1) (by
    rw [c2]
    intro σ1 k hn
    refine ⟨fun x hx => ?_, ?_⟩
    · show jMz _ _ _ _ _ _ _ _ _ _ _ _ _ _ (if x.1 = nd then a else _) x.1
      by_cases z : x.1 = nd
      · rw [if_pos z, z]
        exact Or.inl (hNd σ1 k hn)
      · rw [if_neg z]
        obtain ⟨i, hi⟩ := List.getElem?_of_mem hx
        obtain ⟨c, e1, e2, e3⟩ := hcd i x.1 x.2 hi
        obtain ⟨⟨g1, g2⟩, g3, g4, g5, g6⟩ := sc_cd (X := fun _ => False) W ti1 hS hq hf (fun x z => z.elim) k hn e2 e3
        exact cd_z (((W.2.1.1.wf hf ⟨by omega, by omega, by omega, by omega⟩ hWQ W.2.1.2.2).jb k ⟨by omega, by omega, by omega, by omega⟩)) g1 g2 (g4 Hm (hHm _ (List.mem_of_getElem? e1))) g6
    · show jMn _ _ _ _ _ _ _ _ _ _ _ _ _ _ (if nd = nd then a else _) nd
      rw [if_pos rfl]
      exact hNd σ1 k hn) (by
    show _ + (if nd = nd then a else _) ≤ 12
    rw [if_pos rfl]
    refine Nat.le_trans (Nat.add_le_add_right (sum_le (fun x : Nat × Bool => if x.1 = nd then a else atM V (slO (Es.map Prod.snd)) ti x.1) (fun c : gCd × Bool => cdW c.1) _ _ c3 (fun i x y hx hy => ?_)) _) hAt
    obtain ⟨c, e1, e2, e3⟩ := hcd i x.1 x.2 hx
    rw [hy] at e1
    injection e1 with e1
    rw [e1]
    show (if x.1 = nd then a else _) ≤ cdW c
    by_cases z : x.1 = nd
    · rw [if_pos z]
      cases c with
      | inr u => exact absurd (by rw [← z]; exact e2.mt) hmt
      | inl t =>
        have := (hcm _ x.1 e2 e3).1
        rw [z, ha] at this
        rw [this]; exact Nat.le_refl _
    · rw [if_neg z]
      exact at_le (hcm c x.1 e2 e3).1 (fun u z => by
        have z : c = .inr u := z
        rw [z] at e2
        exact e2.nw)) hF
  rw [c2] at main
  obtain ⟨v, σ', ca', len', W', f', fa', ps', P', Tr', R1, J1, K1, g1, l1, V1⟩ := main
  have lim := lim_eq (al := fun kp => Fc (Ψ.2.1 kp)) (Γ := Γ) (R6 := R6) (sc := sc) (Es := Es) (Dk := Dk) hq.1 n2 c4 dk2 hR0 hR6 none [] (fun l => Iff.rfl)
  have hI : kInv (kFe (fun _ => True)) := kFe.inv (fun _ _ _ _ => trivial)
  have same : exL ((tsL Sc).map (fun x => (mnV V (slO (Es.map Prod.snd)) ti x.1).2 x.2) ++ [(mnV V (slO (Es.map Prod.snd)) ti nd).2 false]) (kFe (fun _ => ¬ False)) ((Es.map Prod.snd).flatMap (fun a => lrnL (slO (Es.map Prod.snd)) (slO (Es.map Prod.snd) a) (Dk a).1 (Dk a).2.1 (Dk a).2.2)) [] ↔ exB BR (exL (qWy T f pp ee R sc) (kFe (fun _ => True))) (qLm (fun kp => Fc (Ψ.2.1 kp)) Γ R6 sc none) [] := by
    have e0 : (fun _ : List oLm => ¬ False) = fun _ => True := funext fun _ => propext ⟨fun _ => trivial, fun _ z => z⟩
    rw [e0, exL.app]
    show exL _ (exB _ (kFe (fun _ => True))) _ [] ↔ _
    rw [exL.pull hI, hbe _ (exL.inv hI _), exB.cg (K' := exL (qWy T f pp ee R sc) (kFe (fun _ => True))) (fun L ts => ?_)]
    · refine (exB.inv (exL.inv hI _)).iff (xC.cg (fun l => ?_)) (fun _ => Iff.rfl)
      have := lim l
      rw [List.append_nil] at this
      exact this
    · refine bE.exl hI (by unfold qWy; rw [List.length_map, List.length_map, c3]) (fun i A C hA hC => ?_) L ts
      rw [List.getElem?_map] at hA
      unfold qWy at hC
      rw [List.getElem?_map] at hC
      cases e : (tsL Sc)[i]? with
      | none => rw [e] at hA; cases hA
      | some p =>
        obtain ⟨c, e1, e2, e3⟩ := hcd i p.1 p.2 e
        rw [e] at hA
        rw [e1] at hC
        have hA : some ((mnV V (slO (Es.map Prod.snd)) ti p.1).2 p.2) = some A := hA
        have hC : some ((cdM T f pp ee R (gSl ((scN sc).map Prod.fst)) c).2.2 p.2) = some C := hC
        injection hA with hA
        injection hC with hC
        rw [← hA, ← hC]
        exact (hcm c p.1 e2 e3).2 p.2
  refine ⟨v, σ', ca', len', W', f', fa', ps', P', Tr', R1, J1, K1, ⟨g1, l1⟩, ?_⟩
  rcases V1 with ⟨v1, v2⟩ | ⟨v1, v2⟩
  · exact Or.inl ⟨v1, fun z => v2 (same.mpr z)⟩
  · exact Or.inr ⟨v1, same.mp v2⟩
/-- a question about a node that is no FACT: it is not sure -/
theorem fd_askU {N Hm ca len W0 b1 j o nd : Nat} {cl0 fa0 : Int32} {fo : Nat → Int64} {rd : Int32} {wk : Option Nat} {ps : Int32} {P Tr : List (Nat × Bool)} (W : wkH T T0 f fc pp ee R L nm φ Bb lo b0 V σG Ψ pa ph ta th) (ti1 : ∀ u, u ∈ L → ti (φ u) = nuO R u) (hT : 100200 ≤ T) (hN : Hm + 60 ≤ N) (hS : scR st l b0 Γ.2.2.1 Γ.2.2.2.1 Ψ σG (nCl κ T T0 kk pp ee f fc B D V nm lo) Sc s sc Es) (hq : qSg T cnt kk pp ee f R L Γ Bb sc) (hmN : ∀ y A, (y, A) ∈ scN sc → gMs (gSy A) = true) (hAt : ((scC sc).map (fun c => cdW c.1)).sum ≤ 20) (hHm : ∀ c, c ∈ scC sc → cdH c.1 < Hm) (hf : wFr Ψ.2.2.1 pa ph ta th σG σ) (hD : wkD st l b0 Ψ.2.2.1 σG σ Fc) (hs : ∀ w, ¬ Ψ.2.2.1 w → ∀ i, Fc w i = true) (J : jSt σ j o ca pa ph ta th len W0 b1 cl0 fa0 fo rd wk ps P Tr) (hl : len ≤ 201600) (hfr : ∀ q, σ.2.1 ≤ q → σ.1 q = none) (hs2 : σ.2.1 < T) (hU : suU κ σ b0 nd) (hF : ∀ σ0, jKp pa ph ta th σ σ0 → oF κ T N 39 [va_rf (some nd)] σ0 = some (some (.int 0), σ0)) : ∃ σ' ca' len' W' f' fa' ps' P' Tr', oF κ T (N + 1) 64 [va_rf (some j), va_rf s, va_rf (some nd)] σ = some (some (.int 0), σ') ∧ jSt σ' j o ca' pa ph ta th len' W' 0 1 fa' f' (rd + 1) none ps' P' Tr' ∧ jKx (fun _ => False) pa ph ta th σ σ' ∧ (gMo len len' σ σ' ∧ len' ≤ 201600) := by
  have hJ := W.1.1
  have hblo := W.1.2
  have hWQ := W.2.2.1
  obtain ⟨hB2, hB3⟩ := W.2.2.2.2.2.2.1
  obtain ⟨w7, w8, w8', w8''⟩ := W.2.2.2.2.1
  obtain ⟨c1, c2, ⟨c3, c3'⟩, c4, c5⟩ := hS.cp Sc s sc Es
  have n2 := hS.nd Sc s sc Es
  obtain ⟨Dk, dk1, dk2⟩ := dk_all (Γ := Γ) (Bb := Bb) (sc := sc) (kn := knG σG) hJ hf hD hs n2 c4 (fun i y A h => by
    obtain ⟨a, a1, a2, -⟩ := c5 i y A h
    exact ⟨a, a1, a2⟩) (fun y A h => ⟨hmN y A h, eCl_m _ hq.2.2.2.2.1 (y, A) h⟩)
  have lnE : Es.length + 1 ≤ 60 := by
    have := hq.2.2.1
    omega
  have hcd : ∀ (i m' : Nat) (h : Bool), (tsL Sc)[i]? = some (m', h) → ∃ c, (scC sc)[i]? = some (c, h) ∧ nCl κ T T0 kk pp ee f fc B D V nm lo m' c ∧ gCq T cnt kk pp ee f R L Bb ((scN sc).map Prod.fst) c := fun i m' h e => by
    obtain ⟨c, e1, e2⟩ := c3' i m' h e
    exact ⟨c, e1, e2, hq.2.2.2.2.2.1 (c, h) (List.mem_of_getElem? e1)⟩
  have eS : (scN sc).map Prod.fst = Es.map Prod.fst := hS.nm Sc s sc Es
  have slE : ∀ y a, (y, a) ∈ Es → slO (Es.map Prod.snd) a = gSl ((scN sc).map Prod.fst) y := fun y a h => by
    rw [slot_eq Es (by rw [← eS]; exact hq.1) n2 y a h, eS]
  have hcm : ∀ (c : gCd) (m' : Nat), nCl κ T T0 kk pp ee f fc B D V nm lo m' c → gCq T cnt kk pp ee f R L Bb ((scN sc).map Prod.fst) c → (mnV V (slO (Es.map Prod.snd)) ti m').1 = cdA c ∧ ∀ h, bE ((mnV V (slO (Es.map Prod.snd)) ti m').2 h) ((cdM T f pp ee R (gSl ((scN sc).map Prod.fst)) c).2.2 h) := fun c m' h1 h2 => cd_m W.2.2.2.1.1 W.2.2.2.1.2 w7 w8 ti1 (fun u hu => by
    have hu' := hu
    rw [eS] at hu'
    obtain ⟨p, p1, p2⟩ := List.mem_map.mp hu'
    have p3 : p.2 = φ u := by
      rw [hS.to Sc s sc Es p p1 u p2, p2]; exact W.2.2.2.2.2.2.2 u
    exact slE _ _ (by rw [← p2, ← p3]; exact p1)) c m' h1 h2
  have main := c_surezU (κ := κ) (T := T) (X := fun _ => False) (N := N) (Hm := Hm) (lo := (b0, Ψ.2.2.1)) (bs := bsG σG) (kn := knG σG) (Sc := Sc) (s := s) (Dk := Dk) (m := nd) (B := Bb) (ti := ti) (Mn := fun m => (mnV V (slO (Es.map Prod.snd)) ti m).2) (at' := atM V (slO (Es.map Prod.snd)) ti) hT hJ hB2 (by
    rw [c2, List.length_map]
    have : ((2 * (Es.length + 1) : Nat) : Int) * Bb ≤ 120 * Bb := Int.mul_le_mul_of_nonneg_right (by omega) (by omega)
    omega) hN J hl hfr (cScp.wf hf Sc s c1) (Nat.lt_of_le_of_lt (cScp.ln hfr (cScp.wf hf Sc s c1)) hs2) (by rw [c2]; exact n2) (by rw [c2, List.length_map]; exact lnE) (by rw [c2]; exact dk1) (by
    rw [c2]
    intro σ1 k hn x hx
    obtain ⟨i, hi⟩ := List.getElem?_of_mem hx
    obtain ⟨c, e1, e2, e3⟩ := hcd i x.1 x.2 hi
    obtain ⟨⟨g1, g2⟩, g3, g4, g5, g6⟩ := sc_cd (X := fun _ => False) W ti1 hS hq hf (fun x z => z.elim) k hn e2 e3
    exact cd_z (((W.2.1.1.wf hf ⟨by omega, by omega, by omega, by omega⟩ hWQ W.2.1.2.2).jb k ⟨by omega, by omega, by omega, by omega⟩)) g1 g2 (g4 Hm (hHm _ (List.mem_of_getElem? e1))) g6) (by
    refine Nat.le_trans (sum_le (fun x : Nat × Bool => atM V (slO (Es.map Prod.snd)) ti x.1) (fun c : gCd × Bool => cdW c.1) _ _ c3 (fun i x y hx hy => ?_)) hAt
    obtain ⟨c, e1, e2, e3⟩ := hcd i x.1 x.2 hx
    rw [hy] at e1
    injection e1 with e1
    rw [e1]
    exact at_le (hcm c x.1 e2 e3).1 (fun u z => by
      have z : c = .inr u := z
      rw [z] at e2
      exact e2.nw)) hU hF
  obtain ⟨σ', ca', len', W', f', fa', ps', P', Tr', R1, J1, K1, g1, l1⟩ := main
  exact ⟨σ', ca', len', W', f', fa', ps', P', Tr', R1, J1, K1, g1, l1⟩
end FDA
