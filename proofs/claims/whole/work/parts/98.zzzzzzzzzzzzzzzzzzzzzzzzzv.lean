/-! weakenAll(): one question -/
/-- what stands fast while INSTANCES are lost -/
def wkH (T T0 : Nat) (f fc pp ee R : Nat → Int32) (L : List Nat) (nm : Nat → Option Nat) (φ : Nat → Nat) (Bb : Int) (lo b0 : Nat) (V σG : oSt) (Ψ : kGh) (pa ph ta th : Nat) : Prop := ((pa < b0 ∧ ph < b0 ∧ ta < b0 ∧ th < b0) ∧ b0 ≤ lo) ∧ (vJ lo V σG ∧ V.2.1 ≤ σG.2.1 ∧ ∀ a, V.2.1 ≤ a → V.1 a = none) ∧ (∀ a, Ψ.2.2.1 a → V.2.1 ≤ a) ∧ ((∀ env w, nFind fc pp ee env w = nFind f pp ee env w) ∧ ∀ ps, sPl T0 (fun j => fc j &&& 255) pp ee ps = sPl T f pp ee ps) ∧ ((∀ u, u ∈ L → nm u = some (φ u) ∧ lo ≤ φ u ∧ ∃ fs, V.1 (φ u) = some (.inr (6, fs))) ∧ (∀ u v, u ∈ L → v ∈ L → φ u = φ v → u = v) ∧ (∀ u, u ∈ L → rTo R L u) ∧ L.length < 2 ^ 31) ∧ rwI 0 σG ∧ (2 ≤ Bb ∧ 121 * Bb < 1125899906842624) ∧ ∀ u, Ψ.1 (.inl u) = φ u
theorem fQk_ix {α : Type} {p : Nat → Bool} : ∀ (k : Nat) (l : List α) (x : α), x ∈ fQk p k l ↔ ∃ i : Nat, l[i]? = some x ∧ p (k + i) = true
  | _, [], x => ⟨fun h => (by cases h), fun ⟨i, h, _⟩ => by cases h⟩
  | k, y :: l, x => by
    have I := fQk_ix (p := p) (k + 1) l x
    show x ∈ (if p k = true then y :: fQk p (k + 1) l else fQk p (k + 1) l) ↔ _
    constructor
    · intro h
      by_cases c : p k = true
      · rw [if_pos c] at h
        rcases List.mem_cons.mp h with z | z
        · exact ⟨0, by rw [z]; rfl, c⟩
        · obtain ⟨i, h1, h2⟩ := I.mp z
          exact ⟨i + 1, h1, by rw [(by omega : k + (i + 1) = k + 1 + i)]; exact h2⟩
      · rw [if_neg c] at h
        obtain ⟨i, h1, h2⟩ := I.mp h
        exact ⟨i + 1, h1, by rw [(by omega : k + (i + 1) = k + 1 + i)]; exact h2⟩
    · rintro ⟨i, h1, h2⟩
      cases i with
      | zero =>
        have h1 : some y = some x := h1
        injection h1 with h1
        have h2 : p k = true := h2
        rw [if_pos h2, h1]
        exact List.mem_cons_self ..
      | succ i =>
        have z := I.mpr ⟨i, h1, by rw [(by omega : k + 1 + i = k + (i + 1))]; exact h2⟩
        split
        · exact List.mem_cons_of_mem _ z
        · exact z
theorem fQz_lt {α : Type} (P : α → Prop) (l : List α) : (fQz P l).length < l.length ↔ ∃ x, x ∈ l ∧ ¬ P x := by
  unfold fQz
  rw [List.length_filter_lt_length_iff_exists]
  constructor
  · rintro ⟨x, h1, h2⟩
    exact ⟨x, h1, fun z => h2 (@decide_eq_true _ (Classical.propDecidable _) z)⟩
  · rintro ⟨x, h1, h2⟩
    exact ⟨x, h1, fun z => h2 (@of_decide_eq_true _ (Classical.propDecidable _) z)⟩
section WST
variable {κ : oKv} {T T0 cnt : Nat} {kk f fc pp ee R R6 : Nat → Int32} {L : List Nat} {nm : Nat → Option Nat} {φ : Nat → Nat} {Bb : Int} {B : Nat → Nat} {D : cDt} {lo : Nat} {V : oSt} {st : Nat} {l : Nat → Nat} {b0 : Nat} {Γ : uGm} {Ψ : kGh} {σG σ : oSt} {pa ph ta th : Nat} {Fc : Nat → Nat → Bool} {Sc : List sEn} {s : Option Nat} {sc : List gEn} {Es : List (gN × Nat)} {X : Nat → Prop} {ti : Nat → Nat}
/-- the conditions of a Scope, for a question -/
theorem sc_cd {rd : Int32} (W : wkH T T0 f fc pp ee R L nm φ Bb lo b0 V σG Ψ pa ph ta th) (hti : ∀ u, u ∈ L → ti (φ u) = nuO R u) (hS : scR st l b0 Γ.2.2.1 Γ.2.2.2.1 Ψ σG (nCl κ T T0 kk pp ee f fc B D V nm lo) Sc s sc Es) (hq : qSg T cnt kk pp ee f R L Γ Bb sc) (hf : wFr Ψ.2.2.1 pa ph ta th σG σ) (hX : ∀ x, X x → V.2.1 ≤ x) {σ1 : oSt} (k : jKb pa ph ta th σ σ1) (hn : ∀ a, a ∈ Es.map Prod.snd → nSl σ1 rd (slO (Es.map Prod.snd)) ((Es.map Prod.snd).length + 1) a) {m : Nat} {x : gCd} (hx : nCl κ T T0 kk pp ee f fc B D V nm lo m x) (hc : gCq T cnt kk pp ee f R L Bb ((scN sc).map Prod.fst) x) : (lo ≤ m ∧ (mnV V (slO (Es.map Prod.snd)) ti m).1 = cdA x) ∧ (∀ h, bE ((mnV V (slO (Es.map Prod.snd)) ti m).2 h) ((cdM T f pp ee R (gSl ((scN sc).map Prod.fst)) x).2.2 h)) ∧ (∀ H, cdH x < H → jMn X κ σ1 pa ph ta th rd (slO (Es.map Prod.snd)) ti ((Es.map Prod.snd).length + 1) Bb (fun m => (mnV V (slO (Es.map Prod.snd)) ti m).2) H (cdA x) m) ∧ (∀ u, x = .inr u → jNw σ1 m) ∧ (jNw V m → cdA x = 1) := by
  obtain ⟨⟨hJ, hb⟩, ⟨w1, w2, w3⟩, w4, ⟨w5, w6⟩, ⟨w7, w8, -, -⟩, -, ⟨w9, -⟩, w10⟩ := W
  have hJ' : pa < lo ∧ ph < lo ∧ ta < lo ∧ th < lo := ⟨by omega, by omega, by omega, by omega⟩
  have eS : (scN sc).map Prod.fst = Es.map Prod.fst := hS.nm Sc s sc Es
  refine cd_j ((w1.wf hf hJ' w4 w3).jb k hJ') (Nat.le_trans w2 (Nat.le_trans hf.2.2.2 k.2.2.2.2)) hJ' hX w3 w5 w6 w7 w8 hti (fun u hu => ?_) w9 x m hx hc
  have hu' := hu
  rw [eS] at hu'
  obtain ⟨p, p1, p2⟩ := List.mem_map.mp hu'
  have p3 : p.2 = φ u := by
    rw [hS.to Sc s sc Es p p1 u p2, p2]; exact w10 u
  have p4 : (Sum.inl u, φ u) ∈ Es := by
    rw [← p2, ← p3]; exact p1
  refine ⟨?_, hq.2.2.2.1 u hu, hn _ (List.mem_map.mpr ⟨_, p4, rfl⟩)⟩
  rw [slot_eq Es (by rw [← eS]; exact hq.1) (hS.nd Sc s sc Es) _ _ p4, eS]
/-- what a condition means, with no state of the Judge's -/
theorem cd_m {S : List gN} {sl : Nat → Nat} {sl' : gN → Nat} (hfc : ∀ env w, nFind fc pp ee env w = nFind f pp ee env w) (hsp : ∀ ps, sPl T0 (fun j => fc j &&& 255) pp ee ps = sPl T f pp ee ps) (hL : ∀ u, u ∈ L → nm u = some (φ u) ∧ lo ≤ φ u ∧ ∃ fs, V.1 (φ u) = some (.inr (6, fs))) (hφ : ∀ u v, u ∈ L → v ∈ L → φ u = φ v → u = v) (hti : ∀ u, u ∈ L → ti (φ u) = nuO R u) (hsl : ∀ u, Sum.inl u ∈ S → sl (φ u) = sl' (.inl u)) : ∀ (x : gCd) (m : Nat), nCl κ T T0 kk pp ee f fc B D V nm lo m x → gCq T cnt kk pp ee f R L Bb S x → (mnV V sl ti m).1 = cdA x ∧ ∀ h, bE ((mnV V sl ti m).2 h) ((cdM T f pp ee R sl' x).2.2 h)
  | .inl (t, env), m, hn, hq => by
    obtain ⟨⟨bn, nw, n, wf⟩, lo1, h1, h2⟩ := hn
    obtain ⟨q1, q2, q3, q4, q5, q6, q7⟩ := hq
    have q1 : ∀ u, u ∈ env → u ∈ L := q1
    have hnm : ∀ u, u ∈ env → nm u = some (φ u) := fun u hu => (hL u (q1 u hu)).1
    have hφ' : ∀ u v, u ∈ env → v ∈ env → φ u = φ v → u = v := fun u v hu hv => hφ u v (q1 u hu) (q1 v hv)
    have go : cGo (nR fc pp ee nm env) t := cGo_of hfc (fun u hu => (hL u hu).1) t q3 q4 q5 bn
    have k7 : kN t < 1073741824 := by
      have := kN_kD t
      have : kD t ≤ 1200 := q7
      omega
    obtain ⟨P, e1, e2⟩ := (cCt_mn (sl := sl) (ti := ti) t false _ _ _ wf go k7 h2).1 rfl
    have e3 := mnV_eq (e2 _ (Nat.lt_succ_self _))
    obtain ⟨P', f1, f2, f3⟩ := (cMl_w (sl := sl) (ti := ti) (sl' := fun u => sl' (.inl u)) (ti' := nuO R) hfc hnm hφ' hsp (fun u hu => hsl u hu) (fun u hu => hti u (q1 u hu)) t false wf go q5 nw).1 rfl
    rw [e1] at f1
    injection f1 with f1
    subst f1
    exact ⟨by rw [e3]; exact f2, fun h => by rw [e3]; exact f3 h⟩
  | .inr u, m, hn, hq => by
    obtain ⟨lo1, su, na, tb, w, env, h1, h2, ⟨ok, pl, h3⟩, h4, o1, o2, o3⟩ := hn
    obtain ⟨q1, q2⟩ := hq
    obtain ⟨l1, l2, l3⟩ := hL u q2
    have eN : sNo (nR fc pp ee nm env w) 1 [] = [(φ u, 1)] := by
      unfold nR
      rw [hfc, h2]
      show sNo (nm u) 1 [] = _
      rw [l1]
      exact sAdd_1 _
    rw [eN] at h4
    have mn : mnR V sl ti 1 m (1, fun h => cmB (sMp sl [(φ u, 1)]) ((0 : Int64).toInt) (if h = true then 2 else rNo 2)) := ⟨_, h3, Or.inr (Or.inr (Or.inr (Or.inr ⟨su, na, tb, 2, _, _, 2, rfl, rfl, by decide, rfl, h4, rfl⟩)))⟩
    have em := mnV_eq mn
    refine ⟨by rw [em]; rfl, fun h => ?_⟩
    rw [em]
    show bE (cmB [(sl (φ u), (1 : Int32).toInt)] ((0 : Int64).toInt) (if h = true then 2 else rNo 2)) (cmB [(sl' (.inl u), 1)] 0 (if h = true then 2 else 3))
    rw [hsl u q1]
    exact bE.rf _
theorem nCl.nw {m u : Nat} (h : nCl κ T T0 kk pp ee f fc B D V nm lo m (.inr u)) : jNw V m := by
  obtain ⟨lo1, su, na, tb, w, env, h1, h2, ⟨ok, pl, h3⟩, -⟩ := h
  exact ⟨_, 2, h3, rfl, rfl, by decide, by decide⟩
theorem eCl_m : ∀ (r : List (gN × gTy)), eCl Γ Bb r → ∀ x, x ∈ r → ∃ S, gAq Γ S Bb x.2
  | [], _, _, h => by cases h
  | y :: r, ⟨h1, h2⟩, x, h => by
    rcases List.mem_cons.mp h with z | z
    · rw [z]; exact ⟨_, h1⟩
    · exact eCl_m r h2 x z
set_option maxHeartbeats 1000000 in
/-- **one question of weakenAll(): what is lost is what the reading loses** -/
theorem wk_one {N Hm ca len W0 b1 ka kb j o : Nat} {cl0 fa0 : Int32} {fo : Nat → Int64} {rd : Int32} {wk : Option Nat} {ps : Int32} {P Tr : List (Nat × Bool)} {A Bt : gTy} {m : gTm} (W : wkH T T0 f fc pp ee R L nm φ Bb lo b0 V σG Ψ pa ph ta th) (hT : 100200 ≤ T) (hN : Hm + 60 ≤ N) (hS : scR st l b0 Γ.2.2.1 Γ.2.2.2.1 Ψ σG (nCl κ T T0 kk pp ee f fc B D V nm lo) Sc s sc Es) (kA : kRl st l b0 Γ.2.2.1 Γ.2.2.2.1 Ψ σG (fun y b => (y, b) ∈ Es) ka A) (kB : kRl st l b0 Γ.2.2.1 Γ.2.2.2.1 Ψ σG (fun y b => (y, b) ∈ Es) kb Bt) (hBm : Bt.1 = .inr m) (hgs : gMs (gSy A) = true ∧ gMs (gSy Bt) = true) (hne : gIn Γ.2.2.1 Γ.2.2.2.1 m.2.2.1 m.2.2.2.2 ≠ []) (hq : qSg T cnt kk pp ee f R L Γ Bb sc) (hqA : gAq Γ ((scN sc).map Prod.fst) Bb A) (hqB : gAq Γ ((scN sc).map Prod.fst) Bb Bt) (hmN : ∀ y A, (y, A) ∈ scN sc → gMs (gSy A) = true) (hAt : ((scC sc).map (fun c => cdW c.1)).sum ≤ 6) (hHm : ∀ c, c ∈ scC sc → cdH c.1 < Hm) (hR0 : R6 1500 = 0) (hR6 : ∀ y A, (y, A) ∈ scN sc → (R6 (Γ.1 y) = 0 ↔ yK (gSy A) = 2)) (hf : wFr Ψ.2.2.1 pa ph ta th σG σ) (hD : wkD st l b0 Ψ.2.2.1 σG σ Fc) (hs : ∀ w, ¬ Ψ.2.2.1 w → ∀ i, Fc w i = true) (J : jSt σ j o ca pa ph ta th len W0 b1 cl0 fa0 fo rd wk ps P Tr) (hl : len ≤ 201600) (hfr : ∀ q, σ.2.1 ≤ q → σ.1 q = none) (hs2 : σ.2.1 < T) : ∃ v σ' ca' len' W' f' fa' ps' P' Tr' Fc', oF κ T (N + 1) 67 [va_rf (some j), va_rf s, va_rf (some ka), va_rf (some kb)] σ = some (some (.int v), σ') ∧ jSt σ' j o ca' pa ph ta th len' W' 0 1 fa' f' (rd + 1) (some kb) ps' P' Tr' ∧ (∃ X, jKx X pa ph ta th σ σ' ∧ ∀ x, X x → Ψ.2.2.1 x ∧ ((∃ fs, σG.1 x = some (.inr (4, fs))) ∨ ∃ w fs i, σG.1 w = some (.inr (4, fs)) ∧ (i = 5 ∨ i = 6) ∧ fs[i]? = some (.ref x))) ∧ (gMo len len' σ σ' ∧ len' ≤ 201600) ∧ wFr Ψ.2.2.1 pa ph ta th σG σ' ∧ wkD st l b0 Ψ.2.2.1 σG σ' Fc' ∧ (∀ w, ¬ Ψ.2.2.1 w → ∀ i, Fc' w i = true) ∧ (∀ w i, w ≠ Ψ.2.1 (m.1, m.2.1) → Fc' w i = Fc w i) ∧ ((∀ w i, Fc' w i = true → Fc w i = true) ∧ ∀ w i, Fc w i = true → Fc' w i ≠ true → ∃ y, (gIn Γ.2.2.1 Γ.2.2.2.1 m.2.2.1 m.2.2.2.2)[i]? = some y ∧ qNo T f pp ee R R6 (fun kp => Fc (Ψ.2.1 kp)) Γ sc A Bt.2 y) ∧ (∀ i y, (gIn Γ.2.2.1 Γ.2.2.2.1 m.2.2.1 m.2.2.2.2)[i]? = some y → (Fc' (Ψ.2.1 (m.1, m.2.1)) i = true ↔ Fc (Ψ.2.1 (m.1, m.2.1)) i = true ∧ ¬ qNo T f pp ee R R6 (fun kp => Fc (Ψ.2.1 kp)) Γ sc A Bt.2 y)) ∧ ((v = 1 ∧ ∃ i y, (gIn Γ.2.2.1 Γ.2.2.2.1 m.2.2.1 m.2.2.2.2)[i]? = some y ∧ Fc (Ψ.2.1 (m.1, m.2.1)) i = true ∧ qNo T f pp ee R R6 (fun kp => Fc (Ψ.2.1 kp)) Γ sc A Bt.2 y) ∨ (v = 0 ∧ ∀ i y, (gIn Γ.2.2.1 Γ.2.2.2.1 m.2.2.1 m.2.2.2.2)[i]? = some y → Fc (Ψ.2.1 (m.1, m.2.1)) i = true → ¬ qNo T f pp ee R R6 (fun kp => Fc (Ψ.2.1 kp)) Γ sc A Bt.2 y)) := by
  have hJ := W.1.1
  have hblo := W.1.2
  have hWQ := W.2.2.1
  have hrw := W.2.2.2.2.2.1
  obtain ⟨hB2, hB3⟩ := W.2.2.2.2.2.2.1
  obtain ⟨w7, w8, w8', w8''⟩ := W.2.2.2.2.1
  obtain ⟨ti, ti1, ti2⟩ := ti_ex w8 w8' w8''
  obtain ⟨c1, c2, ⟨c3, c3'⟩, c4, c5⟩ := hS.cp Sc s sc Es
  have n2 := hS.nd Sc s sc Es
  obtain ⟨Dk, dk1, dk2⟩ := dk_all (Γ := Γ) (Bb := Bb) (sc := sc) (kn := knG σG) hJ hf hD hs n2 c4 (fun i y A h => by
    obtain ⟨a, a1, a2, -⟩ := c5 i y A h
    exact ⟨a, a1, a2⟩) (fun y A h => ⟨hmN y A h, eCl_m _ hq.2.2.2.2.1 (y, A) h⟩)
  obtain ⟨dA, dA1, dA2⟩ := kA.dk hJ hf hD hs hgs.1 hqA
  obtain ⟨w, ra0, sa0, G, F, h0, hG, hO, hlF, hFt, hmm⟩ := kB.dy hJ hf hD hs hgs.2
  obtain ⟨⟨ew, Qw, -⟩, hK, eF, hte⟩ := hmm m hBm
  obtain ⟨F0, hF0⟩ : ∃ F0 : List kFc, F0 = (gIn Γ.2.2.1 Γ.2.2.2.1 m.2.2.1 m.2.2.2.2).map (fun c => (c.1, kTm Ψ.1 c.2)) := ⟨_, rfl⟩
  rw [← hF0] at hK eF
  have hne0 : F0 ≠ [] := fun z => hne (List.map_eq_nil_iff.mp (hF0.symm.trans z))
  have infB := kRl.in h0 hG hO hlF hFt (ms := Es.map Prod.snd) (fun y a z => List.mem_map.mpr ⟨_, z, rfl⟩) hqB
  obtain ⟨ra, sa, hO1, hrows⟩ := hD w F0 hK
  obtain ⟨hRw, hfw⟩ := hrows hne0
  rw [← eF] at hO1
  have hX : ∀ x, (x = w ∨ x = ra ∨ x = sa) → V.2.1 ≤ x := by
    rintro x (z | z | z)
    · rw [z]; exact hWQ _ Qw
    · rw [z]; exact hWQ _ hRw.2.1.1
    · rw [z]; exact hWQ _ hRw.2.1.2
  have lnE : Es.length + 1 ≤ 60 := by
    have := hq.2.2.1
    omega
  have hcd : ∀ (i m' : Nat) (h : Bool), (tsL Sc)[i]? = some (m', h) → ∃ c, (scC sc)[i]? = some (c, h) ∧ nCl κ T T0 kk pp ee f fc B D V nm lo m' c ∧ gCq T cnt kk pp ee f R L Bb ((scN sc).map Prod.fst) c := fun i m' h e => by
    obtain ⟨c, e1, e2⟩ := c3' i m' h e
    exact ⟨c, e1, e2, hq.2.2.2.2.2.1 (c, h) (List.mem_of_getElem? e1)⟩
  have eS : (scN sc).map Prod.fst = Es.map Prod.fst := hS.nm Sc s sc Es
  have slE : ∀ y a, (y, a) ∈ Es → slO (Es.map Prod.snd) a = gSl ((scN sc).map Prod.fst) y := fun y a h => by
    rw [slot_eq Es (by rw [← eS]; exact hq.1) n2 y a h, eS]
  have hcm : ∀ (c : gCd) (m' : Nat), nCl κ T T0 kk pp ee f fc B D V nm lo m' c → gCq T cnt kk pp ee f R L Bb ((scN sc).map Prod.fst) c → (mnV V (slO (Es.map Prod.snd)) ti m').1 = cdA c ∧ ∀ h, bE ((mnV V (slO (Es.map Prod.snd)) ti m').2 h) ((cdM T f pp ee R (gSl ((scN sc).map Prod.fst)) c).2.2 h) := fun c m' h1 h2 => cd_m W.2.2.2.1.1 W.2.2.2.1.2 w7 w8 ti1 (fun u hu => by
    have hu' := hu
    rw [eS] at hu'
    obtain ⟨p, p1, p2⟩ := List.mem_map.mp hu'
    have p3 : p.2 = φ u := by
      rw [hS.to Sc s sc Es p p1 u p2, p2]; exact W.2.2.2.2.2.2.2 u
    exact slE _ _ (by rw [← p2, ← p3]; exact p1)) c m' h1 h2
  have main := c_weakz (κ := κ) (T := T) (N := N) (Hm := Hm) (lo := (b0, Ψ.2.2.1)) (bs := bsG σG) (kn := knG σG) (Sc := Sc) (s := s) (Dk := Dk) (D := dA) (G := G) (F := F) (w := w) (ra := ra) (sa := sa) (kl := ka) (kr := kb) (B := Bb) (ti := ti) (Mn := fun m => (mnV V (slO (Es.map Prod.snd)) ti m).2) (at' := atM V (slO (Es.map Prod.snd)) ti) hT hJ hB2 (by
    rw [c2, List.length_map]
    have : ((2 * (Es.length + 1) : Nat) : Int) * Bb ≤ 120 * Bb := Int.mul_le_mul_of_nonneg_right (by omega) (by omega)
    omega) hN ti2 J hl hfr (cScp.wf hf Sc s c1) (Nat.lt_of_le_of_lt (cScp.ln hfr (cScp.wf hf Sc s c1)) hs2) (by rw [c2]; exact n2) (by rw [c2, List.length_map]; exact lnE) (by rw [c2]; exact dk1) (by rw [c2]; exact dA1) hO1 hG hRw (by
    rw [c2]
    obtain ⟨_, _, _, _, _, -, -, -, -, -, z⟩ := infB
    exact z) (by
    rw [c2]
    intro σ1 k hn x hx
    obtain ⟨i, hi⟩ := List.getElem?_of_mem hx
    obtain ⟨c, e1, e2, e3⟩ := hcd i x.1 x.2 hi
    obtain ⟨⟨g1, g2⟩, g3, g4, g5, g6⟩ := sc_cd W ti1 hS hq hf hX k hn e2 e3
    exact cd_z (((W.2.1.1.wf hf ⟨by omega, by omega, by omega, by omega⟩ hWQ W.2.1.2.2).jb k ⟨by omega, by omega, by omega, by omega⟩)) g1 g2 (g4 Hm (hHm _ (List.mem_of_getElem? e1))) g6) ?_
  · rw [c2] at main
    obtain ⟨v, σ', ca', len', W', f', fa', ps', P', Tr', R1, J1, K1, g1, l1, O1, Rw1, V1⟩ := main
    have hXQ : ∀ x, (x = w ∨ x = ra ∨ x = sa) → Ψ.2.2.1 x ∧ ((∃ fs, σG.1 x = some (.inr (4, fs))) ∨ ∃ w fs i, σG.1 w = some (.inr (4, fs)) ∧ (i = 5 ∨ i = 6) ∧ fs[i]? = some (.ref x)) := by
      obtain ⟨fw, w1, w5, w6⟩ := hfw
      rintro x (z | z | z)
      · rw [z]; exact ⟨Qw, Or.inl ⟨_, w1⟩⟩
      · rw [z]; exact ⟨hRw.2.1.1, Or.inr ⟨w, fw, 5, w1, Or.inl rfl, w5⟩⟩
      · rw [z]; exact ⟨hRw.2.1.2, Or.inr ⟨w, fw, 6, w1, Or.inr rfl, w6⟩⟩
    have hX' : ∀ x y, σ.1 x = some (.inl y) → (y.1 = .int ∨ y.1 = .object "LiquidTongue$Sum") → (x = w ∨ x = ra ∨ x = sa) → Ψ.2.2.1 x := by
      rintro x y - - (z | z | z)
      · rw [z]; exact Qw
      · rw [z]; exact hRw.2.1.1
      · rw [z]; exact hRw.2.1.2
    have lim := lim_eq (al := fun kp => Fc (Ψ.2.1 kp)) (Γ := Γ) (R6 := R6) (sc := sc) (Es := Es) (Dk := Dk) hq.1 n2 c4 dk2 hR0 hR6 (some A) (lrnL (slO (Es.map Prod.snd)) 0 dA.1 dA.2.1 dA.2.2) (fun l => by
      rw [dA2.lr slE 0]
      show l ∈ _ ↔ l ∈ gLm _ _ _ _ 0 A ++ _
      rw [List.mem_append, List.mem_append]
      exact or_comm)
    have same : ∀ (i : Nat) (y : gFc), (gIn Γ.2.2.1 Γ.2.2.2.1 m.2.2.1 m.2.2.2.2)[i]? = some y → (exL ((tsL Sc).map (fun x => (mnV V (slO (Es.map Prod.snd)) ti x.1).2 x.2)) (kFe (fun L => ¬ qB (slO (Es.map Prod.snd)) G (y.1, kTm Ψ.1 y.2) L)) ((Es.map Prod.snd).flatMap (fun a => lrnL (slO (Es.map Prod.snd)) (slO (Es.map Prod.snd) a) (Dk a).1 (Dk a).2.1 (Dk a).2.2) ++ lrnL (slO (Es.map Prod.snd)) 0 dA.1 dA.2.1 dA.2.2) [] ↔ qNo T f pp ee R R6 (fun kp => Fc (Ψ.2.1 kp)) Γ sc A Bt.2 y) := fun i y hy => by
      unfold qNo
      refine ask_eq (Mn := fun m => (mnV V (slO (Es.map Prod.snd)) ti m).2) c3 (fun i m' h e => ?_) (fun L => not_congr (qB_eq (hte y (List.mem_of_getElem? hy)) slE L)) (fun L L' e => gQB_i L L' e) lim
      obtain ⟨c, e1, e2, e3⟩ := hcd i m' h e
      exact ⟨c, e1, (hcm c m' e2 e3).2 h⟩
    refine ⟨v, σ', ca', len', W', f', fa', ps', P', Tr', fun x i => if x = w then @decide (Fc w i = true ∧ ∀ y, (gIn Γ.2.2.1 Γ.2.2.2.1 m.2.2.1 m.2.2.2.2)[i]? = some y → ¬ qNo T f pp ee R R6 (fun kp => Fc (Ψ.2.1 kp)) Γ sc A Bt.2 y) (Classical.propDecidable _) else Fc x i, R1, J1, ⟨_, K1, hXQ⟩, ⟨g1, l1⟩, hf.kx K1 hX', ?_, fun x hx i => ?_, fun x i hx => ?_, ⟨fun x i hx => ?_, fun x i hx hx' => ?_⟩, fun i y hy => ?_, ?_⟩
    · refine hD.go hJ hf hrw K1 hK hne0 hRw Rw1 hfw (fun F' hF' => ?_)
      rw [hF'.uq hK]
      rw [eF, fQz_k _ (Fc w) (fun i => @decide (Fc w i = true ∧ ∀ y, (gIn Γ.2.2.1 Γ.2.2.2.1 m.2.2.1 m.2.2.2.2)[i]? = some y → ¬ qNo T f pp ee R R6 (fun kp => Fc (Ψ.2.1 kp)) Γ sc A Bt.2 y) (Classical.propDecidable _)) 0 F0 (fun i x hx => ?_)] at O1
      · exact O1
      · rw [Nat.zero_add]
        rw [hF0, List.getElem?_map] at hx
        cases e : (gIn Γ.2.2.1 Γ.2.2.2.1 m.2.2.1 m.2.2.2.2)[i]? with
        | none => rw [e] at hx; cases hx
        | some y =>
          rw [e] at hx
          have hx : some (y.1, kTm Ψ.1 y.2) = some x := hx
          injection hx with hx
          rw [← hx]
          constructor
          · intro z
            obtain ⟨z1, z2⟩ := @of_decide_eq_true _ (Classical.propDecidable _) z
            exact ⟨z1, fun q => z2 y rfl ((same i y e).mp q)⟩
          · rintro ⟨z1, z2⟩
            refine @decide_eq_true _ (Classical.propDecidable _) ⟨z1, fun y' hy' q => z2 ((same i y e).mpr ?_)⟩
            injection hy' with hy'
            rw [hy']; exact q
    · show (if x = w then _ else _) = true
      rw [if_neg (fun z => hx (by rw [z]; exact Qw))]
      exact hs x hx i
    · show (if x = w then _ else _) = _
      rw [if_neg (by rw [ew]; exact hx)]
    · by_cases z : x = w
      · have hx : (if x = w then _ else _) = true := hx
        rw [if_pos z] at hx
        rw [z]
        exact (@of_decide_eq_true _ (Classical.propDecidable _) hx).1
      · have hx : (if x = w then _ else _) = true := hx
        rw [if_neg z] at hx
        exact hx
    · by_cases z : x = w
      · have hx' : (if x = w then _ else _) ≠ true := hx'
        rw [if_pos z] at hx'
        refine Classical.byContradiction (fun q => hx' (@decide_eq_true _ (Classical.propDecidable _) ⟨by rw [← z]; exact hx, fun y hy n => q ⟨y, hy, n⟩⟩))
      · have hx' : (if x = w then _ else _) ≠ true := hx'
        rw [if_neg z] at hx'
        exact absurd hx hx'
    · show (if Ψ.2.1 (m.1, m.2.1) = w then _ else _) = true ↔ _
      rw [if_pos ew.symm, ← ew]
      constructor
      · intro z
        obtain ⟨z1, z2⟩ := @of_decide_eq_true _ (Classical.propDecidable _) z
        exact ⟨z1, z2 y hy⟩
      · rintro ⟨z1, z2⟩
        refine @decide_eq_true _ (Classical.propDecidable _) ⟨z1, fun y' hy' => ?_⟩
        rw [hy] at hy'
        injection hy' with hy'
        rw [← hy']; exact z2
    · rw [← ew]
      by_cases c : (fQz (fun x => ¬ exL ((tsL Sc).map (fun x => (mnV V (slO (Es.map Prod.snd)) ti x.1).2 x.2)) (kFe (fun L => ¬ qB (slO (Es.map Prod.snd)) G x L)) ((Es.map Prod.snd).flatMap (fun a => lrnL (slO (Es.map Prod.snd)) (slO (Es.map Prod.snd) a) (Dk a).1 (Dk a).2.1 (Dk a).2.2) ++ lrnL (slO (Es.map Prod.snd)) 0 dA.1 dA.2.1 dA.2.2) []) F).length < F.length
      · rw [if_pos c] at V1
        refine Or.inl ⟨V1, ?_⟩
        obtain ⟨x, x1, x2⟩ := (fQz_lt _ _).mp c
        rw [eF] at x1
        obtain ⟨i, i1, i2⟩ := (fQk_ix 0 F0 x).mp x1
        rw [Nat.zero_add] at i2
        rw [hF0, List.getElem?_map] at i1
        cases e : (gIn Γ.2.2.1 Γ.2.2.2.1 m.2.2.1 m.2.2.2.2)[i]? with
        | none => rw [e] at i1; cases i1
        | some y =>
          rw [e] at i1
          have i1 : some (y.1, kTm Ψ.1 y.2) = some x := i1
          injection i1 with i1
          rw [← i1] at x2
          exact ⟨i, y, e, i2, (same i y e).mp (Classical.not_not.mp x2)⟩
      · rw [if_neg c] at V1
        refine Or.inr ⟨V1, fun i y hy hi q => c ((fQz_lt _ _).mpr ⟨(y.1, kTm Ψ.1 y.2), ?_, fun z => z ((same i y hy).mpr q)⟩)⟩
        rw [eF]
        refine (fQk_ix 0 F0 _).mpr ⟨i, ?_, by rw [Nat.zero_add]; exact hi⟩
        rw [hF0, List.getElem?_map, hy]; rfl
  · refine Nat.le_trans (sum_le (fun x : Nat × Bool => atM V (slO (Es.map Prod.snd)) ti x.1) (fun c : gCd × Bool => cdW c.1) _ _ c3 (fun i x y hx hy => ?_)) hAt
    obtain ⟨c, e1, e2, e3⟩ := hcd i x.1 x.2 hx
    rw [hy] at e1
    injection e1 with e1
    rw [e1]
    exact at_le (hcm c x.1 e2 e3).1 (fun u z => by
      have z : c = .inr u := z
      rw [z] at e2
      exact e2.nw)
end WST
