/-! run(), the class: what the Machine reads of the PROGRAM -/
/-- how deep holds() goes -/
theorem hDp_k {cnt : Nat} : ∀ (t : tT) (l : Bool), cWf cnt t l → cBn t → (l = true → hDp t ≤ kN t + kH t) ∧ hDp t ≤ kN t + kH t + 1
  | .leaf, _, _, _ => ⟨fun _ => Nat.zero_le _, Nat.zero_le _⟩
  | .inner g d z a b, l, w, c => by
    obtain ⟨c1, c2, c3⟩ := c
    rcases w with ⟨e1, e2, wa, wb⟩ | ⟨e1, w⟩
    · obtain ⟨-, ha⟩ := hDp_k a false wa c2
      have hb := (hDp_k b true wb c3).1 rfl
      subst e2
      have e3 : hDp (.inner 30 d z a b) = max (hDp a) (hDp b) := rfl
      have e4 : kN (.inner 30 d z a b) = kN a + kN b + 1 := rfl
      have e5 : kH (.inner 30 d z a b) = max (kH a) (kH b) + 0 := rfl
      rw [e3, e4, e5]
      exact ⟨fun _ => by omega, by omega⟩
    · refine ⟨fun z => (by rw [e1] at z; cases z), ?_⟩
      rcases w with ⟨e2, wa, wb⟩ | ⟨e2, wa, wb⟩ | ⟨e2, -, -⟩ | ⟨e2, -⟩ | ⟨e2, -⟩
      · obtain ⟨-, ha⟩ := hDp_k a false wa c2
        have hb := (hDp_k b true wb c3).1 rfl
        have nb := c1 e2
        have kb : 1 ≤ kN b := by
          cases b with
          | leaf => exact absurd rfl nb
          | inner g' d' z' a' b' =>
            rcases wb with ⟨-, e, -⟩ | ⟨e, -⟩
            · subst e
              show 1 ≤ kN a' + kN b' + 1
              omega
            · cases e
        have e4 : kN (.inner g d z a b) = kN a + kN b + 0 := by rcases e2 with rfl | rfl <;> rfl
        have e5 : kH (.inner g d z a b) = max (kH a) (kH b) + 0 := by rcases e2 with rfl | rfl <;> rfl
        have e3 : hDp (.inner g d z a b) = max (hDp a) (hDp b) + 1 := by rcases e2 with rfl | rfl <;> rfl
        rw [e3, e4, e5]
        omega
      · obtain ⟨-, ha⟩ := hDp_k a false wa c2
        subst e2 wb
        have e3 : hDp (.inner 22 d z a .leaf) = max (hDp a) 0 + 1 := rfl
        have e4 : kN (.inner 22 d z a .leaf) = kN a + 0 + 0 := rfl
        have e5 : kH (.inner 22 d z a .leaf) = max (kH a) 0 + 1 := rfl
        rw [e3, e4, e5]
        omega
      · subst e2
        exact Nat.le_add_left 1 _
      · subst e2
        exact Nat.le_add_left 1 _
      · subst e2
        exact Nat.le_add_left 1 _
section HPG
variable (T : Nat) (pp ee f fc : Nat → Int32) (tN : Nat → tY) (L : List Nat) (V : oSt) (nm : Nat → Option Nat) (p : Nat) (W : Nat → Prop) (ma ha0 : Nat) (σ0 : oSt)
/-- what stands fast: the PROGRAM as it was read (V), and as it is where go() begins (σ0) -/
def hPo : Prop := vL p V σ0 ∧ (∀ u, u ∈ L → ∃ b fs gs, nm u = some b ∧ p ≤ b ∧ V.1 b = some (.inr (6, fs)) ∧ σ0.1 b = some (.inr (6, gs)) ∧ gs[3]? = some (.int (cKd (yK (tN u))))) ∧ ((∀ env w, nFind fc pp ee env w = nFind f pp ee env w) ∧ ∀ ps, sPl T (fun j => fc j &&& 255) pp ee ps = sPl T f pp ee ps) ∧ ((∀ q, σ0.2.1 ≤ q → σ0.1 q = none) ∧ (∃ fm, σ0.1 ma = some (.inr (5, fm))) ∧ (∃ k g, σ0.1 ha0 = some (.inl (.long, k, g))) ∧ ma < σ0.2.1) ∧ ∀ x, W x → x < p
/-- NAMES that count: their objects know their places and types -/
def hEv (env : List Nat) : Prop := ∀ (k u : Nat), env[k]? = some u → ∃ b gs, nm u = some b ∧ p ≤ b ∧ σ0.1 b = some (.inr (6, gs)) ∧ gs[1]? = some (.int (nI k)) ∧ gs[3]? = some (.int (cKd (yK (tN u))))
end HPG
/-- numbers of S's are NUMBERS; an or, an and is of two or more -/
def hTw (T : Nat) (f pp ee : Nat → Int32) : tT → Prop
  | .leaf => True
  | .inner g d _ a b => (sNw T f pp ee d.2.2.2.1.2 ∧ sNw T f pp ee d.2.2.2.2.2) ∧ (if g = 4 ∨ g = 5 then cNw T f pp ee a ∧ cBn a else hTw T f pp ee a) ∧ hTw T f pp ee b
theorem hKc_of {tE tN : Nat → tY} {h : xmHp} {y : tY} {v : xmV} (w : xmT tE tN h y v) : hKc v (cKd (yK y)) := by
  rcases w with ⟨a, b, -⟩ | ⟨a, b⟩ | ⟨a, b, -⟩ | ⟨a, b, -⟩ | ⟨a, b, -⟩
  all_goals (rw [a]; unfold hKc; rw [b]; decide)
section HPH
variable {κ : oKv} {T cnt : Nat} {kk pp ee f fc : Nat → Int32} {tE tN : Nat → tY} {R : Nat → Int32} {L : List Nat} {V : oSt} {nm : Nat → Option Nat} {p : Nat} {W : Nat → Prop} {ma ha0 : Nat} {σ0 σ : oSt} {ha : Nat} {B : Nat → Nat} {D : cDt} {lo1 : Nat} {env : List Nat} {vs : List xmV} {h : xmHp} {ps : List tP}
theorem hPo.at (P : hPo T pp ee f fc tN L V nm p W ma ha0 σ0) (K : hKe W ma ha0 σ0 σ ha) {x : Nat} {c : oC} (hp : p ≤ x) (hx : σ0.1 x = some c) (n1 : ∀ fs, c ≠ .inr (5, fs)) (n2 : ∀ n g, c ≠ .inl (.long, n, g)) : σ.1 x = some c := K.at P.2.2.2.1.1 P.2.2.2.1.2.1 P.2.2.2.1.2.2.1 hx n1 n2 (fun w => by have := P.2.2.2.2 x w; omega)
/-- a node -/
theorem hPo.nd (P : hPo T pp ee f fc tN L V nm p W ma ha0 σ0) (K : hKe W ma ha0 σ0 σ ha) {x : Nat} {fs : List Value} (hp : p ≤ x) (e : V.1 x = some (.inr (7, fs))) : ∃ gs, σ.1 x = some (.inr (7, gs)) ∧ ∀ k, k ≠ 8 → k ≠ 20 → gs[k]? = fs[k]? := by
  obtain ⟨v, w, e'⟩ := P.1.1 x fs hp e
  exact ⟨_, P.at K hp e' (fun _ z => by cases z) (fun _ _ z => by cases z), fun k h8 h20 => by rw [List.getElem?_set_ne (fun z => h20 z.symm), List.getElem?_set_ne (fun z => h8 z.symm)]⟩
/-- an object of another class -/
theorem hPo.ob (P : hPo T pp ee f fc tN L V nm p W ma ha0 σ0) (K : hKe W ma ha0 σ0 σ ha) {x k : Nat} {fs : List Value} (hp : p ≤ x) (e : V.1 x = some (.inr (k, fs))) (hk : k ∉ [2, 3, 4, 5, 6, 7, 8, 14]) : σ.1 x = some (.inr (k, fs)) := by
  refine P.at K hp (P.1.2.2.1 x _ hp e (fun gs z => ?_) (fun gs z => ?_) (fun k' gs z => ?_) (fun y z => by cases z)) (fun gs z => ?_) (fun _ _ z => by cases z)
  · injection z with z; injection z with z; exact hk (by rw [z]; decide)
  · injection z with z; injection z with z; exact hk (by rw [z]; decide)
  · injection z with z; injection z with z
    intro w
    refine hk ?_
    rw [z]
    simp only [List.mem_cons, List.not_mem_nil, or_false] at w ⊢
    omega
  · injection z with z; injection z with z; exact hk (by rw [z]; decide)
/-- a row -/
theorem hPo.rw (P : hPo T pp ee f fc tN L V nm p W ma ha0 σ0) (K : hKe W ma ha0 σ0 σ ha) {x n : Nat} {ty : FieldType} {g} (hp : p ≤ x) (e : V.1 x = some (.inl (ty, n, g))) (ht : ty ≠ .long) : σ.1 x = some (.inl (ty, n, g)) :=
  P.at K hp (P.1.2.2.1 x _ hp e (fun gs z => by cases z) (fun gs z => by cases z) (fun k' gs z => by cases z) (fun y z => by injection z with z; injection z with z; exact ht z)) (fun gs z => by cases z) (fun _ _ z => by injection z with z; injection z with z; exact ht z)
/-- a list -/
theorem hPo.ls (P : hPo T pp ee f fc tN L V nm p W ma ha0 σ0) (K : hKe W ma ha0 σ0 σ ha) {pa d cap q ci : Nat} {mc : Int32} {g : Nat → Option Nat} (c : cLs κ V pa d cap q mc g ci) (hp : p ≤ pa) (hd : p ≤ d ∨ (d = κ.2.2.1 ∧ V.1 d = none)) (hq : q < 2 ^ 31) : σ.1 pa = some (.inr (1, [.int mc, .ref d, .int (nI q)])) ∧ oLs σ (some pa) q g := by
  obtain ⟨c1, c2, -⟩ := c
  have e1 := P.ob K hp c1 (by decide)
  refine ⟨e1, pa, d, oob_at e1, by rw [ofd_at e1]; rfl, by rw [ofd_at e1]; rfl, hq, fun j hj => ?_⟩
  rcases c2 with ⟨z, -⟩ | ⟨z, z2, -⟩
  · omega
  · have hd' : p ≤ d := by
      rcases hd with w | ⟨-, w⟩
      · exact w
      · rw [w] at z; cases z
    have e2 := P.rw K hd' z (fun w => by cases w)
    have zi : zin (nI j) cap = true := decide_eq_true ⟨by rw [nI_toInt (by omega)]; omega, by rw [nI_toInt (by omega)]; omega⟩
    unfold oar
    simp only [e2, zi, if_true, nI_clamp (show j < 2 ^ 31 by omega)]
/-- a Sum -/
theorem hPo.sm (P : hPo T pp ee f fc tN L V nm p W ma ha0 σ0) (K : hKe W ma ha0 σ0 σ ha) {su na ta cap : Nat} {M : List (Nat × Int32)} {pl : Int64} (c : cSm V su na ta cap M pl) (h1 : p ≤ su) (h2 : p ≤ na) (h3 : p ≤ ta) (hM : ∀ q, q ∈ M → p ≤ q.1) : cSm σ su na ta cap M pl := by
  obtain ⟨g, g', s1, s2, s3, s4, s5⟩ := c
  refine ⟨g, g', P.ob K h1 s1 (by decide), P.rw K h2 s2 (fun w => by cases w), P.rw K h3 s3 (fun w => by cases w), s4, fun k b c e => ?_⟩
  obtain ⟨q1, q2, fs, q3⟩ := s5 k b c e
  have hb := hM _ (List.mem_of_getElem? e)
  obtain ⟨gs, r1, -⟩ := P.1.2.1 b fs hb q3
  exact ⟨q1, q2, gs, P.at K hb r1 (fun _ z => by cases z) (fun _ _ z => by cases z)⟩
/-- one NAME more -/
theorem hEv.ap {u b : Nat} (P : hPo T pp ee f fc tN L V nm p W ma ha0 σ0) (hlo : p ≤ lo1) (E : hEv tN nm p σ0 env) (hu : u ∈ L) (c : cNx B D lo1 V nm u env.length b) : hEv tN nm p σ0 (env ++ [u]) := fun k u' e => by
  rcases ap_last e with q | ⟨q1, q2⟩
  · exact E k u' q
  · subst q1 q2
    obtain ⟨c1, c2, q, c3⟩ := c
    have hb : p ≤ b := by have := c2.1; omega
    obtain ⟨gs, r1, -, -, r2⟩ := P.1.2.1 b _ hb c3
    obtain ⟨b', fs, gs', a1, a2, a3, a4, a5⟩ := P.2.1 u' hu
    rw [c1] at a1
    injection a1 with a1
    subst a1
    rw [r1] at a4
    injection a4 with a4; injection a4 with a4; injection a4 with _ a4
    subst a4
    exact ⟨b, gs, c1, hb, r1, r2, a5⟩
/-- a NAME and its value -/
theorem hPo.na (P : hPo T pp ee f fc tN L V nm p W ma ha0 σ0) (K : hKe W ma ha0 σ0 σ ha) (E : hEv tN nm p σ0 env) (En : xmEn tE tN h env vs) {k u : Nat} {v : xmV} (hu : env[k]? = some u) (hv : vs[k]? = some v) : ∃ b, (nm u = some b ∧ p ≤ b) ∧ hNa vs σ b v := by
  obtain ⟨b, gs, a1, a2, a3, a4, a5⟩ := E k u hu
  exact ⟨b, ⟨a1, a2⟩, gs, k, _, P.at K a2 a3 (fun _ z => by cases z) (fun _ _ z => by cases z), a4, a5, hv, hKc_of (En.2 k u v hu hv)⟩
theorem hPo.us (P : hPo T pp ee f fc tN L V nm p W ma ha0 σ0) (K : hKe W ma ha0 σ0 σ ha) (E : hEv tN nm p σ0 env) (En : xmEn tE tN h env vs) {w : Nat} (hu : rUs f pp ee R L env w) : ∃ b, nR fc pp ee nm env w = some b ∧ hNa vs σ b (xmGet f pp ee env vs w) := by
  obtain ⟨⟨e1, e2⟩, hm, ty⟩ := En.get hu
  obtain ⟨b, ⟨a1, -⟩, a2⟩ := P.na K E En e1 e2
  refine ⟨b, ?_, a2⟩
  obtain ⟨n, u, -, -, e⟩ := hu
  have eu : gNu f pp ee env w = u := by unfold gNu; rw [e]; rfl
  unfold nR
  rw [P.2.2.1.1, e]
  rw [eu] at a1
  exact a1
/-- the place that a NAME's object knows -/
def hIx (σ0 : oSt) (b : Nat) : Nat := match σ0.1 b with
  | some (.inr (_, gs)) => (match (gs : List Value)[1]? with | some (Value.int i) => i.toNatClampNeg | _ => 0)
  | _ => 0
/-- **an S's node** -/
theorem hPo.sn (P : hPo T pp ee f fc tN L V nm p W ma ha0 σ0) (K : hKe W ma ha0 σ0 σ ha) (E : hEv tN nm p σ0 env) (En : xmEn tE tN h env vs) (H : xmH cnt kk f pp ee tE tN R L h) (hl : h.2.2.length ≤ 30000) {e su na ta cap : Nat} {fs : List Value} (e1 : V.1 e = some (.inr (7, fs))) (e2 : fs[2]? = some (.int (nI env.length))) (e3 : fs[19]? = some (.ref su)) (c : cSm V su na ta cap (sL (nR fc pp ee nm env) ps) (sPl T (fun j => fc j &&& 255) pp ee ps)) (h0 : p ≤ e) (h1 : p ≤ su) (h2 : p ≤ na) (h3 : p ≤ ta) (hw : rWs f pp ee R L env (sEv ps)) (hk : gSo f pp ee tN env ps) (ho : pO3 ps) (hn : ps.length ≤ 1001) (hN : sNw T f pp ee ps) : hSn T f pp ee h env vs σ e ps := by
  obtain ⟨gs, g1, g2⟩ := P.nd K h0 e1
  have IN : ∀ q, q ∈ sL (nR fc pp ee nm env) ps → ∃ w, nR fc pp ee nm env w = some q.1 := (sL_mp' (φ := id) (E := fun b => ∃ w, nR fc pp ee nm env w = some b) (fun _ _ _ _ z => z) (ns := nR fc pp ee nm env) (ns' := nR fc pp ee nm env) (fun w => by simp only [Option.map_id, id]) (fun w u z => ⟨w, z⟩) ps).2
  have OB : ∀ w b, nR fc pp ee nm env w = some b → ∃ k v, (env[k]?.isSome = true ∧ k < 12 ∧ vs[k]? = some v) ∧ p ≤ b ∧ hNa vs σ b v ∧ hIx σ0 b = k := fun w b z => by
    unfold nR at z
    cases q : nFind fc pp ee env w with
    | none => rw [q] at z; cases z
    | some u =>
      rw [q] at z
      have z : nm u = some b := z
      obtain ⟨k, k12, ek⟩ := nFind_mem q
      have hv : k < vs.length := by rw [En.1]; exact xget_lt ek
      obtain ⟨b', ⟨a1, a2⟩, a3⟩ := P.na K E En ek (List.getElem?_eq_getElem hv)
      rw [z] at a1
      injection a1 with a1
      subst a1
      refine ⟨k, _, ⟨by rw [ek]; rfl, k12, List.getElem?_eq_getElem hv⟩, a2, a3, ?_⟩
      obtain ⟨b', gs, x1, x2, x3, x4, x5⟩ := E k u ek
      rw [z] at x1
      injection x1 with x1
      subst x1
      unfold hIx
      simp only [x3, x4]
      exact nI_clamp (by omega)
  refine ⟨gs, su, na, ta, cap, sL (nR fc pp ee nm env) ps, sPl T (fun j => fc j &&& 255) pp ee ps, fun b => xmOut h (vs.getD (hIx σ0 b) (0, 0)), g1, by rw [g2 _ (by decide) (by decide)]; exact e3, by rw [g2 _ (by decide) (by decide), En.1]; exact e2, P.sm K c h1 h2 h3 (fun q hq => ?_), fun k b c' ek => ?_, ?_, by have := (xmSm_bd (T := T) H hl En hw hk hn).1; omega⟩
  · obtain ⟨w, z⟩ := IN q hq
    obtain ⟨k, v, -, a2, -⟩ := OB w _ z
    exact a2
  · obtain ⟨w, z⟩ := IN _ (List.mem_of_getElem? ek)
    obtain ⟨k', v, ⟨-, -, a1⟩, -, a3, a4⟩ := OB w _ z
    refine ⟨v, a3, ?_⟩
    show xmOut h (vs.getD (hIx σ0 b) (0, 0)) = xmOut h v
    rw [a4, List.getD_eq_getElem?_getD, a1]
    rfl
  · rw [P.2.2.1.2]
    have q := lW_sm (T := T) (f := f) (pp := pp) (ee := ee) (h := h) (env := env) (vs := vs) (m := fun b => xmOut h (vs.getD (hIx σ0 b) (0, 0))) (ns := nR fc pp ee nm env) ps [] 0 0 (fun q hq => ⟨fun c0 => hN q hq c0, fun c0 => ?_⟩) (by omega) (fun _ z => by cases z)
    · have z : (0 : Int64) + lW (fun b => xmOut h (vs.getD (hIx σ0 b) (0, 0))) [] = 0 := rfl
      rw [z] at q
      exact q
    · have hu := hw _ (xsEv hq c0)
      obtain ⟨⟨i1, i2⟩, -, ty⟩ := En.get hu
      obtain ⟨b, b1, -⟩ := P.us K E En hu
      obtain ⟨k, v, ⟨-, -, a1⟩, -, -, a4⟩ := OB _ _ b1
      refine ⟨b, b1, ?_⟩
      -- the place is the one of the NAME
      have ek : k = env.idxOf (gNu f pp ee env q.2.2) := by
        obtain ⟨b', gs', x1, x2, x3, x4, x5⟩ := E _ _ i1
        have eb : nm (gNu f pp ee env q.2.2) = some b := by
          obtain ⟨n, u, -, -, e⟩ := hu
          have eu : gNu f pp ee env q.2.2 = u := by unfold gNu; rw [e]; rfl
          unfold nR at b1
          rw [P.2.2.1.1, e] at b1
          rw [eu]
          exact b1
        rw [eb] at x1
        injection x1 with x1
        subst x1
        rw [← a4]
        unfold hIx
        simp only [x3, x4]
        obtain ⟨n, u, -, -, e⟩ := hu
        obtain ⟨k', k12, ek'⟩ := nFind_mem e
        have eu : gNu f pp ee env q.2.2 = u := by unfold gNu; rw [e]; rfl
        have : env.idxOf u ≤ k' := by
          refine Nat.le_of_not_lt (fun z => ?_)
          have := List.not_of_lt_findIdx (p := (· == u)) (xs := env) (i := k') z
          rw [List.getElem?_eq_getElem (xget_lt ek')] at ek'
          injection ek' with ek'
          rw [ek'] at this
          simp at this
        rw [eu]
        exact nI_clamp (by omega)
      have ev : v = xmGet f pp ee env vs q.2.2 := by
        rw [ek, i2] at a1
        injection a1 with a1
        exact a1.symm
      show xmOut h (vs.getD (hIx σ0 b) (0, 0)) = _
      rw [a4, List.getD_eq_getElem?_getD, a1]
      show xmOut h v = _
      rw [ev]
      have e : yK (tN (gNu f pp ee env q.2.2)) = yK (yB (mPk q.1)) := by rw [hk q hq c0]
      have h3 := ho q hq
      unfold xmPt xmOut
      rw [if_neg c0]
      rcases (show q.1 = 1 ∨ q.1 = 2 ∨ q.1 = 3 by omega) with c | c | c
      · rw [c] at e
        rw [if_pos c]
        rcases ty with ⟨-, y, -⟩ | ⟨z, -⟩ | ⟨z, -⟩ | ⟨z, -⟩ | ⟨z, -⟩
        · rw [if_neg (by omega), if_neg (by omega), if_neg (by omega)]
        all_goals exact absurd (z.symm.trans e) (by decide)
      · rw [c] at e
        rw [if_neg (show ¬ q.1 = 1 by omega), if_pos c]
        rcases ty with ⟨z, -⟩ | ⟨z, -⟩ | ⟨-, y, -⟩ | ⟨z, -⟩ | ⟨z, -⟩
        · exact absurd (z.symm.trans e) (by decide)
        · exact absurd (z.symm.trans e) (by decide)
        · rw [if_neg (by omega), if_pos y]
        · exact absurd (z.symm.trans e) (by decide)
        · exact absurd (z.symm.trans e) (by decide)
      · rw [c] at e
        rw [if_neg (show ¬ q.1 = 1 by omega), if_neg (show ¬ q.1 = 2 by omega)]
        rcases ty with ⟨z, -⟩ | ⟨z, -⟩ | ⟨z, -⟩ | ⟨-, y, -⟩ | ⟨z, -⟩
        · exact absurd (z.symm.trans e) (by decide)
        · exact absurd (z.symm.trans e) (by decide)
        · exact absurd (z.symm.trans e) (by decide)
        · rw [if_neg (by omega), if_neg (by omega), if_pos y]
        · exact absurd (z.symm.trans e) (by decide)
end HPH
