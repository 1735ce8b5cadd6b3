/-! the class's Judge: assume() -/
section JAS
variable {κ : oKv} {T : Nat} {j o ca pa ph ta th len W b c : Nat} {cl : Int32} {rd : Int32} {wk : Option Nat} {ps : Int32} {B : Int} {sl ti : Nat → Nat} {Mn : Nat → Bool → List oBr} {X : Nat → Prop}
/-- what assume() leaves: R the answer, B0 what was assumed -/
def aOut (X : Nat → Prop) (H : Nat) (κ : oKv) (j o ca pa ph ta th len W b c : Nat) (cl rd : Int32) (wk : Option Nat) (ps : Int32) (B : Int) (sl ti : Nat → Nat) (Mn : Nat → Bool → List oBr) (R : oRs) (B0 : List oBr) (a : Nat) (σ : oSt) (f : Nat → Int64) (P Tr : List (Nat × Bool)) (L : List oLm) : Prop := ∃ σ' f' fa' P' Tr' L', R = some (none, σ') ∧ jSt σ' j o ca pa ph ta th len W b cl fa' f' rd wk ps P' Tr' ∧ (jKp pa ph ta th σ σ' ∧ σ'.2 = σ.2) ∧ oLv cl B W b L' f' fa' ∧ xLn B W L' ∧ (∀ e, (e < b ∨ b + W * W ≤ e) → f' e = f e) ∧ (P'.length ≤ P.length + a ∧ Tr'.length ≤ Tr.length + a) ∧ ((∃ Z : List ((Nat × Bool) × Nat), P' = P ++ Z.map Prod.fst ∧ (Z.map Prod.snd).sum + Tr'.length ≤ a + Tr.length ∧ (∀ z, z ∈ Z → jMn X κ σ' pa ph ta th rd sl ti c B Mn H z.2 z.1.1 ∧ jW σ' z.1.1 z.1.2) ∧ ∀ K, kDd K → (exL (pMn Mn (Z.map Prod.fst)) K L' (tMn ti Tr') ↔ exB B0 K L (tMn ti Tr))) ∧ ∃ Y, Tr' = Tr ++ Y) ∧ ((xOk (xC L) → tCo Tr) → xOk (xC L') → tCo Tr') ∧ (xOk (xC L') → xOk (xC L))
/-- nothing is left -/
theorem aOut.dead {H : Nat} {R : oRs} {B0 : List oBr} {a : Nat} {σ : oSt} {f : Nat → Int64} {P Tr : List (Nat × Bool)} {L : List oLm} {σ' : oSt} {Y : List (Nat × Bool)} (hc : 0 < c) (hW : W = 2 * c) (hB : 1 ≤ B) (hR : R = some (none, σ')) (H' : jSt σ' j o ca pa ph ta th len W b cl 1 f rd wk ps P (Tr ++ Y)) (hk : jKp pa ph ta th σ σ') (h2 : σ'.2 = σ.2) {fa : Int32} (hv : oLv cl B W b L f fa) (hL : xLn B W L) (hY : Y.length ≤ a) (hd : ∀ K, kDd K → ¬ exB B0 K L (tMn ti Tr)) : aOut X H κ j o ca pa ph ta th len W b c cl rd wk ps B sl ti Mn R B0 a σ f P Tr L := by
  have hb : oLv cl B W b ((bx 1, 1, -1) :: L) f 1 := oLv.bad (by decide) hv
  have no : ¬ xOk (xC ((bx 1, 1, -1) :: L)) := fun hO => by
    have := hO (bx 1) (-1) (xDv.base _ _ _ (xC_self (l := (bx 1, 1, -1))))
    omega
  refine ⟨σ', f, 1, P, Tr ++ Y, _, hR, H', ⟨hk, h2⟩, hb, fun l hl => ?_, fun _ _ => rfl, ⟨by omega, by rw [List.length_append]; omega⟩, ⟨⟨[], (List.append_nil P).symm, (by rw [List.length_append]; show 0 + (Tr.length + Y.length) ≤ _; omega), fun x hx => (by cases hx), fun K hK => ⟨fun k => ?_, fun k => absurd k (hd K hK)⟩⟩, Y, rfl⟩, fun _ k => absurd k no, fun k => absurd k no⟩
  · rcases List.mem_cons.mp hl with rfl | hl
    · exact ⟨by show bx 1 < W; rw [hW, show bx 1 = 0 from rfl]; omega, by show 1 < W; omega, by show -B ≤ -1; omega, by show -1 ≤ B; omega⟩
    · exact hL l hl
  · exfalso
    have := (hK.2 _ _ k).1 (bx 1) (-1) (xDv.base _ _ _ (xC_self (l := (bx 1, 1, -1))))
    omega
theorem aOut.mono {H : Nat} {R : oRs} {B0 : List oBr} {a : Nat} {σ : oSt} {f : Nat → Int64} {P Tr : List (Nat × Bool)} {L : List oLm} (h : aOut X H κ j o ca pa ph ta th len W b c cl rd wk ps B sl ti Mn R B0 a σ f P Tr L) : aOut X (H + 1) κ j o ca pa ph ta th len W b c cl rd wk ps B sl ti Mn R B0 a σ f P Tr L := by
  obtain ⟨σ', f', fa', P', Tr', L', h1, h2, h3, h4, h5, h6, h7, ⟨⟨Z, z1, z2, z3, z4⟩, h8⟩, h9⟩ := h
  exact ⟨σ', f', fa', P', Tr', L', h1, h2, h3, h4, h5, h6, h7, ⟨⟨Z, z1, z2, fun z hz => ⟨jMn.up _ _ _ (z3 z hz).1, (z3 z hz).2⟩, z4⟩, h8⟩, h9⟩
theorem c_assume (hT : 200 ≤ T) (hc : 0 < c ∧ c ≤ 60) (hWc : W = 2 * c) (hl : len < 2 ^ 31) (hm : b + W * W ≤ len) (hB : 1 ≤ B) (hBW : (W : Int) * B + B + 2 ≤ 4503599627370496) : ∀ (H a m n : Nat) (σ : oSt) (f : Nat → Int64) (fa : Int32) (P Tr : List (Nat × Bool)) (L : List oLm) (h : Bool), H + 6 ≤ n → jMn X κ σ pa ph ta th rd sl ti c B Mn H a m → jSt σ j o ca pa ph ta th len W b cl fa f rd wk ps P Tr → oLv cl B W b L f fa → xLn B W L → P.length + a ≤ 40 → Tr.length + a ≤ 40 → aOut X H κ j o ca pa ph ta th len W b c cl rd wk ps B sl ti Mn (oF κ T n 56 [va_rf (some j), va_rf (some m), .int (b01 h)] σ) (Mn m h) a σ f P Tr L
  | 0, a, m, n, σ, f, fa, P, Tr, L, h, hn, hM, _, _, _, _, _ => False.elim hM
  | H + 1, a, m, n, σ, f, fa, P, Tr, L, h, hn, hM, J, hv, hL, hP, hTr => by
    obtain ⟨n, rfl⟩ : ∃ n', n = n' + 1 := ⟨n - 1, by omega⟩
    have hM' := hM
    obtain ⟨fs, h1, h0, hM⟩ := hM
    have ihA := c_assume hT hc hWc hl hm hB hBW H
    have fJ0 : ofd σ (some j) 3 0 = some (.ref o) := ofd_at J.1
    rw [oE_X1_assume]
    unfold ob_X1_assume
    have post : jW σ m h → aOut X (H + 1) κ j o ca pa ph ta th len W b c cl rd wk ps B sl ti Mn (obn (oob σ (some j) 3) fun a2 => ocv (oF κ T n 51 [va_rf (some j), va_rf (some m), .int (b01 h)] σ) fun s4 => some (none, s4)) (Mn m h) a σ f P Tr L := fun hW => by
      obtain ⟨n, rfl⟩ : ∃ n', n = n' + 1 := ⟨n - 1, by omega⟩
      obtain ⟨σ', a1, a2, a3, a4⟩ := c_post (κ := κ) (T := T) (n := n) (h := h) J h1 (by omega)
      refine ⟨σ', f, fa, _, Tr, L, ?_, a2, ⟨a3, a4⟩, hv, hL, fun _ _ => rfl, ⟨by rw [List.length_append]; show P.length + 1 ≤ _; omega, by omega⟩, ⟨⟨[((m, h), a)], rfl, Nat.le_refl _, fun x hx => ?_, fun K hK => Iff.rfl⟩, [], (List.append_nil _).symm⟩, fun k => k, fun k => k⟩
      · rw [oob_at J.1, obn_at, a1, ocv_at]
      · rcases List.mem_cons.mp hx with rfl | hx
        · exact ⟨jMn.jk a3 _ _ _ hM', hW.jk a3⟩
        · cases hx
    rcases hM with ⟨e, x, e1, e2, e3⟩ | ⟨an, li, dd, cap, q, mc, g, xs, e, e1, e2, ⟨e3, -⟩, e4, e5, e6, e7, e8⟩ | ⟨bo, e, e3⟩ | ⟨x, gs, e, e1, e2, e3⟩ | ⟨su, Ls, pl, r, e, e1, e2, e4, ⟨e5, -⟩, e3⟩
    · -- not
      have f0 : ofd σ (some m) 7 0 = some (.int 217) := (ofd_at h1).trans e
      have f12 : ofd σ (some m) 7 12 = some (.ref x) := (ofd_at h1).trans e1
      rw [f0, ovi_i, obn_at, if_pos rfl, f12, ovr_rf, obn_at]
      have go := (ihA a x n σ f fa P Tr L (!h) (by omega) e2 J hv hL hP hTr).mono
      rw [← e3 h] at go
      obtain ⟨σ', f', fa', P', Tr', L', g1, g2⟩ := go
      refine ⟨σ', f', fa', P', Tr', L', ?_, g2⟩
      unfold oj_X1_assume_70
      simp only [oob_at J.1, obn_at]
      cases h
      · rw [if_pos (show b01 false = 0 by decide)]
        have g1 : oF κ T n 56 [va_rf (some j), va_rf (some x), .int 1] σ = some (none, σ') := g1
        rw [g1, ocv_at]
      · rw [if_neg (show ¬ b01 true = 0 by decide)]
        have g1 : oF κ T n 56 [va_rf (some j), va_rf (some x), .int 0] σ = some (none, σ') := g1
        rw [g1, ocv_at]
    · -- both, either
      have f0 : ofd σ (some m) 7 0 = some (.int (if an = true then 302 else 303)) := (ofd_at h1).trans e
      have hq40 : q ≤ 40 := by
        have gen : ∀ l : List (Nat × Nat), (∀ y, y ∈ l → 1 ≤ y.2) → l.length ≤ (l.map Prod.snd).sum := fun l => by
          induction l with
          | nil => exact fun _ => Nat.le_refl _
          | cons y l il =>
            intro hy
            have := il (fun w hw => hy w (List.mem_cons_of_mem _ hw))
            have := hy y (List.mem_cons_self ..)
            simp only [List.map_cons, List.sum_cons, List.length_cons]
            omega
        have := gen xs (fun y hy => by
          obtain ⟨i, hi, ei⟩ := List.getElem_of_mem hy
          exact ((e6 i y (by rw [List.getElem?_eq_getElem hi, ei])).2).nd.2)
        omega
      have go : aOut X (H + 1) κ j o ca pa ph ta th len W b c cl rd wk ps B sl ti Mn (oj_X1_assume_91 T (oF κ T n) κ (some j) (some m) (b01 h) (b01 an) σ) (Mn m h) a σ f P Tr L := by
        unfold oj_X1_assume_91
        by_cases z : an = h
        · rw [if_pos (show b01 an = b01 h by rw [z]), e8 h, if_pos z]
          have loop : ∀ (d k t : Nat) (σ1 : oSt) (f1 : Nat → Int64) (fa1 : Int32) (P1 Tr1 : List (Nat × Bool)) (L1 : List oLm), k + d = q → d < t → jKp pa ph ta th σ σ1 → jSt σ1 j o ca pa ph ta th len W b cl fa1 f1 rd wk ps P1 Tr1 → oLv cl B W b L1 f1 fa1 → xLn B W L1 → P1.length + ((xs.drop k).map Prod.snd).sum ≤ 40 → Tr1.length + ((xs.drop k).map Prod.snd).sum ≤ 40 → aOut X H κ j o ca pa ph ta th len W b c cl rd wk ps B sl ti Mn (ol_X1_assume_106 T (oF κ T n) κ t (some j) (some m) (b01 h) (nI k) σ1) (brAll ((xs.drop k).map (fun x => Mn x.1 h))) ((xs.drop k).map Prod.snd).sum σ1 f1 P1 Tr1 L1 := by
            intro d
            induction d with
            | zero =>
              intro k t σ1 f1 fa1 P1 Tr1 L1 hk ht K1 J1 V1 X1 hp1 ht1
              obtain ⟨t, rfl⟩ : ∃ t', t = t' + 1 := ⟨t - 1, by omega⟩
              obtain ⟨n, rfl⟩ : ∃ n', n = n' + 3 := ⟨n - 3, by omega⟩
              have hn1 := K1.1 _ _ h1 ⟨by show (7 : Nat) ≠ 3; decide, by show (7 : Nat) ≠ 8; decide⟩
              have c1 := e2.jk K1 e4 e5
              have f18 : ofd σ1 (some m) 7 18 = some (.ref li) := (ofd_at hn1).trans e1
              have ed : xs.drop k = [] := List.drop_of_length_le (by omega)
              rw [ed]
              refine ⟨σ1, f1, fa1, P1, Tr1, L1, ?_, J1, ⟨jKp.rf _, rfl⟩, V1, X1, fun _ _ => rfl, ⟨by omega, by omega⟩, ⟨⟨[], (List.append_nil _).symm, Nat.le_refl _, fun x hx => (by cases hx), fun K hK => ?_⟩, [], (List.append_nil _).symm⟩, fun k => k, fun k => k⟩
              · rw [ol_X1_assume_106, f18, ovr_rf, obn_at, oob_at c1.1, obn_at, l_sz c1, oin_at, if_pos (nI_le (by omega) (by omega))]
              · show _ ↔ exB [([], [])] _ _ _
                rw [exB.one]
                rfl
            | succ d ih =>
              intro k t σ1 f1 fa1 P1 Tr1 L1 hk ht K1 J1 V1 X1 hp1 ht1
              obtain ⟨t, rfl⟩ : ∃ t', t = t' + 1 := ⟨t - 1, by omega⟩
              have hkl : k < xs.length := by omega
              have hn1 := K1.1 _ _ h1 ⟨by show (7 : Nat) ≠ 3; decide, by show (7 : Nat) ≠ 8; decide⟩
              have c1 := e2.jk K1 e4 e5
              have f18 : ofd σ1 (some m) 7 18 = some (.ref li) := (ofd_at hn1).trans e1
              obtain ⟨gk, mk⟩ := e6 k _ (List.getElem?_eq_getElem hkl)
              have ed : xs.drop k = xs[k] :: xs.drop (k + 1) := List.drop_eq_getElem_cons hkl
              generalize xs[k] = x at gk mk ed
              rw [ed] at hp1 ht1 ⊢
              simp only [List.map_cons, List.sum_cons] at hp1 ht1 ⊢
              have mk1 := jMn.jk K1 _ _ _ mk
              obtain ⟨⟨xf, hx7⟩, hx1⟩ := mk1.nd
              obtain ⟨σ2, f2, fa2, P2, Tr2, L2, a1, a2, ⟨a3, a4⟩, a5, a6, a7, ⟨a8, a8'⟩, ⟨⟨Z, a9, a14, a9', a11⟩, Y, a10⟩, a12, a13⟩ := ihA x.2 x.1 n σ1 f1 fa1 P1 Tr1 L1 h (by omega) mk1 J1 V1 X1 (by omega) (by omega)
              obtain ⟨σ3, f3, fa3, P3, Tr3, L3, b1, b2, ⟨b3, b4⟩, b5, b6, b7, ⟨b8, b8'⟩, ⟨⟨Z', b9, b14, b9', b11⟩, Y', b10⟩, b12, b13⟩ := ih (k + 1) t σ2 f2 fa2 P2 Tr2 L2 (by omega) (by omega) (K1.tr a3) a2 a5 a6 (by omega) (by omega)
              refine ⟨σ3, f3, fa3, P3, Tr3, L3, ?_, b2, ⟨a3.tr b3, b4.trans a4⟩, b5, b6, fun e he => (b7 e he).trans (a7 e he), ⟨by omega, by omega⟩, ⟨⟨Z ++ Z', by rw [b9, a9, List.append_assoc, List.map_append], by rw [List.map_append, List.sum_append]; omega, fun y hy => ?_, fun K hK => ?_⟩, Y ++ Y', by rw [b10, a10, List.append_assoc]⟩, fun k => b12 (a12 k), fun k => a13 (b13 k)⟩
              · obtain ⟨n, rfl⟩ : ∃ n', n = n' + 3 := ⟨n - 3, by omega⟩
                have lq : oLs σ1 (some li) q g := by
                  obtain ⟨q1, q2, q3⟩ := c1
                  rcases q2 with ⟨z', -⟩ | ⟨q2, q2', q2''⟩
                  · omega
                  · refine ⟨li, dd, oob_at q1, ofd_at q1, ofd_at q1, by omega, fun i hi => ?_⟩
                    have zi : zin (nI i) cap = true := decide_eq_true ⟨by rw [nI_toInt (by omega)]; omega, by rw [nI_toInt (by omega)]; omega⟩
                    simp only [oar, q2, zi, if_true, nI_clamp (show i < 2 ^ 31 by omega)]
                have lg := l_get (κ := κ) (T := T) (n := n) (j := k) lq (by omega)
                rw [gk] at lg
                have cs : ocs σ1 (some x.1) 7 = true := by simp only [ocs, hx7, decide_true]
                rw [ol_X1_assume_106, f18, ovr_rf, obn_at, oob_at c1.1, obn_at, l_sz c1, oin_at, if_neg (nI_ge (by omega) (by omega)), f18, ovr_rf, obn_at, oob_at c1.1, obn_at, lg, orn_at, ogd_at cs, oob_at J1.1, obn_at, a1, ocv_at, nI_p1]
                exact b1
              · rcases List.mem_append.mp hy with hy | hy
                · exact ⟨jMn.jk b3 _ _ _ (a9' y hy).1, (a9' y hy).2.jk b3⟩
                · exact b9' y hy
              · have eM : pMn Mn ((Z ++ Z').map Prod.fst) = pMn Mn (Z.map Prod.fst) ++ pMn Mn (Z'.map Prod.fst) := by unfold pMn; rw [List.map_append, List.map_append]
                rw [eM, exL.app, exL.swap hK.1, b11 _ (exL.d hK _), ← exL.pull hK.1, a11 _ (exB.d hK)]
                show _ ↔ exB (brAnd (Mn x.1 h) (brAll _)) _ _ _
                rw [exB.and hK.1]
          have := loop q 0 T σ f fa P Tr L (Nat.zero_add _) (by omega) (jKp.rf σ) J hv hL (by rw [List.drop_zero, e7]; exact hP) (by rw [List.drop_zero, e7]; exact hTr)
          rw [List.drop_zero, e7] at this
          exact this.mono
        · rw [if_neg (show ¬ b01 an = b01 h from fun w => z (by cases an <;> cases h <;> first | rfl | exact absurd w (by decide)))]
          exact post ⟨fs, h1, Or.inl (e.trans (by cases an <;> cases h <;> first | rfl | exact absurd rfl z))⟩
      rw [f0, ovi_i, obn_at]
      cases an
      · rw [if_neg (by decide), if_neg (by decide), if_pos (by decide), obn_at, if_neg (by decide)]
        exact go
      · rw [if_neg (by decide), if_pos (by decide), obn_at, if_pos (by decide)]
        exact go
    · -- true, false
      have f0 : ofd σ (some m) 7 0 = some (.int (if bo = true then 223 else 205)) := (ofd_at h1).trans e
      have fO4 : ofd σ (some o) 8 4 = some (.int fa) := ofd_at J.2.1.1
      have p4 : ∀ v : Int32, opf σ (some o) 8 4 (.int v) = some (gOc σ o ca len W b cl v f) := fun v => by
        have := gOc_p4 (σ := σ) (o := o) (ca := ca) (len := len) (W := W) (b := b) (cl := cl) (fa := fa) (f := f) (v := v)
        rw [J.oc] at this
        exact this
      have ok : ∀ v : Int32, v = fa → bo = h → aOut X (H + 1) κ j o ca pa ph ta th len W b c cl rd wk ps B sl ti Mn (some (none, gOc σ o ca len W b cl v f)) (Mn m h) a σ f P Tr L := fun v hvv hbo => by
        subst hvv
        obtain ⟨p1, p2⟩ := J.put (fa' := v) (f' := f)
        refine ⟨_, f, v, P, Tr, L, rfl, p1, ⟨p2, rfl⟩, hv, hL, fun _ _ => rfl, ⟨by omega, by omega⟩, ⟨⟨[], (List.append_nil _).symm, (by show 0 + Tr.length ≤ _; omega), fun x hx => (by cases hx), fun K hK => ?_⟩, [], (List.append_nil _).symm⟩, fun k => k, fun k => k⟩
        rw [e3 h, if_pos hbo, exB.one]
        rfl
      have no : bo ≠ h → aOut X (H + 1) κ j o ca pa ph ta th len W b c cl rd wk ps B sl ti Mn (some (none, gOc σ o ca len W b cl 1 f)) (Mn m h) a σ f P Tr L := fun hbo => by
        obtain ⟨p1, p2⟩ := J.put (fa' := 1) (f' := f)
        refine aOut.dead (Y := []) hc.1 hWc hB rfl (by rw [List.append_nil]; exact p1) p2 rfl hv hL (Nat.zero_le _) (fun K hK k => ?_)
        rw [e3 h, if_neg hbo, exB.nil] at k
        exact k
      have j192 : ∀ t1 : Bool, fa = 0 → t1 = bo → aOut X (H + 1) κ j o ca pa ph ta th len W b c cl rd wk ps B sl ti Mn (oj_X1_assume_192 T (oF κ T n) κ (b01 h) (some o) (b01 t1) σ) (Mn m h) a σ f P Tr L := fun t1 hf0 ht1 => by
        subst ht1
        unfold oj_X1_assume_192 oj_X1_assume_196
        simp only [p4, obn_at]
        by_cases z : t1 = h
        · rw [if_pos (show b01 t1 = b01 h by rw [z])]
          exact ok 0 hf0.symm z
        · rw [if_neg (show ¬ b01 t1 = b01 h from fun w => z (by cases t1 <;> cases h <;> first | rfl | exact absurd w (by decide)))]
          exact no z
      have kd : ∀ v : Int32, v = 217 ∨ v = 302 ∨ v = 303 ∨ v = 402 ∨ v = 403 → ¬ (if bo = true then (223 : Int32) else 205) = v := fun v hv' => by
        rcases hv' with rfl | rfl | rfl | rfl | rfl <;> cases bo <;> decide
      rw [f0, ovi_i, obn_at, if_neg (kd _ (by decide)), if_neg (kd _ (by decide)), if_neg (kd _ (by decide)), if_neg (kd _ (by decide)), if_neg (kd _ (by decide)), fJ0, ovr_rf, obn_at, obn_at, fO4, ovi_i, obn_at]
      rcases oLv.fl hv with hf0 | hf0
      · rw [if_pos hf0, obn_at]
        cases bo
        · rw [if_neg (by decide)]; exact j192 false hf0 rfl
        · rw [if_pos (by decide)]; exact j192 true hf0 rfl
      · rw [if_neg (by rw [hf0]; decide)]
        unfold oj_X1_assume_196
        rw [p4, obn_at]
        by_cases z : bo = h
        · exact ok 1 hf0.symm z
        · exact no z
    · -- a truth
      have f0 : ofd σ (some m) 7 0 = some (.int 402) := (ofd_at h1).trans e
      have f9 : ofd σ (some m) 7 9 = some (.ref x) := (ofd_at h1).trans e1
      obtain ⟨n, rfl⟩ : ∃ n', n = n' + 1 := ⟨n - 1, by omega⟩
      rw [f0, ovi_i, obn_at, if_neg (by decide), if_neg (by decide), if_neg (by decide), if_pos rfl, f9, ovr_rf, obn_at, oob_at J.1, obn_at]
      obtain ⟨σ', fa', a1, a2, a3, a4, a5⟩ := c_choose (κ := κ) (T := T) (n := n) (h := h) (by omega) (by omega) J e2
      rw [a1, ocv_at, e3 h]
      have et : tMn ti (Tr ++ [(x, h)]) = tMn ti Tr ++ [(ti x, h)] := by unfold tMn; rw [List.map_append]; rfl
      rcases a5 with ⟨rfl, a5⟩ | ⟨rfl, y, a5, a6⟩
      · refine ⟨σ', f, fa', P, Tr ++ [(x, h)], L, rfl, a2, ⟨a3, a4⟩, hv, hL, fun _ _ => rfl, ⟨by omega, by rw [List.length_append]; show Tr.length + 1 ≤ _; omega⟩, ⟨⟨[], (List.append_nil _).symm, (by rw [List.length_append]; show 0 + (Tr.length + 1) ≤ _; omega), fun x hx => (by cases hx), fun K hK => ?_⟩, _, rfl⟩, fun k kO y b1 b2 q1 q2 => ?_, fun k => k⟩
        · rw [exB.one, et]
          exact hK.1.iff rfl (fun u => by simp only [List.mem_append, or_comm])
        · have k0 := k kO
          have one1 : ∀ b0, (y, b0) ∈ [(x, h)] → y = x ∧ b0 = h := fun b0 w => by
            rcases List.mem_cons.mp w with w | w
            · injection w with w1 w2
              exact ⟨w1, w2⟩
            · cases w
          rcases List.mem_append.mp q1 with q1 | q1
          · rcases List.mem_append.mp q2 with q2 | q2
            · exact k0 y b1 b2 q1 q2
            · have := one1 b2 q2
              rw [this.1] at q1
              rw [this.2]
              exact a5 b1 q1
          · have w1 := one1 b1 q1
            rcases List.mem_append.mp q2 with q2 | q2
            · rw [w1.1] at q2
              rw [w1.2]
              exact (a5 b2 q2).symm
            · rw [w1.2, (one1 b2 q2).2]
      · refine aOut.dead (Y := [(x, h)]) hc.1 hWc hB rfl a2 a3 a4 hv hL (show 1 ≤ a from h0) (fun K hK k => ?_)
        rw [exB.one] at k
        have := (hK.2 _ _ k).2 (ti x) y h (List.mem_append_right _ (List.mem_map.mpr ⟨(x, y), a5, rfl⟩)) (List.mem_append_left _ (List.mem_cons_self ..))
        exact a6 this
    · -- a comparison
      have f0 : ofd σ (some m) 7 0 = some (.int 403) := (ofd_at h1).trans e
      obtain ⟨n, rfl⟩ : ∃ n', n = n' + 4 := ⟨n - 4, by omega⟩
      rw [f0, ovi_i, obn_at, if_neg (by decide), if_neg (by decide), if_neg (by decide), if_neg (by decide), if_pos rfl, oob_at J.1, obn_at]
      obtain ⟨σ', f', fa', P', L', a1, a2, a3, a4, a5, a6, a7, a8⟩ := c_cmp55 (κ := κ) (T := T) (n := n) (h := h) hT hc hWc hl hm (by omega) hBW hL J hv e5 h1 e1 e4 e2 (by omega)
      rw [a1, ocv_at]
      rcases a8 with ⟨z, rfl, rfl⟩ | ⟨rfl, A, z, zz⟩
      · refine ⟨σ', f', fa', _, Tr, L', rfl, a2, ⟨a3, a4⟩, a5, a6, a7, ⟨by rw [List.length_append]; show P.length + 1 ≤ _; omega, by omega⟩, ⟨⟨[((m, h), a)], rfl, Nat.le_refl _, fun x hx => ?_, fun K hK => Iff.rfl⟩, [], (List.append_nil _).symm⟩, fun k => k, fun k => k⟩
        · rcases List.mem_cons.mp hx with rfl | hx
          · exact ⟨jMn.jk a3 _ _ _ hM', ⟨fs, a3.1 _ _ h1 ⟨by show (7 : Nat) ≠ 3; decide, by show (7 : Nat) ≠ 8; decide⟩, Or.inr ⟨e, r, e1, e2, z⟩⟩⟩
          · cases hx
      · have mon : xOk (xC L') → xOk (xC L) := fun k => by
          rw [zz] at k
          exact xOk.mono (fun l w => List.mem_append_right _ w) k
        refine ⟨σ', f', fa', P', Tr, L', rfl, a2, ⟨a3, a4⟩, a5, a6, a7, ⟨by omega, by omega⟩, ⟨⟨[], (List.append_nil _).symm, (by show 0 + Tr.length ≤ _; omega), fun x hx => (by cases hx), fun K hK => ?_⟩, [], (List.append_nil _).symm⟩, fun k kO => k (mon kO), mon⟩
        rw [e3 h, z, exB.one]
        exact hK.1.iff zz (fun u => Iff.rfl)
end JAS
