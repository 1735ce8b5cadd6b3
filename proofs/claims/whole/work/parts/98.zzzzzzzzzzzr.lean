/-! the class's Judge: explore(), whole -/
section JXP
variable {κ : oKv} {T : Nat} {j o pa ph ta th W c : Nat} {rd : Int32} {wk : Option Nat} {B : Int} {sl ti : Nat → Nat} {Mn : Nat → Bool → List oBr} {X : Nat → Prop} {α : Type} {Rp : oSt → Int32 → List α → Prop} {Q : α → List oLm → Prop} {N0 : Nat}
/-- questions: how they are kept, whether any is left, what a way says of them -/
def qOk (κ : oKv) (T N0 : Nat) (j o pa ph ta th W : Nat) (B : Int) (rd : Int32) (wk : Option Nat) (X : Nat → Prop) {α : Type} (Rp : oSt → Int32 → List α → Prop) (Q : α → List oLm → Prop) : Prop := (∀ x L L', xC L = xC L' → Q x L → Q x L') ∧ (∀ σ σ' ps S, jKp pa ph ta th σ σ' → Rp σ ps S → Rp σ' ps S) ∧ (∀ n σ ca len b fa f ps P Tr S, jSt σ j o ca pa ph ta th len W b 1 fa f rd wk ps P Tr → Rp σ ps S → oF κ T (n + 1) 60 [va_rf (some j)] σ = some (some (.int (b01 S.isEmpty)), σ)) ∧ (∀ n σ ca len b f ps P Tr L S, N0 ≤ n → jSt σ j o ca pa ph ta th len W b 1 0 f rd wk ps P Tr → oQn W b L f 0 → xLn B W L → b + W * W ≤ len → len ≤ 201600 → Rp σ ps S → ∃ σ' ps', oF κ T n 59 [va_rf (some j)] σ = some (none, σ') ∧ jSt σ' j o ca pa ph ta th len W b 1 0 f rd wk ps' P Tr ∧ jKw X pa ph ta th σ σ' ∧ σ'.2 = σ.2 ∧ Rp σ' ps' (fQz (fun x => Q x L) S))
theorem kFe.d {Q : List oLm → Prop} (hQ : ∀ L L', xC L = xC L' → Q L → Q L') : kDd (kFe Q) := ⟨kFe.inv hQ, fun _ _ h => ⟨h.1, h.2.1⟩⟩
theorem gMo.of2 {len : Nat} {σ σ' : oSt} (h : σ'.2 = σ.2) : gMo len len σ σ' := by
  unfold gMo
  rw [h]
  exact gMo.refl len σ
theorem jRc_inj : ∀ r, r < 6 → ∀ r', r' < 6 → jRc r = jRc r' → r = r' := by decide
theorem sum_one : ∀ (xs : List (Nat × Nat)) (i : Nat) (y : Nat × Nat), (∀ z, z ∈ xs → 1 ≤ z.2) → xs[i]? = some y → y.2 + xs.length ≤ (xs.map Prod.snd).sum + 1
  | [], i, y, _, h => by cases h
  | x :: xs, i, y, hx, h => by
    have gen : ∀ l : List (Nat × Nat), (∀ y, y ∈ l → 1 ≤ y.2) → l.length ≤ (l.map Prod.snd).sum := fun l => by
      induction l with
      | nil => exact fun _ => Nat.le_refl _
      | cons y l il =>
        intro hy
        have := il (fun w hw => hy w (List.mem_cons_of_mem _ hw))
        have := hy y (List.mem_cons_self ..)
        simp only [List.map_cons, List.sum_cons, List.length_cons]
        omega
    simp only [List.map_cons, List.sum_cons, List.length_cons]
    cases i with
    | zero =>
      have e : x = y := Option.some.inj h
      subst e
      have := gen xs (fun y hy => hx y (List.mem_cons_of_mem _ hy))
      omega
    | succ i =>
      have := sum_one xs i y (fun y hy => hx y (List.mem_cons_of_mem _ hy)) h
      have := hx x (List.mem_cons_self ..)
      omega
theorem c_explore (hT : 200 ≤ T) (hc : 0 < c ∧ c ≤ 60) (hWc : W = 2 * c) (hB : 1 ≤ B) (hBW : (W : Int) * B + B + 2 ≤ 4503599627370496) (hti : ∀ x y, ti x = ti y → x = y) (hq : qOk κ T N0 j o pa ph ta th W B rd wk X Rp Q) (Hm : Nat) : ∀ (μ k n : Nat) (σ : oSt) (ca len b : Nat) (fa : Int32) (f : Nat → Int64) (ps : Int32) (P Tr : List (Nat × Bool)) (L : List oLm) (S : List α) (Z : List ((Nat × Bool) × Nat)), wZ Z ≤ μ → k + Z.length = P.length → P.drop k = Z.map Prod.fst → (∀ z, z ∈ Z → jMn X κ σ pa ph ta th rd sl ti c B Mn Hm z.2 z.1.1 ∧ jW σ z.1.1 z.1.2) → P.length + wZ Z ≤ 40 → Tr.length + (Z.map Prod.snd).sum ≤ 40 → μ + Hm + N0 + 8 ≤ n → jSt σ j o ca pa ph ta th len W b 1 fa f rd wk ps P Tr → oQn W b L f fa → xLn B W L → (xOk (xC L) → tCo Tr) → b + W * W ≤ len → len ≤ 201600 → b + ((Z.map Prod.snd).sum + 1) * (W * W) ≤ 100800 → (∀ q, σ.2.1 ≤ q → σ.1 q = none) → Rp σ ps S → xpO X j o pa ph ta th W rd wk Rp (oF κ T n 63 [va_rf (some j), .int (nI k)] σ) (fun x => exL (pMn Mn (P.drop k)) (kFe (fun L => ¬ Q x L)) L (tMn ti Tr)) len b fa f P Tr S σ := by
  intro μ
  induction μ using Nat.strongRecOn with
  | ind μ ih =>
  intro k n σ ca len b fa f ps P Tr L S Z hμ hkl hZ hM hP hTr hn J hv hL hco hb hlen hlev hfr hR
  have hW120 : W ≤ 120 := by omega
  obtain ⟨n, rfl⟩ : ∃ n', n = n' + 1 := ⟨n - 1, by omega⟩
  have fJ0 : ofd σ (some j) 3 0 = some (.ref o) := ofd_at J.1
  have fJ3 : ofd σ (some j) 3 3 = some (.int (nI P.length)) := ofd_at J.1
  have fJ6 : ofd σ (some j) 3 6 = some (.int (nI Tr.length)) := ofd_at J.1
  have fJ1 : ofd σ (some j) 3 1 = some (.ref pa) := ofd_at J.1
  have fJ2 : ofd σ (some j) 3 2 = some (.ref ph) := ofd_at J.1
  have fO4 : ofd σ (some o) 8 4 = some (.int fa) := ofd_at J.2.1.1
  rw [oE_X1_explore]
  unfold ob_X1_explore
  rw [fJ0, ovr_rf, obn_at, fO4, ovi_i, obn_at]
  rcases hv.1 with rfl | rfl
  case inr =>
    rw [if_neg (by decide)]
    refine ⟨σ, ca, len, f, ps, rfl, J, jKw.rf σ, gMo.refl _ _, hlen, fun _ _ => rfl, ?_⟩
    rw [fQ_all]
    · exact hR
    · intro x _ hE
      exact exL.dead (L := L) (ts := tMn ti Tr) (fun w => hv.2.1 rfl w.1) _ L _ (fun l w => w) (fun x w => w) hE
  rw [if_pos rfl, fJ3, ovi_i, obn_at]
  have hOk := (hv.2.2 rfl).1
  have hts : tCo (tMn ti Tr) := tCo.mp hti (hco hOk)
  have hPl := J.2.2.2.2.1.1
  match Z, hμ, hkl, hZ, hM, hP, hTr, hlev with
  | [], hμ, hkl, hZ, hM, hP, hTr, hlev =>
    have ek : k = P.length := hkl
    rw [if_neg (show ¬ nI k < nI P.length by rw [ek]; exact Int32.lt_irrefl), oob_at J.1, obn_at]
    obtain ⟨σ', ps', c1, c2, c3, c4, c5⟩ := hq.2.2.2 n σ ca len b f ps P Tr L S (by omega) J hv hL hb hlen hR
    refine ⟨σ', ca, len, f, ps', by rw [c1, ocv_at], c2, c3, gMo.of2 c4, hlen, fun _ _ => rfl, ?_⟩
    rw [fQ_cg (R := fun x => Q x L)]
    · exact c5
    · intro x _
      rw [hZ]
      show ¬ kFe _ L _ ↔ _
      unfold kFe
      constructor
      · intro w
        exact Classical.byContradiction fun z => w ⟨hOk, hts, z⟩
      · intro w z
        exact z.2.2 w
  | z :: Z, hμ, hkl, hZ, hM, hP, hTr, hlev =>
    obtain ⟨⟨m, h⟩, a⟩ := z
    obtain ⟨hM0, hW0⟩ := hM _ (List.mem_cons_self ..)
    have hW0 : jW σ m h := hW0
    have hM0 : jMn X κ σ pa ph ta th rd sl ti c B Mn Hm a m := hM0
    have hkP : k < P.length := by rw [List.length_cons] at hkl; omega
    have pk : P[k]? = some (m, h) := by
      have e := List.getElem?_drop (xs := P) (i := k) (j := 0)
      rw [hZ] at e
      exact e.symm
    have dr : P.drop (k + 1) = Z.map Prod.fst := by
      rw [show P.drop (k + 1) = (P.drop k).drop 1 by rw [List.drop_drop], hZ]
      rfl
    have drk : P.drop k = (m, h) :: P.drop (k + 1) := by rw [hZ, dr]; rfl
    obtain ⟨gp, hp, h4, h5, h6⟩ := J.2.2.1
    obtain ⟨g1, g2⟩ := h6 k _ pk
    have zi : zin (nI k) 40 = true := zin_n (by omega) (by decide)
    have ck : (nI k).toNatClampNeg = k := nI_clamp (by omega)
    have rp : oar σ (some pa) (nI k) = some (some m) := by
      simp only [oar, h4, zi, if_true, ck, g1]
    have rh : oai σ (some ph) .boolean (nI k) = some (b01 h) := by
      simp only [oai, h5, zi, and_self, if_true, ck, g2]
    have wpos : 1 ≤ a := hM0.nd.2
    have hwZ : wZ (((m, h), a) :: Z) = 2 * a - 1 + wZ Z := rfl
    have hsZ : ((((m, h), a) :: Z).map Prod.snd).sum = a + (Z.map Prod.snd).sum := rfl
    rw [hwZ] at hP hμ
    rw [hsZ] at hTr hlev
    rw [if_pos (nI_lt hkP (by omega)), fJ1, ovr_rf, obn_at, rp, obn_at, fJ2, ovr_rf, obn_at, rh, obn_at, obn_at, fJ6, ovi_i, obn_at]
    -- the ways, one by one
    have main : ∀ (q : Nat) (Bs : List (List oBr)), Bs.length = q → q ≤ 40 → Mn m h = brAny Bs → (∀ (i : Nat) (Bi : List oBr), Bs[i]? = some Bi → ∀ (k76 : Option Nat → Int32 → Option Nat → Int32 → Int32 → Int32 → Int32 → Int32 → oSt → oRs) (σ2 : oSt) (ca2 len2 : Nat) (f2 : Nat → Int64) (ps2 : Int32), jKw X pa ph ta th σ σ2 → jSt σ2 j o ca2 pa ph ta th len2 W (b + W * W) 1 0 f2 rd wk ps2 P Tr → oQn W (b + W * W) L f2 0 → b + 2 * (W * W) ≤ len2 → len2 ≤ 201600 → ∃ R a', (obn (ovi (ofd σ2 (some m) 7 0)) fun v15 => if v15 = 403 then obn (ovr (ofd σ2 (some m) 7 19)) fun v31 => (if nI i = 0 then oj_X1_explore_122 T (oF κ T n) κ k76 (some j) (nI k) (some m) (b01 h) (nI P.length) (nI Tr.length) (nI q) (nI i) (some j) v31 1 σ2 else oj_X1_explore_122 T (oF κ T n) κ k76 (some j) (nI k) (some m) (b01 h) (nI P.length) (nI Tr.length) (nI q) (nI i) (some j) v31 (-1) σ2) else obn (ovr (ofd σ2 (some m) 7 18)) fun v18 => obn (oob σ2 v18 1) fun a20 => orn (oF κ T n 234 [va_rf v18, .int (nI i)] σ2) fun r24 s22 => ogd (ocs s22 r24 7) (obn (oob s22 (some j) 3) fun a26 => ocv (oF κ T n 56 [va_rf (some j), va_rf r24, .int (b01 h)] s22) fun s28 => oj_X1_explore_146 T (oF κ T n) κ k76 (some j) (nI k) (some m) (b01 h) (nI P.length) (nI Tr.length) (nI q) (nI i) s28)) = ocv R (fun s28 => oj_X1_explore_146 T (oF κ T n) κ k76 (some j) (nI k) (some m) (b01 h) (nI P.length) (nI Tr.length) (nI q) (nI i) s28) ∧ aOut X Hm κ j o ca2 pa ph ta th len2 W (b + W * W) c 1 rd wk ps2 B sl ti Mn R Bi a' σ2 f2 P Tr L ∧ a' + 1 ≤ a) → xpO X j o pa ph ta th W rd wk Rp (oj_X1_explore_71 T (oF κ T n) κ (some j) (nI k) (some m) (b01 h) (nI P.length) (nI Tr.length) (nI q) σ) (fun x => exL (pMn Mn (P.drop k)) (kFe (fun L => ¬ Q x L)) L (tMn ti Tr)) len b 0 f P Tr S σ := by
      intro q Bs hBl hq40 hBm way
      have hKd : ∀ x : α, kDd (kFe (fun L => ¬ Q x L)) := fun x => kFe.d (fun L L' e w w' => w (hq.1 x L' L e.symm w'))
      have loop : ∀ (d i t : Nat) (σ1 : oSt) (ca1 len1 : Nat) (f1 : Nat → Int64) (ps1 : Int32) (S1 : List α), i + d = q → d < t → jKw X pa ph ta th σ σ1 → jSt σ1 j o ca1 pa ph ta th len1 W b 1 0 f1 rd wk ps1 P Tr → oQn W b L f1 0 → b + W * W ≤ len1 → len1 ≤ 201600 → (∀ q, σ1.2.1 ≤ q → σ1.1 q = none) → Rp σ1 ps1 S1 → xpO X j o pa ph ta th W rd wk Rp (ol_X1_explore_76 T (oF κ T n) κ t (some j) (nI k) (some m) (b01 h) (nI P.length) (nI Tr.length) (nI q) (nI i) σ1) (fun x => exB (brAny (Bs.drop i)) (exL (pMn Mn (P.drop (k + 1))) (kFe (fun L => ¬ Q x L))) L (tMn ti Tr)) len1 b 0 f1 P Tr S1 σ1 := by
        intro d
        induction d with
        | zero =>
          intro i t σ1 ca1 len1 f1 ps1 S1 hi ht K1 J1 V1 hb1 hl1 hf1 R1
          obtain ⟨t, rfl⟩ : ∃ t', t = t' + 1 := ⟨t - 1, by omega⟩
          refine ⟨σ1, ca1, len1, f1, ps1, ?_, J1, jKw.rf _, gMo.refl _ _, hl1, fun _ _ => rfl, ?_⟩
          · rw [ol_X1_explore_76, if_pos (nI_le (by omega) (by omega))]
          · rw [fQ_all]
            · exact R1
            · intro x _ hE
              rw [List.drop_of_length_le (by omega)] at hE
              exact exB.nil.mp hE
        | succ d ihd =>
          intro i t σ1 ca1 len1 f1 ps1 S1 hi ht K1 J1 V1 hb1 hl1 hf1 R1
          obtain ⟨t, rfl⟩ : ∃ t', t = t' + 1 := ⟨t - 1, by omega⟩
          obtain ⟨n', hn'⟩ : ∃ n', n = n' + 3 := ⟨n - 3, by omega⟩
          have dec : oF κ T n 60 [va_rf (some j)] σ1 = some (some (.int (b01 S1.isEmpty)), σ1) := by
            rw [hn']
            exact hq.2.2.1 (n' + 2) σ1 ca1 len1 b 0 f1 ps1 P Tr S1 J1 R1
          rw [ol_X1_explore_76, if_neg (nI_ge (by omega) (by omega)), oob_at J1.1, obn_at, dec, oin_at]
          cases eS : S1 with
          | nil =>
            rw [if_neg (show ¬ b01 ([] : List α).isEmpty = 0 from (by decide : ¬ b01 true = 0))]
            refine ⟨σ1, ca1, len1, f1, ps1, rfl, J1, jKw.rf _, gMo.refl _ _, hl1, fun _ _ => rfl, ?_⟩
            rw [fQ_nil, ← eS]
            exact R1
          | cons s0 S0 =>
            rw [if_pos (show b01 (s0 :: S0).isEmpty = 0 from (by decide : b01 false = 0)), ← eS]
            have g0 : ofd σ1 (some j) 3 0 = some (.ref o) := ofd_at J1.1
            have lev2 : b + 2 * (W * W) ≤ 100800 := by
              have : 2 * (W * W) ≤ (a + (Z.map Prod.snd).sum + 1) * (W * W) := Nat.mul_le_mul_right _ (by omega)
              omega
            obtain ⟨σ2, ca2, len2, f2, r1, r2, r3, r4, r5, r6, r7, r8⟩ := j_rise (κ := κ) (T := T) (n := n') hW120 J1 V1 hl1 hb1 lev2 hf1
            rw [← hn'] at r1
            rw [g0, ovr_rf, obn_at, oob_at J1.2.1.1, obn_at, r1, ocv_at]
            have hiB : i < Bs.length := by omega
            obtain ⟨R, a', w1, ⟨σ3, f3, fa3, P3, Tr3, L3, b1, b2, ⟨b3, b4⟩, b5, b6, b7, ⟨b8, b8'⟩, ⟨⟨Zn, z1, z2, z3, z4⟩, Y, b10⟩, b12, b13⟩, w3⟩ := way i Bs[i] (List.getElem?_eq_getElem hiB) (ol_X1_explore_76 T (oF κ T n) κ t) σ2 ca2 len2 f2 ps1 (K1.tr r3.w) r2 r7 r5 r6
            rw [w1, b1, ocv_at]
            unfold oj_X1_explore_146
            rw [oob_at b2.1, obn_at, nI_p1]
            have K3 : jKw X pa ph ta th σ σ3 := (K1.tr r3.w).tr b3.w
            have V3 : oQn W (b + W * W) L3 f3 fa3 := by
              rcases b5 with ⟨e, -⟩ | ⟨-, h⟩
              · exact absurd e (by decide)
              · exact h
            have hz1 : ∀ z, z ∈ Zn → 1 ≤ z.2 := fun z hz => (z3 z hz).1.nd.2
            have wle := wZ_le Zn hz1
            have lz : (Zn.map Prod.fst).length = Zn.length := List.length_map ..
            have l3 : P3.length = P.length + Zn.length := by rw [z1, List.length_append, lz]
            have wap := wZ_app Z Zn
            have lT : Tr3.length = Tr.length + Y.length := by rw [b10, List.length_append]
            have dr3 : P3.drop (k + 1) = (Z ++ Zn).map Prod.fst := by
              rw [z1, List.drop_append_of_le_length (by omega), dr, List.map_append]
            have sap : ((Z ++ Zn).map Prod.snd).sum = (Z.map Prod.snd).sum + (Zn.map Prod.snd).sum := by rw [List.map_append, List.sum_append]
            have lev3 : b + W * W + (((Z ++ Zn).map Prod.snd).sum + 1) * (W * W) ≤ 100800 := by
              have : (((Z ++ Zn).map Prod.snd).sum + 2) * (W * W) ≤ (a + (Z.map Prod.snd).sum + 1) * (W * W) := Nat.mul_le_mul_right _ (by omega)
              have e : (((Z ++ Zn).map Prod.snd).sum + 2) * (W * W) = (((Z ++ Zn).map Prod.snd).sum + 1) * (W * W) + W * W := by rw [Nat.add_mul, Nat.add_mul]; omega
              omega
            obtain ⟨σ4, ca4, len4, f4, ps4, q1, q2, q3, q4, q5, q6, q7⟩ := ih (wZ (Z ++ Zn)) (by omega) (k + 1) n σ3 ca2 len2 (b + W * W) fa3 f3 ps1 P3 Tr3 L3 S1 (Z ++ Zn) (Nat.le_refl _) (by rw [List.length_append]; rw [List.length_cons] at hkl; omega) dr3 (fun z hz => by
              rcases List.mem_append.mp hz with hz | hz
              · obtain ⟨u1, u2⟩ := hM z (List.mem_cons_of_mem _ hz)
                exact ⟨jMn.jw K3 _ _ _ u1, u2.jw K3⟩
              · exact z3 z hz) (by omega) (by rw [List.map_append, List.sum_append]; omega) (by omega) b2 V3 b6 (b12 hco) (by omega) r6 lev3 (b3.fr (r3.fr hf1)) (hq.2.1 _ _ _ _ b3 (hq.2.1 _ _ _ _ r3 R1))
            rw [q1, ocv_at]
            have g4 : ofd σ4 (some j) 3 0 = some (.ref o) := ofd_at q2.1
            have hb6 : b < 60000000 := by omega
            obtain ⟨σ5, s1, s2, s3, s4⟩ := j_sink (κ := κ) (T := T) (n := n' + 2) hW120 hb6 q2
            have hn'' : n = n' + 2 + 1 := hn'
            rw [← hn''] at s1
            rw [g4, ovr_rf, obn_at, oob_at q2.2.1.1, obn_at, s1, ocv_at]
            rw [z1, b10] at s2
            obtain ⟨s13, σ6, c1, c2, c3, c4, c5⟩ := s2.cut
            rw [c1, obn_at, c2, obn_at, nI_p1]
            have f41 : ∀ e, e < b + W * W → f4 e = f1 e := fun e he => by
              rw [q6 e (by omega), b7 e (Or.inl he), r8 e he]
            have K6 : jKw X pa ph ta th σ1 σ6 := (((r3.w.tr b3.w).tr q3).tr s3.w).tr c4.w
            have gm3 : gMo len1 len2 σ1 σ3 := by
              have : gMo len2 len2 σ2 σ3 := gMo.of2 b4
              exact r4.trans this
            have gm6 : gMo len1 len4 σ1 σ6 := (gm3.trans q4).trans ((gMo.of2 s4).trans (gMo.of2 c5))
            have len14 : len1 ≤ len4 := gm6.1
            obtain ⟨σ', ca', len', f', ps', u1, u2, u3, u4, u5, u6, u7⟩ := ihd (i + 1) t σ6 ca4 len4 f4 ps4 (fQz (fun x => ¬ exL (pMn Mn (P3.drop (k + 1))) (kFe (fun L => ¬ Q x L)) L3 (tMn ti Tr3)) S1) (by omega) (by omega) (K1.tr K6) c3 (V1.lv f41) (by omega) q5 (K6.fr hf1) (hq.2.1 _ _ _ _ c4 (hq.2.1 _ _ _ _ s3 q7))
            refine ⟨σ', ca', len', f', ps', u1, u2, K6.tr u3, gm6.trans u4, u5, fun e he => (u6 e he).trans (f41 e he), ?_⟩
            rw [fQ_fQ] at u7
            rw [fQ_cg (R := fun x => (¬ exL (pMn Mn (P3.drop (k + 1))) (kFe (fun L => ¬ Q x L)) L3 (tMn ti Tr3)) ∧ ¬ exB (brAny (Bs.drop (i + 1))) (exL (pMn Mn (P.drop (k + 1))) (kFe (fun L => ¬ Q x L))) L (tMn ti Tr))]
            · exact u7
            · intro x _
              have ed : Bs.drop i = Bs[i] :: Bs.drop (i + 1) := List.drop_eq_getElem_cons hiB
              have e3 : pMn Mn (P3.drop (k + 1)) = pMn Mn (P.drop (k + 1)) ++ pMn Mn (Zn.map Prod.fst) := by
                rw [dr3, dr]
                unfold pMn
                rw [List.map_append, List.map_append]
              rw [ed]
              show ¬ exB (Bs[i] ++ brAny (Bs.drop (i + 1))) _ _ _ ↔ _
              rw [exB.or, e3, exL.app, exL.swap (hKd x).1, z4 _ (exL.d (hKd x) _)]
              exact not_or
      obtain ⟨σ', ca', len', f', ps', u1, u2, u3, u4, u5, u6, u7⟩ := loop q 0 T σ ca len f ps S (Nat.zero_add _) (by omega) (jKw.rf σ) J hv hb hlen hfr hR
      refine ⟨σ', ca', len', f', ps', u1, u2, u3, u4, u5, u6, ?_⟩
      rw [drk]
      show Rp σ' ps' (fQz (fun x => ¬ exB (Mn m h) _ L (tMn ti Tr)) S)
      rw [hBm]
      exact u7
    -- which node
    obtain ⟨fs', h7', hW0⟩ := hW0
    match Hm, hM0, main, hn with
    | 0, hM0, _, _ => exact False.elim hM0
    | Hk + 1, hM0, main, hn =>
    obtain ⟨fs, h7, h0, hM1⟩ := hM0
    have efs : fs' = fs := by
      rw [h7] at h7'
      injection h7' with e
      injection e with e
      injection e with e e2
      exact e2.symm
    subst efs
    have no : ∀ v w : Int32, fs'[0]? = some (.int v) → fs'[0]? = some (.int w) → v = w := fun v w e1 e2 => by
      rw [e1] at e2
      injection e2 with e2
      injection e2
    have kd : ∀ v : Int32, fs'[0]? = some (.int v) → v = 403 ∨ v = 303 ∨ v = 302 := fun v e => by
      rcases hW0 with w | ⟨w, -⟩
      · have := no _ _ e w
        cases h
        · exact Or.inr (Or.inr this)
        · exact Or.inr (Or.inl this)
      · exact Or.inl (no _ _ e w)
    rcases hM1 with ⟨e, x, e1, e2, e3⟩ | ⟨an, li, dd, cap, q, mc, g, xs, e, e1, e2, ⟨e3, e9⟩, e4, e5, e6, e7, e8⟩ | ⟨bo, e, e3⟩ | ⟨x, gs, e, e1, e2, e3⟩ | ⟨su, Ls, pl, r, e, e1, e2, e4, ⟨e5, e6⟩, e3⟩
    · exact absurd (kd _ e) (by decide)
    · have hne : an ≠ h := fun z => by
        rcases hW0 with w | ⟨w, -⟩
        · have := no _ _ e w
          rw [z] at this
          revert this
          cases h <;> decide
        · have := no _ _ e w
          revert this
          cases an <;> decide
      have k403 : ¬ (if an = true then (302 : Int32) else 303) = 403 := by cases an <;> decide
      have f0 : ofd σ (some m) 7 0 = some (.int (if an = true then 302 else 303)) := (ofd_at h7).trans e
      have f18 : ofd σ (some m) 7 18 = some (.ref li) := (ofd_at h7).trans e1
      obtain ⟨n', hn'⟩ : ∃ n', n = n' + 3 := ⟨n - 3, by omega⟩
      have sz : oF κ T n 236 [va_rf (some li)] σ = some (some (.int (nI q)), σ) := by
        rw [hn']
        exact l_sz (n := n' + 2) e2
      have xpos : ∀ z, z ∈ xs → 1 ≤ z.2 := fun y hy => by
        obtain ⟨i, hi, ei⟩ := List.getElem_of_mem hy
        exact ((e6 i y (by rw [List.getElem?_eq_getElem hi, ei])).2).nd.2
      have hq40 : q ≤ 40 := by
        have := sum_one xs 0 xs[0] xpos (List.getElem?_eq_getElem (by omega))
        have := xpos xs[0] (List.getElem_mem _)
        omega
      rw [f0, ovi_i, obn_at, if_neg k403, f18, ovr_rf, obn_at, oob_at e2.1, obn_at, sz, oin_at]
      refine main q (xs.map (fun x => Mn x.1 h)) (by rw [List.length_map]; exact e3) hq40 (by rw [e8 h, if_neg hne]) (fun i Bi hBi k76 σ2 ca2 len2 f2 ps2 K2 J2 V2 hb2 hl2 => ?_)
      obtain ⟨x, hx, rfl⟩ : ∃ x, xs[i]? = some x ∧ Mn x.1 h = Bi := by
        rw [List.getElem?_map] at hBi
        cases ex : xs[i]? with
        | none => rw [ex] at hBi; cases hBi
        | some x => rw [ex] at hBi; exact ⟨x, rfl, Option.some.inj hBi⟩
      obtain ⟨gk, mk⟩ := e6 i x hx
      have hiq : i < q := by rw [← e3]; exact (List.getElem?_eq_some_iff.mp hx).1
      have h72 := K2.ob h7 (by decide) (by decide) (by decide)
      have c2 := e2.jw K2 e4 e5
      have mk2 := jMn.jw K2 _ _ _ mk
      obtain ⟨⟨xf, hx7⟩, hx1⟩ := mk2.nd
      have lq : oLs σ2 (some li) q g := c2.o (by omega)
      have lg := l_get (κ := κ) (T := T) (n := n') (j := i) lq hiq
      rw [gk, ← hn'] at lg
      have cs : ocs σ2 (some x.1) 7 = true := by simp only [ocs, hx7, decide_true]
      have so := sum_one xs i x xpos hx
      refine ⟨oF κ T n 56 [va_rf (some j), va_rf (some x.1), .int (b01 h)] σ2, x.2, ?_, (c_assume (κ := κ) (T := T) hT hc hWc (by omega) (by omega) hB hBW Hk x.2 x.1 n σ2 f2 0 P Tr L h (by omega) mk2 J2 (Or.inr ⟨rfl, V2⟩) hL (by omega) (by omega)).mono, by omega⟩
      rw [show ofd σ2 (some m) 7 0 = _ from (ofd_at h72).trans e, ovi_i, obn_at, if_neg k403, show ofd σ2 (some m) 7 18 = _ from (ofd_at h72).trans e1, ovr_rf, obn_at, oob_at c2.1, obn_at, lg, orn_at, ogd_at cs, oob_at J2.1, obn_at]
    · have := kd _ e
      cases bo <;> exact absurd this (by decide)
    · exact absurd (kd _ e) (by decide)
    · have f0 : ofd σ (some m) 7 0 = some (.int 403) := (ofd_at h7).trans e
      have hr5 : (if h = true then r else rNo r) = 5 := by
        rcases hW0 with w | ⟨-, r', w1, w2, w3⟩
        · have := no _ _ e w
          exfalso
          revert this
          cases h <;> decide
        · have : r = r' := jRc_inj r (by omega) r' (by omega) (by
            rw [e1] at w1
            injection w1 with w1
            injection w1)
          rw [this]
          exact w3
      obtain ⟨n', hn'⟩ : ∃ n', n = n' + 3 := ⟨n - 3, by omega⟩
      rw [f0, ovi_i, obn_at, if_pos rfl]
      refine main 2 [[([cmL (sMp sl Ls) pl.toInt 1 1], [])], [([cmL (sMp sl Ls) pl.toInt (-1) 1], [])]] rfl (by decide) (by rw [e3 h, hr5]; rfl) (fun i Bi hBi k76 σ2 ca2 len2 f2 ps2 K2 J2 V2 hb2 hl2 => ?_)
      have h72 := K2.ob h7 (by decide) (by decide) (by decide)
      have s2 := e5.jw K2 e6
      have i2 : i = 0 ∨ i = 1 := by
        have := (List.getElem?_eq_some_iff.mp hBi).1
        have : i < 2 := this
        omega
      have e11 : (1 : Int32).toInt = 1 := by decide
      have e12 : (-1 : Int32).toInt = -1 := by decide
      have lim : ∀ s : Int32, (s = 1 ∨ s = -1) → aOut X (Hk + 1) κ j o ca2 pa ph ta th len2 W (b + W * W) c 1 rd wk ps2 B sl ti Mn (oF κ T n 54 [va_rf (some j), va_rf (some su), .int s, .int 1] σ2) [([cmL (sMp sl Ls) pl.toInt s.toInt 1], [])] 0 σ2 f2 P Tr L := fun s hs => by
        have := aOut.lim (κ := κ) (T := T) (n := n') (H := Hk + 1) (X := X) (Mn := Mn) (ti := ti) (le := 1) hT hc hWc (by omega) (by omega) (by omega) hBW hL J2 (Or.inr ⟨rfl, V2⟩) s2 hs (Or.inr rfl)
        rw [← hn', e11] at this
        exact this
      have f02 : ofd σ2 (some m) 7 0 = some (.int 403) := (ofd_at h72).trans e
      have f192 : ofd σ2 (some m) 7 19 = some (.ref su) := (ofd_at h72).trans e4
      rcases i2 with rfl | rfl
      · have eB : [([cmL (sMp sl Ls) pl.toInt 1 1], [])] = Bi := Option.some.inj hBi
        subst eB
        have l1 := lim 1 (Or.inl rfl)
        rw [e11] at l1
        refine ⟨_, 0, ?_, l1, wpos⟩
        rw [f02, ovi_i, obn_at, if_pos rfl, f192, ovr_rf, obn_at, if_pos (show nI 0 = 0 from rfl)]
        unfold oj_X1_explore_122
        rw [oob_at J2.1, obn_at]
      · have eB : [([cmL (sMp sl Ls) pl.toInt (-1) 1], [])] = Bi := Option.some.inj hBi
        subst eB
        have l1 := lim (-1) (Or.inr rfl)
        rw [e12] at l1
        refine ⟨_, 0, ?_, l1, wpos⟩
        rw [f02, ovi_i, obn_at, if_pos rfl, f192, ovr_rf, obn_at, if_neg (show ¬ nI 1 = 0 by decide)]
        unfold oj_X1_explore_122
        rw [oob_at J2.1, obn_at]
end JXP
