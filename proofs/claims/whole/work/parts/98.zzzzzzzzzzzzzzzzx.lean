/-! **the reference: isSo()** as a whole -/
/-- what must be SO and can be asked -/
def nGd (T cnt : Nat) (kk pp ee f R : Nat → Int32) (L : List Nat) (Γ : uGm) (B : Int) (x : gNd) : Prop := qSg T cnt kk pp ee f R L Γ B x.1 ∧ ((∀ u, u ∈ x.2.2.2.2.2.1 → u ∈ L) ∧ x.2.2.2.2.2.1.length ≤ 12) ∧ (x.2.2.1 = 0 → qSg T cnt kk pp ee f R L Γ B (.inr (.inl (x.2.2.2.1, x.2.2.2.2.2.1), false) :: x.1)) ∧ (x.2.2.1 ≠ 0 → (pOk cnt x.2.2.2.2.1 ∧ sGd cnt x.2.2.2.2.1 ∧ rWs f pp ee R L x.2.2.2.2.2.1 (sEv x.2.2.2.2.1)) ∧ (x.2.2.1 = 3 → x.2.2.2.2.2.2 ∈ x.2.2.2.2.2.1) ∧ ∀ kd, (kd = x.2.2.1 ∨ (x.2.2.1 = 3 ∧ kd = 2)) → sFa (nLi (nFind f pp ee x.2.2.2.2.2.1) kd x.2.2.2.2.2.2 x.2.2.2.2.1) = true → (∀ q, q ∈ nLi (nFind f pp ee x.2.2.2.2.2.1) kd x.2.2.2.2.2.2 x.2.2.2.2.1 → Sum.inl q.1 ∈ (scN x.1).map Prod.fst) ∧ (-1125899906842624 ≤ (nLs T f pp ee 1 x.2.2.2.2.1 0).toInt ∧ (nLs T f pp ee 1 x.2.2.2.2.1 0).toInt ≤ 1125899906842624) ∧ -B ≤ 2 * (nLs T f pp ee 1 x.2.2.2.2.1 0).toInt - 2 ∧ 2 * (nLs T f pp ee 1 x.2.2.2.2.1 0).toInt + 2 ≤ B)
/-- **it is SO** -/
def nSo (T : Nat) (f pp ee R R6 : Nat → Int32) (al : Nat × List Bool → Nat → Bool) (Γ : uGm) (x : gNd × Nat) : Prop := if x.2 = 0 then ¬ exL (qWy T f pp ee R (.inr (.inl (x.1.2.2.2.1, x.1.2.2.2.2.2.1), false) :: x.1.1)) (kFe (fun _ => True)) (qLm al Γ R6 x.1.1 none) [] else sFa (nLi (nFind f pp ee x.1.2.2.2.2.2.1) x.2 x.1.2.2.2.2.2.2 x.1.2.2.2.2.1) = true ∧ ¬ exL (qWy T f pp ee R x.1.1) (kFe (fun _ => True)) (nLm x.2 ((nLi (nFind f pp ee x.1.2.2.2.2.2.1) x.2 x.1.2.2.2.2.2.2 x.1.2.2.2.2.1).map (fun q => (gSl ((scN x.1.1).map Prod.fst) (.inl q.1), q.2.toInt))) (nLs T f pp ee 1 x.1.2.2.2.2.1 0).toInt ++ qLm al Γ R6 x.1.1 none) []
section ISW
variable {ks : Nat → Nat} {qs : List Nat} {T n h0 len cnt lo N Ss P A c : Nat} {Γ : uGm} {V0 τ : zSt} {v : Nat → Nat} {CD : tT → Nat → Prop} {L ns : List Nat} {kk pp ee f : Nat → Int32} {B : Int}
theorem qWy_n (R : Nat → Int32) (x : gCd × Bool) (sc : List gEn) : scN (.inr x :: sc) = scN sc ∧ scC (.inr x :: sc) = x :: scC sc := ⟨rfl, rfl⟩
/-- a line of measured NAMES -/
theorem lFo_of {V : zSt} {M : List (Nat × Int32)} {S : List gN} {sl : gN → Nat} (hN : rNu (V.2.2.1 32) L) (hL : ∀ q, q ∈ M → q.1 ∈ L) (hco : rCo V ns) (hcl : ns.length = c) (hc : c ≤ 60) (hS : ∀ y, y ∈ S → ns[sl y]? = some (Γ.1 y)) (hΓ : ∀ u, u ∈ L → Γ.1 (.inl u) = nuO (V.2.2.1 32) u) (hM : ∀ q, q ∈ M → Sum.inl q.1 ∈ S) (hni : sNi M) (hl : M.length ≤ 2) (h2 : ∀ q, q ∈ M → -2 ≤ q.2.toInt ∧ q.2.toInt ≤ 2) : lFo V c (rMp (nuO (V.2.2.1 32)) M) ∧ dLn V (rMp (nuO (V.2.2.1 32)) M) = M.map (fun q => (sl (.inl q.1), q.2.toInt)) := by
  have col : ∀ q, q ∈ M → V.2.2.1 89 (nuO (V.2.2.1 32) q.1) = nI (sl (.inl q.1)) ∧ sl (.inl q.1) < c ∧ nuO (V.2.2.1 32) q.1 < 700 := fun q hq => by
    have h := hS _ (hM q hq)
    obtain ⟨-, -, q3⟩ := hco.2.2.2.1 _ _ h
    have := get_lt h
    rw [hΓ _ (hL q hq)] at q3
    exact ⟨q3, by omega, (hN.at (hL q hq)).2.2⟩
  have hcl' : ∀ q, q ∈ M → cOl V (nuO (V.2.2.1 32) q.1) = sl (.inl q.1) := fun q hq => by
    obtain ⟨c1, c2, -⟩ := col q hq
    unfold cOl
    rw [c1, nI_clamp (by omega)]
  refine ⟨⟨by rw [rMp_len]; exact hl, fun q hq => ?_, fun q q' e => ?_⟩, ?_⟩
  · obtain ⟨q0, hq0, rfl⟩ := List.mem_map.mp hq
    obtain ⟨c1, c2, c3⟩ := col q0 hq0
    refine ⟨by show nuO _ q0.1 < 1501; omega, ?_, ?_, (h2 q0 hq0).1, (h2 q0 hq0).2, i32_ne0.mp (hni.2 q0 hq0)⟩
    · show V.2.2.1 89 (nuO _ q0.1) = nI (cOl V (nuO _ q0.1))
      rw [hcl' q0 hq0]
      exact c1
    · show cOl V (nuO _ q0.1) < c
      rw [hcl' q0 hq0]
      exact c2
  · match M, e, hni, hcl', hM, hL with
    | [q0, q1], e, hni, hcl', hM, hL =>
      have e : [(nuO (V.2.2.1 32) q0.1, q0.2), (nuO (V.2.2.1 32) q1.1, q1.2)] = [q, q'] := e
      injection e with e e'
      injection e' with e' _
      subst e e'
      show cOl V (nuO _ q0.1) ≠ cOl V (nuO _ q1.1)
      rw [hcl' q0 (by simp), hcl' q1 (by simp)]
      intro z
      have h0 := hS _ (hM q0 (by simp))
      rw [z, hS _ (hM q1 (by simp))] at h0
      injection h0 with h0
      rw [hΓ _ (hL q1 (by simp)), hΓ _ (hL q0 (by simp))] at h0
      have h0 := hN.inj _ _ (hL q1 (by simp)) (hL q0 (by simp)) h0
      have nd : [q0.1, q1.1].Nodup := hni.1
      rw [h0] at nd
      simp at nd
    | [], e, _, _, _, _ => cases e
    | [_], e, _, _, _, _ => cases e
    | _ :: _ :: _ :: _, e, _, _, _, _ => exact absurd (congrArg List.length e) (by show _ + 1 + 1 + 1 ≠ 2; omega)
  · unfold dLn rMp
    rw [List.map_map]
    exact List.map_congr_left (fun q hq => by show (cOl V (nuO _ q.1), _) = (sl (.inl q.1), _); rw [hcl' q hq])
/-- the end of isSo() -/
theorem r_sEnd {σ : zSt} {p : Prop} (h01 : σ.1 154 = 0 ∨ σ.1 154 = 1) (h : σ.1 154 = 1 ↔ p) : ∃ b : Bool, (if (σ.1 154) = 0 then some (some (Value.int 1), σ) else some (some (Value.int 0), σ) : zRs) = some (some (.int (b01 b)), σ) ∧ (b = true ↔ ¬ p) := by
  rcases h01 with e | e
  · rw [if_pos e]
    exact ⟨true, rfl, ⟨fun _ q => absurd (h.mpr q) (by rw [e]; decide), fun _ => rfl⟩⟩
  · rw [if_neg (by rw [e]; decide)]
    exact ⟨false, rfl, ⟨fun q => (by cases q), fun q => absurd (h.mp e) q⟩⟩
set_option maxHeartbeats 2000000 in
/-- a C that must hold -/
theorem r_so0 {i : Nat} {x : gNd} (X : qCx T len cnt lo N Ss P A L τ kk pp ee f CD Γ v B qs) (hn : 1300 ≤ n) (hV : uVn τ v) (h110 : v 110 < 12000) (hco : rCo τ ns) (hx : uNr CD pp V0 Ss P Γ v τ i (x, 0)) (Q : nGd T cnt kk pp ee f (τ.2.2.1 32) L Γ B x) (hx0 : x.2.2.1 = 0) : ∃ τ1 τ' ns' b, zF h0 qs ks T (n + 7) 109 [.ref h0, .int (nI i)] τ = some (some (.int (b01 b)), τ') ∧ (uVn τ1 (uUp v 110) ∧ uFr v τ τ1 ∧ ∀ k, k ≠ 71 → k ≠ 72 → k ≠ 73 → τ1.2.2.1 k = τ.2.2.1 k) ∧ qF τ1 τ' ∧ rCo τ' ns' ∧ (b = true ↔ nSo T f pp ee (τ.2.2.1 32) (τ.2.2.1 66) (alV Γ τ) Γ (x, 0)) := by
  obtain ⟨X1, X2, X3, X4, X5, X6, X7⟩ := id X
  obtain ⟨sc, pl, kd, C, ps, env, u⟩ := x
  obtain ⟨i1, e79, hm, e81, hS, e84⟩ := hx
  rw [if_pos rfl] at hm
  obtain ⟨m, e80, m21, mCD⟩ := hm
  obtain ⟨-, -, Q0, -⟩ := Q
  have Q0 := Q0 hx0
  have i21 : i < 2100 := by have : v 123 ≤ 2100 := X3 123; omega
  rw [show n + 7 = (n + 6) + 1 from rfl, zE_isSo]
  unfold b_isSo
  simp only [zlet]
  iterate 3 rw [zgd_at (zin_n i21 (by decide))]
  have E : ∀ k, (zI τ 155 (-1)).2.2.1 k = τ.2.2.1 k := fun _ => rfl
  rw [nI_clamp (show i < 2 ^ 31 by omega), E, e79, if_pos (show nI 0 = 0 from rfl), zgd_at (zin_n i21 (by decide)), E, E, E, e80]
  have hV1 : uVn (zI τ 155 (-1)) v := fun k hk => by
    obtain ⟨a, b⟩ := hV k hk
    refine ⟨?_, b⟩
    rw [← a]
    exact if_neg (fun e => by rw [e] at hk; exact absurd hk (by decide))
  obtain ⟨τ1, a1, a2, a3, a4, a5, a6, a7, a8⟩ := r_gone (h0 := h0) (qs := qs) (ks := ks) (T := T) (n := n + 5) (x1 := τ.2.2.1 83 i) (x2 := nI m) (x3 := 0) hV1 h110
  have a1 : zF h0 qs ks T (n + 6) 74 [.ref h0, .int (τ.2.2.1 83 i), .int (nI m), .int 0] (zI τ 155 (-1)) = _ := a1
  have aR := r_gonR hV1 h110 a1
  rw [a1, zci_at]
  have hle := uUp_le v 110
  -- the same without the question's mark
  have F1 : uFr v τ (zI τ1 155 (τ.1 155)) := ⟨fun k h1 h2 h3 => by
    by_cases z : k = 155
    · rw [z]; rfl
    · exact (if_neg z).trans ((a3.1 k h1 h2 h3).trans (if_neg z)), a3.2.1, a3.2.2.1, a3.2.2.2⟩
  have V1 : uVn (zI τ1 155 (τ.1 155)) (uUp v 110) := fun k hk => by
    obtain ⟨a, b⟩ := a2 k hk
    refine ⟨?_, b⟩
    rw [← a]
    exact if_neg (fun e => by rw [e] at hk; exact absurd hk (by decide))
  have q01 : qF (zI τ1 155 (τ.1 155)) τ1 := ⟨fun k hk => (if_neg (fun e => hk (by rw [e]; decide))).symm, fun _ _ => rfl, fun _ _ => rfl, fun _ _ => rfl⟩
  have r40 : ∀ k, k < 40 → τ1.2.2.1 k = τ.2.2.1 k := fun k hk => aR k (by omega) (by omega) (by omega)
  have X' : qCx T len cnt lo N Ss P A L τ1 kk pp ee f CD Γ (uUp v 110) B qs := ⟨X1.lo r40, X2.q (fun k _ z => r40 k (by omega)), fun k => by
    unfold uUp
    by_cases z : k = 110
    · rw [if_pos z, z]; show v 110 + 1 ≤ 12000; omega
    · rw [if_neg z]; exact X3 k, by rw [r40 32 (by decide)]; exact X4, X5, X6, X7⟩
  have row : ∀ k, (k = 65 ∨ k = 61 ∨ k = 66 ∨ k = 89 ∨ k = 90) → True := fun _ _ => trivial
  have hS1 := hS.up hle (τ' := zI τ1 155 (τ.1 155)) F1
  have hS2 : uSc 200 CD Γ (uUp v 110) τ1 sc (τ.2.2.1 82 i) (τ.2.2.1 83 i) := ⟨by
    obtain ⟨⟨ch, c1, c2, c3⟩, -⟩ := hS1
    exact ⟨ch, c1, c2, uEv.q q01.q _ _ c3⟩, uGo.q q01.q _ _ hS1.2⟩
  have hS3 : uSc 200 CD Γ (uUp v 110) τ1 (.inr (.inl (C, env), false) :: sc) (τ.2.2.1 82 i) (nI (v 110)) := ⟨hS2.1, ⟨v 110, ⟨rfl, by rw [uUp_at]; omega⟩, by rw [a4.2.1]; rfl, ⟨m, a4.1, m21, mCD⟩, by rw [a4.2.2]; exact hS2.2⟩⟩
  have Q0' : qSg T cnt kk pp ee f (τ1.2.2.1 32) L Γ B (.inr (.inl (C, env), false) :: sc) := by rw [r40 32 (by decide)]; exact Q0
  obtain ⟨Q1, Q2, Q3, Q4, Q5, Q6, Q7, Q8, Q9⟩ := id Q0'
  have e131 : τ1.1 131 = τ.1 131 := (a3.1 131 (by decide) (by decide) (by decide)).trans rfl
  have e89 : τ1.2.2.1 89 = τ.2.2.1 89 := aR 89 (by decide) (by decide) (by decide)
  have e90 : τ1.2.2.1 90 = τ.2.2.1 90 := aR 90 (by decide) (by decide) (by decide)
  have e155 : τ1.1 155 = -1 := (a3.1 155 (by decide) (by decide) (by decide)).trans rfl
  obtain ⟨V, τ3, Sk, c1, c2, c3, c4, c5, c6, c7, c8⟩ := r_under (h0 := h0) (qs := qs) (ks := ks) (T := T) (n := n) (τ := τ1) (sc := .inr (.inl (C, env), false) :: sc) (x1 := τ.2.2.1 82 i) (x2 := nI (v 110)) (x3 := -1) (lf := none) (ns0 := ns) (B := B) X7 hn X'.2.2.1 X'.1 X'.2.1 (hco.cg e131 e89 e90) hS3 Q1 Q2 Q3 X'.2.2.2.1 Q4 Q5 Q6 Q7 rfl (Or.inl e155) ⟨by omega, by omega⟩
  rw [c1, zci_at, if_neg (by decide)]
  have qV : qF τ1 V := qF.u c2
  have e32V : V.2.2.1 32 = τ1.2.2.1 32 := qV.lo (by decide)
  obtain ⟨τ4, d1, d2, d01, d3⟩ := r_goN (h0 := h0) (qs := qs) (ks := ks) (n := n + 6) (τ := τ3) (Ws := []) (sc := .inr (.inl (C, env), false) :: sc) (sc' := []) (X'.ro (fun k hk => qV.lo hk)) (by rw [e32V]; exact Q0') (by omega) c6 c7 c8 ((c2.1 155 (by decide)).trans e155) ⟨by decide, fun w hw => by cases hw⟩ c3
  rw [d1, zcv_at]
  unfold j_isSo_57
  have e154 : τ3.1 154 = 0 := by rw [c4.1]; exact c5
  have d3 : τ4.1 154 = 1 ↔ exL (qWy T f pp ee (τ.2.2.1 32) (.inr (.inl (C, env), false) :: sc)) (kFe (fun _ => True)) (qLm (alV Γ τ) Γ (τ.2.2.1 66) sc none) [] := by
    rw [d3, e154, e32V, r40 32 (by decide)]
    have eal : alV Γ τ1 = alV Γ τ := by
      funext kp j
      unfold alV
      rw [aR 65 (by decide) (by decide) (by decide), aR 61 (by decide) (by decide) (by decide)]
      rfl
    have e66 : τ1.2.2.1 66 = τ.2.2.1 66 := a5 66 (by unfold uAy; omega)
    have eq : (List.map wLm [] ++ ((scN (.inr (.inl (C, env), false) :: sc)).flatMap (fun x => gLm (alV Γ τ1) Γ.2.2.1 Γ.2.2.2.1 (gSl ((scN (.inr (.inl (C, env), false) :: sc)).map Prod.fst)) (gSl ((scN (.inr (.inl (C, env), false) :: sc)).map Prod.fst) x.1) x.2) ++ (lfM (alV Γ τ1) Γ.2.2.1 Γ.2.2.2.1 (gSl ((scN (.inr (.inl (C, env), false) :: sc)).map Prod.fst)) none ++ lnL (τ1.2.2.1 66) 0 (1500 :: (scN (.inr (.inl (C, env), false) :: sc)).map (fun x => Γ.1 x.1))))) = qLm (alV Γ τ) Γ (τ.2.2.1 66) sc none := by
      rw [eal, e66]
      rfl
    rw [eq]
    exact ⟨fun z => z.elim (fun z => absurd z (by decide)) id, Or.inr⟩
  obtain ⟨b, b1, b2⟩ := r_sEnd (σ := τ4) d01 d3
  refine ⟨zI τ1 155 (τ.1 155), τ4, _, b, b1, ⟨V1, F1, aR⟩, q01.tr (qV.tr (qF.g d2)), c6.cg (d2.1 131 (by decide)) (d2.2.2.1 89 (by decide)) (d2.2.2.1 90 (by decide)), ?_⟩
  rw [b2]
  unfold nSo
  rw [if_pos rfl]
theorem qF.gf {a b : zSt} (h : gFm a b) : qF a b := ⟨fun k x => h.1 k (fun z => x (by rw [z]; decide)), fun k x => h.2.1 k (fun z => x (by rw [z]; decide)), fun k x => h.2.2.1 k (fun z => x (by rw [z]; decide)) (fun z => x (by rw [z]; decide)), fun k _ => by rw [h.2.2.2]⟩
set_option maxHeartbeats 4000000 in
/-- what must be SO of an S -/
theorem r_soS {i : Nat} {x : gNd × Nat} (X : qCx T len cnt lo N Ss P A L τ kk pp ee f CD Γ v B qs) (hn : 1300 ≤ n) (hV0 : ∀ k, k < 40 → τ.2.2.1 k = V0.2.2.1 k) (hco : rCo τ ns) (hx : uNr CD pp V0 Ss P Γ v τ i x) (Q : nGd T cnt kk pp ee f (τ.2.2.1 32) L Γ B x.1) (hk : x.2 = 1 ∨ x.2 = 2 ∨ x.2 = 3) (hkk : x.2 = x.1.2.2.1 ∨ (x.1.2.2.1 = 3 ∧ x.2 = 2)) : ∃ τ' ns' b, zF h0 qs ks T (n + 7) 109 [.ref h0, .int (nI i)] τ = some (some (.int (b01 b)), τ') ∧ qF τ τ' ∧ rCo τ' ns' ∧ (b = true ↔ nSo T f pp ee (τ.2.2.1 32) (τ.2.2.1 66) (alV Γ τ) Γ x) := by
  obtain ⟨X1, X2, X3, X4, X5, X6, X7⟩ := id X
  obtain ⟨⟨sc, pl, k0, C, ps, env, u⟩, kd⟩ := x
  obtain ⟨i1, e79, hm, e81, hS, e84⟩ := hx
  have kd0 : kd ≠ 0 := by have hk : kd = 1 ∨ kd = 2 ∨ kd = 3 := hk; omega
  have hk : kd = 1 ∨ kd = 2 ∨ kd = 3 := hk
  have hkk : kd = k0 ∨ (k0 = 3 ∧ kd = 2) := hkk
  rw [if_neg (show ¬ kd = 0 from kd0)] at hm
  obtain ⟨y, w, e80, hsm⟩ := hm
  obtain ⟨Qs, ⟨Qe1, Qe2⟩, -, Qk⟩ := Q
  obtain ⟨⟨qp1, qp2, qp3⟩, qu, qf⟩ := Qk (show k0 ≠ 0 by omega)
  have qu : kd = 3 → u ∈ env := fun z => qu (show k0 = 3 by omega)
  have qf := qf kd hkk
  have e79 : τ.2.2.1 79 i = nI kd := e79
  have e80 : τ.2.2.1 80 i = nI y := e80
  have e81 : τ.2.2.1 81 i = if kd = 3 then nI (Γ.1 (.inl u)) else -1 := e81
  have hS : uSc 200 CD Γ v τ sc (τ.2.2.1 82 i) (τ.2.2.1 83 i) := hS
  have qf : sFa (nLi (nFind f pp ee env) kd u ps) = true → (∀ q, q ∈ nLi (nFind f pp ee env) kd u ps → Sum.inl q.1 ∈ (scN sc).map Prod.fst) ∧ (-1125899906842624 ≤ (nLs T f pp ee 1 ps 0).toInt ∧ (nLs T f pp ee 1 ps 0).toInt ≤ 1125899906842624) ∧ -B ≤ 2 * (nLs T f pp ee 1 ps 0).toInt - 2 ∧ 2 * (nLs T f pp ee 1 ps 0).toInt + 2 ≤ B := qf
  obtain ⟨Q1, Q2, Q3, Q4, Q5, Q6, Q7, Q8, Q9⟩ := id Qs
  have i21 : i < 2100 := by have : v 123 ≤ 2100 := X3 123; omega
  have H : rLh T len cnt Ss P L env τ kk pp ee f := X1.env Qe1 Qe2
  have at0 : rAt 0 0 Ss P 0 V0 τ := ⟨fun m _ h => absurd h (Nat.not_lt_zero _), fun k j a b _ => congrFun (hV0 k (by omega)) j, fun k j a b _ => congrFun (hV0 k (by omega)) j, fun m h => absurd h (Nat.not_lt_zero _)⟩
  have hsm : rSm pp τ Ss P y (w, ps) := at0.sm hsm (Nat.le_refl _) (Nat.le_refl _)
  have eΓ : kd = 3 → Γ.1 (.inl u) = nuO (τ.2.2.1 32) u := fun z => X4 u (Qe1 u (qu z))
  have hnS : nSo T f pp ee (τ.2.2.1 32) (τ.2.2.1 66) (alV Γ τ) Γ ((sc, pl, k0, C, ps, env, u), kd) ↔ sFa (nLi (nFind f pp ee env) kd u ps) = true ∧ ¬ exL (qWy T f pp ee (τ.2.2.1 32) sc) (kFe (fun _ => True)) (nLm kd ((nLi (nFind f pp ee env) kd u ps).map (fun q => (gSl ((scN sc).map Prod.fst) (.inl q.1), q.2.toInt))) (nLs T f pp ee 1 ps 0).toInt ++ qLm (alV Γ τ) Γ (τ.2.2.1 66) sc none) [] := by
    unfold nSo
    rw [if_neg (show ¬ kd = 0 from kd0)]
  rw [show n + 7 = (n + 6) + 1 from rfl, zE_isSo]
  unfold b_isSo
  simp only [zlet]
  generalize eσ : zI τ 155 (-1) = σ
  have Er : ∀ k, σ.2.2.1 k = τ.2.2.1 k := fun k => by rw [← eσ]; rfl
  have q0 : qF τ σ := by
    rw [← eσ]
    exact ⟨fun k hk => if_neg (fun e => hk (by rw [e]; decide)), fun _ _ => rfl, fun _ _ => rfl, fun _ _ => rfl⟩
  have e155 : σ.1 155 = -1 := by rw [← eσ]; rfl
  have Hσ : rLh T len cnt Ss P L env σ kk pp ee f := (X1.lo (b := σ) (fun k _ => Er k)).env Qe1 Qe2
  have smσ : ∀ ρ : zSt, (∀ k, k < 40 → ρ.2.2.1 k = τ.2.2.1 k) → rSm pp ρ Ss P y (w, ps) := fun ρ hρ => by
    have at1 : rAt 0 0 Ss P 0 τ ρ := ⟨fun m _ h => absurd h (Nat.not_lt_zero _), fun k j a b _ => congrFun (hρ k (by omega)) j, fun k j a b _ => congrFun (hρ k (by omega)) j, fun m h => absurd h (Nat.not_lt_zero _)⟩
    exact at1.sm hsm (Nat.le_refl _) (Nat.le_refl _)
  iterate 3 rw [zgd_at (zin_n i21 (by decide))]
  rw [nI_clamp (show i < 2 ^ 31 by omega), Er, e79, if_neg (show ¬ nI kd = 0 from fun e => kd0 (nI_inj' (by omega) (by decide) (show nI kd = nI 0 from e)))]
  obtain ⟨σ1, σ2, σ3, a1, a2, a3, a4, a5, a6, a7, a8⟩ := r_nln (h0 := h0) (qs := qs) (ks := ks) (n := n + 4) (τ := σ) (kd := kd) (u := u) Hσ (gFm.rf σ) qp1 qp2 (by rw [Er]; exact qp3) (smσ σ (fun k _ => Er k)) qu
  have a1 : zF h0 qs ks T (n + 6) 53 [.ref h0] σ = some (none, σ1) := a1
  have a3 : zF h0 qs ks T (n + 6) 55 [.ref h0, .int (nI y), .int 1] σ1 = some (none, σ2) := a3
  have R : ∀ ρ, gFm σ ρ → ∀ k, 79 ≤ k → k ≤ 84 → ρ.2.2.1 k = τ.2.2.1 k := fun ρ g k h1 h2 => (g.2.2.1 k (by omega) (by omega)).trans (Er k)
  rw [a1, zcv_at, zgd_at (zin_n i21 (by decide)), R σ1 a2 80 (by decide) (by decide), e80, a3, zcv_at, zgd_at (zin_n i21 (by decide)), R σ2 a4 79 (by decide) (by decide), e79]
  -- up to the form
  have toForm : ∀ K : zSt → zRs, (if nI kd = 3 then zgd (zin (nI i) 2100) (zcv (zF h0 qs ks T (n + 6) 54 [.ref h0, .int (σ2.2.2.1 81 i), .int (-1)] σ2) fun s15 => K s15) else K σ2) = K σ3 := fun K => by
    by_cases z : kd = 3
    · rw [if_pos z] at a5
      rw [if_pos (show nI kd = 3 by rw [z]; rfl), zgd_at (zin_n i21 (by decide)), R σ2 a4 81 (by decide) (by decide), e81, if_pos z, eΓ z]
      rw [Er] at a5
      have a5 : zF h0 qs ks T (n + 6) 54 [.ref h0, .int (nI (nuO (τ.2.2.1 32) u)), .int (-1)] σ2 = some (none, σ3) := a5
      rw [a5, zcv_at]
    · rw [if_neg z] at a5
      rw [if_neg (show ¬ nI kd = 3 from fun e => z (nI_inj' (by omega) (by decide) (show nI kd = nI 3 from e))), a5]
  rw [toForm (fun s => j_isSo_106 T (zF h0 qs ks T (n + 6)) h0 qs ks (nI i) (σ.2.2.1 82 i) (σ.2.2.1 83 i) s)]
  show ∃ τ' ns' b, j_isSo_106 T (zF h0 qs ks T (n + 6)) h0 qs ks (nI i) (σ.2.2.1 82 i) (σ.2.2.1 83 i) σ3 = _ ∧ _
  unfold j_isSo_106
  obtain ⟨l1, l2, l3, l4⟩ := nLi_ok (f := f) (pp := pp) (ee := ee) (cnt := cnt) (kd := kd) (u := u) (p := ps) Qe2 qp2 qu
  have a7 : rLn σ3 (rMp (nuO (σ.2.2.1 32)) (nLi (nFind f pp ee env) kd u ps)) := a7
  have isf := r_isForm (h0 := h0) (qs := qs) (ks := ks) (T := T) (n := n + 5) (by omega) a7 (by rw [rMp_len]; exact Nat.le_trans l3 (by decide))
  rw [rFa_n Hσ qp2 qu] at isf
  have isf : zF h0 qs ks T (n + 6) 56 [.ref h0] σ3 = _ := isf
  rw [isf, zci_at]
  have q3 : qF τ σ3 := q0.tr (qF.gf a6)
  have co3 : rCo σ3 ns := (hco.cg (τ' := σ) (by rw [← eσ]; rfl) (Er 89) (Er 90)).cg (a6.1 131 (by decide)) (a6.2.2.1 89 (by decide) (by decide)) (a6.2.2.1 90 (by decide) (by decide))
  cases hF : sFa (nLi (nFind f pp ee env) kd u ps) with
  | false =>
    rw [if_pos (show b01 false = 0 from rfl)]
    refine ⟨σ3, ns, false, rfl, q3, co3, ?_⟩
    rw [hnS, hF]
    exact ⟨fun z => (by cases z), fun z => (by cases z.1)⟩
  | true =>
    rw [if_neg (show ¬ b01 true = 0 by decide)]
    obtain ⟨p1, p2, p3⟩ := qf hF
    obtain ⟨g1, g2⟩ := sFa_i hF l4
    have X3' := X.ro (τ' := σ3) (fun k hk => q3.lo hk)
    have e32 : σ3.2.2.1 32 = τ.2.2.1 32 := q3.lo (by decide)
    have u3 := q3.q
    obtain ⟨hch, hgo⟩ := hS
    obtain ⟨ch, ch1, ch2, ch3⟩ := hch
    obtain ⟨V, ρ, Sk, c1, c2, c3, c4, c5, c6, c7, c8⟩ := r_under (h0 := h0) (qs := qs) (ks := ks) (T := T) (n := n) (τ := σ3) (sc := sc) (x1 := τ.2.2.1 82 i) (x2 := τ.2.2.1 83 i) (x3 := -1) (lf := none) (ns0 := ns) (B := B) X7 hn X3 X3'.1 X3'.2.1 co3 ⟨⟨ch, ch1, ch2, uEv.q u3 _ _ ch3⟩, uGo.q u3 _ _ hgo⟩ Q1 Q2 Q3 X3'.2.2.2.1 Q4 Q5 (by rw [e32]; exact Q6) Q7 rfl (Or.inl ((a6.1 155 (by decide)).trans e155)) ⟨by omega, by omega⟩
    rw [Er, Er, c1, zci_at]
    have qV : qF τ V := q3.tr (qF.u c2)
    have qρ : qF τ ρ := qV.tr (qF.g c3.1)
    have Eρ : ∀ k, 79 ≤ k → k ≤ 84 → ρ.2.2.1 k = τ.2.2.1 k := fun k h1 h2 => qρ.2.2.1 k (fun z => by simp only [List.mem_cons, List.not_mem_nil, or_false] at z; omega)
    have Hρ : rLh T len cnt Ss P L env ρ kk pp ee f := (X1.lo (b := ρ) (fun k hk => qρ.lo hk)).env Qe1 Qe2
    have e32ρ : ρ.2.2.1 32 = τ.2.2.1 32 := qρ.lo (by decide)
    have e32V : V.2.2.1 32 = τ.2.2.1 32 := qV.lo (by decide)
    obtain ⟨ρ1, ρ2, ρ3, b1, b2, b3, b4, b5, b6, b7, b8⟩ := r_nln (h0 := h0) (qs := qs) (ks := ks) (n := n + 4) (τ := ρ) (kd := kd) (u := u) Hρ (gFm.rf ρ) qp1 qp2 (by rw [e32ρ]; exact qp3) (smσ ρ (fun k hk => qρ.lo hk)) qu
    have b1 : zF h0 qs ks T (n + 6) 53 [.ref h0] ρ = some (none, ρ1) := b1
    have b3 : zF h0 qs ks T (n + 6) 55 [.ref h0, .int (nI y), .int 1] ρ1 = some (none, ρ2) := b3
    have R2 : ∀ ρ', gFm ρ ρ' → ∀ k, 79 ≤ k → k ≤ 84 → ρ'.2.2.1 k = τ.2.2.1 k := fun ρ' g k h1 h2 => (g.2.2.1 k (by omega) (by omega)).trans (Eρ k h1 h2)
    rw [b1, zcv_at, zgd_at (zin_n i21 (by decide)), nI_clamp (show i < 2 ^ 31 by omega), R2 ρ1 b2 80 (by decide) (by decide), e80, b3, zcv_at, zgd_at (zin_n i21 (by decide)), R2 ρ2 b4 79 (by decide) (by decide), e79]
    have toLine : ∀ K : zSt → zRs, (if nI kd = 3 then zgd (zin (nI i) 2100) (zcv (zF h0 qs ks T (n + 6) 54 [.ref h0, .int (ρ2.2.2.1 81 i), .int (-1)] ρ2) fun s15 => K s15) else K ρ2) = K ρ3 := fun K => by
      by_cases z : kd = 3
      · rw [if_pos z] at b5
        rw [if_pos (show nI kd = 3 by rw [z]; rfl), zgd_at (zin_n i21 (by decide)), R2 ρ2 b4 81 (by decide) (by decide), e81, if_pos z, eΓ z]
        rw [e32ρ] at b5
        have b5 : zF h0 qs ks T (n + 6) 54 [.ref h0, .int (nI (nuO (τ.2.2.1 32) u)), .int (-1)] ρ2 = some (none, ρ3) := b5
        rw [b5, zcv_at]
      · rw [if_neg z] at b5
        rw [if_neg (show ¬ nI kd = 3 from fun e => z (nI_inj' (by omega) (by decide) (show nI kd = nI 3 from e))), b5]
    rw [toLine (fun s => j_isSo_160 T (zF h0 qs ks T (n + 6)) h0 qs ks (nI i) 1 s)]
    show ∃ τ' ns' b, j_isSo_160 T (zF h0 qs ks T (n + 6)) h0 qs ks (nI i) 1 ρ3 = _ ∧ _
    unfold j_isSo_160
    obtain ⟨J3, m3⟩ := c3.fm b6
    have cl : (1500 :: (scN sc).map (fun x => Γ.1 x.1)).length = (scN sc).length + 1 := by rw [List.length_cons, List.length_map]
    have hSl : ∀ y, y ∈ (scN sc).map Prod.fst → (1500 :: (scN sc).map (fun x => Γ.1 x.1))[gSl ((scN sc).map Prod.fst) y]? = some (Γ.1 y) := fun y hy => gSl_at hy
    obtain ⟨F1, F2⟩ := lFo_of (V := V) (M := nLi (nFind f pp ee env) kd u ps) (L := L) (Γ := Γ) (ns := 1500 :: (scN sc).map (fun x => Γ.1 x.1)) (c := (scN sc).length + 1) (by rw [e32V]; exact X1.2.1.2.2.1) (fun q hq => Qe1 _ (l2 q hq)) c6 cl Q3 hSl (by rw [e32V]; exact X4) p1 l1 g1 g2
    have b7 : rLn ρ3 (rMp (nuO (V.2.2.1 32)) (nLi (nFind f pp ee env) kd u ps)) := by rw [e32V, ← e32ρ]; exact b7
    have c0 : 0 < (scN sc).length + 1 ∧ (scN sc).length + 1 ≤ 60 := ⟨by omega, Q3⟩
    have B1 : -1125899906842624 ≤ (ρ3.2.1 64).toInt ∧ (ρ3.2.1 64).toInt ≤ 1125899906842624 := by rw [b8]; exact p2
    have B2 : -B ≤ 2 * (ρ3.2.1 64).toInt - 2 ∧ 2 * (ρ3.2.1 64).toInt + 2 ≤ B := by rw [b8]; exact p3
    have e154 : ρ3.1 154 = 0 := by rw [m3.1, c4.1]; exact c5
    have u3' : alV Γ σ3 = alV Γ τ := alV.q u3 (q3.2.2.1 65 (by decide))
    have e66 : σ3.2.2.1 66 = τ.2.2.1 66 := q3.2.2.1 66 (by decide)
    -- the end, whichever ways were laid
    have FIN : ∀ (ρ4 : zSt) (Ws : List oWy), rJs V ρ4 Sk Ws [] → ρ4.1 154 = 0 → Ws.length ≤ 2 → (∀ w, w ∈ Ws → wyOk B ((scN sc).length + 1) w) → (∀ l, l ∈ Ws.map wLm ↔ l ∈ nLm kd ((nLi (nFind f pp ee env) kd u ps).map (fun q => (gSl ((scN sc).map Prod.fst) (.inl q.1), q.2.toInt))) (nLs T f pp ee 1 ps 0).toInt) → ∃ τ' ns' b, j_isSo_210 T (zF h0 qs ks T (n + 6)) h0 qs ks 1 ρ4 = some (some (.int (b01 b)), τ') ∧ qF τ τ' ∧ rCo τ' ns' ∧ (b = true ↔ nSo T f pp ee (τ.2.2.1 32) (τ.2.2.1 66) (alV Γ τ) Γ ((sc, pl, k0, C, ps, env, u), kd)) := fun ρ4 Ws J4 z4 hW1 hW2 hW3 => by
      unfold j_isSo_210
      rw [if_neg (by decide)]
      obtain ⟨τ4, d1, d2, d01, d3⟩ := r_goN (h0 := h0) (qs := qs) (ks := ks) (n := n + 6) (τ := ρ4) (Ws := Ws) (sc := sc) (sc' := []) (X.ro (fun k hk => qV.lo hk)) (by rw [e32V]; exact Qs) (by omega) c6 c7 c8 ((c2.1 155 (by decide)).trans ((a6.1 155 (by decide)).trans e155)) ⟨hW1, hW2⟩ J4
      rw [d1, zcv_at]
      unfold j_isSo_219
      have d3 : τ4.1 154 = 1 ↔ exL (qWy T f pp ee (τ.2.2.1 32) sc) (kFe (fun _ => True)) (nLm kd ((nLi (nFind f pp ee env) kd u ps).map (fun q => (gSl ((scN sc).map Prod.fst) (.inl q.1), q.2.toInt))) (nLs T f pp ee 1 ps 0).toInt ++ qLm (alV Γ τ) Γ (τ.2.2.1 66) sc none) [] := by
        rw [d3, z4, e32V, u3', e66]
        have I := (exL.inv (kFe.inv (Q := fun _ => True) (fun _ _ _ h => h)) (qWy T f pp ee (τ.2.2.1 32) sc)).iff (L := Ws.map wLm ++ qLm (alV Γ τ) Γ (τ.2.2.1 66) sc none) (L' := nLm kd ((nLi (nFind f pp ee env) kd u ps).map (fun q => (gSl ((scN sc).map Prod.fst) (.inl q.1), q.2.toInt))) (nLs T f pp ee 1 ps 0).toInt ++ qLm (alV Γ τ) Γ (τ.2.2.1 66) sc none) (ts := []) (ts' := []) (xC.cg (fun l => by rw [List.mem_append, List.mem_append, hW3])) (fun _ => Iff.rfl)
        exact ⟨fun z => z.elim (fun z => absurd z (by decide)) I.mp, fun z => Or.inr (I.mpr z)⟩
      obtain ⟨b, q1, q2⟩ := r_sEnd (σ := τ4) d01 d3
      refine ⟨τ4, _, b, q1, qV.tr (qF.g d2), c6.cg (d2.1 131 (by decide)) (d2.2.2.1 89 (by decide)) (d2.2.2.1 90 (by decide)), ?_⟩
      rw [q2, hnS, hF]
      exact ⟨fun z => ⟨rfl, z⟩, fun z => z.2⟩
    have R3 := R2 ρ3 b6 79 (by decide) (by decide)
    rw [zgd_at (zin_n i21 (by decide)), nI_clamp (show i < 2 ^ 31 by omega), R3, e79]
    have n1 : ∀ j : Nat, j < 100 → kd ≠ j → ¬ nI kd = nI j := fun j hj z e => z (nI_inj' (by omega) (by omega) e)
    rcases hk with rfl | rfl | rfl
    · rw [if_pos (show nI 1 = 1 from rfl)]
      obtain ⟨w1, ρ4, k1, k2, k3, ⟨k4, k5⟩, k6, k7⟩ := r_lineWay (h0 := h0) (qs := qs) (ks := ks) (T := T) (n := n + 4) (s := 1) (mo := 0) c0 J3 (by decide) b7 F1 (Or.inl rfl) (Or.inl rfl) B1 B2
      have k1 : zF h0 qs ks T (n + 6) 97 [.ref h0, .int 1, .long 0] ρ3 = some (none, ρ4) := k1
      rw [k1, zcv_at]
      obtain ⟨w2, ρ5, y1, y2, y3, -, y6, y7⟩ := r_lineWay (h0 := h0) (qs := qs) (ks := ks) (T := T) (n := n + 4) (s := -1) (mo := 0) c0 k2 (show 1 < 300 by decide) k4 F1 (Or.inr rfl) (Or.inl rfl) (by rw [k5]; exact B1) (by rw [k5]; exact B2)
      have y1 : zF h0 qs ks T (n + 6) 97 [.ref h0, .int (-1), .long 0] ρ4 = some (none, ρ5) := y1
      rw [y1, zcv_at]
      refine FIN ρ5 ([] ++ [w1] ++ [w2]) y2 (by rw [y3.1, k3.1]; exact e154) (Nat.le_refl 2) (fun w hw => by
        simp only [List.nil_append, List.mem_append, List.mem_singleton] at hw
        rcases hw with rfl | rfl
        · exact k6
        · exact y6) (fun l => ?_)
      rw [k5] at y7
      rw [F2, b8] at k7 y7
      show l ∈ [wLm w1, wLm w2] ↔ _
      rw [k7, y7]
      rfl
    · rw [if_neg (show ¬ nI 2 = 1 by decide), zgd_at (zin_n i21 (by decide)), if_pos (show nI 2 = 2 from rfl)]
      obtain ⟨w1, ρ4, k1, k2, k3, ⟨k4, k5⟩, k6, k7⟩ := r_lineWay (h0 := h0) (qs := qs) (ks := ks) (T := T) (n := n + 4) (s := 1) (mo := 1) c0 J3 (by decide) b7 F1 (Or.inl rfl) (Or.inr rfl) B1 B2
      have k1 : zF h0 qs ks T (n + 6) 97 [.ref h0, .int 1, .long 1] ρ3 = some (none, ρ4) := k1
      rw [k1, zcv_at]
      refine FIN ρ4 ([] ++ [w1]) k2 (by rw [k3.1]; exact e154) (show 1 ≤ 2 by decide) (fun w hw => by
        rw [List.nil_append, List.mem_singleton] at hw
        rw [hw]; exact k6) (fun l => ?_)
      rw [F2, b8] at k7
      show l ∈ [wLm w1] ↔ _
      rw [k7]
      rfl
    · rw [if_neg (show ¬ nI 3 = 1 by decide), zgd_at (zin_n i21 (by decide)), if_neg (show ¬ nI 3 = 2 by decide)]
      obtain ⟨w1, ρ4, k1, k2, k3, ⟨k4, k5⟩, k6, k7⟩ := r_lineWay (h0 := h0) (qs := qs) (ks := ks) (T := T) (n := n + 4) (s := -1) (mo := 0) c0 J3 (by decide) b7 F1 (Or.inr rfl) (Or.inl rfl) B1 B2
      have k1 : zF h0 qs ks T (n + 6) 97 [.ref h0, .int (-1), .long 0] ρ3 = some (none, ρ4) := k1
      rw [k1, zcv_at]
      refine FIN ρ4 ([] ++ [w1]) k2 (by rw [k3.1]; exact e154) (show 1 ≤ 2 by decide) (fun w hw => by
        rw [List.nil_append, List.mem_singleton] at hw
        rw [hw]; exact k6) (fun l => ?_)
      rw [F2, b8] at k7
      show l ∈ [wLm w1] ↔ _
      rw [k7]
      rfl
end ISW
