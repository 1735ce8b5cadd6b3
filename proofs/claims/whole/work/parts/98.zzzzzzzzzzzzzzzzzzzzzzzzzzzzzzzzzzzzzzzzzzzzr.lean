/-! ROOM: what FITS, by types and by steps to the right alone -/
/-- what a FIT takes grows with the steps -/
theorem fCp_mo : ∀ (y : tY) (p q p' q' : Nat), p ≤ p' → q ≤ q' → fCp y p q ≤ fCp y p' q'
  | .leaf, _, _, _, _, _, _ => Nat.le_refl _
  | .inner k u v a b, p, q, p', q', hp, hq => by
    have ia := fCp_mo a q p q' p' hq hp
    have ib := fCp_mo b (p + 1) (q + 1) (p' + 1) (q' + 1) (by omega) (by omega)
    have ic := fCp_mo b p q p' q' hp hq
    have tp := t15_mo hp
    have tq := t15_mo hq
    unfold fCp
    by_cases c : k = 0
    · rw [if_pos c, if_pos c]
      by_cases m : gMs a = true
      · rw [if_pos m, if_pos m]; omega
      · rw [if_neg m, if_neg m]; omega
    · rw [if_neg c, if_neg c]
      exact Nat.le_refl _
/-- what an ARG takes, by type and steps -/
def kIt (y : tY) (p q : Nat) : Nat := if gMs y = true then fCp y p q + 2 * q else (fCp y p q + 2 * t15 q) - 49
theorem kIt_mo (y : tY) {p q p' q' : Nat} (hp : fCp y p q ≤ fCp y p' q') (hq : q ≤ q') : kIt y p q ≤ kIt y p' q' := by
  have := t15_mo hq
  unfold kIt
  by_cases c : gMs y = true
  · rw [if_pos c, if_pos c]; omega
  · rw [if_neg c, if_neg c]; omega
theorem kIw_b {y : tY} {X A : gTy} {p q : Nat} (h1 : gDq X ≤ p) (h2 : gDq A ≤ q) : kIw y X A ≤ kIt y p q := by
  have F : (wFt y X (gTk A)).2 ≤ fCp y p q := fCp_mo y _ _ _ _ h1 (by rw [rkD_tk]; exact h2)
  have := t15_mo h2
  unfold kIw kIt
  by_cases c : gMs y = true
  · rw [if_pos c, if_pos c]; omega
  · rw [if_neg c, if_neg c]; omega
/-- a NAME's steps, told -/
def rkU (rk : Nat → Nat) (w n : Nat) : Nat → Nat := fun u => if u = w then n else rk u
/-- parameters' steps, told -/
def rkP : Nat → Nat → Nat → (Nat → Nat) → Nat → Nat
  | 0, _, _, rk => rk
  | q + 1, w, i, rk => rkP q (w + 1) (i + 1) (rkU rk w i)
/-- weights -/
def fCw (wt : Nat) (y : tY) (p q : Nat) : Nat := 8 * fCp y p q + wt * yFn y
def kIu (wt : Nat) (y : tY) (p q : Nat) : Nat := 8 * kIt y p q + wt * yFn y
theorem kIv_b {wt : Nat} {y : tY} {X A : gTy} {p q : Nat} (h1 : gDq X ≤ p) (h2 : gDq A ≤ q) : kIv wt y X A ≤ kIu wt y p q := by
  have := kIw_b (y := y) h1 h2
  unfold kIv kIu
  omega
theorem kIu_mo {wt : Nat} (y : tY) {p q p' q' : Nat} (hp : fCp y p q ≤ fCp y p' q') (hq : q ≤ q') : kIu wt y p q ≤ kIu wt y p' q' := by
  have := kIt_mo y hp hq
  unfold kIu
  omega
section GRK
variable (f pp ee : Nat → Int32) (wt : Nat)
/-- the steps of an E's type, out of those of NAMES -/
def gRk (rk : Nat → Nat) : tT → List Nat → Nat
  | .leaf, _ => 0
  | .inner g d _ a b, env =>
    if g = 5 then gRk rk b env else
    if g = 6 ∨ g = 16 then gRk rk a env else
    if g = 10 then (if isN d.2.2.2.1.2 = true then rk (gNu f pp ee env (d.2.2.2.1.2.headD (0, false, 0)).2.2) else 0) else
    if g = 15 then rk (gNu f pp ee env d.1) + tQn a else 0
/-- an S's steps -/
def gRs1 (rk : Nat → Nat) (env : List Nat) (ps : List tP) : Nat := if isN ps = true then rk (gNu f pp ee env (ps.headD (0, false, 0)).2.2) else 0
variable (tE tN : Nat → tY) (xs : List tQ)
/-- TEMPLATES and what FITS, by types and steps; y is the E's type, or what takes the ARGS, q its steps -/
def xB : tT → List Nat → (Nat → Nat) → tY → Nat → Nat
  | .leaf, _, _, _, _ => 0
  | .inner g d _ a b, env, rk, y, q =>
    if g = 1 then xB a env rk (tN (d.1 + 1)) 0 + 8 * tCs xs (tE d.1) (gSv tN env).length + xB b (env ++ [d.1 + 1]) (rkU rk (d.1 + 1) (gRk f pp ee rk a env)) y 0 + fCw wt (tE d.1) (gRk f pp ee (rkU rk (d.1 + 1) (gRk f pp ee rk a env)) b (env ++ [d.1 + 1])) 0 else
    if g = 2 then 8 * tCs xs (tN (d.1 + 2)) (gSv tN env).length + xB a (env ++ ([d.1 + 2] ++ List.range' (d.1 + 3) d.2.1)) (rkP d.2.1 (d.1 + 3) 0 (rkU rk (d.1 + 2) 0)) (yRs d.2.1 (tN (d.1 + 2))) 0 + fCw wt (yRs d.2.1 (tN (d.1 + 2))) (gRk f pp ee (rkP d.2.1 (d.1 + 3) 0 (rkU rk (d.1 + 2) 0)) a (env ++ ([d.1 + 2] ++ List.range' (d.1 + 3) d.2.1))) d.2.1 + 8 * tCs xs (tE d.1) (gSv tN env).length + xB b (env ++ [d.1 + 2]) (rkU rk (d.1 + 2) 0) y 0 + fCw wt (tE d.1) (gRk f pp ee (rkU rk (d.1 + 2) 0) b (env ++ [d.1 + 2])) 0 else
    if g = 3 then 8 * tCs xs (tE d.1) (gSv tN env).length + xB a (env ++ [d.1 + 1]) (rkU rk (d.1 + 1) 0) (yR (tE d.1)) 0 + fCw wt (yR (tE d.1)) (gRk f pp ee (rkU rk (d.1 + 1) 0) a (env ++ [d.1 + 1])) 1 else
    if g = 4 then 8 * tCs xs (tE d.1) (gSv tN env).length + xB b env rk y 0 else
    if g = 5 then xB b env rk y 0 else
    if g = 6 ∨ g = 16 then xB a env rk y 0 else
    if g = 15 then xB a env rk (tN (gNu f pp ee env d.1)) (rk (gNu f pp ee env d.1)) else
    if g = 19 then 8 * tCs xs (tE d.1) (gSv tN env).length + xB a env rk y 0 + fCw wt (tE d.1) (gRk f pp ee rk a env) 0 + xB b (env ++ [d.2.1, d.2.1 + 1]) (rkU (rkU rk d.2.1 0) (d.2.1 + 1) 0) y 0 + fCw wt (tE d.1) (gRk f pp ee (rkU (rkU rk d.2.1 0) (d.2.1 + 1) 0) b (env ++ [d.2.1, d.2.1 + 1])) 0 else
    if g = 31 then xB a env rk y 0 + fCw wt y (gRk f pp ee rk a env) q + xB b env rk y 0 + fCw wt y (gRk f pp ee rk b env) q else
    if g = 33 then kIu wt (yL y) (gRs1 f pp ee rk env d.2.2.2.1.2) q + xB b env rk (yR y) (q + 1) else
    if g = 34 then xB a env rk (yL y) 0 + kIu wt (yL y) (gRk f pp ee rk a env) q + xB b env rk (yR y) (q + 1) else
    if g = 35 then xB b env rk (yR y) (q + 1) else 0
end GRK
/-- the steps of what an E, or a call's ARGS leave -/
def gRo1 (f pp ee : Nat → Int32) (rk : Nat → Nat) (env : List Nat) (q : Nat) : tT → Nat
  | .leaf => q
  | .inner g d z a b => if g = 33 ∨ g = 34 ∨ g = 35 then q + tQn (.inner g d z a b) else if g = 31 then q else gRk f pp ee rk (.inner g d z a b) env
section RKL
theorem rkD_an (A : gTy) : gDq (gAn A) ≤ gDq A + 1 := by
  obtain ⟨A1, G⟩ := A
  cases A1 with
  | inl x => exact Nat.le_succ _
  | inr m =>
    show (mAn m).2.1.count true ≤ m.2.1.count true + 1
    unfold mAn
    simp
theorem rkD_pu (A : gTy) (x : gN) (t : gTe) : gDq (gPu A x t) = gDq A := rfl
theorem rkD_tp (key : Nat) (y : tY) (ns : List Nat) (sc : List gEn) : gDq (gTp key y ns sc) = 0 := rfl
theorem rk_tn {env : List Nat} {rk : Nat → Nat} {s : gSt} {A : gTy} {w n : Nat} (h : ∀ u, u ∈ env → gDq (s.1 u) ≤ rk u) (hA : gDq A ≤ n) : ∀ u, u ∈ env ++ [w] → gDq ((gTn w A s).1 u) ≤ rkU rk w n u := fun u hu => by
  show gDq (if u = w then A else s.1 u) ≤ if u = w then n else rk u
  by_cases c : u = w
  · rw [if_pos c, if_pos c]; exact hA
  · rw [if_neg c, if_neg c]
    rcases List.mem_append.mp hu with z | z
    · exact h u z
    · exact absurd (List.mem_singleton.mp z) c
theorem rk_pa : ∀ (q w i : Nat) (A : gTy) (sc : List gEn) (s : gSt) (env : List Nat) (rk : Nat → Nat), (∀ u, u ∈ env → gDq (s.1 u) ≤ rk u) → gDq A ≤ i → (∀ u, u ∈ env ++ List.range' w q → gDq ((gPa q w A sc s).2.2.1 u) ≤ rkP q w i rk u) ∧ gDq (gPa q w A sc s).2.1 ≤ i + q
  | 0, w, i, A, sc, s, env, rk, h, hA => ⟨fun u hu => by
      rw [show List.range' w 0 = [] from rfl, List.append_nil] at hu
      exact h u hu, hA⟩
  | q + 1, w, i, A, sc, s, env, rk, h, hA => by
    have e : List.range' w (q + 1) = w :: List.range' (w + 1) q := rfl
    have h1 := rk_tn (w := w) (A := gTk A) (n := i) h (by rw [rkD_tk]; exact hA)
    obtain ⟨h2, h3⟩ := rk_pa q (w + 1) (i + 1) (gAn A) (gNm (.inl w) (gTk A) sc) (gTn w (gTk A) s) (env ++ [w]) (rkU rk w i) h1 (by have := rkD_an A; omega)
    refine ⟨fun u hu => h2 u ?_, by
      have h3 : gDq (gPa (q + 1) w A sc s).2.1 ≤ i + 1 + q := h3
      omega⟩
    rw [e] at hu
    rw [List.append_assoc]
    exact hu
end RKL

section XBT
variable {T : Nat} {f pp ee : Nat → Int32} {tE tN : Nat → tY} {Γ : uGm} {C B : Int} {rt : Nat → gTm} {M : Nat} {CB : List Nat → List (gCd × Bool) → Prop} {NB : List Nat → List (gCd × Bool) → (Nat × Nat × tT × List tP × List Nat × Nat) → Prop}
variable {xs : List tQ}
theorem eT_n {t : tT} (h : eT t) (rk : Nat → Nat) (env : List Nat) (q : Nat) : gRo1 f pp ee rk env q t = gRk f pp ee rk t env := by
  cases t with
  | leaf => exact absurd h (fun z => z)
  | inner g d z a b =>
    obtain ⟨h1, h2, h3, h4⟩ : g ≠ 31 ∧ g ≠ 33 ∧ g ≠ 34 ∧ g ≠ 35 := h
    rw [gRo1]
    rw [if_neg (by omega), if_neg h1]
theorem aT_n {t : tT} (h : aT t) (rk : Nat → Nat) (env : List Nat) (q : Nat) : gRo1 f pp ee rk env q t = q + tQn t := by
  cases t with
  | leaf => rfl
  | inner g d z a b =>
    have h : g = 33 ∨ g = 34 ∨ g = 35 := h
    rw [gRo1]
    rw [if_pos h]
theorem gRs1_b {env : List Nat} {rk : Nat → Nat} {s : gSt} {ps : List tP} (h : ∀ u, u ∈ env → gDq (s.1 u) ≤ rk u) (w : isN ps = true → gNu f pp ee env (ps.headD (0, false, 0)).2.2 ∈ env) : gDq (gSu T f pp ee env ps s) ≤ gRs1 f pp ee rk env ps := by
  unfold gSu gRs1
  by_cases c : isN ps = true
  · rw [if_pos c, if_pos c]
    unfold gOn
    split
    · exact Nat.zero_le _
    · exact h _ (w c)
  · rw [if_neg c, if_neg c]
    split <;> exact Nat.zero_le _
set_option maxHeartbeats 4000000 in
/-- **TEMPLATES and what FITS take no more than their types and steps say** -/
theorem wX_b {wt : Nat} (hQ : rtQ Γ rt) (hC : 0 ≤ C) (hB : 4 ≤ B) : ∀ (t : tT) (env : List Nat) (sc : List gEn) (A : gTy) (s : gSt) (y : tY) (rk : Nat → Nat) (q : Nat), gHq T f pp ee tE tN Γ C B rt M CB NB t env (scC sc) → gOk f pp ee tE tN t env y → eW Γ C B rt tN env sc s.1 → aH tN Γ C B rt M env sc A y t → (∀ u, u ∈ env → gDq (s.1 u) ≤ rk u) → (¬ eT t → gDq A ≤ q) → wX T f pp ee tE tN xs wt t env sc A s ≤ xB f pp ee wt tE tN xs t env rk y q ∧ gDq (gWk T f pp ee tE tN t env sc A s).2 ≤ gRo1 f pp ee rk env q t
  | .leaf, env, sc, A, s, y, rk, q, _, _, _, _, _, hA => ⟨Nat.le_refl _, hA (fun z => z)⟩
  | .inner g d z a b, env, sc, A, s, y, rk, q, hq, ok, e, h, hr, hA => by
    have Ia := fun env' sc' A' s' y' rk' q' => wX_b (wt := wt) hQ hC hB a env' sc' A' s' y' rk' q'
    have Ib := fun env' sc' A' s' y' rk' q' => wX_b (wt := wt) hQ hC hB b env' sc' A' s' y' rk' q'
    have Wa := fun env' sc' A' s' y' => gWk_w (M := M) (CB := CB) (NB := NB) (T := T) (f := f) (pp := pp) (ee := ee) (tE := tE) (tN := tN) hQ hC hB a env' sc' A' s' y'
    have Wb := fun env' sc' A' s' y' => gWk_w (M := M) (CB := CB) (NB := NB) (T := T) (f := f) (pp := pp) (ee := ee) (tE := tE) (tN := tN) hQ hC hB b env' sc' A' s' y'
    unfold gHq at hq
    unfold gOk at ok
    rw [gWk, wX, xB]
    obtain ⟨cb, hq⟩ := hq
    have hB2 : 2 ≤ B := by omega
    have hss : ∀ y', (wT xs y' sc).2 = tCs xs y' (gSv tN env).length := fun y' => by
      show tCs xs y' (gSs sc).length = _
      rw [e.ss]
    have hfl : ∀ (y' : tY) (A' B' : gTy) (p' q' : Nat), gDq A' ≤ p' → gDq B' ≤ q' → wFw wt y' A' B' ≤ fCw wt y' p' q' := fun y' A' B' p' q' h1 h2 => by
      have h3 : (wFt y' A' B').2 ≤ fCp y' p' q' := fCp_mo y' _ _ _ _ h1 h2
      unfold wFw fCw
      omega
    have RE : (¬ (g = 33 ∨ g = 34 ∨ g = 35)) → g ≠ 31 → gRo1 f pp ee rk env q (.inner g d z a b) = gRk f pp ee rk (.inner g d z a b) env := fun h1 h2 => by rw [gRo1, if_neg h1, if_neg h2]
    by_cases c1 : g = 1
    · rw [if_pos c1] at hq ok ⊢
      rw [if_pos c1, if_pos c1]
      obtain ⟨⟨q1, ⟨q2, q3⟩, q4, q5⟩, ⟨ta, tb⟩, qa, qb⟩ := hq
      have Oa := Wa env sc A s _ qa ok.2.1 e (aH.e ta)
      have Xa := Ia env sc A s _ rk 0 qa ok.2.1 e (aH.e ta) hr (fun n => absurd ta n)
      rw [yOu_e ta] at Oa
      rw [eT_n ta] at Xa
      dsimp only
      generalize gWk T f pp ee tE tN a env sc A s = r1 at Oa Xa ⊢
      have e2 := (e.st Oa.2).tel q2 q3 Oa.1.2 Oa.1.1
      have hr2 := rk_tn (w := d.1 + 1) (s := r1.1) (A := r1.2) (rk := rk) (env := env) (fun u hu => by rw [Oa.2.1 u hu]; exact hr u hu) Xa.2
      have Xb := Ib (env ++ [d.1 + 1]) (gNm (.inl (d.1 + 1)) r1.2 sc) A (gTn (d.1 + 1) r1.2 r1.1) y (rkU rk (d.1 + 1) (gRk f pp ee rk a env)) 0 (by rw [scC_nm]; exact qb) ok.2.2 e2 (aH.e tb) hr2 (fun n => absurd tb n)
      rw [eT_n tb] at Xb
      have F := hfl (tE d.1) (gWk T f pp ee tE tN b (env ++ [d.1 + 1]) (gNm (.inl (d.1 + 1)) r1.2 sc) A (gTn (d.1 + 1) r1.2 r1.1)).2 (gTp (2 * d.1) (tE d.1) [] sc) _ 0 Xb.2 (Nat.le_refl _)
      rw [hss]
      exact ⟨by have := Xa.1; have := Xb.1; omega, Nat.zero_le _⟩
    rw [if_neg c1] at hq ok ⊢
    rw [if_neg c1, if_neg c1]
    by_cases c2 : g = 2
    · rw [if_pos c2] at hq ok ⊢
      rw [if_pos c2, if_pos c2]
      obtain ⟨⟨q1, q2, ⟨q3, q4⟩, q5, q6, q7, q8, q9⟩, ⟨ta, tb⟩, qa, qb⟩ := hq
      obtain ⟨o1, ⟨r, o2, o3⟩, o4⟩ := ok
      dsimp only
      have er : yRs d.2.1 (tN (d.1 + 2)) = r := by rw [o2, yRs_fn]
      rw [er]
      have HF := e.tp q2
      have ng : gNm (.inl (d.1 + 2)) (gTp (2 * d.1 + 1) (tN (d.1 + 2)) (List.range' (d.1 + 3) d.2.1) sc) sc = sc := by
        refine if_neg (fun w => gMs_1 w ?_)
        show yK (tN (d.1 + 2)) = 1
        obtain ⟨k, hk⟩ : ∃ k, d.2.1 = k + 1 := ⟨d.2.1 - 1, by omega⟩
        rw [o2, hk]
        rfl
      have eF := e.tel q3 q4 HF rfl
      rw [ng] at eF
      have P := gPa_w hQ (r := r) d.2.1 (d.1 + 3) (gTp (2 * d.1 + 1) (tN (d.1 + 2)) (List.range' (d.1 + 3) d.2.1) sc) sc (gTn (d.1 + 2) (gTp (2 * d.1 + 1) (tN (d.1 + 2)) (List.range' (d.1 + 3) d.2.1) sc) s) (env ++ [d.1 + 2]) o2 eF HF (fun m w => by injection w with w; rw [← w]) (fun _ => ⟨_, rfl⟩) q5
      have hr1 := rk_tn (w := d.1 + 2) (n := 0) (A := gTp (2 * d.1 + 1) (tN (d.1 + 2)) (List.range' (d.1 + 3) d.2.1) sc) hr (Nat.le_refl 0)
      have RP := rk_pa d.2.1 (d.1 + 3) 0 (gTp (2 * d.1 + 1) (tN (d.1 + 2)) (List.range' (d.1 + 3) d.2.1) sc) sc (gTn (d.1 + 2) (gTp (2 * d.1 + 1) (tN (d.1 + 2)) (List.range' (d.1 + 3) d.2.1) sc) s) (env ++ [d.1 + 2]) (rkU rk (d.1 + 2) 0) hr1 (Nat.le_refl 0)
      generalize gPa d.2.1 (d.1 + 3) (gTp (2 * d.1 + 1) (tN (d.1 + 2)) (List.range' (d.1 + 3) d.2.1) sc) sc (gTn (d.1 + 2) (gTp (2 * d.1 + 1) (tN (d.1 + 2)) (List.range' (d.1 + 3) d.2.1) sc) s) = p at P RP ⊢
      obtain ⟨p1, p2, p3, p4, p5, p6, p7⟩ := P
      obtain ⟨R1, R2⟩ := RP
      rw [List.append_assoc] at p1 R1
      have Oa := Wa (env ++ ([d.1 + 2] ++ List.range' (d.1 + 3) d.2.1)) p.1 A p.2.2 r (by rw [p5]; exact qa) o3 p1 (aH.e ta)
      have Xa := Ia (env ++ ([d.1 + 2] ++ List.range' (d.1 + 3) d.2.1)) p.1 A p.2.2 r (rkP d.2.1 (d.1 + 3) 0 (rkU rk (d.1 + 2) 0)) 0 (by rw [p5]; exact qa) o3 p1 (aH.e ta) R1 (fun n => absurd ta n)
      rw [yOu_e ta] at Oa
      rw [eT_n ta] at Xa
      generalize gWk T f pp ee tE tN a (env ++ ([d.1 + 2] ++ List.range' (d.1 + 3) d.2.1)) p.1 A p.2.2 = r1 at Oa Xa ⊢
      have st1 : stW Γ C B rt M tN CB NB (env ++ [d.1 + 2]) (gTn (d.1 + 2) (gTp (2 * d.1 + 1) (tN (d.1 + 2)) (List.range' (d.1 + 3) d.2.1) sc) s) p.2.2 := ⟨fun u hu => p6 u (fun w => (q5 u w).1 hu), fun x hx => Or.inl (by rw [p7] at hx; exact hx), fun x hx => Or.inl (by rw [p7] at hx; exact hx)⟩
      have st2 := st1.tr Oa.2 (fun u hu => by rw [← List.append_assoc]; exact List.mem_append_left _ hu)
      have st3 := st2.ft (l := gFi (gSy p.2.1) r1.2 p.2.1 p.1) (by rw [p3]; exact fits_w hQ hC p1 Oa.1 ⟨p3, p2⟩ p4 (by rw [p5]; exact q8) (q9 r o2))
      have eB := eW.st (s := gTn (d.1 + 2) (gTp (2 * d.1 + 1) (tN (d.1 + 2)) (List.range' (d.1 + 3) d.2.1) sc) s) eF st3
      have Xb := Ib (env ++ [d.1 + 2]) sc A (gFt (gFi (gSy p.2.1) r1.2 p.2.1 p.1) r1.1) y (rkU rk (d.1 + 2) 0) 0 qb o4 eB (aH.e tb) (fun u hu => by rw [st3.1 u hu]; exact hr1 u hu) (fun n => absurd tb n)
      rw [eT_n tb] at Xb
      have F1 := hfl (gSy p.2.1) r1.2 p.2.1 _ d.2.1 Xa.2 (by have := R2; omega)
      rw [p3] at F1 Xb ⊢
      have F2 := hfl (tE d.1) (gWk T f pp ee tE tN b (env ++ [d.1 + 2]) sc A (gFt (gFi r r1.2 p.2.1 p.1) r1.1)).2 (gTp (2 * d.1) (tE d.1) [] sc) _ 0 Xb.2 (Nat.le_refl _)
      rw [hss, hss]
      exact ⟨by have := Xa.1; have := Xb.1; omega, Nat.zero_le _⟩
    rw [if_neg c2] at hq ok ⊢
    rw [if_neg c2, if_neg c2]
    by_cases c3 : g = 3
    · rw [if_pos c3] at hq ok ⊢
      rw [if_pos c3, if_pos c3]
      obtain ⟨⟨q1, q2, q3, q4⟩, ta, qa⟩ := hq
      obtain ⟨o1, r, o2, o3⟩ := ok
      dsimp only
      have HF := e.tp q1
      have nw : d.1 + 1 ∉ env := q1.2.2.2.2 _ (List.mem_singleton_self _)
      have eE : tE d.1 = yA (tN (d.1 + 1)) r := o1.trans o2
      have eR : yR (tE d.1) = r := by rw [eE]; rfl
      have kF : yK (gSy (gTp (2 * d.1) (tE d.1) [d.1 + 1] sc)) = 1 := by show yK (tE d.1) = 1; rw [eE]; rfl
      have sy := gSy_tk (A := gTp (2 * d.1) (tE d.1) [d.1 + 1] sc) rfl
      rw [show gSy (gTp (2 * d.1) (tE d.1) [d.1 + 1] sc) = yA (tN (d.1 + 1)) r from eE] at sy
      have e2 := e.tel nw q2 (HF.tk kF) sy.1
      have hr2 := rk_tn (w := d.1 + 1) (n := 0) (A := gTk (gTp (2 * d.1) (tE d.1) [d.1 + 1] sc)) hr (by rw [rkD_tk]; exact Nat.le_refl 0)
      have Xa := Ia (env ++ [d.1 + 1]) (gNm (.inl (d.1 + 1)) (gTk (gTp (2 * d.1) (tE d.1) [d.1 + 1] sc)) sc) A (gTn (d.1 + 1) (gTk (gTp (2 * d.1) (tE d.1) [d.1 + 1] sc)) s) r (rkU rk (d.1 + 1) 0) 0 (by rw [scC_nm]; exact qa) o3 e2 (aH.e ta) hr2 (fun n => absurd ta n)
      rw [eT_n ta] at Xa
      have F := hfl (yR (tE d.1)) (gWk T f pp ee tE tN a (env ++ [d.1 + 1]) (gNm (.inl (d.1 + 1)) (gTk (gTp (2 * d.1) (tE d.1) [d.1 + 1] sc)) sc) A (gTn (d.1 + 1) (gTk (gTp (2 * d.1) (tE d.1) [d.1 + 1] sc)) s)).2 (gAn (gTp (2 * d.1) (tE d.1) [d.1 + 1] sc)) _ 1 Xa.2 (rkD_an _)
      rw [hss, eR]
      rw [eR] at F
      exact ⟨by have := Xa.1; omega, Nat.zero_le _⟩
    rw [if_neg c3] at hq ok ⊢
    rw [if_neg c3, if_neg c3]
    by_cases c4 : g = 4
    · rw [if_pos c4] at hq ok ⊢
      rw [if_pos c4, if_pos c4]
      obtain ⟨⟨q1, q2⟩, ⟨d', z', a', b', hb⟩, qb⟩ := hq
      have hT := e.tp q1
      have Xb := Ib env (.inr (.inl (a, env), true) :: sc) (gTp (2 * d.1) (tE d.1) [] sc) s y rk 0 qb ok.2.2 (e.cd _) (by
        rw [hb]
        exact ⟨fun _ => ⟨⟨ok.1, hT⟩, gTp_ns rfl, by rw [← ok.1]; exact q2, _, _, rfl⟩, fun w => absurd w (by decide)⟩) hr (fun _ => Nat.le_refl 0)
      rw [hss]
      exact ⟨by have := Xb.1; omega, Nat.zero_le _⟩
    rw [if_neg c4] at hq ok ⊢
    rw [if_neg c4, if_neg c4]
    by_cases c5 : g = 5
    · rw [if_pos c5] at hq ok ⊢
      rw [if_pos c5, if_pos c5, RE (by omega) (by omega), gRk, if_pos c5]
      obtain ⟨q1, tb, qb⟩ := hq
      have Xb := Ib env (.inr (.inl (a, env), true) :: sc) A (gNe (sc, d.1, 0, a, [], env, 0) s) y rk 0 qb ok.2 e (aH.e tb) hr (fun n => absurd tb n)
      rw [eT_n tb] at Xb
      exact Xb
    rw [if_neg c5] at hq ok ⊢
    rw [if_neg c5, if_neg c5]
    by_cases c6 : g = 6
    · rw [if_pos c6] at hq ok ⊢
      rw [if_pos c6, if_pos (Or.inl c6), RE (by omega) (by omega), gRk, if_neg (by omega), if_pos (Or.inl c6)]
      obtain ⟨q1, ta, qa⟩ := hq
      have Xa := Ia env sc A (gNe (sc, d.1 + 2, 3, .leaf, d.2.2.2.1.2, env, gNu f pp ee env (d.1 + 1)) s) y rk 0 qa ok.2.2 e (aH.e ta) hr (fun n => absurd ta n)
      rw [eT_n ta] at Xa
      exact Xa
    rw [if_neg c6] at hq ok ⊢
    rw [if_neg c6]
    by_cases c7 : g = 7
    · rw [if_pos c7, if_pos (Or.inl c7)]
      refine ⟨Nat.zero_le _, ?_⟩
      dsimp only
      split <;> exact Nat.zero_le _
    rw [if_neg c7] at hq ok ⊢
    by_cases c8 : g = 8 ∨ g = 9
    · rw [if_pos c8, if_neg (by omega), if_pos (by omega)]
      exact ⟨Nat.zero_le _, Nat.zero_le _⟩
    rw [if_neg c8] at hq ok ⊢
    by_cases c10 : g = 10
    · rw [if_pos c10] at hq ok ⊢
      rw [if_pos (Or.inr c10)]
      refine ⟨Nat.zero_le _, ?_⟩
      rw [RE (by omega) (by omega), gRk, if_neg (by omega), if_neg (by omega), if_pos c10]
      exact gRs1_b hr hq.1
    rw [if_neg c10] at hq ok ⊢
    rw [if_neg (show ¬ (g = 7 ∨ g = 10) by omega)]
    by_cases c11 : g = 11 ∨ g = 12 ∨ g = 13
    · rw [if_pos c11]
      refine ⟨?_, ?_⟩
      · rcases c11 with rfl | rfl | rfl
        all_goals repeat (first | exact Nat.zero_le _ | rw [if_pos (by omega)] | rw [if_neg (by omega)])
      · dsimp only
        unfold gSg
        split
        · exact Nat.zero_le _
        · split <;> exact Nat.zero_le _
    rw [if_neg c11] at hq ok ⊢
    by_cases c14 : g = 14
    · rw [if_pos c14]
      refine ⟨?_, Nat.zero_le _⟩
      repeat (first | exact Nat.zero_le _ | rw [if_pos (by omega)] | rw [if_neg (by omega)])
    rw [if_neg c14] at hq ok ⊢
    rw [if_neg (show ¬ (g = 8 ∨ g = 9 ∨ g = 12 ∨ g = 14) by omega)]
    by_cases c15 : g = 15
    · rw [if_pos c15] at hq ok ⊢
      rw [if_pos c15, if_pos c15, if_neg (show ¬ (g = 11 ∨ g = 17 ∨ g = 18) by omega), if_neg (show ¬ g = 13 by omega), if_neg (show ¬ (g = 6 ∨ g = 16) by omega)]
      obtain ⟨q1, ta, qa⟩ := hq
      have Xa := Ia env sc (s.1 (gNu f pp ee env d.1)) s _ rk (rk (gNu f pp ee env d.1)) qa ok.2 e (aH.a ta (e.2.2 _ q1)) hr (fun _ => hr _ q1)
      rw [aT_n ta] at Xa
      rw [RE (by omega) (by omega), gRk, if_neg (by omega), if_neg (by omega), if_neg (by omega), if_pos c15]
      exact Xa
    rw [if_neg c15] at hq ok ⊢
    rw [if_neg c15, if_neg c15]
    by_cases c16 : g = 16
    · rw [if_pos c16] at hq ok ⊢
      rw [if_pos c16, if_neg (show ¬ (g = 11 ∨ g = 17 ∨ g = 18) by omega), if_neg (show ¬ g = 13 by omega), if_pos (Or.inr c16)]
      have Xa := Ia env sc A s y rk 0 hq.2 ok e (aH.e hq.1) hr (fun n => absurd hq.1 n)
      rw [eT_n hq.1] at Xa
      rw [RE (by omega) (by omega), gRk, if_neg (by omega), if_pos (Or.inr c16)]
      exact Xa
    rw [if_neg c16] at hq ok ⊢
    rw [if_neg c16]
    by_cases c17 : g = 17
    · rw [if_pos c17]
      refine ⟨?_, Nat.zero_le _⟩
      repeat (first | exact Nat.zero_le _ | rw [if_pos (by omega)] | rw [if_neg (by omega)])
    rw [if_neg c17] at hq ok ⊢
    by_cases c18 : g = 18
    · rw [if_pos c18]
      refine ⟨?_, Nat.zero_le _⟩
      repeat (first | exact Nat.zero_le _ | rw [if_pos (by omega)] | rw [if_neg (by omega)])
    rw [if_neg c18] at hq ok ⊢
    rw [if_neg (show ¬ (g = 11 ∨ g = 17 ∨ g = 18) by omega), if_neg (show ¬ g = 13 by omega), if_neg (show ¬ (g = 6 ∨ g = 16) by omega)]
    have one : ∀ c : Int, (c = 1 ∨ c = -1) → ∀ u, u ∈ env → tN u = yB 3 → wfT Γ C B rt (nmS sc) (gEq (yB 3) (some (.inl u, 1), c)) := fun c hc u hu ht => by
      have mu : Sum.inl u ∈ nmS sc := e.me.mpr (gSv_me.mpr ⟨u, hu, by rw [ht]; rfl, rfl⟩)
      refine gEq_w (by decide) (fun x e' w => ?_) ⟨⟨?_, ?_⟩, ?_, ?_⟩ (fun x e' w => ?_)
      · injection w with w; injection w with w1 w2
        rw [← w1, ← w2]
        exact ⟨scW.nm _ e.2.1 _ mu, Or.inl rfl⟩
      · show -1125899906842624 ≤ c; omega
      · show c ≤ 1125899906842624; omega
      · show -B ≤ 2 * c - 2; omega
      · show 2 * c + 2 ≤ B; omega
      · injection w with w; injection w with w1 w2
        rw [← w1]
        exact mu
    by_cases c19 : g = 19
    · rw [if_pos c19] at hq ok ⊢
      rw [if_pos c19, if_pos c19]
      obtain ⟨⟨q1, q2, ⟨q3, q4, q5, q6⟩, ⟨q7, q7'⟩, q8, q9⟩, ⟨ta, tb⟩, qa, qb⟩ := hq
      obtain ⟨o1, o2, ⟨o3, o4⟩, o5, o6⟩ := ok
      dsimp only
      have hT := e.tp q1
      have LL := one (-1) (Or.inr rfl) _ q2 o2
      have Oa := Wa env (.inr (.inr (gNu f pp ee env (d.1 + 1)), true) :: sc) A s y qa o5 e (aH.e ta)
      have Xa := Ia env (.inr (.inr (gNu f pp ee env (d.1 + 1)), true) :: sc) A s y rk 0 qa o5 e (aH.e ta) hr (fun n => absurd ta n)
      rw [yOu_e ta] at Oa
      rw [eT_n ta] at Xa
      generalize gWk T f pp ee tE tN a env (.inr (.inr (gNu f pp ee env (d.1 + 1)), true) :: sc) A s = r1 at Oa Xa ⊢
      have st1 := Oa.2.ft (l := gFi (tE d.1) r1.2 (gTp (2 * d.1) (tE d.1) [] sc) (.inr (.inr (gNu f pp ee env (d.1 + 1)), true) :: sc)) (fits_w hQ hC (e.cd (.inr (gNu f pp ee env (d.1 + 1)), true)) (by rw [o1]; exact Oa.1) ⟨rfl, hT⟩ (gTp_ns rfl) q8 q7)
      have e1 : eW Γ C B rt tN env (.inr (.inr (gNu f pp ee env (d.1 + 1)), false) :: sc) (gFt (gFi (tE d.1) r1.2 (gTp (2 * d.1) (tE d.1) [] sc) (.inr (.inr (gNu f pp ee env (d.1 + 1)), true) :: sc)) r1.1).1 := eW.st (s := s) e st1
      have e2 := e1.tel (w := d.2.1) (A := gPl (yB 0)) q3 q5 (gPl_w (by decide)) o3.symm
      have e3 := e2.tel (w := d.2.1 + 1) (A := gEq (yB 3) (some (.inl (gNu f pp ee env (d.1 + 1)), 1), -1)) (fun w => by
        rcases List.mem_append.mp w with w | w
        · exact q4 w
        · have := List.mem_singleton.mp w; omega) q6 (LL.mo (nm_sub _ _ _)) o4.symm
      rw [List.append_assoc] at e3
      have hr1 : ∀ u, u ∈ env → gDq ((gFt (gFi (tE d.1) r1.2 (gTp (2 * d.1) (tE d.1) [] sc) (.inr (.inr (gNu f pp ee env (d.1 + 1)), true) :: sc)) r1.1).1 u) ≤ rk u := fun u hu => by rw [st1.1 u hu]; exact hr u hu
      have hr2 := rk_tn (w := d.2.1) (n := 0) (A := gPl (yB 0)) hr1 (Nat.le_refl 0)
      have hr3 := rk_tn (w := d.2.1 + 1) (n := 0) (A := gEq (yB 3) (some (.inl (gNu f pp ee env (d.1 + 1)), 1), -1)) hr2 (Nat.le_refl 0)
      rw [List.append_assoc] at hr3
      have Xb := Ib (env ++ [d.2.1, d.2.1 + 1]) (gNm (.inl (d.2.1 + 1)) (gEq (yB 3) (some (.inl (gNu f pp ee env (d.1 + 1)), 1), -1)) (gNm (.inl d.2.1) (gPl (yB 0)) (.inr (.inr (gNu f pp ee env (d.1 + 1)), false) :: sc))) A (gTn (d.2.1 + 1) (gEq (yB 3) (some (.inl (gNu f pp ee env (d.1 + 1)), 1), -1)) (gTn d.2.1 (gPl (yB 0)) (gFt (gFi (tE d.1) r1.2 (gTp (2 * d.1) (tE d.1) [] sc) (.inr (.inr (gNu f pp ee env (d.1 + 1)), true) :: sc)) r1.1))) y (rkU (rkU rk d.2.1 0) (d.2.1 + 1) 0) 0 (by rw [scC_nm, scC_nm]; exact qb) o6 e3 (aH.e tb) hr3 (fun n => absurd tb n)
      rw [eT_n tb] at Xb
      have F1 := hfl (tE d.1) r1.2 (gTp (2 * d.1) (tE d.1) [] sc) _ 0 Xa.2 (Nat.le_refl _)
      have F2 := hfl (tE d.1) (gWk T f pp ee tE tN b (env ++ [d.2.1, d.2.1 + 1]) (gNm (.inl (d.2.1 + 1)) (gEq (yB 3) (some (.inl (gNu f pp ee env (d.1 + 1)), 1), -1)) (gNm (.inl d.2.1) (gPl (yB 0)) (.inr (.inr (gNu f pp ee env (d.1 + 1)), false) :: sc))) A (gTn (d.2.1 + 1) (gEq (yB 3) (some (.inl (gNu f pp ee env (d.1 + 1)), 1), -1)) (gTn d.2.1 (gPl (yB 0)) (gFt (gFi (tE d.1) r1.2 (gTp (2 * d.1) (tE d.1) [] sc) (.inr (.inr (gNu f pp ee env (d.1 + 1)), true) :: sc)) r1.1)))).2 (gTp (2 * d.1) (tE d.1) [] sc) _ 0 Xb.2 (Nat.le_refl _)
      rw [hss]
      exact ⟨by have := Xa.1; have := Xb.1; omega, Nat.zero_le _⟩
    rw [if_neg c19] at hq ok ⊢
    rw [if_neg c19, if_neg c19]
    by_cases c31 : g = 31
    · rw [if_pos c31] at hq ok ⊢
      rw [if_pos c31, if_pos c31]
      obtain ⟨q1, ⟨ta, tb⟩, qa, qb⟩ := hq
      obtain ⟨⟨hy, hA'⟩, hns, hM, c, r, hsc⟩ := h.1 c31
      have hA0 : gDq A ≤ q := hA (fun z => by rw [c31] at z; exact z.1 rfl)
      dsimp only
      have ef : scC (gFl sc) = cFl (scC sc) := by
        rw [hsc]
        obtain ⟨c, hh⟩ := c
        rfl
      have Oa := Wa env sc A s y qa ok.1 e (aH.e ta)
      have Xa := Ia env sc A s y rk 0 qa ok.1 e (aH.e ta) hr (fun n => absurd ta n)
      rw [yOu_e ta] at Oa
      rw [eT_n ta] at Xa
      generalize gWk T f pp ee tE tN a env sc A s = r1 at Oa Xa ⊢
      have st1 := Oa.2.ft (l := gFi (gSy A) r1.2 A sc) (by rw [hy]; exact fits_w hQ hC e Oa.1 ⟨hy, hA'⟩ hns cb hM)
      have e1 : eW Γ C B rt tN env (gFl sc) (gFt (gFi (gSy A) r1.2 A sc) r1.1).1 := (eW.st (s := s) e st1).fl
      have Xb := Ib env (gFl sc) A (gFt (gFi (gSy A) r1.2 A sc) r1.1) y rk 0 (by rw [ef]; exact qb) ok.2 e1 (aH.e tb) (fun u hu => by rw [st1.1 u hu]; exact hr u hu) (fun n => absurd tb n)
      rw [eT_n tb] at Xb
      rw [hy] at Xb ⊢
      have F1 := hfl y r1.2 A _ q Xa.2 hA0
      have F2 := hfl y (gWk T f pp ee tE tN b env (gFl sc) A (gFt (gFi y r1.2 A sc) r1.1)).2 A _ q Xb.2 hA0
      refine ⟨by have := Xa.1; have := Xb.1; omega, ?_⟩
      show gDq A ≤ gRo1 f pp ee rk env q (.inner g d z a b)
      rw [gRo1]
      rw [if_neg (by omega), if_pos c31]
      exact hA0
    rw [if_neg c31] at hq ok ⊢
    rw [if_neg c31, if_neg c31]
    have tqi : tQn (.inner g d z a b) = tQn b + 1 := rfl
    by_cases c33 : g = 33
    · rw [if_pos c33] at hq ok ⊢
      rw [if_pos c33, if_pos c33]
      obtain ⟨⟨q1, q2, q3⟩, tb, qb⟩ := hq
      obtain ⟨o1, ⟨o2, -⟩, o4⟩ := ok
      obtain ⟨hy, hA'⟩ := h.2 (Or.inl c33)
      have hA0 : gDq A ≤ q := hA (fun z => by rw [c33] at z; exact z.2.1 rfl)
      have k1 : yK (gSy A) = 1 := by rw [hy]; exact yIs_1 o1
      obtain ⟨m, em, -⟩ := hA'.fn k1
      have sy := gSy_tk em
      rw [hy] at sy
      have lA : yL (gSy A) = gSk f pp ee tN env d.2.2.2.1.2 := by rw [hy]; exact o2
      have an := rkD_an A
      have RN : gRo1 f pp ee rk env q (.inner g d z a b) = q + tQn (.inner g d z a b) := by rw [gRo1, if_pos (Or.inl c33)]
      have nx : ∀ A', (gSy A' = yR y ∧ wfT Γ C B rt (nmS sc) A') → gDq A' ≤ q + 1 → wX T f pp ee tE tN xs wt b env sc A' (gFt (gFi (yL (gSy A)) (gSu T f pp ee env d.2.2.2.1.2 s) (gTk A) sc) s) ≤ xB f pp ee wt tE tN xs b env rk (yR y) (q + 1) ∧ gDq (gWk T f pp ee tE tN b env sc A' (gFt (gFi (yL (gSy A)) (gSu T f pp ee env d.2.2.2.1.2 s) (gTk A) sc) s)).2 ≤ gRo1 f pp ee rk env q (.inner g d z a b) := fun A' hA1 hA2 => by
        have Xb := Ib env sc A' (gFt (gFi (yL (gSy A)) (gSu T f pp ee env d.2.2.2.1.2 s) (gTk A) sc) s) (yR y) rk (q + 1) qb o4 e (aH.a tb hA1) hr (fun _ => hA2)
        rw [aT_n tb] at Xb
        rw [RN, tqi]
        exact ⟨Xb.1, by have := Xb.2; omega⟩
      have F := kIv_b (wt := wt) (y := yL y) (gRs1_b (T := T) hr q1.1) hA0
      have NX : ∀ A', (gSy A' = yR y ∧ wfT Γ C B rt (nmS sc) A') → gDq A' ≤ q + 1 → kIv wt (yL (gSy A)) (gSu T f pp ee env d.2.2.2.1.2 s) A + wX T f pp ee tE tN xs wt b env sc A' (gFt (gFi (yL (gSy A)) (gSu T f pp ee env d.2.2.2.1.2 s) (gTk A) sc) s) ≤ kIu wt (yL y) (gRs1 f pp ee rk env d.2.2.2.1.2) q + xB f pp ee wt tE tN xs b env rk (yR y) (q + 1) := fun A' hA1 hA2 => by
        have := (nx A' hA1 hA2).1
        have F := F
        rw [← hy] at F
        rw [hy] at this F ⊢
        omega
      by_cases w : gMs (yL (gSy A)) = true
      · rw [if_pos w]
        obtain ⟨t1, -, t2, t3⟩ := q2 (by rw [← lA]; exact w)
        have HW := (⟨sy.2, hA'.pu hQ k1 (fun _ hs => hs) w t1 t2 (fun x e' hx => e.me.mpr (t3 x e' hx))⟩ : gSy (gPu (gAn A) (gPn A) (gOf T f pp ee env d.2.2.2.1.2)) = yR y ∧ wfT Γ C B rt (nmS sc) (gPu (gAn A) (gPn A) (gOf T f pp ee env d.2.2.2.1.2)))
        have HD : gDq (gPu (gAn A) (gPn A) (gOf T f pp ee env d.2.2.2.1.2)) ≤ q + 1 := by rw [rkD_pu]; omega
        exact ⟨NX _ HW HD, (nx _ HW HD).2⟩
      · rw [if_neg w]
        have HW := (⟨sy.2, hA'.an hQ k1 (fun _ hs => hs) (fun w' => absurd w' w)⟩ : gSy (gAn A) = yR y ∧ wfT Γ C B rt (nmS sc) (gAn A))
        exact ⟨NX _ HW (by omega), (nx _ HW (by omega)).2⟩
    rw [if_neg c33] at hq ok ⊢
    rw [if_neg c33, if_neg c33]
    by_cases c34 : g = 34
    · rw [if_pos c34] at hq ok ⊢
      rw [if_pos c34, if_pos c34]
      obtain ⟨q1, ⟨ta, tb⟩, qa, qb⟩ := hq
      obtain ⟨o1, o2, o3⟩ := ok
      obtain ⟨hy, hA'⟩ := h.2 (Or.inr (Or.inl c34))
      have hA0 : gDq A ≤ q := hA (fun z => by rw [c34] at z; exact z.2.2.1 rfl)
      have k1 : yK (gSy A) = 1 := by rw [hy]; exact yIs_1 o1
      obtain ⟨m, em, -⟩ := hA'.fn k1
      have sy := gSy_tk em
      rw [hy] at sy
      obtain ⟨m1, m2⟩ := q1 _ o2
      have an := rkD_an A
      have RN : gRo1 f pp ee rk env q (.inner g d z a b) = q + tQn (.inner g d z a b) := by rw [gRo1, if_pos (Or.inr (Or.inl c34))]
      dsimp only
      have Oa := Wa env sc A s _ qa o2 e (aH.e ta)
      have Xa := Ia env sc A s _ rk 0 qa o2 e (aH.e ta) hr (fun n => absurd ta n)
      rw [yOu_e ta] at Oa
      rw [eT_n ta] at Xa
      generalize gWk T f pp ee tE tN a env sc A s = r1 at Oa Xa ⊢
      have st1 := Oa.2.ft (l := gFi (yL (gSy A)) r1.2 (gTk A) sc) (by
        rw [hy]
        exact fits_w hQ hC e Oa.1 ⟨sy.1, hA'.tk k1⟩ (fun m' w => by
          unfold gTk at w
          rw [em] at w
          injection w with w
          rw [← w]
          rfl) cb m2)
      have Xb := Ib env sc (gAn A) (gFt (gFi (yL (gSy A)) r1.2 (gTk A) sc) r1.1) (yR y) rk (q + 1) qb o3 (eW.st (s := s) e st1) (aH.a tb ⟨sy.2, hA'.an hQ k1 (fun _ hs => hs) (fun w => by rw [hy, m1] at w; cases w)⟩) (fun u hu => by rw [st1.1 u hu]; exact hr u hu) (fun _ => by omega)
      rw [aT_n tb] at Xb
      rw [RN, tqi]
      have F := kIv_b (wt := wt) (y := yL y) Xa.2 hA0
      rw [hy] at Xb ⊢
      exact ⟨by have := Xa.1; have := Xb.1; omega, by have := Xb.2; omega⟩
    rw [if_neg c34] at hq ok ⊢
    rw [if_neg c34, if_neg c34]
    obtain ⟨c35, tb, qb⟩ := hq
    obtain ⟨o1, o2, o3⟩ := ok
    rw [if_pos c35, if_pos c35, if_pos c35]
    obtain ⟨hy, hA'⟩ := h.2 (Or.inr (Or.inr c35))
    have hA0 : gDq A ≤ q := hA (fun z => by rw [c35] at z; exact z.2.2.2 rfl)
    have k1 : yK (gSy A) = 1 := by rw [hy]; exact yIs_1 o1
    obtain ⟨m, em, -⟩ := hA'.fn k1
    have sy := gSy_tk em
    rw [hy] at sy
    have an := rkD_an A
    have Xb := Ib env sc (gAn A) s (yR y) rk (q + 1) qb o3 e (aH.a tb ⟨sy.2, hA'.an hQ k1 (fun _ hs => hs) (fun w => by rw [hy, o2] at w; cases w)⟩) hr (fun _ => by omega)
    rw [aT_n tb] at Xb
    have RN : gRo1 f pp ee rk env q (.inner g d z a b) = q + tQn (.inner g d z a b) := by rw [gRo1, if_pos (Or.inr (Or.inr c35))]
    rw [RN, tqi]
    exact ⟨Xb.1, by have := Xb.2; omega⟩
end XBT
