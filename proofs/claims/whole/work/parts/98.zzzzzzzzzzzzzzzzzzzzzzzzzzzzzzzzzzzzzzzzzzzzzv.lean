/-! ROOM: TEMPLATES and their own FITS, by types alone -/
/-- a function's own type -/
def tHd (tE : Nat → tY) : tT → tY
  | .leaf => .leaf
  | .inner _ d _ _ _ => tE d.1
section OTD
variable (tE tN : Nat → tY) (xs : List tQ) (wt P : Nat)
/-- what TEMPLATES take -/
def oTt : tT → List Nat → Nat
  | .leaf, _ => 0
  | .inner g d _ a b, env =>
    if g = 1 then 8 * tCs xs (tE d.1) (gSv tN env).length + (oTt a env + oTt b (env ++ [d.1 + 1]))
    else if g = 2 then 8 * tCs xs (tN (d.1 + 2)) (gSv tN env).length + 8 * tCs xs (tE d.1) (gSv tN env).length + (oTt a (env ++ ([d.1 + 2] ++ List.range' (d.1 + 3) d.2.1)) + oTt b (env ++ [d.1 + 2]))
    else if g = 3 then 8 * tCs xs (tE d.1) (gSv tN env).length + oTt a (env ++ [d.1 + 1])
    else if g = 4 then 8 * tCs xs (tE d.1) (gSv tN env).length + oTt b env
    else if g = 19 then 8 * tCs xs (tE d.1) (gSv tN env).length + (oTt a env + oTt b (env ++ [d.2.1, d.2.1 + 1]))
    else if g = 31 ∨ g = 34 then oTt a env + oTt b env
    else if g = 6 ∨ g = 15 ∨ g = 16 then oTt a env
    else if g = 5 ∨ g = 33 ∨ g = 35 then oTt b env
    else 0
/-- what their own FITS take -/
def oFt : tT → Nat
  | .leaf => 0
  | .inner g d _ a b =>
    if g = 1 then fCw wt (tE d.1) P 0 + (oFt a + oFt b)
    else if g = 2 then fCw wt (yRs d.2.1 (tN (d.1 + 2))) P d.2.1 + fCw wt (tE d.1) P 0 + (oFt a + oFt b)
    else if g = 3 then fCw wt (yR (tE d.1)) P 1 + oFt a
    else if g = 4 then 2 * fCw wt (tE d.1) P 0 + oFt b
    else if g = 19 then 2 * fCw wt (tE d.1) P 0 + (oFt a + oFt b)
    else if g = 34 then kIu wt (tHd tE a) P (P + 4) + (oFt a + oFt b)
    else if g = 31 then oFt a + oFt b
    else if g = 6 ∨ g = 15 ∨ g = 16 then oFt a
    else if g = 5 ∨ g = 33 ∨ g = 35 then oFt b
    else 0
end OTD
theorem gFn_yr {tN : Nat → tY} {r : tY} : ∀ (q w : Nat), yRs q (gFn tN q w r) = r
  | 0, _ => rfl
  | q + 1, w => gFn_yr q (w + 1)
section XTB
variable {kk f pp ee : Nat → Int32} {cnt P : Nat} {tE tN : Nat → tY} {xs : List tQ} {Ui : List ((Nat × Nat) × Nat)} {L : List (tY × Nat × Nat × Nat)}
theorem fCw_P {wt : Nat} {y : tY} {r q : Nat} (h : yK y = 1 → r ≤ P) : fCw wt y r q ≤ fCw wt y P q := by
  have F : fCp y r q ≤ fCp y P q := by
    by_cases ky : yK y = 1
    · exact fCp_mo _ _ _ _ _ (h ky) (Nat.le_refl _)
    · rw [fCp_nf _ _ _ ky]
      exact Nat.zero_le _
  unfold fCw
  omega
set_option maxHeartbeats 1000000 in
/-- **TEMPLATES and their own FITS, where no NAME has more than P steps** -/
theorem xT_b {wt : Nat} (h0 : yK (tN 0) ≠ 1) (HP : ∀ y r, chE tE tN Ui L y r → yK y = 1 → r ≤ P) (H4 : ∀ c, c ∈ L → c.2.1 ≤ 4) : ∀ (t : tT), tF3 t → ∀ (l : Nat), tWf kk cnt t l → ∀ (env : List Nat) (rk : Nat → Nat) (y : tY), gOk f pp ee tE tN t env y → (∀ u, u ∈ env → yK (tN u) = 1 → chE tE tN Ui L (tN u) (rk u)) → (∀ x, x ∈ gUi t → x ∈ Ui) → (∀ c, c ∈ cvE f pp ee wt tN t env rk → c ∈ L) → (l = 0 → ∀ q, xT f pp ee wt tE tN xs t env rk y q + kAr f pp ee wt t env rk y q ≤ oTt tE tN xs t env + oFt tE tN wt P t) ∧ (l = 1 → xT f pp ee wt tE tN xs t env rk y 0 + kAr f pp ee wt t env rk y 0 ≤ oTt tE tN xs t env + oFt tE tN wt P t + 2 * fCw wt y P 0) ∧ (l = 2 → ∀ q, (tQn t = 0 ∨ q + tQn t ≤ P + 4) → xT f pp ee wt tE tN xs t env rk y q ≤ oTt tE tN xs t env + oFt tE tN wt P t)
  | .leaf, _, l, h, _, _, _, _, _, _, _ => by
    have h : l = 2 := h
    subst h
    exact ⟨fun z => (by cases z), fun z => (by cases z), fun _ _ _ => Nat.zero_le _⟩
  | .inner g d z a b, h3, l, h, env, rk, y, hg, hE, hU, hL => by
    obtain ⟨f1, f2, f3⟩ := h3
    have U1 : ∀ (w n : Nat), (yK (tN w) = 1 → chE tE tN Ui L (tN w) n) → ∀ u, u ∈ env ++ [w] → yK (tN u) = 1 → chE tE tN Ui L (tN u) (rkU rk w n u) := fun w n hw => rkU_p (P := fun u r => yK (tN u) = 1 → chE tE tN Ui L (tN u) r) hE hw
    rcases h with ⟨rfl, rfl, -, ha, hb⟩ | ⟨rfl, -, hb, h⟩ | ⟨rfl, h⟩
    · have hL : ∀ c, c ∈ cvE f pp ee wt tN a env rk ++ cvE f pp ee wt tN b env rk → c ∈ L := hL
      have hU : ∀ x, x ∈ gUi a ++ gUi b → x ∈ Ui := hU
      have A := (xT_b (wt := wt) h0 HP H4 a (by rw [if_neg (by decide)] at f2; exact f2) 0 ha env rk y hg.1 hE (fun x hx => hU x (List.mem_append_left _ hx)) (fun c hc => hL c (List.mem_append_left _ hc))).1 rfl 0
      have B := (xT_b (wt := wt) h0 HP H4 b f3 0 hb env rk y hg.2 hE (fun x hx => hU x (List.mem_append_right _ hx)) (fun c hc => hL c (List.mem_append_right _ hc))).1 rfl 0
      have A2 := (cv_chE (wt := wt) h0 a 0 ha env rk y hg.1 hE (fun x hx => hU x (List.mem_append_left _ hx)) (fun c hc => hL c (List.mem_append_left _ hc))).2 rfl
      have B2 := (cv_chE (wt := wt) h0 b 0 hb env rk y hg.2 hE (fun x hx => hU x (List.mem_append_right _ hx)) (fun c hc => hL c (List.mem_append_right _ hc))).2 rfl
      have FA := fCw_P (wt := wt) (q := 0) (fun ky => HP _ _ (A2 ky) ky)
      have FB := fCw_P (wt := wt) (q := 0) (fun ky => HP _ _ (B2 ky) ky)
      refine ⟨fun z => (by cases z), fun _ => ?_, fun z => (by cases z)⟩
      show (xT f pp ee wt tE tN xs a env rk y 0 + kAr f pp ee wt a env rk y 0) + fCw wt y (gRk f pp ee rk a env) 0 + (xT f pp ee wt tE tN xs b env rk y 0 + kAr f pp ee wt b env rk y 0) + fCw wt y (gRk f pp ee rk b env) 0 + 0 ≤ (oTt tE tN xs a env + oTt tE tN xs b env) + (oFt tE tN wt P a + oFt tE tN wt P b) + 2 * fCw wt y P 0
      omega
    · rcases h with ⟨rfl, -, -⟩ | ⟨rfl, -, ha⟩ | ⟨rfl, -, -, -⟩
      · have B := (xT_b (wt := wt) h0 HP H4 b f3 2 hb env rk _ hg.2.2 hE hU hL).2.2 rfl
        exact ⟨fun z => (by cases z), fun z => (by cases z), fun _ q hq => B (q + 1) (by have : tQn (.inner 33 d z a b : tT) = tQn b + 1 := rfl; omega)⟩
      · have hL : ∀ c, c ∈ cvE f pp ee wt tN a env rk ++ cvE f pp ee wt tN b env rk → c ∈ L := hL
        have hU : ∀ x, x ∈ gUi a ++ gUi b → x ∈ Ui := hU
        have A := (xT_b (wt := wt) h0 HP H4 a (by rw [if_neg (by decide)] at f2; exact f2) 0 ha env rk _ hg.2.1 hE (fun x hx => hU x (List.mem_append_left _ hx)) (fun c hc => hL c (List.mem_append_left _ hc))).1 rfl 0
        have B := (xT_b (wt := wt) h0 HP H4 b f3 2 hb env rk _ hg.2.2 hE (fun x hx => hU x (List.mem_append_right _ hx)) (fun c hc => hL c (List.mem_append_right _ hc))).2.2 rfl
        refine ⟨fun z => (by cases z), fun z => (by cases z), fun _ q hq => ?_⟩
        have hq : tQn b + 1 = 0 ∨ q + (tQn b + 1) ≤ P + 4 := hq
        have B := B (q + 1) (by omega)
        have F : kIu wt (yL y) (gRk f pp ee rk a env) q ≤ kIu wt (tHd tE a) P (P + 4) := by
          obtain ⟨d', z', a', b', e⟩ := f1 rfl
          subst e
          obtain ⟨ht, -⟩ : tE d'.1 = yL y ∧ ∃ r, yL y = yA (tN (d'.1 + 1)) r ∧ gOk f pp ee tE tN a' (env ++ [d'.1 + 1]) r := hg.2.1
          have h1 : tHd tE (.inner 3 d' z' a' b') = yL y := ht
          have h2 : gRk f pp ee rk (.inner 3 d' z' a' b') env = 0 := rfl
          rw [h1, h2]
          exact kIu_mo _ (fCp_mo _ _ _ _ _ (Nat.zero_le _) (by omega)) (by omega)
        show (xT f pp ee wt tE tN xs a env rk (yL y) 0 + kAr f pp ee wt a env rk (yL y) 0) + kIu wt (yL y) (gRk f pp ee rk a env) q + xT f pp ee wt tE tN xs b env rk (yR y) (q + 1) ≤ (oTt tE tN xs a env + oTt tE tN xs b env) + (kIu wt (tHd tE a) P (P + 4) + (oFt tE tN wt P a + oFt tE tN wt P b))
        omega
      · have B := (xT_b (wt := wt) h0 HP H4 b f3 2 hb env rk _ hg.2.2 hE hU hL).2.2 rfl
        exact ⟨fun z => (by cases z), fun z => (by cases z), fun _ q hq => B (q + 1) (by have : tQn (.inner 35 d z a b : tT) = tQn b + 1 := rfl; omega)⟩
    · rcases h with ⟨rfl, -, ha, hb⟩ | ⟨rfl, -, ha, hb⟩ | ⟨rfl, -, ha⟩ | ⟨rfl, -, hb⟩ | ⟨rfl, -, hb⟩ | ⟨rfl, -, -, ha⟩ | ⟨rfl | rfl, -⟩ | ⟨rfl | rfl | rfl, -⟩ | ⟨rfl | rfl | rfl, -⟩ | ⟨rfl, -⟩ | ⟨rfl, -, ha⟩ | ⟨rfl, -, ha, -⟩ | ⟨rfl, -⟩ | ⟨rfl, -, ha, hb⟩
      · -- let
        have hU : ∀ x, x ∈ (((0, 2 * d.1) : Nat × Nat), 0) :: (gUi a ++ gUi b) → x ∈ Ui := hU
        have hL : ∀ c, c ∈ cvE f pp ee wt tN a env rk ++ cvE f pp ee wt tN b (env ++ [d.1 + 1]) (rkU rk (d.1 + 1) (gRk f pp ee rk a env)) → c ∈ L := hL
        obtain ⟨hy, ga, gb⟩ : tE d.1 = y ∧ gOk f pp ee tE tN a env (tN (d.1 + 1)) ∧ gOk f pp ee tE tN b (env ++ [d.1 + 1]) y := hg
        have A := (xT_b (wt := wt) h0 HP H4 a (by rw [if_neg (by decide)] at f2; exact f2) 0 ha env rk _ ga hE (fun x hx => hU x (List.mem_cons_of_mem _ (List.mem_append_left _ hx))) (fun c hc => hL c (List.mem_append_left _ hc))).1 rfl 0
        have A' := (cv_chE (wt := wt) h0 a 0 ha env rk _ ga hE (fun x hx => hU x (List.mem_cons_of_mem _ (List.mem_append_left _ hx))) (fun c hc => hL c (List.mem_append_left _ hc))).2
        have B := (xT_b (wt := wt) h0 HP H4 b f3 0 hb _ _ _ gb (U1 _ _ (A' rfl)) (fun x hx => hU x (List.mem_cons_of_mem _ (List.mem_append_right _ hx))) (fun c hc => hL c (List.mem_append_right _ hc))).1 rfl 0
        have B2 := (cv_chE (wt := wt) h0 b 0 hb _ _ _ gb (U1 _ _ (A' rfl)) (fun x hx => hU x (List.mem_cons_of_mem _ (List.mem_append_right _ hx))) (fun c hc => hL c (List.mem_append_right _ hc))).2 rfl
        have FB := fCw_P (wt := wt) (q := 0) (fun ky => HP _ _ (B2 ky) ky)
        refine ⟨fun _ q => ?_, fun z => (by cases z), fun z => (by cases z)⟩
        subst hy
        show (xT f pp ee wt tE tN xs a env rk (tN (d.1 + 1)) 0 + kAr f pp ee wt a env rk (tN (d.1 + 1)) 0) + 8 * tCs xs (tE d.1) (gSv tN env).length + (xT f pp ee wt tE tN xs b (env ++ [d.1 + 1]) (rkU rk (d.1 + 1) (gRk f pp ee rk a env)) (tE d.1) 0 + kAr f pp ee wt b (env ++ [d.1 + 1]) (rkU rk (d.1 + 1) (gRk f pp ee rk a env)) (tE d.1) 0) + fCw wt (tE d.1) (gRk f pp ee (rkU rk (d.1 + 1) (gRk f pp ee rk a env)) b (env ++ [d.1 + 1])) 0 + 0 ≤ (8 * tCs xs (tE d.1) (gSv tN env).length + (oTt tE tN xs a env + oTt tE tN xs b (env ++ [d.1 + 1]))) + (fCw wt (tE d.1) P 0 + (oFt tE tN wt P a + oFt tE tN wt P b))
        omega
      · -- let rec
        have hU : ∀ x, x ∈ (((0, 2 * d.1) : Nat × Nat), 0) :: (((0, 2 * d.1 + 1) : Nat × Nat), 0) :: ((List.range d.2.1).map (fun i => (((1, d.1 + 3 + i) : Nat × Nat), i)) ++ (gUi a ++ gUi b)) → x ∈ Ui := hU
        have hL : ∀ c, c ∈ cvE f pp ee wt tN a (env ++ ([d.1 + 2] ++ List.range' (d.1 + 3) d.2.1)) (rkP d.2.1 (d.1 + 3) 0 (rkU rk (d.1 + 2) 0)) ++ cvE f pp ee wt tN b (env ++ [d.1 + 2]) (rkU rk (d.1 + 2) 0) → c ∈ L := hL
        obtain ⟨hy, ⟨rr, hf, ga⟩, gb⟩ : tE d.1 = y ∧ (∃ r, tN (d.1 + 2) = gFn tN d.2.1 (d.1 + 3) r ∧ gOk f pp ee tE tN a (env ++ ([d.1 + 2] ++ List.range' (d.1 + 3) d.2.1)) r) ∧ gOk f pp ee tE tN b (env ++ [d.1 + 2]) y := hg
        have F : chE tE tN Ui L (tN (d.1 + 2)) 0 := Or.inl ⟨_, hU _ (List.mem_cons_of_mem _ (List.mem_cons_self ..)), (uY_f d.1).symm, Nat.le_refl 0⟩
        have EA := rkP_p (P := fun u r => yK (tN u) = 1 → chE tE tN Ui L (tN u) r) d.2.1 (d.1 + 3) 0 (rkU rk (d.1 + 2) 0) (env ++ [d.1 + 2]) (U1 _ _ (fun _ => F)) (fun j hj _ => Or.inl ⟨((1, d.1 + 3 + j), j), hU _ (List.mem_cons_of_mem _ (List.mem_cons_of_mem _ (List.mem_append_left _ (List.mem_map.mpr ⟨j, List.mem_range.mpr hj, rfl⟩)))), (uY_p _).symm, by omega⟩)
        rw [List.append_assoc] at EA
        have er : yRs d.2.1 (tN (d.1 + 2)) = rr := by rw [hf]; exact gFn_yr _ _
        have A := (xT_b (wt := wt) h0 HP H4 a (by rw [if_neg (by decide)] at f2; exact f2) 0 ha _ _ _ ga EA (fun x hx => hU x (List.mem_cons_of_mem _ (List.mem_cons_of_mem _ (List.mem_append_right _ (List.mem_append_left _ hx))))) (fun c hc => hL c (List.mem_append_left _ hc))).1 rfl 0
        have A2 := (cv_chE (wt := wt) h0 a 0 ha _ _ _ ga EA (fun x hx => hU x (List.mem_cons_of_mem _ (List.mem_cons_of_mem _ (List.mem_append_right _ (List.mem_append_left _ hx))))) (fun c hc => hL c (List.mem_append_left _ hc))).2 rfl
        have B := (xT_b (wt := wt) h0 HP H4 b f3 0 hb _ _ _ gb (U1 _ _ (fun _ => F)) (fun x hx => hU x (List.mem_cons_of_mem _ (List.mem_cons_of_mem _ (List.mem_append_right _ (List.mem_append_right _ hx))))) (fun c hc => hL c (List.mem_append_right _ hc))).1 rfl 0
        have B2 := (cv_chE (wt := wt) h0 b 0 hb _ _ _ gb (U1 _ _ (fun _ => F)) (fun x hx => hU x (List.mem_cons_of_mem _ (List.mem_cons_of_mem _ (List.mem_append_right _ (List.mem_append_right _ hx))))) (fun c hc => hL c (List.mem_append_right _ hc))).2 rfl
        have FA := fCw_P (wt := wt) (q := d.2.1) (fun ky => HP _ _ (A2 ky) ky)
        have FB := fCw_P (wt := wt) (q := 0) (fun ky => HP _ _ (B2 ky) ky)
        refine ⟨fun _ q => ?_, fun z => (by cases z), fun z => (by cases z)⟩
        subst hy
        subst er
        show 8 * tCs xs (tN (d.1 + 2)) (gSv tN env).length + (xT f pp ee wt tE tN xs a (env ++ ([d.1 + 2] ++ List.range' (d.1 + 3) d.2.1)) (rkP d.2.1 (d.1 + 3) 0 (rkU rk (d.1 + 2) 0)) (yRs d.2.1 (tN (d.1 + 2))) 0 + kAr f pp ee wt a (env ++ ([d.1 + 2] ++ List.range' (d.1 + 3) d.2.1)) (rkP d.2.1 (d.1 + 3) 0 (rkU rk (d.1 + 2) 0)) (yRs d.2.1 (tN (d.1 + 2))) 0) + fCw wt (yRs d.2.1 (tN (d.1 + 2))) (gRk f pp ee (rkP d.2.1 (d.1 + 3) 0 (rkU rk (d.1 + 2) 0)) a (env ++ ([d.1 + 2] ++ List.range' (d.1 + 3) d.2.1))) d.2.1 + 8 * tCs xs (tE d.1) (gSv tN env).length + (xT f pp ee wt tE tN xs b (env ++ [d.1 + 2]) (rkU rk (d.1 + 2) 0) (tE d.1) 0 + kAr f pp ee wt b (env ++ [d.1 + 2]) (rkU rk (d.1 + 2) 0) (tE d.1) 0) + fCw wt (tE d.1) (gRk f pp ee (rkU rk (d.1 + 2) 0) b (env ++ [d.1 + 2])) 0 + 0 ≤ (8 * tCs xs (tN (d.1 + 2)) (gSv tN env).length + 8 * tCs xs (tE d.1) (gSv tN env).length + (oTt tE tN xs a (env ++ ([d.1 + 2] ++ List.range' (d.1 + 3) d.2.1)) + oTt tE tN xs b (env ++ [d.1 + 2]))) + (fCw wt (yRs d.2.1 (tN (d.1 + 2))) P d.2.1 + fCw wt (tE d.1) P 0 + (oFt tE tN wt P a + oFt tE tN wt P b))
        omega
      · -- fun
        have hU : ∀ x, x ∈ (((0, 2 * d.1) : Nat × Nat), 0) :: (((1, d.1 + 1) : Nat × Nat), 0) :: gUi a → x ∈ Ui := hU
        obtain ⟨hy, rr, hyr, ga⟩ : tE d.1 = y ∧ ∃ r, y = yA (tN (d.1 + 1)) r ∧ gOk f pp ee tE tN a (env ++ [d.1 + 1]) r := hg
        have er : yR (tE d.1) = rr := by rw [hy, hyr]; rfl
        have EA := U1 (d.1 + 1) 0 (fun _ => Or.inl ⟨_, hU _ (List.mem_cons_of_mem _ (List.mem_cons_self ..)), (uY_p _).symm, Nat.le_refl 0⟩)
        have A := (xT_b (wt := wt) h0 HP H4 a (by rw [if_neg (by decide)] at f2; exact f2) 0 ha _ _ _ ga EA (fun x hx => hU x (List.mem_cons_of_mem _ (List.mem_cons_of_mem _ hx))) hL).1 rfl 0
        have A2 := (cv_chE (wt := wt) h0 a 0 ha _ _ _ ga EA (fun x hx => hU x (List.mem_cons_of_mem _ (List.mem_cons_of_mem _ hx))) hL).2 rfl
        have FA := fCw_P (wt := wt) (q := 1) (fun ky => HP _ _ (A2 ky) ky)
        refine ⟨fun _ q => ?_, fun z => (by cases z), fun z => (by cases z)⟩
        subst er
        show 8 * tCs xs (tE d.1) (gSv tN env).length + (xT f pp ee wt tE tN xs a (env ++ [d.1 + 1]) (rkU rk (d.1 + 1) 0) (yR (tE d.1)) 0 + kAr f pp ee wt a (env ++ [d.1 + 1]) (rkU rk (d.1 + 1) 0) (yR (tE d.1)) 0) + fCw wt (yR (tE d.1)) (gRk f pp ee (rkU rk (d.1 + 1) 0) a (env ++ [d.1 + 1])) 1 + 0 ≤ (8 * tCs xs (tE d.1) (gSv tN env).length + oTt tE tN xs a (env ++ [d.1 + 1])) + (fCw wt (yR (tE d.1)) P 1 + oFt tE tN wt P a)
        omega
      · -- if
        have hU : ∀ x, x ∈ (((0, 2 * d.1) : Nat × Nat), 0) :: gUi b → x ∈ Ui := hU
        obtain ⟨hy, -, gb⟩ : tE d.1 = y ∧ gCk f pp ee tN env a ∧ gOk f pp ee tE tN b env y := hg
        have B := (xT_b (wt := wt) h0 HP H4 b f3 1 hb env rk y gb hE (fun x hx => hU x (List.mem_cons_of_mem _ hx)) hL).2.1 rfl
        refine ⟨fun _ q => ?_, fun z => (by cases z), fun z => (by cases z)⟩
        subst hy
        show 8 * tCs xs (tE d.1) (gSv tN env).length + (xT f pp ee wt tE tN xs b env rk (tE d.1) 0 + kAr f pp ee wt b env rk (tE d.1) 0) + 0 ≤ (8 * tCs xs (tE d.1) (gSv tN env).length + oTt tE tN xs b env) + (2 * fCw wt (tE d.1) P 0 + oFt tE tN wt P b)
        omega
      · obtain ⟨-, gb⟩ : gCk f pp ee tN env a ∧ gOk f pp ee tE tN b env y := hg
        have B := (xT_b (wt := wt) h0 HP H4 b f3 0 hb env rk y gb hE hU hL).1 rfl 0
        exact ⟨fun _ q => B, fun z => (by cases z), fun z => (by cases z)⟩
      · have A := (xT_b (wt := wt) h0 HP H4 a (by rw [if_neg (by decide)] at f2; exact f2) 0 ha env rk y hg.2.2 hE hU hL).1 rfl 0
        exact ⟨fun _ q => A, fun z => (by cases z), fun z => (by cases z)⟩
      · exact ⟨fun _ _ => Nat.zero_le _, fun z => (by cases z), fun z => (by cases z)⟩
      · exact ⟨fun _ _ => Nat.zero_le _, fun z => (by cases z), fun z => (by cases z)⟩
      · exact ⟨fun _ _ => Nat.zero_le _, fun z => (by cases z), fun z => (by cases z)⟩
      · exact ⟨fun _ _ => Nat.zero_le _, fun z => (by cases z), fun z => (by cases z)⟩
      · exact ⟨fun _ _ => Nat.zero_le _, fun z => (by cases z), fun z => (by cases z)⟩
      · exact ⟨fun _ _ => Nat.zero_le _, fun z => (by cases z), fun z => (by cases z)⟩
      · exact ⟨fun _ _ => Nat.zero_le _, fun z => (by cases z), fun z => (by cases z)⟩
      · exact ⟨fun _ _ => Nat.zero_le _, fun z => (by cases z), fun z => (by cases z)⟩
      · exact ⟨fun _ _ => Nat.zero_le _, fun z => (by cases z), fun z => (by cases z)⟩
      · -- a call
        have hg : y = yRs (tQn a) (tN (gNu f pp ee env d.1)) ∧ gOk f pp ee tE tN a env (tN (gNu f pp ee env d.1)) := hg
        have hL : ∀ c, c ∈ (tN (gNu f pp ee env d.1), tQn a, rk (gNu f pp ee env d.1), kAr f pp ee wt a env rk (tN (gNu f pp ee env d.1)) (rk (gNu f pp ee env d.1))) :: cvE f pp ee wt tN a env rk → c ∈ L := hL
        have A := (xT_b (wt := wt) h0 HP H4 a (by rw [if_neg (by decide)] at f2; exact f2) 2 ha env rk _ hg.2 hE hU (fun c hc => hL c (List.mem_cons_of_mem _ hc))).2.2 rfl (rk (gNu f pp ee env d.1)) (by
          have q4 := H4 _ (hL _ (List.mem_cons_self ..))
          have q4 : tQn a ≤ 4 := q4
          rcases Nat.eq_zero_or_pos (tQn a) with q0 | q0
          · exact Or.inl q0
          · have hk := gOk_i ha hg.2 q0
            have r := HP _ _ (hE _ (gNu_in (f := f) (pp := pp) (ee := ee) env d.1 |>.resolve_left (fun z => by rw [z] at hk; exact h0 hk)) hk) hk
            omega)
        refine ⟨fun _ q => ?_, fun z => (by cases z), fun z => (by cases z)⟩
        show xT f pp ee wt tE tN xs a env rk (tN (gNu f pp ee env d.1)) (rk (gNu f pp ee env d.1)) + 0 ≤ oTt tE tN xs a env + oFt tE tN wt P a
        omega
      · have A := (xT_b (wt := wt) h0 HP H4 a (by rw [if_neg (by decide)] at f2; exact f2) 0 ha env rk y hg hE hU hL).1 rfl 0
        exact ⟨fun _ q => A, fun z => (by cases z), fun z => (by cases z)⟩
      · exact ⟨fun _ _ => Nat.zero_le _, fun z => (by cases z), fun z => (by cases z)⟩
      · -- match
        have hU : ∀ x, x ∈ (((0, 2 * d.1) : Nat × Nat), 0) :: (gUi a ++ gUi b) → x ∈ Ui := hU
        have hL : ∀ c, c ∈ cvE f pp ee wt tN a env rk ++ cvE f pp ee wt tN b (env ++ [d.2.1, d.2.1 + 1]) (rkU (rkU rk d.2.1 0) (d.2.1 + 1) 0) → c ∈ L := hL
        obtain ⟨o1, o2, ⟨o3, o4⟩, o5, o6⟩ : tE d.1 = y ∧ tN (gNu f pp ee env (d.1 + 1)) = yB 3 ∧ (tN d.2.1 = yB 0 ∧ tN (d.2.1 + 1) = yB 3) ∧ gOk f pp ee tE tN a env y ∧ gOk f pp ee tE tN b (env ++ [d.2.1, d.2.1 + 1]) y := hg
        have A := (xT_b (wt := wt) h0 HP H4 a (by rw [if_neg (by decide)] at f2; exact f2) 0 ha env rk _ o5 hE (fun x hx => hU x (List.mem_cons_of_mem _ (List.mem_append_left _ hx))) (fun c hc => hL c (List.mem_append_left _ hc))).1 rfl 0
        have A2 := (cv_chE (wt := wt) h0 a 0 ha env rk _ o5 hE (fun x hx => hU x (List.mem_cons_of_mem _ (List.mem_append_left _ hx))) (fun c hc => hL c (List.mem_append_left _ hc))).2 rfl
        have E3 := rkU_p (P := fun u r => yK (tN u) = 1 → chE tE tN Ui L (tN u) r) (w := d.2.1 + 1) (n := 0) (U1 d.2.1 0 (fun hk => by rw [o3] at hk; exact absurd hk (by decide))) (fun hk => by rw [o4] at hk; exact absurd hk (by decide))
        rw [List.append_assoc] at E3
        have B := (xT_b (wt := wt) h0 HP H4 b f3 0 hb _ _ _ o6 E3 (fun x hx => hU x (List.mem_cons_of_mem _ (List.mem_append_right _ hx))) (fun c hc => hL c (List.mem_append_right _ hc))).1 rfl 0
        have B2 := (cv_chE (wt := wt) h0 b 0 hb _ _ _ o6 E3 (fun x hx => hU x (List.mem_cons_of_mem _ (List.mem_append_right _ hx))) (fun c hc => hL c (List.mem_append_right _ hc))).2 rfl
        have FA := fCw_P (wt := wt) (q := 0) (fun ky => HP _ _ (A2 ky) ky)
        have FB := fCw_P (wt := wt) (q := 0) (fun ky => HP _ _ (B2 ky) ky)
        refine ⟨fun _ q => ?_, fun z => (by cases z), fun z => (by cases z)⟩
        subst o1
        show 8 * tCs xs (tE d.1) (gSv tN env).length + (xT f pp ee wt tE tN xs a env rk (tE d.1) 0 + kAr f pp ee wt a env rk (tE d.1) 0) + fCw wt (tE d.1) (gRk f pp ee rk a env) 0 + (xT f pp ee wt tE tN xs b (env ++ [d.2.1, d.2.1 + 1]) (rkU (rkU rk d.2.1 0) (d.2.1 + 1) 0) (tE d.1) 0 + kAr f pp ee wt b (env ++ [d.2.1, d.2.1 + 1]) (rkU (rkU rk d.2.1 0) (d.2.1 + 1) 0) (tE d.1) 0) + fCw wt (tE d.1) (gRk f pp ee (rkU (rkU rk d.2.1 0) (d.2.1 + 1) 0) b (env ++ [d.2.1, d.2.1 + 1])) 0 + 0 ≤ (8 * tCs xs (tE d.1) (gSv tN env).length + (oTt tE tN xs a env + oTt tE tN xs b (env ++ [d.2.1, d.2.1 + 1]))) + (2 * fCw wt (tE d.1) P 0 + (oFt tE tN wt P a + oFt tE tN wt P b))
        omega
end XTB
