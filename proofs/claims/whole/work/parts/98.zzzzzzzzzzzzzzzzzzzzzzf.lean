/-! the class's gather(): walk()'s steps, what must FIT -/
section GWF
variable {κ : oKv} {T n : Nat} {st : Nat} {l : Nat → Nat} {b0 : Nat} {nq : tQ → Int} {xs : List tQ} {pg ch ty : Nat} {cf : List Value} {At : Nat → Nat} {mo : Nat} {g : gG} {ρ : Nat → tY} {lv ov : Int32} {CN : Nat → gCd → Prop} {NR : Nat → (Nat × Nat × tT × List tP × List Nat × Nat) → Prop} {pp : Nat → Int32} {V : oSt} {lo g0 : Nat} {nm : Nat → Option Nat} {tN : Nat → tY} {φ : Nat → Nat} {Us : List Nat} {i cnt : Nat} {tl : List Nat} {Γ : uGm} {C Bd : Int} {rt : Nat → gTm} {Ls : List Nat} {σ : oSt} {ln : Nat → Nat} {ct : Nat → Nat → Option Nat} {cs : Nat} {s : gSt} {env : List Nat} {sc : List gEn} {Sc : List sEn} {os : Option Nat} {Es : List (gN × Nat)} {q : Nat → gTy} {y : tY} {A B : gTy} {ka kb : Nat}
/-- **fit()** at a place -/
theorem gwS.ft {Ψ : kGh} (hT : 2010 ≤ T) (hQ : rtQ Γ rt) (hC : 0 ≤ C) (h : gwS κ st l b0 nq xs pg ch ty cf At mo g ρ lv ov CN NR pp V lo g0 nm tN φ Us i tl Ψ Ls σ ln ct cs s) (hE : gwE st l b0 nq xs Ψ σ CN (dnO g0 φ tl) nm tN lo Ls env sc Sc os Es q) (kA : kRl st l b0 nq xs Ψ σ (fun y b => (y, b) ∈ Es) ka A) (kB : kRl st l b0 nq xs Ψ σ (fun y b => (y, b) ∈ Es) kb B) (eA : gSy A = y) (eB : gSy B = y) (yw : yW y) (wA : wfT Γ C Bd rt (nmS sc) A) (wB : wfT Γ C Bd rt (nmS sc) B) (mB : ∃ m, B.1 = .inr m ∧ m.2.2.2.1 = []) (hw : scW Γ C Bd rt tN (scN sc)) (hD : yDp y ≤ 60) (hn : 7 + yDp y ≤ n) (hl : ln 0 + yLs y + 1 ≤ 12100) (hpp : ∀ u v, u < v → v < cnt → pp u < pp v) (hi : i ≤ cnt) : ∃ σ' ln' ct' cs', oF κ T (n + 1) 12 [va_rf (some ch), va_rf (some ka), va_rf (some kb), va_rf os] σ = some (none, σ') ∧ gwS κ st l b0 nq xs pg ch ty cf At mo g ρ lv ov CN NR pp V lo g0 nm tN φ Us i tl Ψ Ls σ' ln' ct' cs' (gFt (gFi y A B sc) s) ∧ ((∀ W, gKp st l b0 W σ σ') ∧ lXp l σ σ' ∧ ∀ i j, wK7 pp i j σ σ') ∧ gwC xs.length Ls Ls cs cs' σ σ' (fCn y) (fCp y (gDq A) (gDq B)) ∧ (ln' 3 = ln 3 ∧ ln' 0 ≤ ln 0 + yLs y) := by
  obtain ⟨⟨v, h1⟩, h2, ⟨h3, h3'⟩, ⟨h4, h4', h4r⟩, h5, h6, h7, h8⟩ := h
  obtain ⟨e1, e2, e3, e4, e5⟩ := id hE
  obtain ⟨σ', ln', ct', cs', R, r1, r2, r3, r4, r5, r6, r7⟩ := c_fitL (κ := κ) (T := T) (g0 := g0) hT hQ hC (fun a ha => Or.inl ha) y A B sc Sc os Es ka kb 0 T n σ ln ct cs s.2.1 (gDq A) (gDq B) eA eB yw wA wB mB hw (fun k p z => by
    rw [e1.nm] at z
    obtain ⟨p', p1, p2⟩ := List.mem_map.mp z
    obtain ⟨⟨u, u1, u2⟩, -⟩ := e3 p' p1
    rw [u2] at p2
    cases p2) (by omega) (by omega) hn h4' e1 e2 (kA.pq) (kB.pq) hl h1
  obtain ⟨t1, t2, t3⟩ := h2.xp (r2 (fun _ => False)) r4 r1.1 h1.2.2.1
  have w7 : ∀ i j, wK7 pp i j σ σ' := fun i j => r4.w7 h1.2.2.1
  refine ⟨σ', ln', ct', cs', ?_, ⟨⟨v, r1⟩, t1, h3.kp h3' (r2 (fun _ => False)), ⟨h4, Nat.le_trans h4' r4.2.2.1, h4r.up rfl rfl r4.2.2.1⟩, ?_, h6.sp (r2 (fun _ => False)) (fun _ z => z), h7, h8.sp (g0 := g0) (r2 (fun _ => False)) (gAg.rf _ _) h1.1.1 (fun _ _ z => z)⟩, ⟨r2, r4, w7⟩, ?_, r5, r7⟩
  · rw [oE_X0_fit]
    exact R
  · have := h5.sp (j := i) (r2 (fun _ => False)) (w7 i i) (gAg.rf _ _) h1.1.1 (fun _ _ z => z) (fun _ z => z) hpp hi (Nat.le_refl _)
    exact ⟨r5.trans this.1, fun k x e => by rw [r6]; exact this.2 k x e⟩
  · obtain ⟨c1, c2, c3⟩ := r3
    unfold gwC
    rw [t2]
    exact ⟨c1, by omega, by omega⟩
end GWF
