/-! what a PROGRAM asks, as the class asks it -/
section ASK
variable {T cnt : Nat} {kk f pp ee R R6 : Nat → Int32} {tE tN : Nat → tY} {L : List Nat} {Γ : uGm} {C B : Int} {rt : Nat → gTm} {FK : Nat × List Bool → List gFc} {Fs : List gFit} {Ns : List gNd} {env : List Nat} {cs : List (gCd × Bool)}
theorem tHt_dp : ∀ (t : tT) (l : Bool), cWf cnt t l → tGd kk cnt t → tHt t ≤ cDp t + 1
  | .leaf, _, _, _ => Nat.zero_le _
  | .inner g d z a b, l, h, gd => by
    obtain ⟨-, -, ⟨g3, -, -⟩, ga, gb⟩ := gd
    unfold tHt cDp
    unfold cWf at h
    rcases h with ⟨_, hg, ha, hb⟩ | ⟨_, ⟨hg, ha, hb⟩ | ⟨hg, ha, hb⟩ | ⟨hg, ha, hb⟩ | ⟨hg, _⟩ | ⟨hg, _⟩⟩
    · have A := tHt_dp a _ ha ga
      have B := tHt_dp b _ hb gb
      rw [if_pos hg, if_neg (by omega), if_pos hg]
      omega
    · have A := tHt_dp a _ ha ga
      have B := tHt_dp b _ hb gb
      rw [if_neg (by omega), if_neg (by omega), if_neg (by omega)]
      omega
    · have A := tHt_dp a _ ha ga
      subst hb
      rw [if_neg (by omega), if_neg (by omega), if_neg (by omega)]
      show max (tHt a) 0 + 1 ≤ max (cDp a) 0 + 1 + 1
      omega
    · subst ha hb
      rw [if_neg (by omega), if_pos (by omega)]
      exact Nat.le_refl _
    · obtain ⟨ea, eb⟩ := g3 (Or.inl hg)
      subst ea eb
      rw [if_neg (by omega), if_pos (by omega)]
      exact Nat.le_refl _
    · obtain ⟨ea, eb⟩ := g3 (Or.inr hg)
      subst ea eb
      rw [if_neg (by omega), if_pos (by omega)]
      exact Nat.le_refl _
theorem scW.me : ∀ (l : List (gN × gTy)), scW Γ C B rt tN l → ∀ s A, (s, A) ∈ l → gMs (gSy A) = true ∧ gSy A = shN tN rt s ∧ ∀ kp, s = .inr kp → yK (mGo (rt kp.1) kp.2).2.2.1 = 1
  | [], _, _, _, h => by cases h
  | x :: r, ⟨_, _, ⟨_, h3⟩, h4⟩, s, A, h => by
    rcases List.mem_cons.mp h with z | z
    · rw [← z] at h3; exact h3
    · exact scW.me r h4 s A z
/-- types that Gamma knows of NAMES in scope -/
def shQ (Γ : uGm) (tN : Nat → tY) (rt : Nat → gTm) : Prop := ∀ s, (∀ kp, s = .inr kp → yK (mGo (rt kp.1) kp.2).2.2.1 = 1) → Γ.2.2.2.2.1 s = shN tN rt s
theorem r6_of {l : List (gN × gTy)} {s : gN} {A : gTy} (hΓ : shQ Γ tN rt) (hw : scW Γ C B rt tN l) (h : (s, A) ∈ l) (e : R6 (Γ.1 s) = b01 (gLn (Γ.2.2.2.2.1 s))) : R6 (Γ.1 s) = 0 ↔ yK (gSy A) = 2 := by
  obtain ⟨m1, m2, m3⟩ := scW.me _ hw s A h
  rw [e, hΓ s m3, ← m2]
  unfold gMs at m1
  unfold gLn
  generalize yK (gSy A) = k at m1 ⊢
  have : k = 2 ∨ k = 4 ∨ k = 5 := by
    simp only [Bool.or_eq_true, beq_iff_eq] at m1
    omega
  rcases this with rfl | rfl | rfl <;> decide
theorem cdW_g (c : gCd) : cdW c = gAw c := by cases c <;> rfl
theorem cb_fa (cb : cbS T cnt kk pp ee f R L B tN env cs) : (cs.map (fun c => cdW c.1)).sum ≤ 6 ∧ ∀ c, c ∈ cs → cdH c.1 < 102 := by
  obtain ⟨-, c1, ⟨-, c2, c3⟩, -⟩ := cb
  have e : (fun c : gCd × Bool => cdW c.1) = (fun x => gAw x.1) := funext (fun c => cdW_g c.1)
  refine ⟨by rw [e]; exact c2, fun c hc => ?_⟩
  match c, hc with
  | (.inl y, h), hc =>
    obtain ⟨w1, w2⟩ := c3 y h hc
    have := tHt_dp y.1 false w1 (c1 _ hc).2.2.1
    show tHt y.1 < 102
    omega
  | (.inr u, h), hc => exact (by decide : 0 < 102)
/-- a fit, as it is asked -/
theorem wyF_of {OT : gTy → Prop} (hΓ : shQ Γ tN rt) (D : dGd T cnt kk pp ee f R L Γ B FK Fs Ns OT) (hF : ∀ x, x ∈ Fs → fP Γ C B rt 59 tN (cbS T cnt kk pp ee f R L B tN) x) (h6 : dR6 Γ Fs Ns R6) {x : gFit} (hx : x ∈ Fs) (hk : fkp Γ.2.2.1 Γ.2.2.2.1 x = true) (hm : ∃ m, x.2.2.1 = .inr m) : wyF T cnt kk pp ee f R R6 L Γ B 102 FK x := by
  obtain ⟨env, sc, ⟨⟨a1, a2⟩, a3, ⟨a4, a4'⟩, a5, a6, a7⟩, b1, b2⟩ := hF x hx
  obtain ⟨q1, q2⟩ := D.1 x hx
  obtain ⟨m, em⟩ := hm
  have ms : gMs (gSy x.2.2) = true := by
    unfold fkp at hk
    have hk := of_decide_eq_true hk
    unfold gFa at hk
    unfold gSy
    rw [em] at hk ⊢
    exact gIn_ms hk
  obtain ⟨c1, c2⟩ := cb_fa b1
  rw [← a5] at c1 c2
  exact ⟨⟨by rw [a4']; exact ms, ms⟩, q1, fun y A h => (scW.me _ a3 y A h).1, ⟨by omega, c2⟩, fun y A h => r6_of hΓ a3 h (h6.2.1 x hx (y, A) h), q2⟩
/-- a need, as it is asked -/
theorem fdF_of {OT : gTy → Prop} (hΓ : shQ Γ tN rt) (D : dGd T cnt kk pp ee f R L Γ B FK Fs Ns OT) (hN : ∀ x, x ∈ Ns → nP Γ C B rt tN (cbS T cnt kk pp ee f R L B tN) (nbS T cnt kk pp ee f R L B tN) x) (hs : ∀ ps, sGd cnt ps → sKn kk ps → sNw T f pp ee ps) (h6 : dR6 Γ Fs Ns R6) {x : gNd} (hx : x ∈ Ns) : fdF T cnt kk pp ee f R R6 L Γ B 102 x := by
  obtain ⟨env, b2, a3, b1, ⟨n1, n1'⟩, n2, n3, n4⟩ := hN x hx
  obtain ⟨c1, c2⟩ := cb_fa b1
  refine ⟨D.2.1 x hx, fun y A h => (scW.me _ a3 y A h).1, ⟨⟨by omega, by have := congrArg List.length b2; unfold nmS at this; rw [List.length_map, List.length_reverse] at this; have := gSv_le (tN := tN) env; have := b1.1.2; omega⟩, fun h0 => ?_⟩, ⟨by decide, c2⟩, fun y A h => r6_of hΓ a3 h (h6.2.2 x hx (y, A) h), fun h0 => hs _ (n4 h0).1.2.1 (n1' h0)⟩
  obtain ⟨d1, d2⟩ := cb_fa (n3 h0)
  have d1 : tAt x.2.2.2.1 + ((scC x.1).map (fun c => cdW c.1)).sum ≤ 6 := by
    rw [List.map_cons, List.sum_cons] at d1
    exact d1
  have d3 : tHt x.2.2.2.1 < 102 := d2 (Sum.inl (x.2.2.2.1, x.2.2.2.2.2.1), false) (List.mem_cons_self ..)
  exact ⟨by omega, d3⟩
/-- all of gWk's fits and needs speak of what is in scope -/
theorem fnP_gWk {is : List (Nat × Nat)} {t : tT} {i j : Nat} {y : tY} {A0 : gTy} {q0 : Nat → gTy} {sc : List gEn} {s0 : gSt} {W : gSt × gTy} (hrt : rt = rtO (tLe tE tN t (is.map Prod.fst))) (hQ : rtQ Γ rt) (hC : 0 ≤ C) (hB : 4 ≤ B) (hu : ∀ w, w ∈ L → uNm Γ (.inl w)) (hi : ∀ y, y ∈ is → tN y.1 = yB y.2 ∧ uNm Γ (.inl y.1)) (hin : (is.map Prod.fst).Nodup) (wf : tWf kk cnt t 0) (rg : tRg t i j) (wo : rWo f pp ee R L t (is.map Prod.fst)) (nd : (tW t).Nodup) (nw : ∀ w, w ∈ tW t → w ∉ is.map Prod.fst) (ok : gOk f pp ee tE tN t (is.map Prod.fst) y) (mx : gMx f pp ee tE tN 59 t (is.map Prod.fst)) (hb : gHb T f pp ee tN Γ C B rt (cbS T cnt kk pp ee f R L B tN) (nbS T cnt kk pp ee f R L B tN) t (is.map Prod.fst) []) (hs : gIs is [] (q0, [], []) = (sc, s0)) (hW : gWk T f pp ee tE tN t (is.map Prod.fst) sc A0 s0 = W) : (∀ x, x ∈ W.1.2.1 → fP Γ C B rt 59 tN (cbS T cnt kk pp ee f R L B tN) x) ∧ ∀ x, x ∈ W.1.2.2 → nP Γ C B rt tN (cbS T cnt kk pp ee f R L B tN) (nbS T cnt kk pp ee f R L B tN) x := by
  have E := gIs_w (Γ := Γ) (C := C) (B := B) (rt := rt) (tN := tN) is [] [] (q0, [], []) ⟨rfl, trivial, fun u hu => (by cases hu)⟩ hi (by rw [List.nil_append]; exact hin)
  rw [hs, List.nil_append] at E
  obtain ⟨e1, e2, e3⟩ := E
  have e2 : scC sc = [] := e2
  have e3 : s0.2 = ([], []) := e3
  have hr : ∀ m, m ∈ tLe tE tN t (is.map Prod.fst) → rt m.1 = m := fun m hm => by rw [hrt]; exact rtO_me _ (tLe_nd rg) m hm
  have hq' := gHq_of (T := T) (kk := kk) (cnt := cnt) (C := C) (B := B) (M := 59) (CB := cbS T cnt kk pp ee f R L B tN) (NB := nbS T cnt kk pp ee f R L B tN) (tE := tE) (tN := tN) (rt := rt) hu t 0 (is.map Prod.fst) [] wf wo nd nw hr mx hb
  have O := gWk_w hQ hC hB t (is.map Prod.fst) sc A0 s0 y (by rw [e2]; exact hq') ok e1 (aH.e wf.e)
  rw [hW] at O
  obtain ⟨-, -, o2, o3⟩ := O
  refine ⟨fun x hx => ?_, fun x hx => ?_⟩
  · rcases o2 x hx with z | z
    · rw [e3] at z; cases z
    · exact z
  · rcases o3 x hx with z | z
    · rw [e3] at z; cases z
    · exact z
/-- Gamma's types are theirs -/
theorem sh_gaM {nq : tQ → Int} {xs : List tQ} {inv : Nat → gN} {t : tT} : shQ (gaM R (tLs tE tN t) tN nq xs inv) tN (rtO (tLe tE tN t env)) := fun s hs => by
  match s, hs with
  | .inl w, _ => rfl
  | .inr (k, p), hs =>
    obtain ⟨e3, en⟩ := tLe_3 (tE := tE) (tN := tN) t env
    have b := rtO_b (tLe tE tN t env) 0 0 k en
    rw [e3] at b
    show (match bFi (tLs tE tN t) 0 0 k with | none => (.leaf : tY) | some e => yL (pTy e.1 p)) = yL (mGo (rtO (tLe tE tN t env) k) p).2.2.1
    rw [mGo_ty]
    cases e : bFi (tLs tE tN t) 0 0 k with
    | none =>
      rw [e] at b
      have b : rtO (tLe tE tN t env) k = (k, [], .leaf, [], []) := b
      rw [b]
      show (.leaf : tY) = yL (pTy .leaf p)
      rw [pTy_lf]
      rfl
    | some x =>
      rw [e] at b
      rw [b.2.2.1]
/-- CASES have small numbers -/
theorem gaM_c {nq : tQ → Int} {xs : List tQ} {inv : Nat → gN} {t : tT} {k : Nat} {p : List Bool} (hy : ∀ x : Nat × tY × List Nat, x ∈ tLs tE tN t → yPr x.2.1) (h : gMs (mGo (rtO (tLe tE tN t env) k) p).2.2.1 = true) : (gaM R (tLs tE tN t) tN nq xs inv).2.1 (k, p) < lsC (tLs tE tN t) := by
  obtain ⟨e3, en⟩ := tLe_3 (tE := tE) (tN := tN) t env
  have b := rtO_b (tLe tE tN t env) 0 0 k en
  rw [e3] at b
  rw [mGo_ty] at h
  show (match bFi (tLs tE tN t) 0 0 k with | none => 0 | some e => e.2.2.2 + pLf e.1 p) < _
  cases e : bFi (tLs tE tN t) 0 0 k with
  | none =>
    rw [e] at b
    have b : rtO (tLe tE tN t env) k = (k, [], .leaf, [], []) := b
    rw [b] at h
    have h : gMs (pTy .leaf p) = true := h
    rw [pTy_lf] at h
    exact absurd h (by decide)
  | some x =>
    rw [e] at b
    rw [b.2.2.1] at h
    have h1 := pLf_lt _ _ (mGo_le p x.1 (hy _ (bFi_rg _ _ _ _ _ e).2.2) h)
    have h2 := (bFi_rc _ _ _ _ _ e).2
    show x.2.2.2 + pLf x.1 p < _
    omega
/-- every TEMPLATE's place that is asked was made -/
theorem hK_of {Ψ : kGh} {σ : oSt} {OT : gTy → Prop} (hO : ∀ X, OT X → mdT Ψ σ X) (D : dGd T cnt kk pp ee f R L Γ B FK Fs Ns OT) (hf : ∀ x, x ∈ Fs → mdF Ψ σ x) (hn : ∀ x, x ∈ Ns → ∀ p, p ∈ scN x.1 → mdT Ψ σ p.2) (kp : Nat × List Bool) (h : FK kp ≠ []) : Ψ.2.2.2 kp.1 ∧ ∃ fs, σ.1 (Ψ.2.1 kp) = some (.inr (4, fs)) := by
  obtain ⟨X, m, h1, h2, h3, -⟩ := D.2.2.1 kp (List.length_pos_iff.mpr h)
  have md : mdT Ψ σ X := by
    rcases h1 with ⟨x, hx, w⟩ | ⟨x, hx, u, w⟩ | w
    · obtain ⟨m1, m2, m3⟩ := hf x hx
      rcases w with w | w | ⟨u, w⟩
      · rw [w]; exact m1
      · rw [w]; exact m2
      · exact m3 _ w
    · exact hn x hx _ w
    · exact hO X w
  have := md m h2
  rw [← h3]
  exact this
/-- FACTS of a place are few -/
theorem FK_pl {OT : gTy → Prop} (hO : ∀ X, OT X → ∃ S, wfT Γ C B rt S X) (hq : qlW Γ C B) (D : dGd T cnt kk pp ee f R L Γ B FK Fs Ns OT) {M : Nat} {CB : List Nat → List (gCd × Bool) → Prop} {NB : List Nat → List (gCd × Bool) → (Nat × Nat × tT × List tP × List Nat × Nat) → Prop} (hF : ∀ x, x ∈ Fs → fP Γ C B rt M tN CB x) (hN : ∀ x, x ∈ Ns → nP Γ C B rt tN CB NB x) (kp : Nat × List Bool) (c : 0 < (FK kp).length) : gMs (mGo (rt kp.1) kp.2).2.2.1 = true ∧ (FK kp).length ≤ 366 := by
  obtain ⟨X, m, h1, h2, h3, h4⟩ := D.2.2.1 kp c
  have w : ∃ S, wfT Γ C B rt S X := by
    rcases h1 with ⟨x, hx, w⟩ | ⟨x, hx, u, w⟩ | w
    · obtain ⟨env, sc, ⟨⟨a1, a2⟩, a3, -⟩, -⟩ := hF x hx
      rcases w with w | w | ⟨u, w⟩
      · rw [w]; exact ⟨_, a1⟩
      · rw [w]; exact ⟨_, a2⟩
      · exact scW.ty _ a3 u X w
    · obtain ⟨env, -, a3, -⟩ := hN x hx
      exact scW.ty _ a3 u X w
    · exact hO X w
  obtain ⟨S, w⟩ := w
  have g := w.go h2
  unfold wfT at w
  rw [h2] at w
  have l60 : m.2.2.2.2.length + ySx m.2.2.1 ≤ 60 := w.1.2.2.2.1
  refine ⟨?_, ?_⟩
  · rw [← h3]
    show gMs (mGo (rt m.1) m.2.1).2.2.1 = true
    rw [← g]
    rw [← h4] at c
    exact gIn_ms c
  · rw [← h4, gIn_len]
    have i1 := gIl_le Γ.2.2.2.1 m.2.2.1 m.2.2.2.2.length
    have i2 : Γ.2.2.2.1.length * (m.2.2.2.2.length + 1) ≤ 6 * (m.2.2.2.2.length + 1) := Nat.mul_le_mul_right _ hq.2.1
    omega
/-- the places that are asked -/
theorem Ks_ex {OT : gTy → Prop} (D : dGd T cnt kk pp ee f R L Γ B FK Fs Ns OT) (hK : ∀ kp, 0 < (FK kp).length → Γ.2.1 kp < 60 ∧ (FK kp).length ≤ 366) : ∃ Ks : List (Nat × List Bool), (Ks.map (fun kp => (FK kp).length)).sum ≤ 21960 ∧ ∀ kp, 0 < (FK kp).length → kp ∈ Ks := by
  have go : ∀ n, ∃ Ks : List (Nat × List Bool), (Ks.map (fun kp => (FK kp).length)).sum ≤ 366 * n ∧ ∀ kp, 0 < (FK kp).length → Γ.2.1 kp < n → kp ∈ Ks := by
    intro n
    induction n with
    | zero => exact ⟨[], Nat.le_refl _, fun _ _ h => absurd h (Nat.not_lt_zero _)⟩
    | succ n ih =>
      obtain ⟨Ks, h1, h2⟩ := ih
      by_cases c : ∃ kp, 0 < (FK kp).length ∧ Γ.2.1 kp = n
      · obtain ⟨k0, c1, c2⟩ := c
        have := (hK k0 c1).2
        refine ⟨k0 :: Ks, by rw [List.map_cons, List.sum_cons]; omega, fun kp a b => ?_⟩
        by_cases z : Γ.2.1 kp = n
        · rw [D.2.2.2 kp k0 a c1 (z.trans c2.symm)]; exact List.mem_cons_self ..
        · exact List.mem_cons_of_mem _ (h2 kp a (by omega))
      · exact ⟨Ks, by omega, fun kp a b => h2 kp a (by
          have : Γ.2.1 kp ≠ n := fun z => c ⟨kp, a, z⟩
          omega)⟩
  obtain ⟨Ks, h1, h2⟩ := go 60
  exact ⟨Ks, h1, fun kp a => h2 kp a (hK kp a).1⟩
theorem lsC_le : ∀ l : List (Nat × tY × List Nat), lsC l ≤ tLv l
  | [] => Nat.le_refl _
  | x :: l => by
    have := lsC_le l
    have := (yLs_v x.2.1).1
    rw [tLv_co, lsC_c]
    omega
end ASK
