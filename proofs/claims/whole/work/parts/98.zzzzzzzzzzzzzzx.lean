/-! the reference's ofSign(): S * S, S / S, S % S -/
section URO
variable {ks : Nat → Nat} {qs : List Nat} {T h0 len cnt lo N S P A : Nat} {L env : List Nat} {V τ : zSt} {kk pp ee f : Nat → Int32} {g : gG} {ρ tE tN : Nat → tY} {Γ : uGm} {CD : tT → Nat → Prop} {d : Nat × Nat × Nat × tS × tS} {z : Unit} {a b : tT}
/-- the line of an S -/
theorem r_ln1 {n x : Nat} {t : tS} (H : rLh T len cnt S P L env V kk pp ee f) (fm : uTf V τ) (hg : uSg T cnt f pp ee (V.2.2.1 32) L env t.2) (ts : rSm pp V S P x t) : ∃ τ1 τ2, zF h0 qs ks T (n + 2) 53 [.ref h0] τ = some (none, τ1) ∧ uTf V τ1 ∧ zF h0 qs ks T (n + 2) 55 [.ref h0, .int (nI x), .int 1] τ1 = some (none, τ2) ∧ gFm τ τ2 ∧ (τ2.1 63 = 0 ↔ (sL (nFind f pp ee env) t.2).length = 0) ∧ τ2.2.1 64 = sPl T f pp ee t.2 := by
  obtain ⟨g1, g2, g3, g4⟩ := hg
  have e32 : τ.2.2.1 32 = V.2.2.1 32 := fm.2.2 32 (by decide)
  obtain ⟨τ1, a1, a2, a3, a4⟩ := r_clr (h0 := h0) (qs := qs) (ks := ks) (T := T) (n := n + 1) (τ := τ)
  obtain ⟨τ2, b1, b2, b3, b4⟩ := r_addSum (h0 := h0) (qs := qs) (ks := ks) (n := n) (sn := 1) (M := []) (H.ku fm) ((gFm.rf τ).tr a3) a2 sNi.nil (fun q hq => by cases hq) g1 g2 (by rw [e32]; exact g3) (fm.sm ts)
  rw [← sL_eq] at b2
  rw [a4, nLs_s g4] at b4
  have w3 := sL_env (f := f) (pp := pp) (ee := ee) (env := env) (ps := t.2).2 H.2.2.2.2
  refine ⟨τ1, τ2, a1, fm.fr (a3.fr (fun _ => 0)), b1, b3, ?_, b4⟩
  rw [b2.1, rMp_len]
  exact ⟨fun h => nI_inj' (b := 0) (by omega) (by decide) h, fun h => by rw [h]; rfl⟩
/-- 0 <= v, v < c -/
theorem r_eq2 {n : Nat} {c : Int64} {v : Nat → Nat} (hV : uVn τ v) (h75 : v 75 < 40000) (h79 : v 79 < 24000) (h85 : v 85 + 1 < 12000) : ∃ τ1 τ2 τ3 τ4, zF h0 qs ks T (n + 1) 69 [.ref h0, .int 1, .int (-1), .int 0, .long c, .int (-1)] τ = some (some (.int (nI (v 85))), τ1) ∧ zF h0 qs ks T (n + 1) 69 [.ref h0, .int 4, .int (-1), .int 0, .long 0, .int (nI (v 85))] τ1 = some (some (.int (nI (v 85 + 1))), τ2) ∧ zF h0 qs ks T (n + 1) 68 [.ref h0, .int (-1), .int (nI (v 85 + 1)), .int (-1)] τ2 = some (some (.int (nI (v 79))), τ3) ∧ zF h0 qs ks T (n + 1) 67 [.ref h0, .int 1, .int (nI (v 79)), .int (-1), .int (-1), .int (-1)] τ3 = some (some (.int (nI (v 75))), τ4) ∧ uVn τ4 (uAd v 1 1 2 0) ∧ uFr v τ τ4 ∧ uKe τ τ4 ∧ uTy Γ (uAd v 1 1 2 0) τ4 (yB 0) (v 75) (.inl (yB 0, [(4, (none, 0)), (1, (none, c.toInt))]), []) := by
  obtain ⟨τ1, a1, a2, a3, ⟨a4, a5, a6, a7, a8⟩, a9⟩ := r_fact (h0 := h0) (qs := qs) (ks := ks) (T := T) (n := n) (x1 := 1) (x2 := -1) (x3 := 0) (x4 := c) (x6 := -1) hV (by omega)
  obtain ⟨τ2, b1, b2, b3, ⟨b4, b5, b6, b7, b8⟩, b9⟩ := r_fact (h0 := h0) (qs := qs) (ks := ks) (T := T) (n := n) (x1 := 4) (x2 := -1) (x3 := 0) (x4 := 0) (x6 := nI (v 85)) a2 (by rw [uUp_at]; omega)
  rw [uUp_at] at b1 b4 b5 b6 b7 b8
  obtain ⟨τ3, c1, c2, c3, ⟨c4, c5, c6⟩, c9⟩ := r_said (h0 := h0) (qs := qs) (ks := ks) (T := T) (n := n) (x1 := -1) (x2 := nI (v 85 + 1)) (x3 := -1) b2 (by rw [uUp_ne _ (by decide), uUp_ne v (by decide)]; exact h79)
  rw [uUp_ne _ (show (79 : Nat) ≠ 85 by decide), uUp_ne v (show (79 : Nat) ≠ 85 by decide)] at c1 c4 c5 c6
  obtain ⟨τ4, d1, d2, d3, ⟨d4, d5, -⟩, d9⟩ := r_rich (h0 := h0) (qs := qs) (ks := ks) (T := T) (n := n) (x1 := 1) (x2 := nI (v 79)) (x3 := -1) (x4 := -1) (x5 := -1) c2 (by rw [uUp_ne _ (by decide), uUp_ne _ (by decide), uUp_ne v (by decide)]; exact h75)
  rw [uUp_ne _ (show (75 : Nat) ≠ 79 by decide), uUp_ne _ (show (75 : Nat) ≠ 85 by decide), uUp_ne v (show (75 : Nat) ≠ 85 by decide)] at d1 d4 d5
  have eA : uUp (uUp (uUp (uUp v 85) 85) 79) 75 = uAd v 1 1 2 0 := by
    rw [uUp_75, uUp_79, uUp_85, uUp_85, uAd_ad, uAd_ad, uAd_ad]
  rw [eA] at d2
  have k1 : uKe τ τ1 := ⟨a9.1, a9.2.1, a9.2.2.1, a9.2.2.2⟩
  have k2 : uKe τ1 τ2 := ⟨b9.1, b9.2.1, b9.2.2.1, b9.2.2.2⟩
  have k3 : uKe τ2 τ3 := ⟨c9.1, c9.2.1, c9.2.2.1, c9.2.2.2⟩
  have k4 : uKe τ3 τ4 := ⟨d9.1, d9.2.1, d9.2.2.1, d9.2.2.2⟩
  have f34 := d3
  have f24 : uFr (uUp (uUp v 85) 85) τ2 τ4 := c3.tr d3 (uUp_le _ 79)
  have f14 : uFr (uUp v 85) τ1 τ4 := b3.tr f24 (uUp_le _ 85)
  have A75 : uAd v 1 1 2 0 75 = v 75 + 1 := rfl
  have A79 : uAd v 1 1 2 0 79 = v 79 + 1 := rfl
  have A85 : uAd v 1 1 2 0 85 = v 85 + 2 := rfl
  have s79 : v 79 < uUp (uUp (uUp v 85) 85) 79 79 := by rw [uUp_at, uUp_ne _ (by decide), uUp_ne v (by decide)]; omega
  have s86 : v 85 + 1 < uUp (uUp v 85) 85 85 := by rw [uUp_at, uUp_at]; omega
  have s85 : v 85 < uUp v 85 85 := by rw [uUp_at]; omega
  refine ⟨τ1, τ2, τ3, τ4, a1, b1, c1, d1, d2, a3.tr f14 (uUp_le v 85), ((k1.tr k2).tr k3).tr k4, by rw [A75]; omega, rfl, ?_⟩
  rw [if_neg (by decide)]
  refine ⟨by decide, d4, fun _ => ⟨v 79, d5, by rw [A79]; omega, ?_, ?_⟩⟩
  · show τ4.2.2.1 49 (v 79) = -1
    rw [f34.r (k := 49) (c := 79) rfl (by unfold uAy; omega) s79]
    exact c6
  · refine ⟨?_, v 85 + 1, ⟨?_, by rw [A85]; omega⟩, ?_, ?_, v 85, ⟨?_, by rw [A85]; omega⟩, ?_, ?_, ?_⟩
    · rw [f34.r (k := 47) (c := 79) rfl (by unfold uAy; omega) s79]
      exact c4
    · rw [f34.r (k := 48) (c := 79) rfl (by unfold uAy; omega) s79]
      exact c5
    · rw [f24.r (k := 50) (c := 85) rfl (by unfold uAy; omega) s86]
      exact b4
    · rw [f24.r (k := 51) (c := 85) rfl (by unfold uAy; omega) s86, f24.r (k := 52) (c := 85) rfl (by unfold uAy; omega) s86, f24.l (k := 54) (c := 85) rfl s86, b5, b6, b8]
      rfl
    · rw [f24.r (k := 53) (c := 85) rfl (by unfold uAy; omega) s86]
      exact b7
    · rw [f14.r (k := 50) (c := 85) rfl (by unfold uAy; omega) s85]
      exact a4
    · rw [f14.r (k := 51) (c := 85) rfl (by unfold uAy; omega) s85, f14.r (k := 52) (c := 85) rfl (by unfold uAy; omega) s85, f14.l (k := 54) (c := 85) rfl s85, a5, a6, a8]
      show _ = ((-1 : Int32), (0 : Int32), Int64.ofInt c.toInt)
      rw [Int64.ofInt_toInt]
    · show τ4.2.2.1 53 (v 85) = -1
      rw [f14.r (k := 53) (c := 85) rfl (by unfold uAy; omega) s85]
      exact a7
/-- a NUMBER alone -/
def sNu (ps : List tP) : Bool := decide (ps.length = 1 ∧ (ps.headD (0, false, 0)).1 = 0 ∧ (ps.headD (0, false, 0)).2.1 = false)
/-- is the second S one? -/
theorem r_os27 {n m y : Nat} {t : tS} {x2 x3 t0 : Int32} {call : zCl} (hm : m < 2100) (hS : S ≤ 2100) (hP : P ≤ 2100) (e11 : τ.2.2.1 11 m = nI y) (ts : rSm pp τ S P y t) (o3 : pO3 t.2) : j_ofSign_27 n call h0 qs ks (nI m) x2 x3 t0 τ = j_ofSign_100 n call h0 qs ks (nI m) x2 x3 t0 (b01 (sNu t.2)) τ := by
  obtain ⟨h1, h2, a', q3, q4, q5, q6⟩ := ts
  have hy : y < 2100 := by omega
  have cy : (nI y).toNatClampNeg = y := nI_clamp (by omega)
  unfold j_ofSign_27 j_ofSign_99
  rw [zgd_at (zin_n hm (by decide)), nI_clamp (show m < 2 ^ 31 by omega), e11, zgd_at (zin_n hy (by decide)), zgd_at (zin_n hm (by decide)), zgd_at (zin_n hy (by decide)), cy, q4, q3, nI_sub]
  by_cases c1 : t.2.length = 1
  · match e : t.2, c1 with
    | [p], _ =>
      rw [e] at q5 q6 o3
      obtain ⟨r16, r17, -⟩ := q6 0 p rfl
      rw [Nat.add_zero] at r16 r17
      have ha : a' < 2100 := by simp at q5; omega
      have p3 := o3 p (List.mem_cons_self ..)
      rw [show ([p] : List tP).length = 1 from rfl, if_pos (show nI 1 = 1 from rfl), zgd_at (zin_n hm (by decide)), zgd_at (zin_n hy (by decide)), zgd_at (zin_n ha (by decide)), nI_clamp (show a' < 2 ^ 31 by omega), r16]
      by_cases c2 : p.1 = 0
      · rw [c2, if_pos (show nI 0 = 0 from rfl), zgd_at (zin_n hm (by decide)), zgd_at (zin_n hy (by decide)), zgd_at (zin_n ha (by decide)), r17]
        cases c3 : p.2.1 with
        | false =>
          rw [if_pos (show sg false = 1 from rfl)]
          have : sNu [p] = true := decide_eq_true ⟨rfl, c2, c3⟩
          rw [this]
          rfl
        | true =>
          rw [if_neg (show ¬ sg true = 1 by decide)]
          have : sNu [p] = false := decide_eq_false (fun z => by have := z.2.2; rw [show ([p] : List tP).headD (0, false, 0) = p from rfl, c3] at this; cases this)
          rw [this]
          rfl
      · rw [if_neg (show ¬ nI p.1 = 0 from fun z => c2 (nI_inj' (b := 0) (by omega) (by decide) z))]
        have : sNu [p] = false := decide_eq_false (fun z => c2 z.2.1)
        rw [this]
        rfl
  · rw [if_neg (show ¬ nI t.2.length = 1 from fun z => c1 (nI_inj' (b := 1) (by omega) (by decide) z))]
    have : sNu t.2 = false := decide_eq_false (fun z => c1 z.1)
    rw [this]
    rfl
end URO
