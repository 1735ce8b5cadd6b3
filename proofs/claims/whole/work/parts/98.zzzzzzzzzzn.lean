/-! go() of the reference: comparisons -/
/-- go() with these conditions waiting does what they mean -/
def gGo (ks : Nat → Nat) (qs : List Nat) (T h0 : Nat) (V : zSt) (L0 : List oLm) (Dm : Option Nat → Prop) (Q : Option Nat → List oLm → Prop) (n : Nat) (Sk : List (Int32 × Bool)) (Ds : List (List oBr)) (Ws : List oWy) (Ts : List (Nat × Bool)) : Prop := ∀ τ, rJs V τ Sk Ws Ts → ∃ τ', zF h0 qs ks T n 101 [.ref h0] τ = some (none, τ') ∧ rJs V τ' Sk Ws Ts ∧ ∀ o, Dm o → (rMa τ' o ↔ rMa τ o ∨ exL Ds (kFe (Q o)) (Ws.map wLm ++ L0) Ts)
/-- node u compares: its line M and number pl, its relation r -/
def rCm (ks : Nat → Nat) (qs : List Nat) (T h0 : Nat) (V : zSt) (c : Nat) (B : Int) (u : Nat) (M : List (Nat × Int32)) (pl : Int64) (r : Nat) : Prop := (V.2.2.1 11 u = nI r ∧ r ≤ 5) ∧ (lFo V c M ∧ (-1125899906842624 ≤ pl.toInt ∧ pl.toInt ≤ 1125899906842624) ∧ (-B ≤ 2 * pl.toInt - 2 ∧ 2 * pl.toInt + 2 ≤ B)) ∧ ∀ n τ, gQ V τ → ∃ τ1 τ2 τ3, zF h0 qs ks T (n + 2) 53 [.ref h0] τ = some (none, τ1) ∧ gFm τ τ1 ∧ zF h0 qs ks T (n + 2) 55 [.ref h0, .int (V.2.2.1 9 u), .int 1] τ1 = some (none, τ2) ∧ gFm τ1 τ2 ∧ zF h0 qs ks T (n + 2) 55 [.ref h0, .int (V.2.2.1 10 u), .int (-1)] τ2 = some (none, τ3) ∧ gFm τ2 τ3 ∧ rLn τ3 M ∧ τ3.2.1 64 = pl
section GCM
variable {ks : Nat → Nat} {qs : List Nat} {T n h0 c u : Nat} {V : zSt} {B : Int} {L0 : List oLm} {Dm : Option Nat → Prop} {Q : Option Nat → List oLm → Prop} {Sk : List (Int32 × Bool)} {Ds : List (List oBr)} {Ws : List oWy} {Ts : List (Nat × Bool)} {M : List (Nat × Int32)} {pl : Int64} {r : Nat}
theorem xC_sw (Xs Ws : List oWy) (L0 : List oLm) : xC ((Ws ++ Xs).map wLm ++ L0) = xC (Xs.map wLm ++ (Ws.map wLm ++ L0)) := xC.cg fun l => by
  rw [List.map_append]
  simp only [List.mem_append]
  constructor
  · rintro ((z | z) | z)
    · exact Or.inr (Or.inl z)
    · exact Or.inl z
    · exact Or.inr (Or.inr z)
  · rintro (z | z | z)
    · exact Or.inl (Or.inr z)
    · exact Or.inl (Or.inl z)
    · exact Or.inr z
/-- with the ways Xs more -/
theorem gGo.more {Xs : List oWy} {τ τ1 : zSt} (hK : ∀ o, kInv (kFe (Q o))) (G : gGo ks qs T h0 V L0 Dm Q n Sk Ds (Ws ++ Xs) Ts) (J : rJs V τ1 Sk (Ws ++ Xs) Ts) (e : mkE τ τ1) : ∃ τ', zF h0 qs ks T n 101 [.ref h0] τ1 = some (none, τ') ∧ rJs V τ' Sk (Ws ++ Xs) Ts ∧ ∀ o, Dm o → (rMa τ' o ↔ rMa τ o ∨ exB [(Xs.map wLm, [])] (exL Ds (kFe (Q o))) (Ws.map wLm ++ L0) Ts) := by
  obtain ⟨τ', g1, g2, g3⟩ := G τ1 J
  refine ⟨τ', g1, g2, fun o ho => ?_⟩
  rw [g3 o ho, e.mk, exB.one]
  have := (exL.inv (hK o) Ds).iff (L := (Ws ++ Xs).map wLm ++ L0) (L' := Xs.map wLm ++ (Ws.map wLm ++ L0)) (ts := Ts) (ts' := [] ++ Ts) (xC_sw Xs Ws L0) (fun x => by rw [List.nil_append])
  rw [this]
/-- **compares()** -/
theorem r_compares {τ : zSt} {h : Bool} (hc : 0 < c ∧ c ≤ 60) (hu : u < 2100) (hK : ∀ o, kInv (kFe (Q o))) (hC : rCm ks qs T h0 V c B u M pl r) (hW : Ws.length + 2 ≤ 300) (J : rJs V τ Sk Ws Ts) (G : ∀ Xs : List oWy, Xs.length ≤ 2 → (∀ w, w ∈ Xs → wyOk B c w) → gGo ks qs T h0 V L0 Dm Q (n + 2) Sk Ds (Ws ++ Xs) Ts) : ∃ τ', zF h0 qs ks T (n + 3) 100 [.ref h0, .int (nI u), .int (b01 h)] τ = some (none, τ') ∧ rJs V τ' Sk Ws Ts ∧ ∀ o, Dm o → (rMa τ' o ↔ rMa τ o ∨ exB (cmB (dLn V M) pl.toInt (if h = true then r else rNo r)) (exL Ds (kFe (Q o))) (Ws.map wLm ++ L0) Ts) := by
  obtain ⟨⟨c1, c2⟩, ⟨f1, f2, f3⟩, line⟩ := hC
  have e11 : τ.2.2.1 11 u = nI r := by rw [J.1.2.2.1 11 (by decide)]; exact c1
  -- the line from a state, and then one way
  have ln : ∀ σ, rJs V σ Sk Ws Ts → ∃ σ1 σ2 σ3, zF h0 qs ks T (n + 2) 53 [.ref h0] σ = some (none, σ1) ∧ (σ1.2.2.1 9 u = V.2.2.1 9 u) ∧ zF h0 qs ks T (n + 2) 55 [.ref h0, .int (V.2.2.1 9 u), .int 1] σ1 = some (none, σ2) ∧ (σ2.2.2.1 10 u = V.2.2.1 10 u) ∧ zF h0 qs ks T (n + 2) 55 [.ref h0, .int (V.2.2.1 10 u), .int (-1)] σ2 = some (none, σ3) ∧ rJs V σ3 Sk Ws Ts ∧ mkE σ σ3 ∧ rLn σ3 M ∧ σ3.2.1 64 = pl := fun σ Jσ => by
    obtain ⟨σ1, σ2, σ3, l1, l2, l3, l4, l5, l6, l7, l8⟩ := line n σ Jσ.1
    obtain ⟨J1, m1⟩ := Jσ.fm l2
    obtain ⟨J2, m2⟩ := J1.fm l4
    obtain ⟨J3, m3⟩ := J2.fm l6
    exact ⟨σ1, σ2, σ3, l1, by rw [J1.1.2.2.1 9 (by decide)], l3, by rw [J2.1.2.2.1 10 (by decide)], l5, J3, (m1.tr m2).tr m3, l7, l8⟩
  have wy : ∀ (σ : zSt) (Ys : List oWy) (s : Int32) (mo : Int64), rJs V σ Sk (Ws ++ Ys) Ts → Ys.length ≤ 1 → rLn σ M → σ.2.1 64 = pl → (s = 1 ∨ s = -1) → (mo = 0 ∨ mo = 1) → ∃ w σ', zF h0 qs ks T (n + 2) 97 [.ref h0, .int s, .long mo] σ = some (none, σ') ∧ rJs V σ' Sk (Ws ++ (Ys ++ [w])) Ts ∧ mkE σ σ' ∧ (rLn σ' M ∧ σ'.2.1 64 = pl) ∧ wyOk B c w ∧ wLm w = cmL (dLn V M) pl.toInt s.toInt mo.toInt := fun σ Ys s mo Jσ hY q1 q2 hs hm => by
    obtain ⟨w, σ', a1, a2, a3, a4, a5, a6⟩ := r_lineWay (ks := ks) (qs := qs) (T := T) (n := n) (h0 := h0) (B := B) (c := c) hc Jσ (by rw [List.length_append]; omega) q1 f1 hs hm (by rw [q2]; exact f2) (by rw [q2]; exact f3)
    rw [List.append_assoc] at a2
    rw [q2] at a4 a6
    exact ⟨w, σ', a1, a2, a3, a4, a5, a6⟩
  have main : ∀ r', r' ≤ 5 → ∃ τ', j_compares_57 T (zF h0 qs ks T (n + 2)) h0 qs ks (nI u) (nI r') τ = some (none, τ') ∧ rJs V τ' Sk Ws Ts ∧ ∀ o, Dm o → (rMa τ' o ↔ rMa τ o ∨ exB (cmB (dLn V M) pl.toInt r') (exL Ds (kFe (Q o))) (Ws.map wLm ++ L0) Ts) := fun r' hr => by
    obtain ⟨σ1, σ2, σ3, l1, l2, l3, l4, l5, J3, m3, l7, l8⟩ := ln τ J
    have e152 : σ3.1 152 = nI Ws.length := J3.2.2.1.1
    have J3' : rJs V σ3 Sk (Ws ++ []) Ts := by rw [List.append_nil]; exact J3
    unfold j_compares_57
    rw [l1, zcv_at]
    simp only [zgd, zin_n hu (by decide), if_true, nI_clamp (show u < 2 ^ 31 by omega), l2]
    rw [l3, zcv_at]
    simp only [l4]
    rw [l5, zcv_at]
    by_cases z5 : r' = 5
    · subst z5
      rw [if_pos (show nI 5 = 5 from rfl), e152]
      obtain ⟨w1, ρ1, a1, a2, a3, a4, a5, a6⟩ := wy σ3 [] 1 1 J3' (by decide) l7 l8 (Or.inl rfl) (Or.inr rfl)
      obtain ⟨ρ2, b1, b2, b3⟩ := gGo.more (τ := τ) hK (G [w1] (show 1 ≤ 2 by decide) (fun w hw => by rcases List.mem_cons.mp hw with rfl | hw; exact a5; cases hw)) a2 (m3.tr a3)
      obtain ⟨J4, m4⟩ := b2.unway
      obtain ⟨θ1, θ2, θ3, k1, k2, k3, k4, k5, J5, m5, k7, k8⟩ := ln _ J4
      have J5' : rJs V θ3 Sk (Ws ++ []) Ts := by rw [List.append_nil]; exact J5
      obtain ⟨w2, ρ3, d1, d2, d3, d4, d5, d6⟩ := wy θ3 [] (-1) 1 J5' (by decide) k7 k8 (Or.inr rfl) (Or.inr rfl)
      obtain ⟨ρ4, g1, g2, g3⟩ := gGo.more (τ := ρ2) hK (G [w2] (show 1 ≤ 2 by decide) (fun w hw => by rcases List.mem_cons.mp hw with rfl | hw; exact d5; cases hw)) d2 ((m4.tr m5).tr d3)
      obtain ⟨J6, m6⟩ := g2.unway
      refine ⟨_, ?_, J6, fun o ho => ?_⟩
      · rw [a1, zcv_at, b1, zcv_at]
        simp only [zlet]
        rw [k1, zcv_at, k2, k3, zcv_at, k4, k5, zcv_at, d1, zcv_at, g1, zcv_at]
        rfl
      · rw [m6.mk, g3 o ho, b3 o ho]
        have e : cmB (dLn V M) pl.toInt 5 = [([w1].map wLm, [])] ++ [([w2].map wLm, [])] := by
          show [([cmL (dLn V M) pl.toInt 1 1], []), ([cmL (dLn V M) pl.toInt (-1) 1], [])] = [([wLm w1], []), ([wLm w2], [])]
          rw [a6, d6]
          rfl
        rw [e, exB.or, or_assoc]
    · rw [if_neg (show ¬ nI r' = 5 from fun e => z5 (nI_inj' (by omega) (by decide) (e.trans (show (5 : Int32) = nI 5 from rfl)))), e152]
      -- the end: go(), ways as they were
      have fin : ∀ (Xs : List oWy) (ρ : zSt), Xs.length ≤ 2 → (∀ w, w ∈ Xs → wyOk B c w) → rJs V ρ Sk (Ws ++ Xs) Ts → mkE τ ρ → ∃ τ', j_compares_193 T (zF h0 qs ks T (n + 2)) h0 qs ks (nI Ws.length) ρ = some (none, τ') ∧ rJs V τ' Sk Ws Ts ∧ ∀ o, Dm o → (rMa τ' o ↔ rMa τ o ∨ exB [(Xs.map wLm, [])] (exL Ds (kFe (Q o))) (Ws.map wLm ++ L0) Ts) := fun Xs ρ x1 x2 x3 x4 => by
        obtain ⟨ρ4, g1, g2, g3⟩ := gGo.more (τ := τ) hK (G Xs x1 x2) x3 x4
        obtain ⟨J6, m6⟩ := g2.unway
        refine ⟨_, ?_, J6, fun o ho => by rw [m6.mk, g3 o ho]⟩
        unfold j_compares_193 j_compares_197
        rw [g1, zcv_at]
        rfl
      -- the second side
      have snd : ∀ (Ys : List oWy) (ρ : zSt) (mo : Int64), Ys.length ≤ 1 → (∀ w, w ∈ Ys → wyOk B c w) → rJs V ρ Sk (Ws ++ Ys) Ts → mkE τ ρ → rLn ρ M → ρ.2.1 64 = pl → (mo = 0 ∨ mo = 1) → ∃ w τ', j_compares_190 T (zF h0 qs ks T (n + 2)) h0 qs ks (nI Ws.length) (-1) mo ρ = some (none, τ') ∧ rJs V τ' Sk Ws Ts ∧ wLm w = cmL (dLn V M) pl.toInt (-1) mo.toInt ∧ ∀ o, Dm o → (rMa τ' o ↔ rMa τ o ∨ exB [((Ys ++ [w]).map wLm, [])] (exL Ds (kFe (Q o))) (Ws.map wLm ++ L0) Ts) := fun Ys ρ mo y1 y2 y3 y4 y5 y6 y7 => by
        obtain ⟨w, ρ', a1, a2, a3, a4, a5, a6⟩ := wy ρ Ys (-1) mo y3 y1 y5 y6 (Or.inr rfl) y7
        obtain ⟨τ', t1, t2, t3⟩ := fin (Ys ++ [w]) ρ' (by rw [List.length_append]; show Ys.length + 1 ≤ 2; omega) (fun v hv => by
          rcases List.mem_append.mp hv with hv | hv
          · exact y2 v hv
          · rcases List.mem_cons.mp hv with rfl | hv
            · exact a5
            · cases hv) a2 (y4.tr a3)
        refine ⟨w, τ', ?_, t2, a6, t3⟩
        unfold j_compares_190
        rw [a1, zcv_at]
        exact t1
      have fst : ∀ (mo : Int64), (mo = 0 ∨ mo = 1) → ∃ w ρ', zF h0 qs ks T (n + 2) 97 [.ref h0, .int 1, .long mo] σ3 = some (none, ρ') ∧ rJs V ρ' Sk (Ws ++ [w]) Ts ∧ mkE τ ρ' ∧ (rLn ρ' M ∧ ρ'.2.1 64 = pl) ∧ wyOk B c w ∧ wLm w = cmL (dLn V M) pl.toInt 1 mo.toInt := fun mo hm => by
        obtain ⟨w, ρ', a1, a2, a3, a4, a5, a6⟩ := wy σ3 [] 1 mo J3' (by decide) l7 l8 (Or.inl rfl) hm
        exact ⟨w, ρ', a1, a2, m3.tr a3, a4, a5, a6⟩
      have one : ∀ {w : oWy}, wyOk B c w → ∀ v, v ∈ [w] → wyOk B c v := fun hw v hv => by
        rcases List.mem_cons.mp hv with rfl | hv
        · exact hw
        · cases hv
      match r', hr, z5 with
      | 0, _, _ =>
        obtain ⟨w, ρ', a1, a2, a3, a4, a5, a6⟩ := fst 0 (Or.inl rfl)
        obtain ⟨w', τ', t1, t2, t3, t4⟩ := snd [w] ρ' 0 (Nat.le_refl _) (one a5) a2 a3 a4.1 a4.2 (Or.inl rfl)
        refine ⟨τ', ?_, t2, fun o ho => ?_⟩
        · rw [if_neg (by decide), if_neg (by decide)]
          unfold j_compares_166
          rw [a1, zcv_at]
          exact t1
        · rw [t4 o ho]
          show _ ∨ exB [([wLm w, wLm w'], [])] _ _ _ ↔ _ ∨ exB [([cmL (dLn V M) pl.toInt 1 0, cmL (dLn V M) pl.toInt (-1) 0], [])] _ _ _
          rw [a6, t3]
          rfl
      | 1, _, _ =>
        obtain ⟨w, ρ', a1, a2, a3, a4, a5, a6⟩ := fst 1 (Or.inr rfl)
        obtain ⟨τ', t1, t2, t3⟩ := fin [w] ρ' (show 1 ≤ 2 by decide) (one a5) a2 a3
        refine ⟨τ', ?_, t2, fun o ho => ?_⟩
        · rw [if_neg (by decide), if_pos (by decide)]
          unfold j_compares_166
          rw [a1, zcv_at]
          exact t1
        · rw [t3 o ho]
          show _ ∨ exB [([wLm w], [])] _ _ _ ↔ _ ∨ exB [([cmL (dLn V M) pl.toInt 1 1], [])] _ _ _
          rw [a6]
          rfl
      | 2, _, _ =>
        obtain ⟨w, ρ', a1, a2, a3, a4, a5, a6⟩ := fst 0 (Or.inl rfl)
        obtain ⟨τ', t1, t2, t3⟩ := fin [w] ρ' (show 1 ≤ 2 by decide) (one a5) a2 a3
        refine ⟨τ', ?_, t2, fun o ho => ?_⟩
        · rw [if_neg (by decide), if_neg (by decide)]
          unfold j_compares_166
          rw [a1, zcv_at]
          exact t1
        · rw [t3 o ho]
          show _ ∨ exB [([wLm w], [])] _ _ _ ↔ _ ∨ exB [([cmL (dLn V M) pl.toInt 1 0], [])] _ _ _
          rw [a6]
          rfl
      | 3, _, _ =>
        obtain ⟨w', τ', t1, t2, t3, t4⟩ := snd [] σ3 1 (by decide) (fun v hv => by cases hv) J3' m3 l7 l8 (Or.inr rfl)
        refine ⟨τ', ?_, t2, fun o ho => ?_⟩
        · rw [if_pos (by decide)]
          exact t1
        · rw [t4 o ho]
          show _ ∨ exB [([wLm w'], [])] _ _ _ ↔ _ ∨ exB [([cmL (dLn V M) pl.toInt (-1) 1], [])] _ _ _
          rw [t3]
          rfl
      | 4, _, _ =>
        obtain ⟨w', τ', t1, t2, t3, t4⟩ := snd [] σ3 0 (by decide) (fun v hv => by cases hv) J3' m3 l7 l8 (Or.inl rfl)
        refine ⟨τ', ?_, t2, fun o ho => ?_⟩
        · rw [if_pos (by decide)]
          exact t1
        · rw [t4 o ho]
          show _ ∨ exB [([wLm w'], [])] _ _ _ ↔ _ ∨ exB [([cmL (dLn V M) pl.toInt (-1) 0], [])] _ _ _
          rw [t3]
          rfl
      | k + 5, hr, z5 => exact absurd (by omega : k + 5 = 5) z5
  rw [show n + 3 = (n + 2) + 1 from rfl, zE_compares]
  unfold b_compares j_compares_56
  simp only [zgd, zin_n hu (by decide), if_true, nI_clamp (show u < 2 ^ 31 by omega), e11]
  cases h
  · rw [if_pos (show b01 false = 0 by decide), if_neg (show ¬ false = true by decide)]
    match r, c2 with
    | 0, _ => exact main 5 (by decide)
    | 1, _ => exact main 4 (by decide)
    | 2, _ => exact main 3 (by decide)
    | 3, _ => exact main 2 (by decide)
    | 4, _ => exact main 1 (by decide)
    | 5, _ => exact main 0 (by decide)
    | k + 6, c2 => omega
  · rw [if_neg (show ¬ b01 true = 0 by decide), if_pos rfl]
    exact main r c2
end GCM
