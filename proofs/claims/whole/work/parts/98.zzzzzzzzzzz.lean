/-! leaf() where INSTANCES are asked for -/
section LQJ
variable {ks : Nat → Nat} {qs : List Nat} {T n h0 c : Nat} {V : zSt} {L L0 : List oLm} {Ws : List oWy} {Ts : List (Nat × Bool)} {Rs : List oPu} {B : Int}
/-- what is asked: the CASE cc, its INSTANCES from F to E, what is put in -/
def rAsk (V : zSt) (c s cc F E : Nat) (Rs : List oPu) (pr : Nat → Nat) (pb : Nat → Nat) (pt : Nat → Int32) (pn : Nat → Int64) : Prop := (V.1 155 = nI s ∧ s < 24000) ∧ (V.2.2.1 47 s = nI cc ∧ cc < 64) ∧ (V.2.2.1 61 cc = nI F ∧ V.2.2.1 62 cc = nI E ∧ F ≤ E ∧ E ≤ 8000) ∧ rPu V (V.2.2.1 49 s) Rs ∧ V.2.2.1 89 1500 = nI 0 ∧ ∀ i, F ≤ i → i < E → ¬ V.2.2.1 65 i = 0 → iOk V c Rs i (pr i) (pb i) (pt i) (pn i)
theorem iU_cg {V σ : zSt} {i : Nat} (h : ∀ k, k ∉ [40, 41, 91, 92, 93, 94, 95, 96, 97, 98, 100] → σ.2.2.1 k = V.2.2.1 k) : iU σ i = iU V i ∧ iQ σ i = iQ V i := by
  have e : iQ σ i = iQ V i := by unfold iQ; rw [h 63 (by decide)]
  refine ⟨?_, e⟩
  unfold iU
  rw [e, h 25 (by decide), h 64 (by decide), h 24 (by decide), h 26 (by decide)]
theorem rPu.q {V τ : zSt} (h : gQ V τ) : ∀ (Rs : List oPu) (l : Int32), rPu V l Rs → rPu τ l Rs
  | [], l, w => w
  | p :: Rs, l, ⟨i, a, b, c, d, e, f⟩ => ⟨i, a, by rw [h.2.2.1 55 (by decide)]; exact b, by rw [h.2.2.1 56 (by decide)]; exact c, by rw [h.2.2.1 57 (by decide)]; exact d, by rw [h.2.2.2 59 (by decide)]; exact e, by rw [h.2.2.1 58 (by decide)]; exact rPu.q h Rs _ f⟩
/-- the loop over INSTANCES -/
theorem r_lq {s cc F E : Nat} {pr pb : Nat → Nat} {pt : Nat → Int32} {pn : Nat → Int64} (hc : 0 < c ∧ c ≤ 60) (hA : rAsk V c s cc F E Rs pr pb pt pn) (hn : Rs.length + 3 ≤ n + 2) : ∀ (d x t : Nat) (σ : zSt), x + d = E → F ≤ x → d < t → rJs V σ [] Ws Ts → rSay (2 * c) L (σ.2.2.2 88) → ∃ σ', l_leaf_153 T (zF h0 qs ks T (n + 2)) h0 qs ks t (nI cc) (nI x) σ = some (none, σ') ∧ rJs V σ' [] Ws Ts ∧ σ'.1 154 = σ.1 154 ∧ ∀ i, F ≤ i → i < E → ¬ V.2.2.1 65 i = 0 → (¬ σ'.2.2.1 100 i = 0 ↔ ¬ σ.2.2.1 100 i = 0 ∨ (x ≤ i ∧ ¬ iSy (pr i) (pb i) (pt i).toInt (pn i).toInt L))
  | 0, x, t, σ, hx, hF, ht, J, hS => by
    obtain ⟨t, rfl⟩ : ∃ t', t = t' + 1 := ⟨t - 1, by omega⟩
    obtain ⟨-, ⟨-, c2⟩, ⟨-, c4, c5, c6⟩, -⟩ := hA
    refine ⟨σ, ?_, J, rfl, fun i h1 h2 _ => ⟨Or.inl, fun k => by rcases k with k | k; exact k; omega⟩⟩
    rw [l_leaf_153]
    simp only [zgd, zin_n c2 (by decide), if_true, nI_clamp (show cc < 2 ^ 31 by omega), J.1.2.2.1 62 (by decide), c4]
    rw [if_pos (nI_le (by omega) (by omega))]
  | d + 1, x, t, σ, hx, hF, ht, J, hS => by
    obtain ⟨t, rfl⟩ : ∃ t', t = t' + 1 := ⟨t - 1, by omega⟩
    have hA' := hA
    obtain ⟨⟨c0, c0'⟩, ⟨c1, c2⟩, ⟨c3, c4, c5, c6⟩, c7, c8, c9⟩ := hA
    have skip : l_leaf_153 T (zF h0 qs ks T (n + 2)) h0 qs ks (t + 1) (nI cc) (nI x) σ = l_leaf_153 T (zF h0 qs ks T (n + 2)) h0 qs ks t (nI cc) (nI (x + 1)) σ → (V.2.2.1 65 x = 0 ∨ ¬ σ.2.2.1 100 x = 0) → ∃ σ', l_leaf_153 T (zF h0 qs ks T (n + 2)) h0 qs ks (t + 1) (nI cc) (nI x) σ = some (none, σ') ∧ rJs V σ' [] Ws Ts ∧ σ'.1 154 = σ.1 154 ∧ ∀ i, F ≤ i → i < E → ¬ V.2.2.1 65 i = 0 → (¬ σ'.2.2.1 100 i = 0 ↔ ¬ σ.2.2.1 100 i = 0 ∨ (x ≤ i ∧ ¬ iSy (pr i) (pb i) (pt i).toInt (pn i).toInt L)) := fun e hz => by
      obtain ⟨σ', i1, i2, i3, i4⟩ := r_lq hc hA' hn d (x + 1) t σ (by omega) (by omega) (by omega) J hS
      refine ⟨σ', e.trans i1, i2, i3, fun i h1 h2 h3 => ?_⟩
      rw [i4 i h1 h2 h3]
      by_cases z : i = x
      · subst z
        rcases hz with hz | hz
        · exact absurd hz h3
        · exact ⟨fun _ => Or.inl hz, fun _ => Or.inl hz⟩
      · constructor
        · rintro (k | k)
          · exact Or.inl k
          · exact Or.inr ⟨by omega, k.2⟩
        · rintro (k | k)
          · exact Or.inl k
          · exact Or.inr ⟨by omega, k.2⟩
    have hx8 : x < 8000 := by omega
    by_cases z1 : V.2.2.1 65 x = 0
    · refine skip ?_ (Or.inl z1)
      rw [l_leaf_153]
      unfold j_leaf_354
      simp only [zgd, zin_n c2 (by decide), if_true, nI_clamp (show cc < 2 ^ 31 by omega), J.1.2.2.1 62 (by decide), c4, zin_n hx8 (by decide), nI_clamp (show x < 2 ^ 31 by omega), J.1.2.2.1 65 (by decide), nI_p1]
      rw [if_neg (nI_ge (by omega) (by omega)), if_pos z1]
    · by_cases z2 : σ.2.2.1 100 x = 0
      · have hi := c9 x hF (by omega) z1
        have hi' := hi
        obtain ⟨i1, i2, i3, i4, i5, i6, i7, i8, i9, i10⟩ := hi'
        obtain ⟨eU, eQ⟩ := iU_cg (i := x) J.1.2.2.1
        obtain ⟨s8, a1, a2, a3⟩ := r_insT (ks := ks) (qs := qs) (T := T) (h0 := h0) (n := n + 2) (i := x) (l := V.2.2.1 49 s) (τ := σ) (Rs := Rs) hx8 (by rw [eQ, J.1.2.2.1 63 (by decide)]; exact i2) (rPu.q J.1 Rs _ c7) hn
        rw [eU] at a3
        have J8 := J.u a2
        have e88 : s8.2.2.2 88 = σ.2.2.2 88 := by rw [a2.2.2]
        have e100 : s8.2.2.1 100 = σ.2.2.1 100 := by rw [a2.2.2]
        have u1 : s8.1 139 = pt x := (congrArg (fun u => u.2.1) a3).trans i4
        have u2 : s8.2.1 140 = pn x := (congrArg (fun u => u.2.2.1) a3).trans i5
        have u0 : s8.1 138 = (pIn Rs (iU V x)).1 := congrArg Prod.fst a3
        obtain ⟨v, b1, b2⟩ := r_lq1 (ks := ks) (qs := qs) (T := T) (n := n) (h0 := h0) (L := L) (k153 := l_leaf_153 T (zF h0 qs ks T (n + 2)) h0 qs ks t) (x2 := nI cc) (σ := s8) hc hi J8 (by rw [e88]; exact hS) u1 u2
        have cv : zF h0 qs ks T (n + 2) 85 [.ref h0, .int 1500] s8 = some (some (.int (nI 0)), s8) := r_col (d := 1500) (by decide) (by decide) (by rw [J8.1.2.2.1 89 (by decide)]; exact c8)
        have cb : s8.1 139 ≠ 0 → zF h0 qs ks T (n + 2) 85 [.ref h0, .int (s8.1 138)] s8 = some (some (.int (nI (pb x))), s8) := fun hne => by
          obtain ⟨dd, d1, d2, d3⟩ := i10 (by rw [← u1]; exact hne)
          rw [u0, d1]
          exact r_col d2 (by omega) (by rw [J8.1.2.2.1 89 (by decide)]; exact d3)
        have step : l_leaf_153 T (zF h0 qs ks T (n + 2)) h0 qs ks (t + 1) (nI cc) (nI x) σ = l_leaf_153 T (zF h0 qs ks T (n + 2)) h0 qs ks t (nI cc) (nI (x + 1)) (zA s8 100 (upd (s8.2.2.1 100) x v)) := by
          rw [l_leaf_153]
          have e155 : σ.1 155 = nI s := by rw [J.1.1 155 (by decide)]; exact c0
          simp only [zgd, zin_n c2 (by decide), if_true, nI_clamp (show cc < 2 ^ 31 by omega), J.1.2.2.1 62 (by decide), c4, zin_n hx8 (by decide), nI_clamp (show x < 2 ^ 31 by omega), J.1.2.2.1 65 (by decide), e155, zin_n c0' (by decide), nI_clamp (show s < 2 ^ 31 by omega), J.1.2.2.1 49 (by decide)]
          rw [if_neg (nI_ge (by omega) (by omega)), if_neg z1, if_pos z2, a1, zcv_at]
          have q63 : s8.2.2.1 63 x = nI (iQ V x) := by rw [J8.1.2.2.1 63 (by decide)]; exact i2.2
          have q23 : s8.2.2.1 23 (iQ V x) = nI (pr x) := by rw [J8.1.2.2.1 23 (by decide)]; exact i3.1
          simp only [q63, zin_n i2.1 (by decide), if_true, nI_clamp (show iQ V x < 2 ^ 31 by have := i2.1; omega), q23]
          rw [cv]
          simp only [zci]
          by_cases w : s8.1 139 = 0
          · rw [if_pos w]
            have : pb x = 0 := i9 (by rw [← u1]; exact w)
            rw [this] at b1
            exact b1
          · rw [if_neg w, cb w]
            exact b1
        have J9 : rJs V (zA s8 100 (upd (s8.2.2.1 100) x v)) [] Ws Ts := ⟨J8.1.a (by decide), J8.2.1, J8.2.2.1, J8.2.2.2⟩
        obtain ⟨σ', k1, k2, k3, k4⟩ := r_lq hc hA' hn d (x + 1) t _ (by omega) (by omega) (by omega) J9 (by show rSay (2 * c) L (s8.2.2.2 88); rw [e88]; exact hS)
        refine ⟨σ', step.trans k1, k2, k3.trans (a2.1 154 (by decide) (by decide) (by decide)), fun i h1 h2 h3 => ?_⟩
        rw [k4 i h1 h2 h3]
        have er : (zA s8 100 (upd (s8.2.2.1 100) x v)).2.2.1 100 i = if i = x then v else σ.2.2.1 100 i := by
          show upd (s8.2.2.1 100) x v i = _
          rw [e100]
          rfl
        rw [er]
        by_cases z : i = x
        · subst z
          rw [if_pos rfl]
          rcases b2 with ⟨rfl, b2⟩ | ⟨rfl, b2⟩
          · constructor
            · rintro (k | k)
              · exact absurd rfl k
              · omega
            · rintro (k | k)
              · exact absurd z2 k
              · exact absurd b2 k.2
          · exact ⟨fun _ => Or.inr ⟨Nat.le_refl _, b2⟩, fun _ => Or.inl (by decide)⟩
        · rw [if_neg z]
          constructor
          · rintro (k | k)
            · exact Or.inl k
            · exact Or.inr ⟨by omega, k.2⟩
          · rintro (k | k)
            · exact Or.inl k
            · exact Or.inr ⟨by omega, k.2⟩
      · refine skip ?_ (Or.inr z2)
        rw [l_leaf_153]
        unfold j_leaf_354
        simp only [zgd, zin_n c2 (by decide), if_true, nI_clamp (show cc < 2 ^ 31 by omega), J.1.2.2.1 62 (by decide), c4, zin_n hx8 (by decide), nI_clamp (show x < 2 ^ 31 by omega), J.1.2.2.1 65 (by decide), nI_p1]
        rw [if_neg (nI_ge (by omega) (by omega)), if_neg z1, if_neg z2]
/-- **leaf() where INSTANCES are asked for** -/
theorem r_leafI {s cc F E : Nat} {pr pb : Nat → Nat} {pt : Nat → Int32} {pn : Nat → Int64} (hq : qs.getD 88 0 ≠ qs.getD 87 0) (hT : 8400 ≤ T) (hc : 0 < c ∧ c ≤ 60) (h131 : V.1 131 = nI c) (hA : rAsk V c s cc F E Rs pr pb pt pn) (hB : 0 ≤ B) (hBW : ((2 * c : Nat) : Int) * B + B < 1125899906842624) (hb : rTc B (2 * c) (L0.map rnd) (V.2.2.2 87)) (n : Nat) (τ : zSt) (Ws : List oWy) (Ts : List (Nat × Bool)) (hn : Rs.length + 6 ≤ n) (J : rJs V τ [] Ws Ts) (hws : ∀ w, w ∈ Ws → wyOk B c w) (hco : tCo Ts) : ∃ τ', zF h0 qs ks T n 98 [.ref h0] τ = some (none, τ') ∧ rJs V τ' [] Ws Ts ∧ ∀ o, (o = none ∨ ∃ i, o = some i ∧ F ≤ i ∧ i < E ∧ ¬ V.2.2.1 65 i = 0) → (rMa τ' o ↔ rMa τ o ∨ kFe (fun L => match o with | none => True | some i => ¬ iSy (pr i) (pb i) (pt i).toInt (pn i).toInt L) (Ws.map wLm ++ L0) Ts) := by
  obtain ⟨n, rfl⟩ : ∃ n', n = n' + 3 := ⟨n - 3, by omega⟩
  have e131 : τ.1 131 = nI c := by rw [J.1.1 131 (by decide)]; exact h131
  have e155 : τ.1 155 = V.1 155 := J.1.1 155 (by decide)
  have e87 : τ.2.2.2 87 = V.2.2.2 87 := J.1.2.2.2 87 (by decide)
  have J' := J
  obtain ⟨j1, j2, j3, j4⟩ := J'
  obtain ⟨m', h | h⟩ := r_leaf (ks := ks) (qs := qs) (T := T) (n := n) (h0 := h0) (τ := τ) (c := c) (B := B) (Ws := Ws) (L := L0) hq (by omega) hc.2 e131 hB hBW j3 hws (by rw [e87]; exact hb)
  · refine ⟨_, h.1, ⟨j1.g (by decide), j2, ⟨j3.1, j3.2.1, fun k w e => ?_⟩, j4⟩, fun o ho => ?_⟩
    · obtain ⟨a1, a2, a3, a4, a5⟩ := j3.2.2 k w e
      exact ⟨a1, a2, a3, a4, by rw [zG_ne (by decide)]; exact a5⟩
    · have e : mkE τ (zG τ 88 m') := ⟨rfl, rfl⟩
      rw [e.mk]
      exact ⟨Or.inl, fun k => by rcases k with k | k; exact k; exact absurd k.1 h.2⟩
  · obtain ⟨h1, h2⟩ := h
    have J6 : rJs V (zI (zG τ 88 m') 154 1) [] Ws Ts := ⟨(j1.g (by decide)).i (by decide), j2, ⟨j3.1, j3.2.1, fun k w e => by
      obtain ⟨a1, a2, a3, a4, a5⟩ := j3.2.2 k w e
      refine ⟨a1, a2, a3, a4, ?_⟩
      show (zG τ 88 m').2.2.2 99 k = _
      rw [zG_ne (by decide)]
      exact a5⟩, ⟨⟨j4.1.1, Or.inr rfl⟩, j4.2⟩⟩
    have hA' := hA
    obtain ⟨⟨c0, c0'⟩, ⟨c1, c2⟩, ⟨c3, c4, c5, c6⟩, c7, c8, c9⟩ := hA'
    have h88 : (zI (zG τ 88 m') 154 1).2.2.2 88 = m' := zG_at τ 88 m'
    obtain ⟨σ', k1, k2, k3, k4⟩ := r_lq (ks := ks) (qs := qs) (T := T) (h0 := h0) (n := n) (L := Ws.map wLm ++ L0) hc hA (by omega) (E - F) F T _ (by omega) (Nat.le_refl _) (by omega) J6 (by rw [h88]; exact h2)
    have e154 : (zI (zG τ 88 m') 154 1).1 154 = 1 := by
      show (if (154 : Nat) = 154 then (1 : Int32) else τ.1 154) = 1
      rw [if_pos rfl]
    refine ⟨σ', ?_, k2, fun o ho => ?_⟩
    · rw [h1]
      unfold lEnd
      have e5 : (zI (zG τ 88 m') 154 1).1 155 = nI s := e155.trans c0
      simp only [zlet, e5, J6.1.2.2.1 47 (by decide), J6.1.2.2.1 61 (by decide), zgd, zin_n c0' (by decide), if_true, nI_clamp (show s < 2 ^ 31 by omega), c1, zin_n c2 (by decide), nI_clamp (show cc < 2 ^ 31 by omega), c3]
      rw [if_pos (show (0 : Int32) ≤ nI s from nI_le (a := 0) (by omega) (by omega))]
      exact k1
    · rcases ho with rfl | ⟨i, rfl, i1, i2, i3⟩
      · show σ'.1 154 = 1 ↔ _
        exact ⟨fun _ => Or.inr ⟨h2.1, hco, trivial⟩, fun _ => k3.trans e154⟩
      · show ¬ σ'.2.2.1 100 i = 0 ↔ ¬ τ.2.2.1 100 i = 0 ∨ _
        rw [k4 i i1 i2 i3]
        constructor
        · rintro (k | k)
          · exact Or.inl k
          · exact Or.inr ⟨h2.1, hco, k.2⟩
        · rintro (k | k)
          · exact Or.inl k
          · exact Or.inr ⟨i1, k.2.2⟩
end LQJ
