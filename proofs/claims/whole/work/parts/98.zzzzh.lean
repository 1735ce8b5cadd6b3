/-! the reference: join -/
/-- g' is g with a and b the same -/
def gJ (g g' : gG) (a b : Nat) : Prop := (g'.n = g.n ∧ g'.K = g.K ∧ g'.L = g.L ∧ g'.R = g.R) ∧ gK g' ∧ gC g' ∧ (∀ x y, x < g.n → y < g.n → gR g x = gR g y → gR g' x = gR g' y) ∧ gR g' a = gR g' b ∧ ∀ ρ, gS g' ρ ↔ gS g ρ ∧ ρ a = ρ b
section GJO
variable {g : gG} {a b u v : Nat}
theorem gLk_same : (gLk g u v).n = g.n ∧ (gLk g u v).K = g.K ∧ (gLk g u v).L = g.L ∧ (gLk g u v).R = g.R := ⟨rfl, rfl, rfl, rfl⟩
theorem gLk_mono (hF : gF g) (hu : g.S u = u) (hun : u < g.n) (hvn : v < g.n) (hv : g.S v = v) (huv : u ≠ v) : ∀ x y, x < g.n → y < g.n → gR g x = gR g y → gR (gLk g u v) x = gR (gLk g u v) y := fun x y hx hy e => by
  rw [gR_lk hF hu hun hvn hv huv hx, gR_lk hF hu hun hvn hv huv hy, e]
/-- the link of ends that take and answer the same -/
theorem gLk_C (hK : gK g) (hC : gC g) (hu : g.S u = u) (hun : u < g.n) (hvn : v < g.n) (hv : g.S v = v) (huv : u ≠ v) (hk : g.K u = 0 ∨ g.K v = g.K u) (hL : g.K u = 1 → gR g (g.L u) = gR g (g.L v) ∧ gR g (g.R u) = gR g (g.R v)) : gC (gLk g u v) := fun m hm km => by
  have hm : m < g.n := hm
  have km : g.K m = 1 := km
  have mono := gLk_mono hK.1 hu hun hvn hv huv
  have hl := (hK.2 m hm).1 km
  have kr : g.K (gR g m) = 1 := by
    rcases gR_kind hK hm with e | e
    · rw [km] at e; cases e
    · exact e.trans km
  have hr := gR_lt hK.1 hm
  have hlr := (hK.2 _ hr).1 kr
  obtain ⟨c1, c2⟩ := hC m hm km
  have em := gR_lk hK.1 hu hun hvn hv huv hm
  show gR (gLk g u v) (g.L m) = gR (gLk g u v) (g.L (gR (gLk g u v) m)) ∧ gR (gLk g u v) (g.R m) = gR (gLk g u v) (g.R (gR (gLk g u v) m))
  rw [em]
  by_cases c : gR g m = u
  · rw [if_pos c]
    rw [c] at c1 c2 kr hlr
    have hkv : g.K v = 1 := by
      rcases hk with e | e
      · rw [kr] at e; cases e
      · exact e.trans kr
    have hlv := (hK.2 v hvn).1 hkv
    obtain ⟨d1, d2⟩ := hL kr
    exact ⟨mono _ _ hl.1 hlv.1 (c1.trans d1), mono _ _ hl.2 hlv.2 (c2.trans d2)⟩
  · rw [if_neg c]
    exact ⟨mono _ _ hl.1 hlr.1 c1, mono _ _ hl.2 hlr.2 c2⟩
theorem gJ.lk (hK : gK g) (hC : gC g) (ha : a < g.n) (hb : b < g.n) (hu : u = gR g a) (hv : v = gR g b) (huv : u ≠ v) (hk : g.K u = 0 ∨ g.K v = g.K u) (hL : g.K u = 1 → gR g (g.L u) = gR g (g.L v) ∧ gR g (g.R u) = gR g (g.R v)) : gJ g (gLk g u v) a b := by
  have hun : u < g.n := by rw [hu]; exact gR_lt hK.1 ha
  have hvn : v < g.n := by rw [hv]; exact gR_lt hK.1 hb
  have hus : g.S u = u := by rw [hu]; exact gR_root hK.1 ha
  have hvs : g.S v = v := by rw [hv]; exact gR_root hK.1 hb
  refine ⟨gLk_same, hK.lk hus hun hvn hvs huv hk, gLk_C hK hC hus hun hvn hvs huv hk hL, gLk_mono hK.1 hus hun hvn hvs huv, ?_, fun ρ => ?_⟩
  · rw [gR_lk hK.1 hus hun hvn hvs huv ha, gR_lk hK.1 hus hun hvn hvs huv hb, if_pos hu.symm, if_neg (fun e => huv (e.symm.trans hv.symm)), hv]
  · rw [gS_lk hus hun]
    refine ⟨fun h => ⟨h.1, ?_⟩, fun h => ⟨h.1, ?_⟩⟩
    · rw [← gR_eq hK.1 ha h.1, ← gR_eq hK.1 hb h.1, ← hu, ← hv]; exact h.2
    · rw [hu, hv, gR_eq hK.1 ha h.1, gR_eq hK.1 hb h.1]; exact h.2
/-- the other way round -/
theorem gJ.sy {g' : gG} (h : gJ g g' a b) : gJ g g' b a := ⟨h.1, h.2.1, h.2.2.1, h.2.2.2.1, h.2.2.2.2.1.symm, fun ρ => (h.2.2.2.2.2 ρ).trans ⟨fun z => ⟨z.1, z.2.symm⟩, fun z => ⟨z.1, z.2.symm⟩⟩⟩
theorem gLk_roots (hu : g.S u = u) (hun : u < g.n) (huv : u ≠ v) : xN g.n (gRoot (gLk g u v)) + 1 = xN g.n (gRoot g) := xN_off hun (fun x _ c => by rw [gLk_root hu huv, if_neg c]) (decide_eq_true hu) (by rw [gLk_root hu huv, if_pos rfl])
end GJO
section RJO
variable {ks : Nat → Nat} {qs : List Nat} {T n h0 : Nat} {τ : zSt} {g : gG} {k : Nat}
theorem rG.lk {u v : Nat} (h : rG τ g k) (hun : u < g.n) (hvn : v < g.n) (huv : u ≠ v) : rG (zA τ 37 (upd (τ.2.2.1 37) u (nI v))) (gLk g u v) k := by
  refine ⟨h.1, h.2.1, fun t ht => ?_⟩
  obtain ⟨a, b, c, d⟩ := h.2.2 t ht
  refine ⟨a, b, ?_, d⟩
  show upd (τ.2.2.1 37) u (nI v) t = (if (if t = u then v else g.S t) = t then -1 else nI (if t = u then v else g.S t))
  by_cases e : t = u
  · rw [e, upd_at, if_pos rfl, if_neg (fun z => huv z.symm)]
  · rw [upd_ne _ _ e, if_neg e]; exact c
/-- a result of join -/
def rJ (τ τ' : zSt) (g : gG) (a b k : Nat) (r : Bool) : Prop := jFj τ τ' ∧ (r = true → ∃ g' k', rG τ' g' k' ∧ gJ g g' a b ∧ (∃ ρ, gS g' ρ) ∧ k' + xN g.n (gRoot g') ≤ k + xN g.n (gRoot g)) ∧ (r = false → (∀ ρ, gS g ρ → ¬ ρ a = ρ b) ∧ ∃ k', τ'.1 60 = nI k' ∧ k' ≤ k + xN g.n (gRoot g) + 1)
/-- a free end is bound -/
theorem r_bind {F : Nat} {ρ0 : Nat → tY} {a b u v : Nat} (hT : 9010 ≤ T) (h : rG τ g k) (hK : gK g) (hC : gC g) (hs : gS g ρ0) (ha : a < g.n) (hb : b < g.n) (hu : u = gR g a) (hv : v = gR g b) (huv : u ≠ v) (hk0 : g.K u = 0) (hF : yH (ρ0 b) ≤ F) (hkk : k + 1 < 2 ^ 30) : ∃ (r : Bool) (τ' : zSt), j_join_69 T (zF h0 qs ks T (F + 2)) h0 qs ks (nI u) (nI v) τ = some (some (.int (b01 r)), τ') ∧ rJ τ τ' g a b k r := by
  have h2 := h.1.2
  have hun : u < g.n := by rw [hu]; exact gR_lt hK.1 ha
  have hvn : v < g.n := by rw [hv]; exact gR_lt hK.1 hb
  have hus : g.S u = u := by rw [hu]; exact gR_root hK.1 ha
  have hvs : g.S v = v := by rw [hv]; exact gR_root hK.1 hb
  have pl : nI k + 1 = nI (k + 1) := nI_add k 1 ▸ rfl
  obtain ⟨τ1, hτ1⟩ : ∃ x, x = zI τ 60 (τ.1 60 + 1) := ⟨_, rfl⟩
  have h1 : rG τ1 g (k + 1) := by
    rw [hτ1]
    refine ⟨h.1, ⟨by show τ.1 60 + 1 = _; rw [h.2.1.1, pl], hkk⟩, fun t ht => ?_⟩
    obtain ⟨a, b, c, s, d, e⟩ := h.2.2 t ht
    exact ⟨a, b, c, s, by omega, e⟩
  have f1 : jFj τ τ1 := by rw [hτ1]; exact ⟨fun q c => zIn _ _ c, rfl, fun _ _ _ => rfl, rfl⟩
  have cnt := gLk_roots (v := v) hus hun huv
  have pos : 1 ≤ xN g.n (gRoot g) := by omega
  have fin : ∀ τ2, rG τ2 g (k + 1) → jFj τ1 τ2 → (∃ ρ, gS g ρ ∧ ρ u = ρ v) → ∃ (r : Bool) (τ' : zSt), j_join_105 T (zF h0 qs ks T (F + 2)) h0 qs ks (nI u) (nI v) τ2 = some (some (.int (b01 r)), τ') ∧ rJ τ τ' g a b k r := fun τ2 q1 q2 ⟨ρ, q3, q4⟩ => by
    unfold j_join_105
    simp only [zgd, zlet, zin_n (show u < 9000 by omega) (by decide), if_true, nI_clamp (show u < 2 ^ 31 by omega)]
    refine ⟨true, _, rfl, (f1.tr q2).tr ⟨fun _ _ => rfl, rfl, fun q c _ => if_neg c, rfl⟩, fun _ => ⟨gLk g u v, k + 1, q1.lk hun hvn huv, gJ.lk hK hC ha hb hu hv huv (Or.inl hk0) (fun z => by rw [hk0] at z; cases z), ⟨ρ, (gS_lk hus hun).mpr ⟨q3, q4⟩⟩, by omega⟩, fun z => by cases z⟩
  unfold j_join_69
  simp only [zlet, ← hτ1, zgd, zin_n (show v < 9000 by omega) (by decide), if_true, nI_clamp (show v < 2 ^ 31 by omega)]
  obtain ⟨⟨k5, e34⟩, -⟩ := h1.2.2 v hvn
  rw [e34]
  by_cases c : g.K v = 1
  · rw [if_pos (by rw [c]; rfl)]
    have hyv : yH (ρ0 v) ≤ F := by rw [hv, gR_eq hK.1 hb hs]; exact hF
    obtain ⟨r, τ2, i1, i2, i3, i4, i5⟩ := r_isIn (h0 := h0) (qs := qs) (ks := ks) (v := u) hT hK hs hun F v τ1 h1 hvn hyv
    rw [i1]
    simp only [zci]
    cases r with
    | true =>
      rw [if_neg (show ¬ b01 true = 0 by decide)]
      refine ⟨false, τ2, rfl, f1.tr i3, fun z => (by cases z), fun _ => ⟨fun ρ hρ e => ?_, k + 1, i2.2.1.1, by omega⟩⟩
      have := (i4 rfl ρ hρ).2 (by rw [gR_fix hvs]; exact fun z => huv z.symm)
      rw [hu, hv, gR_eq hK.1 ha hρ, gR_eq hK.1 hb hρ, e] at this
      omega
    | false =>
      rw [if_pos (show b01 false = 0 from rfl)]
      obtain ⟨j1, ⟨j2, j3⟩, j4⟩ := i5 rfl
      rw [gR_fix hvs] at j2 j3
      have nom : ∀ m, m < g.n → ¬ rMk τ1 (k + 1) m := fun m hm z => by
        have e38 : τ1.2.2.1 38 m = τ.2.2.1 38 m := by rw [hτ1]; rfl
        obtain ⟨-, -, -, s, s1, s2⟩ := h.2.2 m hm
        unfold rMk at z
        rw [e38, s2] at z
        have := nI_inj' (by omega) (by omega) z
        omega
      exact fin τ2 i2 i3 (gBind hK hC hs hun hus hk0 hvn hvs huv (M := rMk τ2 (k + 1)) (fun m hm hmn _ => j4 m hmn hm (nom m hmn)) j3)
  · rw [if_neg (show ¬ rKd (g.K v) = 4 from fun z => c (rKd_inj (k := 1) k5 (by omega) z))]
    exact fin τ1 h1 (jFj.rf τ1) (gBind hK hC hs hun hus hk0 hvn hvs huv (M := fun _ => False) (fun m hm => hm.elim) (fun z => c z))
/-- both ends are the same in the end -/
theorem r_186 {F : Nat} {a b : Nat} {g2 : gG} {k2 : Nat} (hT : 9010 ≤ T) {τ2 : zSt} (h : rG τ2 g2 k2) (hK : gK g2) (hC : gC g2) (ha : a < g2.n) (hb : b < g2.n) (hs : ∃ ρ, gS g2 ρ) (hk : g2.K (gR g2 a) ≠ 0 ∧ g2.K (gR g2 b) = g2.K (gR g2 a)) (hL : g2.K (gR g2 a) = 1 → gR g2 (g2.L (gR g2 a)) = gR g2 (g2.L (gR g2 b)) ∧ gR g2 (g2.R (gR g2 a)) = gR g2 (g2.R (gR g2 b))) (he : ∀ ρ, gS g2 ρ → ρ a = ρ b) : ∃ τ' g', j_join_186 T (zF h0 qs ks T (F + 1)) h0 qs ks (nI a) (nI b) τ2 = some (some (.int 1), τ') ∧ jFj τ2 τ' ∧ rG τ' g' k2 ∧ gJ g2 g' a b ∧ (∃ ρ, gS g' ρ) ∧ xN g2.n (gRoot g') ≤ xN g2.n (gRoot g2) := by
  have h2 := h.1.2
  have hun := gR_lt hK.1 ha
  have hvn := gR_lt hK.1 hb
  unfold j_join_186
  simp only [r_real (n := F) hT h hK.1 ha, r_real (n := F) hT h hK.1 hb, zci]
  by_cases c : gR g2 a = gR g2 b
  · rw [if_pos (by rw [c])]
    exact ⟨τ2, g2, rfl, jFj.rf τ2, h, ⟨⟨rfl, rfl, rfl, rfl⟩, hK, hC, fun _ _ _ _ e => e, c, fun ρ => ⟨fun z => ⟨z, he ρ z⟩, fun z => z.1⟩⟩, hs, Nat.le_refl _⟩
  · rw [if_neg (fun z => c (nI_inj' (by omega) (by omega) z))]
    simp only [zgd, zlet, zin_n (show gR g2 a < 9000 by omega) (by decide), if_true, nI_clamp (show gR g2 a < 2 ^ 31 by omega)]
    have J := gJ.lk hK hC ha hb rfl rfl c (Or.inr hk.2) hL
    obtain ⟨ρ, hρ⟩ := hs
    have cnt := gLk_roots (v := gR g2 b) (gR_root hK.1 ha) hun c
    exact ⟨_, _, rfl, ⟨fun _ _ => rfl, rfl, fun q c _ => if_neg c, rfl⟩, h.lk hun hvn c, J, ⟨ρ, (J.2.2.2.2.2 ρ).mpr ⟨hρ, he ρ hρ⟩⟩, by omega⟩
end RJO
