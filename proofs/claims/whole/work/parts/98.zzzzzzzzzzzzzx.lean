/-! the reference's richOf(): its contract; what has nothing within -/
/-- numbers of an S are NUMBERS -/
def sKn (kk : Nat → Int32) (ps : List tP) : Prop := ∀ p, p ∈ ps → p.1 = 0 → kk p.2.2 = nI 2
/-- as rFt, where TEMPLATES are -/
def rFu (cnt : Nat) (L : List Nat) (V : zSt) (kk pp ee f : Nat → Int32) (g : gG) (ρ tE : Nat → tY) (t : tT) (env : List Nat) (m0 m : Nat) : Prop := tGd kk cnt t ∧ rWo f pp ee (V.2.2.1 32) L t env ∧ rEv L t env ∧ ∀ p, p ∈ nE V t m0 m → p.2 ∈ tTg t → nC V g ρ tE p
/-- what stands fast in richOf() -/
def uH (T len cnt lo N S P A : Nat) (L : List Nat) (V : zSt) (kk pp ee f : Nat → Int32) (g : gG) (ρ tN : Nat → tY) (Γ : uGm) (CD : tT → Nat → Prop) : Prop := rFh T len cnt N S P A L V kk pp ee f g ρ tN ∧ uNs Γ V L tN ∧ uQs Γ V ∧ (∀ u, u ∈ L → yDp (tN u) ≤ 100) ∧ (∀ t m, rTr pp V lo N S P A t 0 0 m → cWf cnt t false → m < 2100 → CD t m) ∧ ∀ ps, sGd cnt ps → sKn kk ps → sNw T f pp ee ps
/-- what richOf() leaves -/
def uRz (CD : tT → Nat → Prop) (pp : Nat → Int32) (V : zSt) (S P : Nat) (Γ : uGm) (tE tN : Nat → tY) (R : zRs) (t : tT) (env : List Nat) (y : tY) (co : Nat → Nat) (r : gSt × gTy) (v : Nat → Nat) (τ : zSt) : Prop := ∃ t' τ' v', R = some (some (.int (nI t')), τ') ∧ uGe v v' co ∧ (v' 98 = v 98 + g98 tE tN t ∧ v' 100 = v 100 + g100 tE tN t) ∧ uFr v τ τ' ∧ uIk Γ τ τ' ∧ uAl CD pp V S P Γ tN env v' τ' r.1 ∧ uTy Γ v' τ' y t' r.2
/-- what it begins with -/
def uRa (CD : tT → Nat → Prop) (cnt : Nat) (kk pp ee f : Nat → Int32) (L : List Nat) (V : zSt) (S P : Nat) (g : gG) (ρ tE tN : Nat → tY) (Γ : uGm) (t : tT) (env : List Nat) (m0 m : Nat) (sc : List gEn) (s : gSt) (x2 x3 : Int32) (y yc : tY) (v : Nat → Nat) (τ : zSt) : Prop := rFu cnt L V kk pp ee f g ρ tE t env m0 m ∧ gOk f pp ee tE tN t env y ∧ gCp tE tN t (gSs sc).length ∧ gNb tE tN Γ t (v 100) (v 98) ∧ uAl CD pp V S P Γ tN env v τ s ∧ (uSc env.length CD Γ v τ sc x2 x3 ∧ uIq Γ τ sc) ∧ ∀ k, k ∈ uCt → v k + gTc f pp ee tE tN Γ.2.2.2.1 t env yc (gSs sc).length k ≤ uLm k
/-- how deep richOf() calls itself -/
def tDq : tT → Nat
  | .leaf => 0
  | .inner g _ _ a b => if g = 31 ∨ g = 33 ∨ g = 34 ∨ g = 35 then max (tDq a) (tDq b) else if g = 4 ∨ g = 5 then tDq b + 3 else max (tDq a) (tDq b) + 3
theorem tDq_H : ∀ t : tT, tDq t = 3 * tH t
  | .leaf => rfl
  | .inner g _ _ a b => by
    have h1 := tDq_H a
    have h2 := tDq_H b
    unfold tDq tH
    split
    · omega
    · split <;> omega
def uRo (ks : Nat → Nat) (qs : List Nat) (T h0 cnt lo N S P A : Nat) (L : List Nat) (V : zSt) (kk pp ee f : Nat → Int32) (g : gG) (ρ tE tN : Nat → tY) (Γ : uGm) (CD : tT → Nat → Prop) (t : tT) : Prop := ∀ env m sc s A0 x2 x3 n v τ y yc, rTr pp V lo N S P A t 0 0 m → tWf kk cnt t 0 → uRa CD cnt kk pp ee f L V S P g ρ tE tN Γ t env 0 m sc s x2 x3 y yc v τ → 220 + tDq t ≤ n → uRz CD pp V S P Γ tE tN (zF h0 qs ks T n 83 [.ref h0, .int (nI m), .int x2, .int x3] τ) t env y (gTc f pp ee tE tN Γ.2.2.2.1 t env yc (gSs sc).length) (gWk T f pp ee tE tN t env sc A0 s) v τ
section URO
variable {ks : Nat → Nat} {qs : List Nat} {T h0 len cnt lo N S P A : Nat} {L env : List Nat} {V τ : zSt} {kk pp ee f : Nat → Int32} {g : gG} {ρ tE tN : Nat → tY} {Γ : uGm} {CD : tT → Nat → Prop} {d : Nat × Nat × Nat × tS × tS} {z : Unit} {a b : tT}
theorem uGe.ad3 {v : Nat → Nat} {r s f r' : Nat} (h1 : r ≤ 1) (h2 : s ≤ 1) (h3 : f ≤ 1) (h4 : r' = 0) : uGe v (uAd v r s f r') cE1 := fun k => by
  unfold uAd cE1
  subst h4
  by_cases k1 : k = 75
  · subst k1; simp; omega
  by_cases k2 : k = 79
  · subst k2; simp; omega
  by_cases k3 : k = 85
  · subst k3; simp; omega
  by_cases k4 : k = 91
  · subst k4; simp
  simp [k1, k2, k3, k4]
theorem cap1 {v co : Nat → Nat} (hc : ∀ k, k ∈ uCt → v k + co k ≤ uLm k) (h : ∀ k, cE1 k ≤ co k) : v 75 < 40000 ∧ v 79 < 24000 ∧ v 85 < 12000 := by
  have a1 : v 75 + co 75 ≤ 40000 := hc 75 (by decide)
  have a2 : v 79 + co 79 ≤ 24000 := hc 79 (by decide)
  have a3 : v 85 + co 85 ≤ 12000 := hc 85 (by decide)
  have b1 : 1 ≤ co 75 := h 75
  have b2 : 1 ≤ co 79 := h 79
  have b3 : 1 ≤ co 85 := h 85
  omega
/-- one type is made, nothing else -/
theorem uRz.one {v : Nat → Nat} {s : gSt} {y : tY} {B : gTy} {R : zRs} {t : tT} {co : Nat → Nat} {t' r q e : Nat} {τ' : zSt} (hR : R = some (some (.int (nI t')), τ')) (h : uAl CD pp V S P Γ tN env v τ s) (h1 : r ≤ 1) (h2 : q ≤ 1) (h3 : e ≤ 1) (hc : ∀ k, cE1 k ≤ co k) (g8 : g98 tE tN t = 0) (g9 : g100 tE tN t = 0) (hV : uVn τ' (uAd v r q e 0)) (hF : uFr v τ τ') (hK : uKr Γ τ τ') (hT : uTy Γ (uAd v r q e 0) τ' y t' B) : uRz CD pp V S P Γ tE tN R t env y co (s, B) v τ := ⟨t', τ', _, hR, (uGe.ad3 h1 h2 h3 rfl).mo hc, ⟨by rw [g8]; rfl, by rw [g9]; rfl⟩, hF, hK.2, h.up (uAd_le v r q e 0) rfl rfl hV hF hK, hT⟩
set_option maxHeartbeats 1000000 in
/-- true, false, nil -/
theorem ur_8 {tg : Nat} (htg : tg = 8 ∨ tg = 9 ∨ tg = 17) (H : uH T len cnt lo N S P A L V kk pp ee f g ρ tN Γ CD) (hab : a = .leaf ∧ b = .leaf) : uRo ks qs T h0 cnt lo N S P A L V kk pp ee f g ρ tE tN Γ CD (.inner tg d z a b) := fun env m sc s A0 x2 x3 n v τ y yc tr wf ⟨ft, ok, cp, nb, al, ⟨hs, hq⟩, hc⟩ hn => by
  obtain ⟨n, rfl⟩ : ∃ n', n = n' + 3 := ⟨n - 3, by omega⟩
  have t0 : rNd pp V lo N m tg d.1 := by rcases htg with rfl | rfl | rfl <;> exact tr
  have hm : m < 2100 := by have := t0.1.2; have := H.1.1.2.1; omega
  have e6 : τ.2.2.1 6 m = nI tg := (al.2.1.r (k := 6) (by decide) m).trans t0.2.1
  have eC : gTc f pp ee tE tN Γ.2.2.2.1 (.inner tg d z a b) env yc (gSs sc).length = cE1 := by rcases htg with rfl | rfl | rfl <;> rfl
  obtain ⟨c75, c79, c85⟩ := cap1 hc (fun k => by rw [eC]; exact Nat.le_refl _)
  rw [show n + 3 = (n + 2) + 1 from rfl, zE_richOf]
  unfold b_richOf
  rw [zgd_at (zin_n hm (by decide)), nI_clamp (by omega), e6]
  have b2 : ∀ tg, tg = 8 ∨ tg = 9 → y = yB 1 → uRz CD pp V S P Γ tE tN (zci (zF h0 qs ks T (n + 2) 72 [.ref h0, .int 2] τ) fun r153 s151 => some (some (.int r153), s151)) (.inner tg d z a b) env y (gTc f pp ee tE tN Γ.2.2.2.1 (.inner tg d z a b) env yc (gSs sc).length) (s, gPl (yB 1)) v τ := fun tg htg hy => by
    obtain ⟨τ3, a1, a2, a3, a4, a5⟩ := r_pl2 (h0 := h0) (qs := qs) (ks := ks) (T := T) (n := n) (Γ := Γ) (l := .leaf) (r := .leaf) al.1 c75
    rw [a1, zci_at, hy]
    refine uRz.one rfl al (Nat.le_refl 1) (Nat.zero_le _) (Nat.zero_le _) ?_ ?_ ?_ a2 a3 a4.kr a5
    · intro k; rcases htg with rfl | rfl <;> exact Nat.le_refl _
    · rcases htg with rfl | rfl <;> rfl
    · rcases htg with rfl | rfl <;> rfl
  rcases htg with rfl | rfl | rfl
  · iterate 7 rw [if_neg (by decide)]
    rw [if_pos (by decide)]
    exact b2 8 (Or.inl rfl) ok
  · iterate 8 rw [if_neg (by decide)]
    rw [if_pos (by decide)]
    exact b2 9 (Or.inr rfl) ok
  · iterate 16 rw [if_neg (by decide)]
    rw [if_pos (by decide)]
    obtain ⟨τ1, τ2, τ3, b1, b2, b3, b4, b5, b6, b7⟩ := r_eq1 (h0 := h0) (qs := qs) (ks := ks) (T := T) (n := n + 1) (Γ := Γ) (te := (none, 0)) (k := 4) (l := .leaf) (r := .leaf) (Or.inr (Or.inr rfl)) al.1 c75 c79 c85
    have b1 : zF h0 qs ks T (n + 2) 69 [.ref h0, .int 0, .int (-1), .int 0, .long 0, .int (-1)] τ = _ := b1
    have b3 : zF h0 qs ks T (n + 2) 67 [.ref h0, .int 5, .int (nI (v 79)), .int (-1), .int (-1), .int (-1)] τ2 = _ := b3
    rw [b1, zci_at, b2, zci_at, b3, zci_at, show y = yB 3 from ok]
    exact uRz.one rfl al (Nat.le_refl 1) (Nat.le_refl 1) (Nat.le_refl 1) (fun k => Nat.le_refl _) rfl rfl b4 b5 b6.kr b7
end URO
