/-! the reference: what types and scopes lie in; namesSaid(), namesIn() -/
/-- rows that hold types, FACTS, what is put in, CASES, INSTANCES, scopes, fits -/
def uRq (τ τ' : zSt) : Prop := (∀ k, 42 ≤ k → k ≤ 84 → k ≠ 65 → k ≠ 66 → k ≠ 67 → k ≠ 74 → τ'.2.2.1 k = τ.2.2.1 k) ∧ τ'.2.2.2 54 = τ.2.2.2 54 ∧ τ'.2.2.2 59 = τ.2.2.2 59
theorem uRq.rf (τ : zSt) : uRq τ τ := ⟨fun _ _ _ _ _ _ _ => rfl, rfl, rfl⟩
theorem uRq.tr {a b c : zSt} (h : uRq a b) (g : uRq b c) : uRq a c := ⟨fun k x y z w r s => (g.1 k x y z w r s).trans (h.1 k x y z w r s), g.2.1.trans h.2.1, g.2.2.trans h.2.2⟩
theorem uRq.sy {a b : zSt} (h : uRq a b) : uRq b a := ⟨fun k x y z w r s => (h.1 k x y z w r s).symm, h.2.1.symm, h.2.2.symm⟩
theorem sF.q {a b : zSt} (h : sF a b) : uRq a b := ⟨fun k _ _ _ _ _ _ => by rw [h.2.2.1], h.2.2.2 54 (by decide), h.2.2.2 59 (by decide)⟩
theorem gFm.q {a b : zSt} (h : gFm a b) : uRq a b := ⟨fun k x _ _ _ _ _ => h.2.2.1 k (by omega) (by omega), by rw [h.2.2.2], by rw [h.2.2.2]⟩
theorem gQ.q {a b : zSt} (h : gQ a b) : uRq a b := ⟨fun k x y _ _ _ _ => h.2.2.1 k (fun z => by simp only [List.mem_cons, List.not_mem_nil, or_false] at z; omega), h.2.2.2 54 (by decide), h.2.2.2 59 (by decide)⟩
section URQ
variable {Γ : uGm} {v : Nat → Nat} {τ τ' : zSt} {CD : tT → Nat → Prop}
theorem uRq.r (h : uRq τ τ') {k : Nat} (h1 : 42 ≤ k := by decide) (h2 : k ≤ 84 := by decide) (h3 : k ≠ 65 := by decide) (h4 : k ≠ 66 := by decide) (h5 : k ≠ 67 := by decide) (h6 : k ≠ 74 := by decide) : τ'.2.2.1 k = τ.2.2.1 k := h.1 k h1 h2 h3 h4 h5 h6
theorem uFs.q (h : uRq τ τ') : ∀ (fs : List gFc) (l : Int32), uFs Γ v τ fs l → uFs Γ v τ' fs l
  | [], _, w => w
  | x :: fs, l, ⟨i, a, b, c, d⟩ => ⟨i, a, by rw [h.r]; exact b, by rw [h.r (k := 51), h.r (k := 52), h.2.1]; exact c, by rw [h.r (k := 53)]; exact uFs.q h fs _ d⟩
theorem uPu.q (h : uRq τ τ') : ∀ (G : List (gN × gTe)) (l : Int32), uPu Γ v τ G l → uPu Γ v τ' G l
  | [], _, w => w
  | p :: G, l, ⟨i, a, b, c, d⟩ => ⟨i, a, by rw [h.r]; exact b, by rw [h.r (k := 56), h.r (k := 57), h.2.2]; exact c, by rw [h.r (k := 58)]; exact uPu.q h G _ d⟩
theorem uIn.q {j : Nat} {x : gFc} (h : uRq τ τ') (w : uIn Γ τ j x) : uIn Γ τ' j x := by
  unfold uIn
  rw [h.r (k := 63), h.r (k := 64)]
  exact w
theorem uCs.q {c : Nat} {F : List gFc} (h : uRq τ τ') (w : uCs Γ v τ c F) : uCs Γ v τ' c F := by
  obtain ⟨a, b, c1, c2, c3, c4⟩ := w
  exact ⟨a, b, by rw [h.r]; exact c1, by rw [h.r]; exact c2, c3, fun i x e => (c4 i x e).q h⟩
theorem uSd.q {s : Nat} {A : gTy} (h : uRq τ τ') (w : uSd Γ v τ s A) : uSd Γ v τ' s A := by
  obtain ⟨a, b, c⟩ := w
  refine ⟨a, by rw [h.r (k := 49)]; exact uPu.q h _ _ b, ?_⟩
  rcases A with ⟨x | m, G⟩
  · exact ⟨by rw [h.r]; exact c.1, by rw [h.r (k := 48)]; exact uFs.q h _ _ c.2⟩
  · exact ⟨by rw [h.r]; exact c.1, by rw [h.r (k := 48)]; exact c.2.1, c.2.2.q h⟩
theorem uTy.q (h : uRq τ τ') : ∀ (y : tY) (t : Nat) (A : gTy), uTy Γ v τ y t A → uTy Γ v τ' y t A
  | .leaf, _, _, w => w
  | .inner k _ _ l r, t, A, ⟨a, b, w⟩ => by
    refine ⟨a, b, ?_⟩
    by_cases z : k = 0
    · rw [if_pos z] at w ⊢
      obtain ⟨w1, w2, ⟨w3, w4⟩, tl, tr, w5, w6, w7, w8⟩ := w
      exact ⟨by rw [h.r]; exact w1, w2, ⟨by rw [h.r]; exact w3, w4⟩, tl, tr, by rw [h.r]; exact w5, by rw [h.r]; exact w6, uTy.q h l tl _ w7, uTy.q h r tr _ w8⟩
    · rw [if_neg z] at w ⊢
      obtain ⟨w1, w2, w3⟩ := w
      refine ⟨w1, by rw [h.r]; exact w2, fun z => ?_⟩
      obtain ⟨s, w4, w5⟩ := w3 z
      exact ⟨s, by rw [h.r]; exact w4, w5.q h⟩
theorem uEv.q (h : uRq τ τ') : ∀ (ch : List (Option (gN × gTy))) (e : Int32), uEv Γ v τ ch e → uEv Γ v τ' ch e
  | [], _, w => w
  | o :: ch, e, ⟨i, t, a, b, c, d⟩ => by
    refine ⟨i, t, a, by rw [h.r (k := 69)]; exact b, ?_, by rw [h.r (k := 70)]; exact uEv.q h ch _ d⟩
    cases o with
    | none =>
      show τ'.2.2.1 42 t = 2 ∨ τ'.2.2.1 42 t = 4
      rw [h.r (k := 42)]; exact c
    | some x => exact ⟨by rw [h.r]; exact c.1, c.2.1, uTy.q h _ _ _ c.2.2⟩
theorem uGo.q (h : uRq τ τ') : ∀ (r : List (gCd × Bool)) (g : Int32), uGo CD Γ v τ r g → uGo CD Γ v τ' r g
  | [], _, w => w
  | x :: r, g, ⟨i, a, b, c, d⟩ => by
    refine ⟨i, a, by rw [h.r (k := 72)]; exact b, ?_, by rw [h.r (k := 73)]; exact uGo.q h r _ d⟩
    rcases x with ⟨cc | l, hh⟩
    · obtain ⟨m, c1, c2⟩ := c
      exact ⟨m, by rw [h.r]; exact c1, c2⟩
    · show τ'.2.2.1 71 i = _
      rw [h.r]; exact c
theorem uQr.q (h : ∀ k, 22 ≤ k → k ≤ 26 → τ'.2.2.1 k = τ.2.2.1 k) (w : uQr Γ τ) : uQr Γ τ' := fun q qq e => by
  rw [h 23 (by decide) (by decide), h 24 (by decide) (by decide), h 25 (by decide) (by decide), h 26 (by decide) (by decide)]
  exact w q qq e
theorem alV.q (h : uRq τ τ') (h65 : τ'.2.2.1 65 = τ.2.2.1 65) : alV Γ τ' = alV Γ τ := by
  funext kp i
  unfold alV
  rw [h65, h.r (k := 61)]
/-- the said of a leaf -/
theorem uTy.sd {y : tY} {t : Nat} {A : gTy} (h : uTy Γ v τ y t A) (hm : gMs y = true) : ∃ s k, t < v 75 ∧ τ.2.2.1 42 t = nI k ∧ (k = 1 ∨ k = 3 ∨ k = 5) ∧ τ.2.2.1 43 t = nI s ∧ uSd Γ v τ s A ∧ (k = 1 ↔ yK y = 2) := by
  match y, h, hm with
  | .leaf, h, _ => exact False.elim h
  | .inner k _ _ l r, h, hm =>
    obtain ⟨a, b, w⟩ := h
    have hm : (yK (.inner k () () l r : tY) == 2 || yK (.inner k () () l r : tY) == 4 || yK (.inner k () () l r : tY) == 5) = true := hm
    by_cases z : k = 0
    · subst z
      exact absurd hm (show ¬ ((1 : Nat) == 2 || (1 : Nat) == 4 || (1 : Nat) == 5) = true by decide)
    · rw [if_neg z] at w
      obtain ⟨w1, w2, w3⟩ := w
      have ek : yK (.inner k () () l r : tY) = k + 1 := by
        rcases (by omega : k = 1 ∨ k = 2 ∨ k = 3 ∨ k = 4) with rfl | rfl | rfl | rfl <;> rfl
      rw [ek] at hm ⊢
      have hk : k = 1 ∨ k = 3 ∨ k = 4 := by
        rcases (by omega : k = 1 ∨ k = 2 ∨ k = 3 ∨ k = 4) with rfl | rfl | rfl | rfl
        · exact Or.inl rfl
        · exact absurd hm (by decide)
        · exact Or.inr (Or.inl rfl)
        · exact Or.inr (Or.inr rfl)
      obtain ⟨s, s1, s2⟩ := w3 (by omega)
      exact ⟨s, uK k, a, w2, by unfold uK; rcases hk with rfl | rfl | rfl <;> decide, s1, s2, by unfold uK; rcases hk with rfl | rfl | rfl <;> decide⟩
end URQ
section NMS
variable {ks : Nat → Nat} {qs : List Nat} {T n h0 c : Nat} {B : Int} {ns : List Nat} {Γ : uGm} {V τ : zSt} {v : Nat → Nat} {sl : gN → Nat} {S : List gN} {s : Nat}
/-- the NAME of the term at hand has a column -/
theorem r_nm1 {t : gTe} {fl : Bool} {K : zSt → zRs} (hco : rCo τ ns) (hw : gTw Γ t) (hs : ∀ y e, t.1 = some (y, e) → ns[sl y]? = some (Γ.1 y)) (hu : uOf τ = uT4 Γ t fl) : (if (τ.1 139) = 0 then K τ else zci (zF h0 qs ks T (n + 1) 85 [.ref h0, .int (τ.1 138)] τ) fun _ s12 => K s12) = K τ := by
  have e138 : τ.1 138 = (uTe Γ t).1 := congrArg Prod.fst hu
  have e2 : (τ.1 139, τ.2.1 140, τ.1 141) = ((uTe Γ t).2.1, (uTe Γ t).2.2, b01 fl) := congrArg Prod.snd hu
  have e139 : τ.1 139 = (uTe Γ t).2.1 := congrArg Prod.fst e2
  rcases t with ⟨_ | ⟨y, e⟩, k⟩
  · rw [if_pos (show τ.1 139 = 0 from e139)]
  · by_cases z : τ.1 139 = 0
    · rw [if_pos z]
    · rw [if_neg z, show τ.1 138 = nI (Γ.1 y) from e138, r_clA hco (hs y e rfl), zci_at]
/-- where the FACTS end -/
def nEnd (T : Nat) (call : zCl) (h0 : Nat) (qs : List Nat) (ks : Nat → Nat) (s : Nat) (σ : zSt) : zRs := zgd (zin (nI s) 24000) (if 0 ≤ (σ.2.2.1 47 (nI s).toNatClampNeg) then zgd (zin (σ.2.2.1 47 (nI s).toNatClampNeg) 64) (j_namesSaid_86 T call h0 qs ks (nI s) (σ.2.2.1 47 (nI s).toNatClampNeg) (σ.2.2.1 61 ((σ.2.2.1 47 (nI s).toNatClampNeg)).toNatClampNeg) σ) else j_namesSaid_86 T call h0 qs ks (nI s) (σ.2.2.1 47 (nI s).toNatClampNeg) 0 σ)
set_option maxHeartbeats 1000000 in
theorem r_nsF {G : List (gN × gTe)} (H : sQ Γ V v S sl ns c B) (hs : s < 24000) (hG : uPu Γ v V G.reverse (V.2.2.1 49 s)) (hGw : ∀ p, p ∈ G → uNm Γ p.1 ∧ gTw Γ p.2) (hn : G.length + 2 ≤ n + 1) : ∀ (fs : List gFc) (l : Int32) (t : Nat) (τ : zSt), uFs Γ v V fs l → fs.length < t → (∀ x, x ∈ fs → gTw Γ x.2 ∧ (∀ y e, (gRs G x.2).1 = some (y, e) → y ∈ S)) → sF V τ → ∃ τ', l_namesSaid_7 T (zF h0 qs ks T (n + 1)) h0 qs ks t (nI s) l τ = nEnd T (zF h0 qs ks T (n + 1)) h0 qs ks s τ' ∧ sF V τ' ∧ τ'.2.2.2 87 = τ.2.2.2 87
  | [], l, t, τ, h, ht, _, f => by
    obtain ⟨t, rfl⟩ : ∃ t', t = t' + 1 := ⟨t - 1, by omega⟩
    have h : l = -1 := h
    rw [l_namesSaid_7, h, if_pos m1_lt.2]
    exact ⟨τ, rfl, f, rfl⟩
  | x :: fs, l, t, τ, ⟨i, ⟨h1, h2⟩, h3, h4, h5⟩, ht, hx, f => by
    obtain ⟨t, rfl⟩ : ∃ t', t = t' + 1 := ⟨t - 1, by omega⟩
    obtain ⟨H1, H2, H3, H4, H5, H6, H7⟩ := id H
    obtain ⟨x2, x3⟩ := hx x (List.mem_cons_self ..)
    have i12 : i < 12000 := by have : v 85 ≤ 12000 := H6 85; omega
    rw [l_namesSaid_7, h1, if_neg (nI_nn (by omega))]
    iterate 3 rw [zgd_at (zin_n i12 (by decide))]
    rw [zgd_at (zin_n hs (by decide)), nI_clamp (show i < 2 ^ 31 by omega), nI_clamp (show s < 2 ^ 31 by omega), f.2.2.1, f.2.2.2 54 (by decide)]
    have hP := rPu.sf f _ _ (uPu_r (H6 91) _ _ hG)
    obtain ⟨τ1, a1, a2, a3⟩ := r_termOf (h0 := h0) (qs := qs) (ks := ks) (T := T) (n := n + 1) (nm := V.2.2.1 51 i) (tm := V.2.2.1 52 i) (nu := V.2.2.2 54 i) hP (by rw [List.length_map, List.length_reverse]; omega)
    rw [a1, zcv_at]
    have f1 : sF V τ1 := f.tr a2.s
    have e51 : V.2.2.1 51 i = (uTe Γ x.2).1 := congrArg Prod.fst h4
    have e5b : (V.2.2.1 52 i, V.2.2.2 54 i) = (uTe Γ x.2).2 := congrArg Prod.snd h4
    have e52 : V.2.2.1 52 i = (uTe Γ x.2).2.1 := congrArg Prod.fst e5b
    have e54 : V.2.2.2 54 i = (uTe Γ x.2).2.2 := congrArg Prod.snd e5b
    have eu : uOf τ1 = uT4 Γ (gRs G x.2) (gRf G x.2) := by
      rw [a3, e51, e52, e54]
      have q := pIn_g x2 G.reverse (fun p hp => hGw p (List.mem_reverse.mp hp))
      rw [List.reverse_reverse] at q
      rw [← q]
      congr 1
      unfold uT4 uTe
      rcases ex : x.2 with ⟨_ | ⟨y, e⟩, k⟩
      · show ((-1 : Int32), (if (0 : Int32) ≤ -1 then (0 : Int32) else 0), Int64.ofInt k, (0 : Int32)) = (-1, 0, Int64.ofInt k, 0)
        rw [if_neg (by decide)]
      · show (nI (Γ.1 y), (if (0 : Int32) ≤ nI (Γ.1 y) then Int32.ofInt e else 0), Int64.ofInt k, (0 : Int32)) = (nI (Γ.1 y), Int32.ofInt e, Int64.ofInt k, 0)
        have h15 : Γ.1 y < 1500 := (x2 y e (by rw [ex])).1.1
        rw [if_pos (show (0 : Int32) ≤ nI (Γ.1 y) from nI_le (a := 0) (b := Γ.1 y) (by omega) (by omega))]
    rw [r_nm1 (h0 := h0) (qs := qs) (ks := ks) (T := T) (n := n) (sl := sl) (K := fun s12 => j_namesSaid_55 T (zF h0 qs ks T (n + 1)) h0 qs ks (l_namesSaid_7 T (zF h0 qs ks T (n + 1)) h0 qs ks t) (nI s) (nI i) s12) (f1.co H2) (x2.rs (fun p hp => (hGw p hp).2)) (fun y e z => H7 y (x3 y e z)) eu]
    show ∃ τ', j_namesSaid_55 T (zF h0 qs ks T (n + 1)) h0 qs ks (l_namesSaid_7 T (zF h0 qs ks T (n + 1)) h0 qs ks t) (nI s) (nI i) τ1 = _ ∧ _
    unfold j_namesSaid_55
    rw [zgd_at (zin_n i12 (by decide)), nI_clamp (show i < 2 ^ 31 by omega), f1.2.2.1]
    obtain ⟨τ', d1, d2, d3⟩ := r_nsF H hs hG hGw hn fs _ t τ1 h5 (by have : fs.length + 1 < t + 1 := ht; omega) (fun y hy => hx y (List.mem_cons_of_mem _ hy)) f1
    exact ⟨τ', d1, d2, d3.trans (by rw [a2.2.2])⟩
set_option maxHeartbeats 1000000 in
theorem r_nsC {G : List (gN × gTe)} {F : List gFc} {cc a0 : Nat} (H : sQ Γ V v S sl ns c B) (hs : s < 24000) (hG : uPu Γ v V G.reverse (V.2.2.1 49 s)) (hGw : ∀ p, p ∈ G → uNm Γ p.1 ∧ gTw Γ p.2) (hn : G.length + 3 ≤ n + 1) (hcc : cc < 64) (e62 : V.2.2.1 62 cc = nI (a0 + F.length)) (hl : a0 + F.length ≤ 8000) (hF : ∀ i x, F[i]? = some x → uIn Γ V (a0 + i) x ∧ gTw Γ x.2 ∧ (∀ y e, (gRs G x.2).1 = some (y, e) → y ∈ S)) : ∀ (d k t : Nat) (τ : zSt), k + d = F.length → d < t → sF V τ → ∃ τ', l_namesSaid_87 T (zF h0 qs ks T (n + 1)) h0 qs ks t (nI s) (nI cc) (nI (a0 + k)) τ = some (none, τ') ∧ sF V τ' ∧ τ'.2.2.2 87 = τ.2.2.2 87
  | 0, k, t, τ, hk, ht, f => by
    obtain ⟨t, rfl⟩ : ∃ t', t = t' + 1 := ⟨t - 1, by omega⟩
    rw [l_namesSaid_87, if_neg (nI_nn (by omega)), zgd_at (zin_n hcc (by decide)), nI_clamp (show cc < 2 ^ 31 by omega), f.2.2.1, e62, if_pos (nI_le (by omega) (by omega))]
    exact ⟨τ, rfl, f, rfl⟩
  | d + 1, k, t, τ, hk, ht, f => by
    obtain ⟨t, rfl⟩ : ∃ t', t = t' + 1 := ⟨t - 1, by omega⟩
    obtain ⟨H1, H2, H3, H4, H5, H6, H7⟩ := id H
    have hkl : k < F.length := by omega
    have ek := List.getElem?_eq_getElem hkl
    obtain ⟨i0, x2, x3⟩ := hF k _ ek
    rw [l_namesSaid_87, if_neg (nI_nn (by omega)), zgd_at (zin_n hcc (by decide)), nI_clamp (show cc < 2 ^ 31 by omega), f.2.2.1, e62, if_neg (nI_ge (by omega) (by omega)), zgd_at (zin_n (show a0 + k < 8000 by omega) (by decide)), nI_clamp (show a0 + k < 2 ^ 31 by omega)]
    have go : ∀ τ1, sF V τ1 → τ1.2.2.2 87 = τ.2.2.2 87 → ∃ τ', j_namesSaid_140 T (zF h0 qs ks T (n + 1)) h0 qs ks (l_namesSaid_87 T (zF h0 qs ks T (n + 1)) h0 qs ks t) (nI s) (nI cc) (nI (a0 + k)) τ1 = some (none, τ') ∧ sF V τ' ∧ τ'.2.2.2 87 = τ.2.2.2 87 := fun τ1 f1 e1 => by
      unfold j_namesSaid_140
      rw [nI_p1]
      obtain ⟨τ', d1, d2, d3⟩ := r_nsC H hs hG hGw hn hcc e62 hl hF d (k + 1) t τ1 (by omega) (by omega) f1
      exact ⟨τ', d1, d2, d3.trans e1⟩
    by_cases z : V.2.2.1 65 (a0 + k) = 0
    · rw [if_pos z]
      exact go τ f rfl
    · rw [if_neg z, zgd_at (zin_n hs (by decide)), nI_clamp (show s < 2 ^ 31 by omega)]
      obtain ⟨u1, u2, u3, u4⟩ := uIn_u H5 i0 x2
      have hP := rPu.sf f _ _ (uPu_r (H6 91) _ _ hG)
      have eiQ : iQ τ (a0 + k) = iQ V (a0 + k) := by unfold iQ; rw [f.2.2.1]
      obtain ⟨τ1, a1, a2, a3⟩ := r_insT (h0 := h0) (qs := qs) (ks := ks) (T := T) (n := n + 1) (i := a0 + k) (by omega) (by rw [eiQ, f.2.2.1]; exact ⟨u2, u3⟩) hP (by rw [List.length_map, List.length_reverse]; omega)
      rw [a1, zcv_at]
      have f1 : sF V τ1 := f.tr a2.s
      have eu : uOf τ1 = uT4 Γ (gRs G F[k].2) (gRf G F[k].2) := by
        rw [a3, show iU τ (a0 + k) = iU V (a0 + k) by unfold iU iQ; rw [f.2.2.1], u1]
        have q := pIn_g x2 G.reverse (fun p hp => hGw p (List.mem_reverse.mp hp))
        rw [List.reverse_reverse] at q
        exact q
      rw [r_nm1 (h0 := h0) (qs := qs) (ks := ks) (T := T) (n := n) (sl := sl) (K := fun s12 => j_namesSaid_140 T (zF h0 qs ks T (n + 1)) h0 qs ks (l_namesSaid_87 T (zF h0 qs ks T (n + 1)) h0 qs ks t) (nI s) (nI cc) (nI (a0 + k)) s12) (f1.co H2) (x2.rs (fun p hp => (hGw p hp).2)) (fun y e z => H7 y (x3 y e z)) eu]
      exact go τ1 f1 (by rw [a2.2.2])
/-- **namesSaid()**: all have columns already -/
theorem r_nmS {A : gTy} (H : sQ Γ V v S sl ns c B) (hT : 8400 ≤ T) (hA : gAq Γ S B A) (hs : uSd Γ v V s A) (hn : 203 ≤ n) (f : sF V τ) : ∃ τ', zF h0 qs ks T (n + 2) 104 [.ref h0, .int (nI s)] τ = some (none, τ') ∧ sF V τ' ∧ τ'.2.2.2 87 = τ.2.2.2 87 := by
  obtain ⟨s1, s2, s3⟩ := hs
  obtain ⟨h1, h2, h3, h4⟩ := hA
  have H6 := H.2.2.2.2.2.1
  have s24 : s < 24000 := by have : v 79 ≤ 24000 := H6 79; omega
  have hF : ∀ x, x ∈ gFa Γ.2.2.1 Γ.2.2.2.1 A → gTw Γ x.2 ∧ (∀ y e, (gRs A.2 x.2).1 = some (y, e) → y ∈ S) := fun x hx => ⟨(h1 x hx).2.1, (h1 x hx).2.2.1⟩
  rw [show n + 2 = (n + 1) + 1 from rfl, zE_namesSaid]
  unfold b_namesSaid
  rw [zgd_at (zin_n s24 (by decide)), nI_clamp (show s < 2 ^ 31 by omega), f.2.2.1]
  rcases A with ⟨x | m, G⟩
  · obtain ⟨s4, s5⟩ := s3
    obtain ⟨τ', d1, d2, d3⟩ := r_nsF (h0 := h0) (qs := qs) (ks := ks) (T := T) (n := n) H s24 s2 h2 (by have : G.length ≤ 200 := h4; omega) x.2 _ T τ s5 (by have : x.2.length ≤ 8000 := h3; omega) hF f
    rw [d1]
    refine ⟨τ', ?_, d2, d3⟩
    unfold nEnd
    obtain ⟨T, rfl⟩ : ∃ t', T = t' + 1 := ⟨T - 1, by omega⟩
    rw [zgd_at (zin_n s24 (by decide)), nI_clamp (show s < 2 ^ 31 by omega), d2.2.2.1, s4, if_neg m1_lt.1]
    unfold j_namesSaid_86
    rw [l_namesSaid_87, if_pos m1_lt.2]
  · obtain ⟨s4, s5, s6, a0, s7, s8, s9, s10⟩ := s3
    have c64 : Γ.2.1 (m.1, m.2.1) < 64 := by have : v 98 ≤ 64 := H6 98; omega
    have v99 : v 99 ≤ 8000 := H6 99
    obtain ⟨τ1, d1, d2, d3⟩ := r_nsF (h0 := h0) (qs := qs) (ks := ks) (T := T) (n := n) H s24 s2 h2 (by have : G.length ≤ 200 := h4; omega) [] (V.2.2.1 48 s) T τ s5 (by show 0 < T; omega) (fun x hx => by cases hx) f
    rw [d1]
    unfold nEnd
    rw [zgd_at (zin_n s24 (by decide)), nI_clamp (show s < 2 ^ 31 by omega), d2.2.2.1, s4, if_pos (show (0 : Int32) ≤ nI _ from nI_le (a := 0) (by omega) (by omega)), zgd_at (zin_n c64 (by decide)), nI_clamp (by omega), s7]
    unfold j_namesSaid_86
    obtain ⟨τ', b1, b2, b3⟩ := r_nsC (h0 := h0) (qs := qs) (ks := ks) (T := T) (n := n) (F := gIn Γ.2.2.1 Γ.2.2.2.1 m.2.2.1 m.2.2.2.2) H s24 s2 h2 (by have : G.length ≤ 200 := h4; omega) c64 s8 (by omega) (fun i x hx => ⟨s10 i x hx, hF x (List.mem_of_getElem? hx)⟩) _ 0 T τ1 (by rw [Nat.zero_add]) (by have : (gIn Γ.2.2.1 Γ.2.2.2.1 m.2.2.1 m.2.2.2.2).length ≤ 8000 := h3; omega) d2
    rw [Nat.add_zero] at b1
    exact ⟨τ', b1, b2, b3.trans d3⟩
/-- namesIn() of a leaf -/
theorem r_nmI {A : gTy} {y : tY} {t : Nat} (H : sQ Γ V v S sl ns c B) (hT : 8400 ≤ T) (hA : gAq Γ S B A) (hy : uTy Γ v V y t A) (hm : gMs y = true) (hn : 203 ≤ n) (f : sF V τ) : ∃ τ', zF h0 qs ks T (n + 3) 105 [.ref h0, .int (nI t)] τ = some (none, τ') ∧ sF V τ' ∧ τ'.2.2.2 87 = τ.2.2.2 87 := by
  obtain ⟨s, k, t1, t2, t3, t4, t5, -⟩ := hy.sd hm
  have t40 : t < 40000 := by have : v 75 ≤ 40000 := H.2.2.2.2.2.1 75; omega
  rw [show n + 3 = (n + 2) + 1 from rfl, zE_namesIn]
  unfold b_namesIn
  rw [if_neg (nI_nn (by omega)), zgd_at (zin_n t40 (by decide)), nI_clamp (show t < 2 ^ 31 by omega), f.2.2.1, t2, r_isSaid, zci_at]
  rw [show (nI k == 1 || nI k == 3 || nI k == 5) = true by rcases t3 with rfl | rfl | rfl <;> rfl, if_neg (show ¬ b01 true = 0 by decide), zgd_at (zin_n t40 (by decide)), f.2.2.1, t4]
  obtain ⟨τ', d1, d2, d3⟩ := r_nmS (h0 := h0) (qs := qs) (ks := ks) (T := T) (n := n) H hT hA t5 hn f
  rw [d1, zcv_at]
  exact ⟨τ', rfl, d2, d3⟩
end NMS
