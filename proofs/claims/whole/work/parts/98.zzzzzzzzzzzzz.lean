/-! mustFit() of the reference, whole -/
section RMT
variable {ks : Nat → Nat} {qs : List Nat} {T h0 : Nat} {Γ : uGm} {CD : tT → Nat → Prop}
theorem gSy_tk {A : gTy} {m : gTm} (h : A.1 = .inr m) : gSy (gTk A) = yL (gSy A) ∧ gSy (gAn A) = yR (gSy A) := by
  obtain ⟨a, G⟩ := A
  have h : a = .inr m := h
  subst h
  exact ⟨rfl, rfl⟩
/-- a fit's row -/
theorem r_frow {v : Nat → Nat} {τ : zSt} {x1 x2 x3 x4 : Int32} (hV : uVn τ v) (hl : v 116 < 12000) : ∃ τ', τ' = zI (zA (zA (zA (zA τ 75 (upd (τ.2.2.1 75) (v 116) x1)) 76 (upd (τ.2.2.1 76) (v 116) x2)) 77 (upd (τ.2.2.1 77) (v 116) x3)) 78 (upd (τ.2.2.1 78) (v 116) x4)) 116 (nI (v 116 + 1)) ∧ uVn τ' (uUp v 116) ∧ uFr v τ τ' ∧ (τ'.2.2.1 75 (v 116) = x1 ∧ τ'.2.2.1 76 (v 116) = x2 ∧ τ'.2.2.1 77 (v 116) = x3 ∧ τ'.2.2.1 78 (v 116) = x4) ∧ uKe τ τ' := by
  refine ⟨_, rfl, hV.up (by decide) rfl (by show v 116 + 1 ≤ 12000; omega) (fun k _ hk => if_neg hk), ⟨fun k h1 h2 h3 => if_neg (fun e => h1 (by rw [e]; decide)), fun _ _ => rfl, fun k h1 i h2 => ?_, fun k i h2 => rfl⟩, ⟨if_pos rfl, if_pos rfl, if_pos rfl, if_pos rfl⟩, fun k hk => ?_, rfl, rfl, rfl⟩
  · have hx : k = 75 ∨ k = 76 ∨ k = 77 ∨ k = 78 → i ≠ v 116 := fun hk => by
      have := h2 116 (by rcases hk with rfl | rfl | rfl | rfl <;> decide)
      omega
    show (if k = 78 then _ else if k = 77 then _ else if k = 76 then _ else if k = 75 then _ else _ : Nat → Int32) i = _
    by_cases e1 : k = 78
    · subst e1; rw [if_pos rfl]; exact if_neg (hx (by decide))
    by_cases e2 : k = 77
    · subst e2; rw [if_neg (by decide), if_pos rfl]; exact if_neg (hx (by decide))
    by_cases e3 : k = 76
    · subst e3; rw [if_neg (by decide), if_neg (by decide), if_pos rfl]; exact if_neg (hx (by decide))
    by_cases e4 : k = 75
    · subst e4; rw [if_neg (by decide), if_neg (by decide), if_neg (by decide), if_pos rfl]; exact if_neg (hx (by decide))
    rw [if_neg e1, if_neg e2, if_neg e3, if_neg e4]
  · show (if k = 78 then _ else if k = 77 then _ else if k = 76 then _ else if k = 75 then _ else _ : Nat → Int32) = _
    have : k = 40 ∨ k = 41 ∨ k = 66 ∨ k = 67 ∨ k = 74 ∨ k = 85 ∨ k = 86 := hk
    rw [if_neg (by omega), if_neg (by omega), if_neg (by omega), if_neg (by omega)]
/-- what mustFit() leaves -/
def mfO (CD : tT → Nat → Prop) (Γ : uGm) (R : zRs) (y : tY) (Fs : List gFit) (v : Nat → Nat) (τ : zSt) : Prop := ∃ τ' v', R = some (none, τ') ∧ uVn τ' v' ∧ uGe v v' (fitC y) ∧ uFr v τ τ' ∧ uKl τ τ' ∧ uIk Γ τ τ' ∧ v' 116 = v 116 + Fs.length ∧ Fs.length = yLs y ∧ ∀ i x, Fs[i]? = some x → uFt CD Γ v' τ' (v 116 + i) x ∧ uIq Γ τ' x.1
/-- **mustFit()** -/
theorem r_mustFit : ∀ (y : tY) (a b : Nat) (A B : gTy) (sc : List gEn) (e g : Int32) (N n : Nat) (v : Nat → Nat) (τ : zSt), uVn τ v → uTy Γ v τ y a A → uTy Γ v τ y b B → uSc N CD Γ v τ sc e g → uIq Γ τ sc → N + yDp y ≤ 200 → (∀ k, k ∈ uCt → v k + fitC y k ≤ uLm k) → 2 * yDp y + 3 ≤ n → mfO CD Γ (zF h0 qs ks T n 78 [.ref h0, .int (nI a), .int (nI b), .int e, .int g] τ) y (gFi y A B sc) v τ
  | .leaf, a, b, A, B, sc, e, g, N, n, v, τ, hV, hA, _, _, _, _, _, _ => False.elim hA
  | .inner k _ _ l r, a, b, A, B, sc, e, g, N, n, v, τ, hV, hA, hB, hS, hI, hN, hL, hn => by
    obtain ⟨n, rfl⟩ : ∃ n', n = n' + 1 := ⟨n - 1, by omega⟩
    have l75 : v 75 ≤ 40000 := (hV 75 (by decide)).2
    have hkA := uTy.k hA
    have hkB := uTy.k hB
    have za : zin (nI a) 40000 = true := zin_n (by omega) (by decide)
    have ca : (nI a).toNatClampNeg = a := nI_clamp (by omega)
    have zb : zin (nI b) 40000 = true := zin_n (by omega) (by decide)
    have cb : (nI b).toNatClampNeg = b := nI_clamp (by omega)
    by_cases z : k = 0
    · subst z
      have e42 : τ.2.2.1 42 a = 4 := hkA.2.1
      have eNr : yFr (.inner 0 () () l r : tY) = yFr l + yFr r + yNd r := rfl
      have eSr : yFs (.inner 0 () () l r : tY) = yFs l + yFs r + yLs r := rfl
      have eEr : yFe (.inner 0 () () l r : tY) = yFe l + yFe r + 1 := rfl
      have eLr : yLs (.inner 0 () () l r : tY) = yLs l + yLs r := rfl
      have eDr : yDp (.inner 0 () () l r : tY) = max (yDp l) (yDp r) + 1 := rfl
      have b75 : v 75 + (yFr l + yFr r + yNd r) ≤ 40000 := hL 75 (by decide)
      have b79 : v 79 + (yFs l + yFs r + yLs r) ≤ 24000 := hL 79 (by decide)
      have b91 : v 91 + (yFs l + yFs r + yLs r) ≤ 24000 := hL 91 (by decide)
      have b109 : v 109 + (yFe l + yFe r + 1) ≤ 12000 := hL 109 (by decide)
      have b116 : v 116 + (yLs l + yLs r) ≤ 12000 := hL 116 (by decide)
      have bo : ∀ k, k ∈ uCt → k ≠ 75 → k ≠ 79 → k ≠ 91 → k ≠ 109 → k ≠ 116 → v k ≤ uLm k := fun k hk _ _ _ _ _ => (hV k hk).2
      rw [eDr] at hN hn
      obtain ⟨a1, a2, a3⟩ := hA
      rw [if_pos rfl] at a3
      obtain ⟨-, ⟨mA, hmA⟩, ⟨a4, a5, a6⟩, tla, tra, a7, a8, a9, a10⟩ := a3
      obtain ⟨b1, b2, b3⟩ := hB
      rw [if_pos rfl] at b3
      obtain ⟨-, ⟨mB, hmB⟩, ⟨b4, b5, b6⟩, tlb, trb, b7, b8, b9, b10⟩ := b3
      have eF : gFi (.inner 0 () () l r) A B sc = gFi l (gTk B) (gTk A) sc ++ gFi r (if gMs l = true ∧ gPn A ≠ gPn B then gPu (gAn A) (gPn A) (some (gPn B, 1), 0) else gAn A) (gAn B) (gNm (gPn B) (gTk B) sc) := rfl
      rw [eF, zE_mustFit]
      unfold b_mustFit
      -- the parameters
      obtain ⟨τ1, v1, c1, c2, c3, c4, c5, c6, c7, c7', c8⟩ := r_mustFit l tlb tla (gTk B) (gTk A) sc e g N n v τ hV b9 a9 hS hI (by omega) (fun k hk => by
        unfold fitC
        by_cases k1 : k = 75
        · subst k1; show v 75 + yFr l ≤ 40000; omega
        rw [if_neg k1]
        by_cases k2 : k = 79
        · subst k2; show v 79 + yFs l ≤ 24000; omega
        rw [if_neg k2]
        by_cases k3 : k = 91
        · subst k3; show v 91 + yFs l ≤ 24000; omega
        rw [if_neg k3]
        by_cases k4 : k = 109
        · subst k4; show v 109 + yFe l ≤ 12000; omega
        rw [if_neg k4]
        by_cases k5 : k = 116
        · subst k5; show v 116 + yLs l ≤ 12000; omega
        rw [if_neg k5]
        exact bo k hk k1 k2 k3 k4 k5) (by omega)
      have lv1 : ∀ k, v k ≤ v1 k := fun k => (c3 k).1
      have d75 : v1 75 ≤ v 75 + yFr l := (c3 75).2
      have d79 : v1 79 ≤ v 79 + yFs l := (c3 79).2
      have d91 : v1 91 ≤ v 91 + yFs l := (c3 91).2
      have d109 : v1 109 ≤ v 109 + yFe l := (c3 109).2
      -- the NAME
      obtain ⟨n, rfl⟩ : ∃ n', n = n' + 1 := ⟨n - 1, by omega⟩
      have B1 := uTy.up lv1 c4 l tlb _ b9
      have tl75 : tlb < v1 75 := by
        cases l with
        | leaf => exact False.elim B1
        | inner k' _ _ l' r' => exact B1.1
      obtain ⟨τ2, f1, f2, f3, ⟨f4, f5, f6⟩, ⟨f7, f8⟩, f9, f10⟩ := r_knows (h0 := h0) (qs := qs) (ks := ks) (T := T) (n := n) (x := Γ.1 (gPn B)) (t := tlb) (e := e) c2 (by omega) (by have := b5.1; omega) tl75
      have B2 := uTy.up (uUp_le v1 109) f3 l tlb _ B1
      have hl' : ∃ k' l' r', l = .inner k' () () l' r' ∧ τ1.2.2.1 42 tlb = (if k' = 0 then 4 else nI (uK k')) ∧ k' ≤ 4 := by
        cases l with
        | leaf => exact False.elim B1
        | inner k' _ _ l' r' => exact ⟨k', l', r', rfl, (uTy.k B1).2⟩
      obtain ⟨g1, g2⟩ := uIk.kn b5 b6 hl' f7 f8
      have lv2 : ∀ k, v k ≤ uUp v1 109 k := fun k => Nat.le_trans (lv1 k) (uUp_le v1 109 k)
      have fr2 : uFr v τ τ2 := c4.tr f3 lv1
      have S2 : uSc (N + 1) CD Γ (uUp v1 109) τ2 (gNm (gPn B) (gTk B) sc) (nI (v1 109)) g := uSc.kn (hS.up lv2 fr2) B2 (by rw [uUp_at]; omega) f4 f5 f6
      have I2 : uIq Γ τ2 (gNm (gPn B) (gTk B) sc) := fun x hx => by
        rw [scN_nm] at hx
        split at hx
        · rcases List.mem_cons.mp hx with rfl | hx
          · exact ⟨b5, g2⟩
          · exact (hI.ik (c6.tr g1)) x hx
        · exact (hI.ik (c6.tr g1)) x hx
      have K2 : uKl τ τ2 := c5.tr ⟨f9, f10⟩
      have r45 : τ1.2.2.1 45 b = nI tlb := (c4.r (c := 75) (by decide) (by unfold uAy; omega) b1).trans b7
      have r44 : τ1.2.2.1 44 b = nI (Γ.1 (gPn B)) := (c4.r (c := 75) (by decide) (by unfold uAy; omega) b1).trans b4
      have q45 : τ2.2.2.1 45 b = nI tlb := (fr2.r (c := 75) (by decide) (by unfold uAy; omega) b1).trans b7
      have q44b : τ2.2.2.1 44 b = nI (Γ.1 (gPn B)) := (fr2.r (c := 75) (by decide) (by unfold uAy; omega) b1).trans b4
      have q44a : τ2.2.2.1 44 a = nI (Γ.1 (gPn A)) := (fr2.r (c := 75) (by decide) (by unfold uAy; omega) a1).trans a4
      have q46a : τ2.2.2.1 46 a = nI tra := (fr2.r (c := 75) (by decide) (by unfold uAy; omega) a1).trans a8
      have l75' : v1 75 ≤ 40000 := (c2 75 (by decide)).2
      have zl : zin (nI tlb) 40000 = true := zin_n (by omega) (by decide)
      have cl : (nI tlb).toNatClampNeg = tlb := nI_clamp (by omega)
      have ms : (τ2.2.2.1 42 tlb == 1 || τ2.2.2.1 42 tlb == 3 || τ2.2.2.1 42 tlb == 5) = gMs l := by
        cases l with
        | leaf => exact False.elim B2
        | inner k' _ _ l' r' =>
          obtain ⟨-, w1, w2⟩ := uTy.k B2
          rw [w1]
          have k5 : k' = 0 ∨ k' = 1 ∨ k' = 2 ∨ k' = 3 ∨ k' = 4 := by omega
          rcases k5 with rfl | rfl | rfl | rfl | rfl <;> rfl
      -- the rest
      have rest : ∀ (t : Nat) (A' : gTy) (v3 : Nat → Nat) (τ3 : zSt), uVn τ3 v3 → uGe (uUp v1 109) v3 (uAd (fun _ => 0) (yNd r) (yLs r) 0 (yLs r)) → uFr (uUp v1 109) τ2 τ3 → uKe τ2 τ3 → uTy Γ v3 τ3 r t A' → A' = (if gMs l = true ∧ gPn A ≠ gPn B then gPu (gAn A) (gPn A) (some (gPn B, 1), 0) else gAn A) → mfO CD Γ (j_mustFit_128 T (zF h0 qs ks T (n + 1)) h0 qs ks (nI b) g (nI (v1 109)) (nI t) τ3) (.inner 0 () () l r) (gFi l (gTk B) (gTk A) sc ++ gFi r (if gMs l = true ∧ gPn A ≠ gPn B then gPu (gAn A) (gPn A) (some (gPn B, 1), 0) else gAn A) (gAn B) (gNm (gPn B) (gTk B) sc)) v τ := by
        intro t A' v3 τ3 V3 G3 F3 E3 T3 eA
        have lv3 : ∀ k, uUp v1 109 k ≤ v3 k := fun k => (G3 k).1
        have lv03 : ∀ k, v k ≤ v3 k := fun k => Nat.le_trans (lv2 k) (lv3 k)
        have fr3 : uFr v τ τ3 := fr2.tr F3 lv2
        have h75 : v3 75 ≤ v1 75 + yNd r := by have := (G3 75).2; rw [uUp_ne v1 (by decide)] at this; have e0 : uAd (fun _ => 0) (yNd r) (yLs r) 0 (yLs r) 75 = 0 + yNd r := rfl; omega
        have h79 : v3 79 ≤ v1 79 + yLs r := by have := (G3 79).2; rw [uUp_ne v1 (by decide)] at this; have e0 : uAd (fun _ => 0) (yNd r) (yLs r) 0 (yLs r) 79 = 0 + yLs r := rfl; omega
        have h91 : v3 91 ≤ v1 91 + yLs r := by have := (G3 91).2; rw [uUp_ne v1 (by decide)] at this; have e0 : uAd (fun _ => 0) (yNd r) (yLs r) 0 (yLs r) 91 = 0 + yLs r := rfl; omega
        have h109 : v3 109 ≤ v1 109 + 1 := by have := (G3 109).2; rw [uUp_at] at this; exact this
        have h116 : v3 116 = v1 116 := by have := (G3 116); rw [uUp_ne v1 (by decide)] at this; have e0 : uAd (fun _ => 0) (yNd r) (yLs r) 0 (yLs r) 116 = 0 := rfl; omega
        have q46b : τ3.2.2.1 46 b = nI trb := (fr3.r (c := 75) (by decide) (by unfold uAy; omega) b1).trans b8
        obtain ⟨τ4, v4, e1, e2, e3, e4, e5, e6, e7, e7', e8⟩ := r_mustFit r t trb A' (gAn B) (gNm (gPn B) (gTk B) sc) (nI (v1 109)) g (N + 1) (n + 1) v3 τ3 V3 T3 (uTy.up lv03 fr3 r trb _ b10) (S2.up lv3 F3) (I2.ik E3.ik) (by omega) (fun k hk => by
          unfold fitC
          by_cases k1 : k = 75
          · subst k1; show v3 75 + yFr r ≤ 40000; omega
          rw [if_neg k1]
          by_cases k2 : k = 79
          · subst k2; show v3 79 + yFs r ≤ 24000; omega
          rw [if_neg k2]
          by_cases k3 : k = 91
          · subst k3; show v3 91 + yFs r ≤ 24000; omega
          rw [if_neg k3]
          by_cases k4 : k = 109
          · subst k4; show v3 109 + yFe r ≤ 12000; omega
          rw [if_neg k4]
          by_cases k5 : k = 116
          · subst k5; show v3 116 + yLs r ≤ 12000; omega
          rw [if_neg k5]
          exact (V3 k hk).2) (by omega)
        subst eA
        refine ⟨τ4, v4, ?_, e2, fun k => ?_, fr3.tr e4 lv03, (K2.tr E3.l).tr e5, ((c6.tr g1).tr E3.ik).tr e6, by rw [List.length_append]; omega, by rw [List.length_append, eLr]; omega, fun i x hx => ?_⟩
        · unfold j_mustFit_128
          rw [zgd_at zb, cb, q46b, e1, zcv_at]
        · have w1 := c3 k
          have w2 := G3 k
          have w3 := e3 k
          unfold fitC uUp uAd at *
          by_cases k1 : k = 75
          · subst k1; simp at w1 w2 w3 ⊢; omega
          by_cases k2 : k = 79
          · subst k2; simp at w1 w2 w3 ⊢; omega
          by_cases k3 : k = 91
          · subst k3; simp at w1 w2 w3 ⊢; omega
          by_cases k4 : k = 109
          · subst k4; simp at w1 w2 w3 ⊢; omega
          by_cases k5 : k = 116
          · subst k5; simp at w1 w2 w3 ⊢; omega
          by_cases k6 : k = 85
          · subst k6; simp at w1 w2 w3 ⊢; omega
          simp only [if_neg k1, if_neg k2, if_neg k3, if_neg k4, if_neg k5, if_neg k6] at w1 w2 w3 ⊢
          omega
        · by_cases hi : i < (gFi l (gTk B) (gTk A) sc).length
          · rw [List.getElem?_append_left hi] at hx
            obtain ⟨u1, u2⟩ := c8 i x hx
            have fr14 : uFr v1 τ1 τ4 := (f3.tr F3 (uUp_le v1 109)).tr e4 (fun k => Nat.le_trans (uUp_le v1 109 k) (lv3 k))
            exact ⟨u1.up (fun k => Nat.le_trans (Nat.le_trans (uUp_le v1 109 k) (lv3 k)) (e3 k).1) fr14, u2.ik ((g1.tr E3.ik).tr e6)⟩
          · rw [List.getElem?_append_right (by omega)] at hx
            have := e8 _ x hx
            rw [show v3 116 + (i - (gFi l (gTk B) (gTk A) sc).length) = v 116 + i by omega] at this
            exact this
      have R3 := uTy.up lv2 fr2 r tra _ a10
      simp only [zgd, za, zb, ca, cb, if_true, e42, if_neg (show ¬ (4 : Int32) = 2 by decide), b7, a7]
      rw [c1, zcv_at]
      simp only [r44, r45]
      rw [f1, zci_at]
      simp only [q45, zl, cl, if_true]
      rw [r_isSaid, zci_at]
      by_cases hm : gMs l = true
      · rw [ms.trans hm, if_neg (by decide)]
        simp only [q44a, q44b, q46a]
        by_cases hp : gPn A = gPn B
        · rw [if_pos (by rw [hp])]
          unfold j_mustFit_122
          rw [zgd_at za, ca, q46a]
          exact rest tra (gAn A) _ τ2 f2 ((uGe.rf _).mo (fun _ => Nat.zero_le _)) (uFr.rf _ _) (uKe.rf _) R3 (by rw [if_neg (fun w => w.2 hp)])
        · rw [if_neg (fun w => hp (by have := nI_inj' (by have := a5.1; omega) (by have := b5.1; omega) w; rw [← a5.2, this, b5.2]))]
          obtain ⟨t', τ3, rr, ss, pp', p1, p2, ⟨p3, p4, p5⟩, p6, p7, p8⟩ := r_put (h0 := h0) (qs := qs) (ks := ks) (T := T) (x := gPn A) (u := (some (gPn B, 1), 0)) r tra (gAn A) (n + 1) (uUp v1 109) τ2 f2 R3 (by rw [uUp_ne v1 (by decide)]; omega) (by rw [uUp_ne v1 (by decide)]; omega) (by rw [uUp_ne v1 (by decide)]; omega) (by omega)
          have p1 : zF h0 qs ks T (n + 1) 77 [.ref h0, .int (nI tra), .int (nI (Γ.1 (gPn A))), .int (nI (Γ.1 (gPn B))), .int 1, .long 0] τ2 = _ := p1
          rw [p1, zci_at]
          exact rest t' _ _ τ3 p2 (uGe.ad _ p3 p4 (Nat.le_refl _) p5) p6 p7 p8 (by rw [if_pos ⟨hm, hp⟩])
      · have hm' : gMs l = false := by simpa using hm
        rw [ms.trans hm', if_pos (by decide)]
        unfold j_mustFit_122
        rw [zgd_at za, ca, q46a]
        exact rest tra (gAn A) _ τ2 f2 ((uGe.rf _).mo (fun _ => Nat.zero_le _)) (uFr.rf _ _) (uKe.rf _) R3 (by rw [if_neg (fun w => hm w.1)])
    · have e42 : τ.2.2.1 42 a = nI (uK k) := by have := hkA.2.1; rw [if_neg z] at this; exact this
      by_cases z2 : k = 2
      · subst z2
        have e42 : τ.2.2.1 42 a = 2 := e42
        refine ⟨τ, v, ?_, hV, (uGe.rf v).mo (fun _ => Nat.zero_le _), uFr.rf v τ, uKl.rf τ, ⟨rfl, fun _ _ h => h⟩, rfl, rfl, fun i x hx => by cases hx⟩
        rw [zE_mustFit]
        unfold b_mustFit
        simp only [zgd, za, ca, if_true, e42]
      · have k5 : k = 1 ∨ k = 3 ∨ k = 4 := by have := hkA.2.2; omega
        have n2 : ¬ τ.2.2.1 42 a = 2 := by rw [e42]; rcases k5 with rfl | rfl | rfl <;> decide
        have n4 : ¬ τ.2.2.1 42 a = 4 := by rw [e42]; rcases k5 with rfl | rfl | rfl <;> decide
        have eLr : yLs (.inner k () () l r : tY) = 1 := by show (if k = 0 then _ else if k = 2 then 0 else 1) = 1; rw [if_neg z, if_neg z2]
        have eF : gFi (.inner k () () l r) A B sc = [(sc, A, B)] := by show (if k = 0 then _ else if k = 2 then [] else [(sc, A, B)]) = _; rw [if_neg z, if_neg z2]
        have b116 : v 116 + yLs (.inner k () () l r : tY) ≤ 12000 := hL 116 (by decide)
        rw [eLr] at b116
        obtain ⟨c116, -⟩ := hV 116 (by decide)
        have z116 : zin (τ.1 116) 12000 = true := by rw [c116]; exact zin_n (by omega) (by decide)
        have cl116 : (τ.1 116).toNatClampNeg = v 116 := by rw [c116]; exact nI_clamp (by omega)
        have q1 : τ.1 116 + 1 = nI (v 116 + 1) := by rw [c116, nI_p1]
        obtain ⟨τ1, e1, e2, e3, ⟨e4, e5, e6, e7⟩, e8⟩ := r_frow (x1 := nI a) (x2 := nI b) (x3 := e) (x4 := g) hV (by omega)
        have lv : ∀ k, v k ≤ uUp v 116 k := uUp_le v 116
        rw [eF]
        refine ⟨τ1, uUp v 116, ?_, e2, fun k' => ?_, e3, e8.l, e8.ik, uUp_at v 116, eLr.symm, fun i x hx => ?_⟩
        · rw [zE_mustFit]
          unfold b_mustFit
          simp only [zA, zI] at e1
          simp only [zgd, zlet, za, ca, if_true, if_neg n2, if_neg n4, zA, zI, z116, cl116, q1, if_false, show ¬ (76 : Nat) = 75 by decide, show ¬ (77 : Nat) = 75 by decide, show ¬ (77 : Nat) = 76 by decide, show ¬ (78 : Nat) = 75 by decide, show ¬ (78 : Nat) = 76 by decide, show ¬ (78 : Nat) = 77 by decide]
          rw [← e1]
        · have := (uGe.up v 116) k'
          refine ⟨this.1, Nat.le_trans this.2 ?_⟩
          unfold uUp fitC
          by_cases w : k' = 116
          · subst w; rw [if_pos rfl]; show v 116 + (0 + 1) ≤ v 116 + yLs (.inner k () () l r); omega
          · rw [if_neg w]; exact Nat.add_le_add_left (Nat.zero_le _) _
        · cases i with
          | succ i => cases hx
          | zero =>
            have : (sc, A, B) = x := Option.some.inj hx
            subst this
            have eSA : gSy A = .inner k () () l r := hA.2.1
            have eSB : gSy B = .inner k () () l r := hB.2.1
            refine ⟨⟨by rw [uUp_at]; omega, a, b, e4, e5, ?_, ?_, eSA.trans eSB.symm, ?_, ?_⟩, hI.ik e8.ik⟩
            · show uTy Γ (uUp v 116) τ1 (gSy A) a A
              rw [eSA]; exact uTy.up lv e3 _ _ _ hA
            · show uTy Γ (uUp v 116) τ1 (gSy B) b B
              rw [eSB]; exact uTy.up lv e3 _ _ _ hB
            · show gMs (gSy A) = true
              rw [eSA]; rcases k5 with rfl | rfl | rfl <;> rfl
            · show uSc 200 CD Γ (uUp v 116) τ1 sc (τ1.2.2.1 77 (v 116)) (τ1.2.2.1 78 (v 116))
              rw [e6, e7]
              obtain ⟨⟨ch, w1, w2, w3⟩, w4⟩ := hS.up lv e3
              exact ⟨⟨ch, w1, by omega, w3⟩, w4⟩
end RMT
