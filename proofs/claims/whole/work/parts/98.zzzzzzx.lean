/-! the reference: through a C; count, formsOfCondition -/
section RCW
variable {α : Type} {K : Nat → Nat → α → Prop} {X : tT → Prop} {val : tT → α} {cmb : Nat → α → α → α} {vl : Nat → α → tT → α} {V : zSt} {pp : Nat → Int32} {lo N S P A cnt C : Nat}
/-- a method that goes through a C: what it does of a node by what it does of those within -/
theorem r_cw (hN : N ≤ 2100) (mo : ∀ m D D' F, K m D F → D ≤ D' → K m D' F) (hX : ∀ g d z a b, X (.inner g d z a b) → X a ∧ X b)
    (v20 : ∀ g d z a b, g = 20 ∨ g = 21 → val (.inner g d z a b) = vl g (val a) b) (vl0 : ∀ gl F, vl gl F .leaf = F) (vl1 : ∀ gl F d z a b, vl gl F (.inner 30 d z a b) = vl gl (cmb gl F (val a)) b)
    (two : ∀ gl m m0 mb D Da F Fa, gl = 20 ∨ gl = 21 → m < 2100 → V.2.2.1 6 m = nI gl → V.2.2.1 9 m = nI m0 → V.2.2.1 10 m = nI mb → K m0 D F → K mb Da Fa → K m (max D Da + 1) (cmb gl F Fa))
    (c22 : ∀ d z a m x D, m < 2100 → V.2.2.1 6 m = nI 22 → V.2.2.1 9 m = nI x → K x D (val a) → K m (D + 1) (val (.inner 22 d z a .leaf)))
    (c23 : ∀ d z m, m < 2100 → rTr pp V lo N S P A (.inner 23 d z .leaf .leaf) 0 0 m → K m C (val (.inner 23 d z .leaf .leaf)))
    (c24 : ∀ d z a b m, m < 2100 → d.1 < cnt → X (.inner 24 d z a b) → rTr pp V lo N S P A (.inner 24 d z a b) 0 0 m → K m C (val (.inner 24 d z a b)))
    (c25 : ∀ d z a b m, m < 2100 → pOk cnt d.2.2.2.1.2 → pOk cnt d.2.2.2.2.2 → X (.inner 25 d z a b) → rTr pp V lo N S P A (.inner 25 d z a b) 0 0 m → K m C (val (.inner 25 d z a b))) (t : tT) :
    (∀ (m : Nat), cWf cnt t false → X t → rTr pp V lo N S P A t 0 0 m → K m (C + kD t) (val t)) ∧
    (∀ (gl m0 m D : Nat) (F : α), gl = 20 ∨ gl = 21 → cWf cnt t true → X t → rTr pp V lo N S P A t gl m0 m → K m0 (C + D) F → K m (C + (max D (kH t) + kN t)) (vl gl F t)) := by
  induction t with
  | leaf =>
    refine ⟨fun m h => (by cases h), fun gl m0 m D F _ _ _ h hk => ?_⟩
    have e : m = m0 := h
    rw [e, vl0]
    exact mo _ _ _ _ hk (by show C + D ≤ C + (max D 0 + 0); omega)
  | inner g d z a b Ia Ib =>
    refine ⟨fun m h hx ht => ?_, fun gl m0 m D F hg h hx ht hk => ?_⟩
    · have hxx := hX _ _ _ _ _ hx
      rcases h with ⟨h, _⟩ | ⟨_, h⟩
      · cases h
      rcases h with ⟨hg, wa, wb⟩ | ⟨rfl, wa, rfl⟩ | ⟨rfl, rfl, rfl⟩ | ⟨rfl, w1⟩ | ⟨rfl, w1, w2⟩
      · rw [v20 g d z a b hg]
        have go : ∀ m1, rTr pp V lo N S P A a 0 0 m1 → rTr pp V lo N S P A b g m1 m → K m (C + (max (kD a) (kH b) + kN b)) (vl g (val a) b) := fun m1 t1 t2 => Ib.2 g m1 m (kD a) _ hg wb hxx.2 t2 (Ia.1 m1 wa hxx.1 t1)
        rcases hg with rfl | rfl
        · obtain ⟨m1, t1, t2⟩ := ht
          exact mo _ _ _ _ (go m1 t1 t2) (by show C + (max (kN a + kH a) (kH b) + kN b) ≤ C + ((kN a + kN b + 0) + (max (kH a) (kH b) + 0)); omega)
        · obtain ⟨m1, t1, t2⟩ := ht
          exact mo _ _ _ _ (go m1 t1 t2) (by show C + (max (kN a + kH a) (kH b) + kN b) ≤ C + ((kN a + kN b + 0) + (max (kH a) (kH b) + 0)); omega)
      · obtain ⟨t0, x, t1, t2⟩ := ht
        refine mo _ _ _ _ (c22 d z a m x _ (by have := t0.1.2; omega) t0.2.1 t1 (Ia.1 x wa hxx.1 t2)) ?_
        show C + (kN a + kH a) + 1 ≤ C + ((kN a + 0 + 0) + (max (kH a) 0 + 1))
        omega
      · exact mo _ _ _ _ (c23 d z m (by have := ht.1.1.2; omega) ht) (Nat.le_add_right _ _)
      · exact mo _ _ _ _ (c24 d z a b m (by have := ht.1.1.2; omega) w1 hx ht) (Nat.le_add_right _ _)
      · exact mo _ _ _ _ (c25 d z a b m (by have := ht.1.1.2; omega) w1 w2 hx ht) (Nat.le_add_right _ _)
    · have hxx := hX _ _ _ _ _ hx
      rcases h with ⟨_, rfl, wa, wb⟩ | ⟨h, _⟩
      · obtain ⟨m1, mb, ⟨b1, b2⟩, ⟨n0, _, n3, n4⟩, ta, tb⟩ := ht
        rw [vl1]
        have H := two gl m1 m0 mb _ _ F (val a) hg (by omega) n0 n3 n4 hk (Ia.1 mb wa hxx.1 ta)
        have H := mo _ _ (C + (max D (kD a) + 1)) _ H (by omega)
        refine mo _ _ _ _ (Ib.2 gl m1 m (max D (kD a) + 1) _ hg wb hxx.2 tb H) ?_
        show C + (max (max D (kN a + kH a) + 1) (kH b) + kN b) ≤ C + (max D (max (kH a) (kH b) + 0) + (kN a + kN b + 1))
        omega
      · cases h
end RCW
section RCF
variable {ks : Nat → Nat} {qs : List Nat} {T h0 len cnt lo N S P A : Nat} {V : zSt} {L env : List Nat} {kk pp ee f : Nat → Int32}
theorem fFm.r {τ : zSt} (fm : fFm V τ) {k : Nat} (h1 : k ≠ 40) (h2 : k ≠ 41) (m : Nat) : τ.2.2.1 k m = V.2.2.1 k m := congrFun (fm.2.2.1 k h1 h2) m
/-- count(c) -/
theorem r_count (hN : N ≤ 2100) (t : tT) (m : Nat) (wf : cWf cnt t false) (ht : rTr pp V lo N S P A t 0 0 m) : ∀ n τ, 1 + kD t ≤ n → fFm V τ → zF h0 qs ks T n 59 [.ref h0, .int (nI m)] τ = some (some (.int (nI (tAt t))), τ) := by
  have vA : ∀ gl F, (fun (gl : Nat) (F : Nat) (b : tT) => F + tAt b) gl F .leaf = F := fun _ _ => rfl
  refine (r_cw (α := Nat) (K := fun m D c => ∀ n τ, D ≤ n → fFm V τ → zF h0 qs ks T n 59 [.ref h0, .int (nI m)] τ = some (some (.int (nI c)), τ)) (X := fun _ => True) (val := tAt) (cmb := fun _ F Fa => F + Fa) (vl := fun _ F b => F + tAt b) (C := 1) (cnt := cnt) hN (fun m D D' F h hd n τ hn => h n τ (by omega)) (fun _ _ _ _ _ _ => ⟨trivial, trivial⟩) ?_ (fun _ _ => rfl) ?_ ?_ ?_ ?_ ?_ ?_ t).1 m wf trivial ht
  · rintro g d z a b (rfl | rfl) <;> rfl
  · intro gl F d z a b
    show F + (tAt a + tAt b) = F + tAt a + tAt b
    omega
  · intro gl m m0 mb D Da F Fa hg hm h6 h9 h10 H Ha n τ hn fm
    obtain ⟨n, rfl⟩ : ∃ n', n = n' + 1 := ⟨n - 1, by omega⟩
    rw [zE_count]
    unfold b_count j_count_22
    have e6 := (fm.r (k := 6) (by decide) (by decide) m).trans h6
    have e9 := (fm.r (k := 9) (by decide) (by decide) m).trans h9
    have e10 := (fm.r (k := 10) (by decide) (by decide) m).trans h10
    simp only [zgd, zin_n hm (by decide), if_true, nI_clamp (show m < 2 ^ 31 by omega), e6, e9, H n τ (by omega) fm, zci_at, e10, Ha n τ (by omega) fm, nI_add]
    rcases hg with rfl | rfl
    · rw [if_pos (by decide)]
    · rw [if_neg (by decide), if_pos (by decide)]
  · intro d z a m x D hm h6 h9 H n τ hn fm
    obtain ⟨n, rfl⟩ : ∃ n', n = n' + 1 := ⟨n - 1, by omega⟩
    rw [zE_count]
    unfold b_count
    have e6 := (fm.r (k := 6) (by decide) (by decide) m).trans h6
    have e9 := (fm.r (k := 9) (by decide) (by decide) m).trans h9
    simp only [zgd, zin_n hm (by decide), if_true, nI_clamp (show m < 2 ^ 31 by omega), e6, e9, H n τ (by omega) fm, zci_at]
    rw [if_neg (by decide), if_neg (by decide), if_pos (by decide)]
    rfl
  · intro d z m hm ht n τ hn fm
    obtain ⟨n, rfl⟩ : ∃ n', n = n' + 1 := ⟨n - 1, by omega⟩
    rw [zE_count]
    unfold b_count
    have e6 := (fm.r (k := 6) (by decide) (by decide) m).trans ht.1.2.1
    simp only [zgd, zin_n hm (by decide), if_true, nI_clamp (show m < 2 ^ 31 by omega), e6]
    rw [if_neg (by decide), if_neg (by decide), if_neg (by decide)]
    rfl
  · intro d z a b m hm _ _ ht n τ hn fm
    obtain ⟨n, rfl⟩ : ∃ n', n = n' + 1 := ⟨n - 1, by omega⟩
    rw [zE_count]
    unfold b_count
    have e6 := (fm.r (k := 6) (by decide) (by decide) m).trans ht.1.2.1
    simp only [zgd, zin_n hm (by decide), if_true, nI_clamp (show m < 2 ^ 31 by omega), e6]
    rw [if_neg (by decide), if_neg (by decide), if_neg (by decide)]
    rfl
  · intro d z a b m hm _ _ _ ht n τ hn fm
    obtain ⟨n, rfl⟩ : ∃ n', n = n' + 1 := ⟨n - 1, by omega⟩
    rw [zE_count]
    unfold b_count
    have e6 := (fm.r (k := 6) (by decide) (by decide) m).trans ht.1.2.1
    simp only [zgd, zin_n hm (by decide), if_true, nI_clamp (show m < 2 ^ 31 by omega), e6]
    rw [if_neg (by decide), if_neg (by decide), if_neg (by decide)]
    rfl
/-- a line of both sums of a comparison -/
theorem r_line2 {n x y : Nat} {s1 s2 : tS} {τ : zSt} (H : rLh T len cnt S P L env V kk pp ee f) (fm : gFm V τ) (p1 : pOk cnt s1.2) (p2 : pOk cnt s2.2) (g1 : sGd cnt s1.2) (g2 : sGd cnt s2.2) (u1 : rWs f pp ee (V.2.2.1 32) L env (sEv s1.2)) (u2 : rWs f pp ee (V.2.2.1 32) L env (sEv s2.2)) (h1 : rSm pp V S P x s1) (h2 : rSm pp V S P y s2) : ∃ τ1 τ2 τ3, zF h0 qs ks T (n + 2) 53 [.ref h0] τ = some (none, τ1) ∧ gFm V τ1 ∧ zF h0 qs ks T (n + 2) 55 [.ref h0, .int (nI x), .int 1] τ1 = some (none, τ2) ∧ gFm V τ2 ∧ zF h0 qs ks T (n + 2) 55 [.ref h0, .int (nI y), .int (-1)] τ2 = some (none, τ3) ∧ gFm V τ3 ∧ rLn τ3 (rMp (nuO (V.2.2.1 32)) (sLs (nFind f pp ee env) (-1) s2.2 (sLs (nFind f pp ee env) 1 s1.2 []))) ∧ τ3.2.1 64 = nLs T f pp ee (-1) s2.2 (nLs T f pp ee 1 s1.2 0) := by
  have hE : ∀ w u, nFind f pp ee env w = some u → u ∈ env := fun w u e => by
    obtain ⟨j, -, ej⟩ := nFind_mem e
    exact List.mem_of_getElem? ej
  obtain ⟨τ1, a1, a2, a3, a4⟩ := r_clr (h0 := h0) (qs := qs) (ks := ks) (T := T) (n := n + 1) (τ := τ)
  obtain ⟨τ2, b1, b2, b3, b4⟩ := r_addSum (h0 := h0) (qs := qs) (ks := ks) (n := n) (sn := 1) (M := []) H (fm.tr a3) a2 sNi.nil (fun q hq => by cases hq) p1 g1 u1 h1
  obtain ⟨τ3, c1, c2, c3, c4⟩ := r_addSum (h0 := h0) (qs := qs) (ks := ks) (n := n) (sn := -1) H b3 b2 (sLs.ni _ _ sNi.nil) (sLs.in hE _ _ (fun q hq => by cases hq)) p2 g2 u2 h2
  exact ⟨τ1, τ2, τ3, a1, fm.tr a3, b1, b3, c1, c3, c2, by rw [c4, b4, a4]⟩
theorem sLs_ok (ns : Nat → Option Nat) (hE : ∀ w u, ns w = some u → u ∈ env) (he : env.length ≤ 12) {p1 p2 : List tP} (g1 : sGd cnt p1) (g2 : sGd cnt p2) : sNi (sLs ns (-1) p2 (sLs ns 1 p1 [])) ∧ rIn (· ∈ env) (sLs ns (-1) p2 (sLs ns 1 p1 [])) ∧ (sLs ns (-1) p2 (sLs ns 1 p1 [])).length ≤ 12 ∧ sBd 3000 (sLs ns (-1) p2 (sLs ns 1 p1 [])) := by
  have h1 : sNi (sLs ns (-1) p2 (sLs ns 1 p1 [])) := sLs.ni _ _ (sLs.ni _ _ sNi.nil)
  have h2 : rIn (· ∈ env) (sLs ns (-1) p2 (sLs ns 1 p1 [])) := sLs.in hE _ _ (sLs.in hE _ _ (fun q hq => by cases hq))
  have h3 := h1.len h2
  have b1 := sLs.bd (ns := ns) (Or.inl rfl : (1 : Int32) = 1 ∨ (1 : Int32) = -1) p1 [] 0 (by have := g1.2; omega) (fun q hq => by cases hq)
  have b2 := sLs.bd (ns := ns) (Or.inr rfl : (-1 : Int32) = 1 ∨ (-1 : Int32) = -1) p2 _ _ (by have := g1.2; have := g2.2; omega) b1
  exact ⟨h1, h2, by omega, b2.mo (by have := g1.2; have := g2.2; omega)⟩
theorem gFm.of {τ τ' : zSt} (h : fFm V τ) (g : gFm τ τ') : fFm V τ' := h.tr g.f
set_option maxHeartbeats 1000000 in
/-- formsOfCondition(c) -/
theorem r_fcond (hN : N ≤ 2100) (hp0 : ∀ w, 0 ≤ pp w) (H : rLh T len cnt S P L env V kk pp ee f) (t : tT) (m : Nat) (wf : cWf cnt t false) (hg : tGd kk cnt t) (hu : rWs f pp ee (V.2.2.1 32) L env (cEv t)) (ht : rTr pp V lo N S P A t 0 0 m) : ∀ n τ, 4 + kD t ≤ n → fFm V τ → ∃ τ', zF h0 qs ks T n 60 [.ref h0, .int (nI m)] τ = some (none, τ') ∧ fFm V τ' ∧ τ'.1 52 = fCt pp (nFind f pp ee env) t (τ.1 52) ∧ τ'.1 65 = τ.1 65 := by
  refine (r_cw (α := Int32 → Int32) (K := fun m D F => ∀ n τ, D ≤ n → fFm V τ → ∃ τ', zF h0 qs ks T n 60 [.ref h0, .int (nI m)] τ = some (none, τ') ∧ fFm V τ' ∧ τ'.1 52 = F (τ.1 52) ∧ τ'.1 65 = τ.1 65) (X := fun t => tGd kk cnt t ∧ ∀ w, w ∈ cEv t → rUs f pp ee (V.2.2.1 32) L env w) (val := fun t => fCt pp (nFind f pp ee env) t) (cmb := fun _ F Fa => fun ff => Fa (F ff)) (vl := fun _ F b => fun ff => fCt pp (nFind f pp ee env) b (F ff)) (C := 4) (cnt := cnt) hN (fun m D D' F h hd n τ hn => h n τ (by omega)) ?_ ?_ (fun _ _ => rfl) ?_ ?_ ?_ ?_ ?_ ?_ t).1 m wf ⟨hg, hu⟩ ht
  · rintro g d z a b ⟨⟨-, -, ⟨h24, -⟩, ha, hb⟩, hu⟩
    by_cases c24 : g = 24 ∨ g = 25
    · obtain ⟨rfl, rfl⟩ := h24 c24
      exact ⟨⟨trivial, fun w hw => by cases hw⟩, trivial, fun w hw => by cases hw⟩
    · unfold cEv at hu
      rw [if_neg (fun z => c24 (Or.inl z)), if_neg (fun z => c24 (Or.inr z))] at hu
      exact ⟨⟨ha, fun w hw => hu w (List.mem_append_left _ hw)⟩, hb, fun w hw => hu w (List.mem_append_right _ hw)⟩
  · rintro g d z a b (rfl | rfl) <;> rfl
  · intro gl F d z a b
    rfl
  · intro gl m m0 mb D Da F Fa hg hm h6 h9 h10 H1 H2 n τ hn fm
    obtain ⟨n, rfl⟩ : ∃ n', n = n' + 1 := ⟨n - 1, by omega⟩
    obtain ⟨τ1, a1, a2, a3, a4⟩ := H1 n τ (by omega) fm
    obtain ⟨τ2, b1, b2, b3, b4⟩ := H2 n τ1 (by omega) a2
    rw [zE_formsOfCondition]
    unfold b_formsOfCondition j_formsOfCondition_22
    have e6 := (fm.r (k := 6) (by decide) (by decide) m).trans h6
    have e9 := (fm.r (k := 9) (by decide) (by decide) m).trans h9
    have e10 := (a2.r (k := 10) (by decide) (by decide) m).trans h10
    simp only [zgd, zin_n hm (by decide), if_true, nI_clamp (show m < 2 ^ 31 by omega), e6, e9, a1, zcv_at, e10, b1]
    refine ⟨τ2, ?_, b2, by rw [b3, a3], b4.trans a4⟩
    rcases hg with rfl | rfl
    · rw [if_pos (by decide)]
    · rw [if_neg (by decide), if_pos (by decide)]
  · intro d z a m x D hm h6 h9 H1 n τ hn fm
    obtain ⟨n, rfl⟩ : ∃ n', n = n' + 1 := ⟨n - 1, by omega⟩
    obtain ⟨τ1, a1, a2, a3, a4⟩ := H1 n τ (by omega) fm
    rw [zE_formsOfCondition]
    unfold b_formsOfCondition
    have e6 := (fm.r (k := 6) (by decide) (by decide) m).trans h6
    have e9 := (fm.r (k := 9) (by decide) (by decide) m).trans h9
    simp only [zgd, zin_n hm (by decide), if_true, nI_clamp (show m < 2 ^ 31 by omega), e6, e9, a1, zcv_at]
    rw [if_neg (by decide), if_neg (by decide), if_pos (by decide)]
    exact ⟨τ1, rfl, a2, a3, a4⟩
  · intro d z m hm ht n τ hn fm
    obtain ⟨n, rfl⟩ : ∃ n', n = n' + 1 := ⟨n - 1, by omega⟩
    rw [zE_formsOfCondition]
    unfold b_formsOfCondition
    have e6 := (fm.r (k := 6) (by decide) (by decide) m).trans ht.1.2.1
    simp only [zgd, zin_n hm (by decide), if_true, nI_clamp (show m < 2 ^ 31 by omega), e6]
    rw [if_neg (by decide), if_neg (by decide), if_neg (by decide), if_neg (by decide)]
    exact ⟨τ, rfl, fm, rfl, rfl⟩
  · rintro d z a b m hm - ⟨⟨-, -, ⟨h24, -⟩, -, -⟩, -⟩ ht n τ hn fm
    obtain ⟨rfl, rfl⟩ := h24 (Or.inl rfl)
    obtain ⟨n, rfl⟩ : ∃ n', n = n' + 1 := ⟨n - 1, by omega⟩
    rw [zE_formsOfCondition]
    unfold b_formsOfCondition
    have e6 := (fm.r (k := 6) (by decide) (by decide) m).trans ht.1.2.1
    simp only [zgd, zin_n hm (by decide), if_true, nI_clamp (show m < 2 ^ 31 by omega), e6]
    rw [if_neg (by decide), if_neg (by decide), if_neg (by decide), if_neg (by decide)]
    exact ⟨τ, rfl, fm, rfl, rfl⟩
  · rintro d z a b m hm w1 w2 ⟨⟨⟨g1, g2⟩, -, ⟨h24, -⟩, -, -⟩, hu⟩ ht n τ hn fm
    obtain ⟨rfl, rfl⟩ := h24 (Or.inr rfl)
    have hu : ∀ w, w ∈ sEv d.2.2.2.1.2 ++ sEv d.2.2.2.2.2 → rUs f pp ee (V.2.2.1 32) L env w := hu
    obtain ⟨t0, ⟨t8, _⟩, x, y, ⟨t1, t2⟩, s1, s2⟩ := ht
    obtain ⟨n, rfl⟩ : ∃ n', n = n' + 3 := ⟨n - 3, by omega⟩
    have hE : ∀ w u, nFind f pp ee env w = some u → u ∈ env := fun w u e => by
      obtain ⟨j, -, ej⟩ := nFind_mem e
      exact List.mem_of_getElem? ej
    have fmV : ∀ k, k ≠ 40 → k ≠ 41 → τ.2.2.1 k = V.2.2.1 k := fm.2.2.1
    have Hτ : rLh T len cnt S P L env τ kk pp ee f := ⟨H.1, H.2.1.keep (fmV 1 (by decide) (by decide)) (fmV 3 (by decide) (by decide)) (fmV 4 (by decide) (by decide)) (fmV 5 (by decide) (by decide)), by rw [fmV 32 (by decide) (by decide)]; exact H.2.2.1, H.2.2.2⟩
    have at' : rAt lo N S P A V τ := ⟨fun m _ _ => funext fun k => congrFun (fmV _ (by omega) (by omega)) m, fun k j a b _ => congrFun (fmV k (by omega) (by omega)) j, fun k j a b _ => congrFun (fmV k (by omega) (by omega)) j, fun m _ => funext fun k => congrFun (fmV _ (by omega) (by omega)) m⟩
    obtain ⟨τ1, τ2, τ3, l1, f1, l2, f2, l3, f3, l4, -⟩ := r_line2 (h0 := h0) (qs := qs) (ks := ks) (n := n) (τ := τ) Hτ (gFm.rf τ) w1 w2 g1 g2 (fun w hw => by rw [fmV 32 (by decide) (by decide)]; exact hu w (List.mem_append_left _ hw)) (fun w hw => by rw [fmV 32 (by decide) (by decide)]; exact hu w (List.mem_append_right _ hw)) (at'.sm s1 (Nat.le_refl _) (Nat.le_refl _)) (at'.sm s2 (Nat.le_refl _) (Nat.le_refl _))
    obtain ⟨k1, k2, k3, k4⟩ := sLs_ok (nFind f pp ee env) hE H.2.2.2.2 g1 g2
    have isf := r_isForm (h0 := h0) (qs := qs) (ks := ks) (T := T) (n := n + 1) (by have := H.1.1; omega) l4 (by rw [rMp_len]; omega)
    have er : rFa (rMp (nuO (τ.2.2.1 32)) (sLs (nFind f pp ee env) (-1) d.2.2.2.2.2 (sLs (nFind f pp ee env) 1 d.2.2.2.1.2 []))) = sFa (sDf (sL (nFind f pp ee env) d.2.2.2.1.2) (sL (nFind f pp ee env) d.2.2.2.2.2)) := by
      rw [sFa_pm (sDf_pm (nFind f pp ee env) d.2.2.2.1.2 d.2.2.2.2.2), ← sFa_mp (φ := nuO (τ.2.2.1 32))]
      refine rFa_s (K := 3000) (by decide) ⟨?_, fun q hq => ?_⟩ (fun q hq => ?_)
      · have e : (rMp (nuO (τ.2.2.1 32)) (sLs (nFind f pp ee env) (-1) d.2.2.2.2.2 (sLs (nFind f pp ee env) 1 d.2.2.2.1.2 []))).map Prod.fst = ((sLs (nFind f pp ee env) (-1) d.2.2.2.2.2 (sLs (nFind f pp ee env) 1 d.2.2.2.1.2 [])).map Prod.fst).map (nuO (τ.2.2.1 32)) := by
          unfold rMp
          rw [List.map_map, List.map_map]
          rfl
        rw [e]
        refine List.pairwise_map.mpr (k1.1.imp_of_mem (fun {u v} hu hv h => fun z => h ?_))
        obtain ⟨q, hq, rfl⟩ := List.mem_map.mp hu
        obtain ⟨r, hr, rfl⟩ := List.mem_map.mp hv
        exact Hτ.2.2.1.inj _ _ (H.2.2.2.1 _ (k2 q hq)) (H.2.2.2.1 _ (k2 r hr)) z
      · obtain ⟨p, hp, rfl⟩ := List.mem_map.mp hq
        exact k1.2 p hp
      · obtain ⟨p, hp, rfl⟩ := List.mem_map.mp hq
        exact k4 p hp
    rw [er] at isf
    have e6 := (fm.r (k := 6) (by decide) (by decide) m).trans t0.2.1
    have e9 : τ1.2.2.1 9 m = nI x := (congrFun (f1.2.2.1 9 (by decide) (by decide)) m).trans ((fm.r (by decide) (by decide) m).trans t1)
    have e10 : τ2.2.2.1 10 m = nI y := (congrFun (f2.2.2.1 10 (by decide) (by decide)) m).trans ((fm.r (by decide) (by decide) m).trans t2)
    have e8 : τ3.2.2.1 8 m = pp d.2.1 := (congrFun (f3.2.2.1 8 (by decide) (by decide)) m).trans ((fm.r (by decide) (by decide) m).trans t8)
    rw [show n + 3 = (n + 2) + 1 from rfl, zE_formsOfCondition]
    unfold b_formsOfCondition
    simp only [zgd, zin_n hm (by decide), if_true, nI_clamp (show m < 2 ^ 31 by omega), e6]
    rw [if_neg (by decide), if_neg (by decide), if_neg (by decide), if_pos (by decide)]
    rw [l1, zcv_at, e9, l2, zcv_at, e10, l3, zcv_at, isf, zci_at]
    have ef : fCt pp (nFind f pp ee env) (.inner 25 d z .leaf .leaf) (τ.1 52) = if sFa (sDf (sL (nFind f pp ee env) d.2.2.2.1.2) (sL (nFind f pp ee env) d.2.2.2.2.2)) = true then τ.1 52 else fMin (τ.1 52) (pp d.2.1) := rfl
    rw [ef]
    cases sFa (sDf (sL (nFind f pp ee env) d.2.2.2.1.2) (sL (nFind f pp ee env) d.2.2.2.2.2)) with
    | true =>
      rw [if_neg (show ¬ b01 true = 0 by decide), if_pos rfl]
      exact ⟨τ3, rfl, fm.tr f3.f, f3.1 52 (by decide), f3.1 65 (by decide)⟩
    | false =>
      rw [if_pos (show b01 false = 0 from rfl), if_neg (by decide), e8, r_wrong5 (n := n + 1) (hp0 _), zcv_at]
      refine ⟨_, rfl, (fm.tr f3.f).tr ⟨fun k a b c => zIn _ _ a, fun _ _ => rfl, fun _ _ _ => rfl, rfl⟩, ?_, ?_⟩
      · rw [zIe, f3.1 52 (by decide)]
      · rw [zIn _ _ (by decide)]
        exact f3.1 65 (by decide)
end RCF
