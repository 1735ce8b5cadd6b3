/-! run(), the reference: an E begins -/
section XRK
variable {pp kk ee f : Nat → Int32} {tE tN : Nat → tY} {L : List Nat} {V τ : zSt} {N S P A c n cnt len : Nat} {h : xmHp} {fr : List xmFr} {ks : Nat → Nat} {qs : List Nat} {T h0 m : Nat} {y : tY} {env : List Nat} {vs : List xmV} {k : Int32}
theorem zJ192 (τ : zSt) (v : Int32) (w : Int64) : (zJ (zI τ 192 v) 193 w).1 192 = v := zI_eq τ 192 v
theorem rOt_end {C : Nat} {e : Nat} {v : Int32} (I : rXa pp V N S P A τ c n h fr) (he : v = nI e) : rOt pp V N S P A (some (some (.int 0), zI τ 191 v)) C (.inl (e, n)) := ⟨0, _, rfl, Or.inl rfl, I.1.tr (xFm.i τ v (by decide)), by rw [zI_eq, he], (zI_ne (by decide)).trans I.2.2.2.2.2.2.2⟩
theorem rOt_val {C : Nat} {v : xmV} (I : rXa pp V N S P A τ c n h fr) (hc : c + xmW fr ≤ C) : rOt pp V N S P A (some (some (.int 0), zJ (zI τ 192 (nI v.1)) 193 v.2)) C (.inr (h, fr, n, .inr v)) := ⟨0, _, c, rfl, (I.i (by omega)).j, hc, rfl, (show (zI τ 192 (nI v.1)).1 192 = _ from zI_eq _ _ _), zJ_193 _ _⟩
theorem rOt_then {C : Nat} {x : Nat} {t : tT} (I : rXa pp V N S P A τ c n h fr) (hx : x < N) (tr : rTr pp V 0 N S P A t 0 0 x) (E : rEc (V.2.2.1 32) τ c env vs k) (hc : c + xmW fr ≤ C + 4) : rOt pp V N S P A (some (some (.int 1), zI (zI τ 194 (nI x)) 195 k)) C (.inr (h, fr, n, .inl (t, env, vs))) := by
  refine ⟨1, _, c, rfl, (I.i (by omega)).i (by omega), hc, rfl, x, ?_, hx, tr, ?_⟩
  · rw [zI_ne (by decide), zI_eq]
  · rw [zI_eq]
    exact E.kp (show rSk τ (zI (zI τ 194 (nI x)) 195 k) c from fun _ _ => ⟨rfl, rfl, rfl, rfl⟩) (Nat.le_refl _)
set_option maxHeartbeats 4000000 in
/-- **begun()** -/
theorem r_bg {t : tT} {nd : Nat} (X : rXs T len cnt S P kk pp ee f L V) (hN : N ≤ 2000) (hA : A ≤ 2000) (I : rXa pp V N S P A τ c n h fr) (w : xmE cnt kk f pp ee tE tN (V.2.2.1 32) L t env y) (hh : tH t ≤ 31) (H : xmH cnt kk f pp ee tE tN (V.2.2.1 32) L h) (hl : h.2.2.length < 20000) (hl2 : h.2.1.length < 20006) (hl1 : h.1.length + n ≤ 30000) (hfr : fr.length ≤ 5000) (hdp : xmDp fr ≤ 50) (En : xmEn tE tN h env vs) (tr : rTr pp V 0 N S P A t 0 0 nd) (E : rEc (V.2.2.1 32) τ c env vs k) (hc : c + 16 ≤ 260000) : rOt pp V N S P A (zF h0 qs ks T (m + 1310) 136 [.ref h0, .int (nI nd), .int k] τ) (c + xmW fr + 8) (xmBg T f pp ee h fr n env vs t) := by
  have wf := w.2.1.1
  have hnd := rTr_lt wf tr
  have T1 := X.2.2.2
  have hlen := X.1.2.2.2.2.2.2
  have he := w.l12
  have nod := w.2.2.1.1
  have hto := w.2.2.2.1
  have pP := w.2.1.2
  have h191 := I.2.2.2.2.2.2.1
  have zn : zin (nI nd) 2100 = true := zin_n (by omega) (by decide)
  have cn : (nI nd).toNatClampNeg = nd := nI_clamp (by omega)
  obtain ⟨r6, r9, r10, r11, r12⟩ := I.1.r6 nd
  have VALOF : ∀ {s : Nat} {ts : tS}, rSm pp V S P s ts → pO3 ts.2 → sGd cnt ts.2 → rWs f pp ee (V.2.2.1 32) L env (sEv ts.2) → gSo f pp ee tN env ts.2 → zF h0 qs ks T (m + 1309) 125 [.ref h0, .int (nI s), .int k] τ = some (some (.long (xmSm T f pp ee h env vs ts.2)), if xmB (xmSm T f pp ee h env vs ts.2) = true then τ else zI τ 191 2) := fun hs h3 hg hw hk => r_val (n := m + 1306) X I.1 (by omega) E H En I.2.2.2.1 (by omega) (by omega) nod hto (by omega) h191 hs h3 hg hw hk
  have GET : ∀ {w : Nat}, rUs f pp ee (V.2.2.1 32) L env w → ∃ i, zF h0 qs ks T (m + 1309) 122 [.ref h0, .int k, .int (V.2.2.1 32 w)] τ = some (some (.int (nI i)), τ) ∧ i < c ∧ τ.2.2.1 106 i = nI (xmGet f pp ee env vs w).1 ∧ τ.2.2.2 108 i = (xmGet f pp ee env vs w).2 := fun hu => r_get (n := m + 1308) I.1 (show c ≤ 260000 by omega) E En nod hto X.2.2.1.1 X.2.2.1.2 (by omega) hu
  have n191 : ¬ (zI τ 191 2).1 191 = 0 := by rw [zI_191]; decide
  -- an array by its NAME
  have ARR : ∀ {w : Nat}, rUs f pp ee (V.2.2.1 32) L env w → tN (gNu f pp ee env w) = yB 2 → ∃ i a, (xmGet f pp ee env vs w).2 = xmNi i ∧ h.2.1[i]? = some a ∧ xmLn h (xmGet f pp ee env vs w).2 = a.length ∧ h.2.1.getD (xmIx (xmGet f pp ee env vs w).2) [] = a := fun {w} hu ty => by
    have tv := (En.get hu).2.2
    rw [ty] at tv
    rcases tv with ⟨q, -⟩ | ⟨q, -⟩ | ⟨-, -, i, hi, ei⟩ | ⟨q, -⟩ | ⟨q, -⟩
    · exact absurd q (by decide)
    · exact absurd q (by decide)
    · obtain ⟨a, ea⟩ : ∃ a, h.2.1[i]? = some a := ⟨_, List.getElem?_eq_getElem hi⟩
      have eg : h.2.1.getD (xmIx (xmGet f pp ee env vs w).2) [] = a := by
        rw [ei, xmNi_ix (by omega), List.getD_eq_getElem?_getD, ea]
        rfl
      exact ⟨i, a, ei, ea, by unfold xmLn; rw [eg], eg⟩
    · exact absurd q (by decide)
    · exact absurd q (by decide)
  rw [zE_begun]
  unfold b_begun
  rw [zgd_at zn, cn, r6]
  cases t with
  | leaf => cases wf
  | inner g d z a b =>
  unfold xmBg
  rcases id wf with ⟨c', -⟩ | ⟨c', -⟩ | ⟨-, c'⟩
  · cases c'
  · cases c'
  rcases c' with ⟨c', -⟩ | ⟨c', -⟩ | ⟨c', -⟩ | ⟨c', -⟩ | ⟨c', -⟩ | ⟨c', -⟩ | ⟨c' | c', -⟩ | ⟨c' | c' | c', -⟩ | ⟨c' | c' | c', -⟩ | ⟨c', -⟩ | ⟨c', -⟩ | ⟨c', -⟩ | ⟨c', -⟩ | ⟨c', -⟩
  · -- let
    subst c'
    obtain ⟨⟨-, t0, -⟩, t3, x, x', ⟨t5, t6⟩, ta, tb⟩ := tr
    simp only [reduceIte, Nat.reduceEqDiff]
    obtain ⟨E1, E2⟩ := w.k1
    obtain ⟨dd, d1, d2⟩ := I.2.2.2.2.1
    have hdd := rFk.le fr dd d2
    have hu9 : d.1 + 1 < cnt := by
      rcases id wf with ⟨c', -⟩ | ⟨c', -⟩ | ⟨-, c'⟩
      · cases c'
      · cases c'
      rcases c' with ⟨-, c', -⟩ | ⟨c', -⟩ | ⟨c', -⟩ | ⟨c', -⟩ | ⟨c', -⟩ | ⟨c', -⟩ | ⟨c' | c', -⟩ | ⟨c' | c' | c', -⟩ | ⟨c' | c' | c', -⟩ | ⟨c', -⟩ | ⟨c', -⟩ | ⟨c', -⟩ | ⟨c', -⟩ | ⟨c', -⟩
      · exact c'
      all_goals cases c'
    have hu9 : d.1 + 1 < 2010 := by have h1 := X.1.2.2.2.2.2.2.1; have h2 := X.1.2.2.2.2.2.2.2; omega
    have K := tdS_kp τ c h.1.length dd 0 (nI nd) k
    obtain ⟨q1, q2, q3⟩ := tdS_at τ dd 0 (nI nd) k
    have I2 : rXa pp V N S P A (tdS τ dd 0 (nI nd) k) c n h (.inl (d.1 + 1, b, env, vs) :: fr) := by
      obtain ⟨F, ⟨a1, a2, a3, a4, a5⟩, bb, w', -, e1, e2, e3⟩ := id I
      exact ⟨F.tr (tdS_fm ..), ⟨a1, a2, a3, a4, a5⟩, bb.kp K (Nat.le_refl _), w'.kp (tdS_y ..), ⟨dd + 1, rfl, dd, nd, x', k, rfl, ⟨q1, q2, q3⟩, ⟨⟨hnd, hu9⟩, t3, t6, rTr_lt E2.2.1.1 tb, tb⟩, E.kp K.1 (Nat.le_refl _), rFk.kp K (Nat.le_refl _) fr dd (Nat.le_refl _) d2⟩, e1, e2, e3⟩
    rw [t0, if_pos (show nI 1 = (1 : Int32) from rfl), r_todo d1 (by omega), zcv_at, zgd_at zn, (I2.1.r6 nd).2.2.2.1, t5, r_then, zci_at, zgd_at (by decide)]
    exact rOt_then I2 (rTr_lt E1.2.1.1 ta) ta (E.kp K.1 (Nat.le_refl _)) (by show c + xmW fr ≤ _; omega)
  · -- let rec
    subst c'
    obtain ⟨⟨-, t0, -⟩, ⟨t3, t4⟩, x, x', ⟨t5, t6⟩, ta, tb⟩ := id tr
    simp only [reduceIte, Nat.reduceEqDiff]
    obtain ⟨-, E2, -⟩ := w.k2
    have rto : rTo (V.2.2.1 32) L (d.1 + 2) := by
      have q := w.1.2
      unfold rWo at q
      simp only [reduceIte, Nat.reduceEqDiff] at q
      exact q.1.1
    have ni : d.1 + 2 ∉ env := by
      have q := w.2.2.1.2.2
      unfold tW at q
      simp only [reduceIte, Nat.reduceEqDiff] at q
      exact q _ (List.mem_cons_self ..)
    have hcd : d.1 + 3 ≤ cnt := by
      have q := wf
      unfold tWf at q
      simp only [reduceIte, Nat.reduceEqDiff, or_false, or_self, false_or, false_and, true_and] at q
      omega
    have fv : xmFv h = (3, (τ.1 176).toInt64) := by rw [I.2.1.2.1]; rfl
    rw [t0, if_neg (show ¬ nI 2 = (1 : Int32) by decide), if_pos (show nI 2 = (2 : Int32) from rfl), zgd_at zn, r9, t3, zgd_at (zin_n (by omega) (by decide)), nI_clamp (by omega), I.1.1 32 (by decide), r_slot I.2.1.1 (by omega), zci_at]
    have I1 := I.sl (x1 := k) (x2 := V.2.2.1 32 (d.1 + 2)) (x3 := 3) (x4 := (τ.1 176).toInt64)
    have E1 : rEc (V.2.2.1 32) (slS τ c k (V.2.2.1 32 (d.1 + 2)) 3 (τ.1 176).toInt64) (c + 1) (env ++ [d.1 + 2]) (vs ++ [xmFv h]) (nI c) := by
      rw [fv]
      exact E.sn (L := L) (v := (3, (τ.1 176).toInt64)) X.2.2.1.1 hto rto ni En.1
    rw [r_fun I1.2.1.2.1 (by omega), zci_at]
    have I2 := I1.fn (fn := (.inner 2 d z a b, env ++ [d.1 + 2], vs ++ [xmFv h], [])) (m := nd) (s := nI c) (hd := -1) ⟨hnd, tr⟩ E1 rfl
    have I2 : rXa pp V N S P A (fnS (slS τ c k (V.2.2.1 32 (d.1 + 2)) 3 (τ.1 176).toInt64) h.1.length (nI nd) (nI c) (-1) 0) (c + 1) n (xmNf h (.inner 2 d z a b, env ++ [d.1 + 2], vs ++ [xmFv h], [])) fr := I2
    rw [zgd_at zn, (I2.1.r6 nd).2.2.2.2, t6, r_then, zci_at, zgd_at (by decide)]
    exact rOt_then I2 (rTr_lt E2.2.1.1 tb) tb (E1.kp (fnS_kp _ (c + 1) h.1.length 0 _ _ _ _).1 (Nat.le_refl _)) (by omega)
  · -- fun
    subst c'
    obtain ⟨⟨-, t0, -⟩, t3, x, t5, ta⟩ := id tr
    simp only [reduceIte, Nat.reduceEqDiff]
    have fv : xmFv h = (3, (τ.1 176).toInt64) := by rw [I.2.1.2.1]; rfl
    rw [t0, if_neg (show ¬ nI 3 = (1 : Int32) by decide), if_neg (show ¬ nI 3 = (2 : Int32) by decide), if_pos (show nI 3 = (3 : Int32) from rfl), r_is, zcv_at]
    have I1 : rXa pp V N S P A (zJ (zI τ 192 3) 193 (τ.1 176).toInt64) c n h fr := (I.i (by omega)).j
    rw [r_fun I1.2.1.2.1 (by omega), zci_at]
    have E1 : rEc (V.2.2.1 32) (zJ (zI τ 192 3) 193 (τ.1 176).toInt64) c env vs k := E.kp (show rSk τ (zJ (zI τ 192 3) 193 (τ.1 176).toInt64) c from fun _ _ => ⟨rfl, rfl, rfl, rfl⟩) (Nat.le_refl _)
    have I2 := I1.fn (fn := (.inner 3 d z a b, env, vs, [])) (m := nd) (s := k) (hd := -1) ⟨hnd, tr⟩ E1 rfl
    refine ⟨0, _, c, rfl, I2, by show c + xmW fr ≤ _; omega, rfl, ?_, ?_⟩
    · rw [fv, fnS_i (by decide)]
      show (zI τ 192 3).1 192 = _
      rw [zI_eq]
      rfl
    · rw [fv]
      show (zJ (zI τ 192 3) 193 (τ.1 176).toInt64).2.1 193 = _
      exact zJ_193 _ _
  · -- if
    subst c'
    obtain ⟨⟨-, t0, -⟩, -, x, x', x'', ⟨t3, t5, t6⟩, tc, tb⟩ := tr
    simp only [reduceIte, Nat.reduceEqDiff]
    obtain ⟨⟨g1, g2, g3, g4, g5, g6⟩, d', z', e1, e2, rfl, E1, E2, -⟩ := w.k4
    obtain ⟨tb1, tb2⟩ := tb
    have hk : kD a ≤ 1300 := g6.2
    have R := ((r_hold (h0 := h0) (qs := qs) (ks := ks) X hN I.1 (show c ≤ 260000 by omega) E H En I.2.2.2.1 (by omega) (by omega) nod hto (by omega) h191 a false 0 0 x g3 tc g1 g2 g4 g5 g6.1).1 rfl).2 (m + 1309) (by omega)
    rw [t0, if_neg (show ¬ nI 4 = (1 : Int32) by decide), if_neg (show ¬ nI 4 = (2 : Int32) by decide), if_neg (show ¬ nI 4 = (3 : Int32) by decide), if_pos (show nI 4 = (4 : Int32) from rfl), zgd_at zn, r9, t3]
    cases q : xmC T f pp ee h env vs a 0 with
    | none =>
      rw [q] at R
      obtain ⟨x0, -, e⟩ := R
      rw [e, zci_at, if_neg n191]
      exact rOt_end I rfl
    | some cb =>
      rw [q] at R
      have e : zF h0 qs ks T (m + 1309) 126 [.ref h0, .int (nI x), .int k] τ = some (some (.int (b01 cb)), τ) := R
      rw [e, zci_at, if_pos h191]
      unfold j_begun_215
      cases cb with
      | true =>
        rw [if_neg (show ¬ b01 true = 0 by decide), zgd_at zn, r11, t5, r_then, zci_at, if_neg (by decide)]
        exact rOt_then I (rTr_lt E1.2.1.1 tb1) tb1 E (by omega)
      | false =>
        rw [if_pos (show b01 false = 0 from rfl), zgd_at zn, r12, t6, r_then, zci_at, if_neg (by decide)]
        exact rOt_then I (rTr_lt E2.2.1.1 tb2) tb2 E (by omega)
  · -- assert
    subst c'
    obtain ⟨⟨-, t0, -⟩, -, x, x', ⟨t3, t5⟩, tc, tb⟩ := tr
    simp only [reduceIte, Nat.reduceEqDiff]
    obtain ⟨⟨g1, g2, g3, g4, g5, g6⟩, E1⟩ := w.k5
    have hk : kD a ≤ 1300 := g6.2
    have R := ((r_hold (h0 := h0) (qs := qs) (ks := ks) X hN I.1 (show c ≤ 260000 by omega) E H En I.2.2.2.1 (by omega) (by omega) nod hto (by omega) h191 a false 0 0 x g3 tc g1 g2 g4 g5 g6.1).1 rfl).2 (m + 1309) (by omega)
    rw [t0, if_neg (show ¬ nI 5 = (1 : Int32) by decide), if_neg (show ¬ nI 5 = (2 : Int32) by decide), if_neg (show ¬ nI 5 = (3 : Int32) by decide), if_neg (show ¬ nI 5 = (4 : Int32) by decide), if_pos (show nI 5 = (5 : Int32) from rfl), zgd_at zn, r9, t3]
    cases q : xmC T f pp ee h env vs a 0 with
    | none =>
      rw [q] at R
      obtain ⟨x0, -, e⟩ := R
      rw [e, zci_at, if_neg n191]
      unfold j_begun_256
      rw [if_neg n191]
      exact rOt_end I rfl
    | some cb =>
      rw [q] at R
      have e : zF h0 qs ks T (m + 1309) 126 [.ref h0, .int (nI x), .int k] τ = some (some (.int (b01 cb)), τ) := R
      rw [e, zci_at, if_pos h191]
      unfold j_begun_256
      cases cb with
      | true =>
        rw [if_neg (show ¬ b01 true = 0 by decide), if_pos h191, zgd_at zn, cn, r11, t5, r_then, zci_at, if_neg (by decide)]
        exact rOt_then I (rTr_lt E1.2.1.1 tb) tb E (by omega)
      | false =>
        rw [if_pos (show b01 false = 0 from rfl), zlet, if_neg (show ¬ (zI τ 191 3).1 191 = 0 by rw [zI_191]; decide)]
        exact rOt_end I rfl
  · -- set
    subst c'
    obtain ⟨⟨-, t0, -⟩, ⟨-, t3⟩, x, x', x'', ⟨t4, t5, t6⟩, s1, s2, ta⟩ := tr
    simp only [reduceIte, Nat.reduceEqDiff]
    obtain ⟨⟨k1, ⟨k2, k3⟩, k4, k5, k6⟩, E1⟩ := w.k6
    have v1 := VALOF s1 pP.2.2.2.2.1.1 pP.2.2.1.1.1 k5 k2
    have v2 := VALOF s2 pP.2.2.2.2.1.2.1 pP.2.2.1.1.2 k6 k3
    obtain ⟨j, g1, g2, g3, g4⟩ := GET k4
    obtain ⟨i, arr, ei, ea, el, eg⟩ := ARR k4 k1
    have il := xget_lt ea
    obtain ⟨⟨y1, y2⟩, y3⟩ := I.2.2.2.1.1 i arr ea
    have hal := (H.2.1.1 arr (List.mem_of_getElem? ea)).1
    have htot := H.2.1.2
    have hof := xmOf_bd ea
    have hcd : d.1 + 1 < cnt := by
      have q := wf
      unfold tWf at q
      simp only [reduceIte, Nat.reduceEqDiff, or_false, or_self, false_or, false_and, true_and] at q
      omega
    rw [t0, if_neg (show ¬ nI 6 = (1 : Int32) by decide), if_neg (show ¬ nI 6 = (2 : Int32) by decide), if_neg (show ¬ nI 6 = (3 : Int32) by decide), if_neg (show ¬ nI 6 = (4 : Int32) by decide), if_neg (show ¬ nI 6 = (5 : Int32) by decide), if_pos (show nI 6 = (6 : Int32) from rfl), zgd_at zn, r10, t4, v1, zcl_at']
    rw [el, eg]
    generalize xmSm T f pp ee h env vs d.2.2.2.1.2 = p1 at v1 ⊢
    generalize xmSm T f pp ee h env vs d.2.2.2.2.2 = p2 at v2 ⊢
    by_cases b1 : xmB p1 = true
    · rw [if_pos b1, if_pos b1, if_pos h191, zgd_at zn, r9, t3, zgd_at (zin_n (by omega) (by decide)), nI_clamp (by omega), I.1.1 32 (by decide), g1, zci_at, zgd_at (zin_n (by omega) (by decide)), nI_clamp (by omega), g4, ei, xmNi_32]
      have zi : zin (nI i) 21000 = true := zin_n (by omega) (by decide)
      have ci : (nI i).toNatClampNeg = i := nI_clamp (by omega)
      by_cases b2 : p1 < 0
      · rw [if_pos ((lg_lt p1 0).mpr b2), if_neg (fun q => absurd b2 (Int64.not_lt.mpr q.1))]
        exact rOt_end I rfl
      · rw [if_neg (fun q => b2 ((lg_lt p1 0).mp q)), zgd_at zi, ci, y2]
        by_cases b3 : p1 < xmNi arr.length
        · rw [if_pos (show lg_cmp p1 ((nI arr.length).toInt64) < 0 from (lg_lt p1 (xmNi arr.length)).mpr b3), if_pos ⟨Int64.not_lt.mp b2, b3⟩, zgd_at zn, r11, t5, v2, zcl_at']
          by_cases b4 : xmB p2 = true
          · rw [if_pos b4, if_pos b4, if_pos h191]
            obtain ⟨q, eq⟩ : ∃ q : Nat, p1.toInt = (q : Int) := ⟨p1.toInt.toNat, by
              have z := Int64.not_lt.mp b2
              rw [Int64.le_iff_toInt_le] at z
              have : (0 : Int64).toInt = 0 := rfl
              omega⟩
            have hq : q < arr.length := by
              rw [Int64.lt_iff_toInt_lt, xmNi_int (by omega)] at b3
              omega
            obtain ⟨x32, xix⟩ := x_i32 eq (by omega)
            have y1' : τ.2.2.1 113 i = nI (xmOf h.2.1 i) := y1
            rw [xmNi_ix (by omega), xix, x32, zgd_at zi, y1', nI_add, zgd_at (zin_n (by omega) (by decide)), nI_clamp (by omega), zlet, zgd_at zn]
            have I2 : rXa pp V N S P A (zG τ 115 (vp_updL (τ.2.2.2 115) (xmOf h.2.1 i + q) p2)) c n (h.1, h.2.1.set i (arr.set q p2), h.2.2) fr := by
              refine I.y (I.1.tr ⟨fun _ _ => rfl, fun _ _ => rfl, fun _ _ _ => rfl, fun k' hk' => if_neg (by omega)⟩) rfl ⟨by show τ.1 180 = nI (h.2.1.set i (arr.set q p2)).length; rw [List.length_set]; exact I.2.1.2.2.1, ?_, I.2.1.2.2.2.2⟩ (fun _ _ => rfl) (fun _ _ => rfl) rfl (I.2.2.2.1.set ea hq)
              show τ.1 181 = nI ((h.2.1.set i (arr.set q p2)).map List.length).sum
              rw [sum_set _ _ _ (by rw [List.getD_eq_getElem?_getD, ea, List.length_set]; rfl)]
              exact I.2.1.2.2.2.1
            rw [(I2.1.r6 nd).2.2.2.2, t6, r_then, zci_at, zgd_at (by decide)]
            exact rOt_then I2 (rTr_lt E1.2.1.1 ta) ta (E.kp (show rSk τ (zG τ 115 (vp_updL (τ.2.2.2 115) (xmOf h.2.1 i + q) p2)) c from fun _ _ => ⟨rfl, rfl, rfl, rfl⟩) (Nat.le_refl _)) (by omega)
          · rw [if_neg b4, if_neg b4, if_neg n191]
            exact rOt_end I rfl
        · rw [if_neg (show ¬ lg_cmp p1 ((nI arr.length).toInt64) < 0 from fun q => b3 ((lg_lt p1 (xmNi arr.length)).mp q)), if_neg (fun q => b3 q.2)]
          exact rOt_end I rfl
    · rw [if_neg b1, if_neg b1, if_neg n191]
      exact rOt_end I rfl
  · -- new
    subst c'
    obtain ⟨⟨-, t0, -⟩, x, t4, s1⟩ := tr
    simp only [reduceIte, Nat.reduceEqDiff]
    have g := w.1.1
    have rr := w.1.2
    unfold gOk at g
    unfold rWo at rr
    simp only [reduceIte, Nat.reduceEqDiff, or_false, or_self, false_or] at g rr
    have v1 := VALOF s1 pP.2.2.2.2.1.1 pP.2.2.1.1.1 rr.1 g.2
    have htot := H.2.1.2
    rw [t0, if_neg (show ¬ nI 7 = (1 : Int32) by decide), if_neg (show ¬ nI 7 = (2 : Int32) by decide), if_neg (show ¬ nI 7 = (3 : Int32) by decide), if_neg (show ¬ nI 7 = (4 : Int32) by decide), if_neg (show ¬ nI 7 = (5 : Int32) by decide), if_neg (show ¬ nI 7 = (6 : Int32) by decide), if_pos (show nI 7 = (7 : Int32) from rfl), zgd_at zn, r10, t4, v1, zcl_at']
    generalize xmSm T f pp ee h env vs d.2.2.2.1.2 = p1 at v1 ⊢
    by_cases b1 : xmB p1 = true
    · rw [if_pos b1, if_pos b1, if_pos h191, zE_newArray]
      unfold b_newArray
      have h181 := I.2.1.2.2.2.1
      have h180 := I.2.1.2.2.1
      have ENDN : ∀ e : Nat, rOt pp V N S P A (zci (some (some (.int 0), zI τ 191 (nI e))) fun r85 s83 => zcv (zF h0 qs ks T (m + 1309) 128 [.ref h0, .int 2, .long r85.toInt64] s83) fun s86 => some (some (.int 0), s86)) (c + xmW fr + 8) (.inl (e, n)) := fun e => by
        rw [zci_at, r_is, zcv_at]
        exact ⟨0, _, rfl, Or.inl rfl, I.1.tr ((xFm.i τ (k := 191) (nI e) (by decide)).tr ((xFm.i (zI τ 191 (nI e)) (k := 192) 2 (by decide)).tr (xFm.jj _ _))), by rw [zJI (by decide), zI_eq], by rw [zJI (by decide), zI_ne (by decide)]; exact I.2.2.2.2.2.2.2⟩
      by_cases b2 : p1 < 0
      · rw [if_neg (fun q => absurd b2 (Int64.not_lt.mpr ((lg_ge p1 0).mp q))), if_pos b2, zlet]
        exact ENDN 6
      · rw [if_pos ((lg_ge p1 0).mpr (Int64.not_lt.mp b2)), if_neg b2]
        unfold j_newArray_36
        by_cases b3 : (1000 : Int64) < p1
        · rw [if_pos ((lg_gt _ _).mpr b3), if_pos (Or.inl b3), zlet]
          exact ENDN 2
        · rw [if_neg (fun q => b3 ((lg_gt _ _).mp q))]
          obtain ⟨q, eq⟩ : ∃ q : Nat, p1.toInt = (q : Int) := ⟨p1.toInt.toNat, by
            have z := Int64.not_lt.mp b2
            rw [Int64.le_iff_toInt_le] at z
            have : (0 : Int64).toInt = 0 := rfl
            omega⟩
          have hq : q ≤ 1000 := by
            have z := Int64.not_lt.mp b3
            rw [Int64.le_iff_toInt_le, show (1000 : Int64).toInt = 1000 from rfl] at z
            omega
          obtain ⟨x32, xix⟩ := x_i32 eq (by omega)
          rw [xix, h181]
          have su : ((nI (xmTot h)).toInt64 + p1).toInt = (xmTot h + q : Nat) := by
            rw [j_add (by rw [Int32.toInt_toInt64, nI_toInt (by omega)]; omega) (by rw [Int32.toInt_toInt64, nI_toInt (by omega)]; omega), Int32.toInt_toInt64, nI_toInt (by omega), eq]
            omega
          by_cases b4 : 10000 < xmTot h + q
          · rw [if_neg (fun w' => by
              have z := (lg_le _ _).mp w'
              rw [Int64.le_iff_toInt_le, su, show (10000 : Int64).toInt = 10000 from rfl] at z
              omega), if_pos (Or.inr b4), zlet]
            exact ENDN 2
          · rw [if_pos ((lg_le _ _).mpr (by rw [Int64.le_iff_toInt_le, su, show (10000 : Int64).toInt = 10000 from rfl]; omega)), if_neg (fun w' => w'.elim b3 b4), h180]
            have z8 : zin (nI h.2.1.length) 21000 = true := zin_n (by omega) (by decide)
            have c8 : (nI h.2.1.length).toNatClampNeg = h.2.1.length := nI_clamp (by omega)
            rw [zgd_at z8, c8, zlet]
            have e180 : (zA τ 113 (upd (τ.2.2.1 113) h.2.1.length (nI (xmTot h)))).1 180 = nI h.2.1.length := h180
            rw [e180, zgd_at z8, c8, x32, zlet]
            obtain ⟨gg, g1, g2, g3⟩ := r_na69 (h0 := h0) (qs := qs) (ks := ks) (T := T) (m := m + 1308) (q := xmTot h) eq hq htot q 0 T (zA (zA τ 113 (upd (τ.2.2.1 113) h.2.1.length (nI (xmTot h)))) 114 (upd ((zA τ 113 (upd (τ.2.2.1 113) h.2.1.length (nI (xmTot h)))).2.2.1 114) h.2.1.length (nI q))) (by omega) (by omega) h181
            have g1' := g1
            rw [show nI 0 = (0 : Int32) from rfl] at g1'
            rw [g1', zci_at, r_is, zcv_at]
            have e8 : (zA (zA τ 113 (upd (τ.2.2.1 113) h.2.1.length (nI (xmTot h)))) 114 (upd ((zA τ 113 (upd (τ.2.2.1 113) h.2.1.length (nI (xmTot h)))).2.2.1 114) h.2.1.length (nI q))).1 180 = nI h.2.1.length := h180
            rw [e8, nI_pm, nI_p1]
            have r113 : (zI (zI (zG (zA (zA τ 113 (upd (τ.2.2.1 113) h.2.1.length (nI (xmTot h)))) 114 (upd ((zA τ 113 (upd (τ.2.2.1 113) h.2.1.length (nI (xmTot h)))).2.2.1 114) h.2.1.length (nI q))) 115 gg) 181 (nI (xmTot h + q))) 180 (nI (h.2.1.length + 1))).2.2.1 113 = upd (τ.2.2.1 113) h.2.1.length (nI (xmTot h)) := rfl
            have r114 : (zI (zI (zG (zA (zA τ 113 (upd (τ.2.2.1 113) h.2.1.length (nI (xmTot h)))) 114 (upd ((zA τ 113 (upd (τ.2.2.1 113) h.2.1.length (nI (xmTot h)))).2.2.1 114) h.2.1.length (nI q))) 115 gg) 181 (nI (xmTot h + q))) 180 (nI (h.2.1.length + 1))).2.2.1 114 = upd (τ.2.2.1 114) h.2.1.length (nI q) := rfl
            have r115 : (zI (zI (zG (zA (zA τ 113 (upd (τ.2.2.1 113) h.2.1.length (nI (xmTot h)))) 114 (upd ((zA τ 113 (upd (τ.2.2.1 113) h.2.1.length (nI (xmTot h)))).2.2.1 114) h.2.1.length (nI q))) 115 gg) 181 (nI (xmTot h + q))) 180 (nI (h.2.1.length + 1))).2.2.2 115 = gg := rfl
            have ln : (h.2.1 ++ [List.replicate q (0 : Int64)]).length = h.2.1.length + 1 := by rw [List.length_append]; rfl
            have I2 : rXa pp V N S P A (zI (zI (zG (zA (zA τ 113 (upd (τ.2.2.1 113) h.2.1.length (nI (xmTot h)))) 114 (upd ((zA τ 113 (upd (τ.2.2.1 113) h.2.1.length (nI (xmTot h)))).2.2.1 114) h.2.1.length (nI q))) 115 gg) 181 (nI (xmTot h + q))) 180 (nI (h.2.1.length + 1))) c n (h.1, h.2.1 ++ [List.replicate q 0], h.2.2) fr := by
              refine I.y ⟨fun k' hk' => ?_, fun k' hk' => ?_, fun k' h1 h2 => I.1.2.2.1 k' h1 h2, fun k' hk' => ?_⟩ rfl ⟨?_, ?_, ?_⟩ (fun j' hj' => ?_) (fun k' hk' => ?_) rfl ⟨fun i' b' hb' => ?_, fun i' b' hb' => I.2.2.2.1.2 i' b' hb'⟩
              · show (if k' = 114 then _ else if k' = 113 then _ else τ.2.2.1 k') = _
                rw [if_neg (by omega), if_neg (by omega)]
                exact I.1.1 k' hk'
              · rw [zI_ne (fun w' => hk' (by rw [w']; decide)), zI_ne (fun w' => hk' (by rw [w']; decide))]
                exact I.1.2.1 k' hk'
              · show (if k' = 115 then _ else τ.2.2.2 k') = _
                rw [if_neg (by omega)]
                exact I.1.2.2.2 k' hk'
              · rw [zI_eq]; exact congrArg nI ln.symm
              · rw [zI_ne (by decide), zI_eq]
                have q' := xmTot_ap h (List.replicate q 0)
                rw [List.length_replicate] at q'
                rw [q']
              · rw [zI_ne (by decide), zI_ne (by decide)]; exact I.2.1.2.2.2.2
              · have n1 : j' ≠ 180 := fun w' => by rw [w'] at hj'; exact absurd hj' (by decide)
                have n2 : j' ≠ 181 := fun w' => by rw [w'] at hj'; exact absurd hj' (by decide)
                rw [zI_ne n1, zI_ne n2]
                rfl
              · show (if k' = 114 then _ else if k' = 113 then _ else τ.2.2.1 k') = _
                rw [if_neg (by omega), if_neg (by omega)]
              · have hb' : (h.2.1 ++ [List.replicate q (0 : Int64)])[i']? = some b' := hb'
                rw [r113, r114, r115]
                show ((_ = nI (xmOf (h.2.1 ++ [List.replicate q (0 : Int64)]) i')) ∧ _) ∧ ∀ (k' : Nat) (x' : Int64), b'[k']? = some x' → gg (xmOf (h.2.1 ++ [List.replicate q (0 : Int64)]) i' + k') = x'
                by_cases ci' : i' < h.2.1.length
                · rw [List.getElem?_append_left ci'] at hb'
                  obtain ⟨⟨y1, y2⟩, y3⟩ := I.2.2.2.1.1 i' b' hb'
                  have eo : xmOf (h.2.1 ++ [List.replicate q (0 : Int64)]) i' = xmOf h.2.1 i' := by
                    unfold xmOf
                    rw [List.take_append_of_le_length (by omega)]
                  have hob := xmOf_bd hb'
                  rw [eo]
                  have ni' : ¬ i' = h.2.1.length := by omega
                  refine ⟨⟨by simp only [upd, if_neg ni']; exact y1, by simp only [upd, if_neg ni']; exact y2⟩, fun k' x' ex => ?_⟩
                  have hk' := xget_lt ex
                  rw [g2 _ (Or.inl (by omega))]
                  exact y3 k' x' ex
                · have hi' := xget_lt hb'
                  rw [ln] at hi'
                  have ei' : i' = h.2.1.length := by omega
                  subst ei'
                  rw [List.getElem?_append_right (Nat.le_refl _), Nat.sub_self] at hb'
                  injection hb' with hb'
                  subst hb'
                  have eo : xmOf (h.2.1 ++ [List.replicate q (0 : Int64)]) h.2.1.length = xmTot h := by
                    rw [← xmOf_all]
                    unfold xmOf
                    rw [List.take_append_of_le_length (Nat.le_refl _)]
                  rw [eo, List.length_replicate]
                  refine ⟨⟨by simp only [upd, if_true], by simp only [upd, if_true]⟩, fun k' x' ex => ?_⟩
                  have hk' := xget_lt ex
                  rw [List.length_replicate] at hk'
                  rw [g3 _ (by omega) (by omega)]
                  exact (List.eq_of_mem_replicate (List.mem_of_getElem? ex)).symm
            exact rOt_val (v := (2, xmNi h.2.1.length)) I2 (by omega)
    · rw [if_neg b1, if_neg b1, if_neg n191]
      exact rOt_end I rfl
  · -- S
    subst c'
    obtain ⟨⟨-, t0, -⟩, x, t4, s1⟩ := tr
    simp only [reduceIte, Nat.reduceEqDiff]
    have g := w.1.1
    have rr := w.1.2
    unfold gOk at g
    unfold rWo at rr
    simp only [reduceIte, Nat.reduceEqDiff, or_false, or_self, false_or] at g rr
    have sv := r_sv (m := m + 1305) (h0 := h0) (qs := qs) (ks := ks) (T := T) X I.1 (show c ≤ 260000 by omega) E H En I.2.2.2.1 (by omega) (by omega) nod hto (by omega) h191 s1 pP.2.2.2.2.1.1 pP.2.2.1.1.1 rr.1 g.2
    rw [t0, if_neg (show ¬ nI 10 = (1 : Int32) by decide), if_neg (show ¬ nI 10 = (2 : Int32) by decide), if_neg (show ¬ nI 10 = (3 : Int32) by decide), if_neg (show ¬ nI 10 = (4 : Int32) by decide), if_neg (show ¬ nI 10 = (5 : Int32) by decide), if_neg (show ¬ nI 10 = (6 : Int32) by decide), if_neg (show ¬ nI 10 = (7 : Int32) by decide), if_neg (show ¬ nI 10 = (8 : Int32) by decide), if_neg (show ¬ nI 10 = (9 : Int32) by decide), if_pos (show nI 10 = (10 : Int32) from rfl), zgd_at zn, r10, t4, sv, zcv_at]
    by_cases ci : isN d.2.2.2.1.2 = true
    · rw [if_pos ci, if_pos ci]
      exact rOt_val I (by omega)
    · rw [if_neg ci, if_neg ci]
      by_cases cb : xmB (xmSm T f pp ee h env vs d.2.2.2.1.2) = true
      · rw [if_pos cb, if_pos cb]
        exact rOt_val (v := (0, xmSm T f pp ee h env vs d.2.2.2.1.2)) I (by omega)
      · rw [if_neg cb, if_neg cb]
        exact ⟨0, _, rfl, Or.inl rfl, I.1.tr ((xFm.i τ (k := 191) 2 (by decide)).tr ((xFm.i (zI τ 191 2) (k := 192) 0 (by decide)).tr (xFm.jj _ _))), by rw [zJI (by decide), zI_eq]; rfl, by rw [zJI (by decide), zI_ne (by decide)]; exact I.2.2.2.2.2.2.2⟩
  · -- true
    subst c'
    obtain ⟨-, t0, -⟩ := tr
    simp only [reduceIte, Nat.reduceEqDiff]
    rw [t0, if_neg (show ¬ nI 8 = (1 : Int32) by decide), if_neg (show ¬ nI 8 = (2 : Int32) by decide), if_neg (show ¬ nI 8 = (3 : Int32) by decide), if_neg (show ¬ nI 8 = (4 : Int32) by decide), if_neg (show ¬ nI 8 = (5 : Int32) by decide), if_neg (show ¬ nI 8 = (6 : Int32) by decide), if_neg (show ¬ nI 8 = (7 : Int32) by decide), if_pos (show nI 8 = (8 : Int32) from rfl), zgd_at zn, if_pos (show nI 8 = (8 : Int32) from rfl)]
    unfold j_begun_455
    rw [r_is, zcv_at]
    exact rOt_val (v := (1, 1)) I (by omega)
  · -- false
    subst c'
    obtain ⟨-, t0, -⟩ := tr
    simp only [reduceIte, Nat.reduceEqDiff]
    rw [t0, if_neg (show ¬ nI 9 = (1 : Int32) by decide), if_neg (show ¬ nI 9 = (2 : Int32) by decide), if_neg (show ¬ nI 9 = (3 : Int32) by decide), if_neg (show ¬ nI 9 = (4 : Int32) by decide), if_neg (show ¬ nI 9 = (5 : Int32) by decide), if_neg (show ¬ nI 9 = (6 : Int32) by decide), if_neg (show ¬ nI 9 = (7 : Int32) by decide), if_neg (show ¬ nI 9 = (8 : Int32) by decide), if_pos (show nI 9 = (9 : Int32) from rfl), zgd_at zn, if_neg (show ¬ nI 9 = (8 : Int32) by decide)]
    unfold j_begun_455
    rw [r_is, zcv_at]
    exact rOt_val (v := (1, 0)) I (by omega)
  · -- nil
    subst c'
    obtain ⟨-, t0, -⟩ := tr
    simp only [reduceIte, Nat.reduceEqDiff, or_self]
    rw [t0, if_neg (show ¬ nI 17 = (1 : Int32) by decide), if_neg (show ¬ nI 17 = (2 : Int32) by decide), if_neg (show ¬ nI 17 = (3 : Int32) by decide), if_neg (show ¬ nI 17 = (4 : Int32) by decide), if_neg (show ¬ nI 17 = (5 : Int32) by decide), if_neg (show ¬ nI 17 = (6 : Int32) by decide), if_neg (show ¬ nI 17 = (7 : Int32) by decide), if_neg (show ¬ nI 17 = (8 : Int32) by decide), if_neg (show ¬ nI 17 = (9 : Int32) by decide), if_neg (show ¬ nI 17 = (10 : Int32) by decide), if_neg (show ¬ nI 17 = (11 : Int32) by decide), if_neg (show ¬ nI 17 = (12 : Int32) by decide), if_neg (show ¬ nI 17 = (13 : Int32) by decide), if_neg (show ¬ nI 17 = (14 : Int32) by decide), if_neg (show ¬ nI 17 = (15 : Int32) by decide), if_neg (show ¬ nI 17 = (16 : Int32) by decide), if_pos (show nI 17 = (17 : Int32) from rfl), r_is, zcv_at]
    exact rOt_val (v := (4, -1)) I (by omega)
  · -- *
    subst c'
    obtain ⟨⟨-, t0, -⟩, -, x, x', ⟨t4, t5⟩, s1, s2⟩ := tr
    simp only [reduceIte, Nat.reduceEqDiff, true_or, or_true]
    have g := w.1.1
    have rr := w.1.2
    unfold gOk at g
    unfold rWo at rr
    simp only [reduceIte, Nat.reduceEqDiff, true_or, or_true, or_self] at g rr
    have v1 := VALOF s1 pP.2.2.2.2.1.1 pP.2.2.1.1.1 rr.1 g.2.1
    have v2 := VALOF s2 pP.2.2.2.2.1.2.1 pP.2.2.1.1.2 rr.2.1 g.2.2
    rw [t0, if_neg (show ¬ nI 11 = (1 : Int32) by decide), if_neg (show ¬ nI 11 = (2 : Int32) by decide), if_neg (show ¬ nI 11 = (3 : Int32) by decide), if_neg (show ¬ nI 11 = (4 : Int32) by decide), if_neg (show ¬ nI 11 = (5 : Int32) by decide), if_neg (show ¬ nI 11 = (6 : Int32) by decide), if_neg (show ¬ nI 11 = (7 : Int32) by decide), if_neg (show ¬ nI 11 = (8 : Int32) by decide), if_neg (show ¬ nI 11 = (9 : Int32) by decide), if_neg (show ¬ nI 11 = (10 : Int32) by decide), if_pos (show nI 11 = (11 : Int32) from rfl), zgd_at zn, r10, t4, v1, zcl_at']
    generalize xmSm T f pp ee h env vs d.2.2.2.1.2 = p1 at v1 ⊢
    generalize xmSm T f pp ee h env vs d.2.2.2.2.2 = p2 at v2 ⊢
    by_cases b1 : xmB p1 = true
    · rw [if_pos b1, if_pos h191, zgd_at zn, r11, t5, v2, zcl_at']
      by_cases b2 : xmB p2 = true
      · rw [if_pos b2, if_pos h191, if_pos (show xmB p1 = true ∧ xmB p2 = true from ⟨b1, b2⟩), zgd_at zn, r6, t0]
        unfold j_begun_541 j_begun_562 j_begun_610
        obtain ⟨pr, e1, e2, e3⟩ := r_prd (h0 := h0) (qs := qs) (ks := ks) (T := T) (n := m + 1308) (τ := τ) b1 b2
        rw [if_pos (show nI 11 = (11 : Int32) from rfl), zgd_at zn, cn, r6, t0, if_pos (show nI 11 = (11 : Int32) from rfl), zgd_at zn, if_pos (show nI 11 = (11 : Int32) from rfl), e1, zcl_at', r_bou h191, zcl_at', r_is, zcv_at]
        by_cases b3 : (p1.toInt * p2.toInt).natAbs ≤ 1099511627776
        · rw [if_pos (e3.mpr b3), if_pos b3, e2 b3]
          exact rOt_val (v := (0, p1 * p2)) I (by omega)
        · rw [if_neg (fun q => b3 (e3.mp q)), if_neg b3]
          exact ⟨0, _, rfl, Or.inl rfl, I.1.tr ((xFm.i τ (k := 191) 2 (by decide)).tr ((xFm.i (zI τ 191 2) (k := 192) 0 (by decide)).tr (xFm.jj _ _))), by rw [zJI (by decide), zI_eq]; rfl, by rw [zJI (by decide), zI_ne (by decide)]; exact I.2.2.2.2.2.2.2⟩
      · rw [if_neg b2, if_neg n191, if_neg (show ¬ (xmB p1 = true ∧ xmB p2 = true) from fun q => b2 q.2)]
        exact rOt_end I rfl
    · rw [if_neg b1, if_neg n191, if_neg (show ¬ (xmB p1 = true ∧ xmB p2 = true) from fun q => b1 q.1)]
      exact rOt_end I rfl
  · -- /
    subst c'
    obtain ⟨⟨-, t0, -⟩, -, x, x', ⟨t4, t5⟩, s1, s2⟩ := tr
    simp only [reduceIte, Nat.reduceEqDiff, true_or, or_true]
    have g := w.1.1
    have rr := w.1.2
    unfold gOk at g
    unfold rWo at rr
    simp only [reduceIte, Nat.reduceEqDiff, true_or, or_true, or_self] at g rr
    have v1 := VALOF s1 pP.2.2.2.2.1.1 pP.2.2.1.1.1 rr.1 g.2.1
    have v2 := VALOF s2 pP.2.2.2.2.1.2.1 pP.2.2.1.1.2 rr.2.1 g.2.2
    rw [t0, if_neg (show ¬ nI 12 = (1 : Int32) by decide), if_neg (show ¬ nI 12 = (2 : Int32) by decide), if_neg (show ¬ nI 12 = (3 : Int32) by decide), if_neg (show ¬ nI 12 = (4 : Int32) by decide), if_neg (show ¬ nI 12 = (5 : Int32) by decide), if_neg (show ¬ nI 12 = (6 : Int32) by decide), if_neg (show ¬ nI 12 = (7 : Int32) by decide), if_neg (show ¬ nI 12 = (8 : Int32) by decide), if_neg (show ¬ nI 12 = (9 : Int32) by decide), if_neg (show ¬ nI 12 = (10 : Int32) by decide), if_neg (show ¬ nI 12 = (11 : Int32) by decide), if_pos (show nI 12 = (12 : Int32) from rfl), zgd_at zn, r10, t4, v1, zcl_at']
    generalize xmSm T f pp ee h env vs d.2.2.2.1.2 = p1 at v1 ⊢
    generalize xmSm T f pp ee h env vs d.2.2.2.2.2 = p2 at v2 ⊢
    by_cases b1 : xmB p1 = true
    · rw [if_pos b1, if_pos h191, zgd_at zn, r11, t5, v2, zcl_at']
      by_cases b2 : xmB p2 = true
      · rw [if_pos b2, if_pos h191, if_pos (show xmB p1 = true ∧ xmB p2 = true from ⟨b1, b2⟩), zgd_at zn, r6, t0]
        unfold j_begun_541 j_begun_562 j_begun_610
        by_cases b3 : p2 = 0
        · rw [if_neg (show ¬ nI 12 = (11 : Int32) by decide), if_pos ((lg_eq p2 0).mpr b3), if_pos b3, zlet]
          exact rOt_end I rfl
        · have dw := r_dwn (h0 := h0) (qs := qs) (ks := ks) (T := T) (n := m + 1308) (τ := τ) b1 b2 b3
          have q1 := xmB_iff.mp b1
          have q2 := xmB_iff.mp b2
          have nz : p2.toInt ≠ 0 := fun q => b3 (Int64.toInt_inj.mp q)
          have fb := fdiv_bd p1.toInt p2.toInt
          have mb := fmod_bd (a := p1.toInt) nz
          have df := Int.fmod_add_mul_fdiv p1.toInt p2.toInt
          have o1 : (Int64.ofInt (p1.toInt.fdiv p2.toInt)).toInt = p1.toInt.fdiv p2.toInt := Int64.toInt_ofInt_of_le (by omega) (by omega)
          rw [if_neg (show ¬ nI 12 = (11 : Int32) by decide), if_neg (fun q => b3 ((lg_eq p2 0).mp q)), if_neg b3, zgd_at zn, cn, r6, t0, if_neg (show ¬ nI 12 = (11 : Int32) by decide), dw, zcl_at', zgd_at zn, r6, t0, if_neg (show ¬ nI 12 = (11 : Int32) by decide), zgd_at zn, if_pos (show nI 12 = (12 : Int32) from rfl), r_bou h191, zcl_at', r_is, zcv_at, if_pos (xB64 (by omega))]
          exact rOt_val (v := (0, Int64.ofInt (p1.toInt.fdiv p2.toInt))) I (by omega)
      · rw [if_neg b2, if_neg n191, if_neg (show ¬ (xmB p1 = true ∧ xmB p2 = true) from fun q => b2 q.2)]
        exact rOt_end I rfl
    · rw [if_neg b1, if_neg n191, if_neg (show ¬ (xmB p1 = true ∧ xmB p2 = true) from fun q => b1 q.1)]
      exact rOt_end I rfl
  · -- %
    subst c'
    obtain ⟨⟨-, t0, -⟩, -, x, x', ⟨t4, t5⟩, s1, s2⟩ := tr
    simp only [reduceIte, Nat.reduceEqDiff, true_or, or_true]
    have g := w.1.1
    have rr := w.1.2
    unfold gOk at g
    unfold rWo at rr
    simp only [reduceIte, Nat.reduceEqDiff, true_or, or_true, or_self] at g rr
    have v1 := VALOF s1 pP.2.2.2.2.1.1 pP.2.2.1.1.1 rr.1 g.2.1
    have v2 := VALOF s2 pP.2.2.2.2.1.2.1 pP.2.2.1.1.2 rr.2.1 g.2.2
    rw [t0, if_neg (show ¬ nI 13 = (1 : Int32) by decide), if_neg (show ¬ nI 13 = (2 : Int32) by decide), if_neg (show ¬ nI 13 = (3 : Int32) by decide), if_neg (show ¬ nI 13 = (4 : Int32) by decide), if_neg (show ¬ nI 13 = (5 : Int32) by decide), if_neg (show ¬ nI 13 = (6 : Int32) by decide), if_neg (show ¬ nI 13 = (7 : Int32) by decide), if_neg (show ¬ nI 13 = (8 : Int32) by decide), if_neg (show ¬ nI 13 = (9 : Int32) by decide), if_neg (show ¬ nI 13 = (10 : Int32) by decide), if_neg (show ¬ nI 13 = (11 : Int32) by decide), if_neg (show ¬ nI 13 = (12 : Int32) by decide), if_pos (show nI 13 = (13 : Int32) from rfl), zgd_at zn, r10, t4, v1, zcl_at']
    generalize xmSm T f pp ee h env vs d.2.2.2.1.2 = p1 at v1 ⊢
    generalize xmSm T f pp ee h env vs d.2.2.2.2.2 = p2 at v2 ⊢
    by_cases b1 : xmB p1 = true
    · rw [if_pos b1, if_pos h191, zgd_at zn, r11, t5, v2, zcl_at']
      by_cases b2 : xmB p2 = true
      · rw [if_pos b2, if_pos h191, if_pos (show xmB p1 = true ∧ xmB p2 = true from ⟨b1, b2⟩), zgd_at zn, r6, t0]
        unfold j_begun_541 j_begun_562 j_begun_610
        by_cases b3 : p2 = 0
        · rw [if_neg (show ¬ nI 13 = (11 : Int32) by decide), if_pos ((lg_eq p2 0).mpr b3), if_pos b3, zlet]
          exact rOt_end I rfl
        · have dw := r_dwn (h0 := h0) (qs := qs) (ks := ks) (T := T) (n := m + 1308) (τ := τ) b1 b2 b3
          have q1 := xmB_iff.mp b1
          have q2 := xmB_iff.mp b2
          have nz : p2.toInt ≠ 0 := fun q => b3 (Int64.toInt_inj.mp q)
          have fb := fdiv_bd p1.toInt p2.toInt
          have mb := fmod_bd (a := p1.toInt) nz
          have df := Int.fmod_add_mul_fdiv p1.toInt p2.toInt
          have o1 : (Int64.ofInt (p1.toInt.fdiv p2.toInt)).toInt = p1.toInt.fdiv p2.toInt := Int64.toInt_ofInt_of_le (by omega) (by omega)
          rw [if_neg (show ¬ nI 13 = (11 : Int32) by decide), if_neg (fun q => b3 ((lg_eq p2 0).mp q)), if_neg b3, zgd_at zn, cn, r6, t0, if_neg (show ¬ nI 13 = (11 : Int32) by decide), dw, zcl_at', zgd_at zn, r6, t0, if_neg (show ¬ nI 13 = (11 : Int32) by decide), zgd_at zn, if_neg (show ¬ nI 13 = (12 : Int32) by decide)]
          have m1 : (p2 * Int64.ofInt (p1.toInt.fdiv p2.toInt)).toInt = p2.toInt * p1.toInt.fdiv p2.toInt := by rw [j_mul (by rw [o1]; omega) (by rw [o1]; omega), o1]
          have m2 : p1 - p2 * Int64.ofInt (p1.toInt.fdiv p2.toInt) = Int64.ofInt (p1.toInt.fmod p2.toInt) := Int64.toInt_inj.mp (by
            rw [j_sub (by rw [m1]; omega) (by rw [m1]; omega), m1, Int64.toInt_ofInt_of_le (by omega) (by omega)]
            omega)
          rw [m2, r_bou h191, zcl_at', r_is, zcv_at, if_pos (xB64 (by omega))]
          exact rOt_val (v := (0, Int64.ofInt (p1.toInt.fmod p2.toInt))) I (by omega)
      · rw [if_neg b2, if_neg n191, if_neg (show ¬ (xmB p1 = true ∧ xmB p2 = true) from fun q => b2 q.2)]
        exact rOt_end I rfl
    · rw [if_neg b1, if_neg n191, if_neg (show ¬ (xmB p1 = true ∧ xmB p2 = true) from fun q => b1 q.1)]
      exact rOt_end I rfl
  · -- get
    subst c'
    obtain ⟨⟨-, t0, -⟩, ⟨-, t3⟩, x, t4, s1⟩ := tr
    simp only [reduceIte, Nat.reduceEqDiff, or_self]
    have g := w.1.1
    have rr := w.1.2
    unfold gOk at g
    unfold rWo at rr
    simp only [reduceIte, Nat.reduceEqDiff, or_self] at g rr
    have v1 := VALOF s1 pP.2.2.2.2.1.1 pP.2.2.1.1.1 rr.2 g.2.2
    obtain ⟨j, g1, g2, g3, g4⟩ := GET rr.1
    obtain ⟨i, arr, ei, ea, el, eg⟩ := ARR rr.1 g.2.1
    have il := xget_lt ea
    obtain ⟨⟨y1, y2⟩, y3⟩ := I.2.2.2.1.1 i arr ea
    have hal := (H.2.1.1 arr (List.mem_of_getElem? ea)).1
    have htot := H.2.1.2
    have hof := xmOf_bd ea
    have hcd : d.1 < cnt := by
      have q := wf
      unfold tWf at q
      simp only [reduceIte, Nat.reduceEqDiff, or_false, or_self, false_or, false_and, true_and] at q
      omega
    rw [t0, if_neg (show ¬ nI 14 = (1 : Int32) by decide), if_neg (show ¬ nI 14 = (2 : Int32) by decide), if_neg (show ¬ nI 14 = (3 : Int32) by decide), if_neg (show ¬ nI 14 = (4 : Int32) by decide), if_neg (show ¬ nI 14 = (5 : Int32) by decide), if_neg (show ¬ nI 14 = (6 : Int32) by decide), if_neg (show ¬ nI 14 = (7 : Int32) by decide), if_neg (show ¬ nI 14 = (8 : Int32) by decide), if_neg (show ¬ nI 14 = (9 : Int32) by decide), if_neg (show ¬ nI 14 = (10 : Int32) by decide), if_neg (show ¬ nI 14 = (11 : Int32) by decide), if_neg (show ¬ nI 14 = (12 : Int32) by decide), if_neg (show ¬ nI 14 = (13 : Int32) by decide), if_pos (show nI 14 = (14 : Int32) from rfl), zgd_at zn, r10, t4, v1, zcl_at']
    rw [el, eg]
    generalize xmSm T f pp ee h env vs d.2.2.2.1.2 = p1 at v1 ⊢
    by_cases b1 : xmB p1 = true
    · rw [if_pos b1, if_pos b1, if_pos h191, zgd_at zn, r9, t3, zgd_at (zin_n (by omega) (by decide)), nI_clamp (by omega), I.1.1 32 (by decide), g1, zci_at, zgd_at (zin_n (by omega) (by decide)), nI_clamp (by omega), g4, ei, xmNi_32]
      have zi : zin (nI i) 21000 = true := zin_n (by omega) (by decide)
      have ci : (nI i).toNatClampNeg = i := nI_clamp (by omega)
      by_cases b2 : p1 < 0
      · rw [if_pos ((lg_lt p1 0).mpr b2), if_neg (fun q => absurd b2 (Int64.not_lt.mpr q.1))]
        exact rOt_end I rfl
      · rw [if_neg (fun q => b2 ((lg_lt p1 0).mp q)), zgd_at zi, ci, y2]
        by_cases b3 : p1 < xmNi arr.length
        · rw [if_pos (show lg_cmp p1 ((nI arr.length).toInt64) < 0 from (lg_lt p1 (xmNi arr.length)).mpr b3), if_pos ⟨Int64.not_lt.mp b2, b3⟩]
          obtain ⟨q, eq⟩ : ∃ q : Nat, p1.toInt = (q : Int) := ⟨p1.toInt.toNat, by
            have z := Int64.not_lt.mp b2
            rw [Int64.le_iff_toInt_le] at z
            have : (0 : Int64).toInt = 0 := rfl
            omega⟩
          have hq : q < arr.length := by
            rw [Int64.lt_iff_toInt_lt, xmNi_int (by omega)] at b3
            omega
          obtain ⟨x32, xix⟩ := x_i32 eq (by omega)
          have y1' : τ.2.2.1 113 i = nI (xmOf h.2.1 i) := y1
          rw [xix, x32, zgd_at zi, y1', nI_add, zgd_at (zin_n (by omega) (by decide)), nI_clamp (by omega)]
          have ey : τ.2.2.2 115 (xmOf h.2.1 i + q) = arr.getD q 0 := by
            rw [List.getD_eq_getElem?_getD, List.getElem?_eq_getElem hq]
            exact y3 q _ (List.getElem?_eq_getElem hq)
          rw [ey, r_is, zcv_at]
          exact rOt_val (v := (0, arr.getD q 0)) I (by omega)
        · rw [if_neg (show ¬ lg_cmp p1 ((nI arr.length).toInt64) < 0 from fun q => b3 ((lg_lt p1 (xmNi arr.length)).mp q)), if_neg (fun q => b3 q.2)]
          exact rOt_end I rfl
    · rw [if_neg b1, if_neg b1, if_neg n191]
      exact rOt_end I rfl
  · -- a call
    subst c'
    have t0 : nV V nd 0 = nI 15 := tr.1.2.1
    simp only [reduceIte, Nat.reduceEqDiff, or_self]
    rw [t0, if_neg (show ¬ nI 15 = (1 : Int32) by decide), if_neg (show ¬ nI 15 = (2 : Int32) by decide), if_neg (show ¬ nI 15 = (3 : Int32) by decide), if_neg (show ¬ nI 15 = (4 : Int32) by decide), if_neg (show ¬ nI 15 = (5 : Int32) by decide), if_neg (show ¬ nI 15 = (6 : Int32) by decide), if_neg (show ¬ nI 15 = (7 : Int32) by decide), if_neg (show ¬ nI 15 = (8 : Int32) by decide), if_neg (show ¬ nI 15 = (9 : Int32) by decide), if_neg (show ¬ nI 15 = (10 : Int32) by decide), if_neg (show ¬ nI 15 = (11 : Int32) by decide), if_neg (show ¬ nI 15 = (12 : Int32) by decide), if_neg (show ¬ nI 15 = (13 : Int32) by decide), if_neg (show ¬ nI 15 = (14 : Int32) by decide), if_pos (show nI 15 = (15 : Int32) from rfl)]
    exact rOt_bo (r_call (m := m + 1303) X hN hA I w hh H (by omega) (by omega) hl1 hfr hdp En tr E hc w.q4)
  · -- ( E )
    subst c'
    obtain ⟨⟨-, t0, -⟩, x, t5, ta⟩ := tr
    simp only [reduceIte, Nat.reduceEqDiff, or_self]
    have E1 := w.k16
    rw [t0, if_neg (show ¬ nI 16 = (1 : Int32) by decide), if_neg (show ¬ nI 16 = (2 : Int32) by decide), if_neg (show ¬ nI 16 = (3 : Int32) by decide), if_neg (show ¬ nI 16 = (4 : Int32) by decide), if_neg (show ¬ nI 16 = (5 : Int32) by decide), if_neg (show ¬ nI 16 = (6 : Int32) by decide), if_neg (show ¬ nI 16 = (7 : Int32) by decide), if_neg (show ¬ nI 16 = (8 : Int32) by decide), if_neg (show ¬ nI 16 = (9 : Int32) by decide), if_neg (show ¬ nI 16 = (10 : Int32) by decide), if_neg (show ¬ nI 16 = (11 : Int32) by decide), if_neg (show ¬ nI 16 = (12 : Int32) by decide), if_neg (show ¬ nI 16 = (13 : Int32) by decide), if_neg (show ¬ nI 16 = (14 : Int32) by decide), if_neg (show ¬ nI 16 = (15 : Int32) by decide), if_pos (show nI 16 = (16 : Int32) from rfl), zgd_at zn, r11, t5, r_then, zci_at, zgd_at (by decide)]
    exact rOt_then I (rTr_lt E1.2.1.1 ta) ta E (by omega)
  · -- cons
    subst c'
    obtain ⟨⟨-, t0, -⟩, t3, x, t4, s1⟩ := tr
    simp only [reduceIte, Nat.reduceEqDiff, or_self]
    have g := w.1.1
    have rr := w.1.2
    unfold gOk at g
    unfold rWo at rr
    simp only [reduceIte, Nat.reduceEqDiff, or_self] at g rr
    have v1 := VALOF s1 pP.2.2.2.2.1.1 pP.2.2.1.1.1 rr.1 g.2.2
    obtain ⟨j, g1, g2, g3, g4⟩ := GET rr.2
    have hv : (xmGet f pp ee env vs d.2.1).2 = -1 ∨ xmIn h.2.2.length (xmGet f pp ee env vs d.2.1).2 := by
      have tv := (En.get rr.2).2.2
      rw [g.2.1] at tv
      rcases tv with ⟨q, -⟩ | ⟨q, -⟩ | ⟨q, -⟩ | ⟨-, -, q⟩ | ⟨q, -⟩
      · exact absurd q (by decide)
      · exact absurd q (by decide)
      · exact absurd q (by decide)
      · exact q
      · exact absurd q (by decide)
    have hcd : d.2.1 < cnt := by
      have q := wf
      unfold tWf at q
      simp only [reduceIte, Nat.reduceEqDiff, or_false, or_self, false_or, false_and, true_and] at q
      omega
    rw [t0, if_neg (show ¬ nI 18 = (1 : Int32) by decide), if_neg (show ¬ nI 18 = (2 : Int32) by decide), if_neg (show ¬ nI 18 = (3 : Int32) by decide), if_neg (show ¬ nI 18 = (4 : Int32) by decide), if_neg (show ¬ nI 18 = (5 : Int32) by decide), if_neg (show ¬ nI 18 = (6 : Int32) by decide), if_neg (show ¬ nI 18 = (7 : Int32) by decide), if_neg (show ¬ nI 18 = (8 : Int32) by decide), if_neg (show ¬ nI 18 = (9 : Int32) by decide), if_neg (show ¬ nI 18 = (10 : Int32) by decide), if_neg (show ¬ nI 18 = (11 : Int32) by decide), if_neg (show ¬ nI 18 = (12 : Int32) by decide), if_neg (show ¬ nI 18 = (13 : Int32) by decide), if_neg (show ¬ nI 18 = (14 : Int32) by decide), if_neg (show ¬ nI 18 = (15 : Int32) by decide), if_neg (show ¬ nI 18 = (16 : Int32) by decide), if_neg (show ¬ nI 18 = (17 : Int32) by decide), if_pos (show nI 18 = (18 : Int32) from rfl), zgd_at zn, r10, t4, v1, zcl_at']
    generalize xmSm T f pp ee h env vs d.2.2.2.1.2 = p1 at v1 ⊢
    by_cases b1 : xmB p1 = true
    · have h188 := I.2.1.2.2.2.2
      have z8 : zin (nI h.2.2.length) 20001 = true := zin_n (by omega) (by decide)
      have c8 : (nI h.2.2.length).toNatClampNeg = h.2.2.length := nI_clamp (by omega)
      rw [if_pos b1, if_pos b1, if_pos h191, zgd_at zn, r9, t3, zgd_at (zin_n (by omega) (by decide)), nI_clamp (by omega), I.1.1 32 (by decide), g1, zci_at, zgd_at (zin_n (by omega) (by decide)), nI_clamp (by omega), g4, h188, zgd_at z8, c8, zlet]
      have q8 : (zG τ 119 (vp_updL (τ.2.2.2 119) h.2.2.length p1)).1 188 = nI h.2.2.length := h188
      rw [q8, zgd_at z8, c8, zlet]
      have Y2 : rYl (zA (zG τ 119 (vp_updL (τ.2.2.2 119) h.2.2.length p1)) 120 (upd ((zG τ 119 (vp_updL (τ.2.2.2 119) h.2.2.length p1)).2.2.1 120) h.2.2.length (xmGet f pp ee env vs d.2.1).2.toInt32)) h := by
        refine ⟨fun i' b' hb' => I.2.2.2.1.1 i' b' hb', fun i' b' hb' => ?_⟩
        obtain ⟨y1, y2, y3⟩ := I.2.2.2.1.2 i' b' hb'
        have ni : ¬ i' = h.2.2.length := by have := xget_lt hb'; omega
        refine ⟨?_, ?_, y3⟩
        · show vp_updL (τ.2.2.2 119) h.2.2.length p1 i' = _
          rw [vp_L, if_neg ni]; exact y1
        · show upd (τ.2.2.1 120) h.2.2.length _ i' = _
          simp only [upd, if_neg ni]; exact y2
      rw [r_size (n := m + 1308) (v := xmGet f pp ee env vs d.2.1) H Y2 (by omega) hv, zci_at]
      have q9 : (zA (zG τ 119 (vp_updL (τ.2.2.2 119) h.2.2.length p1)) 120 (upd ((zG τ 119 (vp_updL (τ.2.2.2 119) h.2.2.length p1)).2.2.1 120) h.2.2.length (xmGet f pp ee env vs d.2.1).2.toInt32)).1 188 = nI h.2.2.length := h188
      rw [q9, zgd_at z8, c8, zlet, r_is, zcv_at, zlet]
      have hsz := H.sz (xmGet f pp ee env vs d.2.1).2
      have ln : (h.2.2 ++ [(p1, (xmGet f pp ee env vs d.2.1).2, xmSz h (xmGet f pp ee env vs d.2.1).2 + 1)]).length = h.2.2.length + 1 := by rw [List.length_append]; rfl
      refine ⟨0, _, c, rfl, ?_, by show c + xmW fr ≤ _; omega, rfl, ?_, ?_⟩
      · refine I.y ⟨fun k' hk' => ?_, fun k' hk' => ?_, fun k' h1 h2 => ?_, fun k' hk' => ?_⟩ rfl ⟨?_, ?_, ?_⟩ (fun j' hj' => ?_) (fun k' hk' => ?_) rfl ⟨fun i' b' hb' => I.2.2.2.1.1 i' b' hb', fun i' b' hb' => ?_⟩
        · show (if k' = 121 then _ else if k' = 120 then _ else τ.2.2.1 k') = _
          rw [if_neg (by omega), if_neg (by omega)]
          exact I.1.1 k' hk'
        · rw [zI_ne (fun w' => hk' (by rw [w']; decide)), zJI (fun w' => hk' (by rw [w']; decide))]
          exact I.1.2.1 k' hk'
        · show (if k' = 193 then _ else τ.2.1 k') = _
          rw [if_neg h1]
          exact I.1.2.2.1 k' h1 h2
        · show (if k' = 119 then _ else τ.2.2.2 k') = _
          rw [if_neg (by omega)]
          exact I.1.2.2.2 k' hk'
        · rw [zI_ne (by decide), zJI (by decide)]; exact I.2.1.2.2.1
        · rw [zI_ne (by decide), zJI (by decide)]; exact I.2.1.2.2.2.1
        · rw [zI_eq, zJI (by decide)]
          show τ.1 188 + 1 = _
          rw [h188, nI_p1]
          exact congrArg nI ln.symm
        · have n1 : j' ≠ 188 := fun w' => by rw [w'] at hj'; exact absurd hj' (by decide)
          have n2 : j' ≠ 192 := fun w' => by rw [w'] at hj'; exact absurd hj' (by decide)
          rw [zI_ne n1, zJI n2]
          rfl
        · show (if k' = 121 then _ else if k' = 120 then _ else τ.2.2.1 k') = _
          rw [if_neg (by omega), if_neg (by omega)]
        · have hb' : (h.2.2 ++ [(p1, (xmGet f pp ee env vs d.2.1).2, xmSz h (xmGet f pp ee env vs d.2.1).2 + 1)])[i']? = some b' := hb'
          have R119 : ∀ i, (zI (zJ (zI (zA (zA (zG τ 119 (vp_updL (τ.2.2.2 119) h.2.2.length p1)) 120 (upd ((zG τ 119 (vp_updL (τ.2.2.2 119) h.2.2.length p1)).2.2.1 120) h.2.2.length (xmGet f pp ee env vs d.2.1).2.toInt32)) 121 (upd ((zA (zG τ 119 (vp_updL (τ.2.2.2 119) h.2.2.length p1)) 120 (upd ((zG τ 119 (vp_updL (τ.2.2.2 119) h.2.2.length p1)).2.2.1 120) h.2.2.length (xmGet f pp ee env vs d.2.1).2.toInt32)).2.2.1 121) h.2.2.length (nI (xmSz h (xmGet f pp ee env vs d.2.1).2) + 1))) 192 4) 193 0) 188 0).2.2.2 119 i = vp_updL (τ.2.2.2 119) h.2.2.length p1 i := fun i => rfl
          by_cases ci' : i' < h.2.2.length
          · rw [List.getElem?_append_left ci'] at hb'
            obtain ⟨y1, y2, y3⟩ := I.2.2.2.1.2 i' b' hb'
            have ni : ¬ i' = h.2.2.length := by omega
            refine ⟨?_, ?_, ?_⟩
            · show vp_updL (τ.2.2.2 119) h.2.2.length p1 i' = _
              rw [vp_L, if_neg ni]; exact y1
            · show upd (τ.2.2.1 120) h.2.2.length _ i' = _
              simp only [upd, if_neg ni]; exact y2
            · show upd (τ.2.2.1 121) h.2.2.length _ i' = _
              simp only [upd, if_neg ni]; exact y3
          · have hi' := xget_lt hb'
            rw [ln] at hi'
            have ei' : i' = h.2.2.length := by omega
            subst ei'
            rw [List.getElem?_append_right (Nat.le_refl _), Nat.sub_self] at hb'
            injection hb' with hb'
            subst hb'
            refine ⟨?_, ?_, ?_⟩
            · show vp_updL (τ.2.2.2 119) h.2.2.length p1 h.2.2.length = _
              rw [vp_L, if_pos rfl]
            · show upd (τ.2.2.1 120) h.2.2.length _ h.2.2.length = _
              simp only [upd, if_true]
            · show upd (τ.2.2.1 121) h.2.2.length _ h.2.2.length = _
              simp only [upd, if_true]
              exact nI_p1 _
      · rw [zI_ne (by decide)]
        exact zJ192 _ _ _
      · refine (zJ_193 _ _).trans ?_
        show (τ.1 188).toInt64 = _
        rw [h188]
        rfl
    · rw [if_neg b1, if_neg b1, if_neg n191]
      exact rOt_end I rfl
  · -- match
    subst c'
    obtain ⟨⟨-, t0, -⟩, ⟨t3, t4⟩, x, x', ⟨t5, t6⟩, ta, tb⟩ := tr
    simp only [reduceIte, Nat.reduceEqDiff, or_self]
    obtain ⟨⟨k1, ⟨k2, k3⟩, k4⟩, E1, E2⟩ := w.k19
    obtain ⟨j, g1, g2, g3, g4⟩ := GET k4
    have hcd : d.1 + 1 < cnt ∧ d.2.1 + 1 < cnt := by
      have q := wf
      unfold tWf at q
      simp only [reduceIte, Nat.reduceEqDiff, or_false, or_self, false_or, false_and, true_and] at q
      omega
    have rto : rTo (V.2.2.1 32) L d.2.1 ∧ rTo (V.2.2.1 32) L (d.2.1 + 1) := by
      have q := w.1.2
      unfold rWo at q
      simp only [reduceIte, Nat.reduceEqDiff, or_self] at q
      exact q.2.2.1
    have ni : d.2.1 ∉ env ∧ d.2.1 + 1 ∉ env := by
      have q := w.2.2.1.2.2
      unfold tW at q
      simp only [reduceIte, Nat.reduceEqDiff, or_self] at q
      exact ⟨q _ (List.mem_append_right _ (List.mem_append_left _ (List.mem_cons_self ..))), q _ (List.mem_append_right _ (List.mem_append_left _ (List.mem_cons_of_mem _ (List.mem_cons_self ..))))⟩
    have hv : (xmGet f pp ee env vs (d.1 + 1)).2 = -1 ∨ xmIn h.2.2.length (xmGet f pp ee env vs (d.1 + 1)).2 := by
      have tv := (En.get k4).2.2
      rw [k1] at tv
      rcases tv with ⟨q, -⟩ | ⟨q, -⟩ | ⟨q, -⟩ | ⟨-, -, q⟩ | ⟨q, -⟩
      · exact absurd q (by decide)
      · exact absurd q (by decide)
      · exact absurd q (by decide)
      · exact q
      · exact absurd q (by decide)
    rw [t0, if_neg (show ¬ nI 19 = (1 : Int32) by decide), if_neg (show ¬ nI 19 = (2 : Int32) by decide), if_neg (show ¬ nI 19 = (3 : Int32) by decide), if_neg (show ¬ nI 19 = (4 : Int32) by decide), if_neg (show ¬ nI 19 = (5 : Int32) by decide), if_neg (show ¬ nI 19 = (6 : Int32) by decide), if_neg (show ¬ nI 19 = (7 : Int32) by decide), if_neg (show ¬ nI 19 = (8 : Int32) by decide), if_neg (show ¬ nI 19 = (9 : Int32) by decide), if_neg (show ¬ nI 19 = (10 : Int32) by decide), if_neg (show ¬ nI 19 = (11 : Int32) by decide), if_neg (show ¬ nI 19 = (12 : Int32) by decide), if_neg (show ¬ nI 19 = (13 : Int32) by decide), if_neg (show ¬ nI 19 = (14 : Int32) by decide), if_neg (show ¬ nI 19 = (15 : Int32) by decide), if_neg (show ¬ nI 19 = (16 : Int32) by decide), if_neg (show ¬ nI 19 = (17 : Int32) by decide), if_neg (show ¬ nI 19 = (18 : Int32) by decide), if_pos (show nI 19 = (19 : Int32) from rfl), zgd_at zn, r9, t3, zgd_at (zin_n (by omega) (by decide)), nI_clamp (by omega), I.1.1 32 (by decide), g1, zci_at, zgd_at (zin_n (by omega) (by decide)), nI_clamp (by omega), g4]
    rcases hv with hv | ⟨i, hi, ei⟩
    · rw [hv, if_neg (by decide), if_pos (by decide), zgd_at zn, r11, t5, r_then, zci_at, zgd_at (by decide)]
      exact rOt_then I (rTr_lt E1.2.1.1 ta) ta E (by omega)
    · obtain ⟨cc, ec⟩ : ∃ cc, h.2.2[i]? = some cc := ⟨_, List.getElem?_eq_getElem hi⟩
      obtain ⟨y1, y2, y3⟩ := I.2.2.2.1.2 i cc ec
      have eg : h.2.2.getD i (0, 0, 0) = cc := by
        rw [List.getD_eq_getElem?_getD, ec]
        rfl
      have zi : zin (nI i) 20001 = true := zin_n (by omega) (by decide)
      have ci : (nI i).toNatClampNeg = i := nI_clamp (by omega)
      rw [ei, xmNi_32, if_pos (by rw [Int32.le_iff_toInt_le, nI_toInt (by omega)]; show (0 : Int) ≤ i; omega), if_neg (by rw [Int64.lt_iff_toInt_lt, xmNi_int (by omega)]; show ¬ (i : Int) < 0; omega), xmNi_ix (by omega), eg, zgd_at zn, r10, t4, zgd_at (zin_n (by omega) (by decide)), zgd_at zi, nI_clamp (by omega), ci, I.1.1 32 (by decide), y1, r_slot I.2.1.1 (by omega), zci_at]
      have I1 := I.sl (x1 := k) (x2 := V.2.2.1 32 d.2.1) (x3 := 0) (x4 := cc.1)
      have E3 : rEc (V.2.2.1 32) (slS τ c k (V.2.2.1 32 d.2.1) 0 cc.1) (c + 1) (env ++ [d.2.1]) (vs ++ [(0, cc.1)]) (nI c) := E.sn (L := L) (v := (0, cc.1)) X.2.2.1.1 hto rto.1 ni.1 En.1
      have r120 : (slS τ c k (V.2.2.1 32 d.2.1) 0 cc.1).2.2.1 120 i = cc.2.1.toInt32 := y2
      have rest64 : (cc.2.1.toInt32).toInt64 = cc.2.1 := by
        rcases (H.2.2 i cc ec).2.1 with q | ⟨i2, hi2, q⟩
        · rw [q]; rfl
        · rw [q, xmNi_32]; rfl
      rw [zgd_at zn, zgd_at zn, (I1.1.r6 nd).2.2.1, t4, nI_p1, zgd_at (zin_n (by omega) (by decide)), zgd_at zi, nI_clamp (by omega), I1.1.1 32 (by decide), r120, rest64, r_slot I1.2.1.1 (by omega), zci_at]
      have I2 := I1.sl (x1 := nI c) (x2 := V.2.2.1 32 (d.2.1 + 1)) (x3 := 4) (x4 := cc.2.1)
      have E4 : rEc (V.2.2.1 32) (slS (slS τ c k (V.2.2.1 32 d.2.1) 0 cc.1) (c + 1) (nI c) (V.2.2.1 32 (d.2.1 + 1)) 4 cc.2.1) (c + 1 + 1) ((env ++ [d.2.1]) ++ [d.2.1 + 1]) ((vs ++ [(0, cc.1)]) ++ [(4, cc.2.1)]) (nI (c + 1)) := E3.sn (L := L) (v := (4, cc.2.1)) X.2.2.1.1 (fun w' hw' => by
        rcases List.mem_append.mp hw' with q | q
        · exact hto w' q
        · rw [List.mem_singleton.mp q]; exact rto.1) rto.2 (fun q => by
        rcases List.mem_append.mp q with q | q
        · exact ni.2 q
        · have := List.mem_singleton.mp q; omega) (by rw [List.length_append, List.length_append, En.1]; rfl)
      rw [List.append_assoc, List.append_assoc] at E4
      rw [(I1.1.r6 nd).2.2.2.2, t6, r_then, zci_at, zgd_at (by decide)]
      exact rOt_then I2 (rTr_lt E2.2.1.1 tb) tb E4 (by omega)
end XRK
