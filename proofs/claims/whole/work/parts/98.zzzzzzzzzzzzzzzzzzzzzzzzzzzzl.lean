/-! accepted(), the first time, on both sides -/
section LA1
variable {ks : Nat → Nat} {qs : List Nat} {κ : oKv} {T sz len cnt j n n' lo p x y e0 at2 cd' jd N S P A x0 o ca pa ph ta th lenJ W0 b1 : Nat} {a : Nat → Int32} {kk pp ee f fc R6 : Nat → Int32} {xs : List tQ} {is : List (Nat × Nat)} {e : tT} {α : Nat → tY} {B : Nat → Nat} {V : oSt} {D : cDt} {nm : Nat → Option Nat} {am2 : Int32} {fb fr fz fn : Nat → Int32} {g g' : gG} {ρ ρ' : Nat → tY} {lv : Int32} {σ σ1 : oSt} {τ : zSt} {q0 : Nat → gTy} {A0 : gTy} {yc : tY} {inv : Nat → gN} {K : Int} {cl0 fa0 rd ps : Int32} {fo : Nat → Int64} {wk : Option Nat} {Pj Tr : List (Nat × Bool)} {fs : List Value}
/-- capacities that a PROGRAM must meet -/
def pCap (T : Nat) (f pp ee : Nat → Int32) (xs : List tQ) (is : List (Nat × Nat)) (e : tT) (α : Nat → tY) (q0 : Nat → gTy) (A0 : gTy) (yc : tY) : Prop := gMx f pp ee (pTE f pp ee is e α) (pTN f pp ee is e α) 59 e (is.map Prod.fst) ∧ gCp (pTE f pp ee is e α) (pTN f pp ee is e α) e (gSs (gIs is [] (q0, [], [])).1).length ∧ (∀ k, (if k = 75 ∨ k = 79 ∨ k = 109 then 6 else 0) + gTc f pp ee (pTE f pp ee is e α) (pTN f pp ee is e α) xs e (is.map Prod.fst) yc (gSs (gIs is [] (q0, [], [])).1).length k ≤ uLm k) ∧ gTc f pp ee (pTE f pp ee is e α) (pTN f pp ee is e α) xs e (is.map Prod.fst) yc (gSs (gIs is [] (q0, [], [])).1).length 110 + 2100 ≤ 12000 ∧ (pWk T f pp ee is e α q0 A0).1.2.1.length ≤ 12000 ∧ (pWk T f pp ee is e α q0 A0).1.2.2.length ≤ 12000
/-- what accepted() keeps: objects that are not its own, rows that are not the Judge's, nodes but for their Scope, what NAMES are -/
def acP (pa ph ta th : Nat) (σ u : oSt) : Prop := (∀ b k gs, σ.1 b = some (.inr (k, gs)) → k ∉ [2, 3, 4, 6, 7, 8, 14] → u.1 b = some (.inr (k, gs))) ∧ (∀ b c, σ.1 b = some (.inl c) → c.1 ≠ .long → b ≠ pa ∧ b ≠ ph ∧ b ≠ ta ∧ b ≠ th → u.1 b = some (.inl c)) ∧ (∀ b gs, σ.1 b = some (.inr (7, gs)) → ∃ gs', u.1 b = some (.inr (7, gs')) ∧ gs'.length = gs.length ∧ ∀ i, i ≠ 20 → gs'[i]? = gs[i]?) ∧ (∀ b gs, σ.1 b = some (.inr (6, gs)) → ∃ gs', u.1 b = some (.inr (6, gs')) ∧ gs'.length = gs.length ∧ ∀ i, i < 4 → gs'[i]? = gs[i]?) ∧ σ.2.1 ≤ u.2.1
/-- the reference's side -/
def acR (τ v : zSt) : Prop := v.1 67 = 1 ∧ v.1 68 = (if 0 ≤ v.1 69 then 0 else 1) ∧ (∀ k, k < 40 → v.2.2.1 k = τ.2.2.1 k) ∧ zLg τ v ∧ ∀ k, k ∉ uCt → k ∉ [63, 69, 126, 131, 138, 139, 141, 144, 152, 153, 154, 155] → k ≠ 67 → k ≠ 68 → v.1 k = τ.1 k
/-- what accepted() leaves for type(): what is known, on both sides -/
def acX (κ : oKv) (T lo cnt p jd o pa ph ta th lenJ x : Nat) (kk pp ee f fc : Nat → Int32) (xs : List tQ) (is : List (Nat × Nat)) (e : tT) (α : Nat → tY) (B : Nat → Nat) (V : oSt) (D : cDt) (nm : Nat → Option Nat) (g : gG) (ρ : Nat → tY) (lv : Int32) (K : Int) (q0 : Nat → gTy) (A0 : gTy) (fs : List Value) (σ u : oSt) (τ v : zSt) : Prop := ∃ inv R6 Ψ Ls σ2 ln ct cs w σ4 Fc, (pGi T f pp ee xs is e α (τ.2.2.1 32) inv ∧ dTd (pGm T f pp ee xs is e α (τ.2.2.1 32) inv) (pTN f pp ee is e α) (g100 (pTE f pp ee is e α) (pTN f pp ee is e α) e) v (pWk T f pp ee is e α q0 A0).1.1) ∧ (jS2 κ T lo cnt p jd kk pp ee f fc xs is e α B V D nm g ρ lv σ.2.1 (pWk T f pp ee is e α q0 A0).1 Ψ Ls σ2 ln ct cs ∧ fdI (σ.2.1 + 5) (fun i => σ.2.1 + 1 + i) lo (wyP Ψ σ2.2.1).2.2.1 K jd o pa ph ta th σ.2.1 lenJ ((chF p V.2.1 jd σ.2.1).set 8 (.int w)) (onew σ2 (.inl (.int, ln 0, .inl (fun _ => 0))) (ln 0)) (onew σ2 (.inl (.int, ln 0, .inl (fun _ => 0))) (ln 0)) σ4 Fc (v.1 69) ∧ (u = oput σ4 x (.inr (14, (fs.set 4 (.ref σ.2.1)).set 5 (.int (v.1 69)))) ∧ ∃ gs, σ4.1 x = some (.inr (14, gs)))) ∧ gGr T f pp ee (τ.2.2.1 32) R6 (pGm T f pp ee xs is e α (τ.2.2.1 32) inv) (pFK T f pp ee xs is e α (τ.2.2.1 32) inv (pWk T f pp ee is e α q0 A0).1) (pWk T f pp ee is e α q0 A0).1.2.1 (fun kp => Fc (Ψ.2.1 kp)) ∧ gGr T f pp ee (τ.2.2.1 32) R6 (pGm T f pp ee xs is e α (τ.2.2.1 32) inv) (pFK T f pp ee xs is e α (τ.2.2.1 32) inv (pWk T f pp ee is e α q0 A0).1) (pWk T f pp ee is e α q0 A0).1.2.1 (alV (pGm T f pp ee xs is e α (τ.2.2.1 32) inv) v)
theorem tmP_le {kq : Nat} {σ : oSt} : ∀ (Ls : List Nat), tmP kq σ Ls ≤ (2 + 3 * kq) * Ls.length
  | [] => Nat.le_refl _
  | a :: Ls => by
    have := tmP_le (kq := kq) (σ := σ) Ls
    unfold tmP at this ⊢
    rw [List.map_cons, List.sum_cons, List.length_cons, Nat.mul_succ]
    omega
/-- what accepted() takes of the room, in numbers -/
def acU (k nt ni m nn : Nat) (C : Nat × Nat) (lenJ len : Nat) (σ u : oSt) : Prop := 80 * u.2.2.1 ≤ 80 * (σ.2.2.1 + 24 + (2 + 3 * k) * nt + 2 * ni + C.1) + 1040 + 39 * (3 * m + nn) ∧ 8 * (u.2.2.2 + 2 * lenJ) ≤ 8 * (σ.2.2.2 + 95 + 3 * ((2 + 3 * k) * nt) + 19 * ni + C.2 + m + 2 * len) + 1040 + 39 * (3 * m + nn)
/-- what accepted() takes of the room, of a PROGRAM -/
def pAU (T : Nat) (f pp ee : Nat → Int32) (xs : List tQ) (is : List (Nat × Nat)) (e : tT) (α : Nat → tY) (q0 : Nat → gTy) (A0 : gTy) (lenJ len : Nat) (σ u : oSt) : Prop := acU xs.length (is.length + (tW e).length) is.length ((pWk T f pp ee is e α q0 A0).1.2.1.filter (fkp (pNq T f pp ee) xs)).length (pWk T f pp ee is e α q0 A0).1.2.2.length (wCo T f pp ee (pTE f pp ee is e α) (pTN f pp ee is e α) xs e (is.map Prod.fst) (gIs is [] (q0, [], [])).1 A0 (gIs is [] (q0, [], [])).2) lenJ len σ u
theorem ac_u {k nt ni m nn lenJ len c0 c1 c2 c3 cs t t' N0 N1 N2 N3 : Nat} {r : Nat → Nat} {C : Nat × Nat} {σ σ1 σ2 u : oSt} (hl : len ≤ 201600) (g1 : 10 * (σ2.2.2.1 + t') ≤ 10 * (σ1.2.2.1 + t) + (cs - 0) + 10 * (2 * ni + C.1)) (g2 : σ2.2.2.2 + 3 * t' ≤ σ1.2.2.2 + 3 * t + (cs - 0) + (19 * ni + C.2)) (g3 : σ1.2.2.1 = σ.2.2.1 + 6) (g4 : σ1.2.2.2 = σ.2.2.2 + 95) (ht : t ≤ (2 + 3 * k) * nt) (a0 : 2 * c0 ≤ 20 + 3 * N0) (a1 : 2 * c1 ≤ 20 + 3 * N1) (a2 : 2 * c2 ≤ 20 + 3 * N2) (a3 : 2 * c3 ≤ 20 + 3 * N3) (b0 : 4 * r 0 ≤ 13 * c0) (b1 : 4 * r 1 ≤ 13 * c1) (b2 : 4 * r 2 ≤ 13 * c2) (b3 : 4 * r 3 ≤ 13 * c3) (hc : cs = r 0 + r 1 + r 2 + r 3) (e0 : N0 = m) (e1 : N1 = N0) (e2 : N2 = N0) (e3 : N3 = nn) {kk : Nat} (m1 : u.2.2.1 = σ2.2.2.1 + 1 + kk) (m2 : (lenJ + 1) * 2 ^ kk ≤ len + 1) (m3 : u.2.2.2 + 2 * lenJ ≤ σ2.2.2.2 + N0 + 2 * len) : acU k nt ni m nn C lenJ len σ u := by
  have hk : kk ≤ 17 := Nat.le_of_lt_succ (Nat.lt_of_not_le (fun z => by
    have h1 : 2 ^ 18 ≤ 2 ^ kk := Nat.pow_le_pow_right (by decide) z
    have h2 : 1 * 2 ^ kk ≤ (lenJ + 1) * 2 ^ kk := Nat.mul_le_mul_right _ (by omega)
    have h3 : (2 : Nat) ^ 18 = 262144 := by decide
    rw [h3] at h1
    rw [Nat.one_mul] at h2
    have := Nat.le_trans h1 (Nat.le_trans h2 m2)
    omega))
  clear m2
  unfold acU
  generalize (2 + 3 * k) * nt = Z at *
  generalize r 0 = r0 at *
  generalize r 1 = r1 at *
  generalize r 2 = r2 at *
  generalize r 3 = r3 at *
  constructor <;> omega
set_option maxHeartbeats 1000000 in
/-- **accepted(), the first time, answers alike on both sides** -/
theorem lr_ac1 (hq0 : ∀ u, q0 u = gNtd) (hT : 200200 ≤ T) (hn : 195 ≤ n) (hn' : 1300 ≤ n') (hqs : qs.getD 88 0 ≠ qs.getD 87 0) (h67 : τ.1 67 = 0) (hp : pgT T len cnt j kk pp ee f fc xs is e α) (hR : pgR T len cnt kk pp ee f xs is e α N S P A x0 g' ρ' τ) (hV : pgV κ T sz len cnt kk pp ee fc xs is e B p V D at2 cd' am2 nm e0 fb fr fz fn) (hB : ∃ w r v ka pa ea, B = pA w r v ka pa ea p) (hsz : sz ≤ lo) (hS : pgS κ T lo cnt kk pp ee f fc is e α B p V D nm e0 g ρ lv σ) (n5 : n5I lo σ) (oR : oRm sz σ) (hκ : κ.2.2.1 < sz) (hVσ : V.2.1 ≤ σ.2.1) (hxl : x < lo) (hx : σ.1 x = some (.inr (14, fs))) (hl : fs.length = 13) (f2 : fs[2]? = some (.ref p)) (f3 : fs[3]? = some (.ref V.2.1)) (f4 : fs[4]? = some .null) (f11 : fs[11]? = some (.ref jd)) (P0 : rwI 0 σ ∧ kn8 σ ∧ cnI K σ) (J : jSt σ jd o ca pa ph ta th lenJ W0 b1 cl0 fa0 fo rd wk ps Pj Tr) (hlJ : lenJ ≤ 201600) (hpa : pa < lo ∧ ph < lo ∧ ta < lo ∧ th < lo) (cap : pCap T f pp ee xs is e α q0 A0 yc) (hs0 : ∀ σ1 σ2, jS1 κ x p V.2.1 jd σ σ1 → oF κ T (n + 5) 37 [va_rf (some σ.2.1)] σ1 = some (none, σ2) → σ2.2.1 + 26 < T) : ∃ u v, lst (oF κ T (n + 6)) (zF y qs ks T (n' + 9)) x y a σ τ 3 = some (u, v) ∧ acP pa ph ta th σ u ∧ u.1 x = some (.inr (14, (fs.set 4 (.ref σ.2.1)).set 5 (.int (v.1 69)))) ∧ acR τ v ∧ (∃ cf, u.1 σ.2.1 = some (.inr (2, cf)) ∧ cf.length = 10 ∧ cf[9]? = some (.int (v.1 69))) ∧ (∃ ca len W b cl fa fo rd wk ps P Tr, jSt u jd o ca pa ph ta th len W b cl fa fo rd wk ps P Tr ∧ len ≤ 201600 ∧ pAU T f pp ee xs is e α q0 A0 lenJ len σ u) ∧ (rwI 0 u ∧ kn8 u ∧ cnI K u) ∧ acX κ T lo cnt p jd o pa ph ta th lenJ x kk pp ee f fc xs is e α B V D nm g ρ lv K q0 A0 fs σ u τ v := by
  obtain ⟨c1, c2, c3, c4, c5, c6⟩ := cap
  obtain ⟨inv, hi⟩ := tx_2 (by omega) hp hR
  have hi : pGi T f pp ee xs is e α (τ.2.2.1 32) inv := hi
  obtain ⟨Dd, ⟨Fn, Nn⟩, -⟩ := tx_6 (q0 := q0) (A0 := A0) (by omega) hp hR hi c1
  obtain ⟨τ', R6, z1, z2, z3, z4, z5, z7, z6, z8⟩ := r_decide (h0 := y) (ks := ks) (qs := qs) (n := n') (lo := 0) (S := S) (P := P) (A := A) (N := N) (g := g') (ρ := ρ') (len := len) (CD := pCd pp τ N S P A cnt) (m := x0) (y := (mE f pp ee e (is.map Prod.fst) (mIn is mI0)).2 α) (yc := yc) (q0 := q0) (A0 := A0) hq0 (by omega) (show gIs is [] (q0, [], []) = ((gIs is [] (q0, [], [])).1, (gIs is [] (q0, [], [])).2) from rfl) rfl (fun τ1 d => tx_7 (ks := ks) (h0 := y) (n := n') (yc := yc) (by omega) hn' hqs hp hR hi c2 c3 c4 d) Dd (fun X ⟨u, hu, hX⟩ => ⟨u, hi.1 u hu, (tx_gd (q0 := q0) (A0 := A0) (by omega) hp hR hi c1 u hu).ne (tx_nl hR u hu), hX⟩)
  obtain ⟨σ1, σ2, Ψ, Ls, ln, ct, cs, w, σ4, Fc, pl, ⟨s1, s2, s3, s4, s4c⟩, ⟨s5, s6, s7⟩, ⟨s8, s9⟩, s10⟩ := c_ac1 (x := x) (R6 := R6) (inv := inv) (q0 := q0) (A0 := A0) hq0 hT hn hp hR hV hB hsz hS n5 oR hκ hVσ hxl hx hl f2 f3 f4 f11 P0 J hlJ hpa hi c1 z2 c5 c6 hs0
  have AU : ∀ (len : Nat) (u : oSt), len ≤ 201600 → gMo lenJ len (onew σ2 (.inl (.int, ln 0, .inl (fun _ => 0))) (ln 0)) u → pAU T f pp ee xs is e α q0 A0 lenJ len σ u := fun len u hl hm => by
    obtain ⟨⟨-, g1, g2⟩, g3, g4⟩ := s4c
    obtain ⟨⟨v, ga⟩, -, -, -, nl, -⟩ := s3
    obtain ⟨d, c, mc, q1, -, r, q2, q3⟩ := ga.2.2.1
    obtain ⟨⟨e0, e1, e2⟩, -, -⟩ := ga.2.2.2.2
    obtain ⟨-, -, ⟨k, m1, m2⟩, m3⟩ := hm
    have t := tmP_le (kq := xs.length) (σ := σ1) ((is.map Prod.fst ++ tW e).map (fun u => (nm u).getD 0))
    rw [List.length_map, List.length_append, List.length_map] at t
    exact ac_u hl g1 g2 g3 g4 t (q1 0 (by decide)).2 (q1 1 (by decide)).2 (q1 2 (by decide)).2 (q1 3 (by decide)).2 (q2 0 (by decide)) (q2 1 (by decide)) (q2 2 (by decide)) (q2 3 (by decide)) q3 e0 e1 e2 nl.1 m1 m2 m3
  have hp0 : ∀ w, 0 ≤ pp w := hp.2.2.2.2.2.2.1.2
  have epl : pl = τ'.1 69 := pl_uq Nn hp0 s8 z3 s9 z4
  have e67 : τ.1 66 = 1 := hR.1
  have zr : zF y qs ks T (n' + 9) 111 [.ref y] τ = some (some (.int (if 0 ≤ pl then 0 else 1)), zI (zI τ' 68 (if 0 ≤ τ'.1 69 then 0 else 1)) 67 1) := by
    rw [zE_accepted]
    unfold b_accepted
    rw [if_neg (by rw [e67]; decide), if_pos h67, z1, zcv_at]
    unfold j_accepted_20
    show some (some (Value.int ((zI (zI τ' 68 (if 0 ≤ τ'.1 69 then 0 else 1)) 67 1).1 68)), zI (zI τ' 68 (if 0 ≤ τ'.1 69 then 0 else 1)) 67 1) = _
    rw [zI_ne (by decide), zI_eq, epl]
  have v69 : (zI (zI τ' 68 (if 0 ≤ τ'.1 69 then 0 else 1)) 67 1).1 69 = τ'.1 69 := by rw [zI_ne (by decide), zI_ne (by decide)]
  have hfr := oR.2.1
  have lt : ∀ {b : Nat} {c : oC}, σ.1 b = some c → b < σ.2.1 := fun {b c} e => Nat.lt_of_not_le (fun z => by rw [hfr b z] at e; cases e)
  have g2 : σ.2.1 + 6 ≤ σ2.2.1 := s3.2.2.2.1.2.1
  refine ⟨oput σ4 x (.inr (14, (fs.set 4 (.ref σ.2.1)).set 5 (.int pl))), zI (zI τ' 68 (if 0 ≤ τ'.1 69 then 0 else 1)) 67 1, ?_, ⟨fun b k gs eb hk => ?_, fun b c eb hc hb => ?_, fun b gs eb => ?_, fun b gs eb => ?_, ?_⟩, ?_, ⟨by rw [zI_eq], by rw [v69, zI_ne (by decide), zI_eq], fun k hk => z5 k hk, z7, fun k h1 h2 h3 h4 => by rw [zI_ne h3, zI_ne h4]; exact z6 k h1 h2⟩, ⟨((chF p V.2.1 jd σ.2.1).set 8 (.int w)).set 9 (.int pl), ?_, rfl, by rw [v69, ← epl]; rfl⟩, ?_, ⟨?_, ?_, ?_⟩, inv, R6, Ψ, Ls, σ2, ln, ct, cs, w, σ4, Fc, ⟨hi, z8.cg rfl⟩, ⟨s3, by rw [v69, ← epl]; exact s5, by rw [v69, ← epl], _, s7⟩, s8, z3⟩
  · show lcpI (oF κ T (n + 6) 179 [va_rf (some x)] σ) (zF y qs ks T (n' + 9) 111 [.ref y] τ) = _
    rw [s10, zr]
    show (if (if 0 ≤ pl then (0 : Int32) else 1) = (if 0 ≤ pl then 0 else 1) then some _ else none) = _
    rw [if_pos rfl]
  · have hk : ∀ q, q ∈ [2, 3, 4, 6, 7, 8, 14] → k ≠ q := fun q hq z => hk (by rw [z]; exact hq)
    have bx : b ≠ x := fun z => by
      rw [z, hx] at eb
      injection eb with eb; injection eb with eb; injection eb with eb _
      exact hk 14 (by decide) eb.symm
    have e1 : σ1.1 b = some (.inr (k, gs)) := by rw [s1.1 b (lt eb) bx]; exact eb
    have e2 : σ2.1 b = some (.inr (k, gs)) := (s4.1 b _ e1 ⟨⟨hk 2 (by decide), hk 6 (by decide), hk 7 (by decide)⟩, fun _ i _ => by have := lt eb; show b ≠ σ.2.1 + 1 + i; omega⟩).1
    have e3 : (onew σ2 (.inl (.int, ln 0, .inl (fun _ => 0))) (ln 0)).1 b = some (.inr (k, gs)) := by
      rw [onew_ne (by have := lt eb; omega)]; exact e2
    rw [oput_ne bx]
    exact s5.2.1.o e3 (hk 3 (by decide)) (hk 8 (by decide)) (hk 4 (by decide)) (hk 6 (by decide)) (hk 2 (by decide))
  · have bx : b ≠ x := fun z => by rw [z, hx] at eb; cases eb
    obtain ⟨e1, e1'⟩ := jS1.qa n5 oR hκ hx s1 eb
    have e2 := (s4.ar e1 e1').1
    have e3 : (onew σ2 (.inl (.int, ln 0, .inl (fun _ => 0))) (ln 0)).1 b = some (.inl c) := by
      rw [onew_ne (by have := lt eb; omega)]; exact e2
    rw [oput_ne bx]
    refine s5.2.1.a e3 hc hb (fun _ hq => ?_)
    have := lt eb
    rcases hq with hq | hq
    · have := s3.2.2.2.1.1 b hq
      omega
    · omega
  · have bx : b ≠ x := fun z => by
      rw [z, hx] at eb
      injection eb with eb; injection eb with eb; injection eb with eb _
      exact absurd eb (by decide)
    have e1 : σ1.1 b = some (.inr (7, gs)) := by rw [s1.1 b (lt eb) bx]; exact eb
    obtain ⟨gs', e2, e3, e4⟩ := s4.2.2.1 b gs e1
    have e5 : (onew σ2 (.inl (.int, ln 0, .inl (fun _ => 0))) (ln 0)).1 b = some (.inr (7, gs')) := by
      rw [onew_ne (by have := lt eb; omega)]; exact e2
    exact ⟨gs', by rw [oput_ne bx]; exact s5.2.1.o e5 (by decide) (by decide) (by decide) (by decide) (by decide), e3, e4⟩
  · have bx : b ≠ x := fun z => by
      rw [z, hx] at eb
      injection eb with eb; injection eb with eb; injection eb with eb _
      exact absurd eb (by decide)
    have e1 : σ1.1 b = some (.inr (6, gs)) := by rw [s1.1 b (lt eb) bx]; exact eb
    obtain ⟨gs', e2, e3, e4⟩ := s4.2.1 b gs e1
    have e5 : (onew σ2 (.inl (.int, ln 0, .inl (fun _ => 0))) (ln 0)).1 b = some (.inr (6, gs')) := by
      rw [onew_ne (by have := lt eb; omega)]; exact e2
    obtain ⟨hs, e6, e7, e8⟩ := s5.2.1.2.2.1 b gs' e5
    exact ⟨hs, by rw [oput_ne bx]; exact e6, e7.trans e3, fun i hi => (e8 i (by omega) (by omega)).trans (e4 i (by omega) (fun z => by omega))⟩
  · have := s5.2.1.2.2.2
    have : σ2.2.1 + 1 ≤ σ4.2.1 := this
    show σ.2.1 ≤ σ4.2.1
    omega
  · rw [v69, ← epl]
    exact oput_eq _ _ _
  · rw [oput_ne (by have := lt hx; omega)]
    exact s5.2.2.2.2.2
  · obtain ⟨ca', len', W', b', cl', fa', fo', rd', wk', ps', P', Tr', J', hl', hm'⟩ := s5.1
    refine ⟨ca', len', W', b', cl', fa', fo', rd', wk', ps', P', Tr', J'.cg (fun c hc => oput_ne (fun z => ?_)), hl', AU _ _ hl' hm'⟩
    obtain ⟨a1, ⟨a2, a3⟩, ⟨gp, hp, a4, a5, -⟩, ⟨gt, ht, a6, a7, -⟩, -⟩ := J'
    have no : ∀ {c : Nat} {cc : oC}, σ4.1 c = some cc → c = x → cc = .inr (14, fs.set 4 (.ref σ.2.1)) := fun {c cc} e1 e2 => by
      rw [e2, s7] at e1
      injection e1 with e1
      exact e1.symm
    rcases hc with q | q | q | q | q | q | q <;> rw [q] at z
    · have := no a1 z; injection this with this; injection this with this _; exact absurd this (by decide)
    · have := no a2 z; injection this with this; injection this with this _; exact absurd this (by decide)
    · cases no a3 z
    · cases no a4 z
    · cases no a5 z
    · cases no a6 z
    · cases no a7 z
  · exact s5.2.2.2.2.1.1.pu s7 (fun fs' i r ec hi er => by injection ec with ec; injection ec with ec _; exact absurd ec (by decide))
  · exact s5.2.2.2.2.1.2.1.pu (fun fs' ec => by injection ec with ec; injection ec with ec _; exact absurd ec (by decide))
  · exact s5.2.2.2.2.1.2.2
end LA1
