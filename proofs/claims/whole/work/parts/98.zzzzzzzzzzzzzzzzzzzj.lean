/-! the class's Judge once more: matches never wait, so they weigh nothing -/
/-- a comparison that never waits -/
def jNw (σ : oSt) (m : Nat) : Prop := ∃ fs r, σ.1 m = some (.inr (7, fs)) ∧ fs[0]? = some (.int 403) ∧ fs[5]? = some (.int (jRc r)) ∧ 1 ≤ r ∧ r ≤ 4
/-- node m means Mn m; one that never waits may weigh nothing -/
def jMz (X : Nat → Prop) (κ : oKv) (σ : oSt) (pa ph ta th : Nat) (rd : Int32) (sl ti : Nat → Nat) (c : Nat) (B : Int) (Mn : Nat → Bool → List oBr) (H a m : Nat) : Prop := jMn X κ σ pa ph ta th rd sl ti c B Mn H a m ∨ (a = 0 ∧ jMn X κ σ pa ph ta th rd sl ti c B Mn H 1 m ∧ jNw σ m)
section JMZ
variable {κ : oKv} {T : Nat} {j o ca pa ph ta th len W b c : Nat} {cl : Int32} {rd : Int32} {wk : Option Nat} {ps : Int32} {B : Int} {sl ti : Nat → Nat} {Mn : Nat → Bool → List oBr} {X : Nat → Prop} {σ σ' : oSt} {H a m : Nat}
theorem jMz.jk (k : jKp pa ph ta th σ σ') (h : jMz X κ σ pa ph ta th rd sl ti c B Mn H a m) : jMz X κ σ' pa ph ta th rd sl ti c B Mn H a m := by
  rcases h with h | ⟨h1, h2, fs, r, n1, n2⟩
  · exact Or.inl (jMn.jk k _ _ _ h)
  · exact Or.inr ⟨h1, jMn.jk k _ _ _ h2, fs, r, k.1 _ _ n1 ⟨by show (7 : Nat) ≠ 3; decide, by show (7 : Nat) ≠ 8; decide⟩, n2⟩
theorem jMz.jw (k : jKw X pa ph ta th σ σ') (h : jMz X κ σ pa ph ta th rd sl ti c B Mn H a m) : jMz X κ σ' pa ph ta th rd sl ti c B Mn H a m := by
  rcases h with h | ⟨h1, h2, fs, r, n1, n2⟩
  · exact Or.inl (jMn.jw k _ _ _ h)
  · exact Or.inr ⟨h1, jMn.jw k _ _ _ h2, fs, r, k.1 _ _ n1 ⟨by show (7 : Nat) ≠ 3; decide, by show (7 : Nat) ≠ 8; decide⟩ (by show ¬ ((7 : Nat) = 4); decide), n2⟩
theorem c_assumeZ (hT : 200 ≤ T) (hc : 0 < c ∧ c ≤ 60) (hWc : W = 2 * c) (hl : len < 2 ^ 31) (hm : b + W * W ≤ len) (hB : 1 ≤ B) (hBW : (W : Int) * B + B + 2 ≤ 4503599627370496) (H a m n : Nat) (σ : oSt) (f : Nat → Int64) (fa : Int32) (P Tr : List (Nat × Bool)) (L : List oLm) (h : Bool) (hn : H + 6 ≤ n) (hM : jMz X κ σ pa ph ta th rd sl ti c B Mn H a m) (J : jSt σ j o ca pa ph ta th len W b cl fa f rd wk ps P Tr) (hv : oLv cl B W b L f fa) (hL : xLn B W L) (hP : P.length + a < 40) (hTr : Tr.length + a ≤ 40) : aOut X H κ j o ca pa ph ta th len W b c cl rd wk ps B sl ti Mn (oF κ T n 56 [va_rf (some j), va_rf (some m), .int (b01 h)] σ) (Mn m h) a σ f P Tr L := by
  rcases hM with hM | ⟨rfl, hM, fs', r', n1, n2, n3, n4, n5⟩
  · exact c_assume hT hc hWc hl hm hB hBW H a m n σ f fa P Tr L h hn hM J hv hL (by omega) hTr
  · match H, hM, hn with
    | H + 1, hM, hn =>
      obtain ⟨n, rfl⟩ : ∃ n', n = n' + 5 := ⟨n - 5, by omega⟩
      obtain ⟨fs, h1, -, hM⟩ := hM
      have ef : fs = fs' := by
        rw [h1] at n1
        injection n1 with e
        injection e with e
        injection e with e e2
      subst ef
      have no : ∀ {v : Int32}, fs[0]? = some (.int v) → ¬ v = 403 → False := fun e z => by
        rw [n2] at e
        injection e with e
        injection e with e
        exact z e.symm
      rw [oE_X1_assume]
      unfold ob_X1_assume
      rcases hM with ⟨e, -⟩ | ⟨an, li, dd, cap, q, mc, g, xs, e, -⟩ | ⟨bo, e, -⟩ | ⟨x, gs, e, -⟩ | ⟨su, Ls, pl, r, e, e1, e2, e4, ⟨e5, e6⟩, e3⟩
      · exact (no e (by decide)).elim
      · exact (no e (by cases an <;> decide)).elim
      · exact (no e (by cases bo <;> decide)).elim
      · exact (no e (by decide)).elim
      · have f0 : ofd σ (some m) 7 0 = some (.int 403) := (ofd_at h1).trans e
        rw [f0, ovi_i, obn_at, if_neg (by decide), if_neg (by decide), if_neg (by decide), if_neg (by decide), if_pos rfl, oob_at J.1, obn_at]
        obtain ⟨σ', f', fa', P', L', a1, a2, a3, a4, a5, a6, a7, a8⟩ := c_cmp55 (κ := κ) (T := T) (n := n) (h := h) hT hc hWc hl hm (by omega) hBW hL J hv e5 h1 n3 e4 (by omega) (by omega)
        rw [a1, ocv_at]
        have er : r = r' := by
          rw [e1] at n3
          injection n3 with n3
          injection n3 with n3
          have d : ∀ a, a < 6 → ∀ b, b < 6 → jRc a = jRc b → a = b := by decide
          exact d r (by omega) r' (by omega) n3
        subst er
        rcases a8 with ⟨z, -, -⟩ | ⟨rfl, A, z, zz⟩
        · exfalso
          have d : ∀ r, r < 5 → 1 ≤ r → ∀ h : Bool, ¬ (if h = true then r else rNo r) = 5 := by decide
          exact d r (by omega) n4 h z
        · have mon : xOk (xC L') → xOk (xC L) := fun k => by
            rw [zz] at k
            exact xOk.mono (fun l w => List.mem_append_right _ w) k
          refine ⟨σ', f', fa', P', Tr, L', rfl, a2, ⟨a3, a4⟩, a5, a6, a7, ⟨by omega, by omega⟩, ⟨⟨[], (List.append_nil _).symm, (by show 0 + Tr.length ≤ _; omega), fun x hx => (by cases hx), fun K hK => ?_⟩, [], (List.append_nil _).symm⟩, fun k kO => k (mon kO), mon⟩
          rw [e3 h, z, exB.one]
          exact hK.1.iff zz (fun u => Iff.rfl)
end JMZ
section JZ2
variable {lo : Nat × (Nat → Prop)} {κ : oKv} {T j o pa ph ta th W c ca len : Nat} {rd : Int32} {wk : Option Nat} {ps : Int32} {B : Int} {sl ti : Nat → Nat} {Mn : Nat → Bool → List oBr} {X : Nat → Prop} {bs : Nat → Int32} {kn : Nat → Nat}
theorem c_bgz {N Hm : Nat} {at' : Nat → Nat} {ms : List Nat} {Dk : Nat → Bool × List (Nat × kTe) × List kFc} (hT : 100200 ≤ T) (hJ : pa < lo.1 ∧ ph < lo.1 ∧ ta < lo.1 ∧ th < lo.1) (hc : 0 < c ∧ c ≤ 60) (hWc : W = 2 * c) (hl : len < 2 ^ 31) (hm : W * W ≤ len) (hB : 2 ≤ B) (hBW : (W : Int) * B + B + 2 ≤ 4503599627370496) (hN : Hm + 6 ≤ N) : ∀ (Sc : List sEn) (s : Option Nat) (t A0 : Nat) (σ : oSt) (f : Nat → Int64) (fa : Int32) (Tr : List (Nat × Bool)) (L : List oLm) (Z : List ((Nat × Bool) × Nat)) (Wy : List (List oBr)) (Lp : List oLm), cScp bs kn σ Sc s → Sc.length < t → (∀ a, a ∈ msL bs Sc → kInf lo σ B ms (kn a) (Dk a) ∧ a ∈ ms) → (∀ a, a ∈ ms → nSl σ rd sl c a) → (∀ x, x ∈ tsL Sc → jMz X κ σ pa ph ta th rd sl ti c B Mn Hm (at' x.1) x.1) → A0 + ((tsL Sc).map (fun x => at' x.1)).sum ≤ 20 → bgI X κ j o ca pa ph ta th len W c rd wk ps B sl ti Mn Hm A0 σ f fa Tr L Z Wy Lp → ∃ σ' f' fa' Tr' L' Z', ol_X1_begin_104 T (oF κ T N) κ t (some j) s σ = some (none, σ') ∧ jK4 pa ph ta th σ σ' ∧ σ'.2 = σ.2 ∧ bgI X κ j o ca pa ph ta th len W c rd wk ps B sl ti Mn Hm (A0 + ((tsL Sc).map (fun x => at' x.1)).sum) σ' f' fa' Tr' L' Z' (Wy ++ (tsL Sc).map (fun x => Mn x.1 x.2)) ((msL bs Sc).flatMap (fun a => lrnL sl (sl a) (Dk a).1 (Dk a).2.1 (Dk a).2.2) ++ Lp)
  | [], s, t, A0, σ, f, fa, Tr, L, Z, Wy, Lp, hS, ht, hK, hn, hM, hA, hI => by
    obtain ⟨t, rfl⟩ : ∃ t', t = t' + 1 := ⟨t - 1, by omega⟩
    have hS : s = none := hS
    subst hS
    refine ⟨σ, f, fa, Tr, L, Z, by rw [ol_X1_begin_104, if_pos rfl], jK4.rf σ, rfl, ?_⟩
    show bgI X κ j o ca pa ph ta th len W c rd wk ps B sl ti Mn Hm A0 σ f fa Tr L Z (Wy ++ []) Lp
    rw [List.append_nil]
    exact hI
  | .inl a :: r, s, t, A0, σ, f, fa, Tr, L, Z, Wy, Lp, ⟨q, ou, v2, g1, g2, ⟨fs, g3, g4, g5, g6⟩, g7⟩, ht, hK, hn, hM, hA, hI => by
    obtain ⟨t, rfl⟩ : ∃ t', t = t' + 1 := ⟨t - 1, by omega⟩
    obtain ⟨N, rfl⟩ : ∃ N', N = N' + 4 := ⟨N - 4, by omega⟩
    subst g1
    have q0 : ofd σ (some q) 10 0 = some (.ref a) := ofd_at g2
    have q1 : ofd σ (some q) 10 1 = some (va_rf none) := ofd_at g2
    have q3 : ofd σ (some q) 10 3 = some (va_rf ou) := ofd_at g2
    have mes := c_meas (κ := κ) (T := T) (n := N + 3) g3 g5
    have ht' : r.length < t := by have := ht; simp only [List.length_cons] at this; omega
    by_cases z : isM (bs a) = true
    · have eM : msL bs (.inl a :: r) = a :: msL bs r := if_pos z
      rw [eM] at hK ⊢
      obtain ⟨⟨w, ra, sa, kf, kd, k1, k2, k3, k4, k5, k6⟩, ham⟩ := hK a (List.mem_cons_self ..)
      obtain ⟨nf, n1, n2, n3, n4⟩ := hn a ham
      have enf : nf = fs := by
        rw [n1] at g3
        injection g3 with e
        injection e with e
        injection e with e e2
      subst enf
      obtain ⟨J, i2, i3, i4, i5, i6, i7⟩ := hI
      obtain ⟨σ1, f1, fa1, L1, b1, b2, b3, b4, b5, b6, b7, b8⟩ := c_learn (κ := κ) (T := T) (n := N) (s := sl a) (sl := sl) (b := 0) hT hJ hc hWc hl (by omega) hB hBW i3 J i2 k1 k2 k4 k5 (fun x hx => ⟨fun a' e' w' => hn a' ((k6 x hx).1 a' e' w'), (k6 x hx).2⟩) n4
      rw [← k3] at b6
      have K1 : jKb pa ph ta th σ σ1 := b3.b
      have I1 : bgI X κ j o ca pa ph ta th len W c rd wk ps B sl ti Mn Hm A0 σ1 f1 fa1 Tr L1 Z Wy (lrnL sl (sl a) (Dk a).1 (Dk a).2.1 (Dk a).2.2 ++ Lp) := by
        refine ⟨b2, b5, b7, fun y hy => ⟨jMn.jw b3.kw _ _ _ (i4 y hy).1, (i4 y hy).2.jw (X := X) b3.kw⟩, i5, fun hO => i6 ?_, fun K hK' => ?_⟩
        · rw [b6] at hO
          exact xOk.mono (fun l w => List.mem_append_right _ w) hO
        · rw [(exL.inv hK'.1 _).iff b6 (fun x => Iff.rfl), exL.sh hK'.1, i7 _ (hK'.sh _), ← exL.sh hK'.1]
      obtain ⟨σ', f', fa', Tr', L', Z', r1, r2, r3, r4⟩ := c_bgz (at' := at') (Dk := Dk) hT hJ hc hWc hl hm hB hBW hN r ou t A0 σ1 f1 fa1 Tr L1 Z Wy (lrnL sl (sl a) (Dk a).1 (Dk a).2.1 (Dk a).2.2 ++ Lp) (cScp.kb K1 r ou g7) ht' (fun a' ha' => ⟨(hK a' (List.mem_cons_of_mem _ ha')).1.kb hJ K1, (hK a' (List.mem_cons_of_mem _ ha')).2⟩) (fun a' ha' => (hn a' ha').k4 b3) (fun x hx => jMz.jw b3.kw (hM x hx)) hA I1
      refine ⟨σ', f', fa', Tr', L', Z', ?_, b3.tr r2, r3.trans b4, ?_⟩
      · have f4 : ofd σ (some a) 6 4 = some (.ref (kn a)) := (ofd_at g3).trans (g6 z)
        have f6 : ofd σ (some a) 6 6 = some (.int (nI (sl a))) := (ofd_at g3).trans n2
        have q3' : ofd σ1 (some q) 10 3 = some (va_rf ou) := ofd_at (K1.ob g2 (by decide) (by decide) (by decide) (by decide))
        rw [ol_X1_begin_104, if_neg (by simp), q1, ovr_va, obn_at, if_pos rfl, q0, ovr_rf, obn_at, oob_at g3, obn_at, mes, z, oin_at, if_neg (by decide), q0, ovr_rf, obn_at, f4, ovr_rf, obn_at, if_neg (by simp), obn_at, f4, ovr_rf, obn_at, obn_at, f6, ovi_i, obn_at, oob_at J.1, obn_at, b1, ocv_at]
        unfold oj_X1_begin_176
        rw [q3', ovr_va, obn_at]
        exact r1
      · rw [List.flatMap_cons]
        obtain ⟨u1, u2, u3, u4, u5, u6, u7⟩ := r4
        refine ⟨u1, u2, u3, u4, u5, u6, fun K hK' => ?_⟩
        rw [u7 K hK']
        refine (exL.inv hK'.1 _).iff (xC.cg fun l => ?_) (fun x => Iff.rfl)
        simp only [List.mem_append]
        exact ⟨fun z => by rcases z with z | z | z <;> simp [z], fun z => by rcases z with (z | z) | z <;> simp [z]⟩
    · have eM : msL bs (.inl a :: r) = msL bs r := if_neg z
      rw [eM] at hK ⊢
      obtain ⟨σ', f', fa', Tr', L', Z', r1, r2, r3, r4⟩ := c_bgz (at' := at') (Dk := Dk) hT hJ hc hWc hl hm hB hBW hN r ou t A0 σ f fa Tr L Z Wy Lp g7 ht' hK hn hM hA hI
      refine ⟨σ', f', fa', Tr', L', Z', ?_, r2, r3, r4⟩
      rw [ol_X1_begin_104, if_neg (by simp), q1, ovr_va, obn_at, if_pos rfl, q0, ovr_rf, obn_at, oob_at g3, obn_at, mes, show isM (bs a) = false by simpa using z, oin_at, if_pos (by decide)]
      unfold oj_X1_begin_176
      rw [q3, ovr_va, obn_at]
      exact r1
  | .inr (m, hh) :: r, s, t, A0, σ, f, fa, Tr, L, Z, Wy, Lp, ⟨q, ou, g1, g2, g7⟩, ht, hK, hn, hM, hA, hI => by
    obtain ⟨t, rfl⟩ : ∃ t', t = t' + 1 := ⟨t - 1, by omega⟩
    subst g1
    have q1 : ofd σ (some q) 10 1 = some (.ref m) := ofd_at g2
    have q2 : ofd σ (some q) 10 2 = some (.int (b01 hh)) := ofd_at g2
    have ht' : r.length < t := by have := ht; simp only [List.length_cons] at this; omega
    have eA : ((tsL (.inr (m, hh) :: r)).map (fun x => at' x.1)).sum = at' m + ((tsL r).map (fun x => at' x.1)).sum := rfl
    rw [eA] at hA ⊢
    have mM := hM (m, hh) (List.mem_cons_self ..)
    obtain ⟨J, i2, i3, i4, i5, i6, i7⟩ := hI
    have zl : (Z.map Prod.fst).length ≤ (Z.map Prod.snd).sum := by
      have := wZ_le Z (fun z hz => (i4 z hz).1.nd.2)
      have h2 : Z.length ≤ (Z.map Prod.snd).sum := by
        have gen : ∀ l : List ((Nat × Bool) × Nat), (∀ y, y ∈ l → 1 ≤ y.2) → l.length ≤ (l.map Prod.snd).sum := fun l => by
          induction l with
          | nil => exact fun _ => Nat.le_refl _
          | cons y l il =>
            intro hy
            have := il (fun w hw => hy w (List.mem_cons_of_mem _ hw))
            have := hy y (List.mem_cons_self ..)
            simp only [List.map_cons, List.sum_cons, List.length_cons]
            omega
        exact gen Z (fun z hz => (i4 z hz).1.nd.2)
      rw [List.length_map]
      exact h2
    obtain ⟨σ1, f1, fa1, P1, Tr1, L1, a1, a2, ⟨a3, a4⟩, a5, a6, a7, ⟨a8, a8'⟩, ⟨⟨Zn, z1, z2, z3, z4⟩, Y, a10⟩, a12, a13⟩ := c_assumeZ (κ := κ) (T := T) (X := X) (ti := ti) (b := 0) (cl := 0) (by omega) hc hWc hl (by omega) (by omega) hBW Hm (at' m) m N σ f fa (Z.map Prod.fst) Tr L hh hN mM J i2 i3 (by omega) (by omega)
    have eP : P1 = (Z ++ Zn).map Prod.fst := by rw [z1, List.map_append]
    subst eP
    have I1 : bgI X κ j o ca pa ph ta th len W c rd wk ps B sl ti Mn Hm (A0 + at' m) σ1 f1 fa1 Tr1 L1 (Z ++ Zn) (Wy ++ [Mn m hh]) Lp := by
      refine ⟨a2, a5, a6, fun y hy => ?_, by rw [List.map_append, List.sum_append]; omega, a12 i6, fun K hK' => ?_⟩
      · rcases List.mem_append.mp hy with hy | hy
        · exact ⟨jMn.jk a3 _ _ _ (i4 y hy).1, (i4 y hy).2.jk a3⟩
        · exact z3 y hy
      · have eM : pMn Mn ((Z ++ Zn).map Prod.fst) = pMn Mn (Z.map Prod.fst) ++ pMn Mn (Zn.map Prod.fst) := by unfold pMn; rw [List.map_append, List.map_append]
        rw [eM, exL.app, exL.swap hK'.1, z4 _ (exL.d hK' _), ← exL.pull hK'.1, i7 _ (exB.d hK'), exL.app]
        rfl
    have K1 : jKb pa ph ta th σ σ1 := a3.k4.b
    obtain ⟨σ', f', fa', Tr', L', Z', r1, r2, r3, r4⟩ := c_bgz (at' := at') (Dk := Dk) hT hJ hc hWc hl hm hB hBW hN r ou t (A0 + at' m) σ1 f1 fa1 Tr1 L1 (Z ++ Zn) (Wy ++ [Mn m hh]) Lp (cScp.kb K1 r ou g7) ht' (fun a' ha' => ⟨(hK a' ha').1.kb hJ K1, (hK a' ha').2⟩) (fun a' ha' => (hn a' ha').jk a3) (fun x hx => jMz.jk a3 (hM x (List.mem_cons_of_mem _ hx))) (by omega) I1
    refine ⟨σ', f', fa', Tr', L', Z', ?_, a3.k4.tr r2, r3.trans a4, ?_⟩
    · have q3' : ofd σ1 (some q) 10 3 = some (va_rf ou) := ofd_at (K1.ob g2 (by decide) (by decide) (by decide) (by decide))
      rw [ol_X1_begin_104, if_neg (by simp), q1, ovr_rf, obn_at, if_neg (by simp), obn_at, q2, ovi_i, obn_at, oob_at J.1, obn_at, a1, ocv_at]
      unfold oj_X1_begin_176
      rw [q3', ovr_va, obn_at]
      exact r1
    · rw [List.append_assoc, Nat.add_assoc] at r4
      exact r4
end JZ2
section JZE
variable {lo : Nat × (Nat → Prop)} {κ : oKv} {T j o pa ph ta th : Nat} {rd : Int32} {wk : Option Nat} {ps : Int32} {B : Int} {ti : Nat → Nat} {Mn : Nat → Bool → List oBr} {X : Nat → Prop} {bs : Nat → Int32} {kn : Nat → Nat}
theorem c_jbegz {N Hm ca len W0 b0 : Nat} {cl0 fa0 : Int32} {σ : oSt} {f : Nat → Int64} {P Tr : List (Nat × Bool)} {at' : Nat → Nat} {Dk : Nat → Bool × List (Nat × kTe) × List kFc} {Sc : List sEn} {s x2 : Option Nat} {Dl : Option (Bool × List (Nat × kTe) × List kFc)} (hT : 100200 ≤ T) (hJ : pa < lo.1 ∧ ph < lo.1 ∧ ta < lo.1 ∧ th < lo.1) (hB : 2 ≤ B) (hBW : ((2 * ((msL bs Sc).length + 1) : Nat) : Int) * B + B + 2 ≤ 4503599627370496) (hN : Hm + 6 ≤ N) (J : jSt σ j o ca pa ph ta th len W0 b0 cl0 fa0 f rd wk ps P Tr) (hl : len ≤ 201600) (hfr : ∀ q, σ.2.1 ≤ q → σ.1 q = none) (hS : cScp bs kn σ Sc s) (hSl : Sc.length < T) (hnd : (msL bs Sc).Nodup) (hml : (msL bs Sc).length + 1 ≤ 60) (hK : ∀ a, a ∈ msL bs Sc → kInf lo σ B (msL bs Sc) (kn a) (Dk a)) (hD : (x2 = none ∧ Dl = none) ∨ ∃ k D, x2 = some k ∧ Dl = some D ∧ kInf lo σ B (msL bs Sc) k D) (hM : ∀ σ1, jKb pa ph ta th σ σ1 → (∀ a, a ∈ msL bs Sc → nSl σ1 (rd + 1) (slO (msL bs Sc)) ((msL bs Sc).length + 1) a) → ∀ x, x ∈ tsL Sc → jMz X κ σ1 pa ph ta th (rd + 1) (slO (msL bs Sc)) ti ((msL bs Sc).length + 1) B Mn Hm (at' x.1) x.1) (hA : ((tsL Sc).map (fun x => at' x.1)).sum ≤ 20) : ∃ σ' ca' len' f' fa' Tr' L' Z', oF κ T (N + 1) 57 [va_rf (some j), va_rf s, va_rf x2] σ = some (none, σ') ∧ jKb pa ph ta th σ σ' ∧ (∀ a, a ∈ msL bs Sc → nSl σ' (rd + 1) (slO (msL bs Sc)) ((msL bs Sc).length + 1) a) ∧ gMo len len' σ σ' ∧ 2 * ((msL bs Sc).length + 1) * (2 * ((msL bs Sc).length + 1)) ≤ len' ∧ len' ≤ 201600 ∧ bgI X κ j o ca' pa ph ta th len' (2 * ((msL bs Sc).length + 1)) ((msL bs Sc).length + 1) (rd + 1) wk ps B (slO (msL bs Sc)) ti Mn Hm ((tsL Sc).map (fun x => at' x.1)).sum σ' f' fa' Tr' L' Z' ((tsL Sc).map (fun x => Mn x.1 x.2)) ((msL bs Sc).flatMap (fun a => lrnL (slO (msL bs Sc)) (slO (msL bs Sc) a) (Dk a).1 (Dk a).2.1 (Dk a).2.2) ++ lfL (slO (msL bs Sc)) Dl) := by
  generalize hms : msL bs Sc = ms at *
  obtain ⟨N, rfl⟩ : ∃ N', N = N' + 4 := ⟨N - 4, by omega⟩
  have f7 : ofd σ (some j) 3 7 = some (.int rd) := ofd_at J.1
  obtain ⟨s1, s2, σ1, p1, p2, p3, J1, p5, p6⟩ := j_rd J
  obtain ⟨σ2, b1, b2, b3⟩ := c_bg25 (κ := κ) (T := T) (n := N + 3) (bs := bs) (kn := kn) (rd := rd + 1) (j := j) (x1 := s) (x2 := x2) Sc s T 1 σ1 (cScp.kb p5.k4.b Sc s hS) (by rw [hms]; exact hnd) (by omega) ⟨_, J1.1, rfl⟩
  rw [hms] at b1 b2 b3
  have J2 : jSt σ2 j o ca pa ph ta th len W0 b0 cl0 fa0 f (rd + 1) wk ps [] [] := by
    obtain ⟨h1, ⟨h2, h3⟩, ⟨gp, hp, h4, h5, h6⟩, ⟨gt, ht, h7, h8, h9⟩, h10, h11⟩ := J1
    have no6 : ∀ {x : Nat} {cc : oC}, σ1.1 x = some cc → (∀ fs, cc ≠ .inr (6, fs)) → σ2.1 x = some cc := fun e h => b2.ot e h
    refine ⟨no6 h1 (fun fs w => ?_), ⟨no6 h2 (fun fs w => ?_), no6 h3 (fun fs w => by cases w)⟩, ⟨gp, hp, no6 h4 (fun fs w => by cases w), no6 h5 (fun fs w => by cases w), h6⟩, ⟨gt, ht, no6 h7 (fun fs w => by cases w), no6 h8 (fun fs w => by cases w), h9⟩, h10, h11⟩
    · injection w with w
      injection w with w
      exact absurd w (by decide)
    · injection w with w
      injection w with w
      exact absurd w (by decide)
  have K2 : jKb pa ph ta th σ σ2 := p5.k4.b.tr b2.b
  obtain ⟨σ3, ca', len', f3, r1, J3, r3, r4, r5, r6, r7⟩ := j_reset (κ := κ) (T := T) (n := N + 1) (u := ms.length + 1) (by omega) hml J2 hl (K2.fr hfr)
  have K3 : jKb pa ph ta th σ σ3 := K2.tr r3.k4.b
  have n3 : ∀ a, a ∈ ms → nSl σ3 (rd + 1) (slO ms) (ms.length + 1) a := fun a ha => by
    have hi : ms.idxOf a < ms.length := List.idxOf_lt_length_iff.mpr ha
    obtain ⟨fs, c1, c2, c3⟩ := b3 (ms.idxOf a) a (by rw [List.getElem?_eq_getElem hi, List.getElem_idxOf hi])
    refine ⟨fs, r3.1 _ _ c1 ⟨by show (6 : Nat) ≠ 3; decide, by show (6 : Nat) ≠ 8; decide⟩, ?_, c3, ?_⟩
    · rw [c2]
      show _ = some (Value.int (nI (ms.idxOf a + 1)))
      rw [Nat.add_comm]
    · show ms.idxOf a + 1 < ms.length + 1
      omega
  have g2 : gMo len len' σ σ3 := by
    have : gMo len len σ σ2 := gMo.of2 (b2.2.1.trans p6)
    exact this.trans r4
  -- what is on the left
  have left : ∃ σ4 f4 fa4 L4, (if x2 = none then oj_X1_begin_101 T (oF κ T (N + 4)) κ (some j) s σ3 else obn (oob σ3 (some j) 3) fun a10 => ocv (oF κ T (N + 4) 50 [va_rf (some j), va_rf x2, .int 0] σ3) fun s12 => oj_X1_begin_101 T (oF κ T (N + 4)) κ (some j) s s12) = oj_X1_begin_101 T (oF κ T (N + 4)) κ (some j) s σ4 ∧ jK4 pa ph ta th σ3 σ4 ∧ σ4.2 = σ3.2 ∧ bgI X κ j o ca' pa ph ta th len' (2 * (ms.length + 1)) (ms.length + 1) (rd + 1) wk ps B (slO ms) ti Mn Hm 0 σ4 f4 fa4 [] L4 [] [] (lfL (slO ms) Dl) := by
    have I3 : bgI X κ j o ca' pa ph ta th len' (2 * (ms.length + 1)) (ms.length + 1) (rd + 1) wk ps B (slO ms) ti Mn Hm 0 σ3 f3 0 [] [] [] [] [] := ⟨J3, Or.inl ⟨rfl, r7.up (by omega)⟩, fun l h => (by cases h), fun z h => (by cases h), Nat.le_refl _, fun _ x b b' h => (by cases h), fun K hK' => Iff.rfl⟩
    rcases hD with ⟨rfl, rfl⟩ | ⟨k, D, rfl, rfl, hD⟩
    · exact ⟨σ3, f3, 0, [], if_pos rfl, jK4.rf σ3, rfl, I3⟩
    · obtain ⟨w, ra, sa, kf, kd, k1, k2, k3, k4, k5, k6⟩ := hD.kb hJ K3
      obtain ⟨σ4, f4, fa4, L4, b1, b2, b3, b4, b5, b6, b7, b8⟩ := c_learn (κ := κ) (T := T) (n := N) (s := 0) (sl := slO ms) (b := 0) (c := ms.length + 1) (B := B) (L := []) hT hJ ⟨by omega, hml⟩ rfl (by omega) (by omega) hB hBW (fun l h => by cases h) J3 (Or.inl ⟨rfl, r7.up (by omega)⟩) k1 k2 k4 k5 (fun x hx => ⟨fun a' e' w' => n3 a' ((k6 x hx).1 a' e' w'), (k6 x hx).2⟩) (by omega)
      rw [← k3, List.append_nil] at b6
      refine ⟨σ4, f4, fa4, L4, ?_, b3, b4, b2, b5, b7, fun z h => (by cases h), Nat.le_refl _, fun _ x b b' h => (by cases h), fun K hK' => hK'.1.iff b6 (fun x => Iff.rfl)⟩
      have b1 : oF κ T (N + 4) 50 [va_rf (some j), va_rf (some k), .int 0] σ3 = _ := b1
      rw [if_neg (by simp), oob_at J3.1, obn_at, b1, ocv_at]
  obtain ⟨σ4, f4, fa4, L4, l1, l2, l3, l4⟩ := left
  have K4 : jKb pa ph ta th σ σ4 := K3.tr l2.b
  have n4 : ∀ a, a ∈ ms → nSl σ4 (rd + 1) (slO ms) (ms.length + 1) a := fun a ha => (n3 a ha).k4 l2
  obtain ⟨σ5, f5, fa5, Tr5, L5, Z5, m1, m2, m3, m4⟩ := c_bgz (κ := κ) (T := T) (N := N + 4) (Hm := Hm) (at' := at') (ms := ms) (Dk := Dk) (bs := bs) (kn := kn) (ti := ti) (Mn := Mn) (X := X) (sl := slO ms) (len := len') (c := ms.length + 1) (B := B) hT hJ ⟨by omega, hml⟩ rfl (by omega) r5 hB hBW hN Sc s T 0 σ4 f4 fa4 [] L4 [] [] (lfL (slO ms) Dl) (cScp.kb K4 Sc s hS) (by omega) (fun a ha => by rw [hms] at ha; exact ⟨(hK a ha).kb hJ K4, ha⟩) n4 (hM σ4 K4 n4) (by rw [Nat.zero_add]; exact hA) l4
  rw [hms, Nat.zero_add, List.nil_append] at m4
  have g5 : gMo len len' σ σ5 := g2.trans (gMo.of2 (m3.trans l3))
  refine ⟨σ5, ca', len', f5, fa5, Tr5, L5, Z5, ?_, K4.tr m2.b, fun a ha => (n4 a ha).k4 m2, g5, r5, r6, m4⟩
  rw [oE_X1_begin]
  unfold ob_X1_begin
  rw [f7, ovi_i, obn_at, p1, obn_at, p2, obn_at, p3, obn_at]
  have b1 : ol_X1_begin_25 T (oF κ T (N + 4)) κ T (some j) s x2 1 s σ1 = _ := b1
  rw [b1]
  unfold bgE
  rw [show ofd σ2 (some j) 3 0 = some (.ref o) from ofd_at J2.1, ovr_rf, obn_at, oob_at J2.2.1.1, obn_at, Nat.add_comm 1 ms.length, r1, ocv_at, l1]
  exact m1
end JZE
section JZK
variable {lo : Nat × (Nat → Prop)} {κ : oKv} {T j o pa ph ta th : Nat} {rd : Int32} {wk : Option Nat} {ps : Int32} {B : Int} {ti : Nat → Nat} {Mn : Nat → Bool → List oBr} {bs : Nat → Int32} {kn : Nat → Nat}
theorem lv_8 {a c : Nat} (h : a ≤ 6) (hc : c ≤ 60) : (a + 1) * (2 * c * (2 * c)) ≤ 100800 := by
  have h1 : 2 * c * (2 * c) ≤ 120 * 120 := Nat.mul_le_mul (by omega) (by omega)
  exact Nat.le_trans (Nat.mul_le_mul (show a + 1 ≤ 7 by omega) h1) (by decide)
theorem lv_12 {a c : Nat} (h : a ≤ 12) (hc : c ≤ 13) : (a + 1) * (2 * c * (2 * c)) ≤ 100800 := by
  have h1 : 2 * c * (2 * c) ≤ 26 * 26 := Nat.mul_le_mul (by omega) (by omega)
  exact Nat.le_trans (Nat.mul_le_mul (show a + 1 ≤ 13 by omega) h1) (by decide)
theorem c_weakz {N Hm ca len W0 b0 w ra sa kl kr : Nat} {cl0 fa0 : Int32} {σ : oSt} {f : Nat → Int64} {P Tr : List (Nat × Bool)} {at' : Nat → Nat} {Dk : Nat → Bool × List (Nat × kTe) × List kFc} {Sc : List sEn} {s : Option Nat} {D : Bool × List (Nat × kTe) × List kFc} {G : List (Nat × kTe)} {F : List kFc} (hT : 100200 ≤ T) (hJ : pa < lo.1 ∧ ph < lo.1 ∧ ta < lo.1 ∧ th < lo.1) (hB : 2 ≤ B) (hBW : ((2 * ((msL bs Sc).length + 1) : Nat) : Int) * B + B + 2 ≤ 4503599627370496) (hN : Hm + 60 ≤ N) (hti : ∀ x y, ti x = ti y → x = y) (J : jSt σ j o ca pa ph ta th len W0 b0 cl0 fa0 f rd wk ps P Tr) (hl : len ≤ 201600) (hfr : ∀ q, σ.2.1 ≤ q → σ.1 q = none) (hS : cScp bs kn σ Sc s) (hSl : Sc.length < T) (hnd : (msL bs Sc).Nodup) (hml : (msL bs Sc).length + 1 ≤ 60) (hK : ∀ a, a ∈ msL bs Sc → kInf lo σ B (msL bs Sc) (kn a) (Dk a)) (hD : kInf lo σ B (msL bs Sc) kl D) (hO : kOr lo σ w ra sa F) (hG : kGo lo σ kr w G) (hRw : kRw lo ra sa σ) (hF : ∀ x, x ∈ F → (∀ a e, (kRs G x.2).1 = some (a, e) → a ∈ msL bs Sc) ∧ kBd B (kRs G x.2)) (hM : ∀ σ1, jKb pa ph ta th σ σ1 → (∀ a, a ∈ msL bs Sc → nSl σ1 (rd + 1) (slO (msL bs Sc)) ((msL bs Sc).length + 1) a) → ∀ x, x ∈ tsL Sc → jMz (fun x => x = w ∨ x = ra ∨ x = sa) κ σ1 pa ph ta th (rd + 1) (slO (msL bs Sc)) ti ((msL bs Sc).length + 1) B Mn Hm (at' x.1) x.1) (hA : ((tsL Sc).map (fun x => at' x.1)).sum ≤ 6) : ∃ v σ' ca' len' W' f' fa' ps' P' Tr', oF κ T (N + 1) 67 [va_rf (some j), va_rf s, va_rf (some kl), va_rf (some kr)] σ = some (some (.int v), σ') ∧ jSt σ' j o ca' pa ph ta th len' W' 0 1 fa' f' (rd + 1) (some kr) ps' P' Tr' ∧ jKx (fun x => x = w ∨ x = ra ∨ x = sa) pa ph ta th σ σ' ∧ gMo len len' σ σ' ∧ len' ≤ 201600 ∧ kOr lo σ' w ra sa (fQz (fun x => ¬ exL ((tsL Sc).map (fun x => Mn x.1 x.2)) (kFe (fun L => ¬ qB (slO (msL bs Sc)) G x L)) ((msL bs Sc).flatMap (fun a => lrnL (slO (msL bs Sc)) (slO (msL bs Sc) a) (Dk a).1 (Dk a).2.1 (Dk a).2.2) ++ lrnL (slO (msL bs Sc)) 0 D.1 D.2.1 D.2.2) []) F) ∧ kRw lo ra sa σ' ∧ v = (if (fQz (fun x => ¬ exL ((tsL Sc).map (fun x => Mn x.1 x.2)) (kFe (fun L => ¬ qB (slO (msL bs Sc)) G x L)) ((msL bs Sc).flatMap (fun a => lrnL (slO (msL bs Sc)) (slO (msL bs Sc) a) (Dk a).1 (Dk a).2.1 (Dk a).2.2) ++ lrnL (slO (msL bs Sc)) 0 D.1 D.2.1 D.2.2) []) F).length < F.length then 1 else 0) := by
  generalize hms : msL bs Sc = ms at *
  obtain ⟨N, rfl⟩ : ∃ N', N = N' + 1 := ⟨N - 1, by omega⟩
  obtain ⟨J0, k0⟩ := J.fld (some kr) ps
  have K0 : jKb pa ph ta th σ _ := k0.k4.b
  obtain ⟨σ1, ca1, len1, f1, fa1, Tr1, L1, Z1, b1, b2, b3, b4, b5, b6, b7⟩ := c_jbegz (κ := κ) (T := T) (N := N) (Hm := Hm) (at' := at') (Dk := Dk) (Sc := Sc) (s := s) (x2 := some kl) (Dl := some D) (Mn := Mn) (ti := ti) (X := fun x => x = w ∨ x = ra ∨ x = sa) (B := B) hT hJ hB (by rw [hms]; exact hBW) (by omega) J0 hl (k0.fr hfr) (cScp.kb K0 Sc s hS) hSl (by rw [hms]; exact hnd) (by rw [hms]; exact hml) (fun a ha => by rw [hms] at ha ⊢; exact (hK a ha).kb hJ K0) (Or.inr ⟨kl, D, rfl, rfl, by rw [hms]; exact hD.kb hJ K0⟩) (fun σ1 h => by rw [hms]; exact hM σ1 (K0.tr h)) (by omega)
  rw [hms] at b3 b5 b7
  have K1 : jKb pa ph ta th σ σ1 := K0.tr b2
  have hc : 0 < ms.length + 1 ∧ ms.length + 1 ≤ 60 := ⟨by omega, hml⟩
  have R1 : rpB lo kr w ra sa G (rd + 1) (slO ms) (ms.length + 1) B σ1 ps F := ⟨hO.kb hJ K1, hG.kb hJ K1, (by
    obtain ⟨⟨⟨y, g1⟩, z, g2⟩, g3, g4, g5⟩ := hRw
    exact ⟨⟨⟨y, K1.ar g1 (fun e => by cases e) (by omega)⟩, z, K1.ar g2 (fun e => by cases e) (by omega)⟩, g3, g4, g5⟩), fun x hx => ⟨fun a e q => b3 a ((hF x hx).1 a e q), (hF x hx).2⟩⟩
  obtain ⟨σ2, σ3, ca3, len3, f3, fa3, ps3, d1, d2, d3, d4, d5, d6, d7, d8, d9, d10⟩ := j_cx (κ := κ) (T := T) (N := N + 1) (N0 := 4) (ti := ti) (Q := qB (slO ms) G) (Rp := rpB lo kr w ra sa G (rd + 1) (slO ms) (ms.length + 1) B) (by omega) hc hB hBW hti (qOkB hT hJ hc rfl) (by omega) (lv_8 (by omega) hml) (by omega) b6 b5 (K1.fr hfr) b7 R1
  obtain ⟨hO3, hG3, hR3, -⟩ := d10
  have fk1 : ofd σ (some kr) 4 1 = some (.ref w) := by
    obtain ⟨fs, h1, h2, h3, -⟩ := hG
    exact (ofd_at h1).trans h3
  have fk3 : ofd σ3 (some kr) 4 1 = some (.ref w) := by
    obtain ⟨fs, h1, h2, h3, -⟩ := hG3
    exact (ofd_at h1).trans h3
  have fo1 : ofd σ (some w) 4 7 = some (.int (nI F.length)) ∧ F.length ≤ 100000 := by
    obtain ⟨fo, cap, hr, gs, o1, o2, o3, o4, o5⟩ := hO
    exact ⟨(ofd_at o1).trans o3, o4⟩
  generalize hF3 : fQz (fun x => ¬ exL ((tsL Sc).map (fun x => Mn x.1 x.2)) (kFe (fun L => ¬ qB (slO ms) G x L)) (ms.flatMap (fun a => lrnL (slO ms) (slO ms a) (Dk a).1 (Dk a).2.1 (Dk a).2.2) ++ lrnL (slO ms) 0 D.1 D.2.1 D.2.2) []) F = F3
  have hO3 : kOr lo σ3 w ra sa F3 := by rw [← hF3]; exact hO3
  have fo3 : ofd σ3 (some w) 4 7 = some (.int (nI F3.length)) ∧ F3.length ≤ 100000 := by
    obtain ⟨fo, cap, hr, gs, o1, o2, o3, o4, o5⟩ := hO3
    exact ⟨(ofd_at o1).trans o3, o4⟩
  have gm : gMo len len3 σ σ3 := ((gMo.of2 (σ := σ) rfl).trans b4).trans d8
  refine ⟨_, σ3, ca3, len3, _, f3, fa3, ps3, _, _, ?_, d6, K1.kx.tr d7, gm, d9, hO3, hR3, rfl⟩
  rw [oE_X1_weaken]
  unfold ob_X1_weaken
  rw [fk1, ovr_rf, obn_at, fo1.1, ovi_i, obn_at, opf_at J.1 (by simp only [List.length_cons, List.length_nil]; omega), obn_at]
  have b1 : oF κ T (N + 1) 57 [va_rf (some j), va_rf s, va_rf (some kl)] (oput σ j (.inr (3, [.ref o, .ref pa, .ref ph, .int (nI P.length), .ref ta, .ref th, .int (nI Tr.length), .int rd, va_rf (some kr), .int ps]))) = _ := b1
  show (obn (oob (oput σ j (.inr (3, [.ref o, .ref pa, .ref ph, .int (nI P.length), .ref ta, .ref th, .int (nI Tr.length), .int rd, va_rf (some kr), .int ps]))) (some j) 3) fun a7 => ocv (oF κ T (N + 1) 57 [va_rf (some j), va_rf s, va_rf (some kl)] (oput σ j (.inr (3, [.ref o, .ref pa, .ref ph, .int (nI P.length), .ref ta, .ref th, .int (nI Tr.length), .int rd, va_rf (some kr), .int ps])))) _) = _
  rw [oob_at J0.1, obn_at, b1, ocv_at, d2, ovr_rf, obn_at, d3, obn_at, d1, ocv_at, d4, obn_at, d5, ocv_at, fk3, ovr_rf, obn_at, fo3.1, ovi_i, obn_at]
  by_cases z : F3.length < F.length
  · rw [if_neg (nI_ge (by omega) (by omega)), if_pos z]
  · rw [if_pos (nI_le (by omega) (by omega)), if_neg z]
end JZK
section JZU
variable {lo : Nat × (Nat → Prop)} {κ : oKv} {T j o pa ph ta th : Nat} {rd : Int32} {wk : Option Nat} {ps : Int32} {B : Int} {ti : Nat → Nat} {Mn : Nat → Bool → List oBr} {X : Nat → Prop} {bs : Nat → Int32} {kn : Nat → Nat}
theorem c_surez {N Hm ca len W0 b0 m : Nat} {cl0 fa0 : Int32} {σ : oSt} {f : Nat → Int64} {P Tr : List (Nat × Bool)} {at' : Nat → Nat} {Dk : Nat → Bool × List (Nat × kTe) × List kFc} {Sc : List sEn} {s : Option Nat} (hT : 100200 ≤ T) (hJ : pa < lo.1 ∧ ph < lo.1 ∧ ta < lo.1 ∧ th < lo.1) (hB : 2 ≤ B) (hBW : ((2 * ((msL bs Sc).length + 1) : Nat) : Int) * B + B + 2 ≤ 4503599627370496) (hN : Hm + 60 ≤ N) (hti : ∀ x y, ti x = ti y → x = y) (J : jSt σ j o ca pa ph ta th len W0 b0 cl0 fa0 f rd wk ps P Tr) (hl : len ≤ 201600) (hfr : ∀ q, σ.2.1 ≤ q → σ.1 q = none) (hS : cScp bs kn σ Sc s) (hSl : Sc.length < T) (hnd : (msL bs Sc).Nodup) (hml : (msL bs Sc).length + 1 ≤ 13) (hK : ∀ a, a ∈ msL bs Sc → kInf lo σ B (msL bs Sc) (kn a) (Dk a)) (hM : ∀ σ1, jKb pa ph ta th σ σ1 → (∀ a, a ∈ msL bs Sc → nSl σ1 (rd + 1) (slO (msL bs Sc)) ((msL bs Sc).length + 1) a) → (∀ x, x ∈ tsL Sc → jMz X κ σ1 pa ph ta th (rd + 1) (slO (msL bs Sc)) ti ((msL bs Sc).length + 1) B Mn Hm (at' x.1) x.1) ∧ jMn X κ σ1 pa ph ta th (rd + 1) (slO (msL bs Sc)) ti ((msL bs Sc).length + 1) B Mn Hm (at' m) m) (hA : ((tsL Sc).map (fun x => at' x.1)).sum + at' m ≤ 12) (hF : ∀ σ0, jKp pa ph ta th σ σ0 → oF κ T N 39 [va_rf (some m)] σ0 = some (some (.int 1), σ0)) : ∃ v σ' ca' len' W' f' fa' ps' P' Tr', oF κ T (N + 1) 64 [va_rf (some j), va_rf s, va_rf (some m)] σ = some (some (.int v), σ') ∧ jSt σ' j o ca' pa ph ta th len' W' 0 1 fa' f' (rd + 1) none ps' P' Tr' ∧ jKx X pa ph ta th σ σ' ∧ gMo len len' σ σ' ∧ len' ≤ 201600 ∧ ((v = 1 ∧ ¬ exL ((tsL Sc).map (fun x => Mn x.1 x.2) ++ [Mn m false]) (kFe (fun _ => ¬ False)) ((msL bs Sc).flatMap (fun a => lrnL (slO (msL bs Sc)) (slO (msL bs Sc) a) (Dk a).1 (Dk a).2.1 (Dk a).2.2)) []) ∨ (v = 0 ∧ exL ((tsL Sc).map (fun x => Mn x.1 x.2) ++ [Mn m false]) (kFe (fun _ => ¬ False)) ((msL bs Sc).flatMap (fun a => lrnL (slO (msL bs Sc)) (slO (msL bs Sc) a) (Dk a).1 (Dk a).2.1 (Dk a).2.2)) [])) := by
  generalize hms : msL bs Sc = ms at *
  obtain ⟨N, rfl⟩ : ∃ N', N = N' + 1 := ⟨N - 1, by omega⟩
  obtain ⟨J00, k00⟩ := J.fld none ps
  obtain ⟨J0, k0⟩ := J00.fld none 0
  rw [oput_oput] at J0 k0
  have k0 := k00.tr k0
  have K0 : jKb pa ph ta th σ _ := k0.k4.b
  obtain ⟨σ1, ca1, len1, f1, fa1, Tr1, L1, Z1, b1, b2, b3, b4, b5, b6, b7⟩ := c_jbegz (κ := κ) (T := T) (N := N) (Hm := Hm) (at' := at') (Dk := Dk) (Sc := Sc) (s := s) (x2 := none) (Dl := none) (Mn := Mn) (ti := ti) (X := X) (B := B) hT hJ hB (by rw [hms]; exact hBW) (by omega) J0 hl (k0.fr hfr) (cScp.kb K0 Sc s hS) hSl (by rw [hms]; exact hnd) (by rw [hms]; omega) (fun a ha => by rw [hms] at ha ⊢; exact (hK a ha).kb hJ K0) (Or.inl ⟨rfl, rfl⟩) (fun σ1 h => by rw [hms]; exact fun q => (hM σ1 (K0.tr h) q).1) (by omega)
  rw [hms] at b3 b5 b7
  have K1 : jKb pa ph ta th σ σ1 := K0.tr b2
  have hc : 0 < ms.length + 1 ∧ ms.length + 1 ≤ 60 := ⟨by omega, by omega⟩
  obtain ⟨σ2, f2, fa2, Tr2, L2, Z2, e1, e2, e3, e4⟩ := bgI.asm (κ := κ) (T := T) (N := N + 1) (hh := false) (by omega) hc rfl (by omega) b5 hB hBW (by omega) (hM σ1 K1 b3).2 (by omega) b7
  have K2 : jKb pa ph ta th σ σ2 := K1.tr e2.k4.b
  obtain ⟨σ3, σ4, ca4, len4, f4, fa4, ps4, d1, d2, d3, d4, d5, d6, d7, d8, d9, d10⟩ := j_cx (κ := κ) (T := T) (N := N + 1) (N0 := 1) (ti := ti) (α := Unit) (Q := fun _ _ => False) (Rp := rpA) (S := [()]) (by omega) hc hB hBW hti (qOkA (X := X)) (by omega) (lv_12 (by omega) hml) (by omega) b6 b5 (K2.fr hfr) e4 (show (0 : Int32) = b01 false by decide)
  rw [show lfL (slO ms) none = [] from rfl, List.append_nil] at d10
  have gm : gMo len len4 σ σ4 := (((gMo.of2 (σ := σ) rfl).trans b4).trans (gMo.of2 e3)).trans d8
  have f9 : ofd σ4 (some j) 3 9 = some (.int ps4) := ofd_at d6.1
  have b1 : oF κ T (N + 1) 57 [va_rf (some j), va_rf s, va_rf none] (oput σ j (.inr (3, [.ref o, .ref pa, .ref ph, .int (nI P.length), .ref ta, .ref th, .int (nI Tr.length), .int rd, va_rf none, .int 0]))) = _ := b1
  have J1 := b7.1
  have run : oF κ T (N + 2) 64 [va_rf (some j), va_rf s, va_rf (some m)] σ = if ps4 = 0 then some (some (.int 1), σ4) else some (some (.int 0), σ4) := by
    rw [oE_X1_isSure]
    unfold ob_X1_isSure oj_X1_isSure_18
    rw [opf_at J.1 (by simp only [List.length_cons, List.length_nil]; omega), obn_at]
    show (oin (oF κ T (N + 1) 39 [va_rf (some m)] (oput σ j (.inr (3, [.ref o, .ref pa, .ref ph, .int (nI P.length), .ref ta, .ref th, .int (nI Tr.length), .int rd, va_rf none, .int ps])))) _) = _
    rw [hF _ k00, oin_at, if_neg (by decide), ogd_at (by decide), opf_at (oput_eq _ _ _) (by simp), obn_at, oput_oput]
    show (obn (oob (oput σ j (.inr (3, [.ref o, .ref pa, .ref ph, .int (nI P.length), .ref ta, .ref th, .int (nI Tr.length), .int rd, va_rf none, .int 0]))) (some j) 3) fun a4 => ocv (oF κ T (N + 1) 57 [va_rf (some j), va_rf s, va_rf none] (oput σ j (.inr (3, [.ref o, .ref pa, .ref ph, .int (nI P.length), .ref ta, .ref th, .int (nI Tr.length), .int rd, va_rf none, .int 0])))) _) = _
    rw [oob_at J0.1, obn_at, b1, ocv_at, oob_at J1.1, obn_at]
    have e1 : oF κ T (N + 1) 56 [va_rf (some j), va_rf (some m), .int 0] σ1 = _ := e1
    rw [e1, ocv_at, d2, ovr_rf, obn_at, d3, obn_at, d1, ocv_at, d4, obn_at, d5, ocv_at, f9, ovi_i, obn_at]
  have d10 : ps4 = b01 (fQz (fun _ => ¬ exL ((tsL Sc).map (fun x => Mn x.1 x.2) ++ [Mn m false]) (kFe (fun _ => ¬ False)) (ms.flatMap (fun a => lrnL (slO ms) (slO ms a) (Dk a).1 (Dk a).2.1 (Dk a).2.2)) []) [()]).isEmpty := d10
  by_cases z : exL ((tsL Sc).map (fun x => Mn x.1 x.2) ++ [Mn m false]) (kFe (fun _ => ¬ False)) (ms.flatMap (fun a => lrnL (slO ms) (slO ms a) (Dk a).1 (Dk a).2.1 (Dk a).2.2)) []
  · rw [(fQz_cons (Q := fun _ => ¬ exL ((tsL Sc).map (fun x => Mn x.1 x.2) ++ [Mn m false]) (kFe (fun _ => ¬ False)) (ms.flatMap (fun a => lrnL (slO ms) (slO ms a) (Dk a).1 (Dk a).2.1 (Dk a).2.2)) []) (x := ())).2 (fun w => w z)] at d10
    have d10 : ps4 = 1 := d10
    rw [if_neg (by rw [d10]; decide)] at run
    exact ⟨0, σ4, ca4, len4, _, f4, fa4, ps4, _, _, run, d6, K2.kx.tr d7, gm, d9, Or.inr ⟨rfl, z⟩⟩
  · rw [(fQz_cons (Q := fun _ => ¬ exL ((tsL Sc).map (fun x => Mn x.1 x.2) ++ [Mn m false]) (kFe (fun _ => ¬ False)) (ms.flatMap (fun a => lrnL (slO ms) (slO ms a) (Dk a).1 (Dk a).2.1 (Dk a).2.2)) []) (x := ())).1 z] at d10
    have d10 : ps4 = 0 := d10
    rw [if_pos d10] at run
    exact ⟨1, σ4, ca4, len4, _, f4, fa4, ps4, _, _, run, d6, K2.kx.tr d7, gm, d9, Or.inl ⟨rfl, z⟩⟩
/-- a C that is none of FACTS: one comparison, or two -/
theorem c_surezU {N Hm ca len W0 b0 m : Nat} {cl0 fa0 : Int32} {σ : oSt} {f : Nat → Int64} {P Tr : List (Nat × Bool)} {at' : Nat → Nat} {Dk : Nat → Bool × List (Nat × kTe) × List kFc} {Sc : List sEn} {s : Option Nat} (hT : 100200 ≤ T) (hJ : pa < lo.1 ∧ ph < lo.1 ∧ ta < lo.1 ∧ th < lo.1) (hB : 2 ≤ B) (hBW : ((2 * ((msL bs Sc).length + 1) : Nat) : Int) * B + B + 2 ≤ 4503599627370496) (hN : Hm + 60 ≤ N) (J : jSt σ j o ca pa ph ta th len W0 b0 cl0 fa0 f rd wk ps P Tr) (hl : len ≤ 201600) (hfr : ∀ q, σ.2.1 ≤ q → σ.1 q = none) (hS : cScp bs kn σ Sc s) (hSl : Sc.length < T) (hnd : (msL bs Sc).Nodup) (hml : (msL bs Sc).length + 1 ≤ 60) (hK : ∀ a, a ∈ msL bs Sc → kInf lo σ B (msL bs Sc) (kn a) (Dk a)) (hM : ∀ σ1, jKb pa ph ta th σ σ1 → (∀ a, a ∈ msL bs Sc → nSl σ1 (rd + 1) (slO (msL bs Sc)) ((msL bs Sc).length + 1) a) → (∀ x, x ∈ tsL Sc → jMz X κ σ1 pa ph ta th (rd + 1) (slO (msL bs Sc)) ti ((msL bs Sc).length + 1) B Mn Hm (at' x.1) x.1)) (hA : ((tsL Sc).map (fun x => at' x.1)).sum ≤ 20) (hU : suU κ σ lo.1 m) (hF : ∀ σ0, jKp pa ph ta th σ σ0 → oF κ T N 39 [va_rf (some m)] σ0 = some (some (.int 0), σ0)) : ∃ σ' ca' len' W' f' fa' ps' P' Tr', oF κ T (N + 1) 64 [va_rf (some j), va_rf s, va_rf (some m)] σ = some (some (.int 0), σ') ∧ jSt σ' j o ca' pa ph ta th len' W' 0 1 fa' f' (rd + 1) none ps' P' Tr' ∧ jKx X pa ph ta th σ σ' ∧ gMo len len' σ σ' ∧ len' ≤ 201600 := by
  generalize hms : msL bs Sc = ms at *
  obtain ⟨N, rfl⟩ : ∃ N', N = N' + 6 := ⟨N - 6, by omega⟩
  obtain ⟨J00, k00⟩ := J.fld none ps
  obtain ⟨J0, k0⟩ := J00.fld none 1
  rw [oput_oput] at J0 k0
  have k0 := k00.tr k0
  have K0 : jKb pa ph ta th σ _ := k0.k4.b
  obtain ⟨σ1, ca1, len1, f1, fa1, Tr1, L1, Z1, b1, b2, b3, b4, b5, b6, b7⟩ := c_jbegz (κ := κ) (T := T) (N := N + 5) (Hm := Hm) (at' := at') (Dk := Dk) (Sc := Sc) (s := s) (x2 := none) (Dl := none) (Mn := Mn) (ti := ti) (X := X) (B := B) hT hJ hB (by rw [hms]; exact hBW) (by omega) J0 hl (k0.fr hfr) (cScp.kb K0 Sc s hS) hSl (by rw [hms]; exact hnd) (by rw [hms]; exact hml) (fun a ha => by rw [hms] at ha ⊢; exact (hK a ha).kb hJ K0) (Or.inl ⟨rfl, rfl⟩) (fun σ1 h => by rw [hms]; exact fun q => hM σ1 (K0.tr h) q) (by omega)
  rw [hms] at b3 b5 b7
  have K1 : jKb pa ph ta th σ σ1 := K0.tr b2
  have hc : 0 < ms.length + 1 ∧ ms.length + 1 ≤ 60 := ⟨by omega, hml⟩
  have hU1 := hU.kb hJ K1
  obtain ⟨J1, i2, i3, i4, i5, i6, i7⟩ := b7
  have zl : (Z1.map Prod.fst).length ≤ (Z1.map Prod.snd).sum := by
    rw [List.length_map]
    exact z_len Z1 (fun z hz => (i4 z hz).1.nd.2)
  -- assume()
  have asm : ∃ σ2 P2, oF κ T (N + 6) 56 [va_rf (some j), va_rf (some m), .int 0] σ1 = some (none, σ2) ∧ jSt σ2 j o ca1 pa ph ta th len1 (2 * (ms.length + 1)) 0 0 fa1 f1 (rd + 1) none 1 P2 Tr1 ∧ jKp pa ph ta th σ1 σ2 ∧ σ2.2 = σ1.2 ∧ ∀ x, P2[0]? = some x → ∃ fs, σ2.1 x.1 = some (.inr (7, fs)) ∧ (fs[0]? = some (.int 403) ∨ ∃ k0 li dd cap q mc g, fs[0]? = some (.int k0) ∧ ¬ k0 = 403 ∧ fs[18]? = some (.ref li) ∧ cLs κ σ2 li dd cap q mc g 7) := by
    have old : ∀ σ2, jKp pa ph ta th σ1 σ2 → ∀ z, z ∈ Z1 → ∃ fs, σ2.1 z.1.1 = some (.inr (7, fs)) ∧ (fs[0]? = some (.int 403) ∨ ∃ k0 li dd cap q mc g, fs[0]? = some (.int k0) ∧ ¬ k0 = 403 ∧ fs[18]? = some (.ref li) ∧ cLs κ σ2 li dd cap q mc g 7) := fun σ2 k z hz => by
      obtain ⟨m1, w1⟩ := i4 z hz
      obtain ⟨fs', w2, w3⟩ := w1.jk k
      refine ⟨fs', w2, ?_⟩
      rcases w3 with w3 | ⟨w3, -⟩
      · right
        have m2 := jMn.jk k _ _ _ m1
        cases Hm with
        | zero => exact False.elim m2
        | succ Hk =>
          obtain ⟨fs, h7, h0, hM1⟩ := m2
          have efs : fs = fs' := by
            rw [w2] at h7
            injection h7 with e
            injection e with e
            injection e with e e2
            exact e2.symm
          subst efs
          have no : ∀ v : Int32, fs[0]? = some (.int v) → v = if z.1.2 = true then 303 else 302 := fun v e1 => by
            rw [e1] at w3
            injection w3 with e2
            injection e2
          have kd : ∀ v : Int32, fs[0]? = some (.int v) → v = 303 ∨ v = 302 := fun v e => by
            have := no v e
            cases hz2 : z.1.2 <;> rw [hz2] at this
            · exact Or.inr this
            · exact Or.inl this
          rcases hM1 with ⟨e, x, e1, e2, e3⟩ | ⟨an, li, dd, cap, q, mc, g, xs, e, e1, e2, e3⟩ | ⟨bo, e, e3⟩ | ⟨x, gs, e, e1, e2, e3⟩ | ⟨su, Ls, pl, r, e, e1, e2, e4, e5, e3⟩
          · exact absurd (kd _ e) (by decide)
          · exact ⟨_, li, dd, cap, q, mc, g, e, by cases an <;> decide, e1, e2⟩
          · have := kd _ e
            cases bo <;> exact absurd this (by decide)
          · exact absurd (kd _ e) (by decide)
          · exact absurd (kd _ e) (by decide)
      · exact Or.inl w3
    obtain ⟨fs, g1, g2⟩ := hU1
    rcases g2 with ⟨a1, su, na, ta', cap, L, pl, r, a2, a3, a4, a5, a6, a7, a8, a9⟩ | ⟨a1, li, dd, cap, q, mc, g, a2, a3, a4, a5⟩
    · refine ⟨σ1, Z1.map Prod.fst, ?_, J1, jKp.rf σ1, rfl, fun x hx => ?_⟩
      · rw [show N + 6 = (N + 5) + 1 from rfl, oE_X1_assume]
        unfold ob_X1_assume
        rw [show ofd σ1 (some m) 7 0 = some (.int 403) from (ofd_at g1).trans a1, ovi_i, obn_at, if_neg (by decide), if_neg (by decide), if_neg (by decide), if_neg (by decide), if_pos rfl, oob_at J1.1, obn_at, c_cmpU (n := N + 2) J1.1 a3 a5 a6 g1 a7 a8 a9 a2, ocv_at]
      · cases Z1 with
        | nil => cases hx
        | cons z Z =>
          have : z.1 = x := Option.some.inj hx
          rw [← this]
          exact old σ1 (jKp.rf σ1) z (List.mem_cons_self ..)
    · obtain ⟨σ2, p1, p2, p3, p4⟩ := c_post (κ := κ) (T := T) (n := N + 4) (h := false) J1 g1 (by omega)
      have p1 : oF κ T (N + 5) 51 [va_rf (some j), va_rf (some m), .int 0] σ1 = some (none, σ2) := p1
      refine ⟨σ2, _, ?_, p2, p3, p4, fun x hx => ?_⟩
      · rw [show N + 6 = (N + 5) + 1 from rfl, oE_X1_assume]
        unfold ob_X1_assume
        rw [show ofd σ1 (some m) 7 0 = some (.int 302) from (ofd_at g1).trans a1, ovi_i, obn_at, if_neg (by decide), if_pos rfl, obn_at, if_pos rfl]
        unfold oj_X1_assume_91
        rw [if_neg (by decide), oob_at J1.1, obn_at, p1, ocv_at]
      · cases Z1 with
        | nil =>
          have : (m, false) = x := Option.some.inj hx
          rw [← this]
          exact ⟨fs, p3.1 _ _ g1 ⟨by show (7 : Nat) ≠ 3; decide, by show (7 : Nat) ≠ 8; decide⟩, Or.inr ⟨302, li, dd, cap, q, mc, g, a1, by decide, a2, a3.jk p3 (by omega) a5⟩⟩
        | cons z Z =>
          have : z.1 = x := Option.some.inj hx
          rw [← this]
          exact old σ2 p3 z (List.mem_cons_self ..)
  obtain ⟨σ2, P2, e1, J2, e2, e3, e4⟩ := asm
  have K2 : jKb pa ph ta th σ σ2 := K1.tr e2.k4.b
  have m12 := J2.ne.2.1.1
  have hP0 : oPn B (2 * (ms.length + 1)) 0 L1 f1 fa1 := by
    rcases i2 with ⟨-, h⟩ | ⟨e, -⟩
    · exact h
    · exact absurd e (by decide)
  obtain ⟨f3, fa3, c1, c2, c3⟩ := c_oclose (κ := κ) (T := T) (n := N + 4) (σ := σ2) (ca := ca1) (o := o) (c := ms.length + 1) (len := len1) (b := 0) (f := f1) (fa := fa1) (L := L1) (B := B) (by omega) (by omega) rfl (Ne.symm m12) (by omega) (by omega) (by omega) hBW i3 hP0
  rw [J2.oc] at c1
  obtain ⟨J3, k3⟩ := J2.lev2 (b' := 0) (cl' := 1) (fa' := fa3) (f' := f3)
  have rd3 : ∀ x, P2[0]? = some x → ∃ fs, (gOc σ2 o ca1 len1 (2 * (ms.length + 1)) 0 1 fa3 f3).1 x.1 = some (.inr (7, fs)) ∧ (fs[0]? = some (.int 403) ∨ ∃ k0 li dd cap q mc g, fs[0]? = some (.int k0) ∧ ¬ k0 = 403 ∧ fs[18]? = some (.ref li) ∧ cLs κ (gOc σ2 o ca1 len1 (2 * (ms.length + 1)) 0 1 fa3 f3) li dd cap q mc g 7) := fun x hx => by
    obtain ⟨fs, h1, h2⟩ := e4 x hx
    refine ⟨fs, k3.1 _ _ h1 ⟨by show (7 : Nat) ≠ 3; decide, by show (7 : Nat) ≠ 8; decide⟩, ?_⟩
    rcases h2 with h2 | ⟨k0, li, dd, cap, q, mc, g, h2, h3, h4, q1, q2, q3⟩
    · exact Or.inl h2
    · refine Or.inr ⟨k0, li, dd, cap, q, mc, g, h2, h3, h4, k3.1 _ _ q1 ⟨by show (1 : Nat) ≠ 3; decide, by show (1 : Nat) ≠ 8; decide⟩, ?_, fun i hi => ?_⟩
      · obtain ⟨h10, ⟨h20, h30⟩, -⟩ := J2
        rcases q2 with ⟨b1, b2, b3, b4⟩ | ⟨b1, b2, b3⟩
        · refine Or.inl ⟨b1, b2, b3, (gOc_oth ?_ ?_).trans b4⟩
          · intro e; rw [e, h20] at b4; cases b4
          · intro e; rw [e, h30] at b4; cases b4
        · refine Or.inr ⟨(gOc_oth ?_ ?_).trans b1, b2, b3⟩
          · intro e; rw [e, h20] at b1; cases b1
          · intro e; rw [e, h30] at b1; injection b1 with b1; injection b1 with b1; injection b1 with b1; cases b1
      · obtain ⟨b, fs, w1, w2⟩ := q3 i hi
        exact ⟨b, fs, w1, k3.1 _ _ w2 ⟨by show (7 : Nat) ≠ 3; decide, by show (7 : Nat) ≠ 8; decide⟩⟩
  obtain ⟨σ4, ps4, x1, x2, x3, x4, x5⟩ := c_expl0 (κ := κ) (T := T) (X := X) (α := Unit) (Rp := rpA) (Q := fun _ _ => False) (N0 := 1) (n := N + 5) (by omega) qOkA (by omega) J3 c2 i3 b5 b6 (show (1 : Int32) = b01 true by decide) rd3
  have f9 : ofd σ4 (some j) 3 9 = some (.int ps4) := ofd_at x2.1
  have p4 : ps4 = 1 := x5
  have b1 : oF κ T (N + 6) 57 [va_rf (some j), va_rf s, va_rf none] (oput σ j (.inr (3, [.ref o, .ref pa, .ref ph, .int (nI P.length), .ref ta, .ref th, .int (nI Tr.length), .int rd, va_rf none, .int 1]))) = _ := b1
  have gm : gMo len len1 σ σ4 := (((gMo.of2 (σ := σ) rfl).trans b4).trans (gMo.of2 e3)).trans (gMo.of2 (x4.trans rfl))
  refine ⟨σ4, ca1, len1, _, f3, fa3, ps4, _, _, ?_, x2, (K2.tr k3.k4.b).kx.tr x3.kx, gm, b6⟩
  rw [oE_X1_isSure]
  unfold ob_X1_isSure oj_X1_isSure_18
  rw [opf_at J.1 (by simp only [List.length_cons, List.length_nil]; omega), obn_at]
  show (oin (oF κ T (N + 6) 39 [va_rf (some m)] (oput σ j (.inr (3, [.ref o, .ref pa, .ref ph, .int (nI P.length), .ref ta, .ref th, .int (nI Tr.length), .int rd, va_rf none, .int ps])))) _) = _
  rw [hF _ k00, oin_at, if_pos rfl, ogd_at (by decide), opf_at (oput_eq _ _ _) (by simp), obn_at, oput_oput]
  show (obn (oob (oput σ j (.inr (3, [.ref o, .ref pa, .ref ph, .int (nI P.length), .ref ta, .ref th, .int (nI Tr.length), .int rd, va_rf none, .int 1]))) (some j) 3) fun a4 => ocv (oF κ T (N + 6) 57 [va_rf (some j), va_rf s, va_rf none] (oput σ j (.inr (3, [.ref o, .ref pa, .ref ph, .int (nI P.length), .ref ta, .ref th, .int (nI Tr.length), .int rd, va_rf none, .int 1])))) _) = _
  have J3o : oob (gOc σ2 o ca1 len1 (2 * (ms.length + 1)) 0 1 fa3 f3) (some j) 3 = some j := oob_at J3.1
  rw [oob_at J0.1, obn_at, b1, ocv_at, oob_at J1.1, obn_at, e1, ocv_at, show ofd σ2 (some j) 3 0 = some (.ref o) from ofd_at J2.1, ovr_rf, obn_at, oob_at J2.2.1.1, obn_at, c1, ocv_at, J3o, obn_at, x1, ocv_at, f9, ovi_i, obn_at, if_neg (by rw [p4]; decide)]
end JZU
