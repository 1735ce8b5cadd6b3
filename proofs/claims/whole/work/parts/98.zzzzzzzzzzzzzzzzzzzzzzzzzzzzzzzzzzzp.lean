/-! type() of the class -/
section TSY
variable {κ : oKv} {ks : Nat → Nat} {wd : Nat → List Int32} {bk : gN → Nat} {sy : gTy → List gFc} {T n x nl sz k w da d cap cl len p c tl kn na0 cnt i oa : Nat} {lo : Nat × (Nat → Prop)} {na : gN → Nat} {Nm : gN → Prop} {σ u : oSt} {s : tPs} {G : List (Nat × kTe)} {A : gTy} {mc : Int32} {g gt gd : Nat → Option Nat} {gb : Nat → Int32} {fs pf gs : List Value} {y : tY}
/-- the cells that type() writes before it prints -/
def tBg (x nl d : Nat) (σ u : oSt) : Prop := (∀ q, q ≠ x → q ≠ nl → (q ≠ d ∨ σ.1 q = none) → u.1 q = σ.1 q) ∧ u.2 = σ.2
set_option maxHeartbeats 1000000 in
/-- **type() (189)** of a told NAME -/
theorem p_type (hT : 100100 ≤ T) (hin : ∀ a b, Nm a → Nm b → na a = na b → a = b) (hNm : ∀ D : List gN, D.Nodup → (∀ b, b ∈ D → Nm b) → D.length ≤ 1500) (hw : ∀ w, (wd w).length ≤ 3000) (hy : tSz y ≤ 120) (hy2 : yLv y ≤ 60) (hfr : ∀ q, σ.2.1 ≤ q → σ.1 q = none) (hx : σ.1 x = some (.inr (14, fs))) (hl13 : fs.length = 13) (f2 : fs[2]? = some (.ref p)) (f4 : fs[4]? = some (.ref c)) (f6 : fs[6]? = some (.ref oa)) (f7 : fs[7]? = some (.ref da)) (f10 : fs[10]? = some (.ref nl)) (hda : σ.1 da = some (.inl (.byte, cap, .inl gb))) (hcap : tCk cap ∧ cap ≤ 16000) (hnl : cLs κ σ nl d cl len mc g 6) (hlen : len ≤ 2451) (hcl : cl ≤ 3690) (hκ : κ.2.2.1 < σ.2.1) (hp : σ.1 p = some (.inr (9, pf))) (p2 : pf[2]? = some (.ref tl)) (ht : ∀ u, tBg x nl d σ u → oLs u (some tl) cnt gt) (hi : i < cnt) (hc2 : cnt ≤ 100000) (gi : gt i = some na0) (hna : σ.1 na0 = some (.inr (6, gs))) (g4 : gs[4]? = some (.ref kn)) (H : ∀ u, tBg x nl d σ u → cLw κ ks T sz x da u ∧ tNs κ wd bk na x nl da d Nm u ∧ kPk lo u kn w G (cKd (yK y)) ∧ tOr na Nm sy lo u G y A w) : ∃ u2 u cap' da' d' cl' r, oF κ T (n + 133) 189 [va_rf (some x), .int (nI i)] σ = some (some (.int r), u) ∧ tBg x nl d σ u2 ∧ ∃ u4, tSt κ ks wd bk Nm T sz x nl na (tTy wd bk sy y A ([], [])) cap' da' d' cl' u4 ∧ tFww x nl da d u2 da' d' u4 ∧ cPyw u2 cap cl u4 cap' cl' (2 * tSz y) ∧ (∃ f4 : List Value, u4.1 x = some (.inr (14, f4)) ∧ f4.length = 13 ∧ f4[7]? = some (.ref da') ∧ f4[9]? = some (.int (nI (tTy wd bk sy y A ([], [])).1.length)) ∧ (∀ k, k ≠ 7 → k ≠ 9 → f4[k]? = fs[k]?) ∧ ((16000 < (tTy wd bk sy y A ([], [])).1.length ∧ r = -1 ∧ u = u4) ∨ ((tTy wd bk sy y A ([], [])).1.length ≤ 16000 ∧ r = nI (tTy wd bk sy y A ([], [])).1.length ∧ u = oput u4 x (.inr (14, ((f4.set 6 (.ref da')).set 7 (.ref oa)).set 8 (.int r)))))) := by
  have lt : ∀ {q : Nat} {c : oC}, σ.1 q = some c → q < σ.2.1 := fun {q c} z => Nat.lt_of_not_le (fun w => by rw [hfr q w] at z; cases z)
  have nxl : nl ≠ x := fun z => by have e := hnl.1; rw [z, hx] at e; cases e
  have dx : d ≠ x := fun z => by
    rcases hnl.2.1 with ⟨-, -, -, m4⟩ | ⟨m1, -⟩
    · rw [z, hx] at m4; cases m4
    · rw [z, hx] at m1; cases m1
  have dn : d ≠ nl := fun z => by
    rcases hnl.2.1 with ⟨-, -, -, m4⟩ | ⟨m1, -⟩
    · rw [z, hnl.1] at m4; cases m4
    · rw [z, hnl.1] at m1; cases m1
  -- draftLength = 0
  generalize hσ1 : oput σ x (.inr (14, fs.set 9 (.int 0))) = σ1
  have o1 : opf σ (some x) 14 9 (.int 0) = some σ1 := by rw [opf_at hx (by rw [hl13]; decide), hσ1]
  have s1 : ∀ q, q ≠ x → σ1.1 q = σ.1 q := fun q hq => by rw [← hσ1, oput_ne hq]
  have x1 : σ1.1 x = some (.inr (14, fs.set 9 (.int 0))) := by rw [← hσ1]; exact oput_eq _ _ _
  have b1 : σ1.2 = σ.2 := by rw [← hσ1]; rfl
  have nl1 : cLs κ σ1 nl d cl len mc g 6 := hnl.keep (s1 nl nxl) (s1 d dx) (fun a f e => ⟨f, by rw [s1 a (fun z => by rw [z, hx] at e; cases e)]; exact e⟩)
  obtain ⟨σ2, g', c1, c2, c3, c4⟩ := l_clear (κ := κ) (T := T) (n := n + 131) (by omega) hcl nl1 dn
  have x2 : σ2.1 x = some (.inr (14, fs.set 9 (.int 0))) := (c3 x (fun z => nxl z.symm) (Or.inl (fun z => dx z.symm))).trans x1
  have TB : tBg x nl d σ σ2 := ⟨fun q q1 q2 q3 => by
    rw [c3 q q2 (by
      rcases q3 with r | r
      · exact Or.inl r
      · exact Or.inr ((s1 q q1).trans r))]
    exact s1 q q1, c4.trans b1⟩
  obtain ⟨h1, h2, h3, h4⟩ := H σ2 TB
  have nd : ∀ q cc, σ.1 q = some cc → (∀ N f, cc ≠ .inl (.object "java/lang/Object", N, f)) → q ≠ d := fun q cc e hc z => by
    rcases hnl.2.1 with ⟨-, -, -, m4⟩ | ⟨m1, -⟩
    · rw [z, m4] at e; cases e
    · rw [z, m1] at e; injection e with e; exact hc _ _ e.symm
  have da2 : σ2.1 da = some (.inl (.byte, cap, .inl gb)) := by
    rw [TB.1 da (fun z => by rw [z, hx] at hda; cases hda) (fun z => by rw [z, hnl.1] at hda; cases hda) (Or.inl (nd da _ hda (fun _ _ z => by cases z)))]
    exact hda
  have fr2 : ∀ q, σ2.2.1 ≤ q → σ2.1 q = none := fun q hq => by
    rw [TB.2] at hq
    have e := hfr q hq
    rw [TB.1 q (fun z => by rw [z, hx] at e; cases e) (fun z => by rw [z, hnl.1] at e; cases e) (Or.inr e)]
    exact e
  have F9 : (fs.set 9 (.int 0))[9]? = some (.int 0) := List.getElem?_set_self (by rw [hl13]; decide)
  have Fk : ∀ k, k ≠ 9 → (fs.set 9 (.int 0))[k]? = fs[k]? := fun k hk => List.getElem?_set_ne (fun z => hk z.symm)
  have S2 : tSt κ ks wd bk Nm T sz x nl na ([], []) cap da d cl σ2 := by
    refine ⟨h1, ⟨⟨_, ⟨_, da, gb, ⟨x2, by rw [List.length_set]; exact hl13, F9, (Fk 7 (by decide)).trans f7⟩, ⟨da2, hcap, Or.inl (Nat.zero_le _), fun i c e => by cases e⟩, fun _ _ _ => rfl, fun _ _ _ _ => rfl, fr2, Nat.le_refl _, Or.inl rfl, by rw [TB.2]; exact lt hx⟩, x2, (Fk 10 (by decide)).trans f10⟩, ⟨by show 0 ≤ 2451; omega, hcl⟩, mc + 1, g', c2, fun j b e => by cases e⟩, h2, List.nodup_nil, fun b hb => by cases hb⟩
  obtain ⟨u4, cap', da', d', cl', r1, r2, r3, r4⟩ := p_tell (n := n + 1) hT hin hNm hw hy hy2 S2 h3 h4
  obtain ⟨⟨f4', q1, q2, q3⟩, -⟩ := id r2.2.1
  obtain ⟨-, -, tD⟩ := tTy_D (bk := bk) (wd := wd) hw y A ([], []) (tOr.ok y A w h4) S2.2.2.2.1 S2.2.2.2.2
  have tD0 : (([], []) : tPs).1.length = 0 := rfl
  generalize hL : (tTy wd bk sy y A ([], [])).1.length = LL at *
  obtain ⟨f5, d5, g5, ⟨v1, v2, v3, v4⟩, ⟨v5, -⟩, -, -, v11, -, v13, -⟩ := id q1
  rw [q2] at v1
  injection v1 with v1; injection v1 with v1; injection v1 with _ v1
  subst v1
  have ed : d5 = da' := by
    have : d5 < u4.2.1 := Nat.lt_of_not_le (fun w => by rw [v11 d5 w] at v5; cases v5)
    omega
  subst ed
  rw [hL] at v3
  have Fx : ∀ k, k ≠ 7 → k ≠ 9 → f4'[k]? = fs[k]? := fun k k7 k9 => by
    obtain ⟨f6, w1, w2⟩ := r3.2.2.2.2.1 _ x2
    rw [q2] at w1
    injection w1 with w1; injection w1 with w1; injection w1 with _ w1
    rw [w1, w2 k k7 k9, Fk k k9]
  have p9 : σ2.1 p = some (.inr (9, pf)) := by
    rw [TB.1 p (fun z => by rw [z, hx] at hp; cases hp) (fun z => by rw [z, hnl.1] at hp; cases hp) (Or.inl (nd p _ hp (fun _ _ z => by cases z)))]
    exact hp
  have n6 : σ2.1 na0 = some (.inr (6, gs)) := by
    rw [TB.1 na0 (fun z => by rw [z, hx] at hna; cases hna) (fun z => by rw [z, hnl.1] at hna; cases hna) (Or.inl (nd na0 _ hna (fun _ _ z => by cases z)))]
    exact hna
  have L0 := ht σ ⟨fun _ _ _ _ => rfl, rfl⟩
  have L2 := ht σ2 TB
  obtain ⟨t0, -, t1, -⟩ := id L0
  obtain ⟨t2, -, t3, -⟩ := id L2
  have w1 : ovr (ofd σ (some x) 14 2) = some (some p) := by rw [ofd_at hx, f2]; rfl
  have w2 : ovr (ofd σ (some x) 14 4) = some (some c) := by rw [ofd_at hx, f4]; rfl
  have w3 : ovr (ofd σ (some p) 9 2) = some (some tl) := by rw [ofd_at hp, p2]; rfl
  have w4 : ovr (ofd σ1 (some x) 14 10) = some (some nl) := by rw [ofd_at x1, Fk 10 (by decide), f10]; rfl
  have w5 : ovr (ofd σ2 (some x) 14 2) = some (some p) := by rw [ofd_at x2, Fk 2 (by decide), f2]; rfl
  have w6 : ovr (ofd σ2 (some p) 9 2) = some (some tl) := by rw [ofd_at p9, p2]; rfl
  have w7 : ovr (ofd σ2 (some na0) 6 4) = some (some kn) := by rw [ofd_at n6, g4]; rfl
  have w8 : ocs σ2 (some na0) 6 = true := by simp [ocs, n6]
  have w9 : ovi (ofd u4 (some x) 14 9) = some (nI LL) := by rw [ofd_at q2, v3]; rfl
  have lL : LL < 2 ^ 30 := by omega
  rw [oE_X12_type]
  unfold ob_X12_type
  rw [w1, obn_at, if_neg (fun z => by cases z), w2, obn_at, if_neg (fun z => by cases z), if_neg (nI_pos (by omega)), obn_at, w3, obn_at, t1, obn_at, l_size (n := n + 131) L0, oin_at, if_pos (nI_lt hi (by omega)), o1, obn_at, w4, obn_at, oob_at nl1.1, obn_at, c1, ocv_at, w5, obn_at, w6, obn_at, t3, obn_at, l_get (n := n + 129) L2 hi, gi, orn_at, ogd_at w8, w7, obn_at, oob_at x2, obn_at, r1, ocv_at, w9, obn_at]
  by_cases cL : LL ≤ 16000
  · have y6 : ovr (ofd u4 (some x) 14 6) = some (some oa) := by rw [ofd_at q2, Fx 6 (by decide) (by decide), f6]; rfl
    have y7 : ovr (ofd u4 (some x) 14 7) = some (some d5) := by rw [ofd_at q2, v4]; rfl
    have a1 : (oput u4 x (.inr (14, f4'.set 6 (.ref d5)))).1 x = some (.inr (14, f4'.set 6 (.ref d5))) := oput_eq _ _ _
    have a2 : (oput (oput u4 x (.inr (14, f4'.set 6 (.ref d5)))) x (.inr (14, (f4'.set 6 (.ref d5)).set 7 (.ref oa)))).1 x = some (.inr (14, (f4'.set 6 (.ref d5)).set 7 (.ref oa))) := oput_eq _ _ _
    have a3 : ∀ v : oSt, (oput v x (.inr (14, ((f4'.set 6 (.ref d5)).set 7 (.ref oa)).set 8 (.int (nI LL))))).1 x = some (.inr (14, ((f4'.set 6 (.ref d5)).set 7 (.ref oa)).set 8 (.int (nI LL)))) := fun v => oput_eq _ _ _
    have y9 : ovi (ofd (oput (oput u4 x (.inr (14, f4'.set 6 (.ref d5)))) x (.inr (14, (f4'.set 6 (.ref d5)).set 7 (.ref oa)))) (some x) 14 9) = some (nI LL) := by
      rw [ofd_at a2, List.getElem?_set_ne (by decide), List.getElem?_set_ne (by decide), v3]; rfl
    have y8 : ∀ v : oSt, ovi (ofd (oput v x (.inr (14, ((f4'.set 6 (.ref d5)).set 7 (.ref oa)).set 8 (.int (nI LL))))) (some x) 14 8) = some (nI LL) := fun v => by
      rw [ofd_at (a3 v), List.getElem?_set_self (by simp only [List.length_set]; rw [v2]; decide)]; rfl
    rw [if_pos (show nI LL ≤ (16000 : Int32) from nI_le (b := 16000) cL (by omega)), y6, obn_at, y7, obn_at, show va_rf (some d5) = Value.ref d5 from rfl, opf_at q2 (by rw [v2]; decide), obn_at, show va_rf (some oa) = Value.ref oa from rfl, opf_at a1 (by simp only [List.length_set]; rw [v2]; decide), obn_at, y9, obn_at, opf_at a2 (by simp only [List.length_set]; rw [v2]; decide), obn_at, y8, obn_at, oput_oput, oput_oput]
    exact ⟨σ2, _, cap', d5, d', cl', nI LL, rfl, TB, u4, r2, r3, r4, f4', q2, v2, v4, v3, Fx, Or.inr ⟨cL, rfl, rfl⟩⟩
  · rw [if_neg (show ¬ nI LL ≤ (16000 : Int32) from nI_ge (a := 16000) (by omega) (by omega))]
    exact ⟨σ2, u4, cap', d5, d', cl', -1, rfl, TB, u4, r2, r3, r4, f4', q2, v2, v4, v3, Fx, Or.inl ⟨by omega, rfl, rfl⟩⟩
end TSY
