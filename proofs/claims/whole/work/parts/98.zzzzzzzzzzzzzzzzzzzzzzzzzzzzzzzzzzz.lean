/-! type(): TERMS, the class -/
/-- len, size, by a NAME's kind -/
def tBk (bs : Int32) : Nat := if bs = 200 then 1 else if bs = 213 then 2 else 0
/-- the term at hand in a Known's fields -/
def tKt (κ : oKv) (wd : Nat → List Int32) (bk : gN → Nat) (na : gN → Nat) (x nl da d : Nat) (D : List gN) (f : List Value) (t : gTe) (σ : oSt) : Prop := (∃ pl : Int64, f[14]? = some (.long pl) ∧ pl.toInt = t.2 ∧ pl.toInt.natAbs ≤ 1000000000000000000) ∧ ((t.1 = none ∧ f[13]? = some (va_rf none)) ∨ ∃ (a : gN) (tm : Int32), t.1 = some (a, tm.toInt) ∧ f[13]? = some (.ref (na a)) ∧ f[12]? = some (.int tm) ∧ tNo κ wd na x nl da d σ a ∧ (∀ b, b ∈ D → na b = na a → b = a) ∧ ∃ gs bs, σ.1 (na a) = some (.inr (6, gs)) ∧ gs[3]? = some (.int bs) ∧ bk a = tBk bs)
section TST
variable {κ : oKv} {ks : Nat → Nat} {wd : Nat → List Int32} {bk : gN → Nat} {T n x nl sz k da0 da da' da2 d0 d d' d2 cap cap' cap2 cl cl' cl2 : Nat} {na : gN → Nat} {f fs fs0 : List Value} {σ0 σ u w : oSt} {s : tPs} {L : List Int32} {a : gN} {t : gTe}
theorem cTp.oo (h : cTp κ x nl na s cap da d cl σ) : oob σ (some x) 14 = some x := by
  obtain ⟨⟨fs, h1, h2, h3⟩, h4, h5⟩ := h
  exact oob_at h2
theorem tNm_D (wd : Nat → List Int32) (a : gN) (s : tPs) : (∀ b, b ∈ (tNm wd a s).2 → b ∈ s.2 ∨ b = a) ∧ (tNm wd a s).2.length ≤ s.2.length + 1 := by
  match a with
  | .inl w => exact ⟨fun b h => Or.inl h, Nat.le_succ _⟩
  | .inr w =>
    unfold tNm
    constructor
    · intro b h
      have h : b ∈ (if tIx (.inr w) s.2 < s.2.length then s.2 else s.2 ++ [.inr w]) := h
      split at h
      · exact Or.inl h
      · rcases List.mem_append.mp h with r | r
        · exact Or.inl r
        · exact Or.inr (List.mem_singleton.mp r)
    · show (if tIx (.inr w) s.2 < s.2.length then s.2 else s.2 ++ [.inr w]).length ≤ _
      split
      · omega
      · rw [List.length_append]; exact Nat.le_refl _
theorem tDg_len (x : Nat) : ∀ k, (tDg x k).length = k + 1
  | 0 => rfl
  | k + 1 => by rw [tDg, List.length_cons, tDg_len x k]
theorem tKd_le (x : Nat) : ∀ f j, tKd x f j ≤ j + f
  | 0, j => Nat.le_refl _
  | f + 1, j => by
    unfold tKd
    split
    · omega
    · have := tKd_le x f (j + 1)
      omega
theorem tNu_len (v : Int64) : (tNu v).length ≤ 20 := by
  unfold tNu
  rw [List.length_append, tDg_len]
  have := tKd_le v.toInt.natAbs 18 0
  split
  · show 1 + _ ≤ _; omega
  · show 0 + _ ≤ _; omega
theorem tNm_L (wd : Nat → List Int32) (hw : ∀ w, (wd w).length ≤ 3000) (a : gN) (s : tPs) : (tNm wd a s).1.length ≤ s.1.length + 3000 := by
  match a with
  | .inl w =>
    show (s.1 ++ wd w).length ≤ _
    rw [List.length_append]
    have := hw w
    omega
  | .inr w =>
    show (s.1 ++ 36 :: tNu _).length ≤ _
    rw [List.length_append, List.length_cons]
    have := tNu_len (nI (tIx (.inr w) s.2)).toInt64
    omega
theorem p_tt97 {pl : Int64} (hT : 100 ≤ T) (hκ : κ.2.2.1 < σ.2.1) (h : cTp κ x nl na s cap da d cl σ) (hk : σ.1 k = some (.inr (4, f))) (h14 : f[14]? = some (.long pl)) (hp : pl.toInt.natAbs ≤ 1000000000000000000) (hl : s.1.length < 860000000) : ∃ u cap' da', oj_X12_tellTerm_97 T (oF κ T (n + 3)) κ (some x) (some k) σ = some (none, u) ∧ cTp κ x nl na (s.1 ++ (if pl.toInt = 0 then [] else tNu pl), s.2) cap' da' d cl u ∧ tFr x nl da d σ da' d u ∧ cPyz σ cap cl u cap' cl := by
  have e14 : ovl (ofd σ (some k) 4 14) = some pl := by rw [ofd_at hk, h14]; rfl
  have z0 : (0 : Int64).toInt = 0 := rfl
  unfold oj_X12_tellTerm_97
  rw [e14, obn_at]
  by_cases c : pl.toInt = 0
  · have e : pl = 0 := by rw [← Int64.toInt_inj, c]; rfl
    rw [if_pos ((lg_eq pl 0).mpr e), if_pos c, List.append_nil]
    exact ⟨σ, cap, da, rfl, h, tFr.rf _ _ _ _ _, cPyz.rf _ _ _⟩
  · obtain ⟨u, cap', da', r1, r2⟩ := p_num (T := T) (n := n) (v := pl) hp hT hκ (by omega) h
    rw [if_neg (fun z => c (by rw [(lg_eq pl 0).mp z]; rfl)), obn_at, h.oo, obn_at, r1, ocv_at, if_neg c]
    exact ⟨u, cap', da', rfl, r2⟩
theorem p_tt71 {i : Nat} {pl : Int64} (W : cLw κ ks T sz x da σ) (h : cTp κ x nl na s cap da d cl σ) (hi : i < 17) (hi8 : (oktx i).toList.length ≤ 1000) (hk : σ.1 k = some (.inr (4, f))) (h13 : f[13]? = some (.ref (na a))) (h14 : f[14]? = some (.long pl)) (hp : pl.toInt.natAbs ≤ 1000000000000000000) (hw : ∀ w, (wd w).length ≤ 3000) (hN : tNo κ wd na x nl da d σ a) (hD : ∀ b, b ∈ s.2 → na b = na a → b = a) (hl : s.1.length < 800000000) (hl2 : s.2.length < 2450) : ∃ u cap' da' d' cl', oj_X12_tellTerm_71 T (oF κ T (n + 7)) κ (some x) (some k) (some x) (some (κ.1 i)) σ = some (none, u) ∧ cTp κ x nl na (((tNm wd a (s.1 ++ tTx (fun j => zch (oktx i) j &&& 255) (oktx i).toList.length 0, s.2)).1 ++ (if 0 < pl.toInt then [43] else [])) ++ (if pl.toInt = 0 then [] else tNu pl), (tNm wd a (s.1 ++ tTx (fun j => zch (oktx i) j &&& 255) (oktx i).toList.length 0, s.2)).2) cap' da' d' cl' u ∧ tFr x nl da d σ da' d' u ∧ cPyz σ cap cl u cap' cl' := by
  have hT := W.2.2.2.2.2.2
  have z0 : (0 : Int64).toInt = 0 := rfl
  have hκ : ∀ {v : oSt}, σ.2.1 ≤ v.2.1 → κ.2.2.1 < v.2.1 := fun {v} e => Nat.lt_of_lt_of_le (Nat.lt_of_lt_of_le W.2.1 W.2.2.2.1) e
  obtain ⟨u1, cap1, da1, r1, r2, r3, r4⟩ := p_wrd (n := n + 2) (i := i) W hi (by omega) h
  have k1 := h.ob r3 hk (by decide) (by decide)
  obtain ⟨u2, cap2, da2, d2, cl2, s1, s2, s3, s4⟩ := p_nm (wd := wd) (n := n) (a := a) (W.on h r3) r2 (hN.on h (h.fw r3)) hD (by show (s.1 ++ _).length < _; rw [List.length_append, tTx_len]; omega) hl2
  have k2 := r2.ob s3 k1 (by decide) (by decide)
  have f13 : ovr (ofd u1 (some k) 4 13) = some (some (na a)) := by rw [ofd_at k1, h13]; rfl
  have f14 : ovl (ofd u2 (some k) 4 14) = some pl := by rw [ofd_at k2, h14]; rfl
  have ln := tNm_L wd hw a (s.1 ++ tTx (fun j => zch (oktx i) j &&& 255) (oktx i).toList.length 0, s.2)
  have ln : (tNm wd a (s.1 ++ tTx (fun j => zch (oktx i) j &&& 255) (oktx i).toList.length 0, s.2)).1.length < 850000000 := by
    have e : (s.1 ++ tTx (fun j => zch (oktx i) j &&& 255) (oktx i).toList.length 0).length = s.1.length + (oktx i).toList.length := by rw [List.length_append, tTx_len]
    have ln : _ ≤ (s.1 ++ tTx (fun j => zch (oktx i) j &&& 255) (oktx i).toList.length 0).length + 3000 := ln
    omega
  generalize tNm wd a (s.1 ++ tTx (fun j => zch (oktx i) j &&& 255) (oktx i).toList.length 0, s.2) = s' at s2 ln ⊢
  have l1 := r3.2.2.2.1
  have l2 := s3.2.2.2.1
  unfold oj_X12_tellTerm_71
  rw [h.oo, obn_at, r1, ocv_at, f13, obn_at, r2.oo, obn_at, s1, ocv_at, f14, obn_at]
  by_cases c : 0 < pl.toInt
  · obtain ⟨u3, cap3, da3, t1, t2, t3, t4⟩ := p_put (T := T) (n := n + 5) (c := 43) (hκ (Nat.le_trans l1 l2)) (by omega) s2
    obtain ⟨u4, cap4, da4, v1, v2, v3, v4⟩ := p_tt97 (T := T) (n := n + 4) (by omega) (hκ (Nat.le_trans (Nat.le_trans l1 l2) t3.2.2.2.1)) t2 (s2.ob t3 k2 (by decide) (by decide)) h14 hp (by show (s'.1 ++ [43]).length < _; rw [List.length_append]; show s'.1.length + 1 < _; omega)
    rw [if_neg (fun z => by rw [lg_le0] at z; omega), s2.oo, obn_at, t1, ocv_at, v1, if_pos c]
    exact ⟨u4, cap4, da4, d2, cl2, rfl, v2, r3.tr (s3.tr (t3.tr v3)), r4.tr (s4.tr (t4.tr v4))⟩
  · obtain ⟨u4, cap4, da4, v1, v2, v3, v4⟩ := p_tt97 (T := T) (n := n + 4) (by omega) (hκ (Nat.le_trans l1 l2)) s2 k2 h14 hp (by omega)
    rw [if_pos (by rw [lg_le0]; omega), v1, if_neg c, List.append_nil]
    exact ⟨u4, cap4, da4, d2, cl2, rfl, v2, r3.tr (s3.tr v3), r4.tr (s4.tr v4)⟩
theorem tLn_9 : tTx (fun j => zch (oktx 9) j &&& 255) (oktx 9).toList.length 0 = tLn 1 ∧ (oktx 9).toList.length ≤ 1000 := by decide +kernel
theorem tLn_10 : tTx (fun j => zch (oktx 10) j &&& 255) (oktx 10).toList.length 0 = tLn 2 ∧ (oktx 10).toList.length ≤ 1000 := by decide +kernel
theorem tLn_11 : tTx (fun j => zch (oktx 11) j &&& 255) (oktx 11).toList.length 0 = tLn 0 ∧ (oktx 11).toList.length ≤ 1000 := by decide +kernel
theorem p_tt29 {pl : Int64} {gs : List Value} {bs : Int32} (W : cLw κ ks T sz x da σ) (h : cTp κ x nl na s cap da d cl σ) (hk : σ.1 k = some (.inr (4, f))) (h13 : f[13]? = some (.ref (na a))) (h14 : f[14]? = some (.long pl)) (hp : pl.toInt.natAbs ≤ 1000000000000000000) (hw : ∀ w, (wd w).length ≤ 3000) (hN : tNo κ wd na x nl da d σ a) (hD : ∀ b, b ∈ s.2 → na b = na a → b = a) (hg : σ.1 (na a) = some (.inr (6, gs))) (g3 : gs[3]? = some (.int bs)) (hl : s.1.length < 800000000) (hl2 : s.2.length < 2450) : ∃ u cap' da' d' cl', oj_X12_tellTerm_29 T (oF κ T (n + 7)) κ (some x) (some k) σ = some (none, u) ∧ cTp κ x nl na (((tNm wd a (s.1 ++ tLn (tBk bs), s.2)).1 ++ (if 0 < pl.toInt then [43] else [])) ++ (if pl.toInt = 0 then [] else tNu pl), (tNm wd a (s.1 ++ tLn (tBk bs), s.2)).2) cap' da' d' cl' u ∧ tFr x nl da d σ da' d' u ∧ cPyz σ cap cl u cap' cl' := by
  have f13 : ovr (ofd σ (some k) 4 13) = some (some (na a)) := by rw [ofd_at hk, h13]; rfl
  have f3 : ovi (ofd σ (some (na a)) 6 3) = some bs := by rw [ofd_at hg, g3]; rfl
  unfold oj_X12_tellTerm_29 tBk
  rw [f13, obn_at, f3, obn_at]
  by_cases c1 : bs = 200
  · rw [if_pos c1, if_pos c1, ← tLn_9.1]
    exact p_tt71 W h (by decide) tLn_9.2 hk h13 h14 hp hw hN hD hl hl2
  · rw [if_neg c1, if_neg c1, obn_at, f3, obn_at]
    by_cases c2 : bs = 213
    · rw [if_pos c2, if_pos c2, ← tLn_10.1]
      exact p_tt71 W h (by decide) tLn_10.2 hk h13 h14 hp hw hN hD hl hl2
    · rw [if_neg c2, if_neg c2, ← tLn_11.1]
      exact p_tt71 W h (by decide) tLn_11.2 hk h13 h14 hp hw hN hD hl hl2
/-- **tellTerm() (186)** -/
theorem p_term (W : cLw κ ks T sz x da σ) (h : cTp κ x nl na s cap da d cl σ) (hk : σ.1 k = some (.inr (4, f))) (hK : tKt κ wd bk na x nl da d s.2 f t σ) (hw : ∀ w, (wd w).length ≤ 3000) (hl : s.1.length < 790000000) (hl2 : s.2.length < 2450) : ∃ u cap' da' d' cl', oF κ T (n + 8) 186 [va_rf (some x), va_rf (some k)] σ = some (none, u) ∧ cTp κ x nl na (tTm wd bk t s) cap' da' d' cl' u ∧ tFr x nl da d σ da' d' u ∧ cPyz σ cap cl u cap' cl' := by
  obtain ⟨⟨pl, h14, hp, hpb⟩, hK⟩ := hK
  have hT := W.2.2.2.2.2.2
  have hκ := Nat.lt_of_lt_of_le W.2.1 W.2.2.2.1
  have epl : Int64.ofInt t.2 = pl := by rw [← hp, Int64.ofInt_toInt]
  have e14 : ovl (ofd σ (some k) 4 14) = some pl := by rw [ofd_at hk, h14]; rfl
  rw [oE_X12_tellTerm]
  unfold ob_X12_tellTerm tTm
  rw [epl, ← hp]
  rcases hK with ⟨t1, h13⟩ | ⟨a, tm, t1, h13, h12, hN, hD, gs, bs, g1, g3, g4⟩
  · have f13 : ovr (ofd σ (some k) 4 13) = some none := by rw [ofd_at hk, h13]; rfl
    obtain ⟨u, cap', da', r1, r2⟩ := p_num (T := T) (n := n + 4) (v := pl) hpb (by omega) hκ (by omega) h
    rw [f13, obn_at, if_pos rfl, e14, obn_at, h.oo, obn_at, r1, ocv_at, t1]
    exact ⟨u, cap', da', d, cl, rfl, r2⟩
  · have f13 : ovr (ofd σ (some k) 4 13) = some (some (na a)) := by rw [ofd_at hk, h13]; rfl
    have f12 : ovi (ofd σ (some k) 4 12) = some tm := by rw [ofd_at hk, h12]; rfl
    have z0 : (0 : Int32).toInt = 0 := rfl
    rw [f13, obn_at, if_neg (fun z => by cases z), f12, obn_at, t1]
    show ∃ u cap' da' d' cl', _ ∧ cTp κ x nl na (((tNm wd a ((s.1 ++ (if tm.toInt < 0 then [45] else [])) ++ tLn (bk a), s.2)).1 ++ (if 0 < pl.toInt then [43] else [])) ++ (if pl.toInt = 0 then [] else tNu pl), (tNm wd a ((s.1 ++ (if tm.toInt < 0 then [45] else [])) ++ tLn (bk a), s.2)).2) cap' da' d' cl' u ∧ _
    rw [g4]
    by_cases c : tm.toInt < 0
    · obtain ⟨u1, cap1, da1, r1, r2, r3, r4⟩ := p_put (T := T) (n := n + 5) (c := 45) hκ (by omega) h
      obtain ⟨u2, cap2, da2, d2, cl2, s1, s2, s3, s4⟩ := p_tt29 (wd := wd) (n := n) (W.on h r3) r2 (h.ob r3 hk (by decide) (by decide)) h13 h14 hpb hw (hN.on h (h.fw r3)) hD (h.ob r3 g1 (by decide) (by decide)) g3 (by show (s.1 ++ [45]).length < _; rw [List.length_append]; show s.1.length + 1 < _; omega) hl2
      rw [if_neg (fun z => by rw [Int32.le_iff_toInt_le, z0] at z; omega), h.oo, obn_at, r1, ocv_at, s1, if_pos c]
      exact ⟨u2, cap2, da2, d2, cl2, rfl, s2, r3.tr s3, r4.tr s4⟩
    · rw [if_pos (by rw [Int32.le_iff_toInt_le, z0]; omega), if_neg c, List.append_nil]
      exact p_tt29 W h hk h13 h14 hpb hw hN hD g1 g3 (by omega) hl2
end TST
