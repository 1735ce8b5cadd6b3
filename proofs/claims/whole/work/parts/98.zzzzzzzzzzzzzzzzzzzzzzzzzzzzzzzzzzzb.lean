/-! type(): a leaf, the class -/
/-- NAMES that can be said -/
def tNs (κ : oKv) (wd : Nat → List Int32) (bk : gN → Nat) (na : gN → Nat) (x nl da d : Nat) (Nm : gN → Prop) (σ : oSt) : Prop := ∀ a, Nm a → tNo κ wd na x nl da d σ a ∧ ∃ gs bs, σ.1 (na a) = some (.inr (6, gs)) ∧ gs[3]? = some (.int bs) ∧ bk a = tBk bs
/-- a kind's word by the class's numbers -/
def tKk (kd : Int32) : Nat := if kd = 202 then 1 else if kd = 200 then 2 else if kd = 213 then 3 else 0
/-- a leaf from one of its FACTS on -/
def tLef (wd : Nat → List Int32) (bk : gN → Nat) (b : Bool) (C : List gFc) (m kw : Nat) (s : tPs) : tPs := (((tFs wd bk b C s).1 ++ (if m = 0 then [] else [125])) ++ tKw kw, (tFs wd bk b C s).2)
/-- what a Known's FACTS say -/
def tFc (na : gN → Nat) (Nm : gN → Prop) (F : List kFc) (G : List (Nat × kTe)) (C : List gFc) : Prop := C.length = F.length ∧ ∀ (i : Nat) (c : kFc), F[i]? = some c → ∃ t', C[i]? = some (c.1, t') ∧ c.1 ≤ 4 ∧ kRs G c.2 = kTm na t' ∧ t'.2.natAbs ≤ 1000000000000000000 ∧ ∀ a e, t'.1 = some (a, e) → Nm a
theorem tTm_D (wd : Nat → List Int32) (bk : gN → Nat) (t : gTe) (s : tPs) : (∀ b, b ∈ (tTm wd bk t s).2 → b ∈ s.2 ∨ ∃ e, t.1 = some (b, e)) ∧ (tTm wd bk t s).2.length ≤ s.2.length + 1 := by
  obtain ⟨t1, t2⟩ := t
  match t1 with
  | none => exact ⟨fun b h => Or.inl h, Nat.le_succ _⟩
  | some (a, e) =>
    obtain ⟨h1, h2⟩ := tNm_D wd a ((s.1 ++ (if e < 0 then [45] else [])) ++ tLn (bk a), s.2)
    refine ⟨fun b h => ?_, h2⟩
    rcases h1 b h with r | r
    · exact Or.inl r
    · exact Or.inr ⟨e, by rw [r]⟩
theorem tLn_len (b : Nat) : (tLn b).length ≤ 5 := by
  unfold tLn
  split
  · decide
  · split
    · decide
    · decide
theorem tRl_len (r : Nat) : (tRl r).length ≤ 2 := by
  unfold tRl
  split
  · decide
  · split
    · decide
    · split
      · decide
      · split
        · decide
        · decide
theorem tTm_L (wd : Nat → List Int32) (bk : gN → Nat) (hw : ∀ w, (wd w).length ≤ 3000) (t : gTe) (s : tPs) : (tTm wd bk t s).1.length ≤ s.1.length + 3100 := by
  obtain ⟨t1, t2⟩ := t
  have h3 := tNu_len (Int64.ofInt t2)
  match t1 with
  | none =>
    show (s.1 ++ tNu (Int64.ofInt t2)).length ≤ _
    rw [List.length_append]
    omega
  | some (a, e) =>
    have h1 := tNm_L wd hw a ((s.1 ++ (if e < 0 then [45] else [])) ++ tLn (bk a), s.2)
    have h2 := tLn_len (bk a)
    show (((tNm wd a ((s.1 ++ (if e < 0 then [45] else [])) ++ tLn (bk a), s.2)).1 ++ (if 0 < t2 then [43] else [])) ++ (if t2 = 0 then [] else tNu (Int64.ofInt t2))).length ≤ _
    have h1 : _ ≤ ((s.1 ++ (if e < 0 then [45] else [])) ++ tLn (bk a)).length + 3000 := h1
    have e1 : (if e < 0 then [(45 : Int32)] else []).length ≤ 1 := by split <;> decide
    have e2 : (if 0 < t2 then [(43 : Int32)] else []).length ≤ 1 := by split <;> decide
    have e3 : (if t2 = 0 then [] else tNu (Int64.ofInt t2)).length ≤ 20 := by
      split
      · exact Nat.zero_le _
      · exact h3
    rw [List.length_append, List.length_append] at h1 ⊢
    omega
section TSL
variable {κ : oKv} {ks : Nat → Nat} {wd : Nat → List Int32} {bk : gN → Nat} {T n x nl sz k w ra sa da0 da da' da2 d0 d d' d2 cap cap' cap2 cl cl' cl2 : Nat} {lo : Nat × (Nat → Prop)} {na : gN → Nat} {Nm : gN → Prop} {f f' fs fs0 : List Value} {σ0 σ u : oSt} {s : tPs} {F : List kFc} {G : List (Nat × kTe)} {C : List gFc} {kd : Int32}
theorem cTp.rw {q m : Nat} {ty : FieldType} {c : _} (h : cTp κ x nl na s cap da d cl σ) (k : tFww x nl da d σ da' d' u) (e : σ.1 q = some (.inl (ty, m, c))) (h1 : ty ≠ .byte) (h2 : ty ≠ .object "java/lang/Object") : u.1 q = some (.inl (ty, m, c)) := by
  obtain ⟨⟨fs, c1, c2, c3⟩, c4, mc, g, ⟨l1, l2, -⟩, -⟩ := h
  obtain ⟨f1, d1, g1, -, ⟨e5, -⟩, -, -, e11, -, e13, -⟩ := c1
  have lt : ∀ {q : Nat} {c : oC}, σ.1 q = some c → q < σ.2.1 := fun {q c} z => Nat.lt_of_not_le (fun w => by rw [e11 q w] at z; cases z)
  have hd : d1 = da := by have := lt e5; omega
  rw [k.1 q (lt e) (fun z => by rw [z, c2] at e; cases e) (fun z => by rw [z, ← hd, e5] at e; injection e with e; injection e with e; injection e with e _; exact h1 e.symm) (fun z => by rw [z, l1] at e; cases e) (Or.inl (fun z => by
    rcases l2 with ⟨-, -, -, m4⟩ | ⟨m1, -⟩
    · rw [z, m4] at e; cases e
    · rw [z, m1] at e; injection e with e; injection e with e; injection e with e _; exact h2 e.symm)) (fun f z => by rw [e] at z; cases z)]
  exact e
theorem tNs.on (h : cTp κ x nl na s cap da d cl σ) (k : tFww x nl da d σ da' d' u) (hN : tNs κ wd bk na x nl da d Nm σ) : tNs κ wd bk na x nl da' d' Nm u := fun a ha => by
  obtain ⟨h1, gs, bs, h2, h3⟩ := hN a ha
  exact ⟨h1.on h k, gs, bs, h.oc k h2 (by decide) (by decide) (by decide), h3⟩
theorem cTm.pw {su : Nat} {t : kTe} (h : cTp κ x nl na s cap da d cl σ) (k : tFww x nl da d σ da' d' u) (c : cTm lo σ su t) : cTm lo u su t := by
  obtain ⟨na', ta, cap, Ls, pl, ⟨g, hh, c1, c2, c3, c4, c5⟩, r⟩ := c
  exact ⟨na', ta, cap, Ls, pl, ⟨g, hh, h.oc k c1 (by decide) (by decide) (by decide), h.rw k c2 (by decide) (by decide), h.rw k c3 (by decide) (by decide), c4, fun i b c e => by
    obtain ⟨e1, e2, fs, e3⟩ := c5 i b c e
    exact ⟨e1, e2, fs, h.oc k e3 (by decide) (by decide) (by decide)⟩⟩, r⟩
theorem kOr.pw (h : cTp κ x nl na s cap da d cl σ) (k : tFww x nl da d σ da' d' u) (c : kOr lo σ w ra sa F) : kOr lo u w ra sa F := by
  obtain ⟨fs, cp, hr, gs, c1, c2, c3, c4, c5⟩ := c
  obtain ⟨fs', e1, e2, e3⟩ := k.2.2.2.2.2 w fs c1
  refine ⟨fs', cp, hr, gs, e1, e2.trans c2, (e3 7 (by decide)).trans c3, c4, ?_⟩
  rcases c5 with c5 | ⟨m1, m2, m3, m4, m5, m6⟩
  · exact Or.inl c5
  · refine Or.inr ⟨(e3 5 (by decide)).trans m1, (e3 6 (by decide)).trans m2, h.rw k m3 (by decide) (by decide), h.rw k m4 (by decide) (by decide), m5, fun i y e => ?_⟩
    obtain ⟨n1, n2, su, n3, n4⟩ := m6 i y e
    exact ⟨n1, n2, su, n3, n4.pw h k⟩
theorem kGo.pw {k0 : Nat} (h : cTp κ x nl na s cap da d cl σ) (k : tFww x nl da d σ da' d' u) (c : kGo lo σ k0 w G) : kGo lo u k0 w G := by
  obtain ⟨fs, c1, c2, c3, c4, c5⟩ := c
  obtain ⟨fs', e1, e2, e3⟩ := k.2.2.2.2.2 k0 fs c1
  refine ⟨fs', e1, e2.trans c2, (e3 1 (by decide)).trans c3, c4, ?_⟩
  rcases c5 with ⟨m1, m2⟩ | ⟨gn, ins, g, g', m1, m2, m3, m4, m5, m6⟩
  · exact Or.inl ⟨m1, (e3 9 (by decide)).trans m2⟩
  · refine Or.inr ⟨gn, ins, g, g', m1, (e3 9 (by decide)).trans m2, (e3 10 (by decide)).trans m3, h.rw k m4 (by decide) (by decide), h.rw k m5 (by decide) (by decide), fun i y e => ?_⟩
    obtain ⟨n1, su, n3, n4⟩ := m6 i y e
    exact ⟨n1, su, n3, n4.pw h k⟩
/-- a Known recalls -/
theorem cTp.rc (h : cTp κ x nl na s cap da d cl σ) (hk : σ.1 k = some (.inr (4, f))) (hf : f'.length = f.length) (h11 : ∀ i, i < 11 → f'[i]? = f[i]?) : cTp κ x nl na s cap da d cl (oput σ k (.inr (4, f'))) ∧ tFww x nl da d σ da d (oput σ k (.inr (4, f'))) := by
  obtain ⟨⟨fs, c1, c2, c3⟩, c4, mc, g, l, lg⟩ := id h
  obtain ⟨f1, d1, g1, -, ⟨e5, -⟩, -, -, e11, -, e13, -⟩ := id c1
  have lt : ∀ {q : Nat} {c : oC}, σ.1 q = some c → q < σ.2.1 := fun {q c} z => Nat.lt_of_not_le (fun w => by rw [e11 q w] at z; cases z)
  have hd : d1 = da := by have := lt e5; omega
  have nx : x ≠ k := fun z => by rw [z, hk] at c2; cases c2
  have nd : da ≠ k := fun z => by rw [hd, z, hk] at e5; cases e5
  have ne : ∀ q ci gs, ci ≠ 4 → σ.1 q = some (.inr (ci, gs)) → (oput σ k (.inr (4, f'))).1 q = some (.inr (ci, gs)) := fun q ci gs hc e => by
    rw [oput_ne (fun z => by rw [z, hk] at e; injection e with e; injection e with e; injection e with e _; exact hc e.symm)]
    exact e
  refine ⟨⟨⟨fs, c1.to (oput_ne nx) (oput_ne nd) (fun q hq => ?_) (Nat.le_refl _), (oput_ne nx).trans c2, c3⟩, c4, mc, g, ?_, lg⟩, ⟨fun q q1 q2 q3 q4 q5 q6 => oput_ne (fun z => q6 f (by rw [z]; exact hk)), Or.inl rfl, Or.inl rfl, Nat.le_refl _, fun fs0 e => ⟨fs0, (oput_ne nx).trans e, fun _ _ _ => rfl⟩, fun q g e => ?_⟩⟩
  · have hq : σ.2.1 ≤ q := hq
    have := lt hk
    rw [oput_ne (by omega)]
    exact e11 q hq
  · refine l.keep (oput_ne (fun z => by rw [z] at l; rw [l.1] at hk; cases hk)) (oput_ne (fun z => ?_)) (fun a fs e => ⟨fs, ne a 6 fs (by decide) e⟩)
    rcases l.2.1 with ⟨-, -, -, m4⟩ | ⟨m1, -⟩
    · rw [z, hk] at m4; cases m4
    · rw [z, hk] at m1; cases m1
  · by_cases c : q = k
    · subst c
      rw [hk] at e
      injection e with e; injection e with e; injection e with _ e
      subst e
      exact ⟨f', oput_eq _ _ _, hf, h11⟩
    · exact ⟨g, (oput_ne c).trans e, rfl, fun _ _ => rfl⟩
/-- the term at hand -/
theorem tKt_of {r : Nat} {t : kTe} {t' : gTe} (hR : kRf f f' r t) (ht : t = kTm na t') (hb : t'.2.natAbs ≤ 1000000000000000000) (hN : tNs κ wd bk na x nl da d Nm σ) (hin : ∀ a b, Nm a → Nm b → na a = na b → a = b) (hD : ∀ b, b ∈ s.2 → Nm b) (hm : ∀ a e, t'.1 = some (a, e) → Nm a) : tKt κ wd bk na x nl da d s.2 f' t' σ := by
  obtain ⟨-, -, -, ⟨pl, h1, h2⟩, h3⟩ := hR
  rw [ht] at h2 h3
  have h2 : pl.toInt = t'.2 := h2
  refine ⟨⟨pl, h1, h2, by rw [h2]; exact hb⟩, ?_⟩
  obtain ⟨t1, t2⟩ := t'
  match t1 with
  | none =>
    rcases h3 with ⟨-, h3⟩ | ⟨a, tm, h3, -⟩
    · exact Or.inl ⟨rfl, h3⟩
    · cases h3
  | some (a, e) =>
    rcases h3 with ⟨h3, -⟩ | ⟨a', tm, h3, -, h4, h5⟩
    · cases h3
    · have h3 : some (na a, e) = some (a', tm.toInt) := h3
      injection h3 with h3
      injection h3 with h6 h7
      obtain ⟨n1, n2⟩ := hN a (hm a e rfl)
      exact Or.inr ⟨a, tm, by rw [h7], by rw [h6]; exact h4, h5, n1, fun b hb q => hin b a (hD b hb) (hm a e rfl) q, n2⟩
theorem tKw_12 : tTx (fun j => zch (oktx 12) j &&& 255) (oktx 12).toList.length 0 = tKw 1 := by decide +kernel
theorem tKw_13 : tTx (fun j => zch (oktx 13) j &&& 255) (oktx 13).toList.length 0 = tKw 2 := by decide +kernel
theorem tKw_14 : tTx (fun j => zch (oktx 14) j &&& 255) (oktx 14).toList.length 0 = tKw 3 := by decide +kernel
theorem tKw_15 : tTx (fun j => zch (oktx 15) j &&& 255) (oktx 15).toList.length 0 = tKw 0 := by decide +kernel
theorem p_tl68 (W : cLw κ ks T sz x da σ) (h : cTp κ x nl na s cap da d cl σ) (hk : σ.1 k = some (.inr (4, f))) (h0 : f[0]? = some (.int kd)) (hl : s.1.length < 860000000) : ∃ u cap' da', oj_X12_tellLeaf_68 T (oF κ T (n + 5)) κ (some x) (some k) σ = some (none, u) ∧ cTp κ x nl na (s.1 ++ tKw (tKk kd), s.2) cap' da' d cl u ∧ tFr x nl da d σ da' d u ∧ cPyz σ cap cl u cap' cl := by
  have f0 : ovi (ofd σ (some k) 4 0) = some kd := by rw [ofd_at hk, h0]; rfl
  unfold oj_X12_tellLeaf_68 tKk
  rw [f0, obn_at]
  have P : ∀ i, i < 17 → ∃ u cap' da', (obn (oob σ (some x) 14) fun _ => ocv (oF κ T (n + 5) 182 [va_rf (some x), va_rf (some (κ.1 i))] σ) fun s => some (none, s)) = some (none, u) ∧ cTp κ x nl na (s.1 ++ tTx (fun j => zch (oktx i) j &&& 255) (oktx i).toList.length 0, s.2) cap' da' d cl u ∧ tFr x nl da d σ da' d u ∧ cPyz σ cap cl u cap' cl := fun i hi => by
    obtain ⟨u, cap', da', r1, r2⟩ := p_wrd (n := n) W hi (by omega) h
    rw [h.oo, obn_at, r1, ocv_at]
    exact ⟨u, cap', da', rfl, r2⟩
  by_cases c1 : kd = 202
  · rw [if_pos c1, if_pos c1, ← tKw_12]
    exact P 12 (by decide)
  · rw [if_neg c1, if_neg c1, obn_at]
    by_cases c2 : kd = 200
    · rw [if_pos c2, if_pos c2, ← tKw_13]
      exact P 13 (by decide)
    · rw [if_neg c2, if_neg c2, obn_at]
      by_cases c3 : kd = 213
      · rw [if_pos c3, if_pos c3, ← tKw_14]
        exact P 14 (by decide)
      · rw [if_neg c3, if_neg c3, ← tKw_15]
        exact P 15 (by decide)
theorem tFv_5 : tTx (fun j => zch (oktx 5) j &&& 255) (oktx 5).toList.length 0 = [123, 118] := by decide +kernel
theorem tFv_6 : tTx (fun j => zch (oktx 6) j &&& 255) (oktx 6).toList.length 0 = [38, 118] := by decide +kernel
set_option maxHeartbeats 1000000 in
theorem p_tl2 (hT : 100100 ≤ T) (hin : ∀ a b, Nm a → Nm b → na a = na b → a = b) (hw : ∀ w, (wd w).length ≤ 3000) (hC : tFc na Nm F G C) : ∀ (m i Fu : Nat) (s : tPs) (cap da d cl : Nat) (σ : oSt), i + m = F.length → m < Fu → cLw κ ks T sz x da σ → cTp κ x nl na s cap da d cl σ → tNs κ wd bk na x nl da d Nm σ → (∀ b, b ∈ s.2 → Nm b) → kOr lo σ w ra sa F → kGo lo σ k w G → (∃ f, σ.1 k = some (.inr (4, f)) ∧ f[0]? = some (.int kd)) → s.1.length + 4000 * m < 780000000 → s.2.length + m < 2450 → ∃ u cap' da' d' cl', ol_X12_tellLeaf_2 T (oF κ T (n + 8)) κ Fu (some x) (some k) (nI i) σ = some (none, u) ∧ cTp κ x nl na (tLef wd bk (decide (i = 0)) (C.drop i) F.length (tKk kd) s) cap' da' d' cl' u ∧ tFww x nl da d σ da' d' u ∧ cPyz σ cap cl u cap' cl'
  | m, i, Fu, s, cap, da, d, cl, σ, hi, hF, W, h, hN, hD, hO, hG, ⟨f, hk, h0⟩, hl, hl2 => by
    obtain ⟨Fu, rfl⟩ : ∃ u, Fu = u + 1 := ⟨Fu - 1, by omega⟩
    have hκ := Nat.lt_of_lt_of_le W.2.1 W.2.2.2.1
    have e1 : ovr (ofd σ (some k) 4 1) = some (some w) := by
      obtain ⟨g1, a1, a2, a3, -⟩ := hG
      rw [ofd_at a1, a3]; rfl
    obtain ⟨e7, fl⟩ : ovi (ofd σ (some w) 4 7) = some (nI F.length) ∧ F.length ≤ 100000 := by
      obtain ⟨g1, g2, g3, g4, a1, a2, a3, a4, -⟩ := hO
      exact ⟨by rw [ofd_at a1, a3]; rfl, a4⟩
    rw [ol_X12_tellLeaf_2, e1, obn_at, e7, obn_at]
    match m, hi, hF, hl, hl2 with
    | 0, hi, hF, hl, hl2 =>
      have ei : i = F.length := by omega
      have dr : C.drop i = [] := List.drop_eq_nil_of_le (by rw [hC.1]; omega)
      rw [if_pos (nI_le (by omega) (by omega)), dr]
      unfold tLef
      show ∃ u cap' da' d' cl', _ ∧ cTp κ x nl na ((s.1 ++ (if F.length = 0 then [] else [125])) ++ tKw (tKk kd), s.2) cap' da' d' cl' u ∧ _
      rw [obn_at, e7, obn_at]
      by_cases c : F.length = 0
      · obtain ⟨u, cap', da', r1, r2, r3, r4⟩ := p_tl68 (n := n + 3) W h hk h0 (by omega)
        rw [if_pos (by rw [c]; decide), r1, if_pos c, List.append_nil]
        exact ⟨u, cap', da', d, cl, rfl, r2, h.fw r3, r4⟩
      · obtain ⟨u1, cap1, da1, r1, r2, r3, r4⟩ := p_put (T := T) (n := n + 6) (c := 125) hκ (by omega) h
        obtain ⟨u, cap', da', t1, t2, t3, t4⟩ := p_tl68 (n := n + 3) (W.on h r3) r2 (h.ob r3 hk (by decide) (by decide)) h0 (by show (s.1 ++ [125]).length < _; rw [List.length_append]; show s.1.length + 1 < _; omega)
        rw [if_neg (show ¬ nI F.length ≤ (0 : Int32) from nI_ge (b := F.length) (a := 0) (by omega) (by omega)), h.oo, obn_at, r1, ocv_at, t1, if_neg c]
        exact ⟨u, cap', da', d, cl, rfl, t2, h.fw (r3.tr t3), r4.tr t4⟩
    | m + 1, hi, hF, hl, hl2 =>
      obtain ⟨⟨r, t⟩, hFi⟩ : ∃ c, F[i]? = some c := ⟨_, List.getElem?_eq_getElem (by omega)⟩
      obtain ⟨t', hCi, hr, ht, hb, hm⟩ := hC.2 i _ hFi
      obtain ⟨f', q1, q2⟩ := c_recall (κ := κ) (n := n + 6) hT hO hG hk hFi
      obtain ⟨h1, w1⟩ := h.rc hk q2.1 q2.2.1
      have W1 := W.ow h w1
      have N1 := tNs.on h w1 hN
      have dr : C.drop i = (r, t') :: C.drop (i + 1) := by
        have il : i < C.length := by rw [hC.1]; omega
        rw [List.drop_eq_getElem_cons il]
        rw [List.getElem?_eq_getElem il] at hCi
        injection hCi with hCi
        rw [hCi]
      obtain ⟨iw, hiw, hwd⟩ : ∃ iw, iw < 17 ∧ ((i = 0 ∧ iw = 5) ∨ (i ≠ 0 ∧ iw = 6)) := by
        by_cases c : i = 0
        · exact ⟨5, by decide, Or.inl ⟨c, rfl⟩⟩
        · exact ⟨6, by decide, Or.inr ⟨c, rfl⟩⟩
      have hwl : tTx (fun j => zch (oktx iw) j &&& 255) (oktx iw).toList.length 0 = if decide (i = 0) = true then [123, 118] else [38, 118] := by
        rcases hwd with ⟨c, rfl⟩ | ⟨c, rfl⟩
        · rw [if_pos (decide_eq_true c)]; exact tFv_5
        · rw [if_neg (fun z => c (of_decide_eq_true z))]; exact tFv_6
      obtain ⟨u2, cap2, da2, r1, r2, r3, r4⟩ := p_wrd (n := n + 3) W1 hiw (by omega) h1
      rw [hwl] at r2
      generalize hWw : (if decide (i = 0) = true then [(123 : Int32), 118] else [38, 118]) = ww at r2
      have wl : ww.length = 2 := by rw [← hWw]; split <;> rfl
      have k1 : (oput σ k (.inr (4, f'))).1 k = some (.inr (4, f')) := oput_eq _ _ _
      have k2 := h1.ob r3 k1 (by decide) (by decide)
      have W2 := W1.on h1 r3
      have N2 := tNs.on h1 (h1.fw r3) N1
      obtain ⟨u3, cap3, da3, s1, s2, s3, s4⟩ := p_rel (n := n + 2) (r := r) hr W2 (by show (s.1 ++ ww).length < _; rw [List.length_append]; omega) r2
      have k3 := r2.ob s3 k2 (by decide) (by decide)
      have W3 := W2.on r2 s3
      have N3 := tNs.on r2 (r2.fw s3) N2
      have rl := tRl_len r
      have ln3 : ((s.1 ++ ww) ++ tRl r).length ≤ s.1.length + 4 := by rw [List.length_append, List.length_append]; omega
      obtain ⟨u4, cap4, da4, d4, cl4, v1, v2, v3, v4⟩ := p_term (wd := wd) (bk := bk) (t := t') (n := n) W3 s2 k3 (tKt_of (s := s) q2 ht hb N3 hin hD hm) hw (by show ((s.1 ++ ww) ++ tRl r).length < _; omega) (by show s.2.length < _; omega)
      have v2 : cTp κ x nl na (tTm wd bk t' ((s.1 ++ ww) ++ tRl r, s.2)) cap4 da4 d4 cl4 u4 := v2
      have FW : tFww x nl da d σ da4 d4 u4 := w1.tr ((h1.fw r3).tr ((r2.fw s3).tr (s2.fw v3)))
      have eFa : tTm wd bk t' ((s.1 ++ ww) ++ tRl r, s.2) = tFa wd bk (decide (i = 0)) (r, t') s := by rw [← hWw]; rfl
      have lT := tTm_L wd bk hw t' ((s.1 ++ ww) ++ tRl r, s.2)
      have lT : (tTm wd bk t' ((s.1 ++ ww) ++ tRl r, s.2)).1.length ≤ ((s.1 ++ ww) ++ tRl r).length + 3100 := lT
      obtain ⟨dT, dT'⟩ := tTm_D wd bk t' ((s.1 ++ ww) ++ tRl r, s.2)
      have dT' : (tTm wd bk t' ((s.1 ++ ww) ++ tRl r, s.2)).2.length ≤ s.2.length + 1 := dT'
      obtain ⟨f4, x1, x2, x3⟩ := FW.2.2.2.2.2 k f hk
      obtain ⟨u, cap', da', d', cl', y1, y2, y3, y4⟩ := p_tl2 hT hin hw hC m (i + 1) Fu _ cap4 da4 d4 cl4 u4 (by omega) (by omega) (W.ow h FW) v2 (tNs.on h FW hN) (fun b hb => by
        rcases dT b hb with z | ⟨e, z⟩
        · exact hD b z
        · exact hm b e z) (hO.pw h FW) (hG.pw h FW) ⟨f4, x1, (x3 0 (by decide)).trans h0⟩ (by omega) (by omega)
      have f11 : ovi (ofd u2 (some k) 4 11) = some (jRc r) := by rw [ofd_at k2, q2.2.2.1]; rfl
      have go : oj_X12_tellLeaf_30 T (oF κ T (n + 8)) κ (ol_X12_tellLeaf_2 T (oF κ T (n + 8)) κ Fu) (some x) (some k) (nI i) (some x) (some (κ.1 iw)) (oput σ k (.inr (4, f'))) = some (none, u) := by
        unfold oj_X12_tellLeaf_30
        rw [h1.oo, obn_at, r1, ocv_at, f11, obn_at, r2.oo, obn_at, s1, ocv_at, s2.oo, obn_at, v1, ocv_at, nI_p1, y1]
      rw [if_neg (nI_ge (by omega) (by omega)), oob_at hk, obn_at, q1, ocv_at, dr]
      refine ⟨u, cap', da', d', cl', ?_, ?_, FW.tr y3, (r4.tr (s4.tr v4)).tr y4⟩
      · rcases hwd with ⟨c, rfl⟩ | ⟨c, rfl⟩
        · rw [if_pos (by rw [c]; rfl)]; exact go
        · rw [if_neg (show ¬ nI i = 0 from fun z => c (nI_inj' (a := i) (b := 0) (by omega) (by omega) z))]; exact go
      · rw [eFa] at y2
        exact y2
/-- **tellLeaf() (187)** -/
theorem p_leaf (hT : 100100 ≤ T) (hin : ∀ a b, Nm a → Nm b → na a = na b → a = b) (hw : ∀ w, (wd w).length ≤ 3000) (hC : tFc na Nm F G C) (W : cLw κ ks T sz x da σ) (h : cTp κ x nl na s cap da d cl σ) (hN : tNs κ wd bk na x nl da d Nm σ) (hD : ∀ b, b ∈ s.2 → Nm b) (hO : kOr lo σ w ra sa F) (hG : kGo lo σ k w G) (hk : ∃ f, σ.1 k = some (.inr (4, f)) ∧ f[0]? = some (.int kd)) (hl : s.1.length + 4000 * F.length < 780000000) (hl2 : s.2.length + F.length < 2450) : ∃ u cap' da' d' cl', oF κ T (n + 9) 187 [va_rf (some x), va_rf (some k)] σ = some (none, u) ∧ cTp κ x nl na (tLef wd bk true C F.length (tKk kd) s) cap' da' d' cl' u ∧ tFww x nl da d σ da' d' u ∧ cPyz σ cap cl u cap' cl' := by
  rw [oE_X12_tellLeaf]
  unfold ob_X12_tellLeaf
  have fl : F.length < T := by
    obtain ⟨g1, g2, g3, g4, a1, a2, a3, a4, -⟩ := hO
    omega
  exact p_tl2 hT hin hw hC F.length 0 T s cap da d cl σ (by omega) fl W h hN hD hO hG hk hl hl2
end TSL
