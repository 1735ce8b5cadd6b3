/-! type(): the class prints a told NAME's type -/
section TYQ
variable {κ : oKv} {ks : Nat → Nat} {T n x nl sz da d cap cl len cnt i p tl c oa v : Nat} {lo : Nat × (Nat → Prop)} {na : gN → Nat} {σ : oSt} {mc : Int32} {g gt : Nat → Option Nat} {gb : Nat → Int32} {fs pf : List Value} {Γ : uGm} {Lp : Nat → Prop} {sy : gTy → List gFc} {nm : Nat → Option Nat} {tN : Nat → tY} {q : Nat → gTy} {pp ee fc : Nat → Int32}
set_option maxHeartbeats 1000000 in
/-- **type() (189)** of a told NAME -/
theorem ty_189 (hT : 100100 ≤ T) (hf : lFacts κ ks sz) (hR : oRm sz σ) (hsx : sz ≤ x) (hsd : sz ≤ da) (hκ : κ.2.2.1 < sz) (C : tyC lo na Γ Lp sy nm tN q σ v) (hL : ∀ a, nmA Lp (q v) a → uNm Γ a) (TX : ∀ w, Lp w → ∃ b q r h gs, nm w = some b ∧ σ.1 b = some (.inr (6, gs)) ∧ gs[0]? = some (.ref q) ∧ r ≠ da ∧ cTx σ q r (wL pp ee w) h ∧ ∀ i, i < wL pp ee w → h i = fc (wA pp w + i)) (hw : ∀ w, wL pp ee w ≤ 3000) (hy : tSz (tN v) ≤ 119) (hy2 : yLv (tN v) ≤ 60) (hx : σ.1 x = some (.inr (14, fs))) (hl13 : fs.length = 13) (f2 : fs[2]? = some (.ref p)) (f4 : fs[4]? = some (.ref c)) (f6 : fs[6]? = some (.ref oa)) (f7 : fs[7]? = some (.ref da)) (f10 : fs[10]? = some (.ref nl)) (hda : σ.1 da = some (.inl (.byte, cap, .inl gb))) (hcap : tCk cap ∧ cap ≤ 16000) (hnl : cLs κ σ nl d cl len mc g 6) (hlen : len ≤ 2451) (hcl : cl ≤ 3690) (hp : σ.1 p = some (.inr (9, pf))) (p2 : pf[2]? = some (.ref tl)) (ht : ∀ u, tBg x nl d σ u → oLs u (some tl) cnt gt) (hi : i < cnt) (hc2 : cnt ≤ 100000) (gi : gt i = some (na (.inl v))) : ∃ u2 u cap' da' d' cl' r, oF κ T (n + 133) 189 [va_rf (some x), .int (nI i)] σ = some (some (.int r), u) ∧ tBg x nl d σ u2 ∧ ∃ u4, tSt κ ks (tyV pp ee fc) (tyKd Γ) (nmA Lp (q v)) T sz x nl na (tTy (tyV pp ee fc) (tyKd Γ) sy (tN v) (q v) ([], [])) cap' da' d' cl' u4 ∧ tFww x nl da d u2 da' d' u4 ∧ cPyw u2 cap cl u4 cap' cl' (2 * tSz (tN v)) ∧ (∃ f4 : List Value, u4.1 x = some (.inr (14, f4)) ∧ f4.length = 13 ∧ f4[7]? = some (.ref da') ∧ f4[9]? = some (.int (nI (tTy (tyV pp ee fc) (tyKd Γ) sy (tN v) (q v) ([], [])).1.length)) ∧ (∀ k, k ≠ 7 → k ≠ 9 → f4[k]? = fs[k]?) ∧ ((16000 < (tTy (tyV pp ee fc) (tyKd Γ) sy (tN v) (q v) ([], [])).1.length ∧ r = -1 ∧ u = u4) ∨ ((tTy (tyV pp ee fc) (tyKd Γ) sy (tN v) (q v) ([], [])).1.length ≤ 16000 ∧ r = nI (tTy (tyV pp ee fc) (tyKd Γ) sy (tN v) (q v) ([], [])).1.length ∧ u = oput u4 x (.inr (14, ((f4.set 6 (.ref da')).set 7 (.ref oa)).set 8 (.int r)))))) := by
  obtain ⟨⟨gs, k, w, G, c1, c2, c3, c4⟩, c5, c6, c7⟩ := C
  refine p_type (G := G) (w := w) (kn := k) (lo := lo) (Nm := nmA Lp (q v)) (na := na) hT c7 (fun D h h' => Nat.le_trans (un_len (Γ := Γ) hL D h h') (by decide)) (fun w => by unfold tyV; rw [tTx_len]; exact hw w) (by omega) hy2 hR.2.1 hx hl13 f2 f4 f6 f7 f10 hda hcap hnl hlen hcl (Nat.lt_of_lt_of_le hκ hR.2.2) hp p2 ht hi hc2 gi c1 c2 (fun u t => ?_)
  have A : tyA lo σ u := tyA.bg hx hnl t
  refine ⟨⟨hf, hκ, fun a ha => ?_, by rw [t.2]; exact hR.2.2, hsx, hsd, by omega⟩, fun a ha => ?_, c3.ta A, tOr.ta A _ _ _ c4⟩
  · have e := hR.1 a ha
    rw [t.1 a (fun z => by rw [z, hx] at e; cases e) (fun z => by rw [z, hnl.1] at e; cases e) (Or.inr e)]
    exact e
  · obtain ⟨ga, a1, a2, a3, a4⟩ := c6 a ha
    refine ⟨?_, ga, _, A.1 _ _ _ (Or.inl rfl) a1, a2, rfl⟩
    match a, ha, a1, a3 with
    | .inr kp, _, a1, a3 => exact ⟨ga, A.1 _ _ _ (Or.inl rfl) a1, a3 kp rfl⟩
    | .inl w', Or.inl ⟨w2, l1, l2⟩, a1, _ =>
      injection l2 with l2
      subst l2
      obtain ⟨b, q', r, h, gs', b1, b2, b3, b4, b5, b6⟩ := TX w' l1
      rw [c5 w' l1] at b1
      injection b1 with b1
      subst b1
      exact ty_nc hR.2.1 hx hnl hda t b2 b3 b4 b5 b6 (hw w')
end TYQ
