/-! compile() of both where forms are broken -/
section LFV
variable {κ : oKv} {ks : Nat → Nat} {qs : List Nat} {T n n' x y sz len cnt k0 j : Nat} {a : Nat → Int32} {σ : oSt} {τ : zSt} {R : wRes} {kk pp ee f : Nat → Int32} {xs : List tQ} {is : List (Nat × Nat)} {e : tT}
/-- what every compile() leaves -/
def lKp (x sz k0 len : Nat) (σ u : oSt) (v : zSt) : Prop := lRel x u v ∧ oRm sz u ∧ v.1 45 = 0 ∧ (∃ k, v.1 60 = nI k ∧ k ≤ k0 + 9001) ∧ (u.2.2.1 ≤ σ.2.2.1 + 76 + 30 * len ∧ u.2.2.2 ≤ σ.2.2.2 + 709 + 293 * len)
/-- what compile() does to the older cells where it finds a fault -/
def lKc (x : Nat) (σ u : oSt) : Prop := ∃ (fs fm : List Value) (ma : Nat) (pl : Int32), σ.1 x = some (.inr (14, fs)) ∧ fs[12]? = some (.ref ma) ∧ σ.1 ma = some (.inr (5, fm)) ∧ ma ≠ x ∧ u.1 x = some (.inr (14, (((((fs.set 1 (.int 0)).set 2 .null).set 3 .null).set 4 .null).set 5 (.int (-1))).set 5 (.int pl))) ∧ u.1 ma = some (.inr (5, (fm.set 0 .null).set 16 (.long 0))) ∧ σ.2.1 ≤ u.2.1 ∧ ∀ p, p < σ.2.1 → p ≠ x → p ≠ ma → (∀ fs, σ.1 p ≠ some (.inr (7, fs))) → (∀ fs, σ.1 p ≠ some (.inr (6, fs))) → u.1 p = σ.1 p
theorem lKc.of {V : oSt} {fs fm : List Value} {ma : Nat} {pl : Int32} (h1 : σ.1 x = some (.inr (14, fs)) ∧ σ.1 ma = some (.inr (5, fm)) ∧ fs.length = 13 ∧ fs[12]? = some (.ref ma) ∧ ma ≠ x ∧ 17 < fm.length) (hma : V.1 ma = some (.inr (5, (fm.set 0 .null).set 16 (.long 0)))) (hk : ∀ p, p < σ.2.1 → p ≠ x → p ≠ ma → (∀ fs, σ.1 p ≠ some (.inr (7, fs))) → (∀ fs, σ.1 p ≠ some (.inr (6, fs))) → V.1 p = σ.1 p) (hn : σ.2.1 ≤ V.2.1) : lKc x σ (oput V x (.inr (14, (((((fs.set 1 (.int 0)).set 2 .null).set 3 .null).set 4 .null).set 5 (.int (-1))).set 5 (.int pl)))) := ⟨fs, fm, ma, pl, h1.1, h1.2.2.2.1, h1.2.1, h1.2.2.2.2.1, oput_eq _ _ _, (oput_ne h1.2.2.2.2.1).trans hma, hn, fun p hp a b c d => (oput_ne a).trans (hk p hp a b c d)⟩
/-- compile() that finds a fault -/
def lFl (x sz k0 len : Nat) (σ u : oSt) (v : zSt) : Prop := lKp x sz k0 len σ u v ∧ lNo x u v ∧ lKc x σ u
set_option maxHeartbeats 2000000 in
theorem lr_5 {U V σ4 s77 : oSt} {fs fm : List Value} {ma p : Nat} {pl : Int32} {τ'' : zSt} {ps : List Value} (hR : oRm sz σ) (h : lRel x σ τ) (h1 : σ.1 x = some (.inr (14, fs)) ∧ σ.1 ma = some (.inr (5, fm)) ∧ fs.length = 13 ∧ fs[12]? = some (.ref ma) ∧ ma ≠ x ∧ 17 < fm.length) (hU : U.1 x = some (.inr (14, ((((fs.set 1 (.int 0)).set 2 .null).set 3 .null).set 4 .null).set 5 (.int (-1)))) ∧ U.1 ma = some (.inr (5, (fm.set 0 .null).set 16 (.long 0))) ∧ (∀ p, p < σ.2.1 → p ≠ x → p ≠ ma → U.1 p = σ.1 p) ∧ σ.2.1 ≤ U.2.1) (hp : p = U.2.1) (hUV : (∀ a, a < U.2.1 → V.1 a = U.1 a) ∧ U.2.1 < V.2.1) (hv : vK V σ4) (h77 : s77 = oput σ4 p (.inr (9, ps))) (h17 : ps[17]? = some (.int pl)) (hlU : ∀ q, U.2.1 ≤ q → U.1 q = none) (hfr : ∀ q, σ4.2.1 ≤ q → σ4.1 q = none) (hs4 : V.2.1 ≤ σ4.2.1) (hpl : 0 ≤ pl) (hC : oF κ T (n + 331) 178 [va_rf (some x)] σ = cT5 (oF κ T (n + 330)) (some x) p V.2.1 s77) (hZ : zF y qs ks T (n' + 135) 65 [.ref y] τ = zcv (if τ''.1 52 < 0 then some (none, τ'') else zcv (zF y qs ks T (n' + 133) 3 [.ref y, .int 5, .int (τ''.1 52)] τ'') fun s11 => some (none, s11)) (fun s => j_compile_92 T (zF y qs ks T (n' + 134)) y qs ks s)) (h52 : τ''.1 52 = pl) (h11 : τ''.1 11 = 0) (hτ : τ''.1 3 = 0 ∧ τ''.1 5 = τ.1 5 ∧ τ''.1 163 = 0 ∧ τ''.1 165 = τ.1 165 ∧ τ''.1 66 = 0) (h2 : ∀ j, τ''.2.2.1 2 j = τ.2.2.1 2 j) (h45 : τ''.1 45 = 0) (h60 : ∃ k, τ''.1 60 = nI k ∧ k ≤ k0 + 9001) (hr : σ4.2.2.1 ≤ σ.2.2.1 + 76 + 30 * len ∧ σ4.2.2.2 ≤ σ.2.2.2 + 709 + 293 * len) : ∃ u v, lst (oF κ T (n + 331)) (zF y qs ks T (n' + 135)) x y a σ τ 2 = some (u, v) ∧ lFl x sz k0 len σ u v := by
  subst hp h77
  obtain ⟨xU, mU, rU, nU⟩ := hU
  have hng : ¬ pl < 0 := fun z => by
    rw [Int32.lt_iff_toInt_lt] at z
    rw [Int32.le_iff_toInt_le] at hpl
    omega
  have R5 : zF y qs ks T (n' + 135) 65 [.ref y] τ = some (some (.int 5), zI (zI (zI τ'' 11 5) 12 pl) 69 pl) := by
    rw [hZ, h52, if_neg hng, show n' + 133 = (n' + 132) + 1 from rfl, r_flt, zcv_at, zcv_at]
    unfold rFl
    rw [if_pos h11]
    unfold j_compile_92
    have e11 : (zI (zI τ'' 11 5) 12 pl).1 11 = 5 := (zIn _ _ (by decide)).trans (zIe _ _ _)
    rw [if_neg (by rw [e11]; decide), zIe]
    simp only [zlet]
    rw [zIn _ _ (by decide), e11]
  have at9 : (oput σ4 U.2.1 (.inr (9, ps))).1 U.2.1 = some (.inr (9, ps)) := oput_eq _ _ _
  have f17 : ofd (oput σ4 U.2.1 (.inr (9, ps))) (some U.2.1) 9 17 = some (.int pl) := by rw [ofd_at at9]; exact h17
  have xlt : x < U.2.1 := alt hlU xU
  have mlt : ma < U.2.1 := alt hlU mU
  have low : ∀ p c, p < U.2.1 → U.1 p = some c → (∀ fs, c ≠ .inr (7, fs)) → (∀ fs, c ≠ .inr (6, fs)) → (oput σ4 U.2.1 (.inr (9, ps))).1 p = U.1 p := fun p c hp e a b => by
    have eV := (hUV.1 p hp).trans e
    rw [oput_ne (by omega), hv.2.2.1 p (hv.lt eV) (fun fs z => a fs (by rw [eV] at z; injection z)) (fun fs z => b fs (by rw [eV] at z; injection z))]
    exact hUV.1 p hp
  have hx2 := (low x _ xlt xU (fun _ z => by cases z) (fun _ z => by cases z)).trans xU
  have hm2 := (low ma _ mlt mU (fun _ z => by cases z) (fun _ z => by cases z)).trans mU
  have hfa : oF κ T (n + 330) 177 [va_rf (some x), .int 5, .int pl] (oput σ4 U.2.1 (.inr (9, ps))) = some (some (.int 5), oput (oput σ4 U.2.1 (.inr (9, ps))) x (.inr (14, (((((fs.set 1 (.int 0)).set 2 .null).set 3 .null).set 4 .null).set 5 (.int (-1))).set 5 (.int pl)))) := by
    rw [show n + 330 = (n + 329) + 1 from rfl, oE_X12_fault]
    unfold ob_X12_fault
    rw [opf_at hx2 (by simp only [List.length_set]; have := h1.2.2.1; omega)]
    simp only [obn]
  have C5 : oF κ T (n + 331) 178 [va_rf (some x)] σ = some (some (.int 5), oput (oput σ4 U.2.1 (.inr (9, ps))) x (.inr (14, (((((fs.set 1 (.int 0)).set 2 .null).set 3 .null).set 4 .null).set 5 (.int (-1))).set 5 (.int pl)))) := by
    rw [hC]
    unfold cT5
    rw [f17, ovi_i, obn_at, if_neg hng, obn_at, oob_at hx2, obn_at, hfa, oin_at]
  have hk7 : ∀ p, p < σ.2.1 → p ≠ x → p ≠ ma → (∀ fs, σ.1 p ≠ some (.inr (7, fs))) → (∀ fs, σ.1 p ≠ some (.inr (6, fs))) → (oput σ4 U.2.1 (.inr (9, ps))).1 p = σ.1 p := fun p hp a1 a2 n7 n6 => by
    have e1 : V.1 p = σ.1 p := (hUV.1 p (by omega)).trans (rU p hp a1 a2)
    rw [oput_ne (by omega), hv.2.2.1 p (by omega) (fun fs z => n7 fs (by rw [← e1]; exact z)) (fun fs z => n6 fs (by rw [← e1]; exact z))]
    exact e1
  obtain ⟨r1, r2⟩ := lr_flt2 (v := zI (zI (zI τ'' 11 5) 12 pl) 69 pl) (pl := pl) hR h h1 hx2 hm2 (fun p hp a1 a2 n7 n6 => by
    have e1 : V.1 p = σ.1 p := (hUV.1 p (by omega)).trans (rU p hp a1 a2)
    rw [oput_ne (by omega), hv.2.2.1 p (by omega) (fun fs z => n7 fs (by rw [← e1]; exact z)) (fun fs z => n6 fs (by rw [← e1]; exact z))]
    exact e1) (fun q hq => by
    have hq : σ4.2.1 ≤ q := hq
    rw [oput_ne (by omega)]
    exact hfr q hq) (by show σ.2.1 ≤ σ4.2.1; omega) ⟨by rw [zIn _ _ (by decide), zIn _ _ (by decide), zIn _ _ (by decide)]; exact hτ.1, by rw [zIn _ _ (by decide), zIn _ _ (by decide), zIn _ _ (by decide)]; exact hτ.2.1, by rw [zIn _ _ (by decide), zIn _ _ (by decide), zIn _ _ (by decide)]; exact hτ.2.2.1, by rw [zIn _ _ (by decide), zIn _ _ (by decide), zIn _ _ (by decide)]; exact hτ.2.2.2.1, zIe _ _ _⟩ h2
  obtain ⟨kk, k1, k2⟩ := h60
  exact ⟨_, _, lcpI_ok (r := 5) C5 R5, ⟨r1, r2, by rw [zIn _ _ (by decide), zIn _ _ (by decide), zIn _ _ (by decide)]; exact h45, ⟨kk, by rw [zIn _ _ (by decide), zIn _ _ (by decide), zIn _ _ (by decide)]; exact k1, k2⟩, hr⟩, lNo.of h1.2.2.1 (by rw [zIn _ _ (by decide), zIn _ _ (by decide), zIn _ _ (by decide)]; exact hτ.2.2.2.2), lKc.of h1 hm2 hk7 (by show σ.2.1 ≤ σ4.2.1; omega)⟩
end LFV
