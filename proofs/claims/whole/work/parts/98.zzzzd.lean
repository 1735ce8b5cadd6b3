/-! compile() of both where a NAME is wrong -/
theorem wLex_ee (T len : Nat) (g : Nat → Int32) (hlen : len ≤ 2000) : ∀ (m i : Nat) (kk pp ee : Nat → Int32) (cnt : Nat), (∀ w, (ee w).toNatClampNeg ≤ len) → ∀ w, ((wLex T len g m i kk pp ee cnt).2.2.1 w).toNatClampNeg ≤ len
  | 0, i, kk, pp, ee, cnt, h => by
    rw [wLex]
    exact h
  | m + 1, i, kk, pp, ee, cnt, h => by
    rw [wLex]
    split
    next c1 =>
      split
      · exact wLex_ee T len g hlen m (i + 1) _ _ _ _ h
      · split
        · exact wLex_ee T len g hlen m (i + 1) _ _ _ _ h
        · split
          · exact h
          next c2 =>
            have hwe := wEnd_le (g := g) c1
            refine wLex_ee T len g hlen m (wEnd len g i) _ _ _ _ (fun w => ?_)
            by_cases c3 : w = cnt
            · subst c3
              rw [upd_at, nI_clamp (by omega)]
              exact hwe
            · rw [upd_ne _ _ c3]
              exact h w
    next => exact h
section LNM
variable {T len cnt : Nat} {kk pp ee f fc : Nat → Int32}
theorem wEq_cg (he : ∀ w, (ee w).toNatClampNeg ≤ len) (hf : ∀ j, j < len → fc j = f j) (u w : Nat) : wEq fc pp ee u w = wEq f pp ee u w := by
  unfold wEq tEq
  refine decide_eq_decide.mpr ?_
  have h1 := he u
  have h2 := he w
  refine and_congr_right (fun e => ?_)
  have k : ∀ j, j < wL pp ee u → fc (wA pp u + j) = f (wA pp u + j) ∧ fc (wA pp w + j) = f (wA pp w + j) := fun j hj => by
    have hj' : j < wL pp ee w := by rw [← e]; exact hj
    unfold wL at hj hj'
    unfold wA
    exact ⟨hf _ (by omega), hf _ (by omega)⟩
  refine ⟨fun h j hj => ?_, fun h j hj => ?_⟩
  · have : fc (wA pp u + j) = fc (wA pp w + j) := h j hj
    rw [(k j hj).1, (k j hj).2] at this
    exact this
  · show fc (wA pp u + j) = fc (wA pp w + j)
    rw [(k j hj).1, (k j hj).2]
    exact h j hj
theorem cFd_cg (he : ∀ w, (ee w).toNatClampNeg ≤ len) (hf : ∀ j, j < len → fc j = f j) (env : List Nat) (w : Nat) : cFd fc pp ee env w = cFd f pp ee env w := by
  unfold cFd nFind
  rw [show (fun u => wEq fc pp ee u w) = (fun u => wEq f pp ee u w) from funext fun u => wEq_cg he hf u w]
/-- **both find the same NAME wrong first** -/
theorem nm_same {τ : zSt} {xs : List tQ} {is : List (Nat × Nat)} {e : tT} {j : Nat} {r : Nat → Int32} (hT : 2010 ≤ T) (hw : rW τ T len cnt kk pp ee f) (ho : oW pp ee cnt) (hz : ∀ i, cnt ≤ i → kk i = 0) (he : ∀ w, (ee w).toNatClampNeg ≤ len) (hf : ∀ j, j < len → fc j = f j) (hP : aPr kk T cnt = .inr ((xs, is, e), j)) : ((nT fc pp ee e (nIn fc pp ee is ([], [], none))).2.2 = none → (kT f pp ee e (kIn f pp ee is ([], [], r, -1))).2.2.2 = -1) ∧ ∀ w, (nT fc pp ee e (nIn fc pp ee is ([], [], none))).2.2 = some w → (kT f pp ee e (kIn f pp ee is ([], [], r, -1))).2.2.2 = pp w := by
  obtain ⟨-, rg, ⟨i6, -⟩, -, -, -, -⟩ := aPr_rd hz (gW_of hT hw ho hz) hP
  obtain ⟨n1, n2⟩ := nIn_3 (f := fc) (pp := pp) (ee := ee) is ([], [], none)
  have hF : ∀ (env : List Nat) w, env.length ≤ 12 → kFd f pp ee env w = cFd fc pp ee env w := fun env w h => (kFd_c h).trans (cFd_cg he hf env w).symm
  have cl : (nT fc pp ee e (nIn fc pp ee is ([], [], none))).2.2 = (inW (cFd fc pp ee) is [] ++ tWr (cFd fc pp ee) e (is.map Prod.fst)).head? := by
    rw [nT_3, n1, n2, nHd_ap]
    rfl
  have k0 : kK (([], [], r, -1) : kSt) := fun d hd => by cases hd
  obtain ⟨a1, a2, a3⟩ := kIn_4 (f := f) (ee := ee) ho.2 is ([], [], r, -1) [] k0 (Or.inl ⟨rfl, fun w hw => by cases hw⟩)
  have a4 := kT_4 (f := f) (ee := ee) ho.2 e _ _ a3 a1
  have e0 : kEnv (([], [], r, -1) : kSt) = [] := rfl
  rw [a2, e0, List.nil_append, List.nil_append] at a4
  have hd : (inW (kFd f pp ee) is [] ++ tWr (kFd f pp ee) e (is.map Prod.fst)).head? = (inW (cFd fc pp ee) is [] ++ tWr (cFd fc pp ee) e (is.map Prod.fst)).head? := by
    rw [inW_hd hF is [] (by show 0 + is.length ≤ 12; omega)]
    exact hd_ap rfl (fun _ => tWr_hd hF e _ (by rw [List.length_map]; omega))
  have sub : (inW (kFd f pp ee) is [] ++ tWr (kFd f pp ee) e (is.map Prod.fst)).Sublist (is.map Prod.fst ++ tEv e) := (inW_sub is []).append (tWr_sub e _)
  have srt : (inW (kFd f pp ee) is [] ++ tWr (kFd f pp ee) e (is.map Prod.fst)).Pairwise (fun a b => pp a < pp b) := by
    have p1 : (is.map Prod.fst ++ tEv e).Pairwise (fun a b => pp a < pp b) := rg.2.1.imp_of_mem (fun {a b} _ hb h => pp_up hw ho a b h (rg.2.2 b hb).2)
    exact p1.sublist sub
  obtain ⟨h1, h2⟩ := a4.hd srt
  rw [cl, ← hd]
  refine ⟨fun z => h1 (List.head?_eq_none_iff.mp z), h2⟩
end LNM
section LNR
variable {κ : oKv} {ks : Nat → Nat} {qs : List Nat} {T n n' x y sz len : Nat} {a : Nat → Int32} {σ : oSt} {τ : zSt}
set_option maxHeartbeats 2000000 in
theorem lr_names (hf : lFacts κ ks sz) (hκ : κ.2.2.1 < sz) (hR : oRm sz σ) (hT : 2110 ≤ T) (h : lRel x σ τ) (h45 : τ.1 45 = 0) (h3 : τ.1 3 = nI len) (hlen : len ≤ 2000) (hn : 1100 ≤ n') {R : wRes} (eR : wLex T len (fun j => (rT τ len).2.2.1 1 j &&& 255) T 0 (fun _ => 0) (fun _ => 0) (fun _ => 0) 0 = R) (hok : R.2.2.2.2 = -1) {xs : List tQ} {is : List (Nat × Nat)} {e : tT} {j w : Nat} (hP : aPr R.1 T R.2.2.2.1 = .inr ((xs, is, e), j)) (hN : (nT ((rT τ len).2.2.1 1) (upd R.2.1 R.2.2.2.1 (nI len)) (upd R.2.2.1 R.2.2.2.1 (nI len)) e (nIn ((rT τ len).2.2.1 1) (upd R.2.1 R.2.2.2.1 (nI len)) (upd R.2.2.1 R.2.2.2.1 (nI len)) is ([], [], none))).2.2 = some w) : ∃ (u : oSt) (v : zSt), lst (oF κ T (n + 241)) (zF y qs ks T (n' + 135)) x y a σ τ 2 = some (u, v) ∧ lRel x u v ∧ oRm sz u ∧ v.1 45 = 0 ∧ (u.2.2.1 ≤ σ.2.2.1 + 69 + 30 * len ∧ u.2.2.2 ≤ σ.2.2.2 + 635 + 261 * len) := by
  obtain ⟨U, fs, fm, ma, w0, r, v, ka, pa, ea, fc, hC, hW, hfc, hx1, ⟨xU, mU, rU, nU⟩, ⟨c1, c2⟩⟩ := lr_pre (n := n + 231) hf hκ hR (by omega) h h3 hlen eR hok
  obtain ⟨τ', d1, ⟨⟨d2, d3, d4, d5, d6, d7, d8⟩, d9, d10, d11⟩, -, d12⟩ := r_pre (h0 := y) (qs := qs) (n := n') hf (by omega) h3 hlen h45 eR hok
  obtain ⟨d13, d14, d15, d16, N, S, P, A, x0, d17, ⟨d18, d19, d20, d21⟩, d22, d23⟩ := d12 xs is e j hP
  obtain ⟨o1, hz⟩ := lex_ord hlen eR
  have hc := (lex_facts (by omega) hlen eR).1
  have hw := d17.1
  have hee : ∀ w, (upd R.2.2.1 R.2.2.2.1 (nI len) w).toNatClampNeg ≤ len := fun w => by
    by_cases c3 : w = R.2.2.2.1
    · rw [c3, upd_at, nI_clamp (by omega)]
      exact Nat.le_refl _
    · rw [upd_ne _ _ c3, ← eR]
      exact wLex_ee T len _ hlen T 0 _ _ _ 0 (fun w => Nat.zero_le _) w
  obtain ⟨p1, p2, ⟨p3, p4⟩, p5, p6, p7, p8⟩ := aPr_rd hz (gW_of (by omega) hw o1 hz) hP
  have p7' := p7 1000 (by omega)
  have p8' : 3 * (tW e).length + 1 ≤ len := by
    have e : gL (upd R.2.1 R.2.2.2.1 (nI len)) R.2.2.2.1 len R.2.2.2.1 = len := if_neg (by omega)
    rw [e] at p8
    exact p8
  obtain ⟨υ, k1, k2, k3, k4⟩ := r_chk (h0 := y) (qs := qs) (ks := ks) (n := n' + 128) (lo := 0) (N := N) (S := S) (P := P) (A := A) hT (by omega) (by omega) (by omega) (by omega) hw d14 d22 p3 d16 p4 p5 p6 (by omega) (by omega) d23
  have sf := (nm_same (fc := (rT τ len).2.2.1 1) (r := τ'.2.2.1 32) (by omega) hw o1 hz hee (fun _ _ => rfl) hP).2 w hN
  have hpw : 0 ≤ upd R.2.1 R.2.2.2.1 (nI len) w := o1.2 w
  have h52 : υ.1 52 = upd R.2.1 R.2.2.2.1 (nI len) w := k2.2.2.2.trans sf
  have hng : ¬ upd R.2.1 R.2.2.2.1 (nI len) w < 0 := fun z => by
    rw [Int32.lt_iff_toInt_lt] at z
    rw [Int32.le_iff_toInt_le] at hpw
    omega
  have e11 : υ.1 11 = 0 := (k4.1 11 (by decide) (by decide) (by decide)).trans d17.2.2.1
  have fk : ∀ k, k ≠ 50 → k ≠ 51 → k ≠ 52 → k ≠ 59 → υ.1 k = τ'.1 k := fun k a b c d => (k4.1 k a b c).trans (zIn _ _ d)
  have R3 : zF y qs ks T (n' + 135) 65 [.ref y] τ = some (some (.int 3), zI (zI (zI υ 11 3) 12 (upd R.2.1 R.2.2.2.1 (nI len) w)) 69 (upd R.2.1 R.2.2.2.1 (nI len) w)) := by
    rw [d1]
    unfold j_compile_81
    rw [if_pos d17.2.2.1, show n' + 134 = n' + 128 + 6 from rfl, k1]
    unfold rK
    rw [h52, if_neg hng, r_flt (n := n' + 128 + 4), zcv_at, zcv_at]
    unfold rFl
    rw [if_pos e11]
    unfold j_compile_92
    rw [if_neg (show ¬ (zI (zI υ 11 3) 12 (upd R.2.1 R.2.2.2.1 (nI len) w)).1 11 = 0 by rw [zIn _ _ (by decide), zIe]; decide)]
    simp only [zlet]
    rw [show (zI (zI υ 11 3) 12 (upd R.2.1 R.2.2.2.1 (nI len) w)).1 12 = upd R.2.1 R.2.2.2.1 (nI len) w from zIe _ _ _, zIn _ _ (by decide), zIn _ _ (by decide), zIe]
  obtain ⟨P1, V, D', at2, am2, bd2, nf2, ff2, nm', q', n2, cd', e0, fb', fr', fz', fn', b1, b2, b3, v1, o2, ⟨j1, j2⟩, -, ⟨g1, g2⟩, j3⟩ := c_par' (κ := κ) (T := T) (m := n + 231 + 9) hW (by omega) (by omega)
  rw [hP] at o2
  obtain ⟨j4, -, -, -, ⟨j5, -⟩, -, -⟩ := j3 xs is e j hP
  have ns := nm_same (fc := fc) (r := τ'.2.2.1 32) (by omega) hw o1 hz hee hfc hP
  have hnf : nf2 = upd R.2.1 R.2.2.2.1 (nI len) w := by
    have j6 := j5.2.2.2.1
    cases eν : (nT fc (upd R.2.1 R.2.2.2.1 (nI len)) (upd R.2.2.1 R.2.2.2.1 (nI len)) e (nIn fc (upd R.2.1 R.2.2.2.1 (nI len)) (upd R.2.2.1 R.2.2.2.1 (nI len)) is ([], [], none))).2.2 with
    | none =>
      have := ns.1 eν
      rw [sf] at this
      exact absurd (by rw [this]; decide) hng
    | some w' =>
      rw [eν] at j6
      have := ns.2 w' eν
      rw [sf] at this
      rw [this]
      exact j6.1
  have hbd : bd2 = -1 := o2.1
  have hw0 := hW.2.1.1
  have fw : ofd U (some w0) 13 5 = some (.int (-1)) := by rw [ofd_at hw0]; rfl
  have vp : V.1 U.2.1 = some (.inr (9, cPs (pA w0 r v ka pa ea U.2.1) (nI q') (nI n2) (.ref e0) at2 cd' 0 am2 bd2 nf2 ff2)) := v1.2.1
  have f15 : ofd V (some U.2.1) 9 15 = some (.int (-1)) := by rw [ofd_at vp, hbd]; rfl
  have f16 : ofd V (some U.2.1) 9 16 = some (.int (upd R.2.1 R.2.2.2.1 (nI len) w)) := by rw [ofd_at vp, hnf]; rfl
  have hxl : x < U.2.1 := alt hW.1.1 xU
  have hml : ma < U.2.1 := alt hW.1.1 mU
  have hxV := (j1 x hxl).trans xU
  have hfa : oF κ T (n + 231 + 9) 177 [va_rf (some x), .int 3, .int (upd R.2.1 R.2.2.2.1 (nI len) w)] V = some (some (.int 3), oput V x (.inr (14, (((((fs.set 1 (.int 0)).set 2 .null).set 3 .null).set 4 .null).set 5 (.int (-1))).set 5 (.int (upd R.2.1 R.2.2.2.1 (nI len) w))))) := by
    rw [show n + 231 + 9 = (n + 231 + 8) + 1 from rfl, oE_X12_fault]
    unfold ob_X12_fault
    rw [opf_at hxV (by simp only [List.length_set]; omega)]
    simp only [obn]
  have C3 : cD (oF κ T (n + 231 + 9)) (some x) w0 U = some (some (.int 3), oput V x (.inr (14, (((((fs.set 1 (.int 0)).set 2 .null).set 3 .null).set 4 .null).set 5 (.int (-1))).set 5 (.int (upd R.2.1 R.2.2.2.1 (nI len) w))))) := by
    unfold cD
    rw [fw, ovi_i, obn_at, if_pos (show (-1 : Int32) < 0 by decide), olet_at, obn_at, b1, ocv_at, b2, obn_at, b3, ocv_at, f15, ovi_i, obn_at, if_pos (show (-1 : Int32) < 0 by decide), f16, ovi_i, obn_at, if_neg hng, obn_at, oob_at hxV, obn_at, hfa, oin_at]
  rw [C3] at hC
  obtain ⟨r1, r2⟩ := lr_flt (v := zI (zI (zI υ 11 3) 12 (upd R.2.1 R.2.2.2.1 (nI len) w)) 69 (upd R.2.1 R.2.2.2.1 (nI len) w)) (pl := upd R.2.1 R.2.2.2.1 (nI len) w) hR h hx1 hxV ((j1 ma hml).trans mU) (fun p hp a1 a2 => (j1 p (by omega)).trans (rU p hp a1 a2)) v1.1.1.1 (by omega) ⟨by rw [zIn _ _ (by decide), zIn _ _ (by decide), zIn _ _ (by decide), fk 3 (by decide) (by decide) (by decide) (by decide)]; exact d2, by rw [zIn _ _ (by decide), zIn _ _ (by decide), zIn _ _ (by decide), fk 5 (by decide) (by decide) (by decide) (by decide)]; exact d3, by rw [zIn _ _ (by decide), zIn _ _ (by decide), zIn _ _ (by decide), fk 163 (by decide) (by decide) (by decide) (by decide)]; exact d4, by rw [zIn _ _ (by decide), zIn _ _ (by decide), zIn _ _ (by decide), fk 165 (by decide) (by decide) (by decide) (by decide)]; exact d5, zIe _ _ _⟩ (fun j => (congrFun (k4.2.2.1 2 (by decide) (by decide) (by decide)) j).trans (d10 j))
  refine ⟨_, _, lcpI_ok (r := 3) hC R3, r1, r2, by rw [zIn _ _ (by decide), zIn _ _ (by decide), zIn _ _ (by decide), fk 45 (by decide) (by decide) (by decide) (by decide)]; exact d17.2.1.2.2.2.2.2, ?_, ?_⟩
  · show V.2.2.1 ≤ _
    have := Nat.mul_le_mul_left 30 hc
    omega
  · show V.2.2.2 ≤ _
    have := Nat.mul_le_mul_left 346 hc
    omega
end LNR
