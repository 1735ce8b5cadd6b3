/-! run(), the reference: applies(), all of it -/
section XRQ0
variable {pp kk : Nat → Int32} {V : zSt} {lo N S P A cnt : Nat}
/-- an E's node is one of them -/
theorem rTr_lt {t : tT} {x : Nat} (wf : tWf kk cnt t 0) (h : rTr pp V lo N S P A t 0 0 x) : x < N := by
  cases t with
  | leaf => cases wf
  | inner g d z a b =>
    rcases wf with ⟨c, -⟩ | ⟨c, -⟩ | ⟨-, c⟩
    · cases c
    · cases c
    · rcases c with ⟨c, -⟩ | ⟨c, -⟩ | ⟨c, -⟩ | ⟨c, -⟩ | ⟨c, -⟩ | ⟨c, -⟩ | ⟨c | c, -⟩ | ⟨c | c | c, -⟩ | ⟨c | c | c, -⟩ | ⟨c, -⟩ | ⟨c, -⟩ | ⟨c, -⟩ | ⟨c, -⟩ | ⟨c, -⟩
      all_goals
        subst c
        first
          | exact h.1.1.2
          | exact h.1.2
end XRQ0
section XRQ
variable {pp kk ee f : Nat → Int32} {tE tN : Nat → tY} {L : List Nat} {V τ : zSt} {N S P A c n cnt len : Nat} {h : xmHp} {fr : List xmFr} {ks : Nat → Nat} {qs : List Nat} {T h0 m : Nat} {y : tY} {v : xmV} {rest : List xmV}
/-- a call waits, no ARGS left -/
theorem rXa.c0 {d : Nat} (I : rXa pp V N S P A τ c n h fr) (hd : τ.1 189 = nI d) (hk : rFk pp V N S P A τ c fr d) : rXa pp V N S P A (tdS (zI τ 190 (nI (xmDp fr + 1))) d 1 (-1) (-1)) c n h (.inr [] :: fr) := by
  obtain ⟨F, ⟨a1, a2, a3, a4, a5⟩, b, w, -, e1, e2, e3⟩ := I
  have K : ∀ nf, xKp c nf d τ (tdS (zI τ 190 (nI (xmDp fr + 1))) d 1 (-1) (-1)) := fun nf => tdS_kp (zI τ 190 (nI (xmDp fr + 1))) c nf d 1 (-1) (-1)
  exact ⟨F.tr ((xFm.i τ _ (by decide)).tr (tdS_fm _ _ _ _ _)), ⟨a1, a2, a3, a4, a5⟩, b.kp (K _) (Nat.le_refl _), w.kp (tdS_y (zI τ 190 (nI (xmDp fr + 1))) d 1 (-1) (-1)), ⟨d + 1, rfl, Or.inl ⟨rfl, d, rfl, (tdS_at _ _ _ _ _).1, rFk.kp (K 0) (Nat.le_refl _) fr d (Nat.le_refl _) hk⟩⟩, rfl, e2, e3⟩
/-- a call waits, with ARGS -/
theorem rXa.c1 {d : Nat} {s : Int32} (I : rXa pp V N S P A τ c n h fr) (hd : τ.1 189 = nI d) (hk : rFk pp V N S P A τ c fr d) (hne : rest ≠ [] ∧ rest.length ≤ 4) (hs : rCh τ c (xmAc rest) s) : rXa pp V N S P A (tdS (zI (tdS τ d 2 s (-1)) 190 (nI (xmDp fr + 1))) (d + 1) 1 (-1) (-1)) c n h (.inr rest :: fr) := by
  obtain ⟨F, ⟨a1, a2, a3, a4, a5⟩, b, w, -, e1, e2, e3⟩ := I
  have K1 : ∀ nf, xKp c nf d τ (tdS τ d 2 s (-1)) := fun nf => tdS_kp τ c nf d 2 s (-1)
  have K2 : ∀ nf, xKp c nf (d + 1) (tdS τ d 2 s (-1)) (tdS (zI (tdS τ d 2 s (-1)) 190 (nI (xmDp fr + 1))) (d + 1) 1 (-1) (-1)) := fun nf => tdS_kp (zI (tdS τ d 2 s (-1)) 190 (nI (xmDp fr + 1))) c nf (d + 1) 1 (-1) (-1)
  have K : ∀ nf, xKp c nf d τ (tdS (zI (tdS τ d 2 s (-1)) 190 (nI (xmDp fr + 1))) (d + 1) 1 (-1) (-1)) := fun nf => ⟨rSk.tr (K1 nf).1 (K2 nf).1 (Nat.le_refl _), fun k i x1 x2 x3 => ((K2 nf).2.1 k i x1 x2 x3).trans ((K1 nf).2.1 k i x1 x2 x3), fun k i x1 x2 x3 => ((K2 nf).2.2 k i x1 x2 (by omega)).trans ((K1 nf).2.2 k i x1 x2 x3)⟩
  obtain ⟨t1, t2, -⟩ := tdS_at τ d 2 s (-1)
  refine ⟨F.tr ((tdS_fm _ _ _ _ _).tr ((xFm.i _ _ (by decide)).tr (tdS_fm _ _ _ _ _))), ⟨a1, a2, a3, a4, a5⟩, b.kp (K _) (Nat.le_refl _), (w.kp (tdS_y τ d 2 s (-1))).kp (tdS_y (zI (tdS τ d 2 s (-1)) 190 (nI (xmDp fr + 1))) (d + 1) 1 (-1) (-1)), ⟨d + 2, rfl, Or.inr ⟨hne, d, s, rfl, (tdS_at _ _ _ _ _).1, ⟨?_, ?_⟩, rCh.kp (K 0).1 (Nat.le_refl _) _ _ hs, rFk.kp (K 0) (Nat.le_refl _) fr d (Nat.le_refl _) hk⟩⟩, rfl, e2, e3⟩
  · exact ((K2 0).2.2 116 d (by decide) (by decide) (by omega)).trans t1
  · exact ((K2 0).2.2 117 d (by decide) (by decide) (by omega)).trans t2
theorem fnS_up (τ : zSt) (i : Nat) (a b x y : Int32) : zA (zA (fnS τ i a b (-1) 0) 111 (upd ((fnS τ i a b (-1) 0).2.2.1 111) i x)) 112 (upd ((zA (fnS τ i a b (-1) 0) 111 (upd ((fnS τ i a b (-1) 0).2.2.1 111) i x)).2.2.1 112) i y) = fnS τ i a b x y := by
  refine Prod.ext rfl (Prod.ext rfl (Prod.ext ?_ rfl))
  funext k
  by_cases c2 : k = 112
  · subst c2
    funext j
    show upd (upd (τ.2.2.1 112) i 0) i y j = upd (τ.2.2.1 112) i y j
    unfold upd
    by_cases q : j = i
    · rw [if_pos q, if_pos q]
    · rw [if_neg q, if_neg q, if_neg q]
  · by_cases c1 : k = 111
    · subst c1
      funext j
      show upd (upd (τ.2.2.1 111) i (-1)) i x j = upd (τ.2.2.1 111) i x j
      unfold upd
      by_cases q : j = i
      · rw [if_pos q, if_pos q]
      · rw [if_neg q, if_neg q, if_neg q]
    · show (if k = 112 then _ else if k = 111 then _ else (if k = 109 then _ else if k = 110 then _ else if k = 111 then _ else if k = 112 then _ else _)) = (if k = 109 then _ else if k = 110 then _ else if k = 111 then _ else if k = 112 then _ else _)
      simp only [c1, c2, if_false]
set_option maxHeartbeats 2000000 in
/-- **applies()** -/
theorem r_app {x1 : Int32} (X : rXs T len cnt S P kk pp ee f L V) (hN : N ≤ 2000) (I : rXa pp V N S P A τ c n h fr) (H : xmH cnt kk f pp ee tE tN (V.2.2.1 32) L h) (hfr : fr.length ≤ 5000) (hl : h.1.length ≤ 30000) (hdp : xmDp fr ≤ 50) (hv : xmT tE tN h y v) (hr : xmAr tE tN h y rest) (hne : rest ≠ []) (e193 : τ.2.1 193 = v.2) (h5 : rCh τ c (xmAc rest) x1) (hr4 : rest.length ≤ 4) (hc : c + 8 ≤ 260000) : rOt pp V N S P A (zF h0 qs ks T (m + 3) 134 [.ref h0, .int x1] τ) (c + xmW fr + rest.length) (xmAp h fr n v rest) := by
  have hy : yIs y := by
    cases rest with
    | nil => exact absurd rfl hne
    | cons x l => exact hr.1
  obtain ⟨fn, i, ev, hi, eg, Fo, -, -⟩ := xmT.un H hv hy (by omega)
  obtain ⟨⟨g, d, z, a, b, e1, ⟨hg, wf⟩, r, E, et, hH⟩, ⟨w1, w2, w3⟩, En, Hd⟩ := id Fo
  have il := xget_lt hi
  obtain ⟨nd, s, hd, ⟨f1, f2, f3⟩, ⟨f4, f5⟩, ⟨f6, f7⟩, f8⟩ := I.2.2.1 i fn hi
  have T1 := X.2.2.2
  have zi : zin (nI i) 60000 = true := zin_n (by omega) (by decide)
  have ci : (nI i).toNatClampNeg = i := nI_clamp (by omega)
  have zn : zin (nI nd) 2100 = true := zin_n (by omega) (by decide)
  have cn : (nI nd).toNatClampNeg = nd := nI_clamp (by omega)
  have hlen := X.1.2.2.2.2.2.2
  -- the node
  obtain ⟨eg0, eg3, eg4, xb, eg5, hxb, trb⟩ : nV V nd 0 = nI g ∧ (g = 3 → nV V nd 3 = nI (d.1 + 1)) ∧ (g = 2 → nV V nd 4 = nI (d.1 + 3)) ∧ ∃ xb, nV V nd 5 = nI xb ∧ xb < N ∧ rTr pp V 0 N S P A a 0 0 xb := by
    have q := f3
    rw [e1] at q
    have wb := E.2.1.1
    rcases hg with hg | hg
    · subst hg
      obtain ⟨⟨-, q1, -⟩, ⟨q2, q3⟩, x, x', ⟨q4, q5⟩, q6, q7⟩ := q
      exact ⟨q1, fun w => absurd w (by decide), fun _ => q3, x, q4, rTr_lt wb q6, q6⟩
    · subst hg
      obtain ⟨⟨-, q1, -⟩, q2, x, q4, q6⟩ := q
      exact ⟨q1, fun _ => q2, fun w => absurd w (by decide), x, q4, rTr_lt wb q6, q6⟩
  have hw4 : xmPw (.inner g d z a b) + xmWa fn.1 ≤ cnt ∧ xmPw fn.1 = xmPw (.inner g d z a b) := by
    rw [e1]
    refine ⟨?_, rfl⟩
    rw [e1] at wf
    rcases hg with hg | hg
    · subst hg
      have q : d.1 + 3 + d.2.1 ≤ cnt := by
        unfold tWf at wf
        simp only [reduceIte, Nat.reduceEqDiff, or_false, or_self, false_or, false_and, true_and] at wf
        exact wf.1.2.1
      exact q
    · subst hg
      have q : d.1 + 1 < cnt := by
        unfold tWf at wf
        simp only [reduceIte, Nat.reduceEqDiff, or_false, or_self, false_or, false_and, true_and] at wf
        exact wf.1
      show d.1 + 1 + 1 ≤ cnt
      omega
  -- up to the loop
  have A0 : zF h0 qs ks T (m + 3) 134 [.ref h0, .int x1] τ = l_applies_53 T (zF h0 qs ks T (m + 2)) h0 qs ks T (nI i) (nI nd) (nI (xmWa fn.1)) x1 hd (nI fn.2.2.2.length) τ := by
    have J : ∀ t0, j_applies_32 T (zF h0 qs ks T (m + 2)) h0 qs ks x1 (nI i) (nI nd) t0 τ = l_applies_53 T (zF h0 qs ks T (m + 2)) h0 qs ks T (nI i) (nI nd) t0 x1 hd (nI fn.2.2.2.length) τ := fun t0 => by
      unfold j_applies_32
      rw [zgd_at zi, zgd_at zi, ci, f6, f8]
    rw [zE_applies]
    unfold b_applies
    rw [e193, ev, xmNi_32, zgd_at zi, ci, f1, zgd_at zn, cn, (I.1.r6 nd).1, eg0]
    rcases hg with hg | hg
    · subst hg
      have ew : xmWa fn.1 = d.2.1 := by rw [e1]; rfl
      rw [e1] at wf
      unfold tWf at wf
      simp only [reduceIte, Nat.reduceEqDiff, or_false, or_self, false_or, false_and, true_and] at wf
      obtain ⟨⟨p1, p2, p3, p4⟩, -⟩ := wf
      have hw' : rW τ T len cnt kk pp ee f := X.1.keep (I.1.1 1 (by decide)) (I.1.1 3 (by decide)) (I.1.1 4 (by decide)) (I.1.1 5 (by decide))
      rw [if_neg (show ¬ nI 2 = (3 : Int32) by decide), r_params (n := m + 1) (by omega) hw' (by omega) (v := d.1 + 3) (k := d.2.1) (by rw [(I.1.r6 nd).2.2.1]; exact eg4 rfl) p3 p4 p2, zci_at, J, ew]
    · subst hg
      have ew : xmWa fn.1 = 1 := by rw [e1]; rfl
      rw [if_pos (show nI 3 = (3 : Int32) from rfl), J, ew]
      rfl
  rw [A0]
  obtain ⟨τ1, x5, x6, k, ek, q1, I1, q3, q4, q5⟩ := r_ap53 (h0 := h0) (qs := qs) (ks := ks) (T := T) (m := m + 1) (x2 := nI i) (x3 := nI nd) w2 rest fn.2.2.2 τ c T x1 hd I (by omega) h5 f7 (by omega) (by omega)
  rw [q1]
  have K := q5 h.1.length 0
  have r110 : τ1.2.2.1 110 i = s := (K.2.1 110 i (by decide) (by decide) il).trans f4
  have E1 : rEc (V.2.2.1 32) τ1 (c + k) fn.2.1 fn.2.2.1 s := f5.kp K.1 (by omega)
  unfold j_applies_107
  have hx : xmAp h fr n v rest = (if fn.2.2.2.length + rest.length < xmWa fn.1 then .inr (xmNf h (fn.1, fn.2.1, fn.2.2.1, fn.2.2.2 ++ rest), fr, n, .inr (xmFv h)) else if xmDp fr = 50 then .inl (2, n) else .inr (h, .inr (rest.drop (xmWa fn.1 - fn.2.2.2.length)) :: fr, n, .inl (xmBo fn.1, fn.2.1 ++ xmPa fn.1, fn.2.2.1 ++ (fn.2.2.2 ++ rest.take (xmWa fn.1 - fn.2.2.2.length))))) := by
    unfold xmAp
    rw [eg]
  rw [hx]
  by_cases cp : fn.2.2.2.length + rest.length < xmWa fn.1
  · -- too few ARGS
    have ek' : k = rest.length := by omega
    subst ek'
    rw [if_pos cp, if_neg (by rw [Int32.le_iff_toInt_le, nI_toInt (by omega), nI_toInt (by omega)]; omega), zgd_at zi, ci, r110, r_fun I1.2.1.2.1 (by omega), zci_at]
    have zh : zin (nI h.1.length) 60000 = true := zin_n (by omega) (by decide)
    have ch : (nI h.1.length).toNatClampNeg = h.1.length := nI_clamp (by omega)
    rw [zgd_at zh, zlet, zgd_at zh, zlet, ch, fnS_up, r_is, zcv_at]
    rw [List.take_length] at q4
    have I2 := I1.fn (fn := (fn.1, fn.2.1, fn.2.2.1, fn.2.2.2 ++ rest)) (m := nd) (s := s) (hd := x6) ⟨f2, f3⟩ E1 q4
    have ln : (fn.2.2.2 ++ rest).length = fn.2.2.2.length + rest.length := List.length_append
    have I2 : rXa pp V N S P A (fnS τ1 h.1.length (nI nd) s x6 (nI (fn.2.2.2 ++ rest).length)) (c + rest.length) n (xmNf h (fn.1, fn.2.1, fn.2.2.1, fn.2.2.2 ++ rest)) fr := I2
    rw [ln] at I2
    exact ⟨0, _, c + rest.length, rfl, (I2.i (by omega)).j, by show c + rest.length + xmW fr ≤ _; omega, rfl, rfl, rfl⟩
  · have ek' : k = xmWa fn.1 - fn.2.2.2.length := by omega
    subst ek'
    rw [if_neg cp, if_pos (by rw [Int32.le_iff_toInt_le, nI_toInt (by omega), nI_toInt (by omega)]; omega), I1.2.2.2.2.2.1]
    by_cases c50 : xmDp fr = 50
    · rw [if_pos (show nI (xmDp fr) = (50 : Int32) by rw [c50]; rfl), if_pos c50]
      exact ⟨0, _, rfl, Or.inl rfl, I1.1.tr (xFm.i τ1 2 (by decide)), rfl, I1.2.2.2.2.2.2.2⟩
    · rw [if_neg (show ¬ nI (xmDp fr) = (50 : Int32) from fun w => c50 (nI_inj' (b := 50) (by omega) (by omega) w)), if_neg c50]
      obtain ⟨dd, d1, d2⟩ := I1.2.2.2.2.1
      have hdd := rFk.le fr dd d2
      -- the body, with the frame that waits
      have BODY : ∀ (τ3 : zSt), rXa pp V N S P A τ3 (c + (xmWa fn.1 - fn.2.2.2.length)) n h (.inr (rest.drop (xmWa fn.1 - fn.2.2.2.length)) :: fr) → (∀ nf, xKp (c + (xmWa fn.1 - fn.2.2.2.length)) nf 0 τ1 τ3) → rOt pp V N S P A (zgd (zin (nI i) 60000) (l_applies_219 T (zF h0 qs ks T (m + 2)) h0 qs ks T (nI nd) (τ3.2.2.1 110 (nI i).toNatClampNeg) (nI (xmWa fn.1) - 1) x6 τ3)) (c + xmW fr + rest.length) (.inr (h, .inr (rest.drop (xmWa fn.1 - fn.2.2.2.length)) :: fr, n, .inl (xmBo fn.1, fn.2.1 ++ xmPa fn.1, fn.2.2.1 ++ (fn.2.2.2 ++ rest.take (xmWa fn.1 - fn.2.2.2.length))))) := fun τ3 I3 K3 => by
        rw [zgd_at zi, ci, (K3 h.1.length).2.1 110 i (by decide) (by decide) il, r110]
        have lt : (fn.2.2.2 ++ rest.take (xmWa fn.1 - fn.2.2.2.length)).length = xmWa fn.1 := by rw [List.length_append, List.length_take]; omega
        have lr : (fn.2.2.2 ++ rest.take (xmWa fn.1 - fn.2.2.2.length)).reverse.length = xmWa fn.1 := by rw [List.length_reverse]; exact lt
        have pl : (xmPa fn.1).length = xmWa fn.1 := by rw [xmPa_r, List.length_range']
        have hap : xmAc (fn.2.2.2 ++ rest.take (xmWa fn.1 - fn.2.2.2.length)).reverse = (xmAc (fn.2.2.2 ++ rest.take (xmWa fn.1 - fn.2.2.2.length))).reverse := by
          unfold xmAc
          rw [List.map_reverse]
        have nde : (fn.2.1 ++ xmPa fn.1).Nodup := by rw [xmPa_r]; exact E.2.2.1.1
        have toe : ∀ u, u ∈ fn.2.1 ++ xmPa fn.1 → rTo (V.2.2.1 32) L u := by rw [xmPa_r]; exact E.2.2.2.1
        obtain ⟨nd1, nd2, nd3⟩ := List.nodup_append.mp nde
        obtain ⟨τ4, g1, g2, g3, g4⟩ := r_ap219 (h0 := h0) (qs := qs) (ks := ks) (T := T) (m := m + 1) (z := z) (a := a) (b := b) hg X.2.2.1.1 hN f2 eg0 eg3 eg4 eg5 (by have := hw4.1; omega) (fn.2.2.2 ++ rest.take (xmWa fn.1 - fn.2.2.2.length)).reverse (xmPa fn.1).reverse fn.2.1 fn.2.2.1 τ3 (c + (xmWa fn.1 - fn.2.2.2.length)) T s (nI (xmWa fn.1) - 1) x6 (by rw [lr, List.length_reverse, pl]) (fun j hj => by
          rw [List.length_reverse, pl] at hj
          rw [List.getElem?_reverse (by omega), pl, xmPa_r, List.getElem?_range' (by omega), lr, ← hw4.2, Nat.one_mul]) (fun q => by rw [lr, e1, q]; exact Nat.le_refl _) (by rw [lr]; exact w2) I3 (by rw [lr]; omega) (by rw [hap]; exact rCh.kp (K3 0).1 (Nat.le_refl _) _ _ q4) (E1.kp (K3 0).1 (Nat.le_refl _)) En.1 (List.nodup_append.mpr ⟨nd1, List.pairwise_reverse.mpr (List.Pairwise.imp (fun hab e => hab e.symm) nd2), fun x hx y hy => nd3 x hx y (List.mem_reverse.mp hy)⟩) (fun u hu => toe u (by
          rcases List.mem_append.mp hu with w | w
          · exact List.mem_append_left _ w
          · exact List.mem_append_right _ (List.mem_reverse.mp w))) (fun _ => by
          rw [lr]
          obtain ⟨j, ej⟩ : ∃ j, xmWa fn.1 = j + 1 := ⟨xmWa fn.1 - 1, by omega⟩
          rw [ej, ← nI_p1, nI_pm]
          rfl) (by rw [lr]; omega)
        rw [g1]
        rw [lr] at g2 g4
        refine ⟨1, τ4, _, rfl, g2, ?_, rfl, xb, g3, hxb, ?_, ?_⟩
        · show c + (xmWa fn.1 - fn.2.2.2.length) + xmWa fn.1 + ((rest.drop (xmWa fn.1 - fn.2.2.2.length)).length + xmW fr) ≤ c + xmW fr + rest.length + 4
          rw [List.length_drop]
          omega
        · show rTr pp V 0 N S P A (xmBo fn.1) 0 0 xb
          rw [e1]
          exact trb
        · exact rEc.rv En.1 (by rw [lt, pl]) g4
      have J184 : ∀ (τ2 : zSt), τ2.1 190 = nI (xmDp fr) → (∃ j, τ2.1 189 = nI j ∧ j < 19999 ∧ rXa pp V N S P A (tdS (zI τ2 190 (nI (xmDp fr + 1))) j 1 (-1) (-1)) (c + (xmWa fn.1 - fn.2.2.2.length)) n h (.inr (rest.drop (xmWa fn.1 - fn.2.2.2.length)) :: fr) ∧ ∀ nf, xKp (c + (xmWa fn.1 - fn.2.2.2.length)) nf 0 τ1 (tdS (zI τ2 190 (nI (xmDp fr + 1))) j 1 (-1) (-1))) → rOt pp V N S P A (j_applies_184 T (zF h0 qs ks T (m + 2)) h0 qs ks (nI i) (nI nd) (nI (xmWa fn.1)) x6 τ2) (c + xmW fr + rest.length) (.inr (h, .inr (rest.drop (xmWa fn.1 - fn.2.2.2.length)) :: fr, n, .inl (xmBo fn.1, fn.2.1 ++ xmPa fn.1, fn.2.2.1 ++ (fn.2.2.2 ++ rest.take (xmWa fn.1 - fn.2.2.2.length))))) := fun τ2 e190 hj => by
        obtain ⟨j, j1, j2, j3, j4⟩ := hj
        unfold j_applies_184
        have j5 : (zI τ2 190 (nI (xmDp fr + 1))).1 189 = nI j := (zI_ne (by decide)).trans j1
        rw [zlet, e190, nI_p1, r_todo j5 (by omega), zcv_at]
        exact BODY _ j3 j4
      by_cases cr : rest.drop (xmWa fn.1 - fn.2.2.2.length) = []
      · rw [cr] at q3
        have e5 : x5 = -1 := q3
        rw [if_pos (by rw [e5]; decide)]
        refine J184 τ1 I1.2.2.2.2.2.1 ⟨dd, d1, by omega, ?_, fun nf => ?_⟩
        · rw [cr]; exact I1.c0 d1 d2
        · have k1 := tdS_kp (zI τ1 190 (nI (xmDp fr + 1))) (c + (xmWa fn.1 - fn.2.2.2.length)) nf dd 1 (-1) (-1)
          exact ⟨k1.1, k1.2.1, fun k i _ _ hi => by omega⟩
      · have n5 : ¬ x5 < 0 := by
          cases w : rest.drop (xmWa fn.1 - fn.2.2.2.length) with
          | nil => exact absurd w cr
          | cons x l =>
            rw [w] at q3
            obtain ⟨i', e', hi', -⟩ := q3
            rw [e']
            exact xnI_nn (by omega)
        rw [if_neg n5, r_todo d1 (by omega), zcv_at]
        refine J184 (tdS τ1 dd 2 x5 (-1)) I1.2.2.2.2.2.1 ⟨dd + 1, rfl, by omega, I1.c1 d1 d2 ⟨cr, by rw [List.length_drop]; omega⟩ q3, fun nf => ?_⟩
        have k1 := tdS_kp τ1 (c + (xmWa fn.1 - fn.2.2.2.length)) nf dd 2 x5 (-1)
        have k2 := tdS_kp (zI (tdS τ1 dd 2 x5 (-1)) 190 (nI (xmDp fr + 1))) (c + (xmWa fn.1 - fn.2.2.2.length)) nf (dd + 1) 1 (-1) (-1)
        exact ⟨rSk.tr k1.1 k2.1 (Nat.le_refl _), fun k i x1 x2 x3 => (k2.2.1 k i x1 x2 x3).trans (k1.2.1 k i x1 x2 x3), fun k i _ _ hi => by omega⟩
end XRQ
