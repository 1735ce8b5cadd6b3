/-! run(), the class: begin() and go() -/
/-- the PROGRAM's INPUTS and its E -/
def hFi (κ : oKv) (D : cDt) (V : oSt) (p pg : Nat) (nm : Nat → Option Nat) (is : List (Nat × Nat)) (e0 : Nat) : Prop := ∃ gp tl d cap mc nt, V.1 pg = some (.inr (9, gp)) ∧ gp[2]? = some (.ref tl) ∧ gp[9]? = some (.int (nI is.length)) ∧ gp[10]? = some (.ref e0) ∧ p ≤ tl ∧ cLs κ V tl d cap nt mc D.2.1 6 ∧ (p ≤ d ∨ (d = κ.2.2.1 ∧ V.1 d = none)) ∧ (is.length ≤ nt ∧ nt < 2 ^ 31) ∧ ∀ i y, is[i]? = some y → D.2.1 i = nm y.1
/-- what is given, as both have it -/
def hGi (σ0 : oSt) (is : List (Nat × Nat)) (fv gv ge : Nat → Int64) (gr : Nat → Option Nat) : Prop := (∀ i, i < 6 → fv i = gv i) ∧ ∀ i y, is[i]? = some y → y.2 = 2 → (0 ≤ (fv i).toInt ∧ (fv i).toInt ≤ 1000) ∧ ∀ k : Nat, (k : Int) < (fv i).toInt → ∃ b h, gr i = some b ∧ σ0.1 b = some (.inl (.int, 1000, .inl h)) ∧ (h k).toInt64 = ge (1000 * i + k)
section HZJ
variable {κ : oKv} {T n cnt : Nat} {kk pp ee f fc : Nat → Int32} {tE tN : Nat → tY} {R : Nat → Int32} {L : List Nat} {y0 : tY} {B : Nat → Nat} {D : cDt} {V : oSt} {nm : Nat → Option Nat} {p : Nat} {σ0 : oSt} {nf ma ha0 wn ws wa : Nat} {fm0 : List Value} {hl0 : Nat} {σ σ' : oSt} {G G' : hG} {top ha hl top' ha' hl' : Nat} {hp hp' : Nat → Int64} {fm gm : List Value} {nu n' : Nat} {h h' : xmHp} {fr : List xmFr} {env : List Nat} {vs : List xmV} {Kb N sc pg e0 va ra : Nat} {fv gv ge : Nat → Int64} {gr : Nat → Option Nat} {is : List (Nat × Nat)}
/-- **the loop of begin()** -/
theorem h_bg32 (P : hPo T pp ee f fc tN L V nm p (hW wn ws wa) ma ha0 σ0) (hF : hFl κ D V p pg nf) (hI : hFi κ D V p pg nm is e0) (f0 : fm0[0]? = some (.ref pg)) (hT : 9010 ≤ T) (N' : hIn fm0 ma ha0 (hW wn ws wa) σ0 va ra fv gr) (Gi : hGi σ0 is fv gv ge gr) (h6 : is.length ≤ 6) (hk : ∀ (i : Nat) (y : Nat × Nat), is[i]? = some y → y.2 ≤ 2 ∧ yK (tN y.1) = y.2 + 2) (hL : ∀ (i : Nat) (y : Nat × Nat), is[i]? = some y → y.1 ∈ L) : ∀ (l : List (Nat × Nat)) (i F' : Nat) (σ : oSt) (G : hG) (top ha hl : Nat) (hp : Nat → Int64) (fm : List Value) (AA : List (List Int64)) (vs : List xmV) (sc : Nat), is.drop i = l → i ≤ is.length → l.length < F' → hXa κ T kk pp ee f fc tN B D V nm p σ0 nf ma ha0 wn ws wa fm0 hl0 σ G top ha hl hp fm nu ([], AA, []) [] → fm[10]? = some (.int (nI sc)) → hSc G (hAr G.2.1 AA) top hp vs.reverse sc → (AA.length ≤ i ∧ xmTot ([], AA, []) ≤ 1000 * i) → top ≤ 4 + 3 * i + xmTot ([], AA, []) → ∃ σ' G' top' ha' hl' hp' gm sc', ol_X3_begin_32 T (oF κ T (N + 5)) κ F' (some ma) (nI i) σ = some (none, σ') ∧ hXa κ T kk pp ee f fc tN B D V nm p σ0 nf ma ha0 wn ws wa fm0 hl0 σ' G' top' ha' hl' hp' gm nu ([], (xiS gv ge l i AA vs).1, []) [] ∧ gm[10]? = some (.int (nI sc')) ∧ hSc G' (hAr G'.2.1 (xiS gv ge l i AA vs).1) top' hp' (xiS gv ge l i AA vs).2.reverse sc' ∧ top' ≤ 4 + 3 * is.length + xmTot ([], (xiS gv ge l i AA vs).1, [])
  | [], i, F', σ, G, top, ha, hl, hp, fm, AA, vs, sc, hd, hi, hF', I, hsc, hs, ha2, ht => by
    obtain ⟨F', rfl⟩ : ∃ u, F' = u + 1 := ⟨F' - 1, by omega⟩
    have hl0 : is.length ≤ i := by
      have := congrArg List.length hd
      rw [List.length_drop] at this
      have : is.length - i = 0 := this
      omega
    obtain ⟨ppg, gp0, -⟩ := id hF
    obtain ⟨gp, tl, d, cap, mc, nt, i1, i2, i3, i4, i5, i6, i7, i8, i9⟩ := hI
    have pg' := P.ob I.2.1.1 ppg i1 (by decide)
    have q0 : ovr (ofd σ (some ma) 5 0) = some (some pg) := by rw [ofd_at I.1.1.1.1, I.2.2.2.1 0 (by decide), f0]; rfl
    have q9 : ovi (ofd σ (some pg) 9 9) = some (nI is.length) := by rw [ofd_at pg', i3]; rfl
    rw [ol_X3_begin_32, q0, obn_at, q9, obn_at, if_pos (nI_le (by omega) (by omega))]
    exact ⟨σ, G, top, ha, hl, hp, fm, sc, rfl, I, hsc, hs, by show top ≤ 4 + 3 * is.length + xmTot ([], AA, []); omega⟩
  | y :: l, i, F', σ, G, top, ha, hl, hp, fm, AA, vs, sc, hd, hi, hF', I, hsc, hs, ha2, ht => by
    rw [List.length_cons] at hF'
    obtain ⟨F', rfl⟩ : ∃ u, F' = u + 1 := ⟨F' - 1, by omega⟩
    have hy : is[i]? = some y := by
      have : (is.drop i)[0]? = some y := by rw [hd]; rfl
      rw [List.getElem?_drop, Nat.add_zero] at this
      exact this
    have hil := xget_lt hy
    have hd1 : is.drop (i + 1) = l := by
      rw [← List.drop_drop, hd]; rfl
    obtain ⟨ppg, gp0, -⟩ := id hF
    obtain ⟨gp, tl, d, cap, mc, nt, i1, i2, i3, i4, i5, i6, i7, i8, i9⟩ := id hI
    have K := I.2.1.1
    have M := I.1.1
    have HH := I.1.2
    have hml := P.2.2.2.1.2.2.2
    have ml := I.ml hml
    have hne := K.2.2.2.2.2
    have pg' := P.ob K ppg i1 (by decide)
    have q0 : ovr (ofd σ (some ma) 5 0) = some (some pg) := by rw [ofd_at M.1.1, I.2.2.2.1 0 (by decide), f0]; rfl
    have q9 : ovi (ofd σ (some pg) 9 9) = some (nI is.length) := by rw [ofd_at pg', i3]; rfl
    have q2 : ovr (ofd σ (some pg) 9 2) = some (some tl) := by rw [ofd_at pg', i2]; rfl
    have LS := (P.ls K i6 i5 i7 i8.2).2
    obtain ⟨xo, do', o1, -⟩ := id LS
    obtain ⟨b, fs, gs, b1, b2, b3, b4, b5⟩ := P.2.1 y.1 (hL i y hy)
    have b4' : σ.1 b = some (.inr (6, gs)) := P.at K b2 b4 (fun _ z => by cases z) (fun _ _ z => by cases z)
    have G1 := l_get (κ := κ) (T := T) (n := N + 2) LS (show i < nt by omega)
    rw [i9 i y hy, b1] at G1
    have oc : ocs σ (some b) 6 = true := by simp only [ocs, b4']; rfl
    obtain ⟨k2, k3⟩ := hk i y hy
    have e3 : ovi (ofd σ (some b) 6 3) = some (cKd (y.2 + 2)) := by rw [ofd_at b4', b5, k3]; rfl
    rw [ol_X3_begin_32, q0, obn_at, q9, obn_at, if_neg (nI_ge (by omega) (by omega)), obn_at, q2, obn_at, o1, obn_at, G1, orn_at, ogd_at oc, e3, obn_at]
    have e10 : ovi (ofd σ (some ma) 5 10) = some (nI sc) := by rw [ofd_at M.1.1, hsc]; rfl
    -- one value more
    have PUSH : ∀ (v : xmV) (x : Int64) (σ1 : oSt) (G1 : hG) (top1 ha1 hl1 : Nat) (hp1 : Nat → Int64) (fm1 : List Value) (AA1 : List (List Int64)), hXa κ T kk pp ee f fc tN B D V nm p σ0 nf ma ha0 wn ws wa fm0 hl0 σ1 G1 top1 ha1 hl1 hp1 fm1 nu ([], AA1, []) [] → fm1[10]? = some (.int (nI sc)) → hSc G1 (hAr G1.2.1 AA1) top1 hp1 vs.reverse sc → hV G1 v x → (AA1.length ≤ i + 1 ∧ xmTot ([], AA1, []) ≤ 1000 * (i + 1)) → top1 + 2 ≤ 4 + 3 * (i + 1) + xmTot ([], AA1, []) → ∃ σ' G' top' ha' hl' hp' gm sc', oj_X3_begin_92 T (oF κ T (N + 5)) κ (ol_X3_begin_32 T (oF κ T (N + 5)) κ F') (some ma) (nI i) (some ma) (some ma) x σ1 = some (none, σ') ∧ hXa κ T kk pp ee f fc tN B D V nm p σ0 nf ma ha0 wn ws wa fm0 hl0 σ' G' top' ha' hl' hp' gm nu ([], (xiS gv ge l (i + 1) AA1 (vs ++ [v])).1, []) [] ∧ gm[10]? = some (.int (nI sc')) ∧ hSc G' (hAr G'.2.1 (xiS gv ge l (i + 1) AA1 (vs ++ [v])).1) top' hp' (xiS gv ge l (i + 1) AA1 (vs ++ [v])).2.reverse sc' ∧ top' ≤ 4 + 3 * is.length + xmTot ([], (xiS gv ge l (i + 1) AA1 (vs ++ [v])).1, []) := fun v x σ1 G1 top1 ha1 hl1 hp1 fm1 AA1 I1 hsc1 hs1 hv1 hA1 ht1 => by
      have M1 := I1.1.1
      have K1 := I1.2.1.1
      have f10 : ovi (ofd σ1 (some ma) 5 10) = some (nI sc) := by rw [ofd_at M1.1.1, hsc1]; rfl
      obtain ⟨σ2, σ3, ha3, hl3, hp3, A1, A2, A3, ⟨A4, A5, A6⟩, A7, A8, A9⟩ := h_push (κ := κ) (T := T) (n := N + 2) (x := x) (a := sc) M1 (by omega) K1.2.2.2.2.2.symm (I1.ml hml) K1.2.2.2.2.1 K1.2.1
      obtain ⟨k3', co3⟩ := A7.ke K1.2.1 K1.2.2.2.2.1 K1.2.2.2.2.2 A8 A9
      have I3 := I1.to (n' := nu) (h' := ([], AA1, [])) A3 (I1.1.2.up (by omega) A4) k3' co3 (hGe.rf G1) (hKp.up (by omega) A4) ((((hFx.rf _ fm1).st (by decide)).st (by decide)).st (by decide)) (by rw [List.getElem?_set_ne (by decide), List.getElem?_set_ne (by decide), List.getElem?_set_ne (by decide)]; exact I1.2.2.2.2.2.1) (by rw [List.getElem?_set_ne (by decide), List.getElem?_set_ne (by decide), List.getElem?_set_ne (by decide)]; exact I1.2.2.2.2.2.2.2.2)
      have S3 := hs1.push I1.1.2 hv1 A4 A5 A6
      have IH := h_bg32 P hF hI f0 hT N' Gi h6 hk hL l (i + 1) F' σ3 G1 (top1 + 2) ha3 hl3 hp3 _ AA1 (vs ++ [v]) top1 hd1 (by omega) (by omega) I3 (by rw [List.getElem?_set_self (by rw [List.length_set, List.length_set, M1.1.2]; decide)]) (by rw [List.reverse_append]; exact S3) hA1 ht1
      unfold oj_X3_begin_92
      rw [f10, obn_at, oob_at M1.1.1, obn_at, A1, oin_at, A2, obn_at, nI_p1]
      exact IH
    unfold xiS
    by_cases c2 : y.2 = 2
    · obtain ⟨⟨g1, g2⟩, g3⟩ := Gi.2 i y hy c2
      obtain ⟨z, ez⟩ : ∃ z : Nat, (fv i).toInt = (z : Int) := ⟨(fv i).toInt.toNat, by omega⟩
      obtain ⟨b', hh', gz⟩ : ∃ b' hh', z ≠ 0 → gr i = some b' ∧ σ0.1 b' = some (.inl (.int, 1000, .inl hh')) ∧ ∀ k, k < z → (hh' k).toInt64 = ge (1000 * i + k) := by
        by_cases z0 : z = 0
        · exact ⟨0, fun _ => 0, fun w => absurd z0 w⟩
        · obtain ⟨b', hh', r1, r2, -⟩ := g3 0 (by omega)
          refine ⟨b', hh', fun _ => ⟨r1, r2, fun k hk' => ?_⟩⟩
          obtain ⟨b2', hh2, s1, s2, s3⟩ := g3 k (by omega)
          rw [r1] at s1
          injection s1 with s1
          subst s1
          rw [r2] at s2
          injection s2 with s2; injection s2 with s2; injection s2 with _ s2; injection s2 with _ s2; injection s2 with s2
          rw [s2]
          exact s3
      obtain ⟨σ1, ha1, hl1, hp1, gm1, A1, A2, A3, A4, A5⟩ := h_gA (N := N + 1) (b := b') (hh := hh') (gv := gv) (ge := ge) P hT I N' (by omega) (by omega) ez (Gi.1 i (by omega)) gz (by omega) (by omega)
      have tot := xmTot_ap ([], AA, []) (xiA gv ge i)
      rw [A5] at tot
      have tot : xmTot ([], AA ++ [xiA gv ge i], []) = xmTot ([], AA, []) + z := tot
      have c200 : cKd (y.2 + 2) = 200 := by rw [c2]; rfl
      rw [if_pos c2, if_pos c200]
      unfold oj_X3_begin_71
      rw [if_neg (by decide), oob_at M.1.1, obn_at, A1, oln_lg]
      refine PUSH (2, xmNi AA.length) (xmNi top) σ1 _ _ ha1 hl1 hp1 gm1 _ A2 (A3.trans hsc) ?_ (Or.inr (Or.inl ⟨rfl, AA.length, top, rfl, ?_, rfl⟩)) ⟨by rw [List.length_append]; show AA.length + 1 ≤ _; omega, by rw [tot]; omega⟩ (by rw [tot]; omega)
      · refine hs.kp ⟨⟨[], by rw [List.append_nil]⟩, ⟨[top], rfl⟩, ⟨[], by rw [List.append_nil]⟩⟩ (fun x hx => ⟨⟨hx.1, by have := hx.2.1; omega, fun w' => ?_⟩, A4 x hx.2.1⟩)
        rcases (hAr_ap HH.1.2.1).mp w' with r | ⟨r, -⟩
        · exact hx.2.2 r
        · have := hx.2.1; omega
      · show (G.2.1 ++ [top])[AA.length]? = some top
        have : G.2.1.length = AA.length := HH.1.2.1
        rw [← this, List.getElem?_append_right (Nat.le_refl _), Nat.sub_self]
        rfl
    · have c200 : ¬ cKd (y.2 + 2) = 200 := by
        rcases (show y.2 = 0 ∨ y.2 = 1 by omega) with q | q <;> (rw [q]; decide)
      obtain ⟨⟨n1, n2⟩, ⟨n3, n4, n5, n6⟩, n7⟩ := id N'
      have va0 : va < σ0.2.1 := Nat.lt_of_not_le (fun w => by rw [P.2.2.2.1.1 va w] at n3; cases n3)
      have V1 : σ.1 va = some (.inl (.long, 6, .inr (.inl fv))) := (K.1 va va0 n5 n4 n6).trans n3
      have e2 : ovr (ofd σ (some ma) 5 2) = some (some va) := by rw [ofd_at M.1.1, (I.2.2.2.1 2 (by decide)).trans n1]; rfl
      have a2 : oaj σ (some va) (nI i) = some (fv i) := by
        unfold oaj
        simp only [V1]
        rw [if_pos ⟨trivial, zin_n (by omega) (by decide)⟩, nI_clamp (by omega)]
      rw [if_neg c2, if_neg c200]
      unfold oj_X3_begin_71
      rw [if_pos rfl, e2, obn_at, a2, obn_at]
      exact PUSH (y.2, gv i) (fv i) σ G top ha hl hp fm AA I hsc hs (Or.inl ⟨by show y.2 ≤ 1; omega, Gi.1 i (by omega)⟩) ⟨by omega, by omega⟩ (by omega)
end HZJ
