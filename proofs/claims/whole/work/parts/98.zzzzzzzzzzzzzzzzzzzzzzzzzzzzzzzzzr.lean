/-! run(), the class: INPUTS -/
section HZI
variable {κ : oKv} {T n cnt : Nat} {kk pp ee f fc : Nat → Int32} {tE tN : Nat → tY} {R : Nat → Int32} {L : List Nat} {y0 : tY} {B : Nat → Nat} {D : cDt} {V : oSt} {nm : Nat → Option Nat} {p : Nat} {σ0 : oSt} {nf ma ha0 wn ws wa : Nat} {fm0 : List Value} {hl0 : Nat} {σ σ' : oSt} {G G' : hG} {top ha hl top' ha' hl' : Nat} {hp hp' : Nat → Int64} {fm gm : List Value} {nu n' : Nat} {h h' : xmHp} {fr : List xmFr} {env : List Nat} {vs : List xmV} {Kb N sc pg : Nat}
/-- the heap's cell alone -/
theorem hKe.ho {W : Nat → Prop} (k : hKe W ma ha0 σ0 σ ha) (hc : ∀ x, x ≠ ha → σ'.1 x = σ.1 x) (h2 : σ'.2 = σ.2) : hKe W ma ha0 σ0 σ' ha := by
  obtain ⟨k1, k2, k3, k4, k5, k6⟩ := k
  refine ⟨fun x hx q1 q2 q3 => ?_, fun q hq => ?_, by rw [h2]; exact k3, k4, by rw [h2]; exact k5, k6⟩
  · have nx : x ≠ ha := fun w => by
      rcases k4 with e | e
      · exact q2 (w.trans e)
      · omega
    rw [hc x nx]
    exact k1 x hx q1 q2 q3
  · rw [h2] at hq
    rw [hc q (by omega)]
    exact k2 q hq
/-- the INPUTS' rows -/
def hIn (fm0 : List Value) (ma ha0 : Nat) (W : Nat → Prop) (σ0 : oSt) (va ra : Nat) (fv : Nat → Int64) (gr : Nat → Option Nat) : Prop := (fm0[2]? = some (.ref va) ∧ fm0[3]? = some (.ref ra)) ∧ (σ0.1 va = some (.inl (.long, 6, .inr (.inl fv))) ∧ va ≠ ha0 ∧ va ≠ ma ∧ ¬ W va) ∧ σ0.1 ra = some (.inl (.array .int, 6, .inr (.inr (.inr (.inr gr))))) ∧ ¬ W ra ∧ ∀ i b, i < 6 → gr i = some b → ¬ W b
/-- the loop of givenArray() -/
theorem h_gA14 {call : oCl} {va ra i ta b z : Nat} {fv : Nat → Int64} {gr : Nat → Option Nat} {hh : Nat → Int32} (hi : i < 6) (hz : z ≤ 1000) (hf : (fv i).toInt = (z : Int)) (g2 : fm[2]? = some (.ref va)) (g3 : fm[3]? = some (.ref ra)) (hgr : z ≠ 0 → gr i = some b) (hba : b ≠ ha ∧ va ≠ ha ∧ ra ≠ ha) (ht : ta + 1 + z ≤ top) : ∀ (r k F' : Nat) (hp : Nat → Int64) (σ : oSt), k + r = z → r < F' → hMa ma fm ha hl hp top σ → ha ≠ ma → σ.1 va = some (.inl (.long, 6, .inr (.inl fv))) → σ.1 ra = some (.inl (.array .int, 6, .inr (.inr (.inr (.inr gr))))) → (z ≠ 0 → σ.1 b = some (.inl (.int, 1000, .inl hh))) → ∃ σ' hp', ol_X3_givenArray_14 T call κ F' (some ma) (nI i) (nI ta) (nI k) σ = some (some (.long (xmNi ta)), σ') ∧ hMa ma fm ha hl hp' top σ' ∧ (∀ x, x ≠ ha → σ'.1 x = σ.1 x) ∧ σ'.2 = σ.2 ∧ (∀ j, j < ta + 1 + k ∨ ta + 1 + z ≤ j → hp' j = hp j) ∧ ∀ j, k ≤ j → j < z → hp' (ta + 1 + j) = (hh j).toInt64
  | 0, k, F', hp, σ, hk, hF, M, hne, c1, c2, c3 => by
    obtain ⟨F', rfl⟩ : ∃ u, F' = u + 1 := ⟨F' - 1, by omega⟩
    have e2 : ovr (ofd σ (some ma) 5 2) = some (some va) := by rw [ofd_at M.1.1, g2]; rfl
    have a2 : oaj σ (some va) (nI i) = some (fv i) := by
      unfold oaj
      simp only [c1]
      rw [if_pos ⟨trivial, zin_n hi (by decide)⟩, nI_clamp (by omega)]
    have ge : 0 ≤ lg_cmp (nI k).toInt64 (fv i) := by
      rw [lg_ge, Int64.le_iff_toInt_le, hf, Int32.toInt_toInt64, nI_toInt (by omega)]
      omega
    rw [ol_X3_givenArray_14, e2, obn_at, a2, obn_at, if_pos ge]
    exact ⟨σ, hp, rfl, M, fun _ _ => rfl, rfl, fun _ _ => rfl, fun j h1 h2 => by omega⟩
  | r + 1, k, F', hp, σ, hk, hF, M, hne, c1, c2, c3 => by
    obtain ⟨F', rfl⟩ : ∃ u, F' = u + 1 := ⟨F' - 1, by omega⟩
    have t31 := M.2.2.2
    have e2 : ovr (ofd σ (some ma) 5 2) = some (some va) := by rw [ofd_at M.1.1, g2]; rfl
    have e3 : ovr (ofd σ (some ma) 5 3) = some (some ra) := by rw [ofd_at M.1.1, g3]; rfl
    have a2 : oaj σ (some va) (nI i) = some (fv i) := by
      unfold oaj
      simp only [c1]
      rw [if_pos ⟨trivial, zin_n hi (by decide)⟩, nI_clamp (by omega)]
    have ge : ¬ 0 ≤ lg_cmp (nI k).toInt64 (fv i) := by
      rw [lg_ge, Int64.le_iff_toInt_le, hf, Int32.toInt_toInt64, nI_toInt (by omega)]
      omega
    have zi : zin (nI i) 6 = true := zin_n hi (by decide)
    have a3 : oar σ (some ra) (nI i) = some (some b) := by
      simp only [oar, c2, zi, if_true, nI_clamp (show i < 2 ^ 31 by omega), hgr (by omega)]
    have a4 : oai σ (some b) .int (nI k) = some (hh k) := by
      rw [oai_at (c3 (by omega)) (zin_n (by omega) (by decide)), nI_clamp (by omega)]
    obtain ⟨W1, W2⟩ := M.sj hne (i := ta + 1 + k) (by omega) (hh k).toInt64
    have ex : nI ta + 1 + nI k = nI (ta + 1 + k) := by rw [nI_p1, nI_add]
    obtain ⟨σ', hp', i1, i2, i3, i4, i5, i6⟩ := h_gA14 (call := call) hi hz hf g2 g3 hgr hba ht r (k + 1) F' (vp_updL hp (ta + 1 + k) (hh k).toInt64) _ (by omega) (by omega) W2 hne ((oput_ne hba.2.1).trans c1) ((oput_ne hba.2.2).trans c2) (fun q => (oput_ne hba.1).trans (c3 q))
    refine ⟨σ', hp', ?_, i2, fun x hx => (i3 x hx).trans (oput_ne hx), i4, fun j hj => ?_, fun j h1 h2 => ?_⟩
    · rw [ol_X3_givenArray_14, e2, obn_at, a2, obn_at, if_neg ge, e3, obn_at, a3, obn_at, if_neg (fun w => by cases w), M.hp4, obn_at, obn_at, a3, obn_at, a4, obn_at, ex, W1, obn_at, nI_p1]
      exact i1
    · rw [i5 j (by omega), vp_L, if_neg (by omega)]
    · by_cases e : j = k
      · subst e
        rw [i5 (ta + 1 + j) (by omega), vp_L, if_pos rfl]
      · exact i6 j (by omega) h2
/-- **givenArray() (78)** -/
theorem h_gA {va ra i b z : Nat} {fv gv ge : Nat → Int64} {gr : Nat → Option Nat} {hh : Nat → Int32} {AA : List (List Int64)} (P : hPo T pp ee f fc tN L V nm p (hW wn ws wa) ma ha0 σ0) (hT : 9010 ≤ T) (I : hXa κ T kk pp ee f fc tN B D V nm p σ0 nf ma ha0 wn ws wa fm0 hl0 σ G top ha hl hp fm nu ([], AA, []) []) (N' : hIn fm0 ma ha0 (hW wn ws wa) σ0 va ra fv gr) (hi : i < 6) (hz : z ≤ 1000) (hf : (fv i).toInt = (z : Int)) (hgv : fv i = gv i) (hgr : z ≠ 0 → gr i = some b ∧ σ0.1 b = some (.inl (.int, 1000, .inl hh)) ∧ ∀ k, k < z → (hh k).toInt64 = ge (1000 * i + k)) (hAA : AA.length ≤ 6) (hk : top + (z + 1) ≤ 332100) : ∃ σ' ha' hl' hp' gm, oF κ T (N + 4) 78 [va_rf (some ma), .int (nI i)] σ = some (some (.long (xmNi top)), σ') ∧ hXa κ T kk pp ee f fc tN B D V nm p σ0 nf ma ha0 wn ws wa fm0 hl0 σ' (G.1, G.2.1 ++ [top], G.2.2) (top + (z + 1)) ha' hl' hp' gm nu ([], AA ++ [xiA gv ge i], []) [] ∧ gm[10]? = fm[10]? ∧ (∀ j, j < top → hp' j = hp j) ∧ (xiA gv ge i).length = z := by
  obtain ⟨⟨n1, n2⟩, ⟨n3, n4, n5, n6⟩, n7, n8, n9⟩ := N'
  have M := I.1.1
  have HH := I.1.2
  have K := I.2.1.1
  have hml := P.2.2.2.1.2.2.2
  have ml := I.ml hml
  have hne := K.2.2.2.2.2
  have fr0 := P.2.2.2.1.1
  have lt0 : ∀ {x : Nat} {c : oC}, σ0.1 x = some c → x < σ0.2.1 := fun {x c} q => Nat.lt_of_not_le (fun w => by rw [fr0 x w] at q; cases q)
  have ix : xmIx (gv i) = z := by
    show (gv i).toInt.toNat = z
    rw [← hgv, hf]
    omega
  have xl : (xiA gv ge i).length = z := by
    unfold xiA
    rw [List.length_map, List.length_range, ix]
  -- cells that stay
  have V1 : σ.1 va = some (.inl (.long, 6, .inr (.inl fv))) := (K.1 va (lt0 n3) n5 n4 n6).trans n3
  have g2 : fm[2]? = some (.ref va) := (I.2.2.2.1 2 (by decide)).trans n1
  have e2 : ovr (ofd σ (some ma) 5 2) = some (some va) := by rw [ofd_at M.1.1, g2]; rfl
  have a2 : oaj σ (some va) (nI i) = some (fv i) := by
    unfold oaj
    simp only [V1]
    rw [if_pos ⟨trivial, zin_n hi (by decide)⟩, nI_clamp (by omega)]
  have c32 : (fv i).toInt32 = nI z := by
    have : fv i = xmNi z := by rw [← Int64.toInt_inj, hf, xmNi_int (by omega)]
    rw [this, xmNi_32]
  obtain ⟨σ1, ha1, hl1, hp1, A1, A2, ⟨A3, A4, A5⟩, A6, A7, A8⟩ := h_array (κ := κ) (T := T) (n := N) (z := z) (by omega) M hz I.2.2.2.2.2.2.2.2 hk hne.symm ml K.2.2.2.2.1 K.2.1
  obtain ⟨k1, co1⟩ := A6.ke K.2.1 K.2.2.2.2.1 hne A7 A8
  have K1 := K.tr k1
  obtain ⟨fm', hm0⟩ := P.2.2.2.1.2.1
  obtain ⟨kh, gh, hh0⟩ := P.2.2.2.1.2.2.1
  have dis : ∀ {x : Nat} {c : oC}, σ0.1 x = some c → x ≠ ha0 → x ≠ ha1 := fun {x c} q w e => by
    rcases K1.2.2.2.1 with r | r
    · exact w (e.trans r)
    · have := lt0 q; omega
  have V2 : σ1.1 va = some (.inl (.long, 6, .inr (.inl fv))) := (K1.1 va (lt0 n3) n5 n4 n6).trans n3
  have ra0 : ra ≠ ha0 := fun w => by rw [w, hh0] at n7; cases n7
  have ram : ra ≠ ma := fun w => by rw [w, hm0] at n7; cases n7
  have R2 : σ1.1 ra = _ := (K1.1 ra (lt0 n7) ram ra0 n8).trans n7
  obtain ⟨σ', hp', B1, B2, B3, B4, B5, B6⟩ : ∃ σ' hp', ol_X3_givenArray_14 T (oF κ T (N + 3)) κ T (some ma) (nI i) (nI top) (nI 0) σ1 = some (some (.long (xmNi top)), σ') ∧ hMa ma (((fm.set 4 (.ref ha1)).set 5 (.int (nI (top + (z + 1))))).set 14 (.int (nI (xmTot ([], AA, []) + z)))) ha1 hl1 hp' (top + (z + 1)) σ' ∧ (∀ x, x ≠ ha1 → σ'.1 x = σ1.1 x) ∧ σ'.2 = σ1.2 ∧ (∀ j, j < top + 1 + 0 ∨ top + 1 + z ≤ j → hp' j = hp1 j) ∧ ∀ j, j < z → hp' (top + 1 + j) = ge (1000 * i + j) := by
    by_cases z0 : z = 0
    · obtain ⟨σ', hp', i1, i2, i3, i4, i5, i6⟩ := h_gA14 (κ := κ) (T := T) (call := oF κ T (N + 3)) (b := va) (gr := gr) (hh := hh) (ta := top) hi hz hf (by rw [List.getElem?_set_ne (by decide), List.getElem?_set_ne (by decide), List.getElem?_set_ne (by decide)]; exact g2) (by rw [List.getElem?_set_ne (by decide), List.getElem?_set_ne (by decide), List.getElem?_set_ne (by decide)]; exact (I.2.2.2.1 3 (by decide)).trans n2) (fun w => absurd z0 w) ⟨dis n3 n4, dis n3 n4, dis n7 ra0⟩ (by omega) z 0 T hp1 σ1 (by omega) (by omega) A2 A7 V2 R2 (fun w => absurd z0 w)
      exact ⟨σ', hp', i1, i2, i3, i4, i5, fun j hj => by omega⟩
    · obtain ⟨b1, b2, b3⟩ := hgr z0
      have b0 : b ≠ ha0 := fun w => by rw [w, hh0] at b2; cases b2
      have bm : b ≠ ma := fun w => by rw [w, hm0] at b2; cases b2
      have b4 : σ1.1 b = _ := (K1.1 b (lt0 b2) bm b0 (n9 i b hi b1)).trans b2
      obtain ⟨σ', hp', i1, i2, i3, i4, i5, i6⟩ := h_gA14 (κ := κ) (T := T) (call := oF κ T (N + 3)) (b := b) (gr := gr) (hh := hh) (ta := top) hi hz hf (by rw [List.getElem?_set_ne (by decide), List.getElem?_set_ne (by decide), List.getElem?_set_ne (by decide)]; exact g2) (by rw [List.getElem?_set_ne (by decide), List.getElem?_set_ne (by decide), List.getElem?_set_ne (by decide)]; exact (I.2.2.2.1 3 (by decide)).trans n2) (fun _ => b1) ⟨dis b2 b0, dis n3 n4, dis n7 ra0⟩ (by omega) z 0 T hp1 σ1 (by omega) (by omega) A2 A7 V2 R2 (fun _ => b4)
      exact ⟨σ', hp', i1, i2, i3, i4, i5, fun j hj => (i6 j (by omega) hj).trans (b3 j hj)⟩
  have hk3 : ∀ j, j < top → hp' j = hp j := fun j hj => (B5 j (by omega)).trans (A3 j hj)
  have tot := xmTot_ap ([], AA, []) (xiA gv ge i)
  rw [xl] at tot
  have H' := HH.ar (y := xiA gv ge i) (a := top) (top' := top + (z + 1)) (hp' := hp') (Nat.le_refl _) (by rw [xl]; omega) hk3 (by rw [xl, B5 top (by omega)]; exact A4) (fun k x ex => by
    have hk' := xget_lt ex
    rw [xl] at hk'
    rw [B6 k hk']
    unfold xiA at ex
    rw [List.getElem?_map, List.getElem?_range (by omega)] at ex
    injection ex) (by show 0 + AA.length + 0 + 1 < _; omega)
  have kp : hKp (hAr G.2.1 AA) (hAr (G.2.1 ++ [top]) (AA ++ [xiA gv ge i])) top (top + (z + 1)) hp hp' := fun x hx => ⟨⟨hx.1, by have := hx.2.1; omega, fun w' => by
    rcases (hAr_ap HH.1.2.1).mp w' with r | ⟨r, -⟩
    · exact hx.2.2 r
    · have := hx.2.1; omega⟩, hk3 x hx.2.1⟩
  have I' := I.to (n' := nu) (h' := ([], AA ++ [xiA gv ge i], [])) B2 H' (k1.ho B3 B4) (show hCo σ hl σ' hl1 by unfold hCo; rw [B4]; exact co1) ⟨⟨[], by rw [List.append_nil]⟩, ⟨[top], rfl⟩, ⟨[], by rw [List.append_nil]⟩⟩ kp ((((hFx.rf _ fm).st (by decide)).st (by decide)).st (by decide)) (by rw [List.getElem?_set_ne (by decide), List.getElem?_set_ne (by decide), List.getElem?_set_ne (by decide)]; exact I.2.2.2.2.2.1) (by rw [List.getElem?_set_self (by rw [List.length_set, List.length_set, M.1.2]; decide)]; exact congrArg (fun q => some (Value.int (nI q))) tot.symm)
  refine ⟨σ', ha1, hl1, hp', _, ?_, I', by rw [List.getElem?_set_ne (by decide), List.getElem?_set_ne (by decide), List.getElem?_set_ne (by decide)], hk3, xl⟩
  rw [oE_X3_givenArray]
  unfold ob_X3_givenArray
  rw [e2, obn_at, a2, obn_at, oob_at M.1.1, obn_at, c32, A1, oin_at]
  exact B1
end HZI
