/-! run(), the class: an E begins, what there is to say beforehand -/
/-- start() behind FUEL, with the node's kind -/
def hSx (n : Nat) (call : oCl) (κ : oKv) (x0 : Option Nat) (x1 : Option Nat) (v8 : Int32) (σ : oSt) : oRs :=
    if v8 = 40 then
      obn (ovr (ofd σ x1 7 12)) fun v11 =>
      some (some (va_rf v11), σ)
    else
    if v8 = 201 then
      obn (ovr (ofd σ x1 7 14)) fun v14 =>
      obn (oob σ x0 5) fun a16 =>
      oin (call 87 [va_rf x0, va_rf v14] σ) fun r20 s18 =>
      if r20 = 0 then
        obn (ovi (ofd s18 x0 5 12)) fun v22 =>
        if v22 = 0 then
          obn (opf s18 x0 5 12 (.int 3)) fun s25 =>
          oj_X3_start_210 n call κ x1 s25
        else
          oj_X3_start_210 n call κ x1 s18
      else
        oj_X3_start_210 n call κ x1 s18
    else
    if v8 = 207 then
      obn (ovr (ofd σ x1 7 14)) fun v28 =>
      obn (oob σ x0 5) fun a30 =>
      oin (call 87 [va_rf x0, va_rf v28] σ) fun r34 s32 =>
      if r34 = 0 then
        obn (ovr (ofd s32 x1 7 13)) fun v36 =>
        some (some (va_rf v36), s32)
      else
        obn (ovr (ofd s32 x1 7 12)) fun v38 =>
        some (some (va_rf v38), s32)
    else
    if v8 = 212 then
      obn (ovi (ofd σ x0 5 10)) fun v41 =>
      obn (oob σ x0 5) fun a43 =>
      ocv (call 81 [va_rf x0, va_rf x1, .int v41, .int 0] σ) fun s45 =>
      obn (ovr (ofd s45 x1 7 12)) fun v48 =>
      some (some (va_rf v48), s45)
    else
    if v8 = 214 then
      obn (oob σ x0 5) fun a51 =>
      orn (call 90 [va_rf x0, va_rf x1] σ) fun r55 s53 =>
      some (some (va_rf r55), s53)
    else
    if v8 = 219 then
      obn (ovi (ofd σ x0 5 10)) fun v57 =>
      obn (oob σ x0 5) fun a59 =>
      oin (call 79 [va_rf x0, .long 0, .int v57] σ) fun r63 s61 =>
      obn (opf s61 x0 5 10 (.int r63)) fun s64 =>
      obn (ovi (ofd s64 x1 7 7)) fun v66 =>
      obn (ovi (ofd s64 x0 5 10)) fun v68 =>
      obn (oob s64 x0 5) fun a70 =>
      oin (call 82 [va_rf x0, .long v66.toInt64, .long v68.toInt64, .long 0] s64) fun r74 s72 =>
      obn (ovr (ofd s72 x0 5 4)) fun v75 =>
      obn (ovi (ofd s72 x0 5 10)) fun v77 =>
      obn (osj s72 v75 v77 r74.toInt64) fun s79 =>
      obn (ovr (ofd s79 x1 7 13)) fun v81 =>
      some (some (va_rf v81), s79)
    else
    if v8 = 220 then
      obn (oob σ x0 5) fun a84 =>
      ocv (call 89 [va_rf x0, va_rf x1] σ) fun s86 =>
      obn (ovr (ofd s86 x1 7 12)) fun v89 =>
      some (some (va_rf v89), s86)
    else
    if v8 = 401 then
      obn (oob σ x0 5) fun a92 =>
      orn (call 93 [va_rf x0, va_rf x1] σ) fun r96 s94 =>
      some (some (va_rf r96), s94)
    else
    obn (oob σ x0 5) fun a97 =>
    oln' (call 98 [va_rf x0, va_rf x1] σ) fun r101 s99 =>
    obn (opf s99 x0 5 15 (.long r101)) fun s102 =>
    some (some (va_rf none), s102)
section HYA
variable {κ : oKv} {T n cnt : Nat} {kk pp ee f fc : Nat → Int32} {tE tN : Nat → tY} {R : Nat → Int32} {L : List Nat} {y0 : tY} {B : Nat → Nat} {D : cDt} {V : oSt} {nm : Nat → Option Nat} {p : Nat} {σ0 : oSt} {nf ma ha0 wn ws wa : Nat} {fm0 : List Value} {hl0 : Nat} {σ σ' : oSt} {G G' : hG} {top ha hl top' ha' hl' : Nat} {hp hp' : Nat → Int64} {fm gm : List Value} {nu n' : Nat} {h h' : xmHp} {fr : List xmFr} {env : List Nat} {vs : List xmV}
/-- NAMES of a list -/
theorem hEv.aps {pa w q lo1 : Nat} (P : hPo T pp ee f fc tN L V nm p (hW wn ws wa) ma ha0 σ0) (hlo : p ≤ lo1) (E : hEv tN nm p σ0 env) (hu : ∀ x, x < q → w + x ∈ L) (c : cNl κ B D lo1 V nm pa w q env.length) : hEv tN nm p σ0 (env ++ List.range' w q) := by
  obtain ⟨d, cap, mc, g, -, -, -, c4⟩ := c
  have step : ∀ j, j ≤ q → hEv tN nm p σ0 (env ++ List.range' w j) := fun j => by
    induction j with
    | zero => intro _; rw [List.range'_zero, List.append_nil]; exact E
    | succ j ih =>
      intro hj
      obtain ⟨b, -, c5⟩ := c4 j (by omega)
      have I := ih (by omega)
      have e : env ++ List.range' w (j + 1) = (env ++ List.range' w j) ++ [w + j] := by
        rw [List.range'_concat, Nat.one_mul, List.append_assoc]
      rw [e]
      refine I.ap (B := B) (D := D) P hlo (hu j (by omega)) (b := b) ?_
      rw [List.length_append, List.length_range']
      exact c5
  exact step q (Nat.le_refl _)
theorem xmE.inL {t : tT} {y : tY} {u : Nat} (w : xmE cnt kk f pp ee tE tN R L t env y) (hu : u ∈ env) : u ∈ L := by
  obtain ⟨n, -, e⟩ := w.2.2.2.1 u hu
  exact List.mem_of_getElem? e
theorem cNl.sz {pa w q k lo1 : Nat} (c : cNl κ B D lo1 V nm pa w q k) : ∃ mc d, V.1 pa = some (.inr (1, [.int mc, .ref d, .int (nI q)])) := by
  obtain ⟨d, cap, mc, g, c1, -⟩ := c
  exact ⟨mc, d, c1.1⟩
theorem cNl.ge {pa w q k lo1 : Nat} (c : cNl κ B D lo1 V nm pa w q k) : lo1 ≤ pa := by
  obtain ⟨d, cap, mc, g, -, -, c3, -⟩ := c
  exact c3.1
/-- a let rec's number -/
theorem hNb.k2 {d : Nat × Nat × Nat × tS × tS} {z : Unit} {a b : tT} {m lo1 fk : Nat} {X : Nat → Nat → Prop} {y : tY} (P : hPo T pp ee f fc tN L V nm p (hW wn ws wa) ma ha0 σ0) (hlo : p ≤ lo1) (w : xmE cnt kk f pp ee tE tN R L (.inner 2 d z a b) env y) (E : hEv tN nm p σ0 env) (hw : hTw T f pp ee (.inner 2 d z a b)) (hf : fk + nF (.inner 2 d z a b) ≤ nf) (c : cTX κ T kk pp ee fc B D X lo1 V nm (.inner 2 d z a b) env fk (fun _ => none) 0 m) : hNb κ T kk pp ee f fc tN B D V nm p σ0 nf (.inner 2 d z a b) (env ++ [d.1 + 2]) fk ∧ hEv tN nm p σ0 (env ++ [d.1 + 2]) := by
  obtain ⟨-, c1, x, y', w', q, c2, c3, c4, c5, c6, c7⟩ := c
  obtain ⟨⟨r, -, E1⟩, E2, q1, q2⟩ := w.k2
  have e2 := E.ap P hlo (E2.inL (List.mem_append_right _ (List.mem_singleton_self _))) c4
  have c5' := c5
  rw [show env.length + 1 = (env ++ [d.1 + 2]).length by rw [List.length_append]; rfl] at c5'
  have e3 := e2.aps P hlo (fun x hx => E1.inL (List.mem_append_right _ (List.mem_range'.mpr ⟨x, hx, by omega⟩))) c5'
  have en : nF (.inner 2 d z a b) = 1 + nF a + nF b := rfl
  obtain ⟨mc, dd, e5⟩ := c5.sz
  have l1 := c1.1
  have l2 := c5.ge
  refine ⟨⟨by omega, m, _, q, x, mc, dd, c3, ⟨by omega, by omega⟩, c2, rfl, rfl, rfl, e5, ⟨⟨X, lo1, fk + 1, ⟨hlo, by show fk + 1 + nF a ≤ nf; omega⟩, ?_⟩, ?_, hw.2.1⟩⟩, e2⟩
  · show cTX κ T kk pp ee fc B D X lo1 V nm a (env ++ [d.1 + 2] ++ List.range' (d.1 + 3) d.2.1) _ _ _ _
    rw [List.append_assoc]
    exact c6
  · exact e3
/-- a fun's -/
theorem hNb.k3 {d : Nat × Nat × Nat × tS × tS} {z : Unit} {a b : tT} {m lo1 fk : Nat} {X : Nat → Nat → Prop} {y : tY} (P : hPo T pp ee f fc tN L V nm p (hW wn ws wa) ma ha0 σ0) (hlo : p ≤ lo1) (w : xmE cnt kk f pp ee tE tN R L (.inner 3 d z a b) env y) (E : hEv tN nm p σ0 env) (hw : hTw T f pp ee (.inner 3 d z a b)) (hf : fk + nF (.inner 3 d z a b) ≤ nf) (c : cTX κ T kk pp ee fc B D X lo1 V nm (.inner 3 d z a b) env fk (fun _ => none) 0 m) : hNb κ T kk pp ee f fc tN B D V nm p σ0 nf (.inner 3 d z a b) env fk ∧ ∃ fs, p ≤ m ∧ V.1 m = some (.inr (7, fs)) ∧ fs[0]? = some (.int 206) ∧ fs[7]? = some (.int (nI fk)) := by
  obtain ⟨-, c1, x, q, mk, c2, c3, c4, c5⟩ := c
  obtain ⟨-, r, -, E1⟩ := w.k3
  have l1 := c1.1
  have l2 := c4.ge
  have e3 := E.aps P (show p ≤ m + 1 by omega) (fun x hx => E1.inL (List.mem_append_right _ (by
    have : x = 0 := by omega
    subst this
    exact List.mem_singleton_self _))) c4
  have en : nF (.inner 3 d z a b) = 1 + nF a + nF b := rfl
  obtain ⟨mc, dd, e5⟩ := c4.sz
  exact ⟨⟨by omega, m, _, q, x, mc, dd, c3, ⟨by omega, by omega⟩, c2, rfl, rfl, rfl, e5, ⟨⟨X, m + 1, fk + 1, ⟨by omega, by show fk + 1 + nF a ≤ nf; omega⟩, c5⟩, e3, hw.2.1⟩⟩, _, by omega, c2, rfl, rfl⟩
/-- one frame more -/
theorem hXa.aw {F : xmFr} {WN : Nat → Option Nat} {WS WA : Nat → Int32} (P : hPo T pp ee f fc tN L V nm p (hW wn ws wa) ma ha0 σ0) (I : hXa κ T kk pp ee f fc tN B D V nm p σ0 nf ma ha0 wn ws wa fm0 hl0 σ G top ha hl hp fm nu h fr) (M' : hMa ma gm ha hl hp top σ') (fx : hFx [9, 10, 13] fm gm) (h9 : gm[9]? = some (.int (nI (fr.length + 1)))) (h13 : gm[13]? = some (.int (nI (xmDp (F :: fr))))) (Wt : hWt ma gm wn ws wa WN WS WA σ') (hF : hFk κ T kk pp ee f fc tN B D V nm p σ0 nf G (hAr G.2.1 h.2.1) top hp WN WS WA (F :: fr)) (hc : ∀ x, x ≠ ma → x ≠ wn → x ≠ ws → x ≠ wa → σ'.1 x = σ.1 x) (h2 : σ'.2 = σ.2) : hXa κ T kk pp ee f fc tN B D V nm p σ0 nf ma ha0 wn ws wa fm0 hl0 σ' G top ha hl hp gm nu h (F :: fr) := by
  have l := I.ml P.2.2.2.1.2.2.2
  obtain ⟨⟨M, H⟩, ⟨⟨k1, k2, k3, k4, k5, k6⟩, C⟩, ⟨WN0, WS0, WA0, Wt0, -⟩, Fx, f9, f11, f12, f13, f14⟩ := I
  have hlt : ∀ x, hW wn ws wa x → x < σ.2.1 := fun x hx => by
    obtain ⟨-, ⟨c1, c2, c3⟩, -⟩ := Wt0
    refine Nat.lt_of_not_le (fun w => ?_)
    have z := k2 x w
    rcases hx with e | e | e
    · rw [e, c1] at z; cases z
    · rw [e, c2] at z; cases z
    · rw [e, c3] at z; cases z
  refine ⟨⟨M', H⟩, ⟨⟨fun x hx q1 q2 q3 => ?_, fun q hq => ?_, by rw [h2]; exact k3, k4, by rw [h2]; exact k5, k6⟩, ?_⟩, ⟨WN, WS, WA, Wt, hF⟩, fun q hq => (fx q (fun w => hq ?_)).trans (Fx q hq), h9, (fx 11 (by decide)).trans f11, (fx 12 (by decide)).trans f12, h13, (fx 14 (by decide)).trans f14⟩
  · rw [hc x q1 (fun w => q3 (Or.inl w)) (fun w => q3 (Or.inr (Or.inl w))) (fun w => q3 (Or.inr (Or.inr w)))]
    exact k1 x hx q1 q2 q3
  · rw [h2] at hq
    have n1 := hlt wn (Or.inl rfl)
    have n2 := hlt ws (Or.inr (Or.inl rfl))
    have n3 := hlt wa (Or.inr (Or.inr rfl))
    rw [hc q (by omega) (by omega) (by omega) (by omega)]
    exact k2 q hq
  · unfold hCo at C ⊢
    rw [h2]
    exact C
  · revert w
    simp only [List.mem_cons, List.not_mem_nil, or_false]
    omega
/-- a value of plain(), or an end -/
def hPl (κ : oKv) (T : Nat) (kk pp ee f fc : Nat → Int32) (tN : Nat → tY) (B : Nat → Nat) (D : cDt) (V : oSt) (nm : Nat → Option Nat) (p : Nat) (σ0 : oSt) (nf ma ha0 wn ws wa : Nat) (fm0 : List Value) (hl0 : Nat) (Kb n : Nat) (fr : List xmFr) (r : oRs) (res : (Nat × Nat) ⊕ xmM) : Prop := match res with
  | .inl e => ∃ y σ', r = some (some (.long y), σ') ∧ hEd σ0 ma ha0 wn ws wa fm0 hl0 e σ'
  | .inr m => ∃ v y σ' G top ha hl hp fm, m = (m.1, fr, n, .inr v) ∧ r = some (some (.long y), σ') ∧ hXa κ T kk pp ee f fc tN B D V nm p σ0 nf ma ha0 wn ws wa fm0 hl0 σ' G top ha hl hp fm n m.1 fr ∧ hV G v y ∧ top + 16 * n + hPt fr + hVt m.1 v ≤ Kb + xmTot m.1
/-- the result is put by -/
theorem hPl.ot {N e Kb : Nat} {kc : Int32} {res : (Nat × Nat) ⊕ xmM} (hml : ma < σ0.2.1) (hm : σ.1 ma = some (.inr (5, fm))) (hk : kc ∉ [40, 201, 207, 212, 214, 219, 220, 401]) (h : hPl κ T kk pp ee f fc tN B D V nm p σ0 nf ma ha0 wn ws wa fm0 hl0 Kb nu fr (oF κ T N 98 [va_rf (some ma), va_rf (some e)] σ) res) : hOt κ T kk pp ee f fc tN B D V nm p σ0 nf ma ha0 wn ws wa fm0 hl0 Kb (hSx T (oF κ T N) κ (some ma) (some e) kc σ) res := by
  have nk : ¬ kc = 40 ∧ ¬ kc = 201 ∧ ¬ kc = 207 ∧ ¬ kc = 212 ∧ ¬ kc = 214 ∧ ¬ kc = 219 ∧ ¬ kc = 220 ∧ ¬ kc = 401 := by
    refine ⟨fun w => hk ?_, fun w => hk ?_, fun w => hk ?_, fun w => hk ?_, fun w => hk ?_, fun w => hk ?_, fun w => hk ?_, fun w => hk ?_⟩ <;> (rw [w]; decide)
  obtain ⟨n1, n2, n3, n4, n5, n6, n7, n8⟩ := nk
  unfold hSx
  rw [if_neg n1, if_neg n2, if_neg n3, if_neg n4, if_neg n5, if_neg n6, if_neg n7, if_neg n8, oob_at hm, obn_at]
  cases res with
  | inl e =>
    obtain ⟨y, σ', r, Ed⟩ := h
    obtain ⟨ha, hl, hp, top, fm', ⟨M, ht⟩, K, TO⟩ := Ed.to
    rw [r]
    unfold oln'
    simp only
    rw [opf_at M.1.1 (by rw [M.1.2]; decide), obn_at]
    refine ⟨none, _, rfl, TO _ ha hl hp top _ (M.pt K.2.2.2.2.2 (by rw [List.length_set]; exact M.1.2) (List.getElem?_set_ne (by decide)) (List.getElem?_set_ne (by decide))) ht ((hKe.rf (W := fun _ => False) K.2.1 K.2.2.2.2.1 K.2.2.2.2.2).pt (x := ma) (Or.inl rfl) (by have := K.2.2.1; omega)) (hCo.rf _ _) ((hFx.rf _ _).st (by decide))⟩
  | inr m =>
    obtain ⟨v, y, σ', G, top, ha, hl, hp, fm', em, r, I, hv, hb⟩ := h
    have M := I.1.1
    rw [em]
    rw [r]
    unfold oln'
    simp only
    rw [opf_at M.1.1 (by rw [M.1.2]; decide), obn_at]
    refine ⟨none, _, rfl, G, top, ha, hl, hp, _, I.pt hml (by rw [List.length_set]; exact M.1.2) ((hFx.rf _ _).st (by decide)) (by rw [List.getElem?_set_ne (by decide)]; exact I.2.2.2.2.2.1), hb, rfl, y, ?_, hv⟩
    rw [List.getElem?_set_self (by rw [M.1.2]; decide)]
end HYA
