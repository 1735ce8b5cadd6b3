/-! run(), the class: call(), its ARGS -/
section HZE
variable {κ : oKv} {T n cnt : Nat} {kk pp ee f fc : Nat → Int32} {tE tN : Nat → tY} {R : Nat → Int32} {L : List Nat} {y0 : tY} {B : Nat → Nat} {D : cDt} {V : oSt} {nm : Nat → Option Nat} {p : Nat} {σ0 : oSt} {nf ma ha0 wn ws wa : Nat} {fm0 : List Value} {hl0 : Nat} {σ σ' : oSt} {G G' : hG} {top ha hl top' ha' hl' : Nat} {hp hp' : Nat → Int64} {fm gm : List Value} {nu n' : Nat} {h h' : xmHp} {fr : List xmFr} {env : List Nat} {vs : List xmV} {Kb N sc e pg lk lo1 fk : Nat} {l : List xmV} {f0 la q pa : Nat} {g' : Nat → Option Nat} {fs : List Value} {y : tY} {X : Nat → Nat → Prop}
/-- how ARGS come out -/
def hCr (κ : oKv) (T : Nat) (kk pp ee f fc : Nat → Int32) (tN : Nat → tY) (B : Nat → Nat) (D : cDt) (V : oSt) (nm : Nat → Option Nat) (p : Nat) (σ0 : oSt) (nf ma ha0 wn ws wa : Nat) (fm0 : List Value) (hl0 : Nat) (N e Bq : Nat) (G : hG) (fr : List xmFr) (vs : List xmV) (sc : Nat) (l : List xmV) (r : oRs) (res : (Nat × Nat) ⊕ (xmHp × Nat × List xmV)) : Prop := match res with
  | .inl c => ∃ σ', r = some (some (va_rf none), σ') ∧ hEd σ0 ma ha0 wn ws wa fm0 hl0 c σ'
  | .inr m => ∃ σ' G' top' ha' hl' hp' fm' f1 la' lk', r = oj_X3_call_79 T (oF κ T (N + 5)) κ (some ma) (some e) (nI f1) σ' ∧ hLi κ T kk pp ee f fc tN B D V nm p σ0 nf ma ha0 wn ws wa fm0 hl0 σ' G' top' ha' hl' hp' fm' m.2.1 m.1 fr vs sc lk' ∧ hCe G' (hAr G'.2.1 m.1.2.1) top' hp' (l ++ m.2.2) f1 la' lk' ∧ hGe G G' ∧ top' + 16 * m.2.1 ≤ Bq
set_option maxHeartbeats 2000000 in
/-- **ARGS** -/
theorem h_ca7 {Bq : Nat} (P : hPo T pp ee f fc tN L V nm p (hW wn ws wa) ma ha0 σ0) (hT : 9010 ≤ T) (hlo : p ≤ lo1) (pe : p ≤ e) (c1 : V.1 e = some (.inr (7, fs))) (c18 : fs[18]? = some (.ref pa)) (cl : cLn κ B D lo1 V pa q g') (hq : q ≤ 4) (E : hEv tN nm p σ0 env) (hBq : Bq ≤ 334000) : ∀ (a : tT) (h : xmHp) (nu : Nat) (y : tY) (σ : oSt) (G : hG) (top ha hl : Nat) (hp : Nat → Int64) (fm : List Value) (l : List xmV) (f0 la lk k F' fk : Nat), xmEa cnt kk f pp ee tE tN R L a env y → tH a ≤ 30 → xmH cnt kk f pp ee tE tN R L h → (h.1.length + nu ≤ 60000 ∧ h.2.1.length ≤ 20006 ∧ h.2.2.length ≤ 20000 ∧ nu ≤ 20000) → xmEn tE tN h env vs → env.length ≤ 12 → cTX κ T kk pp ee fc B D X lo1 V nm a env fk g' k q → fk + nF a ≤ nf → hTw T f pp ee a → hLi κ T kk pp ee f fc tN B D V nm p σ0 nf ma ha0 wn ws wa fm0 hl0 σ G top ha hl hp fm nu h fr vs sc lk → hCe G (hAr G.2.1 h.2.1) top hp l f0 la lk → k + tQn a = q → top + 2 * tQn a + 16 * nu ≤ Bq → tQn a < F' → hCr κ T kk pp ee f fc tN B D V nm p σ0 nf ma ha0 wn ws wa fm0 hl0 N e Bq G fr vs sc l (ol_X3_call_7 T (oF κ T (N + 5)) κ F' (some ma) (some e) (nI f0) (nI la) (nI k) σ) (xmAg T f pp ee env vs a h nu)
  | .leaf, h, nu, y, σ, G, top, ha, hl, hp, fm, l, f0, la, lk, k, F', fk, w, hh, H, hz, En, h12, c, hf, hw, I, Ce, hkq, hb, hF => by
    obtain ⟨F', rfl⟩ : ∃ s, F' = s + 1 := ⟨F' - 1, by omega⟩
    obtain ⟨gs, xo, n1, F, e18, o1, LS⟩ := P.ca I.1.2.1 hlo pe c1 c18 cl hq
    have hkq : k + 0 = q := hkq
    have c : k = q := c
    rw [ol_X3_call_7, e18, obn_at, o1, obn_at, l_size LS, oin_at, if_pos (by rw [c]; exact Int32.le_refl _)]
    unfold xmAg
    exact ⟨σ, G, top, ha, hl, hp, fm, f0, la, lk, rfl, I, by rw [List.append_nil]; exact Ce, hGe.rf G, by show top + 16 * nu ≤ Bq; omega⟩
  | .inner g d z a b, h, nu, y, σ, G, top, ha, hl, hp, fm, l, f0, la, lk, k, F', fk, w, hh, H, hz, En, h12, c, hf, hw, I, Ce, hkq, hb, hF => by
    obtain ⟨⟨gk, rw'⟩, ⟨wf, pP⟩, ⟨n1, n2, n3⟩, n4, n5⟩ := id w
    have hkq' : k + (tQn b + 1) = q := hkq
    have hb' : top + 2 * (tQn b + 1) + 16 * nu ≤ Bq := hb
    have hF' : tQn b + 1 < F' := hF
    obtain ⟨F', rfl⟩ : ∃ s, F' = s + 1 := ⟨F' - 1, by omega⟩
    obtain ⟨F', rfl⟩ : ∃ s, F' = s + 1 := ⟨F' - 1, by omega⟩
    obtain ⟨IX, hsc, hs⟩ := I.xa
    have M := IX.1.1
    have HH := IX.1.2
    have K := IX.2.1.1
    have ev := En.1
    have hml := P.2.2.2.1.2.2.2
    have ml := IX.ml hml
    have hne := K.2.2.2.2.2
    have f12 := IX.2.2.2.2.2.2.1
    obtain ⟨gs, xo, m1, F, e18, o1, LS⟩ := P.ca K hlo pe c1 c18 cl hq
    have e12 : ovi (ofd σ (some ma) 5 12) = some 0 := by rw [ofd_at M.1.1, f12]; rfl
    have nle : ¬ nI q ≤ nI k := nI_ge (by omega) (by omega)
    -- up to argument()
    have PRE : ∀ {x : Nat} {fx : List Value}, g' k = some x → σ.1 x = some (.inr (7, fx)) → ol_X3_call_7 T (oF κ T (N + 5)) κ (F' + 1 + 1) (some ma) (some e) (nI f0) (nI la) (nI k) σ = oln' (oF κ T (N + 5) 91 [va_rf (some ma), va_rf (some x)] σ) fun r24 s22 => obn (oob s22 (some ma) 5) fun _ => oin (oF κ T (N + 5) 79 [va_rf (some ma), .long r24, .int 0] s22) fun r29 s27 => if nI la = 0 then oj_X3_call_70 T (oF κ T (N + 5)) κ (ol_X3_call_7 T (oF κ T (N + 5)) κ (F' + 1)) (some ma) (some e) r29 (nI k) r29 s27 else obn (ovr (ofd s27 (some ma) 5 4)) fun v31 => obn (osj s27 v31 (nI la + 1) r29.toInt64) fun s33 => oj_X3_call_70 T (oF κ T (N + 5)) κ (ol_X3_call_7 T (oF κ T (N + 5)) κ (F' + 1)) (some ma) (some e) (nI f0) (nI k) r29 s33 := fun {x fx} gx hx => by
      have G1 := l_get (κ := κ) (T := T) (n := N + 2) LS (show k < q by omega)
      rw [gx] at G1
      have oc : ocs σ (some x) 7 = true := by simp only [ocs, hx]; rfl
      rw [ol_X3_call_7, e18, obn_at, o1, obn_at, l_size LS, oin_at, if_neg nle, e12, obn_at, if_pos rfl, e18, obn_at, o1, obn_at, G1, orn_at, ogd_at oc, oob_at M.1.1, obn_at]
    -- what goes on behind one ARG
    have GO : ∀ (v : xmV) (x : Int64) (h1 : xmHp) (n1 : Nat) (σ1 : oSt) (G1 : hG) (top1 ha1 hl1 : Nat) (hp1 : Nat → Int64) (fm1 : List Value) (yb : tY) (fk1 : Nat), xmEa cnt kk f pp ee tE tN R L b env yb → tH b ≤ 30 → xmH cnt kk f pp ee tE tN R L h1 → (h1.1.length + n1 ≤ 60000 ∧ h1.2 = h.2 ∧ n1 ≤ 20000) → xmEn tE tN h1 env vs → cTX κ T kk pp ee fc B D X lo1 V nm b env fk1 g' (k + 1) q → fk1 + nF b ≤ nf → hLi κ T kk pp ee f fc tN B D V nm p σ0 nf ma ha0 wn ws wa fm0 hl0 σ1 G1 top1 ha1 hl1 hp1 fm1 n1 h1 fr vs sc lk → hCe G1 (hAr G1.2.1 h1.2.1) top1 hp1 l f0 la lk → hV G1 v x → hGe G G1 → top1 + 2 * (tQn b + 1) + 16 * n1 ≤ Bq → hCr κ T kk pp ee f fc tN B D V nm p σ0 nf ma ha0 wn ws wa fm0 hl0 N e Bq G fr vs sc l (obn (oob σ1 (some ma) 5) fun _ => oin (oF κ T (N + 5) 79 [va_rf (some ma), .long x, .int 0] σ1) fun r29 s27 => if nI la = 0 then oj_X3_call_70 T (oF κ T (N + 5)) κ (ol_X3_call_7 T (oF κ T (N + 5)) κ (F' + 1)) (some ma) (some e) r29 (nI k) r29 s27 else obn (ovr (ofd s27 (some ma) 5 4)) fun v31 => obn (osj s27 v31 (nI la + 1) r29.toInt64) fun s33 => oj_X3_call_70 T (oF κ T (N + 5)) κ (ol_X3_call_7 T (oF κ T (N + 5)) κ (F' + 1)) (some ma) (some e) (nI f0) (nI k) r29 s33) (match xmAg T f pp ee env vs b h1 n1 with | .inl c => .inl c | .inr r => .inr (r.1, r.2.1, v :: r.2.2)) := fun v x h1 n1 σ1 G1 top1 ha1 hl1 hp1 fm1 yb fk1 wB hB H1 hz1 En1 cb hf1 I1 Ce1 hv1 g1 hb1 => by
      have M1 := I1.1.1
      obtain ⟨σ2, σ3, ha2, ha3, hl3, hp3, gm3, Q1, Q2, Q3, Q4, Q5, Q6⟩ := hLi.ps (N := N + 2) (v := v) (x := x) hml I1 Ce1 hv1 (by omega)
      have t31 := M1.2.2.2
      have LOOP : ∀ (x2 : Int32), x2 = nI (if l = [] then top1 else f0) → hCr κ T kk pp ee f fc tN B D V nm p σ0 nf ma ha0 wn ws wa fm0 hl0 N e Bq G fr vs sc l (oj_X3_call_70 T (oF κ T (N + 5)) κ (ol_X3_call_7 T (oF κ T (N + 5)) κ (F' + 1)) (some ma) (some e) x2 (nI k) (nI top1) σ3) (match xmAg T f pp ee env vs b h1 n1 with | .inl c => .inl c | .inr r => .inr (r.1, r.2.1, v :: r.2.2)) := fun x2 e2 => by
        have IH := h_ca7 P hT hlo pe c1 c18 cl hq E hBq b h1 n1 yb σ3 G1 (top1 + 2) ha3 hl3 hp3 gm3 (l ++ [v]) (if l = [] then top1 else f0) top1 (top1 + 1) (k + 1) (F' + 1) fk1 wB hB H1 ⟨hz1.1, by rw [hz1.2.1]; exact hz.2.1, by rw [hz1.2.1]; exact hz.2.2.1, hz1.2.2⟩ En1 h12 cb hf1 hw.2.2 Q5 Q6 (by omega) (by omega) (by omega)
        unfold oj_X3_call_70
        rw [e2, nI_p1]
        cases r : xmAg T f pp ee env vs b h1 n1 with
        | inl c =>
          rw [r] at IH
          exact IH
        | inr m =>
          rw [r] at IH
          obtain ⟨σ', G', top', ha', hl', hp', fm', f1, la', lk', i1, i2, i3, i4, i5⟩ := IH
          rw [List.append_assoc] at i3
          exact ⟨σ', G', top', ha', hl', hp', fm', f1, la', lk', i1, i2, i3, g1.tr i4, i5⟩
      rw [oob_at M1.1.1, obn_at, Q1, oin_at]
      rcases Ce1 with ⟨e1, e2, e3, -⟩ | ⟨e1, e2, e3, e4, -⟩
      · rw [if_pos (by rw [e3]; rfl), ← Q2 e3]
        exact LOOP _ (by rw [if_pos e1])
      · have n0 : ¬ nI la = (0 : Int32) := fun w => by have := nI_inj' (b := 0) (by omega) (by omega) w; omega
        have Q4' : osj σ2 (some ha2) (nI la + 1) (nI top1).toInt64 = some σ3 := Q4 (by omega)
        rw [if_neg n0, Q3, obn_at, Q4', obn_at]
        exact LOOP _ (by rw [if_neg e1])
    rcases id wf with ⟨cc, -⟩ | ⟨-, c0', wb, cc⟩ | ⟨cc, -⟩
    · cases cc
    · rcases cc with ⟨cc, c1', c2'⟩ | ⟨cc, c1', wa⟩ | ⟨cc, c1', c2', c3'⟩
      · -- an S
        subst cc c2'
        obtain ⟨x, su, gx, cS, cb⟩ := c
        unfold gOk at gk
        unfold rWo at rw'
        unfold tW at n2 n3
        unfold rEv at n5
        simp only [reduceIte, Nat.reduceEqDiff, or_false, or_self, false_or, false_and, true_and, or_true] at gk rw' n2 n3 n5
        obtain ⟨g1, ⟨g2, g3⟩, gb⟩ := gk
        obtain ⟨rw1, -, -, rwb⟩ := rw'
        have wB : xmEa cnt kk f pp ee tE tN R L b env (yR y) := ⟨⟨gb, rwb⟩, ⟨wb, pP.b⟩, ⟨n1, (List.nodup_append.mp n2).2.1, fun u hu => n3 u (List.mem_append_right _ hu)⟩, n4, n5.2.2⟩
        have hB : tH b ≤ 30 := by
          have q : tH (.inner 33 d z .leaf b) = max 0 (tH b) := rfl
          omega
        have en : nF (.inner 33 d z .leaf b) = 0 + 0 + nF b := rfl
        have al := pP.2.2.2.2.2.1.1 (Or.inr rfl)
        obtain ⟨pa', na, ta, cap, pc, k1, -, -, k4, -⟩ := id cS
        obtain ⟨hs', x1, F2⟩ := P.nd K (show p ≤ x by have := k4.1; omega) k1
        have h0 : hs'[0]? = some (.int 400) := by rw [F2 0 (by decide) (by decide)]; rfl
        have h6 : hs'[6]? = some (.int (if d.2.1 = 1 then 0 else tAl kk d.2.2.2.1)) := by rw [F2 6 (by decide) (by decide)]; rfl
        have h9 : hs'[9]? = some (sLn (nR fc pp ee nm env) d.2.2.2.1.2) := by rw [F2 9 (by decide) (by decide)]; rfl
        have h2 : hs'[2]? = some (.int (nI vs.length)) := by rw [F2 2 (by decide) (by decide), ev]; rfl
        rw [PRE gx x1]
        unfold xmAg
        simp only [reduceIte, Nat.reduceEqDiff]
        by_cases ci : isN d.2.2.2.1.2 = true
        · simp only [if_pos ci]
          have hh' := ci
          unfold isN at hh'
          rw [decide_eq_true_iff] at hh'
          obtain ⟨i1, i2, i3⟩ := hh'
          obtain ⟨qq, eq⟩ : ∃ q, d.2.2.2.1.2 = [q] := List.length_eq_one_iff.mp i1
          rw [eq] at i2 i3
          have i2 : qq.1 = 1 := i2
          have i3 : qq.2.1 = false := i3
          have hd : (d.2.2.2.1.2.headD (0, false, 0)).2.2 = qq.2.2 := by rw [eq]; rfl
          have hu : rUs f pp ee R L env qq.2.2 := rw1 _ (by rw [eq]; exact xsEv (List.mem_singleton_self _) (by omega))
          rw [hd]
          by_cases cd : d.2.1 = 1
          · -- in brackets: a sum
            have S1 := P.sq K E En H (by omega) hlo cS rw1 (g3 (Or.inl cd)) pP.2.2.2.2.1.1 pP.2.2.1.1.1.2 hw.1.1
            have ty := (En.get hu).2.2
            rw [g3 (Or.inl cd) qq (by rw [eq]; exact List.mem_singleton_self _) (by omega), i2] at ty
            have hv : (xmGet f pp ee env vs qq.2.2).1 = 0 ∧ xmB (xmGet f pp ee env vs qq.2.2).2 = true := by
              rcases ty with ⟨-, q1, q2⟩ | ⟨q1, -⟩ | ⟨q1, -⟩ | ⟨q1, -⟩ | ⟨q1, -⟩
              · exact ⟨q1, q2⟩
              all_goals exact absurd q1 (by decide)
            have es : xmSm T f pp ee h env vs d.2.2.2.1.2 = (xmGet f pp ee env vs qq.2.2).2 := by
              rw [eq]
              show (0 : Int64) + (sg qq.2.1).toInt64 * xmPt T f pp ee h env vs qq = _
              rw [i3]
              unfold xmPt
              rw [if_neg (by omega), if_pos i2, Int64.zero_add]
              show (1 : Int64) * _ = _
              rw [Int64.one_mul]
            have A1 := h_argS (κ := κ) (T := T) (n := N + 2) M HH hsc f12 hs x1 h0 h6 (by rw [if_pos cd]; decide) S1 (by omega) (by omega) (by omega)
            rw [es, hSe_ok hv.2] at A1
            rw [A1, oln_lg]
            exact GO _ _ h nu σ G top ha hl hp fm (yR y) fk wB hB H ⟨hz.1, rfl, hz.2.2.2⟩ En cb (by omega) I Ce (Or.inl ⟨by omega, rfl⟩) (hGe.rf G) hb'
          · obtain ⟨b', b1, b2⟩ := P.us K E En hu
            have h9' : hs'[9]? = some (.ref b') := by
              rw [h9, eq]
              have e1 : sNm [qq] = [qq] := by
                unfold sNm
                rw [List.filter_cons, if_pos (decide_eq_true (by omega))]
                rfl
              unfold sLn
              rw [e1]
              show some (va_rf (nR fc pp ee nm env qq.2.2)) = _
              rw [b1]
              rfl
            rw [if_neg cd, al.mpr ci] at h6
            obtain ⟨xv, A1, A2⟩ := h_argN (κ := κ) (T := T) (n := N + 3) M hsc hs x1 h0 h6 h9' h2 b2 (by omega) (by omega)
            rw [A1, oln_lg]
            exact GO _ _ h nu σ G top ha hl hp fm (yR y) fk wB hB H ⟨hz.1, rfl, hz.2.2.2⟩ En cb (by omega) I Ce A2 (hGe.rf G) hb'
        · simp only [if_neg ci]
          have S1 := P.sq K E En H (by omega) hlo cS rw1 (g3 (Or.inr (by revert ci; cases isN d.2.2.2.1.2 <;> simp))) pP.2.2.2.2.1.1 pP.2.2.1.1.1.2 hw.1.1
          have na1 : (if d.2.1 = 1 then (0 : Int32) else tAl kk d.2.2.2.1) ≠ 1 := by
            split
            · decide
            · exact fun w' => ci (al.mp w')
          have A1 := h_argS (κ := κ) (T := T) (n := N + 2) M HH hsc f12 hs x1 h0 h6 na1 S1 (by omega) (by omega) (by omega)
          by_cases cb' : xmB (xmSm T f pp ee h env vs d.2.2.2.1.2) = true
          · simp only [if_pos cb']
            rw [hSe_ok cb'] at A1
            rw [A1, oln_lg]
            exact GO (0, xmSm T f pp ee h env vs d.2.2.2.1.2) _ h nu σ G top ha hl hp fm (yR y) fk wB hB H ⟨hz.1, rfl, hz.2.2.2⟩ En cb (by omega) I Ce (Or.inl ⟨Nat.zero_le _, rfl⟩) (hGe.rf G) hb'
          · simp only [if_neg cb']
            rw [hSe_no cb'] at A1
            rw [A1, oln_lg]
            exact h_caE (N := N + 1) (u := 2) P hlo pe c1 c18 cl hq (by omega) I Ce (by omega) (by omega)
      · -- a fun
        subst cc
        obtain ⟨d', z', a', b', ea⟩ := pP.1.1 rfl
        subst ea
        obtain ⟨x, fx, gx, -, ca, cb⟩ := c
        unfold gOk at gk
        unfold rWo at rw'
        unfold tW at n2 n3
        unfold rEv at n5
        simp only [reduceIte, Nat.reduceEqDiff, or_false, or_self, false_or, false_and, true_and, or_true] at gk rw' n2 n3 n5
        obtain ⟨g1, ga, gb⟩ := gk
        obtain ⟨-, -, rwa, rwb⟩ := rw'
        obtain ⟨m1', m2', m3'⟩ := List.nodup_append.mp n2
        have hh' : max (tH (.inner 3 d' z' a' b')) (tH b) ≤ 30 := hh
        have ha' : tH a' ≤ 31 := by
          have q : tH (.inner 3 d' z' a' b') = max (tH a') (tH b') + 1 := rfl
          omega
        have wA : xmE cnt kk f pp ee tE tN R L (.inner 3 d' z' a' b') env (yL y) := ⟨⟨ga, rwa⟩, ⟨wa, pP.a (by decide)⟩, ⟨n1, m1', fun u hu => n3 u (List.mem_append_left _ hu)⟩, n4, n5.2.1⟩
        have wB : xmEa cnt kk f pp ee tE tN R L b env (yR y) := ⟨⟨gb, rwb⟩, ⟨wb, pP.b⟩, ⟨n1, m2', fun u hu => n3 u (List.mem_append_right _ hu)⟩, n4, n5.2.2⟩
        obtain ⟨Fo, ft, fk'⟩ := xmFo.of3 wA ha' En
        have le := xmLe.nf h (.inner 3 d' z' a' b', env, vs, [])
        have en : nF (.inner 34 d z (.inner 3 d' z' a' b') b) = 0 + nF (.inner 3 d' z' a' b') + nF b := rfl
        obtain ⟨nbx, fx', c0, k1, k2, k3⟩ := hNb.k3 P hlo wA E hw.2.1 (show fk + nF (.inner 3 d' z' a' b') ≤ nf by omega) ca
        obtain ⟨hs', x1, F2⟩ := P.nd K c0 k1
        have h0 : hs'[0]? = some (.int 206) := by rw [F2 0 (by decide) (by decide)]; exact k2
        have h7 : hs'[7]? = some (.int (nI fk)) := by rw [F2 7 (by decide) (by decide)]; exact k3
        have f11 := IX.2.2.2.2.2.1
        rw [PRE gx x1]
        unfold xmAg
        simp only [reduceIte, Nat.reduceEqDiff]
        cases nu with
        | zero =>
          rw [h_argF0 M x1 h0 f11, oln_lg]
          exact h_caE (N := N + 1) (u := 1) P hlo pe c1 c18 cl hq (by omega) I Ce (by omega) (by omega)
        | succ nu =>
          obtain ⟨σ1, ha1, hl1, hp1, gm1, A1, A2, A3, A4, ⟨A5, A6, A7, A8⟩, A9, A10⟩ := h_argF (κ := κ) (T := T) (n := N + 1) M hsc x1 h0 h7 f11 (by omega) (by omega) hne.symm ml K.2.2.2.2.1 K.2.1 (fun _ => False)
          have ln : (xmNf h (.inner 3 d' z' a' b', env, vs, [])).1.length = h.1.length + 1 := by
            show (h.1 ++ [_]).length = _
            rw [List.length_append]; rfl
          have g : hGe G (G.1 ++ [top], G.2) := ⟨⟨[_], rfl⟩, ⟨[], by rw [List.append_nil]⟩, ⟨[], by rw [List.append_nil]⟩⟩
          have t4 := M.2.2.2.1
          have lkt : lk < top := by
            rcases Ce with ⟨-, -, -, e⟩ | ⟨-, -, -, e, -⟩
            · omega
            · exact e
          have I1 := I.gr (n' := nu) (h' := xmNf h (.inner 3 d' z' a' b', env, vs, [])) (lk' := lk) A2 A9 A10 g (by omega) (fun i h1 h2 h3 => ⟨A5 i h2, h3⟩) rfl rfl (fun hp2 ag H2 S2 => H2.fn (fn := (.inner 3 d' z' a' b', env, vs, [])) (a := top) (s := sc) (top' := top + 3) (hp' := hp2) (Nat.le_refl _) (Nat.le_refl _) (fun _ _ => rfl) ⟨fk, by rw [ag top (by have := M.2.2.2.1; omega) (by omega) (by omega)]; exact A6, nbx⟩ (by rw [ag (top + 1) (by omega) (by omega) (by omega)]; exact A7) (by
            rw [List.append_nil]
            exact S2.kp g (hKp.up (by omega) (fun _ _ => rfl))) (by rw [ag (top + 2) (by omega) (by omega) (by omega)]; exact A8) (by omega)) (fun j hj => A3 j (fun w' => hj (by revert w'; simp only [List.mem_cons, List.not_mem_nil, or_false]; omega))) A4
          have Ce1 : hCe (G.1 ++ [top], G.2) (hAr G.2.1 h.2.1) (top + 3) hp1 l f0 la lk := by
            rcases Ce with q | ⟨e1, e2, e3, e4, e5, e6⟩
            · exact Or.inl q
            · exact Or.inr ⟨e1, e2, e3, by omega, by rw [A5 lk e4]; exact e5, e6.gr g (by omega) (fun i h1 h2 h3 => A5 i h2)⟩
          have hvf : hV (G.1 ++ [top], G.2) (xmFv h) (xmNi top) := by
            refine Or.inr (Or.inr (Or.inl ⟨rfl, h.1.length, top, rfl, ?_, rfl⟩))
            show (G.1 ++ [top])[h.1.length]? = some top
            rw [← HH.1.1, List.getElem?_append_right (Nat.le_refl _), Nat.sub_self]
            rfl
          rw [A1, oln_lg]
          exact GO (xmFv h) _ (xmNf h (.inner 3 d' z' a' b', env, vs, [])) nu σ1 _ (top + 3) ha1 hl1 hp1 gm1 (yR y) (fk + nF (.inner 3 d' z' a' b')) wB (by omega) (H.nf Fo) ⟨by rw [ln]; omega, rfl, by omega⟩ (En.mo le) cb (by omega) I1 Ce1 hvf g (by omega)
      · -- a truth
        subst cc c2'
        obtain ⟨x, gx, ⟨k0, k1⟩, cb⟩ := c
        unfold gOk at gk
        unfold rWo at rw'
        unfold tW at n2 n3
        unfold rEv at n5
        simp only [reduceIte, Nat.reduceEqDiff, or_false, or_self, false_or, false_and, true_and, or_true] at gk rw' n2 n3 n5
        have wB : xmEa cnt kk f pp ee tE tN R L b env (yR y) := ⟨⟨gk.2.2, rw'.2.2.2⟩, ⟨wb, pP.b⟩, ⟨n1, (List.nodup_append.mp n2).2.1, fun u hu => n3 u (List.mem_append_right _ hu)⟩, n4, n5.2.2⟩
        have hB : tH b ≤ 30 := by
          have q : tH (.inner 35 d z .leaf b) = max 0 (tH b) := rfl
          omega
        have en : nF (.inner 35 d z .leaf b) = 0 + 0 + nF b := rfl
        obtain ⟨hs', x1, F2⟩ := P.nd K (show p ≤ x by have := k0.1; omega) k1
        have h0 : hs'[0]? = some (.int (if (decide (d.2.1 = 1)) = true then 223 else 205)) := by
          rw [F2 0 (by decide) (by decide)]
          show some (Value.int (if d.2.1 = 1 then 223 else 205)) = _
          simp only [decide_eq_true_eq]
        rw [PRE gx x1, h_argB (n := N + 4) x1 h0, oln_lg]
        unfold xmAg
        simp only [reduceIte, Nat.reduceEqDiff]
        refine GO (1, xmNi d.2.1) _ h nu σ G top ha hl hp fm (yR y) fk wB hB H ⟨hz.1, rfl, hz.2.2.2⟩ En cb (by omega) I Ce (Or.inl ⟨Nat.le_refl _, ?_⟩) (hGe.rf G) hb'
        show (if decide (d.2.1 = 1) = true then (1 : Int64) else 0) = xmNi d.2.1
        rcases (show d.2.1 = 0 ∨ d.2.1 = 1 by omega) with q | q <;> (rw [q]; rfl)
    · cases cc
end HZE
