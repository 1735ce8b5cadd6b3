/-! run(), the reference: called() -/
section XRD
variable {pp kk ee f : Nat → Int32} {tE tN : Nat → tY} {L : List Nat} {V : zSt} {N S P A cnt len : Nat} {fr : List xmFr} {ks : Nat → Nat} {qs : List Nat} {T h0 m : Nat} {env : List Nat} {vs : List xmV} {k : Int32}
theorem fnS_z (τ : zSt) (i x : Nat) (a b d e : Int32) : zI (fnS τ i a b d e) 171 (nI x) = fnS (zI τ 171 (nI x)) i a b d e := by
  refine Prod.ext ?_ rfl
  funext j
  show (if j = 171 then _ else if j = 176 then _ else _) = (if j = 176 then _ else if j = 171 then _ else _)
  by_cases c : j = 171
  · subst c; rfl
  · simp only [c, if_false]
theorem zI_c (τ : zSt) {a b : Nat} (h : a ≠ b) (x y : Int32) : zI (zI τ a x) b y = zI (zI τ b y) a x := by
  refine Prod.ext ?_ rfl
  funext j
  show (if j = b then _ else if j = a then _ else _) = (if j = a then _ else if j = b then _ else _)
  by_cases c : j = b
  · subst c
    rw [if_pos rfl, if_neg (fun z => h z.symm), if_pos rfl]
  · simp only [c, if_false]
theorem xFm.jj (τ : zSt) (v : Int64) : xFm τ (zJ τ 193 v) := ⟨fun _ _ => rfl, fun _ _ => rfl, fun k h1 _ => if_neg h1, fun _ _ => rfl⟩
theorem zJI {τ : zSt} {k j : Nat} {v : Int32} {w : Int64} (h : j ≠ k) : (zJ (zI τ k v) 193 w).1 j = τ.1 j := zI_ne (σ := τ) h
theorem fnS_i {τ : zSt} {i j : Nat} {a b d e : Int32} (h : j ≠ 176) : (fnS τ i a b d e).1 j = τ.1 j := if_neg h
theorem zJ_193 (τ : zSt) (v : Int64) : (zJ τ 193 v).2.1 193 = v := by
  unfold zJ
  simp
set_option maxHeartbeats 4000000 in
/-- **ARGS** -/
theorem r_args (X : rXs T len cnt S P kk pp ee f L V) (hN : N ≤ 2000) (hA : A ≤ 2000) {nd xa q0 : Nat} (hnd : nd < N) (e4 : nV V nd 4 = nI xa) (e5 : nV V nd 5 = nI q0) (hxq : xa + q0 ≤ A) (hn : env.Nodup) (hto : ∀ u, u ∈ env → rTo (V.2.2.1 32) L u) (he : env.length ≤ 100) {c0 : Nat} (hc0 : c0 + 8 ≤ 260000) : ∀ (a : tT) (h : xmHp) (n : Nat) (y : tY) (τ : zSt) (acc : List xmV) (t : Nat) (x3 x4 : Int32), xmEa cnt kk f pp ee tE tN (V.2.2.1 32) L a env y → tH a ≤ 30 → xmH cnt kk f pp ee tE tN (V.2.2.1 32) L h → h.2.2.length ≤ 20000 → h.2.1.length ≤ 20006 → h.1.length + n ≤ 30000 → xmEn tE tN h env vs → rTr pp V 0 N S P A a 0 (xa + acc.length) (xa + q0) → acc.length + tQn a = q0 → q0 ≤ 4 → rXa pp V N S P A (zI τ 171 (nI c0)) c0 n h fr → xFm V τ → τ.1 171 = nI (c0 + acc.length) → rAk τ c0 acc → (x3 = if acc = [] then -1 else nI c0) → (x4 = if acc = [] then -1 else nI (c0 + acc.length - 1)) → rEc (V.2.2.1 32) τ c0 env vs k → tQn a < t → match xmAg T f pp ee env vs a h n with
    | .inl e => ∃ x τ', l_called_8 T (zF h0 qs ks T (m + 5)) h0 qs ks t (nI nd) k x3 x4 (nI acc.length) τ = some (some (.int x), τ') ∧ (x = 0 ∨ x = 1) ∧ xFm V τ' ∧ τ'.1 191 = nI e.1 ∧ τ'.1 164 = nI e.2
    | .inr r => ∃ τ' t' x4', l_called_8 T (zF h0 qs ks T (m + 5)) h0 qs ks t (nI nd) k x3 x4 (nI acc.length) τ = l_called_8 T (zF h0 qs ks T (m + 5)) h0 qs ks (t' + 1) (nI nd) k (if acc ++ r.2.2 = [] then -1 else nI c0) x4' (nI q0) τ' ∧ rXa pp V N S P A (zI τ' 171 (nI c0)) c0 r.2.1 r.1 fr ∧ xFm V τ' ∧ τ'.1 171 = nI (c0 + q0) ∧ rAk τ' c0 (acc ++ r.2.2) ∧ (acc ++ r.2.2).length = q0 ∧ rEc (V.2.2.1 32) τ' c0 env vs k
  | .leaf, h, n, y, τ, acc, t, x3, x4, _, _, _, _, _, _, _, tr, hq, h4', I, F, e171, Ak, h3, h4, E, ht => by
    have hq : acc.length + 0 = q0 := hq
    obtain ⟨t, rfl⟩ : ∃ s, t = s + 1 := ⟨t - 1, by have : tQn (.leaf : tT) < t := ht; omega⟩
    unfold xmAg
    simp only
    refine ⟨τ, t, x4, ?_, I, F, by rw [e171, show acc.length = q0 by omega], by rw [List.append_nil]; exact Ak, by rw [List.append_nil]; omega, E⟩
    rw [List.append_nil, ← h3, show acc.length = q0 by omega]
  | .inner g d z a b, h, n, y, τ, acc, t, x3, x4, w, hh, H, hl, hl2, hl1, En, tr, hq, h4', I, F, e171, Ak, h3, h4, E, ht => by
    obtain ⟨⟨gk, rw'⟩, ⟨wf, p⟩, ⟨n1, n2, n3⟩, n4, n5⟩ := id w
    have hq' : acc.length + (tQn b + 1) = q0 := hq
    have ht' : tQn b + 1 < t := ht
    obtain ⟨t, rfl⟩ : ∃ s, t = s + 1 := ⟨t - 1, by omega⟩
    have h191 : τ.1 191 = 0 := by have q := I.2.2.2.2.2.2.1; rw [zI_ne (by decide)] at q; exact q
    have h164 : τ.1 164 = nI n := by have q := I.2.2.2.2.2.2.2; rw [zI_ne (by decide)] at q; exact q
    have h176 : τ.1 176 = nI h.1.length := by have q := I.2.1.2.1; rw [zI_ne (by decide)] at q; exact q
    have Yl : rYl τ h := I.2.2.2.1.kp ⟨rfl, rfl, rfl, rfl, rfl, rfl⟩
    have zn : zin (nI nd) 2100 = true := zin_n (by omega) (by decide)
    have cn : (nI nd).toNatClampNeg = nd := nI_clamp (by omega)
    obtain ⟨-, -, r10, r11, -⟩ := F.r6 nd
    have zx : zin (nI (xa + acc.length)) 2100 = true := zin_n (by omega) (by decide)
    have cx : (nI (xa + acc.length)).toNatClampNeg = xa + acc.length := nI_clamp (by omega)
    have r19 : ∀ j, τ.2.2.1 19 j = gV V j 0 := fun j => by rw [F.1 19 (by decide)]; rfl
    have r20 : ∀ j, τ.2.2.1 20 j = gV V j 1 := fun j => by rw [F.1 20 (by decide)]; rfl
    have ex : nI xa + nI acc.length = nI (xa + acc.length) := nI_add _ _
    -- what goes on behind one ARG
    have GO : ∀ (v : xmV) (h1 : xmHp) (n1 : Nat) (τ1 : zSt) (yb : tY), xmEa cnt kk f pp ee tE tN (V.2.2.1 32) L b env yb → tH b ≤ 30 → xmH cnt kk f pp ee tE tN (V.2.2.1 32) L h1 → h1.2 = h.2 → h1.1.length + n1 ≤ 30000 → xmEn tE tN h1 env vs → rTr pp V 0 N S P A b 0 (xa + acc.length + 1) (xa + q0) → rXa pp V N S P A (zI τ1 171 (nI c0)) c0 n1 h1 fr → xFm V τ1 → τ1.1 171 = nI (c0 + acc.length) → rAk τ1 c0 acc → rEc (V.2.2.1 32) τ1 c0 env vs k → τ1.1 192 = nI v.1 → τ1.2.1 193 = v.2 → (match (match xmAg T f pp ee env vs b h1 n1 with | .inl c => .inl c | .inr r => .inr (r.1, r.2.1, v :: r.2.2) : (Nat × Nat) ⊕ (xmHp × Nat × List xmV)) with
      | .inl e => ∃ x τ', j_called_147 T (zF h0 qs ks T (m + 5)) h0 qs ks (l_called_8 T (zF h0 qs ks T (m + 5)) h0 qs ks t) (nI nd) k x3 x4 (nI acc.length) τ1 = some (some (.int x), τ') ∧ (x = 0 ∨ x = 1) ∧ xFm V τ' ∧ τ'.1 191 = nI e.1 ∧ τ'.1 164 = nI e.2
      | .inr r => ∃ τ' t' x4', j_called_147 T (zF h0 qs ks T (m + 5)) h0 qs ks (l_called_8 T (zF h0 qs ks T (m + 5)) h0 qs ks t) (nI nd) k x3 x4 (nI acc.length) τ1 = l_called_8 T (zF h0 qs ks T (m + 5)) h0 qs ks (t' + 1) (nI nd) k (if acc ++ r.2.2 = [] then -1 else nI c0) x4' (nI q0) τ' ∧ rXa pp V N S P A (zI τ' 171 (nI c0)) c0 r.2.1 r.1 fr ∧ xFm V τ' ∧ τ'.1 171 = nI (c0 + q0) ∧ rAk τ' c0 (acc ++ r.2.2) ∧ (acc ++ r.2.2).length = q0 ∧ rEc (V.2.2.1 32) τ' c0 env vs k) := fun v h1 n1 τ1 yb wB hB H1 eh1 hl1' En1 trb I1 F1 e1 Ak1 E1 v1 v2 => by
      obtain ⟨τ2, x3', x4', q1, q2, q3, q4, q5, q6, q7, q8, q9, q10⟩ := r_c147 (h0 := h0) (qs := qs) (ks := ks) (T := T) (m := m + 4) (nd := nd) (ke := k) (x5 := nI acc.length) (K8 := l_called_8 T (zF h0 qs ks T (m + 5)) h0 qs ks t) I1 F1 e1 (by omega) Ak1 h3 h4 v1 v2
      have ln : (acc ++ [v]).length = acc.length + 1 := by rw [List.length_append]; rfl
      have eh21 : h1.2.1 = h.2.1 := by rw [eh1]
      have eh22 : h1.2.2 = h.2.2 := by rw [eh1]
      have IH := r_args X hN hA hnd e4 e5 hxq hn hto he hc0 b h1 n1 yb τ2 (acc ++ [v]) t x3' x4' wB hB H1 (by rw [eh22]; exact hl) (by rw [eh21]; exact hl2) hl1' En1 (by rw [ln, ← Nat.add_assoc]; exact trb) (by rw [ln]; omega) h4' q2 q3 q4 q5 q6 q7 (E1.kp q8 (Nat.le_refl _)) (by omega)
      rw [q1, nI_p1]
      rw [ln] at IH
      cases hq2 : xmAg T f pp ee env vs b h1 n1 with
      | inl c =>
        rw [hq2] at IH
        exact IH
      | inr r =>
        rw [hq2] at IH
        obtain ⟨τ', t', x4'', i1, i2, i3, i4, i5, i6, i7⟩ := IH
        rw [List.append_assoc] at i1 i5 i6
        exact ⟨τ', t', x4'', i1, i2, i3, i4, i5, i6, i7⟩
    have nlt : ¬ nI q0 ≤ nI acc.length := nI_ge (by omega) (by omega)
    rcases id wf with ⟨c, -⟩ | ⟨-, c0', wb, c⟩ | ⟨c, -⟩
    · cases c
    · rcases c with ⟨c, c1, c2⟩ | ⟨c, c1, wa⟩ | ⟨c, c1, c2, c3⟩
      · -- an S
        subst c c2
        obtain ⟨⟨-, tr0, -, x, tr1, tr2⟩, trb⟩ := tr
        unfold gOk at gk
        unfold rWo at rw'
        unfold tW at n2 n3
        unfold rEv at n5
        simp only [reduceIte, Nat.reduceEqDiff, or_false, or_self, false_or, false_and, true_and, or_true] at gk rw' n2 n3 n5
        obtain ⟨g1, ⟨g2, g3⟩, gb⟩ := gk
        obtain ⟨rw1, -, -, rwb⟩ := rw'
        have wB : xmEa cnt kk f pp ee tE tN (V.2.2.1 32) L b env (yR y) := ⟨⟨gb, rwb⟩, ⟨wb, p.b⟩, ⟨n1, (List.nodup_append.mp n2).2.1, fun u hu => n3 u (List.mem_append_right _ hu)⟩, n4, n5.2.2⟩
        have hb : tH b ≤ 30 := by
          have q : tH (.inner 33 d z .leaf b) = max 0 (tH b) := rfl
          omega
        have sv := r_sv (m := m + 1) (h0 := h0) (qs := qs) (ks := ks) (T := T) X F (by omega) E H En Yl hl hl2 hn hto he h191 tr2 p.2.2.2.2.1.1 p.2.2.1.1.1 rw1 (fun q => g3 (Or.inr q))
        rw [l_called_8, zgd_at zn, cn, r11, e5, if_neg nlt, zgd_at zn, r10, e4, ex, zgd_at zx, cx, r19, tr0, if_neg (show ¬ (0 : Int32) = 1 by decide), zgd_at zx, if_pos (show (0 : Int32) ≤ 1 by decide), zgd_at zx, r20, tr1, sv, zcv_at]
        unfold xmAg
        simp only [reduceIte, Nat.reduceEqDiff]
        by_cases ci : isN d.2.2.2.1.2 = true
        · simp only [if_pos ci]
          rw [if_pos (show (zJ (zI τ 192 (nI (xmGet f pp ee env vs (d.2.2.2.1.2.headD (0, false, 0)).2.2).1)) 193 (xmGet f pp ee env vs (d.2.2.2.1.2.headD (0, false, 0)).2.2).2).1 191 = 0 from (zJI (by decide)).trans h191)]
          refine GO _ h n _ (yR y) wB hb H rfl hl1 En trb ?_ ?_ ?_ ?_ ?_ ?_ rfl
          · exact I.far (F.tr ((xFm.i τ (k := 192) _ (by decide)).tr (xFm.jj _ _))) (fun j hj => zI_ne (fun z => by rw [z] at hj; exact absurd hj (by decide))) (fun _ _ => ⟨fun _ _ => ⟨rfl, rfl, rfl, rfl⟩, fun _ _ _ _ _ => rfl, fun _ _ _ _ _ => rfl⟩) ⟨rfl, rfl, rfl, rfl, rfl, rfl⟩
          · exact F.tr ((xFm.i τ (k := 192) _ (by decide)).tr (xFm.jj _ _))
          · show (zI τ 192 (nI (xmGet f pp ee env vs (d.2.2.2.1.2.headD (0, false, 0)).2.2).1)).1 171 = _
            rw [zI_ne (by decide)]
            exact e171
          · exact Ak
          · exact E.kp (show rSk τ _ c0 from fun _ _ => ⟨rfl, rfl, rfl, rfl⟩) (Nat.le_refl _)
          · show (zI τ 192 (nI (xmGet f pp ee env vs (d.2.2.2.1.2.headD (0, false, 0)).2.2).1)).1 192 = _
            rw [zI_eq]
        · simp only [if_neg ci]
          by_cases cb : xmB (xmSm T f pp ee h env vs d.2.2.2.1.2) = true
          · simp only [if_pos cb]
            rw [if_pos (show (zJ (zI τ 192 0) 193 (xmSm T f pp ee h env vs d.2.2.2.1.2)).1 191 = 0 from (zJI (by decide)).trans h191)]
            refine GO (0, xmSm T f pp ee h env vs d.2.2.2.1.2) h n _ (yR y) wB hb H rfl hl1 En trb ?_ ?_ ?_ ?_ ?_ ?_ rfl
            · exact I.far (F.tr ((xFm.i τ (k := 192) _ (by decide)).tr (xFm.jj _ _))) (fun j hj => zI_ne (fun z => by rw [z] at hj; exact absurd hj (by decide))) (fun _ _ => ⟨fun _ _ => ⟨rfl, rfl, rfl, rfl⟩, fun _ _ _ _ _ => rfl, fun _ _ _ _ _ => rfl⟩) ⟨rfl, rfl, rfl, rfl, rfl, rfl⟩
            · exact F.tr ((xFm.i τ (k := 192) _ (by decide)).tr (xFm.jj _ _))
            · exact (show (zI τ 192 0).1 171 = _ from (zI_ne (by decide)).trans e171)
            · exact Ak
            · exact E.kp (show rSk τ _ c0 from fun _ _ => ⟨rfl, rfl, rfl, rfl⟩) (Nat.le_refl _)
            · exact (show (zI τ 192 0).1 192 = _ from zI_eq _ _ _)
          · simp only [if_neg cb]
            rw [if_neg (show ¬ (zJ (zI (zI τ 191 2) 192 0) 193 (xmSm T f pp ee h env vs d.2.2.2.1.2)).1 191 = 0 by
              show ¬ (zI (zI τ 191 2) 192 0).1 191 = 0
              rw [zI_ne (by decide), zI_eq]; decide)]
            exact ⟨0, _, rfl, Or.inl rfl, F.tr ((xFm.i τ (k := 191) 2 (by decide)).tr ((xFm.i (zI τ 191 2) (k := 192) 0 (by decide)).tr (xFm.jj _ _))), (show (zI (zI τ 191 2) 192 0).1 191 = _ from (zI_ne (by decide)).trans (zI_eq _ _ _)), (show (zI (zI τ 191 2) 192 0).1 164 = _ from ((zI_ne (by decide)).trans (zI_ne (by decide))).trans h164)⟩
      · -- a fun
        subst c
        obtain ⟨d', z', a', b', ea⟩ := p.1.1 rfl
        subst ea
        obtain ⟨⟨-, tr0, -, x, tr1, tr2⟩, trb⟩ := tr
        unfold gOk at gk
        unfold rWo at rw'
        unfold tW at n2 n3
        unfold rEv at n5
        simp only [reduceIte, Nat.reduceEqDiff, or_false, or_self, false_or, false_and, true_and, or_true] at gk rw' n2 n3 n5
        obtain ⟨g1, ga, gb⟩ := gk
        obtain ⟨-, -, rwa, rwb⟩ := rw'
        obtain ⟨m1, m2, m3⟩ := List.nodup_append.mp n2
        have hh' : max (tH (.inner 3 d' z' a' b')) (tH b) ≤ 30 := hh
        have ha : tH a' ≤ 31 := by
          have q : tH (.inner 3 d' z' a' b') = max (tH a') (tH b') + 1 := rfl
          omega
        have wA : xmE cnt kk f pp ee tE tN (V.2.2.1 32) L (.inner 3 d' z' a' b') env (yL y) := ⟨⟨ga, rwa⟩, ⟨wa, p.a (by decide)⟩, ⟨n1, m1, fun u hu => n3 u (List.mem_append_left _ hu)⟩, n4, n5.2.1⟩
        have wB : xmEa cnt kk f pp ee tE tN (V.2.2.1 32) L b env (yR y) := ⟨⟨gb, rwb⟩, ⟨wb, p.b⟩, ⟨n1, m2, fun u hu => n3 u (List.mem_append_right _ hu)⟩, n4, n5.2.2⟩
        obtain ⟨Fo, ft, fk⟩ := xmFo.of3 wA ha En
        have le := xmLe.nf h (.inner 3 d' z' a' b', env, vs, [])
        rw [l_called_8, zgd_at zn, cn, r11, e5, if_neg nlt, zgd_at zn, r10, e4, ex, zgd_at zx, cx, r19, tr0, if_pos rfl, h164]
        unfold xmAg
        simp only [reduceIte, Nat.reduceEqDiff]
        cases n with
        | zero =>
          rw [if_pos (show nI 0 = (0 : Int32) from rfl), zlet]
          exact ⟨0, _, rfl, Or.inl rfl, F.tr (xFm.i τ 1 (by decide)), zI_eq _ _ _, (zI_ne (by decide)).trans h164⟩
        | succ n =>
          rw [if_neg (show ¬ nI (n + 1) = (0 : Int32) from fun q => by have := nI_inj' (b := 0) (by omega) (by omega) q; omega), zlet, ← nI_p1, nI_pm, r_is, zcv_at, zgd_at zx]
          have e176 : (zJ (zI (zI τ 164 (nI n)) 192 3) 193 ((zI τ 164 (nI n)).1 176).toInt64).1 176 = nI h.1.length := by
            show (zI (zI τ 164 (nI n)) 192 3).1 176 = _
            rw [zI_ne (by decide), zI_ne (by decide)]
            exact h176
          rw [r_fun e176 (by omega), zci_at]
          have e20 : (zJ (zI (zI τ 164 (nI n)) 192 3) 193 ((zI τ 164 (nI n)).1 176).toInt64).2.2.1 20 (xa + acc.length) = nI x := (r20 _).trans tr1
          rw [e20]
          have fv : xmFv h = (3, ((zI τ 164 (nI n)).1 176).toInt64) := by
            rw [zI_ne (by decide), h176]
            rfl
          have ln : (xmNf h (.inner 3 d' z' a' b', env, vs, [])).1.length = h.1.length + 1 := by
            show (h.1 ++ [_]).length = _
            rw [List.length_append]; rfl
          -- the state with one FUEL less
          have I1 : rXa pp V N S P A (zI (zJ (zI (zI τ 164 (nI n)) 192 3) 193 ((zI τ 164 (nI n)).1 176).toInt64) 171 (nI c0)) c0 n h fr := by
            obtain ⟨J0, ⟨a1, a2, a3, a4, a5⟩, jb, jy, ⟨dd, d1, d2⟩, j1, j2, j3⟩ := I
            have ne : ∀ j, j ≠ 171 → j ≠ 164 → j ≠ 192 → (zI (zJ (zI (zI τ 164 (nI n)) 192 3) 193 ((zI τ 164 (nI n)).1 176).toInt64) 171 (nI c0)).1 j = (zI τ 171 (nI c0)).1 j := fun j h1 h2 h3 => by
              rw [zI_ne h1, zI_ne h1]
              show (zI (zI τ 164 (nI n)) 192 3).1 j = _
              rw [zI_ne h3, zI_ne h2]
            have K : ∀ nf nd, xKp c0 nf nd (zI τ 171 (nI c0)) (zI (zJ (zI (zI τ 164 (nI n)) 192 3) 193 ((zI τ 164 (nI n)).1 176).toInt64) 171 (nI c0)) := fun _ _ => ⟨fun _ _ => ⟨rfl, rfl, rfl, rfl⟩, fun _ _ _ _ _ => rfl, fun _ _ _ _ _ => rfl⟩
            refine ⟨(F.tr ((xFm.i τ (k := 164) (nI n) (by decide)).tr ((xFm.i (zI τ 164 (nI n)) (k := 192) 3 (by decide)).tr (xFm.jj _ _)))).z _, ⟨zI_eq _ _ _, (ne _ (by decide) (by decide) (by decide)).trans a2, (ne _ (by decide) (by decide) (by decide)).trans a3, (ne _ (by decide) (by decide) (by decide)).trans a4, (ne _ (by decide) (by decide) (by decide)).trans a5⟩, jb.kp (K _ 0) (Nat.le_refl _), jy.kp ⟨rfl, rfl, rfl, rfl, rfl, rfl⟩, ⟨dd, (ne _ (by decide) (by decide) (by decide)).trans d1, rFk.kp (K 0 dd) (Nat.le_refl _) fr dd (Nat.le_refl _) d2⟩, (ne _ (by decide) (by decide) (by decide)).trans j1, (ne _ (by decide) (by decide) (by decide)).trans j2, ?_⟩
            rw [zI_ne (by decide)]
            show (zI (zI τ 164 (nI n)) 192 3).1 164 = nI n
            rw [zI_ne (by decide), zI_eq]
          have E1 : rEc (V.2.2.1 32) (zI (zJ (zI (zI τ 164 (nI n)) 192 3) 193 ((zI τ 164 (nI n)).1 176).toInt64) 171 (nI c0)) c0 env vs k := E.kp (show rSk τ _ c0 from fun _ _ => ⟨rfl, rfl, rfl, rfl⟩) (Nat.le_refl _)
          have I2 := I1.fn (fn := (.inner 3 d' z' a' b', env, vs, [])) (m := x) (s := k) (hd := -1) ⟨rTr_lt wa tr2, tr2⟩ E1 rfl
          have I2 : rXa pp V N S P A (fnS (zI (zJ (zI (zI τ 164 (nI n)) 192 3) 193 ((zI τ 164 (nI n)).1 176).toInt64) 171 (nI c0)) h.1.length (nI x) k (-1) 0) c0 n (xmNf h (.inner 3 d' z' a' b', env, vs, [])) fr := I2
          rw [← fnS_z] at I2
          have kf := fnS_kp (zJ (zI (zI τ 164 (nI n)) 192 3) 193 ((zI τ 164 (nI n)).1 176).toInt64) (c0 + acc.length) h.1.length 0 (nI x) k (-1) 0
          refine GO (xmFv h) (xmNf h (.inner 3 d' z' a' b', env, vs, [])) n _ (yR y) wB (by omega) (H.nf Fo) rfl (by rw [ln]; omega) (En.mo le) trb I2 ?_ ?_ ?_ ?_ ?_ ?_
          · exact F.tr ((xFm.i τ (k := 164) (nI n) (by decide)).tr ((xFm.i (zI τ 164 (nI n)) (k := 192) 3 (by decide)).tr ((xFm.jj _ _).tr (fnS_fm ..))))
          · rw [fnS_i (by decide), zJI (by decide), zI_ne (by decide)]
            exact e171
          · intro j v ev
            obtain ⟨b1, b2, b3, b4⟩ := Ak j v ev
            have hj := xget_lt ev
            obtain ⟨g1, g2, g3, g4⟩ := kf.1 (c0 + j) (by omega)
            exact ⟨g1.trans b1, g2.trans b2, g4.trans b3, g3.trans b4⟩
          · exact E.kp (show rSk τ _ c0 from fun i hi => by
              obtain ⟨g1, g2, g3, g4⟩ := kf.1 i (by omega)
              exact ⟨g1, g2, g3, g4⟩) (Nat.le_refl _)
          · rw [fnS_i (by decide)]
            show (zI (zI τ 164 (nI n)) 192 3).1 192 = _
            rw [zI_eq]
            rfl
          · rw [fv]
            show (zJ (zI (zI τ 164 (nI n)) 192 3) 193 ((zI τ 164 (nI n)).1 176).toInt64).2.1 193 = _
            exact zJ_193 _ _
      · -- true, false
        subst c c2
        obtain ⟨⟨-, tr0, -⟩, trb⟩ := tr
        unfold gOk at gk
        unfold rWo at rw'
        unfold tW at n2 n3
        unfold rEv at n5
        simp only [reduceIte, Nat.reduceEqDiff, or_false, or_self, false_or, false_and, true_and, or_true] at gk rw' n2 n3 n5
        obtain ⟨g1, g2, gb⟩ := gk
        obtain ⟨-, -, -, rwb⟩ := rw'
        have hb : tH b ≤ 30 := by
          have q : tH (.inner 35 d z .leaf b) = max 0 (tH b) := rfl
          omega
        have wB : xmEa cnt kk f pp ee tE tN (V.2.2.1 32) L b env (yR y) := ⟨⟨gb, rwb⟩, ⟨wb, p.b⟩, ⟨n1, (List.nodup_append.mp n2).2.1, fun u hu => n3 u (List.mem_append_right _ hu)⟩, n4, n5.2.2⟩
        rw [l_called_8, zgd_at zn, cn, r11, e5, if_neg nlt, zgd_at zn, r10, e4, ex, zgd_at zx, cx, r19, tr0]
        have hd : d.2.1 = 0 ∨ d.2.1 = 1 := by omega
        unfold xmAg
        simp only [reduceIte, Nat.reduceEqDiff]
        have FIN : ∀ w : Int64, w = xmNi d.2.1 → _ := fun w hw => GO (1, xmNi d.2.1) h n (zJ (zI τ 192 1) 193 w) (yR y) wB hb H rfl hl1 En trb (I.far (F.tr ((xFm.i τ (k := 192) _ (by decide)).tr (xFm.jj _ _))) (fun j hj => zI_ne (fun z => by rw [z] at hj; exact absurd hj (by decide))) (fun _ _ => ⟨fun _ _ => ⟨rfl, rfl, rfl, rfl⟩, fun _ _ _ _ _ => rfl, fun _ _ _ _ _ => rfl⟩) ⟨rfl, rfl, rfl, rfl, rfl, rfl⟩) (F.tr ((xFm.i τ (k := 192) _ (by decide)).tr (xFm.jj _ _))) (show (zI τ 192 1).1 171 = _ from (zI_ne (by decide)).trans e171) Ak (E.kp (show rSk τ _ c0 from fun _ _ => ⟨rfl, rfl, rfl, rfl⟩) (Nat.le_refl _)) (show (zI τ 192 1).1 192 = _ from zI_eq _ _ _) ((zJ_193 _ _).trans hw)
        rcases hd with hd | hd
        · rw [hd, if_neg (show ¬ nI (3 - 0) = (1 : Int32) by decide), zgd_at zx, if_neg (show ¬ nI (3 - 0) ≤ (1 : Int32) by decide), zgd_at zx, if_neg (show ¬ nI (3 - 0) = (2 : Int32) by decide)]
          unfold j_called_120
          rw [r_is, zcv_at]
          have q := FIN 0 (by rw [hd]; rfl)
          rw [hd] at q
          exact q
        · rw [hd, if_neg (show ¬ nI (3 - 1) = (1 : Int32) by decide), zgd_at zx, if_neg (show ¬ nI (3 - 1) ≤ (1 : Int32) by decide), zgd_at zx, if_pos (show nI (3 - 1) = (2 : Int32) from rfl)]
          unfold j_called_120
          rw [r_is, zcv_at]
          have q := FIN 1 (by rw [hd]; rfl)
          rw [hd] at q
          exact q
    · cases c
end XRD
