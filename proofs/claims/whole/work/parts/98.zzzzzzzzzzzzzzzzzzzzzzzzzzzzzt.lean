/-! run(), the reference: C's -/
/-- how a C ends: its truth, or too much -/
def rHo (τ : zSt) (r : zRs) : Option Bool → Prop
  | some c => r = some (some (.int (b01 c)), τ)
  | none => ∃ x, (x = 0 ∨ x = 1) ∧ r = some (some (.int x), zI τ 191 2)
/-- && or || of two -/
def xmC2 (acc : Option Bool) (gl : Nat) (x : Option Bool) : Option Bool := match acc with
  | none => none
  | some c => if c = decide (gl = 21) then x else some c
/-- what stands before a list, and the list -/
def xmCo (T : Nat) (f pp ee : Nat → Int32) (h : xmHp) (env : List Nat) (vs : List xmV) (acc : Option Bool) (gl : Nat) (b : tT) : Option Bool := xmC2 acc gl (xmC T f pp ee h env vs b gl)
theorem zcl_at' (x : Int64) (s : zSt) (f : Int64 → zSt → zRs) : zcl' (some (some (.long x), s)) f = f x s := rfl
theorem lg_eq (x y : Int64) : lg_cmp x y = 0 ↔ x = y := by
  constructor
  · intro h
    have h1 : y.toInt ≤ x.toInt := (l_ge x y).mp (by rw [h]; exact Int32.le_refl _)
    have h2 : ¬ y.toInt < x.toInt := fun z => by
      have q := (l_gt x y).mpr z
      rw [h] at q
      exact absurd q (by decide)
    exact Int64.toInt_inj.mp (by omega)
  · intro h
    have h1 : 0 ≤ lg_cmp x y := (l_ge x y).mpr (by rw [h]; exact Int.le_refl _)
    have h2 : ¬ 0 < lg_cmp x y := fun z => by
      have q := (l_gt x y).mp z
      rw [h] at q
      omega
    rw [Int32.le_iff_toInt_le] at h1
    rw [Int32.lt_iff_toInt_lt] at h2
    exact Int32.toInt_inj.mp (by omega)
theorem lg_le (x y : Int64) : lg_cmp x y ≤ 0 ↔ x ≤ y := by
  have q := l_gt x y
  rw [Int64.le_iff_toInt_le]
  constructor
  · intro h
    by_cases c : y.toInt < x.toInt
    · exact absurd (q.mpr c) (Int32.not_lt.mpr h)
    · omega
  · intro h
    by_cases c : 0 < lg_cmp x y
    · have := q.mp c; omega
    · exact Int32.not_lt.mp c
theorem lg_lt (x y : Int64) : lg_cmp x y < 0 ↔ x < y := by
  have q := l_ge x y
  rw [Int64.lt_iff_toInt_lt]
  constructor
  · intro h
    by_cases c : y.toInt ≤ x.toInt
    · exact absurd (q.mpr c) (Int32.not_le.mpr h)
    · omega
  · intro h
    by_cases c : 0 ≤ lg_cmp x y
    · have := q.mp c; omega
    · exact Int32.not_le.mp c
theorem lg_ge (x y : Int64) : 0 ≤ lg_cmp x y ↔ y ≤ x := by rw [l_ge, Int64.le_iff_toInt_le]
theorem lg_gt (x y : Int64) : 0 < lg_cmp x y ↔ y < x := by rw [l_gt, Int64.lt_iff_toInt_lt]
/-- the relations -/
theorem xr_rel {τ : zSt} (a b : Int64) : ∀ (r : Nat), r ≤ 5 → rHo τ (if nI r = (0 : Int32) then (if lg_cmp a b = 0 then some (some (.int 1), τ) else some (some (.int 0), τ)) else if nI r = (1 : Int32) then (if 0 ≤ lg_cmp a b then some (some (.int 0), τ) else some (some (.int 1), τ)) else if nI r = (2 : Int32) then (if 0 < lg_cmp a b then some (some (.int 0), τ) else some (some (.int 1), τ)) else if nI r = (3 : Int32) then (if lg_cmp a b ≤ 0 then some (some (.int 0), τ) else some (some (.int 1), τ)) else if nI r = (4 : Int32) then (if lg_cmp a b < 0 then some (some (.int 0), τ) else some (some (.int 1), τ)) else (if lg_cmp a b = 0 then some (some (.int 0), τ) else some (some (.int 1), τ))) (some (xmCm r a b)) := by
  intro r hr
  have go : ∀ (c : Bool) (x : Int32), x = b01 c → rHo τ (some (some (.int x), τ)) (some c) := fun c x e => by rw [e]; rfl
  match r, hr with
  | 0, _ =>
    rw [if_pos (show nI 0 = (0 : Int32) from rfl)]
    by_cases c : a = b
    · rw [if_pos ((lg_eq a b).mpr c)]; exact go _ _ (by simp [xmCm, c, b01])
    · rw [if_neg (fun z => c ((lg_eq a b).mp z))]; exact go _ _ (by simp [xmCm, c, b01])
  | 1, _ =>
    rw [if_neg (show ¬ nI 1 = (0 : Int32) by decide), if_pos (show nI 1 = (1 : Int32) from rfl)]
    by_cases c : b ≤ a
    · rw [if_pos ((lg_ge a b).mpr c)]; exact go _ _ (by simp [xmCm, Int64.not_lt.mpr c, b01])
    · rw [if_neg (fun z => c ((lg_ge a b).mp z))]; exact go _ _ (by simp [xmCm, Int64.not_le.mp c, b01])
  | 2, _ =>
    rw [if_neg (show ¬ nI 2 = (0 : Int32) by decide), if_neg (show ¬ nI 2 = (1 : Int32) by decide), if_pos (show nI 2 = (2 : Int32) from rfl)]
    by_cases c : b < a
    · rw [if_pos ((lg_gt a b).mpr c)]; exact go _ _ (by simp [xmCm, Int64.not_le.mpr c, b01])
    · rw [if_neg (fun z => c ((lg_gt a b).mp z))]; exact go _ _ (by simp [xmCm, Int64.not_lt.mp c, b01])
  | 3, _ =>
    rw [if_neg (show ¬ nI 3 = (0 : Int32) by decide), if_neg (show ¬ nI 3 = (1 : Int32) by decide), if_neg (show ¬ nI 3 = (2 : Int32) by decide), if_pos (show nI 3 = (3 : Int32) from rfl)]
    by_cases c : a ≤ b
    · rw [if_pos ((lg_le a b).mpr c)]; exact go _ _ (by simp [xmCm, Int64.not_lt.mpr c, b01])
    · rw [if_neg (fun z => c ((lg_le a b).mp z))]; exact go _ _ (by simp [xmCm, Int64.not_le.mp c, b01])
  | 4, _ =>
    rw [if_neg (show ¬ nI 4 = (0 : Int32) by decide), if_neg (show ¬ nI 4 = (1 : Int32) by decide), if_neg (show ¬ nI 4 = (2 : Int32) by decide), if_neg (show ¬ nI 4 = (3 : Int32) by decide), if_pos (show nI 4 = (4 : Int32) from rfl)]
    by_cases c : a < b
    · rw [if_pos ((lg_lt a b).mpr c)]; exact go _ _ (by simp [xmCm, Int64.not_le.mpr c, b01])
    · rw [if_neg (fun z => c ((lg_lt a b).mp z))]; exact go _ _ (by simp [xmCm, Int64.not_lt.mp c, b01])
  | 5, _ =>
    rw [if_neg (show ¬ nI 5 = (0 : Int32) by decide), if_neg (show ¬ nI 5 = (1 : Int32) by decide), if_neg (show ¬ nI 5 = (2 : Int32) by decide), if_neg (show ¬ nI 5 = (3 : Int32) by decide), if_neg (show ¬ nI 5 = (4 : Int32) by decide)]
    by_cases c : a = b
    · rw [if_pos ((lg_eq a b).mpr c)]; exact go _ _ (by simp [xmCm, c, b01])
    · rw [if_neg (fun z => c ((lg_eq a b).mp z))]; exact go _ _ (by simp [xmCm, c, b01])
section XRH
variable {ks : Nat → Nat} {qs : List Nat} {T h0 c len cnt lo N S P A : Nat} {V τ : zSt} {kk f pp ee : Nat → Int32} {tE tN : Nat → tY} {L : List Nat} {h : xmHp} {env : List Nat} {vs : List xmV} {k : Int32} {v : xmV}
theorem zI_191 (τ : zSt) (v : Int32) : (zI τ 191 v).1 191 = v := zIe τ 191 v
theorem xFm.r6 (F : xFm V τ) (m : Nat) : τ.2.2.1 6 m = nV V m 0 ∧ τ.2.2.1 9 m = nV V m 3 ∧ τ.2.2.1 10 m = nV V m 4 ∧ τ.2.2.1 11 m = nV V m 5 ∧ τ.2.2.1 12 m = nV V m 6 := ⟨by rw [F.1 6 (by decide)]; rfl, by rw [F.1 9 (by decide)]; rfl, by rw [F.1 10 (by decide)]; rfl, by rw [F.1 11 (by decide)]; rfl, by rw [F.1 12 (by decide)]; rfl⟩
/-- || and && of two -/
theorem r_h2 {n m m0 mb gl : Nat} {acc : Option Bool} {a : tT} (F : xFm V τ) (h191 : τ.1 191 = 0) (hN : N ≤ 2000) (hm : m < N) (hm0 : m0 < N) (hg : gl = 20 ∨ gl = 21) (e0 : nV V m 0 = nI gl) (e3 : nV V m 3 = nI m0) (e4 : nV V m 4 = nI mb) (h1 : rHo τ (zF h0 qs ks T n 126 [.ref h0, .int (nI m0), .int k] τ) acc) (h2 : rHo τ (zF h0 qs ks T n 126 [.ref h0, .int (nI mb), .int k] τ) (xmC T f pp ee h env vs a 0)) : rHo τ (zF h0 qs ks T (n + 1) 126 [.ref h0, .int (nI m), .int k] τ) (xmC2 acc gl (xmC T f pp ee h env vs a 0)) := by
  obtain ⟨r6, r9, r10, -, -⟩ := F.r6 m
  have zm : zin (nI m) 2100 = true := zin_n (by omega) (by decide)
  have cm : (nI m).toNatClampNeg = m := nI_clamp (by omega)
  rw [zE_holds]
  unfold b_holds
  rw [zgd_at zm, cm, r6, e0]
  rcases hg with g | g
  · subst g
    rw [if_pos (show nI 20 = (20 : Int32) from rfl), zgd_at zm, r9, e3]
    cases acc with
    | none =>
      obtain ⟨x, hx, e⟩ := h1
      rw [e, zci_at]
      rcases hx with hx | hx
      · rw [if_pos hx, if_neg (show ¬ (zI τ 191 2).1 191 = 0 by rw [zI_191]; decide)]
        exact ⟨0, Or.inl rfl, rfl⟩
      · rw [if_neg (by rw [hx]; decide)]
        exact ⟨1, Or.inr rfl, rfl⟩
    | some c =>
      have e : zF h0 qs ks T n 126 [.ref h0, .int (nI m0), .int k] τ = some (some (.int (b01 c)), τ) := h1
      rw [e, zci_at]
      cases c with
      | true =>
        rw [if_neg (by decide)]
        rfl
      | false =>
        rw [if_pos (show b01 false = 0 from rfl), if_pos h191, zgd_at zm, r10, e4]
        show rHo τ _ (xmC T f pp ee h env vs a 0)
        cases q : xmC T f pp ee h env vs a 0 with
        | none =>
          rw [q] at h2
          obtain ⟨x, hx, e2⟩ := h2
          rw [e2, zci_at]
          rcases hx with hx | hx
          · rw [if_pos hx]
            exact ⟨0, Or.inl rfl, rfl⟩
          · rw [if_neg (by rw [hx]; decide)]
            exact ⟨1, Or.inr rfl, rfl⟩
        | some c =>
          rw [q] at h2
          have e2 : zF h0 qs ks T n 126 [.ref h0, .int (nI mb), .int k] τ = some (some (.int (b01 c)), τ) := h2
          rw [e2, zci_at]
          cases c with
          | true => rw [if_neg (by decide)]; rfl
          | false => rw [if_pos (show b01 false = 0 from rfl)]; rfl
  · subst g
    rw [if_neg (show ¬ nI 21 = (20 : Int32) by decide), if_pos (show nI 21 = (21 : Int32) from rfl), zgd_at zm, r9, e3]
    cases acc with
    | none =>
      obtain ⟨x, hx, e⟩ := h1
      rw [e, zci_at]
      rcases hx with hx | hx
      · rw [if_pos hx]
        exact ⟨0, Or.inl rfl, rfl⟩
      · rw [if_neg (by rw [hx]; decide), if_neg (show ¬ (zI τ 191 2).1 191 = 0 by rw [zI_191]; decide)]
        exact ⟨0, Or.inl rfl, rfl⟩
    | some c =>
      have e : zF h0 qs ks T n 126 [.ref h0, .int (nI m0), .int k] τ = some (some (.int (b01 c)), τ) := h1
      rw [e, zci_at]
      cases c with
      | false =>
        rw [if_pos (show b01 false = 0 from rfl)]
        rfl
      | true =>
        rw [if_neg (by decide), if_pos h191, zgd_at zm, r10, e4]
        show rHo τ _ (xmC T f pp ee h env vs a 0)
        cases q : xmC T f pp ee h env vs a 0 with
        | none =>
          rw [q] at h2
          obtain ⟨x, hx, e2⟩ := h2
          rw [e2, zci_at]
          rcases hx with hx | hx
          · rw [if_pos hx]
            exact ⟨0, Or.inl rfl, rfl⟩
          · rw [if_neg (by rw [hx]; decide)]
            exact ⟨1, Or.inr rfl, rfl⟩
        | some c =>
          rw [q] at h2
          have e2 : zF h0 qs ks T n 126 [.ref h0, .int (nI mb), .int k] τ = some (some (.int (b01 c)), τ) := h2
          rw [e2, zci_at]
          cases c with
          | true => rw [if_neg (by decide)]; rfl
          | false => rw [if_pos (show b01 false = 0 from rfl)]; rfl
set_option maxHeartbeats 2000000 in
/-- **holds()** -/
theorem r_hold (X : rXs T len cnt S P kk pp ee f L V) (hN : N ≤ 2000) (F : xFm V τ) (hc : c ≤ 260000) (E : rEc (V.2.2.1 32) τ c env vs k) (H : xmH cnt kk f pp ee tE tN (V.2.2.1 32) L h) (En : xmEn tE tN h env vs) (Y : rYl τ h) (hl : h.2.2.length ≤ 20000) (hl2 : h.2.1.length ≤ 20006) (hn : env.Nodup) (hto : ∀ u, u ∈ env → rTo (V.2.2.1 32) L u) (he : env.length ≤ 100) (h191 : τ.1 191 = 0) : ∀ (t : tT) (l : Bool) (gl m0 m : Nat), cWf cnt t l → rTr pp V lo N S P A t gl m0 m → gCk f pp ee tN env t → rWs f pp ee (V.2.2.1 32) L env (cEv t) → tGd kk cnt t → tO3 t → xcR t → (l = false → m < N ∧ ∀ n, kD t + 4 ≤ n → rHo τ (zF h0 qs ks T n 126 [.ref h0, .int (nI m), .int k] τ) (xmC T f pp ee h env vs t 0)) ∧ (l = true → ∀ (acc : Option Bool) (D : Nat), (gl = 20 ∨ gl = 21) → m0 < N → (∀ n, D ≤ n → rHo τ (zF h0 qs ks T n 126 [.ref h0, .int (nI m0), .int k] τ) acc) → m < N ∧ ∀ n, max D (kH t + 4) + kN t ≤ n → rHo τ (zF h0 qs ks T n 126 [.ref h0, .int (nI m), .int k] τ) (xmCo T f pp ee h env vs acc gl t))
  | .leaf, l, gl, m0, m, wf, tr, _, _, _, _, _ => by
    refine ⟨fun e => (by rw [e] at wf; cases wf), fun _ acc D hg hm h0' => ?_⟩
    have tr : m = m0 := tr
    subst tr
    refine ⟨hm, fun n hn' => ?_⟩
    have q := h0' n (by omega)
    have e : xmCo T f pp ee h env vs acc gl .leaf = acc := by
      cases acc with
      | none => rfl
      | some c =>
        show (if c = decide (gl = 21) then some (decide (gl = 21)) else some c) = some c
        split
        · rename_i w; rw [w]
        · rfl
    rw [e]
    exact q
  | .inner g d z a b, l, gl, m0, m, wf, tr, ck, rw', gd, o3, cr => by
    have Ia := r_hold X hN F hc E H En Y hl hl2 hn hto he h191 a
    have Ib := r_hold X hN F hc E H En Y hl hl2 hn hto he h191 b
    obtain ⟨gs, -, -, ga, gb⟩ := gd
    obtain ⟨o1, o2, oa, ob⟩ := o3
    obtain ⟨cr25, cr23, cra, crb⟩ := cr
    rcases wf with ⟨hl', hg, wa, wb⟩ | ⟨hl', hw⟩
    · -- a list
      subst hl' hg
      refine ⟨fun e => (by cases e), fun _ acc D hgl hm0 h0' => ?_⟩
      obtain ⟨m1, mb, ⟨⟨-, hm1⟩, -⟩, ⟨e0, -, e3, e4⟩, ta, tb⟩ := tr
      have ck : gCk f pp ee tN env a ∧ gCk f pp ee tN env b := ck
      have ra : rWs f pp ee (V.2.2.1 32) L env (cEv a) := fun w q => rw' w (List.mem_append_left _ q)
      have rb : rWs f pp ee (V.2.2.1 32) L env (cEv b) := fun w q => rw' w (List.mem_append_right _ q)
      obtain ⟨hmb, Ha⟩ := (Ia false 0 0 mb wa ta ck.1 ra ga oa cra).1 rfl
      have kn : kN (.inner 30 d z a b) = kN a + kN b + 1 := rfl
      have kh : kH (.inner 30 d z a b) = max (kH a) (kH b) + 0 := rfl
      have kd : kD a = kN a + kH a := rfl
      obtain ⟨hm, Hb⟩ := (Ib true gl m1 m wb tb ck.2 rb gb ob crb).2 rfl (xmC2 acc gl (xmC T f pp ee h env vs a 0)) (max D (kD a + 4) + 1) hgl hm1 (fun n hn' => by
        obtain ⟨n, rfl⟩ : ∃ j, n = j + 1 := ⟨n - 1, by omega⟩
        exact r_h2 F h191 hN hm1 hm0 hgl e0 e3 e4 (h0' n (by omega)) (Ha n (by omega)))
      refine ⟨hm, fun n hn' => ?_⟩
      have q := Hb n (by omega)
      have e : xmCo T f pp ee h env vs (xmC2 acc gl (xmC T f pp ee h env vs a 0)) gl b = xmCo T f pp ee h env vs acc gl (.inner 30 d z a b) := by
        have e2 : xmC T f pp ee h env vs (.inner 30 d z a b) gl = xmC2 (xmC T f pp ee h env vs a 0) gl (xmC T f pp ee h env vs b gl) := by
          conv => lhs; unfold xmC
          simp only [reduceIte, Nat.reduceEqDiff]
          rfl
        unfold xmCo
        rw [e2]
        cases acc with
        | none => rfl
        | some c =>
          by_cases cc : c = decide (gl = 21)
          · have f1 : ∀ x, xmC2 (some c) gl x = x := fun x => if_pos cc
            rw [f1, f1]
          · have f1 : ∀ x, xmC2 (some c) gl x = some c := fun x => if_neg cc
            rw [f1, f1, f1]
      rw [← e]
      exact q
    · subst hl'
      refine ⟨fun _ => ?_, fun e => by cases e⟩
      rcases hw with ⟨hg, wa, wb⟩ | ⟨hg, wa, hb⟩ | ⟨hg, ha, hb⟩ | ⟨hg, hd⟩ | ⟨hg, hp1, hp2⟩
      · -- || and &&
        have fin : ∀ gg, (gg = 20 ∨ gg = 21) → g = gg → (m < N ∧ ∀ n, kD (.inner g d z a b) + 4 ≤ n → rHo τ (zF h0 qs ks T n 126 [.ref h0, .int (nI m), .int k] τ) (xmC T f pp ee h env vs (.inner g d z a b) 0)) := fun gg hgg eg => by
          subst eg
          have ck : gCk f pp ee tN env a ∧ gCk f pp ee tN env b := by
            rcases hgg with q | q <;> (subst q; exact ck)
          have re : cEv (.inner g d z a b) = cEv a ++ cEv b := by
            rcases hgg with q | q <;> (subst q; rfl)
          rw [re] at rw'
          have tr' : ∃ m1, rTr pp V lo N S P A a 0 0 m1 ∧ rTr pp V lo N S P A b g m1 m := by
            rcases hgg with q | q <;> (subst q; exact tr)
          obtain ⟨m1, ta, tb⟩ := tr'
          obtain ⟨hm1, Ha⟩ := (Ia false 0 0 m1 wa ta ck.1 (fun w q => rw' w (List.mem_append_left _ q)) ga oa cra).1 rfl
          obtain ⟨hm, Hb⟩ := (Ib true g m1 m wb tb ck.2 (fun w q => rw' w (List.mem_append_right _ q)) gb ob crb).2 rfl (xmC T f pp ee h env vs a 0) (kD a + 4) hgg hm1 Ha
          have kn : kN (.inner g d z a b) = kN a + kN b + 0 := by rcases hgg with q | q <;> (subst q; rfl)
          have kh : kH (.inner g d z a b) = max (kH a) (kH b) + 0 := by rcases hgg with q | q <;> (subst q; rfl)
          have kd : kD a = kN a + kH a := rfl
          have kd2 : kD (.inner g d z a b) = kN (.inner g d z a b) + kH (.inner g d z a b) := rfl
          exact (⟨hm, fun n hn' => by
            have q := Hb n (by omega)
            have e : xmCo T f pp ee h env vs (xmC T f pp ee h env vs a 0) g b = xmC T f pp ee h env vs (.inner g d z a b) 0 := by
              conv => rhs; unfold xmC
              rcases hgg with w | w
              · subst w
                simp only [reduceIte, Nat.reduceEqDiff]
                unfold xmCo xmC2
                cases xmC T f pp ee h env vs a 0 with
                | none => rfl
                | some c => cases c <;> rfl
              · subst w
                simp only [reduceIte, Nat.reduceEqDiff]
                unfold xmCo xmC2
                cases xmC T f pp ee h env vs a 0 with
                | none => rfl
                | some c => cases c <;> rfl
            rw [← e]
            exact q⟩ : m < N ∧ ∀ n, kD (.inner g d z a b) + 4 ≤ n → rHo τ (zF h0 qs ks T n 126 [.ref h0, .int (nI m), .int k] τ) (xmC T f pp ee h env vs (.inner g d z a b) 0))
        rcases hg with q | q
        · exact fin 20 (Or.inl rfl) q
        · exact fin 21 (Or.inr rfl) q
      · -- not
        subst hg
        obtain ⟨⟨⟨-, hm⟩, e0, -⟩, x, e3, ta⟩ := tr
        have ck : gCk f pp ee tN env a ∧ gCk f pp ee tN env b := ck
        obtain ⟨hx, Ha⟩ := (Ia false 0 0 x wa ta ck.1 (fun w q => rw' w (List.mem_append_left _ q)) ga oa cra).1 rfl
        have kd : kD (.inner 22 d z a b) = kN a + kN b + 0 + (max (kH a) (kH b) + 1) := rfl
        have kd' : kD a = kN a + kH a := rfl
        refine ⟨hm, fun n hn' => ?_⟩
        obtain ⟨n, rfl⟩ : ∃ j, n = j + 1 := ⟨n - 1, by omega⟩
        obtain ⟨r6, r9, -, -, -⟩ := F.r6 m
        have q := Ha n (by omega)
        have ex : xmC T f pp ee h env vs (.inner 22 d z a b) 0 = (xmC T f pp ee h env vs a 0).map (fun c => !c) := by
          conv => lhs; unfold xmC
          simp only [reduceIte, Nat.reduceEqDiff]
        rw [ex, zE_holds]
        unfold b_holds
        rw [zgd_at (zin_n (by omega) (by decide)), nI_clamp (by omega), r6, e0, if_neg (show ¬ nI 22 = (20 : Int32) by decide), if_neg (show ¬ nI 22 = (21 : Int32) by decide), if_pos (show nI 22 = (22 : Int32) from rfl), zgd_at (zin_n (by omega) (by decide)), r9, e3]
        cases w : xmC T f pp ee h env vs a 0 with
        | none =>
          rw [w] at q
          obtain ⟨x', hx', e⟩ := q
          rw [e, zci_at]
          rcases hx' with hx' | hx'
          · rw [if_pos hx']
            exact ⟨1, Or.inr rfl, rfl⟩
          · rw [if_neg (by rw [hx']; decide)]
            exact ⟨0, Or.inl rfl, rfl⟩
        | some c =>
          rw [w] at q
          have e : zF h0 qs ks T n 126 [.ref h0, .int (nI x), .int k] τ = some (some (.int (b01 c)), τ) := q
          rw [e, zci_at]
          cases c with
          | true => rw [if_neg (by decide)]; rfl
          | false => rw [if_pos (show b01 false = 0 from rfl)]; rfl
      · -- true, false
        subst hg
        obtain ⟨⟨⟨-, hm⟩, e0, -⟩, e3⟩ := tr
        refine ⟨hm, fun n hn' => ?_⟩
        obtain ⟨n, rfl⟩ : ∃ j, n = j + 1 := ⟨n - 1, by omega⟩
        obtain ⟨r6, r9, -, -, -⟩ := F.r6 m
        have ex : xmC T f pp ee h env vs (.inner 23 d z a b) 0 = some (decide (d.2.1 = 1)) := by
          conv => lhs; unfold xmC
          simp only [reduceIte, Nat.reduceEqDiff]
        rw [ex, zE_holds]
        unfold b_holds
        rw [zgd_at (zin_n (by omega) (by decide)), nI_clamp (by omega), r6, e0, if_neg (show ¬ nI 23 = (20 : Int32) by decide), if_neg (show ¬ nI 23 = (21 : Int32) by decide), if_neg (show ¬ nI 23 = (22 : Int32) by decide), if_pos (show nI 23 = (23 : Int32) from rfl), zgd_at (zin_n (by omega) (by decide)), r9, e3]
        by_cases w : d.2.1 = 1
        · rw [if_pos (show nI d.2.1 = (1 : Int32) by rw [w]; rfl), decide_eq_true w]
          rfl
        · rw [decide_eq_false w]
          have := cr23 rfl
          rw [if_neg (show ¬ nI d.2.1 = (1 : Int32) by rw [show d.2.1 = 0 by omega]; decide)]
          rfl
      · -- a NAME
        subst hg
        obtain ⟨⟨⟨-, hm⟩, e0, -⟩, e3⟩ := tr
        refine ⟨hm, fun n hn' => ?_⟩
        obtain ⟨n, rfl⟩ : ∃ j, n = j + 2 := ⟨n - 2, by omega⟩
        obtain ⟨r6, r9, -, -, -⟩ := F.r6 m
        have hlen := X.1.2.2.2.2.2.2
        have hu := rw' d.1 (List.mem_singleton_self _)
        obtain ⟨j, g1, g2, g3, g4⟩ := r_get (n := n) (h0 := h0) (qs := qs) (ks := ks) (T := T) F hc E En hn hto X.2.2.1.1 X.2.2.1.2 (by have := X.2.2.2; omega) hu
        have ex : xmC T f pp ee h env vs (.inner 24 d z a b) 0 = some (decide ((xmGet f pp ee env vs d.1).2 ≠ 0)) := by
          conv => lhs; unfold xmC
          simp only [reduceIte, Nat.reduceEqDiff]
        rw [ex, zE_holds]
        unfold b_holds
        rw [zgd_at (zin_n (by omega) (by decide)), nI_clamp (by omega), r6, e0, if_neg (show ¬ nI 24 = (20 : Int32) by decide), if_neg (show ¬ nI 24 = (21 : Int32) by decide), if_neg (show ¬ nI 24 = (22 : Int32) by decide), if_neg (show ¬ nI 24 = (23 : Int32) by decide), if_pos (show nI 24 = (24 : Int32) from rfl), zgd_at (zin_n (by omega) (by decide)), r9, e3, zgd_at (zin_n (by omega) (by decide)), nI_clamp (by omega), F.1 32 (by decide), g1, zci_at, zgd_at (zin_n (by omega) (by decide)), nI_clamp (by omega), g4]
        have lz : (lg_cmp (xmGet f pp ee env vs d.1).2 0 = 0) ↔ (xmGet f pp ee env vs d.1).2 = 0 := lg_eq _ _
        by_cases w : (xmGet f pp ee env vs d.1).2 = 0
        · rw [if_pos (lz.mpr w), decide_eq_false (fun q => q w)]
          rfl
        · rw [if_neg (fun q => w (lz.mp q)), decide_eq_true w]
          rfl
      · -- a comparison
        subst hg
        obtain ⟨⟨⟨-, hm⟩, e0, -⟩, ⟨-, e5⟩, x, y, ⟨e3, e4⟩, s1, s2⟩ := tr
        refine ⟨hm, fun n hn' => ?_⟩
        obtain ⟨n, rfl⟩ : ∃ j, n = j + 4 := ⟨n - 4, by omega⟩
        obtain ⟨r6, r9, r10, r11, -⟩ := F.r6 m
        have ck : gSo f pp ee tN env d.2.2.2.1.2 ∧ gSo f pp ee tN env d.2.2.2.2.2 := ck
        have re : cEv (.inner 25 d z a b) = sEv d.2.2.2.1.2 ++ sEv d.2.2.2.2.2 := rfl
        rw [re] at rw'
        have v1 := r_val (n := n) (h0 := h0) (qs := qs) (ks := ks) X F hc E H En Y hl hl2 hn hto he h191 s1 o1 gs.1 (fun w q => rw' w (List.mem_append_left _ q)) ck.1
        have v2 := r_val (n := n) (h0 := h0) (qs := qs) (ks := ks) X F hc E H En Y hl hl2 hn hto he h191 s2 o2 gs.2 (fun w q => rw' w (List.mem_append_right _ q)) ck.2
        have ex : xmC T f pp ee h env vs (.inner 25 d z a b) 0 = (if xmB (xmSm T f pp ee h env vs d.2.2.2.1.2) = true then (if xmB (xmSm T f pp ee h env vs d.2.2.2.2.2) = true then some (xmCm d.2.2.1 (xmSm T f pp ee h env vs d.2.2.2.1.2) (xmSm T f pp ee h env vs d.2.2.2.2.2)) else none) else none) := by
          conv => lhs; unfold xmC
          simp only [reduceIte, Nat.reduceEqDiff]
        rw [ex, zE_holds]
        unfold b_holds
        rw [zgd_at (zin_n (by omega) (by decide)), nI_clamp (by omega), r6, e0, if_neg (show ¬ nI 25 = (20 : Int32) by decide), if_neg (show ¬ nI 25 = (21 : Int32) by decide), if_neg (show ¬ nI 25 = (22 : Int32) by decide), if_neg (show ¬ nI 25 = (23 : Int32) by decide), if_neg (show ¬ nI 25 = (24 : Int32) by decide), zgd_at (zin_n (by omega) (by decide)), r9, e3, v1]
        generalize xmSm T f pp ee h env vs d.2.2.2.1.2 = p1 at v1 ⊢
        generalize xmSm T f pp ee h env vs d.2.2.2.2.2 = p2 at v2 ⊢
        rw [zcl_at']
        by_cases w1 : xmB p1 = true
        · rw [if_pos w1, if_pos w1, if_pos h191, zgd_at (zin_n (by omega) (by decide)), r10, e4, v2, zcl_at']
          by_cases w2 : xmB p2 = true
          · rw [if_pos w2, if_pos w2, zgd_at (zin_n (by omega) (by decide)), r11, e5]
            exact xr_rel p1 p2 d.2.2.1 (cr25 rfl)
          · rw [if_neg w2, if_neg w2, zgd_at (zin_n (by omega) (by decide))]
            show rHo τ _ none
            repeat' split
            all_goals first
              | exact ⟨0, Or.inl rfl, rfl⟩
              | exact ⟨1, Or.inr rfl, rfl⟩
        · rw [if_neg w1, if_neg w1, if_neg (show ¬ (zI τ 191 2).1 191 = 0 by rw [zI_191]; decide)]
          exact ⟨0, Or.inl rfl, rfl⟩
end XRH
