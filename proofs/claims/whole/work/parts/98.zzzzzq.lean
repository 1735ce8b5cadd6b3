/-! the reference's typer: conditions -/
section RTC
variable {ks : Nat → Nat} {qs : List Nat} {Tt h0 k0 am len cnt lo N S P A : Nat} {V : zSt} {L env : List Nat} {kk pp ee f : Nat → Int32}
theorem tFm.r {τ : zSt} (fm : tFm V τ) {k : Nat} (hk : ¬ (k = 31 ∨ (34 ≤ k ∧ k ≤ 39))) (m : Nat) : τ.2.2.1 k m = V.2.2.1 k m := congrFun (fm.2.2.1 k hk) m
theorem tGo_two {m m0 mb D Da B Ba g : Nat} {Fs Fa : mS → mS} (hm : m < 2100) (hg : g = 20 ∨ g = 21) (h6 : V.2.2.1 6 m = nI g) (h9 : V.2.2.1 9 m = nI m0) (h10 : V.2.2.1 10 m = nI mb) (H : tGo ks qs Tt h0 k0 L env V am 47 m0 D B Fs) (Ha : tGo ks qs Tt h0 k0 L env V am 47 mb Da Ba Fa) : tGo ks qs Tt h0 k0 L env V am 47 m (max D Da + 1) (B + Ba) (fun s => Fa (Fs s)) := fun n τ s gr T c hn fm h hc => by
  obtain ⟨n, rfl⟩ : ∃ n', n = n' + 1 := ⟨n - 1, by omega⟩
  obtain ⟨υ, u1, g1, T1, c1, u2, u3, u4, u5, u6⟩ := H n τ s gr T c (by omega) fm h (by omega)
  obtain ⟨v, v1, g2, T2, c2, v2, v3, v4, v5, v6⟩ := Ha n υ (Fs s) g1 T1 c1 (by omega) (fm.tr u4) u2 (by omega)
  have e10 : υ.2.2.1 10 m = nI mb := ((fm.tr u4).r (by omega) m).trans h10
  have e6 : τ.2.2.1 6 m = nI g := (fm.r (by omega) m).trans h6
  have e9 : τ.2.2.1 9 m = nI m0 := (fm.r (by omega) m).trans h9
  have fin : rGo k0 L env τ gr T c am (B + Ba) (Fa (Fs s)) v := ⟨g2, T2, c2, v2, by omega, u4.tr v4, u5.tr v5, v6.trans u6⟩
  rw [zE_typesOfCondition]
  unfold b_typesOfCondition
  simp only [zgd, zin_n hm (by decide), if_true, nI_clamp (show m < 2 ^ 31 by omega), e6, e9]
  rcases hg with rfl | rfl
  · rw [if_pos (by decide)]
    simp only [u1, zcv, e10, v1]
    exact ⟨v, rfl, fin⟩
  · rw [if_neg (by decide), if_pos (by decide)]
    simp only [u1, zcv, e10, v1]
    exact ⟨v, rfl, fin⟩
set_option maxHeartbeats 1000000 in
/-- typesOfCondition(c) -/
theorem r_tcond (hT : 9010 ≤ Tt) (hN : N ≤ 2100) (hS : S ≤ 2100) (hP : P ≤ 2100) (hw : rW V Tt len cnt kk pp ee f) (hL : L.length ≤ 700) (t : tT) :
    (∀ (m : Nat), cWf cnt t false → tO3 t → rWs f pp ee (V.2.2.1 32) L env (cEv t) → rTr pp V lo N S P A t 0 0 m → tGo ks qs Tt h0 k0 L env V am 47 m (am + 7 + kD t) (cEv t).length (mCt f pp ee env t)) ∧
    (∀ (gl m0 m D B : Nat) (Fs : mS → mS), (gl = 20 ∨ gl = 21) → cWf cnt t true → tO3 t → rWs f pp ee (V.2.2.1 32) L env (cEv t) → rTr pp V lo N S P A t gl m0 m → tGo ks qs Tt h0 k0 L env V am 47 m0 (am + 7 + D) B Fs → tGo ks qs Tt h0 k0 L env V am 47 m (am + 7 + (max D (kH t) + kN t)) (B + (cEv t).length) (fun s => mCt f pp ee env t (Fs s))) := by
  induction t with
  | leaf =>
    refine ⟨fun m h => (by cases h), fun gl m0 m D B Fs _ _ _ _ h hk => ?_⟩
    have e : m = m0 := h
    rw [e]
    exact hk.mo (by show am + 7 + D ≤ am + 7 + (max D 0 + 0); omega) (Nat.le_add_right _ _)
  | inner g d z a b Ia Ib =>
    refine ⟨fun m h ho hu ht => ?_, fun gl m0 m D B Fs hg h ho hu ht hk => ?_⟩
    · rcases h with ⟨h, _⟩ | ⟨_, h⟩
      · cases h
      rcases h with ⟨hg, wa, wb⟩ | ⟨rfl, wa, rfl⟩ | ⟨rfl, rfl, rfl⟩ | ⟨rfl, w1⟩ | ⟨rfl, w1, w2⟩
      · have go : ∀ m1 gl, (gl = 20 ∨ gl = 21) → rWs f pp ee (V.2.2.1 32) L env (cEv a ++ cEv b) → rTr pp V lo N S P A a 0 0 m1 → rTr pp V lo N S P A b gl m1 m → tGo ks qs Tt h0 k0 L env V am 47 m (am + 7 + (max (kD a) (kH b) + kN b)) ((cEv a).length + (cEv b).length) (fun s => mCt f pp ee env b (mCt f pp ee env a s)) := fun m1 gl hgl hu t1 t2 =>
          Ib.2 gl m1 m (kD a) _ _ hgl wb ho.2.2.2 (fun w hw => hu w (List.mem_append_right _ hw)) t2 (Ia.1 m1 wa ho.2.2.1 (fun w hw => hu w (List.mem_append_left _ hw)) t1)
        have len : ((cEv a).length + (cEv b).length) ≤ (cEv a ++ cEv b).length := by rw [List.length_append]; exact Nat.le_refl _
        rcases hg with rfl | rfl
        · obtain ⟨m1, t1, t2⟩ := ht
          exact (go m1 20 (Or.inl rfl) hu t1 t2).mo (by show am + 7 + (max (kN a + kH a) (kH b) + kN b) ≤ am + 7 + ((kN a + kN b + 0) + (max (kH a) (kH b) + 0)); omega) len
        · obtain ⟨m1, t1, t2⟩ := ht
          exact (go m1 21 (Or.inr rfl) hu t1 t2).mo (by show am + 7 + (max (kN a + kH a) (kH b) + kN b) ≤ am + 7 + ((kN a + kN b + 0) + (max (kH a) (kH b) + 0)); omega) len
      · obtain ⟨t0, x, t1, t2⟩ := ht
        have hu : rWs f pp ee (V.2.2.1 32) L env (cEv a ++ []) := hu
        rw [List.append_nil] at hu
        have H := Ia.1 x wa ho.2.2.1 hu t2
        intro n τ s gr T c hn fm h hc
        have hn : am + 7 + ((kN a + 0 + 0) + (max (kH a) 0 + 1)) ≤ n := hn
        have hc : c + (cEv a ++ []).length ≤ 9000 := hc
        rw [List.append_nil] at hc
        obtain ⟨n, rfl⟩ : ∃ n', n = n' + 1 := ⟨n - 1, by omega⟩
        obtain ⟨υ, u1, u2⟩ := H n τ s gr T c (by show am + 7 + (kN a + kH a) ≤ n; omega) fm h hc
        have h6 : τ.2.2.1 6 m = nI 22 := (fm.r (by omega) m).trans t0.2.1
        have h9 : τ.2.2.1 9 m = nI x := (fm.r (by omega) m).trans t1
        rw [zE_typesOfCondition]
        unfold b_typesOfCondition
        simp only [zgd, zin_n (show m < 2100 by have := t0.1.2; omega) (by decide), if_true, nI_clamp (show m < 2 ^ 31 by have := t0.1.2; omega), h6, h9]
        rw [if_neg (by decide), if_neg (by decide), if_pos (by decide)]
        simp only [u1, zcv]
        exact ⟨υ, rfl, u2.mo (by show _ ≤ (cEv a ++ []).length; rw [List.append_nil]; exact Nat.le_refl _)⟩
      · obtain ⟨t0, t1⟩ := ht
        intro n τ s gr T c hn fm h hc
        obtain ⟨n, rfl⟩ : ∃ n', n = n' + 1 := ⟨n - 1, by omega⟩
        have h6 : τ.2.2.1 6 m = nI 23 := (fm.r (by omega) m).trans t0.2.1
        rw [zE_typesOfCondition]
        unfold b_typesOfCondition
        simp only [zgd, zin_n (show m < 2100 by have := t0.1.2; omega) (by decide), if_true, nI_clamp (show m < 2 ^ 31 by have := t0.1.2; omega), h6]
        rw [if_neg (by decide), if_neg (by decide), if_neg (by decide), if_pos (by decide)]
        exact ⟨τ, rfl, (rGo.rf h).mo (Nat.zero_le _)⟩
      · obtain ⟨t0, t1⟩ := ht
        intro n τ s gr T c hn fm h hc
        have hc : c + 1 ≤ 9000 := hc
        obtain ⟨n, rfl⟩ : ∃ n', n = n' + 1 := ⟨n - 1, by omega⟩
        have h6 : τ.2.2.1 6 m = nI 24 := (fm.r (by omega) m).trans t0.2.1
        have h9 : τ.2.2.1 9 m = nI d.1 := (fm.r (by omega) m).trans t1
        have h4 : τ.2.2.1 4 d.1 = pp d.1 := (fm.r (by omega) _).trans (hw.pl (by omega))
        have hd : d.1 < 2010 := by have := hw.2.2.2.2.2.2; omega
        have hu1 : rUs f pp ee (τ.2.2.1 32) L env d.1 := by rw [fm.2.2.1 32 (by omega)]; exact hu _ (List.mem_singleton_self _)
        obtain ⟨x, x1, x2, υ, x3, x4⟩ := h.mbn (h0 := h0) (qs := qs) (ks := ks) (n := n) (k := 1) (pl := pp d.1) (w := d.1) hT hL (by omega) (by omega) (by decide) hu1
        rw [zE_typesOfCondition]
        unfold b_typesOfCondition
        simp only [zgd, zin_n (show m < 2100 by have := t0.1.2; omega) (by decide), if_true, nI_clamp (show m < 2 ^ 31 by have := t0.1.2; omega), h6, h9]
        rw [if_neg (by decide), if_neg (by decide), if_neg (by decide), if_neg (by decide), if_pos (by decide)]
        simp only [zin_n hd (by decide), if_true, nI_clamp (show d.1 < 2 ^ 31 by omega), x1, zin_n x2 (by decide), nI_clamp (show x < 2 ^ 31 by omega), h4]
        rw [show (2 : Int32) = rKd (1 + 2) from rfl, x3, zcv_at]
        exact ⟨υ, rfl, x4⟩
      · obtain ⟨t0, _, x, y, ⟨t1, t2⟩, s1, s2⟩ := ht
        have hu : rWs f pp ee (V.2.2.1 32) L env (sEv d.2.2.2.1.2 ++ sEv d.2.2.2.2.2) := hu
        intro n τ s gr T c hn fm h hc
        have hc : c + (sEv d.2.2.2.1.2 ++ sEv d.2.2.2.2.2).length ≤ 9000 := hc
        rw [List.length_append] at hc
        obtain ⟨n, rfl⟩ : ∃ n', n = n' + 1 := ⟨n - 1, by omega⟩
        have h6 : τ.2.2.1 6 m = nI 25 := (fm.r (by omega) m).trans t0.2.1
        have h9 : τ.2.2.1 9 m = nI x := (fm.r (by omega) m).trans t1
        obtain ⟨υ, u1, g1, T1, c1, u2, u3, u4, u5, u6⟩ := r_tsum (ks := ks) (qs := qs) (h0 := h0) (k0 := k0) (am := am) hT hS hP hw hL w1 ho.1 (fun w hw => hu w (List.mem_append_left _ hw)) s1 n τ s gr T c (by omega) fm h (by omega)
        obtain ⟨v, v1, g2, T2, c2, v2, v3, v4, v5, v6⟩ := r_tsum (ks := ks) (qs := qs) (h0 := h0) (k0 := k0) (am := am) hT hS hP hw hL w2 ho.2.1 (fun w hw => hu w (List.mem_append_right _ hw)) s2 n υ _ g1 T1 c1 (by omega) (fm.tr u4) u2 (by omega)
        have h10 : υ.2.2.1 10 m = nI y := ((fm.tr u4).r (by omega) m).trans t2
        rw [zE_typesOfCondition]
        unfold b_typesOfCondition
        simp only [zgd, zin_n (show m < 2100 by have := t0.1.2; omega) (by decide), if_true, nI_clamp (show m < 2 ^ 31 by have := t0.1.2; omega), h6, h9]
        rw [if_neg (by decide), if_neg (by decide), if_neg (by decide), if_neg (by decide), if_neg (by decide), if_pos (by decide)]
        simp only [u1, zcv, h10, v1]
        exact ⟨v, rfl, g2, T2, c2, v2, by show c2 ≤ c + (sEv d.2.2.2.1.2 ++ sEv d.2.2.2.2.2).length; rw [List.length_append]; omega, u4.tr v4, u5.tr v5, v6.trans u6⟩
    · rcases h with ⟨_, rfl, wa, wb⟩ | ⟨h, _⟩
      · obtain ⟨m1, mb, ⟨b1, b2⟩, ⟨n0, _, n3, n4⟩, ta, tb⟩ := ht
        have hu : rWs f pp ee (V.2.2.1 32) L env (cEv a ++ cEv b) := hu
        have H := tGo_two (show m1 < 2100 by omega) hg n0 n3 n4 hk (Ia.1 mb wa ho.2.2.1 (fun w hw => hu w (List.mem_append_left _ hw)) ta)
        have H := H.mo (D' := am + 7 + (max D (kD a) + 1)) (by omega) (Nat.le_refl _)
        refine (Ib.2 gl m1 m (max D (kD a) + 1) _ _ hg wb ho.2.2.2 (fun w hw => hu w (List.mem_append_right _ hw)) tb H).mo ?_ ?_
        · show am + 7 + (max (max D (kN a + kH a) + 1) (kH b) + kN b) ≤ am + 7 + (max D (max (kH a) (kH b) + 0) + (kN a + kN b + 1))
          omega
        · show _ ≤ B + (cEv a ++ cEv b).length
          rw [List.length_append]
          omega
      · cases h
/-- isName(s) -/
theorem r_isN {n x : Nat} {t : tS} {τ : zSt} (hS : S ≤ 2100) (hP : P ≤ 2100) (h3 : pO3 t.2) (hs : rSm pp τ S P x t) : zF h0 qs ks Tt (n + 1) 48 [.ref h0, .int (nI x)] τ = some (some (.int (b01 (isN t.2))), τ) := by
  obtain ⟨h1, h2, a, q3, q4, q5, q6⟩ := hs
  rw [zE_isName]
  unfold b_isName
  simp only [zgd, zin_n (show x < 2100 by omega) (by decide), if_true, nI_clamp (show x < 2 ^ 31 by omega), q3, q4]
  have e1 : (nI (a + t.2.length) - nI a = 1) ↔ t.2.length = 1 := by
    have e : nI (a + t.2.length) - nI a = nI t.2.length := by rw [← nI_add]; exact by rw [Int32.add_comm, Int32.add_sub_cancel]
    rw [e]
    exact nI_eq1 (by omega)
  by_cases c1 : t.2.length = 1
  · rw [if_pos (e1.mpr c1)]
    obtain ⟨p, ep⟩ : ∃ p, t.2 = [p] := by
      match ht : t.2, c1 with
      | [p], _ => exact ⟨p, rfl⟩
    obtain ⟨r1, r2, r3⟩ := q6 0 p (by rw [ep]; rfl)
    rw [Nat.add_zero] at r1 r2
    have ha : a < 2100 := by omega
    have p3 := h3 p (by rw [ep]; exact List.mem_singleton_self _)
    simp only [zin_n ha (by decide), if_true, nI_clamp (show a < 2 ^ 31 by omega), r1, r2]
    rw [ep]
    obtain ⟨p1, p2, p4⟩ := p
    show (if nI p1 = 1 then if sg p2 = 1 then _ else _ else _) = _
    have p3 : p1 ≤ 3 := p3
    by_cases c2 : p1 = 1
    · subst c2
      cases p2 <;> rfl
    · have e : isN [(p1, p2, p4)] = false := decide_eq_false (fun z => c2 z.2.1)
      rw [if_neg (fun z => c2 ((nI_eq1 (by omega)).mp z)), e]
      rfl
  · have e : isN t.2 = false := decide_eq_false (fun z => c1 z.1)
    rw [if_neg (fun z => c1 (e1.mp z)), e]
    rfl
end RTC
