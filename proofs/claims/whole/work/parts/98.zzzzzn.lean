/-! the reference: which NAME each word of a tree means -/
section WHT
variable {f pp ee : Nat → Int32} {R : Nat → Int32} {L : List Nat}
theorem kT_pfx (t : tT) (q : kSt) : ∃ l, (kT f pp ee t q).2.1 = q.2.1 ++ l := ⟨_, (kT_12 t q).2⟩
theorem kTc_env (w : Nat) {q : kSt} (hk : kK q) : kEnv (kTc f pp ee w q) = kEnv q ++ [w] ∧ kK (kTc f pp ee w q) := by
  obtain ⟨t1, t2⟩ := kTell_env w hk
  have e3 : kW (kTell w q).2.1 q.2.1.length = w := by
    have := kW_last q.2.1 w []
    rw [List.append_nil] at this
    exact this
  have h3 := kCnt_env (f := f) (pp := pp) (ee := ee) (n := q.2.1.length) t2 (by show _ < (q.2.1 ++ [w]).length; rw [List.length_append]; simp) e3
  rw [t1] at h3
  exact h3
theorem kPar_env : ∀ (n w : Nat) (q : kSt), kK q → kEnv (kPar f pp ee n w q) = kEnv q ++ List.range' w n ∧ kK (kPar f pp ee n w q)
  | 0, w, q, hk => ⟨by rw [List.range'_zero, List.append_nil]; rfl, hk⟩
  | n + 1, w, q, hk => by
    obtain ⟨h1, h2⟩ := kTc_env (f := f) (pp := pp) (ee := ee) w hk
    obtain ⟨h3, h4⟩ := kPar_env n (w + 1) (kTc f pp ee w q) h2
    rw [h1, List.append_assoc] at h3
    rw [List.range'_succ]
    exact ⟨h3, h4⟩
set_option maxHeartbeats 1000000 in
/-- **behind namesOf every word means what the class finds** -/
theorem kT_wo : ∀ (t : tT) (q : kSt), kK q → eD f pp ee (kEnv q) → tWr (kFd f pp ee) t (kEnv q) = [] → (tEv t).Nodup → (∀ w, w ∈ tEv t → R w = (kT f pp ee t q).2.2.1 w) → pfx L (kT f pp ee t q).2.1 → rWo f pp ee R L t (kEnv q)
  | .leaf, q, _, _, _, _, _, _ => trivial
  | .inner g d _ a b, q, hk, he, hw, hn, hR, hL => by
    have Ia := kT_wo a
    have Ib := kT_wo b
    unfold tWr at hw
    unfold tEv at hn hR
    unfold kT at hR hL
    unfold rWo
    by_cases c1 : g = 1
    · rw [if_pos c1] at hw hn hR hL ⊢
      rw [if_pos c1] at hR
      obtain ⟨w1, hw⟩ := List.append_eq_nil_iff.mp hw
      obtain ⟨w2, w3⟩ := List.append_eq_nil_iff.mp hw
      obtain ⟨-, n2, n3⟩ := List.nodup_append.mp hn
      obtain ⟨na, nb, nab⟩ := List.nodup_append.mp n2
      have m0 : d.1 + 1 ∈ [d.1 + 1] := List.mem_singleton_self _
      obtain ⟨e1, e2⟩ := kTell_env (d.1 + 1) hk
      obtain ⟨e3, e4⟩ := kT_env (f := f) (pp := pp) (ee := ee) a e2
      have a12 := kT_12 (f := f) (pp := pp) (ee := ee) a (kTell (d.1 + 1) q)
      have e5 : kW (kT f pp ee a (kTell (d.1 + 1) q)).2.1 q.2.1.length = d.1 + 1 := by
        rw [a12.2]
        exact kW_last q.2.1 (d.1 + 1) (tW a)
      have e6 := kCnt_env (f := f) (pp := pp) (ee := ee) (n := q.2.1.length) e4 (by rw [a12.2]; show _ < ((q.2.1 ++ [d.1 + 1]) ++ tW a).length; simp) e5
      rw [e3, e1] at e6
      have c12 := kCnt_12 (f := f) (pp := pp) (ee := ee) q.2.1.length (kT f pp ee a (kTell (d.1 + 1) q))
      have hL : pfx L (kT f pp ee b (kCnt f pp ee q.2.1.length (kT f pp ee a (kTell (d.1 + 1) q)))).2.1 := hL
      have La : pfx L (kT f pp ee a (kTell (d.1 + 1) q)).2.1 := by
        have := hL.of (kT_pfx b _)
        rw [c12.2] at this
        exact this
      have hR' : ∀ w, w ∈ [d.1 + 1] ++ (tEv a ++ tEv b) → R w = (kT f pp ee b (kCnt f pp ee q.2.1.length (kT f pp ee a (kTell (d.1 + 1) q)))).2.2.1 w := hR
      refine ⟨kTell_wo (q := q) (l := tW a) ?_ (by rw [a12.2] at La; exact La), ?_, ?_⟩
      · rw [hR' _ (List.mem_append_left _ m0), kT_3 b _ (fun z => n3 _ m0 _ (List.mem_append_right _ z) rfl), kCnt_3, kT_3 a _ (fun z => n3 _ m0 _ (List.mem_append_left _ z) rfl)]
        exact upd_at _ _ _
      · have := Ia (kTell (d.1 + 1) q) e2 (by rw [e1]; exact he) (by rw [e1]; exact w2) na (fun w hw => by
          rw [hR' w (List.mem_append_right _ (List.mem_append_left _ hw)), kT_3 b _ (fun z => nab w hw w z rfl), kCnt_3]) La
        rw [e1] at this
        exact this
      · have := Ib _ e6.2 (by rw [e6.1]; exact (he.ap w1).1) (by rw [e6.1]; exact w3) nb (fun w hw => hR' w (List.mem_append_right _ (List.mem_append_right _ hw))) hL
        rw [e6.1] at this
        exact this
    rw [if_neg c1] at hw hn hR hL ⊢
    rw [if_neg c1] at hR
    by_cases c2 : g = 2
    · rw [if_pos c2] at hw hn hR hL ⊢
      rw [if_pos c2] at hR
      obtain ⟨w0, hw⟩ := List.append_eq_nil_iff.mp hw
      obtain ⟨w1, w1'⟩ := List.append_eq_nil_iff.mp w0
      obtain ⟨w2, w3⟩ := List.append_eq_nil_iff.mp hw
      obtain ⟨n1, n2, n3⟩ := List.nodup_append.mp hn
      obtain ⟨-, -, n13⟩ := List.nodup_append.mp n1
      obtain ⟨na, nb, nab⟩ := List.nodup_append.mp n2
      have m0 : d.1 + 2 ∈ [d.1 + 2] := List.mem_singleton_self _
      have hp0 : ∀ w, 0 ≤ (fun _ : Nat => (0 : Int32)) w := fun w => (by decide : (0 : Int32) ≤ 0)
      have E1 : kEnv (kTc f pp ee (d.1 + 2) q) = kEnv q ++ [d.1 + 2] ∧ kK (kTc f pp ee (d.1 + 2) q) := by
        obtain ⟨t1, t2⟩ := kTell_env (d.1 + 2) hk
        have e3 : kW (kTell (d.1 + 2) q).2.1 q.2.1.length = d.1 + 2 := by
          have := kW_last q.2.1 (d.1 + 2) []
          rw [List.append_nil] at this
          exact this
        have h3 := kCnt_env (f := f) (pp := pp) (ee := ee) (n := q.2.1.length) t2 (by show _ < (q.2.1 ++ [d.1 + 2]).length; rw [List.length_append]; simp) e3
        rw [t1] at h3
        exact h3
      have E2 : kEnv (kPar f pp ee d.2.1 (d.1 + 3) (kTc f pp ee (d.1 + 2) q)) = kEnv (kTc f pp ee (d.1 + 2) q) ++ List.range' (d.1 + 3) d.2.1 ∧ kK (kPar f pp ee d.2.1 (d.1 + 3) (kTc f pp ee (d.1 + 2) q)) := kPar_env d.2.1 (d.1 + 3) _ E1.2
      rw [E1.1, List.append_assoc] at E2
      have p12 := kPar_12 (f := f) (pp := pp) (ee := ee) d.2.1 (d.1 + 3) (kTc f pp ee (d.1 + 2) q)
      have c12 := kTc_12 (f := f) (pp := pp) (ee := ee) (d.1 + 2) q
      have t12 := kT_12 (f := f) (pp := pp) (ee := ee) a (kPar f pp ee d.2.1 (d.1 + 3) (kTc f pp ee (d.1 + 2) q))
      have e2 := kT_env (f := f) (pp := pp) (ee := ee) a E2.2
      obtain ⟨q5, hq5⟩ : ∃ x, x = kT f pp ee a (kPar f pp ee d.2.1 (d.1 + 3) (kTc f pp ee (d.1 + 2) q)) := ⟨_, rfl⟩
      rw [← hq5] at hR hL t12 e2
      have K6 : kK (kBk (q.1 ++ [q.2.1.length]) q5) := fun x hx => e2.2 x (by rw [t12.1, p12.1, c12.1]; exact List.mem_append_left _ hx)
      have e5 : q5.2.1 = q.2.1 ++ (([d.1 + 2] ++ List.range' (d.1 + 3) d.2.1) ++ tW a) := by rw [t12.2, p12.2, c12.2]; simp
      have E6 : kEnv (kBk (q.1 ++ [q.2.1.length]) q5) = kEnv q ++ [d.1 + 2] := by
        unfold kEnv
        show (q.1 ++ [q.2.1.length]).map (kW q5.2.1) = _
        rw [List.map_append]
        congr 1
        · refine List.map_congr_left (fun x hx => ?_)
          unfold kW
          rw [e5, List.getD_eq_getElem?_getD, List.getD_eq_getElem?_getD, List.getElem?_append_left (hk x hx)]
        · show [kW q5.2.1 q.2.1.length] = _
          rw [e5, show q.2.1 ++ (([d.1 + 2] ++ List.range' (d.1 + 3) d.2.1) ++ tW a) = (q.2.1 ++ [d.1 + 2]) ++ (List.range' (d.1 + 3) d.2.1 ++ tW a) by simp, kW_last]
      have hR' : ∀ w, w ∈ ([d.1 + 2] ++ List.range' (d.1 + 3) d.2.1) ++ (tEv a ++ tEv b) → R w = (kT f pp ee b (kBk (q.1 ++ [q.2.1.length]) q5)).2.2.1 w := hR
      have hL : pfx L (kT f pp ee b (kBk (q.1 ++ [q.2.1.length]) q5)).2.1 := hL
      have L5 : pfx L q5.2.1 := hL.of (kT_pfx b _)
      have Lp : pfx L (kPar f pp ee d.2.1 (d.1 + 3) (kTc f pp ee (d.1 + 2) q)).2.1 := L5.of ⟨_, t12.2⟩
      have Rp : ∀ w, w ∈ [d.1 + 2] ++ List.range' (d.1 + 3) d.2.1 → R w = (kPar f pp ee d.2.1 (d.1 + 3) (kTc f pp ee (d.1 + 2) q)).2.2.1 w := fun w hw => by
        rw [hR' w (List.mem_append_left _ hw), kT_3 b _ (fun z => n3 w hw w (List.mem_append_right _ z) rfl)]
        show q5.2.2.1 w = _
        rw [hq5, kT_3 a _ (fun z => n3 w hw w (List.mem_append_left _ z) rfl)]
      have he1 := (he.ap w1).1
      refine ⟨⟨kTell_wo (q := q) (l := List.range' (d.1 + 3) d.2.1 ++ tW a) ?_ (by rw [e5] at L5; rw [show q.2.1 ++ [d.1 + 2] ++ (List.range' (d.1 + 3) d.2.1 ++ tW a) = q.2.1 ++ (([d.1 + 2] ++ List.range' (d.1 + 3) d.2.1) ++ tW a) by simp]; exact L5), kPar_wo d.2.1 (d.1 + 3) (kTc f pp ee (d.1 + 2) q) (fun x hx => Rp _ (List.mem_append_right _ (by rw [List.mem_range'_1]; omega))) Lp⟩, ?_, ?_⟩
      · rw [Rp _ (List.mem_append_left _ m0), kPar_3 _ _ _ (fun z => n13 _ m0 _ z rfl), kTc_3s]
      · have := Ia _ E2.2 (by rw [E2.1, ← List.append_assoc]; exact eD.pa _ _ _ he1 w1') (by rw [E2.1]; exact w2) na (fun w hw => by
          rw [hR' w (List.mem_append_right _ (List.mem_append_left _ hw)), kT_3 b _ (fun z => nab w hw w z rfl), ← hq5]
          rfl) (by rw [← hq5]; exact L5)
        rw [E2.1] at this
        exact this
      · have := Ib _ K6 (by rw [E6]; exact he1) (by rw [E6]; exact w3) nb (fun w hw => hR' w (List.mem_append_right _ (List.mem_append_right _ hw))) hL
        rw [E6] at this
        exact this
    rw [if_neg c2] at hw hn hR hL ⊢
    rw [if_neg c2] at hR
    by_cases c3 : g = 3
    · rw [if_pos c3] at hw hn hR hL ⊢
      rw [if_pos c3] at hR
      obtain ⟨w1, w2⟩ := List.append_eq_nil_iff.mp hw
      obtain ⟨-, na, n3⟩ := List.nodup_append.mp hn
      have m0 : d.1 + 1 ∈ [d.1 + 1] := List.mem_singleton_self _
      obtain ⟨E1, K1⟩ := kTc_env (f := f) (pp := pp) (ee := ee) (d.1 + 1) hk
      have c12 := kTc_12 (f := f) (pp := pp) (ee := ee) (d.1 + 1) q
      have hL : pfx L (kT f pp ee a (kTc f pp ee (d.1 + 1) q)).2.1 := hL
      have hR' : ∀ w, w ∈ [d.1 + 1] ++ tEv a → R w = (kT f pp ee a (kTc f pp ee (d.1 + 1) q)).2.2.1 w := hR
      have L1 : pfx L (q.2.1 ++ [d.1 + 1] ++ []) := by
        have := hL.of (kT_pfx a _)
        rw [c12.2] at this
        rw [List.append_nil]
        exact this
      refine ⟨kTell_wo (q := q) (l := []) ?_ L1, ?_⟩
      · rw [hR' _ (List.mem_append_left _ m0), kT_3 a _ (fun z => n3 _ m0 _ z rfl), kTc_3s]
      · have := Ia _ K1 (by rw [E1]; exact (he.ap w1).1) (by rw [E1]; exact w2) na (fun w hw => hR' w (List.mem_append_right _ hw)) hL
        rw [E1] at this
        exact this
    rw [if_neg c3] at hw hn hR hL ⊢
    rw [if_neg c3] at hR
    by_cases c4 : g = 4 ∨ g = 5
    · rw [if_pos c4] at hw hn hR hL ⊢
      rw [if_pos c4] at hR
      obtain ⟨w1, w2⟩ := List.append_eq_nil_iff.mp hw
      obtain ⟨n1, nb, n3⟩ := List.nodup_append.mp hn
      have k12 := kCt_12 (f := f) (pp := pp) (ee := ee) a q
      have ke := kEnv_same k12
      have L1 : pfx L q.2.1 := by
        have := hL.of (kT_pfx b _)
        rw [k12.2] at this
        exact this
      refine ⟨kCt_wo a q hk he w1 n1 (fun w hw => by rw [hR w (List.mem_append_left _ hw), kT_3 b _ (fun z => n3 w hw w z rfl)]) L1, ?_⟩
      have := Ib _ (hk.same k12) (by rw [ke]; exact he) (by rw [ke]; exact w2) nb (fun w hw => hR w (List.mem_append_right _ hw)) hL
      rw [ke] at this
      exact this
    rw [if_neg c4] at hw hn hR hL ⊢
    rw [if_neg c4] at hR
    by_cases c6 : g = 6
    · rw [if_pos c6] at hw hn hR hL ⊢
      rw [if_pos c6] at hR
      obtain ⟨w1, hw⟩ := List.append_eq_nil_iff.mp hw
      obtain ⟨w2, hw⟩ := List.append_eq_nil_iff.mp hw
      obtain ⟨w3, w4⟩ := List.append_eq_nil_iff.mp hw
      obtain ⟨-, n2, n3⟩ := List.nodup_append.mp hn
      obtain ⟨ns, n4, n5⟩ := List.nodup_append.mp n2
      obtain ⟨ns', na, n6⟩ := List.nodup_append.mp n4
      have m0 : d.1 + 1 ∈ [d.1 + 1] := List.mem_singleton_self _
      have u12 := kUse_12 (f := f) (pp := pp) (ee := ee) (d.1 + 1) q
      have s12 := kPs_12 (f := f) (pp := pp) (ee := ee) d.2.2.2.1.2 (kUse f pp ee (d.1 + 1) q)
      have s12' := kPs_12 (f := f) (pp := pp) (ee := ee) d.2.2.2.2.2 (kPs f pp ee d.2.2.2.1.2 (kUse f pp ee (d.1 + 1) q))
      have E1 := kEnv_same u12
      have E2 := (kEnv_same s12).trans E1
      have E3 := (kEnv_same s12').trans E2
      have K1 := hk.same u12
      have K2 := K1.same s12
      have K3 := K2.same s12'
      have L1 : pfx L q.2.1 := by
        have := hL.of (kT_pfx a _)
        rw [s12'.2, s12.2, u12.2] at this
        exact this
      refine ⟨kUse_wo hk he w1 ?_ L1, ?_, ?_, ?_⟩
      · rw [hR _ (List.mem_append_left _ m0), kT_3 a _ (fun z => n3 _ m0 _ (List.mem_append_right _ (List.mem_append_right _ z)) rfl), kPs_3 _ _ (fun z => n3 _ m0 _ (List.mem_append_right _ (List.mem_append_left _ z)) rfl), kPs_3 _ _ (fun z => n3 _ m0 _ (List.mem_append_left _ z) rfl)]
      · have := kPs_wo (R := R) (L := L) d.2.2.2.1.2 (kUse f pp ee (d.1 + 1) q) K1 (by rw [E1]; exact he) (by rw [E1]; exact w2) ns (fun w hw => by rw [hR w (List.mem_append_right _ (List.mem_append_left _ hw)), kT_3 a _ (fun z => n5 w hw w (List.mem_append_right _ z) rfl), kPs_3 _ _ (fun z => n5 w hw w (List.mem_append_left _ z) rfl)]) (by rw [u12.2]; exact L1)
        rw [E1] at this
        exact this
      · have := kPs_wo (R := R) (L := L) d.2.2.2.2.2 _ K2 (by rw [E2]; exact he) (by rw [E2]; exact w3) ns' (fun w hw => by rw [hR w (List.mem_append_right _ (List.mem_append_right _ (List.mem_append_left _ hw))), kT_3 a _ (fun z => n6 w hw w z rfl)]) (by rw [s12.2, u12.2]; exact L1)
        rw [E2] at this
        exact this
      · have := Ia _ K3 (by rw [E3]; exact he) (by rw [E3]; exact w4) na (fun w hw => hR w (List.mem_append_right _ (List.mem_append_right _ (List.mem_append_right _ hw)))) hL
        rw [E3] at this
        exact this
    rw [if_neg c6] at hw hn hR hL ⊢
    rw [if_neg c6] at hR
    by_cases c14 : g = 14
    · rw [if_pos c14] at hw hn hR hL ⊢
      rw [if_pos c14] at hR
      obtain ⟨w1, w2⟩ := List.append_eq_nil_iff.mp hw
      obtain ⟨-, ns, n3⟩ := List.nodup_append.mp hn
      have m0 : d.1 ∈ [d.1] := List.mem_singleton_self _
      have u12 := kUse_12 (f := f) (pp := pp) (ee := ee) d.1 q
      have s12 := kPs_12 (f := f) (pp := pp) (ee := ee) d.2.2.2.1.2 (kUse f pp ee d.1 q)
      have E1 := kEnv_same u12
      have L1 : pfx L q.2.1 := by rw [s12.2, u12.2] at hL; exact hL
      refine ⟨kUse_wo hk he w1 ?_ L1, ?_⟩
      · rw [hR _ (List.mem_append_left _ m0), kPs_3 _ _ (fun z => n3 _ m0 _ z rfl)]
      · have := kPs_wo (R := R) (L := L) d.2.2.2.1.2 (kUse f pp ee d.1 q) (hk.same u12) (by rw [E1]; exact he) (by rw [E1]; exact w2) ns (fun w hw => hR w (List.mem_append_right _ hw)) (by rw [u12.2]; exact L1)
        rw [E1] at this
        exact this
    rw [if_neg c14] at hw hn hR hL ⊢
    rw [if_neg c14] at hR
    by_cases c15 : g = 15
    · rw [if_pos c15] at hw hn hR hL ⊢
      rw [if_pos c15] at hR
      obtain ⟨w1, w2⟩ := List.append_eq_nil_iff.mp hw
      obtain ⟨-, na, n3⟩ := List.nodup_append.mp hn
      have m0 : d.1 ∈ [d.1] := List.mem_singleton_self _
      have u12 := kUse_12 (f := f) (pp := pp) (ee := ee) d.1 q
      have E1 := kEnv_same u12
      have L1 : pfx L q.2.1 := by
        have := hL.of (kT_pfx a _)
        rw [u12.2] at this
        exact this
      refine ⟨kUse_wo hk he w1 ?_ L1, ?_⟩
      · rw [hR _ (List.mem_append_left _ m0), kT_3 a _ (fun z => n3 _ m0 _ z rfl)]
      · have := Ia _ (hk.same u12) (by rw [E1]; exact he) (by rw [E1]; exact w2) na (fun w hw => hR w (List.mem_append_right _ hw)) hL
        rw [E1] at this
        exact this
    rw [if_neg c15] at hw hn hR hL ⊢
    rw [if_neg c15] at hR
    by_cases c18 : g = 18
    · rw [if_pos c18] at hw hn hR hL ⊢
      rw [if_pos c18] at hR
      obtain ⟨w1, w2⟩ := List.append_eq_nil_iff.mp hw
      obtain ⟨ns, -, n3⟩ := List.nodup_append.mp hn
      have m0 : d.2.1 ∈ [d.2.1] := List.mem_singleton_self _
      have s12 := kPs_12 (f := f) (pp := pp) (ee := ee) d.2.2.2.1.2 q
      have u12 := kUse_12 (f := f) (pp := pp) (ee := ee) d.2.1 (kPs f pp ee d.2.2.2.1.2 q)
      have E1 := kEnv_same s12
      have L1 : pfx L q.2.1 := by rw [u12.2, s12.2] at hL; exact hL
      refine ⟨kPs_wo d.2.2.2.1.2 q hk he w1 ns (fun w hw => by rw [hR w (List.mem_append_left _ hw), kUse_3 _ _ (fun e => n3 w hw _ m0 e)]) L1, ?_⟩
      have := kUse_wo (R := R) (L := L) (q := kPs f pp ee d.2.2.2.1.2 q) (w := d.2.1) (hk.same s12) (by rw [E1]; exact he) (by rw [E1]; exact w2) (hR _ (List.mem_append_right _ m0)) (by rw [s12.2]; exact L1)
      rw [E1] at this
      exact this
    rw [if_neg c18] at hw hn hR hL ⊢
    rw [if_neg c18] at hR
    by_cases c19 : g = 19
    · rw [if_pos c19] at hw hn hR hL ⊢
      rw [if_pos c19] at hR
      obtain ⟨w1, hw⟩ := List.append_eq_nil_iff.mp hw
      obtain ⟨w2, hw⟩ := List.append_eq_nil_iff.mp hw
      obtain ⟨w3, w4⟩ := List.append_eq_nil_iff.mp hw
      obtain ⟨-, n2, n3⟩ := List.nodup_append.mp hn
      obtain ⟨na, n4, n5⟩ := List.nodup_append.mp n2
      obtain ⟨-, nb, n6⟩ := List.nodup_append.mp n4
      have m0 : d.1 + 1 ∈ [d.1 + 1] := List.mem_singleton_self _
      have x0 : d.2.1 ∈ [d.2.1, d.2.1 + 1] := List.mem_cons_self ..
      have x1 : d.2.1 + 1 ∈ [d.2.1, d.2.1 + 1] := List.mem_cons_of_mem _ (List.mem_cons_self ..)
      have u12 := kUse_12 (f := f) (pp := pp) (ee := ee) (d.1 + 1) q
      have a12 := kT_12 (f := f) (pp := pp) (ee := ee) a (kUse f pp ee (d.1 + 1) q)
      have E1 := kEnv_same u12
      have K1 := hk.same u12
      obtain ⟨E2, K2⟩ := kT_env (f := f) (pp := pp) (ee := ee) a K1
      rw [E1] at E2
      obtain ⟨q2, hq2⟩ : ∃ x, x = kT f pp ee a (kUse f pp ee (d.1 + 1) q) := ⟨_, rfl⟩
      rw [← hq2] at hR hL E2 K2 a12
      obtain ⟨E3, K3⟩ := kTc_env (f := f) (pp := pp) (ee := ee) d.2.1 K2
      obtain ⟨E4, K4⟩ := kTc_env (f := f) (pp := pp) (ee := ee) (d.2.1 + 1) K3
      rw [E3, E2, List.append_assoc] at E4
      have c12 := kTc_12 (f := f) (pp := pp) (ee := ee) d.2.1 q2
      have d12 := kTc_12 (f := f) (pp := pp) (ee := ee) (d.2.1 + 1) (kTc f pp ee d.2.1 q2)
      have hL : pfx L (kT f pp ee b (kTc f pp ee (d.2.1 + 1) (kTc f pp ee d.2.1 q2))).2.1 := hL
      have hR' : ∀ w, w ∈ [d.1 + 1] ++ (tEv a ++ ([d.2.1, d.2.1 + 1] ++ tEv b)) → R w = (kT f pp ee b (kTc f pp ee (d.2.1 + 1) (kTc f pp ee d.2.1 q2))).2.2.1 w := hR
      have L4 : pfx L ((q2.2.1 ++ [d.2.1]) ++ [d.2.1 + 1]) := by
        have := hL.of (kT_pfx b _)
        rw [d12.2, c12.2] at this
        exact this
      have L2 : pfx L q2.2.1 := L4.of ⟨[d.2.1] ++ [d.2.1 + 1], by rw [List.append_assoc]⟩
      have L1 : pfx L q.2.1 := by
        have := L2.of ⟨_, a12.2⟩
        rw [u12.2] at this
        exact this
      have Rl : ∀ w, w ∉ tEv b → w ≠ d.2.1 → w ≠ d.2.1 + 1 → (kT f pp ee b (kTc f pp ee (d.2.1 + 1) (kTc f pp ee d.2.1 q2))).2.2.1 w = q2.2.2.1 w := fun w h1 h2 h3 => by rw [kT_3 b _ h1, kTc_3 _ _ h3, kTc_3 _ _ h2]
      obtain ⟨pw1, pw2⟩ := List.append_eq_nil_iff.mp (show tlW (kFd f pp ee) d.2.1 (kEnv q) ++ (tlW (kFd f pp ee) (d.2.1 + 1) (kEnv q ++ [d.2.1]) ++ []) = [] from w3)
      rw [List.append_nil] at pw2
      have he2 := ((he.ap pw1).1.ap pw2).1
      rw [List.append_assoc] at he2
      refine ⟨kUse_wo hk he w1 ?_ L1, ?_, ⟨kTell_wo (q := q2) (l := [d.2.1 + 1]) ?_ L4, kTell_wo (q := kTc f pp ee d.2.1 q2) (l := []) ?_ (by rw [c12.2, List.append_nil]; exact L4)⟩, ?_⟩
      · rw [hR' _ (List.mem_append_left _ m0), Rl _ (fun z => n3 _ m0 _ (List.mem_append_right _ (List.mem_append_right _ z)) rfl) (fun e => n3 _ m0 _ (List.mem_append_right _ (List.mem_append_left _ x0)) e) (fun e => n3 _ m0 _ (List.mem_append_right _ (List.mem_append_left _ x1)) e), hq2, kT_3 a _ (fun z => n3 _ m0 _ (List.mem_append_left _ z) rfl)]
      · have := Ia (kUse f pp ee (d.1 + 1) q) K1 (by rw [E1]; exact he) (by rw [E1]; exact w2) na (fun w hw => by
          rw [hR' w (List.mem_append_right _ (List.mem_append_left _ hw)), Rl w (fun z => n5 w hw w (List.mem_append_right _ z) rfl) (fun e => n5 w hw _ (List.mem_append_left _ x0) e) (fun e => n5 w hw _ (List.mem_append_left _ x1) e), hq2]) (by rw [← hq2]; exact L2)
        rw [E1] at this
        exact this
      · rw [hR' _ (List.mem_append_right _ (List.mem_append_right _ (List.mem_append_left _ x0))), kT_3 b _ (fun z => n6 _ x0 _ z rfl), kTc_3 _ _ (by omega), kTc_3s]
      · rw [hR' _ (List.mem_append_right _ (List.mem_append_right _ (List.mem_append_left _ x1))), kT_3 b _ (fun z => n6 _ x1 _ z rfl), kTc_3s]
      · have := Ib _ K4 (by rw [E4]; exact he2) (by rw [E4]; exact w4) nb (fun w hw => hR' w (List.mem_append_right _ (List.mem_append_right _ (List.mem_append_right _ hw)))) hL
        rw [E4] at this
        exact this
    rw [if_neg c19] at hw hn hR hL ⊢
    rw [if_neg c19] at hR
    obtain ⟨w2, hw⟩ := List.append_eq_nil_iff.mp hw
    obtain ⟨w3, hw⟩ := List.append_eq_nil_iff.mp hw
    obtain ⟨w4, w5⟩ := List.append_eq_nil_iff.mp hw
    obtain ⟨ns, n4, n5⟩ := List.nodup_append.mp hn
    obtain ⟨ns', n7, n6⟩ := List.nodup_append.mp n4
    obtain ⟨na, nb, nab⟩ := List.nodup_append.mp n7
    have s12 := kPs_12 (f := f) (pp := pp) (ee := ee) d.2.2.2.1.2 q
    have s12' := kPs_12 (f := f) (pp := pp) (ee := ee) d.2.2.2.2.2 (kPs f pp ee d.2.2.2.1.2 q)
    have a12 := kT_12 (f := f) (pp := pp) (ee := ee) a (kPs f pp ee d.2.2.2.2.2 (kPs f pp ee d.2.2.2.1.2 q))
    have E2 := kEnv_same s12
    have E3 := (kEnv_same s12').trans E2
    have K2 := hk.same s12
    have K3 := K2.same s12'
    obtain ⟨E4, K4⟩ := kT_env (f := f) (pp := pp) (ee := ee) a K3
    rw [E3] at E4
    have L4 := hL.of (kT_pfx b _)
    have L3 := L4.of ⟨_, a12.2⟩
    have L1 : pfx L q.2.1 := by rw [s12'.2, s12.2] at L3; exact L3
    refine ⟨kPs_wo d.2.2.2.1.2 q hk he w2 ns (fun w hw => by rw [hR w (List.mem_append_left _ hw), kT_3 b _ (fun z => n5 w hw w (List.mem_append_right _ (List.mem_append_right _ z)) rfl), kT_3 a _ (fun z => n5 w hw w (List.mem_append_right _ (List.mem_append_left _ z)) rfl), kPs_3 _ _ (fun z => n5 w hw w (List.mem_append_left _ z) rfl)]) L1, ?_, ?_, ?_⟩
    · have := kPs_wo (R := R) (L := L) d.2.2.2.2.2 _ K2 (by rw [E2]; exact he) (by rw [E2]; exact w3) ns' (fun w hw => by rw [hR w (List.mem_append_right _ (List.mem_append_left _ hw)), kT_3 b _ (fun z => n6 w hw w (List.mem_append_right _ z) rfl), kT_3 a _ (fun z => n6 w hw w (List.mem_append_left _ z) rfl)]) (by rw [s12.2]; exact L1)
      rw [E2] at this
      exact this
    · have := Ia _ K3 (by rw [E3]; exact he) (by rw [E3]; exact w4) na (fun w hw => by rw [hR w (List.mem_append_right _ (List.mem_append_right _ (List.mem_append_left _ hw))), kT_3 b _ (fun z => nab w hw w z rfl)]) L4
      rw [E3] at this
      exact this
    · have := Ib _ K4 (by rw [E4]; exact he) (by rw [E4]; exact w5) nb (fun w hw => hR w (List.mem_append_right _ (List.mem_append_right _ (List.mem_append_right _ hw)))) hL
      rw [E4] at this
      exact this
end WHT
