/-! run(), the class: of a PROGRAM -/
section HRA
variable {κ : oKv} {T sz lo len cnt j : Nat} {kk pp ee f fc : Nat → Int32} {xs : List tQ} {is : List (Nat × Nat)} {e : tT} {α : Nat → tY} {N S P A x0 : Nat} {B : Nat → Nat} {p : Nat} {V σ : oSt} {D : cDt} {at2 cd' : Nat} {am2 : Int32} {nm : Nat → Option Nat} {e0 : Nat} {fb fr fz fn : Nat → Int32} {g : gG} {ρ : Nat → tY} {lv : Int32} {τ : zSt} {W : Nat → Prop} {ma ha0 : Nat}
theorem vL.mo {lo' : Nat} (h : vL lo V σ) (hl : lo ≤ lo') : vL lo' V σ := ⟨fun a fs ha => h.1 a fs (by omega), fun a fs ha => h.2.1 a fs (by omega), fun a cc ha => h.2.2.1 a cc (by omega), h.2.2.2⟩
/-- numbers are NUMBERS everywhere -/
theorem hTw_of {τ : zSt} (hT : 2010 ≤ T) (hw : rW τ T len cnt kk pp ee f) : ∀ (t : tT) (env : List Nat), tKn kk t → tGd kk cnt t → wTx T f pp ee t env → hTw T f pp ee t
  | .leaf, _, _, _, _ => trivial
  | .inner g d z a b, env, hk, hg, ht => by
    obtain ⟨⟨k1, k2⟩, ka, kb⟩ := hk
    obtain ⟨⟨g1, g2⟩, -, ⟨-, -, g36⟩, ga, gb⟩ := hg
    obtain ⟨-, t2⟩ := ht
    have SN : ∀ {ps : List tP}, sKn kk ps → sGd cnt ps → sNw T f pp ee ps := fun {ps} q1 q2 p' hp hp0 => by
      have := (nW_bd hT hw (q2.1 p' hp) (q1 p' hp hp0)).1
      omega
    refine ⟨⟨SN k1 g1, SN k2 g2⟩, ?_, ?_⟩
    · by_cases c : g = 4 ∨ g = 5
      · have n1 : ¬ g = 1 := by omega
        have n2 : ¬ g = 2 := by omega
        have n3 : ¬ g = 3 := by omega
        rw [if_neg n1, if_neg n2, if_neg n3, if_pos c] at t2
        rw [if_pos c]
        exact ⟨t2.1.2.1, t2.1.1⟩
      · rw [if_neg c] at ka ⊢
        have : ∃ env', wTx T f pp ee a env' := by
          by_cases n1 : g = 1
          · rw [if_pos n1] at t2; exact ⟨_, t2.1⟩
          rw [if_neg n1] at t2
          by_cases n2 : g = 2
          · rw [if_pos n2] at t2; exact ⟨_, t2.1⟩
          rw [if_neg n2] at t2
          by_cases n3 : g = 3
          · rw [if_pos n3] at t2; exact ⟨_, t2⟩
          rw [if_neg n3, if_neg c] at t2
          by_cases n4 : g = 19
          · rw [if_pos n4] at t2; exact ⟨_, t2.1⟩
          · rw [if_neg n4] at t2; exact ⟨_, t2.1⟩
        obtain ⟨env', h'⟩ := this
        exact hTw_of hT hw a env' ka ga h'
    · by_cases n3 : g = 3
      · have hb : b = .leaf := g36 (Or.inl n3)
        rw [hb]
        trivial
      · have : ∃ env', wTx T f pp ee b env' := by
          by_cases n1 : g = 1
          · rw [if_pos n1] at t2; exact ⟨_, t2.2⟩
          rw [if_neg n1] at t2
          by_cases n2 : g = 2
          · rw [if_pos n2] at t2; exact ⟨_, t2.2⟩
          rw [if_neg n2, if_neg n3] at t2
          by_cases c : g = 4 ∨ g = 5
          · rw [if_pos c] at t2; exact ⟨_, t2.2⟩
          rw [if_neg c] at t2
          by_cases n4 : g = 19
          · rw [if_pos n4] at t2; exact ⟨_, t2.2⟩
          · rw [if_neg n4] at t2; exact ⟨_, t2.2⟩
        obtain ⟨env', h'⟩ := this
        exact hTw_of hT hw b env' kb gb h'
/-- **what go() wants of a PROGRAM** -/
theorem pg_po (hT : 2010 ≤ T) (hp : pgT T len cnt j kk pp ee f fc xs is e α) (hr : rPo T len cnt kk pp ee f xs is e N S P A x0 τ) (hV : pgV κ T sz len cnt kk pp ee fc xs is e B p V D at2 cd' am2 nm e0 fb fr fz fn) (hB : ∃ w r v ka pa ea, B = pA w r v ka pa ea p) (hsz : sz ≤ lo) (hS : pgS κ T lo cnt kk pp ee f fc is e α B p V D nm e0 g ρ lv σ) (oR : oRm sz σ) (hκ : κ.2.2.1 < sz) (hm : ∃ fm, σ.1 ma = some (.inr (5, fm))) (hh : ∃ k g, σ.1 ha0 = some (.inl (.long, k, g))) (hW : ∀ x, W x → x < lo) : hPo T pp ee f fc (fun u => (mEnd f pp ee is e).2.2.1 u α) (is.map Prod.fst ++ tW e) V nm p W ma ha0 σ ∧ hFl κ D V p p (nF e) ∧ hFi κ D V p p nm is e0 ∧ hTt κ T kk pp ee f fc (fun u => (mEnd f pp ee is e).2.2.1 u α) B D V nm p σ (nF e) e (is.map Prod.fst) e0 := by
  obtain ⟨⟨kn, -, -, -, -, -, -⟩, -, wt, -, -, -⟩ := tx_1 hT hp hr
  obtain ⟨⟨p1, p1', p1''⟩, p2, p3, p4, ⟨p5, p5'⟩, ⟨⟨⟨g0, g1⟩, g2, ⟨i0, g3⟩, ⟨g4, g4', g4''⟩, g5, g6, g7⟩, p6', p6'', p6q⟩, p7, p8, p9, p10, p11, p12⟩ := hp
  have r1 := hr.1
  obtain ⟨s1, s2, -, s4, s5, s6, -⟩ := hS
  obtain ⟨⟨v1, v2, v3⟩, v4, -, vI, v5, v6, ⟨v7, v8, v9, -⟩, -⟩ := hV
  obtain ⟨⟨fr1, fl1, -, -⟩, -, -, ⟨⟨mc8, l8⟩, ⟨mc9, l9⟩, -⟩, -⟩ := v1
  obtain ⟨fm, hm⟩ := hm
  have hml : ma < σ.2.1 := Nat.lt_of_not_le (fun w => by rw [oR.2.1 ma w] at hm; cases hm)
  have P0 : hPo T pp ee f fc (fun u => (mEnd f pp ee is e).2.2.1 u α) (is.map Prod.fst ++ tW e) V nm p W ma ha0 σ := by
    refine ⟨s1.mo s2, fun u hu => ?_, ⟨fun env w => by rw [nFind_cg p9 p1''], fun ps => sPl_a r1 p1'' p9 p12 ps⟩, ⟨oR.2.1, ⟨fm, hm⟩, hh, hml⟩, fun x hx => by have := hW x hx; omega⟩
    obtain ⟨b, fs, c, gs, b1, b2, b3, b4, -, -, -, b5⟩ := s4 u hu
    exact ⟨b, fs, gs, b1, b2, b3, b4, b5⟩
  have B0 : B 0 = p := by obtain ⟨w, r, v, ka, pa, ea, rfl⟩ := hB; rfl
  have B8 : p ≤ B 8 := by obtain ⟨w, r, v, ka, pa, ea, rfl⟩ := hB; exact Nat.le_add_right _ _
  have B9 : p ≤ B 9 := by obtain ⟨w, r, v, ka, pa, ea, rfl⟩ := hB; exact Nat.le_add_right _ _
  rw [B0] at v2
  have DD : ∀ {d cap q ci xx : Nat} {mc : Int32} {gg : Nat → Option Nat}, cLs κ V xx d cap q mc gg ci → (p ≤ d ∨ d = κ.2.2.1) → (p ≤ d ∨ (d = κ.2.2.1 ∧ V.1 d = none)) := fun c q => by
    rcases q with q | q
    · exact Or.inl q
    · exact Or.inr ⟨q, by rw [q]; exact fl1 _ hκ⟩
  have ln : (is.map Prod.fst ++ tW e).length < 2 ^ 31 := by
    have := v3
    omega
  refine ⟨P0, ⟨Nat.le_refl _, _, B 9, _, _, mc9, v2, rfl, B9, by rw [← v7]; exact l9, DD l9 v9, by
    have := v3
    omega⟩, ⟨_, B 8, _, _, mc8, _, v2, rfl, rfl, rfl, B8, l8, DD l8 v8, ⟨by rw [v5, List.length_append, List.length_map]; omega, by omega⟩, fun i y hy => v6 i y.1 ?_⟩, ⟨_, p, 0, ⟨Nat.le_refl _, by omega⟩, s5⟩, fun k u hu => ?_, hTw_of hT r1 e _ kn p6' wt⟩
  · rw [List.getElem?_append_left (by rw [List.length_map]; exact xget_lt hy), List.getElem?_map, hy]
    rfl
  · -- INPUTS know their places
    have hu' := hu
    rw [List.getElem?_map] at hu'
    cases q : is[k]? with
    | none => rw [q] at hu'; cases hu'
    | some y =>
      rw [q] at hu'
      injection hu' with hu'
      have IS : ∀ (l : List (Nat × Nat)) (k0 k1 : Nat) (y : Nat × Nat), cIs B D p V nm l k0 → l[k1]? = some y → ∃ b q, nm y.1 = some b ∧ cOk B D p V b ∧ V.1 b = some (.inr (6, ((cNa q).set 3 (.int (iCd y.2))).set 1 (.int (nI (k0 + k1))))) := fun l => by
        induction l with
        | nil => intro k0 k1 y _ h; cases h
        | cons z l ih =>
          intro k0 k1 y c h
          obtain ⟨c1, c2⟩ := c
          cases k1 with
          | zero =>
            injection h with h
            subst h
            exact c1
          | succ k1 =>
            obtain ⟨b, q, e1, e2, e3⟩ := ih (k0 + 1) k1 y c2 h
            exact ⟨b, q, e1, e2, by rw [e3, show k0 + 1 + k1 = k0 + (k1 + 1) by omega]⟩
      obtain ⟨b, qq, b1, b2, b3⟩ := IS is 0 k y vI q
      rw [Nat.zero_add] at b3
      have pb : p ≤ b := b2.1
      obtain ⟨gs, r1', -, -, r2⟩ := P0.1.2.1 b _ pb b3
      obtain ⟨b', fs, gs', a1, a2, a3, a4, a5⟩ := P0.2.1 u (List.mem_append_left _ (List.mem_of_getElem? hu))
      rw [← hu', b1] at a1
      injection a1 with a1
      subst a1
      rw [r1'] at a4
      injection a4 with a4; injection a4 with a4; injection a4 with _ a4
      subst a4
      exact ⟨b, gs, by rw [← hu']; exact b1, pb, r1', r2, a5⟩
end HRA
