/-! the reference's typed(): if, match -/
section RIG
variable {ks : Nat → Nat} {qs : List Nat} {Tt h0 k0 len cnt lo N S P A aM : Nat} {Z : List (Nat × Nat)} {L : List Nat} {V : zSt} {kk pp ee f : Nat → Int32} {d d' : Nat × Nat × Nat × tS × tS} {z z' : Unit} {a b b1 b2 : tT}
/-- join(), in the form in which typed() calls it -/
theorem rS.jn {env W : List Nat} {Q : List (Int32 × mF)} {τ0 τ : zSt} {g0 : gG} {T0 : Nat → mF} {c0 am B n m x : Nat} {s : mS} {v1 v2 : Int32} {t1 t2 : mF} {K : zSt → zRs} {kr : Nat} (H : rH Tt len cnt lo N S P A L V kk pp ee f) (fm : tFm V τ0) (G : rS k0 Z L env W Q τ0 g0 T0 c0 am B s τ) (h1 : (v1, t1) ∈ Q) (h2 : (v2, t2) ∈ Q) (hn : am + 4 ≤ n) (hm : m < 2100) (hk : kr = 11 ∨ kr = 12) (hx : V.2.2.1 kr m = nI x) (ht : rTr pp V lo N S P A b 0 0 x) (wf : tWf kk cnt b 0) : ∃ τ', (if (τ.1 11) = 0 then zci (zF h0 qs ks Tt n 44 [.ref h0, .int v1, .int v2] τ) fun r s => if r = 0 then zgd (zin (nI m) 2100) (zgd (zin (s.2.2.1 kr (nI m).toNatClampNeg) 2100) (zcv (zF h0 qs ks Tt n 3 [.ref h0, .int 4, .int (s.2.2.1 7 ((s.2.2.1 kr (nI m).toNatClampNeg)).toNatClampNeg)] s) fun s2 => K s2)) else K s else K τ) = K τ' ∧ rS k0 Z L env W Q τ0 g0 T0 c0 am B (mMu t1 t2 (pp (tFw b)) s) τ' := by
  have hxn : x < 2100 := by have := (rTr_fw ht wf).1; have := H.1.2.1; omega
  rcases G.join (h0 := h0) (qs := qs) (ks := ks) (pl := pp (tFw b)) H.1.1 h1 h2 hn with ⟨z, G'⟩ | ⟨z, r, τ1, e1, f1, j1, j2⟩
  · rw [if_neg z]
    exact ⟨τ, rfl, G'⟩
  · rw [if_pos z, e1, zci_at]
    cases r with
    | true =>
      rw [if_neg (show ¬ b01 true = 0 by decide)]
      exact ⟨τ1, rfl, j1 rfl⟩
    | false =>
      obtain ⟨τ2, e2, G2⟩ := j2 rfl
      obtain ⟨n, rfl⟩ : ∃ n', n = n' + 1 := ⟨n - 1, by omega⟩
      have hr : τ1.2.2.1 kr m = nI x := ((fm.tr (G.fm.tr f1)).r (by omega) m).trans hx
      have h7 : τ1.2.2.1 7 x = pp (tFw b) := ((fm.tr (G.fm.tr f1)).r (by omega) x).trans (rTr_fw ht wf).2
      rw [if_pos (show b01 false = 0 from rfl)]
      simp only [zgd, zin_n hm (by decide), if_true, nI_clamp (show m < 2 ^ 31 by omega), hr, zin_n hxn (by decide), nI_clamp (show x < 2 ^ 31 by omega), h7, e2, zcv]
      exact ⟨τ2, rfl, G2⟩
theorem rt_4 (H : rH Tt len cnt lo N S P A L V kk pp ee f) (Ia : rInf ks qs Tt h0 k0 cnt lo N S P A aM L V kk pp ee f b1) (Ib : rInf ks qs Tt h0 k0 cnt lo N S P A aM L V kk pp ee f b2) : rTyp ks qs Tt h0 k0 cnt lo N S P A aM L V kk pp ee f (.inner 4 d z a (.inner 31 d' z' b1 b2)) := fun env τ s g T c am m n ht fm hx hs hc ha hn => by
  obtain ⟨tr, wf, o3, wo, dj, nd, pw⟩ := ht
  obtain ⟨n, rfl⟩ : ∃ n', n = n' + 1 := ⟨n - 1, by omega⟩
  have G0 := rS.rf hx
  obtain ⟨t0, -, x, y, q, ⟨t1, t2, t3⟩, ta, tb1, tb2⟩ := tr
  have hm : m < 2100 := by have := t0.1.2; have := H.1.2.1; omega
  have h6 : τ.2.2.1 6 m = nI 4 := G0.row fm (by omega) t0.2.1
  have wf' : cWf cnt a false ∧ tWf kk cnt (.inner 31 d' z' b1 b2) 1 := by
    rcases wf with ⟨h, _⟩ | ⟨h, _⟩ | ⟨_, h⟩
    · cases h
    · cases h
    · rcases h with ⟨h, _⟩ | ⟨h, _⟩ | ⟨h, _⟩ | ⟨_, h⟩ | ⟨h, _⟩ | ⟨h, _⟩ | ⟨h, _⟩ | ⟨h, _⟩ | ⟨h, _⟩ | ⟨h, _⟩ | ⟨h, _⟩ | ⟨h, _⟩ | ⟨h, _⟩ | ⟨h, _⟩
      all_goals first | exact h | (exfalso; omega)
  obtain ⟨wa, wb⟩ := wf'
  obtain ⟨⟨s1, s2⟩, wb1, wb2⟩ : (d'.2.2.2.1.2 = [] ∧ d'.2.2.2.2.2 = []) ∧ tWf kk cnt b1 0 ∧ tWf kk cnt b2 0 := by
    rcases wb with ⟨_, _, h⟩ | ⟨h, _⟩ | ⟨h, _⟩
    · exact h
    · cases h
    · cases h
  have hc : c + ((cEv a).length + (tC b1 + tC b2)) ≤ 9000 := hc
  have ha : am + (0 + 0 + (0 + tA b1 + tA b2)) ≤ aM := ha
  have hn : aM + 7 + (max (kD a) (max (tDr b1) (tDr b2)) + 3) ≤ n + 1 := hn
  have wo : rWs f pp ee (V.2.2.1 32) L env (cEv a) ∧ _ ∧ _ ∧ rWo f pp ee (V.2.2.1 32) L b1 env ∧ rWo f pp ee (V.2.2.1 32) L b2 env := wo
  have dj : ∀ u, u ∈ env → u ∉ cEv a ++ (sEv d'.2.2.2.1.2 ++ (sEv d'.2.2.2.2.2 ++ (tEv b1 ++ tEv b2))) := dj
  have nd : (cEv a ++ (sEv d'.2.2.2.1.2 ++ (sEv d'.2.2.2.2.2 ++ (tEv b1 ++ tEv b2)))).Nodup := nd
  have sn : sEv ([] : List tP) = [] := rfl
  rw [s1, s2, sn, List.nil_append, List.nil_append] at dj nd
  obtain ⟨-, n2, -⟩ := List.nodup_append.mp nd
  obtain ⟨n1, n2, n3⟩ := List.nodup_append.mp n2
  have hxN : y < 2100 := by have := (rTr_fw tb1 wb1).1; have := H.1.2.1; omega
  have hyN : q < 2100 := by have := (rTr_fw tb2 wb2).1; have := H.1.2.1; omega
  have ez : (nE V (.inner 4 d z a (.inner 31 d' z' b1 b2)) 0 m).tail = nE V b1 0 y ++ nE V b2 0 q := by
    show nE V b1 0 (V.2.2.1 11 m).toNatClampNeg ++ nE V b2 0 (V.2.2.1 12 m).toNatClampNeg = _
    rw [show V.2.2.1 11 m = nI y from t2, show V.2.2.1 12 m = nI q from t3, nI_clamp (show y < 2 ^ 31 by omega), nI_clamp (show q < 2 ^ 31 by omega)]
  have pw : nPw ((m, d.1) :: (nE V (.inner 4 d z a (.inner 31 d' z' b1 b2)) 0 m).tail) := pw
  rw [ez] at pw ⊢
  obtain ⟨pw, pm⟩ := nPw1 pw
  obtain ⟨pa, pb, pab⟩ := nPwa pw
  have h9 : τ.2.2.1 9 m = nI x := G0.row fm (by omega) t1
  obtain ⟨τ1, e1, G1⟩ := G0.cnd (h0 := h0) (qs := qs) (ks := ks) (n := n) H fm wa o3.2.2.1 wo.1 ta (by omega) (by omega)
  have h11 : τ1.2.2.1 11 m = nI y := G1.row fm (by omega) t2
  obtain ⟨τ2, v2, e2, G2⟩ := G1.ev (n := n) Ia fm ⟨tb1, wb1, o3.2.2.2.2.2.1, wo.2.2.2.1, fun u hu z => dj u hu (List.mem_append_right _ (List.mem_append_left _ z)), n1, pa⟩ (fun u hu => by cases hu) (fun p hp => by cases hp) (by omega) (by omega) (by omega)
  have h12 : τ2.2.2.1 12 m = nI q := G2.row fm (by omega) t3
  obtain ⟨τ3, v3, e3, G3⟩ := G2.ev (n := n) Ib fm ⟨tb2, wb2, o3.2.2.2.2.2.2, wo.2.2.2.2, fun u hu z => dj u hu (List.mem_append_right _ (List.mem_append_right _ z)), n2, pb⟩ (fun u hu z => n3 u (tW_ev b1 u ((List.nil_append (tW b1)) ▸ hu)) u (tW_ev b2 u z) rfl) pab (by omega) (by omega) (by omega)
  obtain ⟨τ4, e4, G4⟩ := G3.jn (h0 := h0) (qs := qs) (ks := ks) (n := n) (m := m) (K := fun s => some (some (.int v2), s)) (kr := 12) (b := b2) H fm (List.mem_cons_self ..) (List.mem_cons_of_mem _ (List.mem_cons_self ..)) (by omega) hm (Or.inr rfl) t3 tb2 wb2
  rw [nI_clamp (show m < 2 ^ 31 by omega)] at e4
  rw [zE_typed]
  unfold b_typed
  simp only [zgd, zin_n hm (by decide), if_true, nI_clamp (show m < 2 ^ 31 by omega), h6, h9]
  rw [if_neg (by decide), if_neg (by decide), if_neg (by decide), if_pos (by decide)]
  rw [e1, zcv_at, h11, e2, zci_at, h12, e3, zci_at]
  simp only [zgd, zin_n hm (by decide), if_true] at e4
  refine ⟨τ4, v2, e4, (G4.fin (List.mem_cons_of_mem _ (List.mem_cons_self ..)) (fun u => ?_) d.1 (fun p hp => (pm p hp).2)).mo (by show 0 + (cEv a).length + tC b1 + tC b2 ≤ (cEv a).length + (tC b1 + tC b2); omega) (by show am + tA b1 + tA b2 ≤ am + (0 + 0 + (0 + tA b1 + tA b2)); omega)⟩
  show u ∈ ([] ++ tW b1) ++ tW b2 ↔ u ∈ tW b1 ++ tW b2
  rw [List.nil_append]
theorem rt_19 (H : rH Tt len cnt lo N S P A L V kk pp ee f) (Ia : rInf ks qs Tt h0 k0 cnt lo N S P A aM L V kk pp ee f a) (Ib : rInf ks qs Tt h0 k0 cnt lo N S P A aM L V kk pp ee f b) : rTyp ks qs Tt h0 k0 cnt lo N S P A aM L V kk pp ee f (.inner 19 d z a b) := fun env τ s g T c am m n ht fm hx hs hc ha hn => by
  obtain ⟨tr, wf, o3, wo, dj, nd, pw⟩ := ht
  obtain ⟨n, rfl⟩ : ∃ n', n = n' + 1 := ⟨n - 1, by omega⟩
  have G0 := rS.rf hx
  obtain ⟨t0, ⟨t3, t4⟩, x, y, ⟨t1, t2⟩, ta, tb⟩ := tr
  have hm : m < 2100 := by have := t0.1.2; have := H.1.2.1; omega
  have h6 : τ.2.2.1 6 m = nI 19 := G0.row fm (by omega) t0.2.1
  have wf' : (d.1 + 1 < cnt ∧ d.2.1 + 1 < cnt) ∧ tWf kk cnt a 0 ∧ tWf kk cnt b 0 := by
    rcases wf with ⟨h, _⟩ | ⟨h, _⟩ | ⟨_, h⟩
    · cases h
    · cases h
    · rcases h with ⟨h, _⟩ | ⟨h, _⟩ | ⟨h, _⟩ | ⟨h, _⟩ | ⟨h, _⟩ | ⟨h, _⟩ | ⟨h, _⟩ | ⟨h, _⟩ | ⟨h, _⟩ | ⟨h, _⟩ | ⟨h, _⟩ | ⟨h, _⟩ | ⟨h, _⟩ | ⟨_, h⟩
      all_goals first | exact h | (exfalso; omega)
  obtain ⟨⟨w0, w1⟩, wa, wb⟩ := wf'
  have hc : c + (3 + tC a + tC b) ≤ 9000 := hc
  have ha : am + (0 + tA a + tA b) ≤ aM := ha
  have hn : aM + 7 + (max (tDr a) (tDr b) + 3) ≤ n + 1 := hn
  have wo : rUs f pp ee (V.2.2.1 32) L env (d.1 + 1) ∧ rWo f pp ee (V.2.2.1 32) L a env ∧ (rTo (V.2.2.1 32) L d.2.1 ∧ rTo (V.2.2.1 32) L (d.2.1 + 1)) ∧ rWo f pp ee (V.2.2.1 32) L b (env ++ [d.2.1, d.2.1 + 1]) := wo
  have dj : ∀ u, u ∈ env → u ∉ [d.1 + 1] ++ (tEv a ++ ([d.2.1, d.2.1 + 1] ++ tEv b)) := dj
  have nd : ([d.1 + 1] ++ (tEv a ++ ([d.2.1, d.2.1 + 1] ++ tEv b))).Nodup := nd
  obtain ⟨-, n2, -⟩ := List.nodup_append.mp nd
  obtain ⟨na, n2, nab⟩ := List.nodup_append.mp n2
  obtain ⟨-, nb, n3⟩ := List.nodup_append.mp n2
  have m1 : d.2.1 ∈ [d.2.1, d.2.1 + 1] := List.mem_cons_self ..
  have m2 : d.2.1 + 1 ∈ [d.2.1, d.2.1 + 1] := List.mem_cons_of_mem _ (List.mem_singleton_self _)
  have hl : cnt ≤ 2000 := by have := H.2.1.2.2.2.2.2.2; omega
  have aw : ∀ u, u ∈ [] ++ tW a → u ∈ tEv a := fun u hu => tW_ev a u ((List.nil_append (tW a)) ▸ hu)
  have hxN : x < 2100 := by have := (rTr_fw ta wa).1; have := H.1.2.1; omega
  have hyN : y < 2100 := by have := (rTr_fw tb wb).1; have := H.1.2.1; omega
  have ez : (nE V (.inner 19 d z a b) 0 m).tail = nE V a 0 x ++ nE V b 0 y := by
    show nE V a 0 (V.2.2.1 11 m).toNatClampNeg ++ nE V b 0 (V.2.2.1 12 m).toNatClampNeg = _
    rw [show V.2.2.1 11 m = nI x from t1, show V.2.2.1 12 m = nI y from t2, nI_clamp (show x < 2 ^ 31 by omega), nI_clamp (show y < 2 ^ 31 by omega)]
  have pw : nPw ((m, d.1) :: (nE V (.inner 19 d z a b) 0 m).tail) := pw
  rw [ez] at pw ⊢
  obtain ⟨pw, pm⟩ := nPw1 pw
  obtain ⟨pa, pb, pab⟩ := nPwa pw
  have h9 : τ.2.2.1 9 m = nI (d.1 + 1) := G0.row fm (by omega) t3
  obtain ⟨n, rfl⟩ : ∃ n', n = n' + 1 := ⟨n - 1, by omega⟩
  obtain ⟨r, ⟨y1, y2, y3, y4⟩, τ1, e1, G1⟩ := G0.mbn (h0 := h0) (qs := qs) (ks := ks) (n := n + 1) (k := 3) H fm (by decide) w0 wo.1 (by omega) (by omega)
  have h11 : τ1.2.2.1 11 m = nI x := G1.row fm (by omega) t1
  obtain ⟨τ2, v2, e2, G2⟩ := G1.ev (n := n + 1) Ia fm ⟨ta, wa, o3.2.2.1, wo.2.1, fun u hu z => dj u hu (List.mem_append_right _ (List.mem_append_left _ z)), na, pa⟩ (fun u hu => by cases hu) (fun p hp => by cases hp) (by omega) (by omega) (by omega)
  have h10 : τ2.2.2.1 10 m = nI d.2.1 := G2.row fm (by omega) t4
  obtain ⟨τ3, v3, e3, G3⟩ := G2.pla (h0 := h0) (qs := qs) (ks := ks) (Tt := Tt) (n := n) (k := 0) (by decide) (by omega)
  obtain ⟨q, ⟨q1, q2⟩, G4⟩ := G3.tell H wo.2.2.1.1 (fun z => dj _ z (List.mem_append_right _ (List.mem_append_right _ (List.mem_append_left _ m1)))) (fun z => nab _ (aw _ z) _ (List.mem_append_left _ m1) rfl) (List.mem_cons_self ..)
  have h32 : τ2.2.2.1 32 d.2.1 = nI q := G2.row fm (by omega) q1
  have h10' := G4.row fm (k := 10) (j := m) (by omega) t4
  obtain ⟨τ5, v5, e5, G5⟩ := G4.pla (h0 := h0) (qs := qs) (ks := ks) (Tt := Tt) (n := n) (k := 3) (by decide) (by omega)
  obtain ⟨q', ⟨q1', q2'⟩, G6⟩ := G5.tell H wo.2.2.1.2 (fun z => dj _ z (List.mem_append_right _ (List.mem_append_right _ (List.mem_append_left _ m2)))) (fun z => by
    rcases List.mem_append.mp z with z | z
    · exact nab _ (aw _ z) _ (List.mem_append_left _ m2) rfl
    · have := List.mem_singleton.mp z; omega) (List.mem_cons_self ..)
  have h32' := G4.row fm (k := 32) (j := d.2.1 + 1) (by omega) q1'
  have G6 := G6.ev0 (env' := env ++ [d.2.1, d.2.1 + 1]) (fun u hu => (List.mem_append.mp hu).imp id (fun z => by
    rcases List.mem_cons.mp z with z | z
    · rw [z]; exact List.mem_append_left _ (List.mem_append_right _ (List.mem_singleton_self _))
    · exact List.mem_append_right _ z))
  have h12 := G6.row fm (k := 12) (j := m) (by omega) t2
  obtain ⟨τ7, v7, e7, G7⟩ := G6.ev (n := n + 1) Ib fm ⟨tb, wb, o3.2.2.2, wo.2.2.2, fun u hu z => (List.mem_append.mp hu).elim (fun y => dj u y (List.mem_append_right _ (List.mem_append_right _ (List.mem_append_right _ z)))) (fun y => n3 u y u z rfl), nb, pb⟩ (fun u hu z => by
    rcases List.mem_append.mp hu with hu | hu
    · rcases List.mem_append.mp hu with hu | hu
      · exact nab u (aw u hu) u (List.mem_append_right _ (tW_ev b u z)) rfl
      · exact n3 u (by rw [List.mem_singleton.mp hu]; exact m1) u (tW_ev b u z) rfl
    · exact n3 u (by rw [List.mem_singleton.mp hu]; exact m2) u (tW_ev b u z) rfl) pab (by omega) (by omega) (by omega)
  have G7 := G7.ev0 (env' := env) (fun u hu => Or.inl (List.mem_append_left _ hu))
  obtain ⟨τ8, e8, G8⟩ := G7.jn (h0 := h0) (qs := qs) (ks := ks) (n := n + 1) (m := m) (t1 := (mE f pp ee b (env ++ [d.2.1, d.2.1 + 1]) (mNt (d.2.1 + 1) (mB 3) (mNt d.2.1 (mB 0) (mE f pp ee a env (mMu (mNm f pp ee env (d.1 + 1) s) (mB 3) (pp (d.1 + 1)) s)).1))).2) (t2 := (mE f pp ee a env (mMu (mNm f pp ee env (d.1 + 1) s) (mB 3) (pp (d.1 + 1)) s)).2) (v1 := v7) (v2 := v2) (K := fun s => some (some (.int v2), s)) (kr := 12) (b := b) H fm (List.mem_cons_self ..) (List.mem_cons_of_mem _ (List.mem_cons_of_mem _ (List.mem_cons_of_mem _ (List.mem_cons_self ..)))) (by omega) hm (Or.inr rfl) t2 tb wb
  rw [nI_clamp (show m < 2 ^ 31 by omega)] at e8
  have p1 : nI d.2.1 + 1 = nI (d.2.1 + 1) := nI_add d.2.1 1 ▸ rfl
  rw [zE_typed]
  unfold b_typed
  simp only [zgd, zin_n hm (by decide), if_true, nI_clamp (show m < 2 ^ 31 by omega), h6, h9]
  rw [if_neg (by decide), if_neg (by decide), if_neg (by decide), if_neg (by decide), if_neg (by decide), if_neg (by decide), if_neg (by decide), if_neg (by decide), if_neg (by decide), if_neg (by decide), if_neg (by decide), if_neg (by decide), if_neg (by decide), if_neg (by decide), if_neg (by decide), if_neg (by decide), if_neg (by decide), if_neg (by decide), if_pos (by decide)]
  simp only [zin_n y1 (by decide), if_true, nI_clamp (show d.1 + 1 < 2 ^ 31 by omega), y2, zin_n y3 (by decide), nI_clamp (show r < 2 ^ 31 by omega), y4]
  rw [show (5 : Int32) = rKd (3 + 2) from rfl, e1, zcv_at, h11, e2, zci_at]
  simp only [h10, zin_n (show d.2.1 < 2010 by omega) (by decide), if_true, nI_clamp (show d.2.1 < 2 ^ 31 by omega), h32, zin_n q2 (by decide), nI_clamp (show q < 2 ^ 31 by omega)]
  rw [(show zF h0 qs ks Tt (n + 1) 40 [.ref h0, .int 1, .int (-1), .int (-1)] τ2 = _ from e3), zci_at]
  simp only [zlet, h10', p1, zin_n (show d.2.1 + 1 < 2010 by omega) (by decide), if_true, nI_clamp (show d.2.1 + 1 < 2 ^ 31 by omega), h32', zin_n q2' (by decide), nI_clamp (show q' < 2 ^ 31 by omega)]
  rw [e5, zci_at]
  simp only [h12]
  rw [e7, zci_at]
  simp only [zgd, zin_n hm (by decide), if_true] at e8
  refine ⟨τ8, v2, e8, (G8.fin (List.mem_cons_of_mem _ (List.mem_cons_of_mem _ (List.mem_cons_of_mem _ (List.mem_cons_self ..)))) (fun u => ?_) d.1 (fun p hp => (pm p hp).2)).mo (by show 0 + 1 + tC a + 1 + 1 + tC b ≤ 3 + tC a + tC b; omega) (by show am + tA a + tA b ≤ am + (0 + tA a + tA b); omega)⟩
  show u ∈ ((([] ++ tW a) ++ [d.2.1]) ++ [d.2.1 + 1]) ++ tW b ↔ u ∈ tW a ++ ([d.2.1, d.2.1 + 1] ++ tW b)
  rw [List.nil_append, List.append_assoc, List.append_assoc]
  rfl
end RIG
