/-! the reference's typed(): ( E ), let, assert, set -/
section RLE
variable {ks : Nat → Nat} {qs : List Nat} {Tt h0 k0 len cnt lo N S P A aM : Nat} {Z : List (Nat × Nat)} {L : List Nat} {V : zSt} {kk pp ee f : Nat → Int32} {d : Nat × Nat × Nat × tS × tS} {z : Unit} {a b : tT}
theorem rt_16 (H : rH Tt len cnt lo N S P A L V kk pp ee f) (Ia : rInf ks qs Tt h0 k0 cnt lo N S P A aM L V kk pp ee f a) : rTyp ks qs Tt h0 k0 cnt lo N S P A aM L V kk pp ee f (.inner 16 d z a b) := fun env τ s g T c am m n ht fm hx hs hc ha hn => by
  obtain ⟨tr, wf, o3, wo, dj, nd, pw⟩ := ht
  obtain ⟨n, rfl⟩ : ∃ n', n = n' + 1 := ⟨n - 1, by omega⟩
  have G0 := rS.rf hx
  obtain ⟨t0, x, t1, ta⟩ := tr
  have hm : m < 2100 := by have := t0.1.2; have := H.1.2.1; omega
  have h6 : τ.2.2.1 6 m = nI 16 := G0.row fm (by omega) t0.2.1
  have wf' : (d.2.2.2.1.2 = [] ∧ d.2.2.2.2.2 = []) ∧ tWf kk cnt a 0 ∧ b = .leaf := by
    rcases wf with ⟨h, _⟩ | ⟨h, _⟩ | ⟨_, h⟩
    · cases h
    · cases h
    · rcases h with ⟨h, _⟩ | ⟨h, _⟩ | ⟨h, _⟩ | ⟨h, _⟩ | ⟨h, _⟩ | ⟨h, _⟩ | ⟨h, _⟩ | ⟨h, _⟩ | ⟨h, _⟩ | ⟨h, _⟩ | ⟨h, _⟩ | ⟨_, h⟩ | ⟨h, _⟩ | ⟨h, _⟩
      all_goals first | exact h | (exfalso; omega)
  obtain ⟨⟨w1, w2⟩, wa, rfl⟩ := wf'
  have hc : c + (tC a + 0) ≤ 9000 := hc
  have ha : am + (0 + tA a + 0) ≤ aM := ha
  have hn : aM + 7 + (max (tDr a) 0 + 3) ≤ n + 1 := hn
  have wo : rWs f pp ee (V.2.2.1 32) L env (sEv d.2.2.2.1.2) ∧ rWs f pp ee (V.2.2.1 32) L env (sEv d.2.2.2.2.2) ∧ rWo f pp ee (V.2.2.1 32) L a env ∧ _ := wo
  have dj : ∀ u, u ∈ env → u ∉ sEv d.2.2.2.1.2 ++ (sEv d.2.2.2.2.2 ++ (tEv a ++ [])) := dj
  have nd : (sEv d.2.2.2.1.2 ++ (sEv d.2.2.2.2.2 ++ (tEv a ++ []))).Nodup := nd
  have sn : sEv ([] : List tP) = [] := rfl
  rw [w1, w2, sn, List.nil_append, List.nil_append, List.append_nil] at dj nd
  have hxN : x < 2100 := by have := (rTr_fw ta wa).1; have := H.1.2.1; omega
  have ez : (nE V (.inner 16 d z a .leaf) 0 m).tail = nE V a 0 x := by
    show nE V a 0 (V.2.2.1 11 m).toNatClampNeg = _
    rw [show V.2.2.1 11 m = nI x from t1, nI_clamp (show x < 2 ^ 31 by omega)]
  have pw : nPw ((m, d.1) :: (nE V (.inner 16 d z a .leaf) 0 m).tail) := pw
  rw [ez] at pw ⊢
  obtain ⟨pa, pm⟩ := nPw1 pw
  have h11 : τ.2.2.1 11 m = nI x := G0.row fm (by omega) t1
  obtain ⟨τ1, v1, e1, G1⟩ := G0.ev (n := n) Ia fm ⟨ta, wa, o3.2.2.1, wo.2.2.1, dj, nd, pa⟩ (fun u hu => by cases hu) (fun p hp => by cases hp) (by omega) (by omega) (by omega)
  rw [zE_typed]
  unfold b_typed
  simp only [zgd, zin_n hm (by decide), if_true, nI_clamp (show m < 2 ^ 31 by omega), h6, h11]
  rw [if_neg (by decide), if_neg (by decide), if_neg (by decide), if_neg (by decide), if_neg (by decide), if_neg (by decide), if_neg (by decide), if_neg (by decide), if_neg (by decide), if_neg (by decide), if_neg (by decide), if_neg (by decide), if_neg (by decide), if_neg (by decide), if_neg (by decide), if_pos (by decide)]
  rw [e1, zci_at]
  refine ⟨τ1, v1, rfl, (G1.fin (List.mem_cons_self ..) (fun u => ?_) d.1 (fun p hp => (pm p hp).2)).mo (by show 0 + tC a ≤ tC a + 0; omega) (by show am + tA a ≤ am + (0 + tA a + 0); omega)⟩
  show u ∈ [] ++ tW a ↔ u ∈ tW a ++ []
  rw [List.nil_append, List.append_nil]
theorem rt_5 (H : rH Tt len cnt lo N S P A L V kk pp ee f) (Ib : rInf ks qs Tt h0 k0 cnt lo N S P A aM L V kk pp ee f b) : rTyp ks qs Tt h0 k0 cnt lo N S P A aM L V kk pp ee f (.inner 5 d z a b) := fun env τ s g T c am m n ht fm hx hs hc ha hn => by
  obtain ⟨tr, wf, o3, wo, dj, nd, pw⟩ := ht
  obtain ⟨n, rfl⟩ : ∃ n', n = n' + 1 := ⟨n - 1, by omega⟩
  have G0 := rS.rf hx
  obtain ⟨t0, -, x, y, ⟨t1, t2⟩, ta, tb⟩ := tr
  have hm : m < 2100 := by have := t0.1.2; have := H.1.2.1; omega
  have h6 : τ.2.2.1 6 m = nI 5 := G0.row fm (by omega) t0.2.1
  have wf' : cWf cnt a false ∧ tWf kk cnt b 0 := by
    rcases wf with ⟨h, _⟩ | ⟨h, _⟩ | ⟨_, h⟩
    · cases h
    · cases h
    · rcases h with ⟨h, _⟩ | ⟨h, _⟩ | ⟨h, _⟩ | ⟨h, _⟩ | ⟨_, h⟩ | ⟨h, _⟩ | ⟨h, _⟩ | ⟨h, _⟩ | ⟨h, _⟩ | ⟨h, _⟩ | ⟨h, _⟩ | ⟨h, _⟩ | ⟨h, _⟩ | ⟨h, _⟩
      all_goals first | exact h | (exfalso; omega)
  obtain ⟨wa, wb⟩ := wf'
  have hc : c + ((cEv a).length + tC b) ≤ 9000 := hc
  have ha : am + (0 + 0 + tA b) ≤ aM := ha
  have hn : aM + 7 + (max (kD a) (tDr b) + 3) ≤ n + 1 := hn
  have wo : rWs f pp ee (V.2.2.1 32) L env (cEv a) ∧ rWo f pp ee (V.2.2.1 32) L b env := wo
  have dj : ∀ u, u ∈ env → u ∉ cEv a ++ tEv b := dj
  have nd : (cEv a ++ tEv b).Nodup := nd
  have hxN : y < 2100 := by have := (rTr_fw tb wb).1; have := H.1.2.1; omega
  have ez : (nE V (.inner 5 d z a b) 0 m).tail = nE V b 0 y := by
    show nE V b 0 (V.2.2.1 11 m).toNatClampNeg = _
    rw [show V.2.2.1 11 m = nI y from t2, nI_clamp (show y < 2 ^ 31 by omega)]
  have pw : nPw ((m, d.1) :: (nE V (.inner 5 d z a b) 0 m).tail) := pw
  rw [ez] at pw ⊢
  obtain ⟨pa, pm⟩ := nPw1 pw
  have h9 : τ.2.2.1 9 m = nI x := G0.row fm (by omega) t1
  obtain ⟨τ1, e1, G1⟩ := G0.cnd (h0 := h0) (qs := qs) (ks := ks) (n := n) H fm wa o3.2.2.1 wo.1 ta (by omega) (by omega)
  have h11 : τ1.2.2.1 11 m = nI y := G1.row fm (by omega) t2
  obtain ⟨τ2, v2, e2, G2⟩ := G1.ev (n := n) Ib fm ⟨tb, wb, o3.2.2.2, wo.2, fun u hu z => dj u hu (List.mem_append_right _ z), (List.nodup_append.mp nd).2.1, pa⟩ (fun u hu => by cases hu) (fun p hp => by cases hp) (by omega) (by omega) (by omega)
  rw [zE_typed]
  unfold b_typed
  simp only [zgd, zin_n hm (by decide), if_true, nI_clamp (show m < 2 ^ 31 by omega), h6, h9]
  rw [if_neg (by decide), if_neg (by decide), if_neg (by decide), if_neg (by decide), if_pos (by decide)]
  rw [e1, zcv_at, h11, e2, zci_at]
  refine ⟨τ2, v2, rfl, (G2.fin (List.mem_cons_self ..) (fun u => ?_) d.1 (fun p hp => (pm p hp).2)).mo (by show 0 + (cEv a).length + tC b ≤ (cEv a).length + tC b; omega) (by show am + tA b ≤ am + (0 + 0 + tA b); omega)⟩
  show u ∈ [] ++ tW b ↔ u ∈ tW b
  rw [List.nil_append]
theorem rt_6 (H : rH Tt len cnt lo N S P A L V kk pp ee f) (Ia : rInf ks qs Tt h0 k0 cnt lo N S P A aM L V kk pp ee f a) : rTyp ks qs Tt h0 k0 cnt lo N S P A aM L V kk pp ee f (.inner 6 d z a b) := fun env τ s g T c am m n ht fm hx hs hc ha hn => by
  obtain ⟨tr, wf, o3, wo, dj, nd, pw⟩ := ht
  obtain ⟨n, rfl⟩ : ∃ n', n = n' + 1 := ⟨n - 1, by omega⟩
  have G0 := rS.rf hx
  obtain ⟨t0, ⟨-, t3⟩, x, y, q, ⟨t1, t2, t4⟩, s1, s2, ta⟩ := tr
  have hm : m < 2100 := by have := t0.1.2; have := H.1.2.1; omega
  have h6 : τ.2.2.1 6 m = nI 6 := G0.row fm (by omega) t0.2.1
  have wf' : d.1 + 1 < cnt ∧ (pOk cnt d.2.2.2.1.2 ∧ pOk cnt d.2.2.2.2.2) ∧ tWf kk cnt a 0 := by
    rcases wf with ⟨h, _⟩ | ⟨h, _⟩ | ⟨_, h⟩
    · cases h
    · cases h
    · rcases h with ⟨h, _⟩ | ⟨h, _⟩ | ⟨h, _⟩ | ⟨h, _⟩ | ⟨h, _⟩ | ⟨_, h⟩ | ⟨h, _⟩ | ⟨h, _⟩ | ⟨h, _⟩ | ⟨h, _⟩ | ⟨h, _⟩ | ⟨h, _⟩ | ⟨h, _⟩ | ⟨h, _⟩
      all_goals first | exact h | (exfalso; omega)
  obtain ⟨w0, ⟨w1, w2⟩, wa⟩ := wf'
  have hc : c + ((sEv d.2.2.2.1.2).length + (sEv d.2.2.2.2.2).length + 2 + tC a + tC b) ≤ 9000 := hc
  have ha : am + (0 + tA a + tA b) ≤ aM := ha
  have hn : aM + 7 + (max (tDr a) (tDr b) + 3) ≤ n + 1 := hn
  have wo : rUs f pp ee (V.2.2.1 32) L env (d.1 + 1) ∧ rWs f pp ee (V.2.2.1 32) L env (sEv d.2.2.2.1.2) ∧ rWs f pp ee (V.2.2.1 32) L env (sEv d.2.2.2.2.2) ∧ rWo f pp ee (V.2.2.1 32) L a env := wo
  have dj : ∀ u, u ∈ env → u ∉ [d.1 + 1] ++ (sEv d.2.2.2.1.2 ++ (sEv d.2.2.2.2.2 ++ tEv a)) := dj
  have nd : ([d.1 + 1] ++ (sEv d.2.2.2.1.2 ++ (sEv d.2.2.2.2.2 ++ tEv a))).Nodup := nd
  have nda := (List.nodup_append.mp (List.nodup_append.mp (List.nodup_append.mp nd).2.1).2.1).2.1
  have hxN : q < 2100 := by have := (rTr_fw ta wa).1; have := H.1.2.1; omega
  have ez : (nE V (.inner 6 d z a b) 0 m).tail = nE V a 0 q := by
    show nE V a 0 (V.2.2.1 12 m).toNatClampNeg = _
    rw [show V.2.2.1 12 m = nI q from t4, nI_clamp (show q < 2 ^ 31 by omega)]
  have pw : nPw ((m, d.1) :: (nE V (.inner 6 d z a b) 0 m).tail) := pw
  rw [ez] at pw ⊢
  obtain ⟨pa, pm⟩ := nPw1 pw
  have h9 : τ.2.2.1 9 m = nI (d.1 + 1) := G0.row fm (by omega) t3
  obtain ⟨r, ⟨y1, y2, y3, y4⟩, τ1, e1, G1⟩ := G0.mbn (h0 := h0) (qs := qs) (ks := ks) (n := n) (k := 2) H fm (by decide) w0 wo.1 (by omega) (by omega)
  have h10 : τ1.2.2.1 10 m = nI x := G1.row fm (by omega) t1
  obtain ⟨τ2, e2, G2⟩ := G1.sum (h0 := h0) (qs := qs) (ks := ks) (n := n) H fm w1 o3.1 wo.2.1 s1 (by omega) (by omega)
  have h11 : τ2.2.2.1 11 m = nI y := G2.row fm (by omega) t2
  obtain ⟨τ3, e3, G3⟩ := G2.sum (h0 := h0) (qs := qs) (ks := ks) (n := n) H fm w2 o3.2.1 wo.2.2.1 s2 (by omega) (by omega)
  have h12 : τ3.2.2.1 12 m = nI q := G3.row fm (by omega) t4
  obtain ⟨τ4, v4, e4, G4⟩ := G3.ev (n := n) Ia fm ⟨ta, wa, o3.2.2.1, wo.2.2.2, fun u hu z => dj u hu (List.mem_append_right _ (List.mem_append_right _ (List.mem_append_right _ z))), nda, pa⟩ (fun u hu => by cases hu) (fun p hp => by cases hp) (by omega) (by omega) (by omega)
  rw [zE_typed]
  unfold b_typed
  simp only [zgd, zin_n hm (by decide), if_true, nI_clamp (show m < 2 ^ 31 by omega), h6, h9]
  rw [if_neg (by decide), if_neg (by decide), if_neg (by decide), if_neg (by decide), if_neg (by decide), if_pos (by decide)]
  simp only [zin_n y1 (by decide), if_true, nI_clamp (show d.1 + 1 < 2 ^ 31 by omega), y2, zin_n y3 (by decide), nI_clamp (show r < 2 ^ 31 by omega), y4]
  rw [show (3 : Int32) = rKd (2 + 2) from rfl, e1, zcv_at, h10, e2, zcv_at, h11, e3, zcv_at, h12, e4, zci_at]
  refine ⟨τ4, v4, rfl, (G4.fin (List.mem_cons_self ..) (fun u => ?_) d.1 (fun p hp => (pm p hp).2)).mo (by show 0 + 1 + (sEv d.2.2.2.1.2).length + (sEv d.2.2.2.2.2).length + tC a ≤ (sEv d.2.2.2.1.2).length + (sEv d.2.2.2.2.2).length + 2 + tC a + tC b; omega) (by show am + tA a ≤ am + (0 + tA a + tA b); omega)⟩
  show u ∈ [] ++ tW a ↔ u ∈ tW a
  rw [List.nil_append]
theorem rt_1 (H : rH Tt len cnt lo N S P A L V kk pp ee f) (Ia : rInf ks qs Tt h0 k0 cnt lo N S P A aM L V kk pp ee f a) (Ib : rInf ks qs Tt h0 k0 cnt lo N S P A aM L V kk pp ee f b) : rTyp ks qs Tt h0 k0 cnt lo N S P A aM L V kk pp ee f (.inner 1 d z a b) := fun env τ s g T c am m n ht fm hx hs hc ha hn => by
  obtain ⟨tr, wf, o3, wo, dj, nd, pw⟩ := ht
  obtain ⟨n, rfl⟩ : ∃ n', n = n' + 1 := ⟨n - 1, by omega⟩
  have G0 := rS.rf hx
  obtain ⟨t0, t3, x, y, ⟨t1, t2⟩, ta, tb⟩ := tr
  have hm : m < 2100 := by have := t0.1.2; have := H.1.2.1; omega
  have h6 : τ.2.2.1 6 m = nI 1 := G0.row fm (by omega) t0.2.1
  have wf' : d.1 + 1 < cnt ∧ tWf kk cnt a 0 ∧ tWf kk cnt b 0 := by
    rcases wf with ⟨h, _⟩ | ⟨h, _⟩ | ⟨_, h⟩
    · cases h
    · cases h
    · rcases h with ⟨_, h⟩ | ⟨h, _⟩ | ⟨h, _⟩ | ⟨h, _⟩ | ⟨h, _⟩ | ⟨h, _⟩ | ⟨h, _⟩ | ⟨h, _⟩ | ⟨h, _⟩ | ⟨h, _⟩ | ⟨h, _⟩ | ⟨h, _⟩ | ⟨h, _⟩ | ⟨h, _⟩
      all_goals first | exact h | (exfalso; omega)
  obtain ⟨w0, wa, wb⟩ := wf'
  have hc : c + (tC a + tC b) ≤ 9000 := hc
  have ha : am + (0 + tA a + tA b) ≤ aM := ha
  have hn : aM + 7 + (max (tDr a) (tDr b) + 3) ≤ n + 1 := hn
  have wo : rTo (V.2.2.1 32) L (d.1 + 1) ∧ rWo f pp ee (V.2.2.1 32) L a env ∧ rWo f pp ee (V.2.2.1 32) L b (env ++ [d.1 + 1]) := wo
  have dj : ∀ u, u ∈ env → u ∉ [d.1 + 1] ++ (tEv a ++ tEv b) := dj
  have nd : ([d.1 + 1] ++ (tEv a ++ tEv b)).Nodup := nd
  obtain ⟨-, n2, n3⟩ := List.nodup_append.mp nd
  obtain ⟨na, nb, nab⟩ := List.nodup_append.mp n2
  have m0 : d.1 + 1 ∈ [d.1 + 1] := List.mem_singleton_self _
  have hd1 : d.1 + 1 < 2010 := by have := H.2.1.2.2.2.2.2.2; omega
  have hxN : x < 2100 := by have := (rTr_fw ta wa).1; have := H.1.2.1; omega
  have hyN : y < 2100 := by have := (rTr_fw tb wb).1; have := H.1.2.1; omega
  have ez : (nE V (.inner 1 d z a b) 0 m).tail = nE V a 0 x ++ nE V b 0 y := by
    show nE V a 0 (V.2.2.1 11 m).toNatClampNeg ++ nE V b 0 (V.2.2.1 12 m).toNatClampNeg = _
    rw [show V.2.2.1 11 m = nI x from t1, show V.2.2.1 12 m = nI y from t2, nI_clamp (show x < 2 ^ 31 by omega), nI_clamp (show y < 2 ^ 31 by omega)]
  have pw : nPw ((m, d.1) :: (nE V (.inner 1 d z a b) 0 m).tail) := pw
  rw [ez] at pw ⊢
  obtain ⟨pw, pm⟩ := nPw1 pw
  obtain ⟨pa, pb, pab⟩ := nPwa pw
  have h9 : τ.2.2.1 9 m = nI (d.1 + 1) := G0.row fm (by omega) t3
  have h11 : τ.2.2.1 11 m = nI x := G0.row fm (by omega) t1
  obtain ⟨τ1, v1, e1, G1⟩ := G0.ev (n := n) Ia fm ⟨ta, wa, o3.2.2.1, wo.2.1, fun u hu z => dj u hu (List.mem_append_right _ (List.mem_append_left _ z)), na, pa⟩ (fun u hu => by cases hu) (fun p hp => by cases hp) (by omega) (by omega) (by omega)
  obtain ⟨q, ⟨q1, q2⟩, G2⟩ := G1.tell H wo.1 (fun z => dj _ z (List.mem_append_left _ m0)) (fun z => n3 _ m0 _ (List.mem_append_left _ (tW_ev a _ ((List.nil_append (tW a)) ▸ z))) rfl) (List.mem_cons_self ..)
  have h32 : τ.2.2.1 32 (d.1 + 1) = nI q := G0.row fm (by omega) q1
  have G2 := G2.ev0 (env' := env ++ [d.1 + 1]) (fun u hu => (List.mem_append.mp hu).imp id (fun z => List.mem_append_right _ z))
  have h12 := G2.row fm (k := 12) (j := m) (by omega) t2
  obtain ⟨τ3, v3, e3, G3⟩ := G2.ev (n := n) Ib fm ⟨tb, wb, o3.2.2.2, wo.2.2, fun u hu z => (List.mem_append.mp hu).elim (fun y => dj u y (List.mem_append_right _ (List.mem_append_right _ z))) (fun y => n3 u y u (List.mem_append_right _ z) rfl), nb, pb⟩ (fun u hu z => by
    rcases List.mem_append.mp hu with y | y
    · exact nab u (tW_ev a u ((List.nil_append (tW a)) ▸ y)) u (tW_ev b u z) rfl
    · exact n3 u y u (List.mem_append_right _ (tW_ev b u z)) rfl) pab (by omega) (by omega) (by omega)
  rw [zE_typed]
  unfold b_typed
  simp only [zgd, zin_n hm (by decide), if_true, nI_clamp (show m < 2 ^ 31 by omega), h6, h9, h11]
  rw [if_pos (by decide)]
  simp only [zin_n hd1 (by decide), if_true, nI_clamp (show d.1 + 1 < 2 ^ 31 by omega), h32, e1, zci_at, zin_n q2 (by decide), nI_clamp (show q < 2 ^ 31 by omega), zlet]
  rw [h12, e3, zci_at]
  have G3 := G3.ev0 (env' := env) (fun u hu => Or.inl (List.mem_append_left _ hu))
  refine ⟨τ3, v3, rfl, (G3.fin (List.mem_cons_self ..) (fun u => ?_) d.1 (fun p hp => (pm p hp).2)).mo (by show 0 + tC a + tC b ≤ tC a + tC b; omega) (by show am + tA a + tA b ≤ am + (0 + tA a + tA b); omega)⟩
  show u ∈ (([] ++ tW a) ++ [d.1 + 1]) ++ tW b ↔ u ∈ (d.1 + 1) :: (tW a ++ tW b)
  simp only [List.mem_append, List.mem_cons, List.mem_singleton, List.not_mem_nil, false_or, or_false]
  constructor
  · rintro ((z | z) | z)
    · exact Or.inr (Or.inl z)
    · exact Or.inl z
    · exact Or.inr (Or.inr z)
  · rintro (z | z | z)
    · exact Or.inl (Or.inr z)
    · exact Or.inl (Or.inl z)
    · exact Or.inr z
end RLE
