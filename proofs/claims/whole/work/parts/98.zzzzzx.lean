/-! the reference's typed(): S, fun, if, match -/
section RIF
variable {ks : Nat → Nat} {qs : List Nat} {Tt h0 k0 len cnt lo N S P A aM : Nat} {Z : List (Nat × Nat)} {L : List Nat} {V : zSt} {kk pp ee f : Nat → Int32} {d : Nat × Nat × Nat × tS × tS} {z : Unit} {a b : tT}
/-- row 31 where nothing is told within -/
theorem rS.ev31 {env W : List Nat} {Q : List (Int32 × mF)} {τ0 τ τ' : zSt} {g0 : gG} {T0 : Nat → mF} {c0 am B n m : Nat} {s : mS} {v : Int32} (H : rInf ks qs Tt h0 k0 cnt lo N S P A aM L V kk pp ee f a) (fm : tFm V τ0) (G : rS k0 Z L env W Q τ0 g0 T0 c0 am B s τ) (ht : rTe cnt lo N S P A L V kk pp ee f a env m) (hc : c0 + B + tC a ≤ 9000) (ha : am + tA a ≤ aM) (hn : aM + 8 + tDr a ≤ n) (e : zF h0 qs ks Tt n 49 [.ref h0, .int (nI m)] τ = some (some (.int v), τ')) {j : Nat} (hj : ∀ u, u ∈ tW a → L[j]? ≠ some u) : τ'.2.2.1 31 j = τ.2.2.1 31 j := by
  have fm' := fm.tr G.fm
  obtain ⟨g1, T1, c1, h1, h2, -⟩ := G
  obtain ⟨τ2, v2, e2, g2, T2, c2, -, -, -, -, -, -, q7, -⟩ := H env τ s g1 T1 c1 am m n ht fm' h1 (by omega) ha hn
  rw [e] at e2
  injection e2 with e2
  injection e2 with _ e2
  rw [e2]
  exact q7 j hj
theorem rt_3 (H : rH Tt len cnt lo N S P A L V kk pp ee f) (Ia : rInf ks qs Tt h0 k0 cnt lo N S P A aM L V kk pp ee f a) : rTyp ks qs Tt h0 k0 cnt lo N S P A aM L V kk pp ee f (.inner 3 d z a b) := fun env τ s g T c am m n ht fm hx hs hc ha hn => by
  obtain ⟨tr, wf, o3, wo, dj, nd, pw⟩ := ht
  obtain ⟨n, rfl⟩ : ∃ n', n = n' + 1 := ⟨n - 1, by omega⟩
  have G0 := rS.rf hx
  obtain ⟨t0, t3, x, t1, ta⟩ := tr
  have hm : m < 2100 := by have := t0.1.2; have := H.1.2.1; omega
  have h6 : τ.2.2.1 6 m = nI 3 := G0.row fm (by omega) t0.2.1
  have wf' : d.1 + 1 < cnt ∧ tWf kk cnt a 0 := by
    rcases wf with ⟨h, _⟩ | ⟨h, _⟩ | ⟨_, h⟩
    · cases h
    · cases h
    · rcases h with ⟨h, _⟩ | ⟨h, _⟩ | ⟨_, h⟩ | ⟨h, _⟩ | ⟨h, _⟩ | ⟨h, _⟩ | ⟨h, _⟩ | ⟨h, _⟩ | ⟨h, _⟩ | ⟨h, _⟩ | ⟨h, _⟩ | ⟨h, _⟩ | ⟨h, _⟩ | ⟨h, _⟩
      all_goals first | exact h | (exfalso; omega)
  obtain ⟨w0, wa⟩ := wf'
  have hc : c + (2 + tC a + tC b) ≤ 9000 := hc
  have ha : am + (1 + tA a + tA b) ≤ aM := ha
  have hn : aM + 7 + (max (tDr a) (tDr b) + 3) ≤ n + 1 := hn
  have wo : rTo (V.2.2.1 32) L (d.1 + 1) ∧ rWo f pp ee (V.2.2.1 32) L a (env ++ [d.1 + 1]) := wo
  have dj : ∀ u, u ∈ env → u ∉ [d.1 + 1] ++ tEv a := dj
  have nd : ([d.1 + 1] ++ tEv a).Nodup := nd
  obtain ⟨-, na, n3⟩ := List.nodup_append.mp nd
  have m0 : d.1 + 1 ∈ [d.1 + 1] := List.mem_singleton_self _
  have hd1 : d.1 + 1 < 2010 := by have := H.2.1.2.2.2.2.2.2; omega
  have hxN : x < 2100 := by have := (rTr_fw ta wa).1; have := H.1.2.1; omega
  have ez : (nE V (.inner 3 d z a b) 0 m).tail = nE V a 0 x := by
    show nE V a 0 (V.2.2.1 11 m).toNatClampNeg = _
    rw [show V.2.2.1 11 m = nI x from t1, nI_clamp (show x < 2 ^ 31 by omega)]
  have pw : nPw ((m, d.1) :: (nE V (.inner 3 d z a b) 0 m).tail) := pw
  rw [ez] at pw ⊢
  obtain ⟨pa, pm⟩ := nPw1 pw
  have h9 : τ.2.2.1 9 m = nI (d.1 + 1) := G0.row fm (by omega) t3
  obtain ⟨n, rfl⟩ : ∃ n', n = n' + 2 := ⟨n - 2, by omega⟩
  obtain ⟨τ1, v1, e1, G1⟩ := G0.fre (h0 := h0) (qs := qs) (ks := ks) (Tt := Tt) (n := n) (by omega)
  obtain ⟨q, ⟨q1, q2⟩, G2⟩ := G1.tell H wo.1 (fun z => dj _ z (List.mem_append_left _ m0)) (fun z => by cases z) (List.mem_cons_self ..)
  have h32 : τ.2.2.1 32 (d.1 + 1) = nI q := G0.row fm (by omega) q1
  have G2 := G2.ev0 (env' := env ++ [d.1 + 1]) (fun u hu => (List.mem_append.mp hu).imp id (fun z => z))
  have h11 := G2.row fm (k := 11) (j := m) (by omega) t1
  have ta' : rTe cnt lo N S P A L V kk pp ee f a (env ++ [d.1 + 1]) x := ⟨ta, wa, o3.2.2.1, wo.2, fun u hu z => (List.mem_append.mp hu).elim (fun y => dj u y (List.mem_append_right _ z)) (fun y => n3 u y u z rfl), na, pa⟩
  obtain ⟨τ3, v3, e3, G3⟩ := G2.ev (n := n + 2) Ia fm ta' (fun u hu z => n3 u hu u (tW_ev a u z) rfl) (fun p hp => by cases hp) (by omega) (by omega) (by omega)
  have h31 : τ3.2.2.1 31 q = v1 := by
    obtain ⟨x0, x1, x2⟩ := id wo.1
    have hx0 : x0 < 700 := by
      have := H.2.2.1
      by_cases z : x0 < L.length
      · omega
      · rw [List.getElem?_eq_none (by omega)] at x2; cases x2
    have ex : x0 = q := nI_inj' (by omega) (by omega) (x1.symm.trans q1)
    rw [ex] at x2
    rw [rS.ev31 Ia fm G2 ta' (by omega) (by omega) (by omega) e3 (fun u hu z => by
      rw [x2] at z
      injection z with z
      exact n3 _ m0 u (tW_ev a u hu) z)]
    exact upd_at _ _ _
  obtain ⟨τ4, v4, e4, G4⟩ := G3.fnc (h0 := h0) (qs := qs) (ks := ks) (Tt := Tt) (n := n + 1) (by omega) (List.mem_cons_of_mem _ (List.mem_cons_self ..)) (List.mem_cons_self ..)
  rw [zE_typed]
  unfold b_typed
  simp only [zgd, zin_n hm (by decide), if_true, nI_clamp (show m < 2 ^ 31 by omega), h6, h9]
  rw [if_neg (by decide), if_neg (by decide), if_pos (by decide)]
  simp only [zin_n hd1 (by decide), if_true, nI_clamp (show d.1 + 1 < 2 ^ 31 by omega), h32, e1, zci_at, zin_n q2 (by decide), nI_clamp (show q < 2 ^ 31 by omega), zlet]
  rw [h11, e3, zci_at, h31, e4, zci_at]
  have G4 := G4.ev0 (env' := env) (fun u hu => Or.inl (List.mem_append_left _ hu))
  exact ⟨τ4, v4, rfl, (G4.fin (List.mem_cons_self ..) (fun u => Iff.rfl) d.1 (fun p hp => (pm p hp).2)).mo (by show 0 + 1 + tC a + 1 ≤ 2 + tC a + tC b; omega) (by show am + tA a + 1 ≤ am + (1 + tA a + tA b); omega)⟩
theorem rt_10 (H : rH Tt len cnt lo N S P A L V kk pp ee f) : rTyp ks qs Tt h0 k0 cnt lo N S P A aM L V kk pp ee f (.inner 10 d z a b) := fun env τ s g T c am m n ht fm hx hs hc ha hn => by
  obtain ⟨tr, wf, o3, wo, dj, nd, pw⟩ := ht
  obtain ⟨n, rfl⟩ : ∃ n', n = n' + 1 := ⟨n - 1, by omega⟩
  have G0 := rS.rf hx
  obtain ⟨t0, x, t1, s1⟩ := tr
  have hm : m < 2100 := by have := t0.1.2; have := H.1.2.1; omega
  have h6 : τ.2.2.1 6 m = nI 10 := G0.row fm (by omega) t0.2.1
  have wf' : pOk cnt d.2.2.2.1.2 ∧ d.2.2.2.2.2 = [] ∧ a = .leaf ∧ b = .leaf := by
    rcases wf with ⟨h, _⟩ | ⟨h, _⟩ | ⟨_, h⟩
    · cases h
    · cases h
    · rcases h with ⟨h, _⟩ | ⟨h, _⟩ | ⟨h, _⟩ | ⟨h, _⟩ | ⟨h, _⟩ | ⟨h, _⟩ | ⟨_, h⟩ | ⟨h, _⟩ | ⟨h, _⟩ | ⟨h, _⟩ | ⟨h, _⟩ | ⟨h, _⟩ | ⟨h, _⟩ | ⟨h, _⟩
      all_goals first | exact h | (exfalso; omega)
  obtain ⟨w1, w2, rfl, rfl⟩ := wf'
  have hc : c + ((sEv d.2.2.2.1.2).length + (sEv d.2.2.2.2.2).length + 2 + 0 + 0) ≤ 9000 := hc
  have ha : am + (0 + 0 + 0) ≤ aM := ha
  have hn : aM + 7 + (max 0 0 + 3) ≤ n + 1 := hn
  have wo : rWs f pp ee (V.2.2.1 32) L env (sEv d.2.2.2.1.2) ∧ _ := wo
  have h10 : τ.2.2.1 10 m = nI x := G0.row fm (by omega) t1
  have hxx : x < 2100 := by have := s1.1; have := H.1.2.2.1; omega
  obtain ⟨n, rfl⟩ : ∃ n', n = n' + 1 := ⟨n - 1, by omega⟩
  have e0 := r_isN (h0 := h0) (qs := qs) (ks := ks) (Tt := Tt) (n := n) H.1.2.2.1 H.1.2.2.2.1 o3.1 ((fm.at lo N S P A).sm s1 (Nat.le_refl _) (Nat.le_refl _))
  rw [zE_typed]
  unfold b_typed
  simp only [zgd, zin_n hm (by decide), if_true, nI_clamp (show m < 2 ^ 31 by omega), h6, h10]
  rw [if_neg (by decide), if_neg (by decide), if_neg (by decide), if_neg (by decide), if_neg (by decide), if_neg (by decide), if_neg (by decide), if_neg (by decide), if_neg (by decide), if_pos (by decide)]
  rw [e0, zci_at]
  show ∃ τ' v, _ ∧ rRes k0 [] L env _ τ g T c _ _ (mEt d.1 (mSu f pp ee env d.2.2.2.1.2 s).2 (mSu f pp ee env d.2.2.2.1.2 s).1, (mSu f pp ee env d.2.2.2.1.2 s).2) v τ'
  unfold mSu
  cases hN : isN d.2.2.2.1.2 with
  | false =>
    rw [if_pos (show b01 false = 0 from rfl), if_neg (by decide)]
    obtain ⟨τ1, e1, G1⟩ := G0.sum (h0 := h0) (qs := qs) (ks := ks) (n := n + 1) H fm w1 o3.1 wo.1 s1 (by omega) (by omega)
    obtain ⟨τ2, v2, e2, G2⟩ := G1.pla (h0 := h0) (qs := qs) (ks := ks) (Tt := Tt) (n := n) (k := 0) (by decide) (by omega)
    rw [h10, e1, zcv_at, (show zF h0 qs ks Tt (n + 1) 40 [.ref h0, .int 1, .int (-1), .int (-1)] τ1 = _ from e2), zci_at]
    exact ⟨τ2, v2, rfl, (G2.fin (List.mem_cons_self ..) (fun u => Iff.rfl) d.1 (fun p hp => by cases hp)).mo (by show 0 + (sEv d.2.2.2.1.2).length + 1 ≤ (sEv d.2.2.2.1.2).length + (sEv d.2.2.2.2.2).length + 2 + 0 + 0; omega) (Nat.le_add_right _ _)⟩
  | true =>
    rw [if_neg (show ¬ b01 true = 0 by decide), if_pos rfl]
    obtain ⟨q1, q2, q3⟩ := of_decide_eq_true hN
    obtain ⟨p, ep⟩ : ∃ p, d.2.2.2.1.2 = [p] := by
      match hh : d.2.2.2.1.2, q1 with
      | [p], _ => exact ⟨p, rfl⟩
    rw [ep] at q2 q3 w1 wo ⊢
    have q2 : p.1 = 1 := q2
    obtain ⟨-, -, i0, i1, i2, i3, i4⟩ := s1
    obtain ⟨r1, r2, r3⟩ := i4 0 p (by rw [ep]; rfl)
    rw [Nat.add_zero] at r3
    rw [ep] at i3
    have i3 : i0 + 1 ≤ P := i3
    have hi0 : i0 < 2100 := by have := H.1.2.2.2.1; omega
    have hp : p.2.2 < cnt := (w1 p (List.mem_singleton_self _)).2 (by omega)
    have hp' : p.2.2 < 2010 := by have := H.2.1.2.2.2.2.2.2; omega
    have ev : sEv [p] = [p.2.2] := by
      unfold sEv sNm
      rw [List.filter_cons_of_pos (by simp; omega)]
      rfl
    obtain ⟨y, u, y1, y2, y3⟩ := wo.1 p.2.2 (by rw [ev]; exact List.mem_singleton_self _)
    have hy : y < 700 := by
      have := H.2.2.1
      by_cases z : y < L.length
      · omega
      · rw [List.getElem?_eq_none (by omega)] at y2; cases y2
    obtain ⟨j, -, ej⟩ := nFind_mem y3
    have f13 : τ.2.2.1 13 x = nI i0 := G0.row fm (by omega) i1
    have f18 : τ.2.2.1 18 i0 = nI p.2.2 := G0.row fm (by omega) r3
    have f32 : τ.2.2.1 32 p.2.2 = nI y := G0.row fm (by omega) y1
    simp only [h10, zin_n hxx (by decide), if_true, nI_clamp (show x < 2 ^ 31 by omega), f13, zin_n hi0 (by decide), nI_clamp (show i0 < 2 ^ 31 by omega), f18, zin_n hp' (by decide), nI_clamp (show p.2.2 < 2 ^ 31 by omega), f32, zin_n hy (by decide), nI_clamp (show y < 2 ^ 31 by omega)]
    refine ⟨τ, _, rfl, g, T, c, ⟨(hx.1.cg rfl (Nat.le_refl _)).mo (Nat.le_add_right _ _), hx.2⟩, Nat.le_add_right _ _, tFm.rf τ, xE.rf g T, fun z => ?_, fun u hu => (by cases hu), fun _ _ => rfl, nZ.nil ..⟩
    have em : mNm f pp ee env p.2.2 s = s.2.2.1 u := by unfold mNm; rw [y3]; rfl
    show ∃ x, _ = nI x ∧ gY g T s x (mNm f pp ee env p.2.2 s)
    rw [em]
    exact hx.2 u (List.mem_of_getElem? ej) y y2 z
end RIF
