/-! both forms: the two sides -/
section NEV
variable {kk f pp ee : Nat → Int32} {cnt : Nat} {is : List (Nat × Nat)} {e : tT}
theorem nm_ev (h6 : is.length ≤ 6) (hg : tGd kk cnt e) (hN : (nT f pp ee e (nIn f pp ee is ([], [], none))).2.2 = none) : rEv (is.map Prod.fst ++ tW e) e (is.map Prod.fst) := by
  obtain ⟨n1, n2⟩ := nIn_3 (f := f) (pp := pp) (ee := ee) is ([], [], none)
  have cl : inW (cFd f pp ee) is [] ++ tWr (cFd f pp ee) e (is.map Prod.fst) = [] := by
    rw [nT_3, n1, n2, nHd_ap] at hN
    have hN : (inW (cFd f pp ee) is [] ++ tWr (cFd f pp ee) e ([] ++ is.map Prod.fst)).head? = none := hN
    rw [List.nil_append] at hN
    exact List.head?_eq_none_iff.mp hN
  obtain ⟨cl1, cl2⟩ := List.append_eq_nil_iff.mp cl
  have hF : ∀ (env : List Nat) w, env.length ≤ 12 → cFd f pp ee env w = kFd f pp ee env w := fun env w h => (kFd_c h).symm
  have kl1 : inW (kFd f pp ee) is [] = [] := by rw [← inW_hd hF is [] (by show 0 + is.length ≤ 12; omega)]; exact cl1
  have kl2 : tWr (kFd f pp ee) e (is.map Prod.fst) = [] := by
    have := tWr_hd hF e (is.map Prod.fst) (by rw [List.length_map]; omega)
    rw [cl2] at this
    exact List.head?_eq_none_iff.mp this.symm
  have eD0 : eD f pp ee [] := ⟨Nat.zero_le _, fun u hu => by cases hu⟩
  have eDi := eD_in is [] eD0 kl1
  rw [List.nil_append] at eDi
  exact rEv.of e _ hg eDi (fun u hu => List.mem_append_left _ hu) (fun u hu => List.mem_append_right _ hu) kl2
end NEV
section RUF
variable {ks : Nat → Nat} {qs : List Nat} {T n h0 len cnt N S P A x : Nat} {kk pp ee f : Nat → Int32} {xs : List tQ} {is : List (Nat × Nat)} {e : tT} {τ' : zSt} {g : gG} {Tt : Nat → mF} {s : mS}
set_option maxHeartbeats 1000000 in
/-- the reference's formsOf() behind its types -/
theorem r_upF (hT : 9010 ≤ T) (hlen : len ≤ 2000) (hcnt : cnt ≤ len) (hp0 : ∀ w, 0 ≤ pp w) (G : pG kk pp cnt is e) (hgd : tGd kk cnt e) (hH : tH e ≤ 31) (L7 : (is.map Prod.fst ++ tW e).length ≤ 700) (Po : rPo T len cnt kk pp ee f xs is e N S P A x τ') (hev : rEv (is.map Prod.fst ++ tW e) e (is.map Prod.fst)) (h52 : τ'.1 52 = -1) (hs : mSat s.1) (hg : ∃ k, rG τ' g k) (hK : gK g) (hC : gC g) (hTt : gT g Tt s) (hx : xN g.n (fun y => decide (g.K y = 1)) ≤ 1600) (hd : ∀ u, u ∈ is.map Prod.fst ++ tW e → dY (is.map Prod.fst ++ tW e) τ' g Tt s u) (hnd : ∀ p, p ∈ nE τ' e 0 x → ndY τ' g Tt s p) (hn : 1740 ≤ n) : ∃ τ'' ρ α, zF h0 qs ks T n 63 [.ref h0, .int (nI x), .int 0] (zI τ' 65 0) = some (none, τ'') ∧ fFm (zI τ' 65 0) τ'' ∧ τ''.1 52 = fMin (fE f pp ee e (is.map Prod.fst) 0 (-1)) (tOv pp (fun u => s.2.2.2.1 u α) (fun u => s.2.2.1 u α) e (0, -1)).2 ∧ mAll s.1 α ∧ (∀ u, u ∈ tTg e → mCn s α (s.2.2.2.1 u)) ∧ (∀ u, u ∈ is.map Prod.fst ++ tW e → mCn s α (s.2.2.1 u)) ∧ rTf τ'' g ρ ∧ (∀ p, p ∈ nE τ' e 0 x → nC τ'' g ρ (fun u => s.2.2.2.1 u α) p) ∧ (∀ j u, (is.map Prod.fst ++ tW e)[j]? = some u → ∃ c, τ''.2.2.1 31 j = nI c ∧ c < g.n ∧ ρ c = s.2.2.1 u α) := by
  obtain ⟨ρ0, hρ0⟩ := hTt.sat.mpr hs
  obtain ⟨ρ, hco, hht⟩ := gCo.ex hK hC hρ0
  obtain ⟨α, a1, a2, a3⟩ := gCo.cn hK hTt hco
  obtain ⟨⟨i6, ic⟩, wf, -, ⟨o3, -, ta3⟩, ⟨-, -, -, -, k5, k6⟩, nd, -⟩ := G
  obtain ⟨nI', nE', nIE⟩ := List.nodup_append.mp nd
  have Lnd : (is.map Prod.fst ++ tW e).Nodup := List.nodup_append.mpr ⟨nI', nE'.sublist (tW_sub e), fun u hu w hw z => nIE u hu w (tW_ev e w hw) z⟩
  obtain ⟨hw, ⟨-, -, h43, -, -⟩, -, -, ⟨bN, bS, bP, bA⟩, tr, wo, num, -⟩ := Po
  have fm0 : fFm τ' (zI τ' 65 0) := ⟨fun k _ _ c => zIn _ _ c, fun _ _ => rfl, fun _ _ _ => rfl, rfl⟩
  have tf : rTf τ' g ρ := ⟨hg, hK, hco, fun y hy => by have := hht y hy; omega⟩
  have nu : rNu (τ'.2.2.1 32) (is.map Prod.fst ++ tW e) := by
    refine ⟨L7, Lnd, fun u hu => ?_⟩
    rcases List.mem_append.mp hu with hu | hu
    · obtain ⟨i, hi, ei⟩ := List.mem_iff_getElem.mp hu
      rw [List.length_map] at hi
      refine ⟨i, ?_, ?_⟩
      · rw [← ei, List.getElem_map]
        exact num i _ (List.getElem?_eq_getElem hi)
      · rw [List.getElem?_append_left (by rw [List.length_map]; exact hi), List.getElem?_eq_getElem (by rw [List.length_map]; exact hi), ei]
    · exact rWo_to e _ hgd wo u hu
  have nms : ∀ j u, (is.map Prod.fst ++ tW e)[j]? = some u → ∃ c, τ'.2.2.1 31 j = nI c ∧ c < g.n ∧ ρ c = s.2.2.1 u α := fun j u hj => by
    obtain ⟨c, c1, c2⟩ := hd u (List.mem_of_getElem? hj) j hj hs
    exact ⟨c, c1, c2.1, (a3 c _ c2).2⟩
  have ncs : ∀ p, p ∈ nE τ' e 0 x → nC τ' g ρ (fun u => s.2.2.2.1 u α) p := fun p hp => by
    obtain ⟨c, c1, c2⟩ := hnd p hp hs
    exact ⟨c, c1, c2.1, (a3 c _ c2).2⟩
  have H : rFh T len cnt N S P A (is.map Prod.fst ++ tW e) τ' kk pp ee f g ρ (fun u => s.2.2.1 u α) := ⟨⟨hT, by omega, by omega, by omega, by omega⟩, hw, nu, hp0, tf, nms⟩
  obtain ⟨τ'', f1, f2, f3⟩ := (r_frm (h0 := h0) (qs := qs) (ks := ks) (lo := 0) (tE := fun u => s.2.2.2.1 u α) H e ta3 hgd).1 (is.map Prod.fst) x 0 n (zI τ' 65 0) (0, -1) tr wf ⟨hgd, wo, hev, ncs⟩ fm0 ⟨zIe _ _ _, (zIn _ _ (by decide)).trans h52, by show 0 ≤ 61; omega⟩ (by omega) (by omega)
  have eq := (rFo_eq (f := f) (ee := ee) (tE := fun u => s.2.2.2.1 u α) (tN := fun u => s.2.2.1 u α) hp0 e (is.map Prod.fst) 0 0 (-1) (-1) hgd ⟨Or.inl rfl, Or.inl rfl, fun _ => rfl⟩).1
  have e1 : fMin (-1) (-1) = (-1 : Int32) := by decide
  rw [e1] at eq
  rw [eq] at f3
  have f4 : fFm (zI τ' 65 0) τ'' := ⟨fun k a b c => (f2.1 k a b c).trans (zIn _ _ c).symm, f2.2⟩
  refine ⟨τ'', ρ, α, f1, f4, f3.2.1, a1, fun u hu => ?_, fun u hu => ?_, tf.f f2, fun p hp => ?_, fun j u hj => ?_⟩
  · obtain ⟨p, p1, p2⟩ := nE_tg τ' e 0 x 0 wf hgd u hu
    obtain ⟨c, -, c2⟩ := hnd p p1 hs
    rw [← p2]
    exact (a3 c _ c2).1
  · obtain ⟨i, hi, ei⟩ := List.mem_iff_getElem.mp hu
    obtain ⟨c, c1, c2⟩ := hd u hu i (by rw [List.getElem?_eq_getElem hi, ei]) hs
    exact (a3 c _ c2).1
  · obtain ⟨c, c1, c2⟩ := ncs p hp
    exact ⟨c, (f2.r (k := 39) (by decide) (by decide) p.1).trans c1, c2⟩
  · obtain ⟨c, c1, c2⟩ := nms j u hj
    exact ⟨c, (f2.r (k := 31) (by decide) (by decide) j).trans c1, c2⟩
end RUF
section CUF
variable {κ : oKv} {T T0 n mo y cnt p q0 d0 cap e0 lo fk i0 : Nat} {A B : Nat → Nat} {D : cDt} {V σ2 : oSt} {nm gg : Nat → Option Nat} {kk pp ee f : Nat → Int32} {L env : List Nat} {mc : Int32} {ps : List Value} {e : tT} {g : gG} {Tt : Nat → mF} {s : mS}
set_option maxHeartbeats 1000000 in
/-- the class's findAll() behind types -/
theorem c_upF (hT : 500000 ≤ T) (hH : wH κ T mo y cnt A V nm pp L) (cx : cXE V y A mo nm env σ2 s g Tt) (hs : mSat s.1) (hnm : ∀ u, u ∈ L → nY V nm σ2 g Tt s u) (h3 : ∀ u, u ∈ L → ∃ b fs, nm u = some b ∧ V.1 b = some (.inr (6, fs)) ∧ 3 < fs.length) (hX : cTX κ T0 kk pp ee f B D (eY σ2 g Tt s) lo V nm e env fk (fun _ => none) 0 e0) (wf : tWf kk cnt e 0) (hgd : tGd kk cnt e) (ta3 : tA3 pp e) (rg : tRg e i0 cnt) (hc : cnt ≤ 2000) (hW : ∀ u, u ∈ tW e → u ∈ L) (e9 : V.1 p = some (.inr (9, ps))) (h2 : ps[2]? = some (.ref q0)) (h10 : ps[10]? = some (.ref e0)) (l1 : cLs κ V q0 d0 cap L.length mc gg 6) (hgg : ∀ k u, L[k]? = some u → gg k = nm u) (hl2 : L.length ≤ 2000) (hnd : L.Nodup) (hn : tH e + 5 ≤ n + 3) : ∃ σ4 ρ α l, ol_X10_findAll_77 T (oF κ T (n + 3)) κ T (some y) (some p) 0 σ2 = some (none, σ4) ∧ vK V σ4 ∧ yTf y A mo g ρ l (tOv pp (fun u => s.2.2.2.1 u α) (fun u => s.2.2.1 u α) e (0, -1)).2 σ4 ∧ mAll s.1 α ∧ (∀ u, u ∈ tTg e → mCn s α (s.2.2.2.1 u)) ∧ (∀ u, u ∈ L → mCn s α (s.2.2.1 u)) ∧ (∀ u, u ∈ L → nK V nm g ρ (fun u => s.2.2.1 u α) σ4 u ∧ ∃ b, nm u = some b ∧ ofd σ4 (some b) 6 3 = some (.int (cKd (yK (s.2.2.1 u α))))) ∧ cTX κ T0 kk pp ee f B D (eXw σ4 g ρ (fun u => s.2.2.2.1 u α)) lo V nm e env fk (fun _ => none) 0 e0 ∧ (∀ a fs, V.1 a = some (.inr (7, fs)) → σ4.1 a = σ2.1 a) ∧ σ4.2 = σ2.2 ∧ (∀ c t, gY g Tt s c t → mCn s α t ∧ ρ c = t α) := by
  obtain ⟨⟨vr, cs⟩, -⟩ := cx
  rcases cs with ⟨-, F, yt, gr, hK, hC, gm, hTt⟩ | ⟨pl, c, F, q1, -⟩
  rotate_left
  · exact absurd hs q1.no
  obtain ⟨ρ0, hρ0⟩ := hTt.sat.mpr hs
  obtain ⟨ρ, hco, hht⟩ := gCo.ex hK hC hρ0
  obtain ⟨α, a1, a2, a3⟩ := gCo.cn hK hTt hco
  have hxn : xN g.n (fun y => decide (g.K y = 1)) ≤ g.n := xN_n _ _
  have tf : yTf y A mo g ρ 0 (-1) σ2 := ⟨F, yt, gr, hK, hco, gm, fun c hc => by have := hht c hc; omega⟩
  have v0 := vK.of vr
  have nk0 : ∀ u, u ∈ L → nK V nm g ρ (fun u => s.2.2.1 u α) σ2 u := fun u hu => by
    obtain ⟨b, fs, v, b1, b2, b3, b4⟩ := hnm u hu
    obtain ⟨b', fs', c1, c2, c3⟩ := h3 u hu
    rw [b1] at c1
    injection c1 with c1
    subst c1
    rw [b2] at c2
    injection c2 with c2; injection c2 with c2; injection c2 with _ c2
    subst c2
    obtain ⟨c, rfl, hc⟩ := b4 hs
    obtain ⟨w, w1, -⟩ := vr.2.1 b fs b2
    rw [ofd_at w1] at b3
    exact ⟨b, fs, c, _, b1, b2, w1, by rw [List.length_set]; exact c3, b3, hc.1, (a3 c _ hc).2⟩
  obtain ⟨σ3, i1, i2, i3, i4, i5, i6, i7⟩ := c_fa2 (n := n) (tN := fun u => s.2.2.1 u α) hH e9 h2 h10 l1 hgg hl2 hnd L.length 0 T σ2 (Nat.zero_add _) (by omega) v0 tf nk0 (fun j u hj => by omega)
  have i6' : ∀ a fs, V.1 a = some (.inr (7, fs)) → σ3.1 a = σ2.1 a := fun a fs e => i6 a (fun fs' z => by rw [e] at z; cases z)
  have X3 : cTX κ T0 kk pp ee f B D (eXw σ3 g ρ (fun u => s.2.2.2.1 u α)) lo V nm e env fk (fun _ => none) 0 e0 := cTX.imp e lo i0 cnt env fk _ 0 e0 rg (fun m u fs _ _ hm _ hx => by
    obtain ⟨c, c1, c2⟩ := hx hs
    exact ⟨c, (ofd_cg (i6' m fs hm)).trans c1, c2.1, (a3 c _ c2).2⟩) hX
  have H : cHw κ T mo y cnt A V nm pp L g ρ (fun u => s.2.2.1 u α) σ3 := ⟨hT, hH, i2, i4⟩
  obtain ⟨σ4, l', j1, j2, j3, -, -⟩ := (c_cnt (T0 := T0) (B := B) (D := D) (kk := kk) (ee := ee) (f := f) (tE := fun u => s.2.2.2.1 u α) H e ta3 hgd).1 env fk lo e0 i0 cnt (n + 3) X3 wf hgd rg hc hW hn σ3 (0, -1) 0 (Or.inl ⟨Nat.zero_le _, rfl, rfl⟩) (Nat.zero_le _) i3 (yF.rf _ _ _)
  have low : ∀ a, a < V.2.1 → σ4.1 a = σ3.1 a := fun a ha => j3.1 a (by have := hH.1.2.1; omega) (fun i hi => by have := hH.1.2.2.1 i hi; omega)
  refine ⟨σ4, ρ, α, nI l', ?_, i2.yF hH.1.2.1 hH.1.2.2.1 j3, j2, a1, fun u hu => ?_, fun u hu => ?_, fun u hu => ⟨?_, ?_⟩, ?_, fun a fs e => (low a (i2.lt e)).trans (i6' a fs e), j3.2.1.trans i7, a3⟩
  · exact (show ol_X10_findAll_77 T (oF κ T (n + 3)) κ T (some y) (some p) (nI 0) σ2 = _ from i1).trans (by rw [j1, ocv_at])
  · obtain ⟨m, hx⟩ := cTX_tg e lo env fk _ 0 e0 0 wf hgd hX u hu
    obtain ⟨c, -, c2⟩ := hx hs
    exact (a3 c _ c2).1
  · obtain ⟨b, fs, v, b1, b2, b3, b4⟩ := hnm u hu
    obtain ⟨c, -, hc⟩ := b4 hs
    exact (a3 c _ hc).1
  · obtain ⟨b, fs, c, gs, n1, n2, n3, n4⟩ := i4 u hu
    exact ⟨b, fs, c, gs, n1, n2, (low b (i2.lt n2)).trans n3, n4⟩
  · obtain ⟨b, fs, c, gs, n1, n2, n3, n4⟩ := i4 u hu
    obtain ⟨b', c1, c2⟩ := i5 u hu
    rw [n1] at c1
    injection c1 with c1
    subst c1
    exact ⟨b, n1, (ofd_cg (low b (i2.lt n2))).trans c2⟩
  · exact cTX.imp e lo i0 cnt env fk _ 0 e0 rg (fun m u fs _ _ hm _ hx => by
      obtain ⟨c, c1, c2⟩ := hx
      exact ⟨c, (ofd_cg (low m (i2.lt hm))).trans c1, c2⟩) X3
end CUF
