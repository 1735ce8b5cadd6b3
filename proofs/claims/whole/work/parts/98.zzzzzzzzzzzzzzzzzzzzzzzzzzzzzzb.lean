/-! run(), the reference: ARGS -/
section XRC
variable {pp kk ee f : Nat → Int32} {tE tN : Nat → tY} {L : List Nat} {V τ : zSt} {N S P A c n cnt len : Nat} {h : xmHp} {fr : List xmFr} {ks : Nat → Nat} {qs : List Nat} {T h0 m : Nat} {y : tY} {v : xmV} {rest : List xmV} {env : List Nat} {vs : List xmV} {k : Int32}
/-- sumValue() -/
theorem r_sv (X : rXs T len cnt S P kk pp ee f L V) (F : xFm V τ) (hc : c ≤ 260000) (E : rEc (V.2.2.1 32) τ c env vs k) (H : xmH cnt kk f pp ee tE tN (V.2.2.1 32) L h) (En : xmEn tE tN h env vs) (Y : rYl τ h) (hl : h.2.2.length ≤ 20000) (hl2 : h.2.1.length ≤ 20006) (hn : env.Nodup) (hto : ∀ u, u ∈ env → rTo (V.2.2.1 32) L u) (he : env.length ≤ 100) (h191 : τ.1 191 = 0) {s : Nat} {t : tS} (hs : rSm pp V S P s t) (h3 : pO3 t.2) (hg : sGd cnt t.2) (hw : rWs f pp ee (V.2.2.1 32) L env (sEv t.2)) (hk : isN t.2 = false → gSo f pp ee tN env t.2) : zF h0 qs ks T (m + 4) 132 [.ref h0, .int (nI s), .int k] τ = some (none, if isN t.2 = true then zJ (zI τ 192 (nI (xmGet f pp ee env vs (t.2.headD (0, false, 0)).2.2).1)) 193 (xmGet f pp ee env vs (t.2.headD (0, false, 0)).2.2).2 else if xmB (xmSm T f pp ee h env vs t.2) = true then zJ (zI τ 192 0) 193 (xmSm T f pp ee h env vs t.2) else zJ (zI (zI τ 191 2) 192 0) 193 (xmSm T f pp ee h env vs t.2)) := by
  have X1 := X.2.1
  have T1 := X.2.2.2
  have hlen := X.1.2.2.2.2.2.2
  rw [zE_sumValue]
  unfold b_sumValue
  have hsτ : rSm pp τ S P s t := by
    obtain ⟨s1, s0, a, s2, s3, s4, s5⟩ := hs
    exact ⟨s1, by rw [F.1 15 (by decide)]; exact s0, a, by rw [F.1 13 (by decide)]; exact s2, by rw [F.1 14 (by decide)]; exact s3, s4, fun q p e => by rw [F.1 16 (by decide), F.1 17 (by decide), F.1 18 (by decide)]; exact s5 q p e⟩
  rw [r_isN (n := m + 2) (by omega) (by omega) h3 hsτ, zci_at]
  by_cases ci : isN t.2 = true
  · rw [ci, if_neg (by decide), if_pos rfl]
    obtain ⟨s1, s0, a, s2, s3, s4, s5⟩ := hs
    obtain ⟨c1, c2, c3⟩ := of_decide_eq_true ci
    cases ep : t.2 with
    | nil => rw [ep] at c1; cases c1
    | cons p ps =>
      rw [ep] at c1 c2 c3 s4 s5 hw hg
      have p1 : p.1 = 1 := c2
      have hu := hw p.2.2 (xsEv (List.mem_cons_self ..) (by omega))
      obtain ⟨r1, r2, r3⟩ := s5 0 p rfl
      rw [Nat.add_zero] at r3
      have hpc := hg.1 p (List.mem_cons_self ..)
      rw [List.length_cons] at s4
      obtain ⟨i, g1, g2, g3, g4⟩ := r_get (n := m + 2) (h0 := h0) (qs := qs) (ks := ks) (T := T) F hc E En hn hto X.2.2.1.1 X.2.2.1.2 (by omega) hu
      rw [zgd_at (zin_n (by omega) (by decide)), nI_clamp (by omega), F.1 13 (by decide), s2, zgd_at (zin_n (by omega) (by decide)), nI_clamp (by omega), F.1 18 (by decide), r3, zgd_at (zin_n (by omega) (by decide)), nI_clamp (by omega), F.1 32 (by decide), g1, zci_at, zgd_at (zin_n (by omega) (by decide)), zgd_at (zin_n (by omega) (by decide)), nI_clamp (by omega), g3, g4, r_is, zcv_at]
      rfl
  · have ci' : isN t.2 = false := by simpa using ci
    rw [ci', if_pos (show b01 false = 0 from rfl), if_neg (by decide), r_val (n := m) X F hc E H En Y hl hl2 hn hto he h191 hs h3 hg hw (hk ci'), zcl_at', r_is, zcv_at]
    by_cases cb : xmB (xmSm T f pp ee h env vs t.2) = true
    · rw [if_pos cb, if_pos cb]
    · rw [if_neg cb, if_neg cb]
/-- ARGS as they stand in slots from c0 on -/
def rAk (τ : zSt) (c0 : Nat) (l : List xmV) : Prop := ∀ (j : Nat) (v : xmV), l[j]? = some v → τ.2.2.1 105 (c0 + j) = -1 ∧ τ.2.2.1 106 (c0 + j) = nI v.1 ∧ τ.2.2.2 108 (c0 + j) = v.2 ∧ τ.2.2.1 107 (c0 + j) = if j + 1 < l.length then nI (c0 + j + 1) else -1
theorem rAk.ch {c0 : Nat} {l : List xmV} (h : rAk τ c0 l) : ∀ (q : Nat) (r : List xmV), q + r.length = l.length → (∀ j v, r[j]? = some v → l[q + j]? = some v) → rCh τ (c0 + l.length) (xmAc r) (if r = [] then -1 else nI (c0 + q))
  | q, [], _, _ => by rw [if_pos rfl]; rfl
  | q, v :: r, e, hr => by
    rw [List.length_cons] at e
    rw [if_neg (fun z => by cases z)]
    obtain ⟨h1, h2, h3, h4⟩ := h q v (hr 0 v rfl)
    have I := rAk.ch h (q + 1) r (by omega) (fun j v' e' => by
      have := hr (j + 1) v' e'
      rw [show q + 1 + j = q + (j + 1) by omega]
      exact this)
    refine ⟨c0 + q, rfl, by omega, ⟨h1, h2, h3⟩, ?_⟩
    rw [h4]
    cases r with
    | nil =>
      rw [List.length_nil] at e
      rw [if_neg (by omega)]
      rw [if_pos rfl] at I
      exact I
    | cons v' r =>
      rw [List.length_cons] at e
      rw [if_pos (by omega)]
      rw [if_neg (fun z => by cases z)] at I
      exact I
/-- a slot more, far from what is held -/
theorem xFm.z (F : xFm V τ) (x : Int32) : xFm V (zI τ 171 x) := F.tr (xFm.i τ x (by decide))
theorem rXa.bump {c0 c1 : Nat} (I : rXa pp V N S P A (zI τ 171 (nI c0)) c0 n h fr) (e : τ.1 171 = nI c1) (hc : c0 ≤ c1) : rXa pp V N S P A τ c1 n h fr := by
  obtain ⟨F, ⟨a1, a2, a3, a4, a5⟩, b, y, ⟨d, d1, d2⟩, e1, e2, e3⟩ := I
  have ne : ∀ j, j ≠ 171 → τ.1 j = (zI τ 171 (nI c0)).1 j := fun j hj => (zI_ne hj).symm
  have K : ∀ nf nd, xKp c0 nf nd (zI τ 171 (nI c0)) τ := fun _ _ => ⟨fun _ _ => ⟨rfl, rfl, rfl, rfl⟩, fun _ _ _ _ _ => rfl, fun _ _ _ _ _ => rfl⟩
  refine ⟨⟨F.1, fun k hk => ?_, F.2.2.1, F.2.2.2⟩, ⟨e, (ne _ (by decide)).trans a2, (ne _ (by decide)).trans a3, (ne _ (by decide)).trans a4, (ne _ (by decide)).trans a5⟩, b.kp (K _ 0) hc, y.kp ⟨rfl, rfl, rfl, rfl, rfl, rfl⟩, ⟨d, (ne _ (by decide)).trans d1, rFk.kp (K 0 d) hc fr d (Nat.le_refl _) d2⟩, (ne _ (by decide)).trans e1, (ne _ (by decide)).trans e2, (ne _ (by decide)).trans e3⟩
  rw [ne k (fun z => hk (by rw [z]; decide))]
  exact F.2.1 k hk
/-- what does not touch what is held -/
theorem rXa.far {τ' : zSt} {c0 : Nat} (I : rXa pp V N S P A (zI τ 171 (nI c0)) c0 n h fr) (F : xFm V τ') (hf : ∀ j, j ∈ [176, 180, 181, 188, 189, 190, 191, 164] → τ'.1 j = τ.1 j) (K : ∀ nf nd, xKp c0 nf nd τ τ') (y : yKp τ τ') : rXa pp V N S P A (zI τ' 171 (nI c0)) c0 n h fr := by
  obtain ⟨-, ⟨a1, a2, a3, a4, a5⟩, b, w, ⟨d, d1, d2⟩, e1, e2, e3⟩ := I
  have ne : ∀ j, j ∈ [176, 180, 181, 188, 189, 190, 191, 164] → (zI τ' 171 (nI c0)).1 j = (zI τ 171 (nI c0)).1 j := fun j hj => by
    have h1 : j ≠ 171 := fun z => by rw [z] at hj; exact absurd hj (by decide)
    rw [zI_ne h1, zI_ne h1]
    exact hf j hj
  have K' : ∀ nf nd, xKp c0 nf nd (zI τ 171 (nI c0)) (zI τ' 171 (nI c0)) := fun nf nd => K nf nd
  exact ⟨F.z _, ⟨zI_eq _ _ _, (ne _ (by decide)).trans a2, (ne _ (by decide)).trans a3, (ne _ (by decide)).trans a4, (ne _ (by decide)).trans a5⟩, b.kp (K' _ 0) (Nat.le_refl _), w.kp y, ⟨d, (ne _ (by decide)).trans d1, rFk.kp (K' 0 d) (Nat.le_refl _) fr d (Nat.le_refl _) d2⟩, (ne _ (by decide)).trans e1, (ne _ (by decide)).trans e2, (ne _ (by decide)).trans e3⟩
/-- one ARG more -/
theorem r_c147 {c0 : Nat} {acc : List xmV} {nd : Nat} {ke x3 x4 x5 : Int32} {K8 : Int32 → Int32 → Int32 → Int32 → Int32 → zSt → zRs} (I : rXa pp V N S P A (zI τ 171 (nI c0)) c0 n h fr) (F : xFm V τ) (e171 : τ.1 171 = nI (c0 + acc.length)) (hc : c0 + acc.length < 260000) (Ak : rAk τ c0 acc) (h3 : x3 = if acc = [] then -1 else nI c0) (h4 : x4 = if acc = [] then -1 else nI (c0 + acc.length - 1)) (h192 : τ.1 192 = nI v.1) (h193 : τ.2.1 193 = v.2) : ∃ τ' x3' x4', j_called_147 T (zF h0 qs ks T (m + 1)) h0 qs ks K8 (nI nd) ke x3 x4 x5 τ = K8 (nI nd) ke x3' x4' (x5 + 1) τ' ∧ rXa pp V N S P A (zI τ' 171 (nI c0)) c0 n h fr ∧ xFm V τ' ∧ τ'.1 171 = nI (c0 + (acc ++ [v]).length) ∧ rAk τ' c0 (acc ++ [v]) ∧ (x3' = if acc ++ [v] = [] then -1 else nI c0) ∧ (x4' = if acc ++ [v] = [] then -1 else nI (c0 + (acc ++ [v]).length - 1)) ∧ rSk τ τ' c0 ∧ yKp τ τ' ∧ (∀ j, j ≠ 171 → τ'.1 j = τ.1 j) := by
  have ln : (acc ++ [v]).length = acc.length + 1 := by rw [List.length_append]; rfl
  have ne' : acc ++ [v] ≠ [] := by simp
  unfold j_called_147
  rw [r_slot e171 hc, zci_at, h192, h193]
  obtain ⟨s1, s2, s3, s4⟩ := slS_at τ (c0 + acc.length) (-1) (-1) (nI v.1) v.2
  have sk := slS_sk τ (c0 + acc.length) (-1) (-1) (nI v.1) v.2
  have kp : ∀ nf nd, xKp c0 nf nd τ (slS τ (c0 + acc.length) (-1) (-1) (nI v.1) v.2) := fun nf nd => by
    have q := slS_kp τ (c0 + acc.length) nf nd (-1) (-1) (nI v.1) v.2
    exact ⟨fun i hi => q.1 i (by omega), q.2.1, q.2.2⟩
  have F1 := F.tr (xFm.s τ (c0 + acc.length) (-1) (-1) (nI v.1) v.2)
  have I1 := I.far F1 (fun j hj => if_neg (fun z => by rw [z] at hj; exact absurd hj (by decide))) kp (slS_y τ (c0 + acc.length) (-1) (-1) (nI v.1) v.2)
  cases ha : acc with
  | nil =>
    subst ha
    rw [if_pos rfl] at h3 h4
    rw [if_pos (by rw [h4]; decide)]
    refine ⟨_, _, _, rfl, I1, F1, by rw [ln]; rfl, fun j w e => ?_, by rw [if_neg ne']; rfl, by rw [if_neg ne']; rfl, fun i hi => sk i (by omega), slS_y _ _ _ _ _ _, fun j hj => if_neg hj⟩
    cases j with
    | zero =>
      injection e with e
      subst e
      exact ⟨s1, s2, s4, s3⟩
    | succ j => cases e
  | cons a0 ac =>
    rw [← ha]
    have hne : acc ≠ [] := fun z => by rw [z] at ha; cases ha
    have hpos : 0 < acc.length := by rw [ha, List.length_cons]; omega
    rw [if_neg hne] at h3 h4
    have z4 : zin x4 260000 = true := by rw [h4]; exact zin_n (by omega) (by decide)
    have c4 : x4.toNatClampNeg = c0 + acc.length - 1 := by rw [h4]; exact nI_clamp (by omega)
    rw [if_neg (by rw [h4]; exact xnI_nn (by omega)), zgd_at z4, zlet, c4]
    have up : ∀ i, (zA (slS τ (c0 + acc.length) (-1) (-1) (nI v.1) v.2) 107 (upd ((slS τ (c0 + acc.length) (-1) (-1) (nI v.1) v.2).2.2.1 107) (c0 + acc.length - 1) (nI (c0 + acc.length)))).2.2.1 107 i = if i = c0 + acc.length - 1 then nI (c0 + acc.length) else (slS τ (c0 + acc.length) (-1) (-1) (nI v.1) v.2).2.2.1 107 i := fun i => by
      rw [zA_eq]
      rfl
    have ot : ∀ k, k ≠ 107 → (zA (slS τ (c0 + acc.length) (-1) (-1) (nI v.1) v.2) 107 (upd ((slS τ (c0 + acc.length) (-1) (-1) (nI v.1) v.2).2.2.1 107) (c0 + acc.length - 1) (nI (c0 + acc.length)))).2.2.1 k = (slS τ (c0 + acc.length) (-1) (-1) (nI v.1) v.2).2.2.1 k := fun k hk => zA_ne hk
    have kp2 : ∀ nf nd, xKp c0 nf nd τ (zA (slS τ (c0 + acc.length) (-1) (-1) (nI v.1) v.2) 107 (upd ((slS τ (c0 + acc.length) (-1) (-1) (nI v.1) v.2).2.2.1 107) (c0 + acc.length - 1) (nI (c0 + acc.length)))) := fun nf nd => by
      obtain ⟨k1, k2, k3⟩ := kp nf nd
      refine ⟨fun i hi => ?_, fun k i a1 a2 a3 => by rw [ot k (by omega)]; exact k2 k i a1 a2 a3, fun k i a1 a2 a3 => by rw [ot k (by omega)]; exact k3 k i a1 a2 a3⟩
      obtain ⟨b1, b2, b3, b4⟩ := k1 i hi
      exact ⟨by rw [ot 105 (by decide)]; exact b1, by rw [ot 106 (by decide)]; exact b2, by rw [up, if_neg (by omega)]; exact b3, b4⟩
    have F2 : xFm V (zA (slS τ (c0 + acc.length) (-1) (-1) (nI v.1) v.2) 107 (upd ((slS τ (c0 + acc.length) (-1) (-1) (nI v.1) v.2).2.2.1 107) (c0 + acc.length - 1) (nI (c0 + acc.length)))) := F1.tr ⟨fun k hk => zA_ne (by omega), fun _ _ => rfl, fun _ _ _ => rfl, fun _ _ => rfl⟩
    have y2 : yKp τ (zA (slS τ (c0 + acc.length) (-1) (-1) (nI v.1) v.2) 107 (upd ((slS τ (c0 + acc.length) (-1) (-1) (nI v.1) v.2).2.2.1 107) (c0 + acc.length - 1) (nI (c0 + acc.length)))) := ⟨rfl, rfl, rfl, rfl, rfl, rfl⟩
    refine ⟨_, _, _, rfl, I.far F2 (fun j hj => if_neg (fun z => by rw [z] at hj; exact absurd hj (by decide))) kp2 y2, F2, by rw [ln]; rfl, fun j w e => ?_, by rw [if_neg ne']; exact h3, by rw [if_neg ne', ln]; rfl, (kp2 0 0).1, y2, fun j hj => if_neg hj⟩
    rw [ot 105 (by decide), ot 106 (by decide), up, ln]
    have q108 : (zA (slS τ (c0 + acc.length) (-1) (-1) (nI v.1) v.2) 107 (upd ((slS τ (c0 + acc.length) (-1) (-1) (nI v.1) v.2).2.2.1 107) (c0 + acc.length - 1) (nI (c0 + acc.length)))).2.2.2 108 = (slS τ (c0 + acc.length) (-1) (-1) (nI v.1) v.2).2.2.2 108 := rfl
    rw [q108]
    by_cases cj : j < acc.length
    · rw [List.getElem?_append_left cj] at e
      obtain ⟨b1, b2, b3, b4⟩ := Ak j w e
      obtain ⟨g1, g2, g3, g4⟩ := sk (c0 + j) (by omega)
      refine ⟨g1.trans b1, g2.trans b2, g4.trans b3, ?_⟩
      rw [if_pos (show j + 1 < acc.length + 1 by omega)]
      by_cases cl : j + 1 = acc.length
      · rw [if_pos (by omega), show c0 + acc.length = c0 + j + 1 by omega]
      · rw [if_neg (by omega), g3, b4, if_pos (by omega)]
    · rw [List.getElem?_append_right (by omega)] at e
      cases hj : j - acc.length with
      | zero =>
        rw [hj] at e
        injection e with e
        subst e
        have ej : j = acc.length := by omega
        subst ej
        refine ⟨s1, s2, s4, ?_⟩
        rw [if_neg (by omega), s3, if_neg (by omega)]
      | succ i =>
        rw [hj] at e
        cases e
end XRC
