/-! the reference's typed(): let rec -/
section RRC
variable {ks : Nat → Nat} {qs : List Nat} {Tt h0 k0 len cnt lo N S P A aM : Nat} {Z : List (Nat × Nat)} {L : List Nat} {V : zSt} {kk pp ee f : Nat → Int32} {d : Nat × Nat × Nat × tS × tS} {z : Unit} {a b : tT}
theorem r_t2L {env : List Nat} {τ0 : zSt} {g0 : gG} {T0 : Nat → mF} {c0 am m d1 q n t : Nat} {s : mS} {r22 : Int32} (H : rH Tt len cnt lo N S P A L V kk pp ee f) (fm : tFm V τ0) (hm : m < 2100) (h10 : V.2.2.1 10 m = nI (d1 + 3)) (hq : d1 + 3 + q ≤ cnt) (hto : ∀ x, x < q → rTo (V.2.2.1 32) L (d1 + 3 + x)) (hE : ∀ x, x < q → d1 + 3 + x ∉ env) (hc : c0 + (2 * q + 1) ≤ 9000) : ∀ (i k : Nat) (τ : zSt) (x4 : Int32) (Q : List (Int32 × mF)), i + k = q → (x4, fV s k) ∈ Q → (r22, mV s.2.1) ∈ Q → rS k0 Z L env (wV (d1 + 3 + q) k) Q τ0 g0 T0 c0 (am + k) (1 + 2 * k) (sV (d1 + 3 + q) s k) τ → ∃ τ' x4' Q', l_typed_152 Tt (zF h0 qs ks Tt (n + 2)) h0 qs ks (i + t) (nI m) r22 x4 (nI i - 1) τ = l_typed_152 Tt (zF h0 qs ks Tt (n + 2)) h0 qs ks t (nI m) r22 x4' (nI 0 - 1) τ' ∧ (x4', fV s q) ∈ Q' ∧ (r22, mV s.2.1) ∈ Q' ∧ rS k0 Z L env (wV (d1 + 3 + q) q) Q' τ0 g0 T0 c0 (am + q) (1 + 2 * q) (sV (d1 + 3 + q) s q) τ'
  | 0, k, τ, x4, Q, e, h1, h2, G => by
    have e : k = q := by omega
    subst e
    exact ⟨τ, x4, Q, by rw [Nat.zero_add], h1, h2, G⟩
  | i + 1, k, τ, x4, Q, e, h1, h2, G => by
    have hl : cnt ≤ 2000 := by have := H.2.1.2.2.2.2.2.2; omega
    have ew : d1 + 3 + q - (k + 1) = d1 + 3 + i := by omega
    obtain ⟨τ1, v1, e1, G1⟩ := G.fre (h0 := h0) (qs := qs) (ks := ks) (Tt := Tt) (n := n) (by omega)
    rw [(sV_1 (d1 + 3 + q) s k).2] at G1
    obtain ⟨x, ⟨x1, x2⟩, G2⟩ := G1.tell (w := d1 + 3 + q - (k + 1)) H (by rw [ew]; exact hto i (by omega)) (by rw [ew]; exact hE i (by omega)) (fun z => by have := (wV_mem (d1 + 3 + q) k _ (by omega)).mp z; omega) (List.mem_cons_self ..)
    obtain ⟨τ3, v3, e3, G3⟩ := G2.fnc (h0 := h0) (qs := qs) (ks := ks) (Tt := Tt) (n := n + 1) (by omega) (List.mem_cons_self ..) (List.mem_cons_of_mem _ h1)
    obtain ⟨τ', x4', Q', r1, r2, r3, r4⟩ := r_t2L H fm hm h10 hq hto hE hc i (k + 1) τ3 v3 _ (by omega) (List.mem_cons_self ..) (List.mem_cons_of_mem _ (List.mem_cons_of_mem _ h2)) G3
    refine ⟨τ', x4', Q', ?_, r2, r3, r4⟩
    rw [← r1, show i + 1 + t = (i + t) + 1 by omega, l_typed_152]
    have f10 : τ.2.2.1 10 m = nI (d1 + 3) := G.row fm (by omega) h10
    rw [ew] at x1
    have f32 : τ.2.2.1 32 (d1 + 3 + i) = nI x := G.row fm (by omega) x1
    have s1 : nI (i + 1) - 1 = nI i := nI_s1 i
    rw [s1, if_neg (nI_neg1 (by omega))]
    simp only [zgd, zin_n hm (by decide), if_true, nI_clamp (show m < 2 ^ 31 by omega), f10, nI_add, zin_n (show d1 + 3 + i < 2010 by omega) (by decide), nI_clamp (show d1 + 3 + i < 2 ^ 31 by omega), f32, zin_n x2 (by decide), nI_clamp (show x < 2 ^ 31 by omega), e1, zci_at, zlet]
    rw [show (zA τ1 31 (upd (τ1.2.2.1 31) x v1)).2.2.1 31 x = v1 from upd_at _ _ _, e3, zci_at, ← Int32.sub_eq_add_neg]
set_option maxHeartbeats 1000000 in
theorem rt_2 (H : rH Tt len cnt lo N S P A L V kk pp ee f) (Ia : rInf ks qs Tt h0 k0 cnt lo N S P A aM L V kk pp ee f a) (Ib : rInf ks qs Tt h0 k0 cnt lo N S P A aM L V kk pp ee f b) : rTyp ks qs Tt h0 k0 cnt lo N S P A aM L V kk pp ee f (.inner 2 d z a b) := fun env τ s g T c am m n ht fm hx hs hc ha hn => by
  obtain ⟨tr, wf, o3, wo, dj, nd, pw⟩ := ht
  obtain ⟨n, rfl⟩ : ∃ n', n = n' + 1 := ⟨n - 1, by omega⟩
  have G0 := rS.rf hx
  obtain ⟨t0, ⟨t3, t4⟩, x, y, ⟨t1, t2⟩, ta, tb⟩ := tr
  have hm : m < 2100 := by have := t0.1.2; have := H.1.2.1; omega
  have h6 : τ.2.2.1 6 m = nI 2 := G0.row fm (by omega) t0.2.1
  have wf' : (d.2.1 ≤ 4 ∧ d.1 + 3 + d.2.1 ≤ cnt ∧ (∀ i, i < d.2.1 → aIs kk 1 (d.1 + 3 + i) = true) ∧ aIs kk 1 (d.1 + 3 + d.2.1) = false) ∧ tWf kk cnt a 0 ∧ tWf kk cnt b 0 := by
    rcases wf with ⟨h, _⟩ | ⟨h, _⟩ | ⟨_, h⟩
    · cases h
    · cases h
    · rcases h with ⟨h, _⟩ | ⟨_, h⟩ | ⟨h, _⟩ | ⟨h, _⟩ | ⟨h, _⟩ | ⟨h, _⟩ | ⟨h, _⟩ | ⟨h, _⟩ | ⟨h, _⟩ | ⟨h, _⟩ | ⟨h, _⟩ | ⟨h, _⟩ | ⟨h, _⟩ | ⟨h, _⟩
      all_goals first | exact h | (exfalso; omega)
  obtain ⟨⟨w0, w1, w2, w3⟩, wa, wb⟩ := wf'
  have hc : c + (2 * d.2.1 + 1 + tC a + tC b) ≤ 9000 := hc
  have ha : am + (d.2.1 + tA a + tA b) ≤ aM := ha
  have hn : aM + 7 + (max (tDr a) (tDr b) + 3) ≤ n + 1 := hn
  have wo : (rTo (V.2.2.1 32) L (d.1 + 2) ∧ ∀ x, x < d.2.1 → rTo (V.2.2.1 32) L (d.1 + 3 + x)) ∧ rWo f pp ee (V.2.2.1 32) L a (env ++ ([d.1 + 2] ++ List.range' (d.1 + 3) d.2.1)) ∧ rWo f pp ee (V.2.2.1 32) L b (env ++ [d.1 + 2]) := wo
  have dj : ∀ u, u ∈ env → u ∉ ([d.1 + 2] ++ List.range' (d.1 + 3) d.2.1) ++ (tEv a ++ tEv b) := dj
  have nd : (([d.1 + 2] ++ List.range' (d.1 + 3) d.2.1) ++ (tEv a ++ tEv b)).Nodup := nd
  obtain ⟨-, n2, n3⟩ := List.nodup_append.mp nd
  obtain ⟨na, nb, nab⟩ := List.nodup_append.mp n2
  have hl : cnt ≤ 2000 := by have := H.2.1.2.2.2.2.2.2; omega
  have hxN : x < 2100 := by have := (rTr_fw ta wa).1; have := H.1.2.1; omega
  have hyN : y < 2100 := by have := (rTr_fw tb wb).1; have := H.1.2.1; omega
  have ez : (nE V (.inner 2 d z a b) 0 m).tail = nE V a 0 x ++ nE V b 0 y := by
    show nE V a 0 (V.2.2.1 11 m).toNatClampNeg ++ nE V b 0 (V.2.2.1 12 m).toNatClampNeg = _
    rw [show V.2.2.1 11 m = nI x from t1, show V.2.2.1 12 m = nI y from t2, nI_clamp (show x < 2 ^ 31 by omega), nI_clamp (show y < 2 ^ 31 by omega)]
  have pw : nPw ((m, d.1) :: (nE V (.inner 2 d z a b) 0 m).tail) := pw
  rw [ez] at pw ⊢
  obtain ⟨pw, pm⟩ := nPw1 pw
  obtain ⟨pa, pb, pab⟩ := nPwa pw
  have rng : ∀ u, u ∈ List.range' (d.1 + 3) d.2.1 ↔ d.1 + 3 ≤ u ∧ u < d.1 + 3 + d.2.1 := fun u => List.mem_range'_1
  have m0 : d.1 + 2 ∈ [d.1 + 2] ++ List.range' (d.1 + 3) d.2.1 := List.mem_append_left _ (List.mem_singleton_self _)
  have mr : ∀ u, d.1 + 3 ≤ u → u < d.1 + 3 + d.2.1 → u ∈ [d.1 + 2] ++ List.range' (d.1 + 3) d.2.1 := fun u h1 h2 => List.mem_append_right _ ((rng u).mpr ⟨h1, h2⟩)
  obtain ⟨n, rfl⟩ : ∃ n', n = n' + 2 := ⟨n - 2, by omega⟩
  have h10 : τ.2.2.1 10 m = nI (d.1 + 3) := G0.row fm (by omega) t4
  have e0 := r_params (h0 := h0) (qs := qs) (ks := ks) (T := Tt) (n := n + 1) (k := d.2.1) (by have := H.1.1; omega) (fm.rw H.2.1) hm h10 w2 w3 w1
  obtain ⟨τ1, v1, e1, G1⟩ := G0.fre (h0 := h0) (qs := qs) (ks := ks) (Tt := Tt) (n := n) (by omega)
  obtain ⟨t', ht'⟩ : ∃ t', Tt = d.2.1 + (t' + 1) := ⟨Tt - d.2.1 - 1, by have := H.1.1; omega⟩
  obtain ⟨τ2, x4, Q2, e2, q1, q2, G2⟩ := r_t2L (h0 := h0) (qs := qs) (ks := ks) (n := n) (t := t' + 1) (q := d.2.1) (d1 := d.1) (s := s) (r22 := v1) H fm hm t4 w1 wo.1.2 (fun x hx z => dj _ z (List.mem_append_left _ (mr _ (by omega) (by omega)))) (by omega) d.2.1 0 τ1 v1 _ rfl (List.mem_cons_self ..) (List.mem_cons_self ..) G1
  have hv := sV_1 (d.1 + 3 + d.2.1) s d.2.1
  have hp := mPa_1 d.2.1 (d.1 + 3) s.2.1 s
  have G3 := rS.perm (s1 := mFr (d.2.1 + 1) (mPa d.2.1 (d.1 + 3) s.2.1 s)) (pV s.2.1 d.2.1) hx G2 hv.1 (pV_2 _ _) (fun i hi => if_neg (by omega)) (fun i hi => by
    rw [hv.2] at hi ⊢
    unfold pV
    split <;> omega) (fun u hu z => by
    have := (wV_mem _ _ _ (by omega)).mp z
    exact dj u hu (List.mem_append_left _ (mr u (by omega) (by omega)))) hp.1 (by show (mPa d.2.1 (d.1 + 3) s.2.1 s).2.1 + (d.2.1 + 1) = _; rw [hp.2, hv.2]) (by show _ ≤ (mPa d.2.1 (d.1 + 3) s.2.1 s).2.1 + (d.2.1 + 1); rw [hp.2]; omega) (fun u hu => (mLe.pa d.2.1 (d.1 + 3) s.2.1 s).2.2 u (fun z => dj u hu (List.mem_append_left _ (List.mem_append_right _ z)))) (fun u hu => by
    have hu' := (wV_mem _ _ _ (by omega)).mp hu
    show (mPa d.2.1 (d.1 + 3) s.2.1 s).2.2.1 u = _
    obtain ⟨p, rfl⟩ : ∃ p, u = d.1 + 3 + p := ⟨u - (d.1 + 3), by omega⟩
    rw [mPa_nt _ _ _ _ _ (by omega), show d.1 + 3 + p = d.1 + 3 + d.2.1 - (d.2.1 - p) by omega, sV_nt _ _ _ _ (by omega) (by omega) (by omega)]
    funext α
    show α (s.2.1 + p) = α (pV s.2.1 d.2.1 (s.2.1 + (d.2.1 - p)))
    unfold pV
    rw [if_pos (by omega)]
    congr 1
    omega)
  have q1' : (x4, mFu d.2.1 s.2.1 (mV (s.2.1 + d.2.1))) ∈ Q2.map (fun q => (q.1, mPm (pV s.2.1 d.2.1) q.2)) := by
    have e := pV_fu s d.2.1 d.2.1 (Nat.le_refl _)
    rw [Nat.sub_self, Nat.add_zero] at e
    rw [← e]
    exact List.mem_map.mpr ⟨_, q1, rfl⟩
  have q2' : (v1, mV (s.2.1 + d.2.1)) ∈ Q2.map (fun q => (q.1, mPm (pV s.2.1 d.2.1) q.2)) := by
    have e := pV_fu s d.2.1 0 (Nat.zero_le _)
    have e : mPm (pV s.2.1 d.2.1) (mV s.2.1) = mV (s.2.1 + d.2.1) := e
    rw [← e]
    exact List.mem_map.mpr ⟨_, q2, rfl⟩
  obtain ⟨r, ⟨r1, r2⟩, G4⟩ := G3.tell H wo.1.1 (fun z => dj _ z (List.mem_append_left _ m0)) (fun z => by have := (wV_mem _ _ _ (by omega)).mp z; omega) q1'
  have h9 : τ2.2.2.1 9 m = nI (d.1 + 2) := G3.row fm (by omega) t3
  have h32 : τ2.2.2.1 32 (d.1 + 2) = nI r := G3.row fm (by omega) r1
  have inW : ∀ u, u ∈ wV (d.1 + 3 + d.2.1) d.2.1 ++ [d.1 + 2] ↔ u ∈ [d.1 + 2] ++ List.range' (d.1 + 3) d.2.1 := fun u => by
    rw [List.mem_append, List.mem_append, wV_mem _ _ _ (by omega), rng]
    constructor
    · rintro (h | h)
      · exact Or.inr ⟨by omega, by omega⟩
      · exact Or.inl h
    · rintro (h | h)
      · exact Or.inr h
      · exact Or.inl ⟨by omega, by omega⟩
  have G5 := G4.ev0 (env' := env ++ ([d.1 + 2] ++ List.range' (d.1 + 3) d.2.1)) (fun u hu => (List.mem_append.mp hu).imp id (fun z => (inW u).mpr z))
  have h11 := G5.row fm (k := 11) (j := m) (by omega) t1
  obtain ⟨τ6, v6, e6, G6⟩ := G5.ev (n := n + 2) Ia fm ⟨ta, wa, o3.2.2.1, wo.2.1, fun u hu z => (List.mem_append.mp hu).elim (fun y => dj u y (List.mem_append_right _ (List.mem_append_left _ z))) (fun y => n3 u y u (List.mem_append_left _ z) rfl), na, pa⟩ (fun u hu z => n3 u ((inW u).mp hu) u (List.mem_append_left _ (tW_ev a u z)) rfl) (fun p hp => by cases hp) (by omega) (by omega) (by omega)
  obtain ⟨τ7, e7, G7⟩ := G6.jn (h0 := h0) (qs := qs) (ks := ks) (n := n + 2) (m := m) (v1 := v6) (v2 := v1) (K := fun s => j_typed_269 Tt (zF h0 qs ks Tt (n + 2)) h0 qs ks (nI m) s) (kr := 11) (b := a) H fm (List.mem_cons_self ..) (List.mem_cons_of_mem _ q2') (by omega) hm (Or.inl rfl) t1 ta wa
  rw [nI_clamp (show m < 2 ^ 31 by omega)] at e7
  simp only [zgd, zin_n hm (by decide), if_true] at e7
  have G7 := G7.ev0 (env' := env ++ [d.1 + 2]) (fun u hu => (List.mem_append.mp hu).elim (fun z => Or.inl (List.mem_append_left _ z)) (fun z => Or.inr (List.mem_append_left _ (List.mem_append_right _ z))))
  have h12 : τ7.2.2.1 12 m = nI y := G7.row fm (by omega) t2
  obtain ⟨τ8, v8, e8, G8⟩ := G7.ev (n := n + 2) Ib fm ⟨tb, wb, o3.2.2.2, wo.2.2, fun u hu z => (List.mem_append.mp hu).elim (fun y => dj u y (List.mem_append_right _ (List.mem_append_right _ z))) (fun y => n3 u (List.mem_append_left _ y) u (List.mem_append_right _ z) rfl), nb, pb⟩ (fun u hu z => by
    rcases List.mem_append.mp hu with hu | hu
    · exact n3 u ((inW u).mp hu) u (List.mem_append_right _ (tW_ev b u z)) rfl
    · exact nab u (tW_ev a u hu) u (tW_ev b u z) rfl) pab (by omega) (by omega) (by omega)
  have G8 := G8.ev0 (env' := env) (fun u hu => Or.inl (List.mem_append_left _ hu))
  rw [zE_typed]
  unfold b_typed
  simp only [zgd, zin_n hm (by decide), if_true, nI_clamp (show m < 2 ^ 31 by omega), h6]
  rw [if_neg (by decide), if_pos (by decide)]
  rw [show n + 2 = (n + 1) + 1 from rfl, e0, zci_at]
  rw [show n + 1 + 1 = n + 2 from rfl, e1, zci_at]
  have eT : l_typed_152 Tt (zF h0 qs ks Tt (n + 2)) h0 qs ks Tt (nI m) v1 v1 (nI d.2.1 - 1) τ1 = l_typed_152 Tt (zF h0 qs ks Tt (n + 2)) h0 qs ks (d.2.1 + (t' + 1)) (nI m) v1 v1 (nI d.2.1 - 1) τ1 := by rw [← ht']
  rw [eT, e2, l_typed_152, if_pos (by decide)]
  simp only [zgd, zin_n hm (by decide), if_true, nI_clamp (show m < 2 ^ 31 by omega), h9, zin_n (show d.1 + 2 < 2010 by omega) (by decide), nI_clamp (show d.1 + 2 < 2 ^ 31 by omega), h32, zin_n r2 (by decide), nI_clamp (show r < 2 ^ 31 by omega), zlet, h11]
  rw [e6, zci_at, e7, j_typed_269]
  simp only [zgd, zin_n hm (by decide), if_true, nI_clamp (show m < 2 ^ 31 by omega), h12]
  rw [e8, zci_at]
  refine ⟨τ8, v8, rfl, (G8.fin (List.mem_cons_self ..) (fun u => ?_) d.1 (fun p hp => (pm p hp).2)).mo (by show 1 + 2 * d.2.1 + tC a + tC b ≤ 2 * d.2.1 + 1 + tC a + tC b; omega) (by show am + d.2.1 + tA a + tA b ≤ am + (d.2.1 + tA a + tA b); omega)⟩
  show u ∈ ((wV (d.1 + 3 + d.2.1) d.2.1 ++ [d.1 + 2]) ++ tW a) ++ tW b ↔ u ∈ ([d.1 + 2] ++ List.range' (d.1 + 3) d.2.1) ++ (tW a ++ tW b)
  rw [List.append_assoc, List.mem_append, List.mem_append (s := [d.1 + 2] ++ _), inW]
end RRC
