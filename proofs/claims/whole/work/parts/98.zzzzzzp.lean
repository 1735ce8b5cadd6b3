/-! the reference's check(): types of INPUTS and of the E -/
section RIT
variable {ks : Nat → Nat} {qs : List Nat} {Tt h0 k0 len cnt lo N S P A c0 am n : Nat} {L : List Nat} {V τ0 : zSt} {kk pp ee f : Nat → Int32} {g0 : gG} {T0 : Nat → mF} {is : List (Nat × Nat)}
theorem r_ity {X : zSt → zRs} (H : rH Tt len cnt lo N S P A L V kk pp ee f) (fm : tFm V τ0) (h42 : V.1 42 = nI is.length) (h6 : is.length ≤ 6) (hi : ∀ b y, is[b]? = some y → iR V b y) (hs2 : ∀ x, x ∈ is → x.2 ≤ 2) (hR : ∀ k x, is[k]? = some x → V.2.2.1 32 x.1 = nI k ∧ L[k]? = some x.1) (hX : ∀ t υ, tFm V υ → l_check_77 Tt (zF h0 qs ks Tt (n + 5)) h0 qs ks (t + 1) (nI is.length) υ = X υ) : ∀ (xs : List (Nat × Nat)) (i t B : Nat) (τ : zSt) (s : mS) (W : List Nat) (Q : List (Int32 × mF)), is.drop i = xs → i + xs.length = is.length → xs.length < t → c0 + B + xs.length ≤ 9000 → (∀ x, x ∈ xs → x.1 ∉ W) → (xs.map Prod.fst).Nodup → rS k0 [] L [] W Q τ0 g0 T0 c0 am B s τ → ∃ τ', l_check_77 Tt (zF h0 qs ks Tt (n + 5)) h0 qs ks t (nI i) τ = X τ' ∧ rS k0 [] L [] (W ++ xs.map Prod.fst) [] τ0 g0 T0 c0 am (B + xs.length) (mIn xs s) τ'
  | [], i, t, B, τ, s, W, Q, hd, hl, ht, hc, hn, hnd, G => by
    obtain ⟨t, rfl⟩ : ∃ t', t = t' + 1 := ⟨t - 1, by omega⟩
    have hl : i = is.length := hl
    subst hl
    refine ⟨τ, hX t τ (fm.tr G.fm), ?_⟩
    rw [List.map_nil, List.append_nil]
    exact G.sub (fun x hx => by cases hx)
  | x :: xs, i, t, B, τ, s, W, Q, hd, hl, ht, hc, hn, hnd, G => by
    rw [List.length_cons] at hl ht hc
    obtain ⟨t, rfl⟩ : ∃ t', t = t' + 1 := ⟨t - 1, by omega⟩
    have hx : is[i]? = some x := by
      have : (is.drop i)[0]? = some x := by rw [hd]; rfl
      rw [List.getElem?_drop, Nat.add_zero] at this
      exact this
    have hm := List.mem_of_getElem? hx
    have h2 := hs2 x hm
    obtain ⟨r1, r2⟩ := hR i x hx
    have fmt := fm.tr G.fm
    have e42 : τ.1 42 = nI is.length := (fmt.1 42 (by decide) (by decide) (by decide) (by decide)).trans h42
    have e28 : τ.2.2.1 28 i = nI x.2 := (fmt.r (by omega) i).trans (hi i x hx).2
    obtain ⟨τ1, v, e1, G1⟩ := G.pla (h0 := h0) (qs := qs) (ks := ks) (Tt := Tt) (n := n + 4) (k := x.2) (by omega) (by omega)
    obtain ⟨z, ⟨z1, z2⟩, G2⟩ := G1.tell (w := x.1) H ⟨i, r1, r2⟩ (fun z => by cases z) (hn x (List.mem_cons_self ..)) (List.mem_cons_self ..)
    have ez : z = i := nI_inj' (by omega) (by omega) (z1.symm.trans r1)
    subst ez
    have hnd' := List.nodup_cons.mp hnd
    obtain ⟨τ', i1, i2⟩ := r_ity H fm h42 h6 hi hs2 hR hX xs (z + 1) t (B + 1) _ _ (W ++ [x.1]) _ (by rw [← List.drop_drop, hd]; rfl) (by omega) (by omega) (by omega) (fun y hy w => (List.mem_append.mp w).elim (hn y (List.mem_cons_of_mem _ hy)) (fun w => hnd'.1 (by rw [← List.mem_singleton.mp w]; exact List.mem_map_of_mem hy))) hnd'.2 G2
    refine ⟨τ', ?_, ?_⟩
    · rw [← i1, l_check_77, e42, if_neg (nI_ge (by omega) (by omega))]
      have j119 : ∀ t3, t3 = rKd (x.2 + 2) → j_check_119 Tt (zF h0 qs ks Tt (n + 5)) h0 qs ks (l_check_77 Tt (zF h0 qs ks Tt (n + 5)) h0 qs ks t) (nI z) (nI z) t3 τ = l_check_77 Tt (zF h0 qs ks Tt (n + 5)) h0 qs ks t (nI (z + 1)) (zA τ1 31 (upd (τ1.2.2.1 31) z v)) := fun t3 e3 => by
        unfold j_check_119
        rw [e3, e1, zci_at]
        simp only [zgd, zin_n z2 (by decide), if_true, nI_clamp (show z < 2 ^ 31 by omega), zlet, nI_p1]
      simp only [zgd, zin_n (show z < 6 by omega) (by decide), if_true, nI_clamp (show z < 2 ^ 31 by omega), e28]
      have : x.2 = 0 ∨ x.2 = 1 ∨ x.2 = 2 := by omega
      rcases this with q | q | q
      · rw [q] at j119 ⊢
        rw [if_pos (by decide)]
        exact j119 1 rfl
      · rw [q] at j119 ⊢
        rw [if_neg (by decide), if_pos (by decide)]
        exact j119 2 rfl
      · rw [q] at j119 ⊢
        rw [if_neg (by decide), if_neg (by decide)]
        exact j119 3 rfl
    · rw [List.map_cons, ← List.singleton_append, ← List.append_assoc, List.length_cons, show B + (xs.length + 1) = B + 1 + xs.length by omega]
      exact i2
/-- the rest of check() behind the types of INPUTS -/
def rK2 (call : zCl) (h0 : Nat) (υ : zSt) : zRs := zci (call 49 [.ref h0, .int (υ.1 43)] υ) fun _ s2 => if (s2.1 11) = 0 then zlet (zI s2 65 0) fun s6 => zcv (call 63 [.ref h0, .int (s6.1 43), .int 0] s6) fun s8 => if (s8.1 52) < 0 then some (none, s8) else zcv (call 3 [.ref h0, .int 5, .int (s8.1 52)] s8) fun s11 => some (none, s11) else some (none, s2)
def rK3 (call : zCl) (h0 : Nat) (s2 : zSt) : zRs := zlet (zI s2 65 0) fun s6 => zcv (call 63 [.ref h0, .int (s6.1 43), .int 0] s6) fun s8 => if (s8.1 52) < 0 then some (none, s8) else zcv (call 3 [.ref h0, .int 5, .int (s8.1 52)] s8) fun s11 => some (none, s11)
/-- the state of types at the end -/
def mEnd (f pp ee : Nat → Int32) (is : List (Nat × Nat)) (e : tT) : mS := (mE f pp ee e (is.map Prod.fst) (mIn is mI0)).1
set_option maxHeartbeats 1000000 in
/-- check() behind NAMES: types -/
theorem r_types {x : Nat} {e : tT} (H : rH Tt len cnt lo N S P A L V kk pp ee f) (hG : pG kk pp cnt is e) (hc : cnt ≤ 2000) (hpp : ∀ u v, u < cnt → v < cnt → pp u = pp v → u = v) (h11 : V.1 11 = 0) (h59 : V.1 59 = 0) (h60 : V.1 60 = nI k0) (hk0 : k0 + 9002 < 2 ^ 30) (h42 : V.1 42 = nI is.length) (h43 : V.1 43 = nI x) (hi : ∀ b y, is[b]? = some y → iR V b y) (hR : ∀ k y, is[k]? = some y → V.2.2.1 32 y.1 = nI k ∧ L[k]? = some y.1) (ht : rTr pp V lo N S P A e 0 0 x) (hwo : rWo f pp ee (V.2.2.1 32) L e (is.map Prod.fst)) (hn : 1740 ≤ n) : ∃ τ', l_check_77 Tt (zF h0 qs ks Tt (n + 5)) h0 qs ks Tt 0 V = (if (τ'.1 11) = 0 then rK3 (zF h0 qs ks Tt (n + 5)) h0 τ' else some (none, τ')) ∧ tFm V τ' ∧ (∃ c, τ'.1 59 = nI c ∧ c ≤ 9000) ∧ (∃ k, τ'.1 60 = nI k ∧ k ≤ k0 + 9001) ∧ ((mSat (mEnd f pp ee is e).1 ∧ τ'.1 11 = 0 ∧ ∃ g T k, rG τ' g k ∧ gK g ∧ gC g ∧ gT g T (mEnd f pp ee is e) ∧ xN g.n (fun y => decide (g.K y = 1)) ≤ 1600 ∧ (∀ u, u ∈ is.map Prod.fst ++ tW e → dY L τ' g T (mEnd f pp ee is e) u) ∧ ∀ p, p ∈ nE V e 0 x → ndY τ' g T (mEnd f pp ee is e) p) ∨ ∃ pl, mFt (mEnd f pp ee is e).1 pl ∧ τ'.1 11 = 4 ∧ τ'.1 12 = pl) := by
  obtain ⟨⟨i6, ic⟩, wf, ⟨i0, rg⟩, ⟨o3, -, a3⟩, ⟨k1, -, -, -, k5, k6⟩, nd, -⟩ := hG
  obtain ⟨nI', nE', nIE⟩ := List.nodup_append.mp nd
  have hTt := H.1.1
  have gk0 : gK ((fun _ => 0, fun _ => 0, fun _ => 0, fun t => t, 0) : gG) := ⟨⟨fun _ => 0, fun t z => absurd z (Nat.not_lt_zero _)⟩, fun t z => absurd z (Nat.not_lt_zero _)⟩
  have X0 : rXE k0 L [] V mI0 ((fun _ => 0, fun _ => 0, fun _ => 0, fun t => t, 0) : gG) (fun _ => mB 0) 0 0 := by
    refine ⟨⟨⟨h59, by omega, hk0⟩, Or.inl ⟨⟨fun _ => yB 0, fun x hx => (by cases hx)⟩, h11, rfl, Nat.le_refl _, k0, ⟨⟨h59, by show (0 : Nat) ≤ 9000; omega⟩, ⟨h60, by omega⟩, fun t z => absurd z (Nat.not_lt_zero _)⟩, gk0, fun t z => absurd z (Nat.not_lt_zero _), ⟨fun α _ t z => absurd z (Nat.not_lt_zero _), fun ρ _ => ⟨fun _ => yB 0, fun x hx => (by cases hx), fun c z => absurd z (Nat.not_lt_zero _)⟩, fun α α' _ => ⟨⟨fun _ x hx => (by cases hx), fun _ x hx => (by cases hx)⟩, fun c z => absurd z (Nat.not_lt_zero _)⟩⟩, by show k0 + 0 ≤ k0 + 0; omega⟩⟩, fun u hu => by cases hu⟩
  obtain ⟨τ1, e1, G1⟩ := r_ity (h0 := h0) (qs := qs) (ks := ks) (n := n) (X := rK2 (zF h0 qs ks Tt (n + 5)) h0) H (tFm.rf V) h42 i6 hi (fun x hx => (ic x hx).2) hR (fun t υ fm => by
    rw [l_check_77, (fm.1 42 (by decide) (by decide) (by decide) (by decide)).trans h42, if_pos (nI_le (Nat.le_refl _) (by omega))]
    rfl) is 0 Tt 0 V mI0 [] [] rfl (by omega) (by omega) (by omega) (fun _ _ z => by cases z) nI' (rS.rf X0)
  have G1 := G1.ev0 (env' := is.map Prod.fst) (fun u hu => Or.inr hu)
  have fm1 : tFm V τ1 := G1.fm
  have typ := (r_typ (ks := ks) (qs := qs) (h0 := h0) (k0 := k0) (aM := tA e) H e a3).1
  have te : rTe cnt lo N S P A L V kk pp ee f e (is.map Prod.fst) x := ⟨ht, wf, o3, hwo, fun u hu z => nIE u hu u z rfl, nE', nE_pw H.1.2.1 H.1.2.2.2.2 hpp ht wf rg (Nat.le_refl _)⟩
  obtain ⟨τ2, v, e2, G2⟩ := G1.ev (n := n + 5) typ (tFm.rf V) te (fun u hu z => nIE u ((List.nil_append (is.map Prod.fst)) ▸ hu) u (tW_ev e u z) rfl) (fun p hp => by cases hp) (by omega) (by omega) (by omega)
  obtain ⟨g, T, c, ⟨x1, x2⟩, c1, fm2, -, -, w1, -, z1⟩ := G2
  have em : mEnd f pp ee is e = (mE f pp ee e (is.map Prod.fst) (mIn is mI0)).1 := rfl
  rw [← em] at x1 x2 w1 z1
  refine ⟨τ2, ?_, fm2, ⟨c, x1.1.1, x1.1.2.1⟩, ?_, ?_⟩
  · show l_check_77 Tt (zF h0 qs ks Tt (n + 5)) h0 qs ks Tt (nI 0) V = _
    rw [e1]
    unfold rK2
    rw [(fm1.1 43 (by decide) (by decide) (by decide) (by decide)).trans h43, e2, zci_at]
    rfl
  · rcases x1.2 with ⟨p1, p2, p3, p4, k, p5, p6, p7, p8, p9⟩ | ⟨pl, p1, p2, p3, k, p4, p5⟩
    · exact ⟨k, p5.2.1.1, by have := x1.1.2.1; omega⟩
    · exact ⟨k, p4, p5⟩
  · rcases x1.2 with ⟨p1, p2, p3, p4, k, p5, p6, p7, p8, p9⟩ | ⟨pl, p1, p2, p3, k, p4, p5⟩
    · refine Or.inl ⟨p1, p2, g, T, k, p5, p6, p7, p8, by omega, fun u hu => ?_, fun p hp => z1.1 p (List.mem_append_right _ hp)⟩
      rcases List.mem_append.mp hu with h | h
      · exact w1 u (List.mem_append_left _ h)
      · exact w1 u (List.mem_append_right _ h)
    · exact Or.inr ⟨pl, p1, p2, p3⟩
end RIT
