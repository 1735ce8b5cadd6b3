/-! the class's parser: the NAMES of a let rec -/
/-- behind at most r NAMES -/
def pSt (kk : Nat → Int32) (r : Nat) (s : Sum Nat Nat) : Sum Nat Nat := match s with
  | .inl j => .inl j
  | .inr i => .inr (i + aPs kk r i)
section CQX
variable {κ : oKv} {sz T n m len cnt : Nat} {kk pp ee f : Nat → Int32} {A : Nat → Nat} {nq ni : Int32} {rt : Value} {cn am ff : Int32} {lo e pa : Nat}
theorem cK_1 {s : Sum Nat Nat} (h : cK kk s = 1) : ∃ i, s = .inr i ∧ aIs kk 1 i = true := by
  cases s with
  | inl j => exact absurd (show (0 : Int32) = 1 from h) (by decide)
  | inr i => exact ⟨i, rfl, decide_eq_true h⟩
set_option maxHeartbeats 2000000 in
theorem c_rlp {fs : List Value} {x2 : Int32} (hA : ∀ k, 1 ≤ k → k ≤ 6 → A k < lo) (hm : 9 ≤ m) (hT : 2010 ≤ T) (hwl : ∀ j, j < cnt → wL pp ee j ≤ 10) (hfs : fs[11]? = some (.ref pa)) (hel : e < lo) : ∀ (r x3 t : Nat) (σ : oSt) (D : cDt) (at' cd : Nat) (bd nf : Int32) (s : Sum Nat Nat) (nm : Nat → Option Nat) (ν : nSt) (d cap : Nat) (mc : Int32) (g : Nat → Option Nat), r + x3 = 4 → 1 ≤ x3 → r < t → cV κ sz len cnt kk pp ee f A nq ni rt σ D at' cd cn am bd nf ff → cO pp cnt at' bd s → (∀ i, s = .inr i → cQn pp ee f σ D nm ν cd nf i) → σ.1 e = some (.inr (7, fs)) → cLs κ σ pa d cap x3 mc g 6 → (cOk A D lo σ d ∨ (d = κ.2.2.1 ∧ σ.1 d = none)) → cOk A D lo σ pa → cap ≤ 10 + 2 * x3 → cd + r < 3990 → ∃ σ' D' at2 bd2 nf2 nm' d' cap' mc' g' q, ol_X7_readRec_34 T (oF κ T (m + 1)) κ t (some (A 0)) (some e) x2 (nI x3) σ = oj_X7_readRec_62 T (oF κ T (m + 1)) κ (some (A 0)) (some e) x2 σ' ∧ cV κ sz len cnt kk pp ee f A nq ni rt σ' D' at2 (cd + q) cn am bd2 nf2 ff ∧ cO pp cnt at2 bd2 (pSt kk r s) ∧ σ'.1 e = some (.inr (7, fs)) ∧ (cLs κ σ' pa d' cap' (x3 + q) mc' g' 6 ∧ (cOk A D' lo σ' d' ∨ (d' = κ.2.2.1 ∧ σ'.1 d' = none)) ∧ cOk A D' lo σ' pa ∧ cap' ≤ 10 + 2 * (x3 + q) ∧ ∀ j, j < x3 → g' j = g j) ∧ (σ.2.1 ≤ σ'.2.1 ∧ (∀ a, a < lo → ¬ cMu A D a → σ'.1 a = σ.1 a) ∧ (D'.1.1 = D.1.1 ∨ σ.2.1 ≤ D'.1.1) ∧ (D'.1.2.1 = D.1.2.1 ∨ σ.2.1 ≤ D'.1.2.1)) ∧ (∀ a gs, σ.1 a = some (.inr (6, gs)) → σ'.1 a = some (.inr (6, gs))) ∧ (σ'.2.2.1 ≤ σ.2.2.1 + 5 * q ∧ σ'.2.2.2 + 4 * D.1.2.2.1 + 4 * D.1.2.2.2.1 + 4 * cap ≤ σ.2.2.2 + 22 * q + 4 * D'.1.2.2.1 + 4 * D'.1.2.2.2.1 + 4 * cap') ∧ (D'.2.2.2 = D.2.2.2 ∧ D'.1.2.2.2.2.2 = D.1.2.2.2.2.2 ∧ at2 = at' + q ∧ q ≤ r) ∧ (∀ i, s = .inr i → q = aPs kk r i ∧ cQn pp ee f σ' D' nm' (nPar f pp ee q i ν) (cd + q) nf2 (i + q) ∧ (∀ u, u < i → nm' u = nm u) ∧ ∀ x, x < q → ∃ b, g' (x3 + x) = some b ∧ cNx A D' lo σ' nm' (i + x) (cd + x) b)
  | 0, x3, t, σ, D, at', cd, bd, nf, s, nm, ν, d, cap, mc, g, h1, h2, h3, h, ho, hn, he, hl, hd, hp, hc, hcd => by
    obtain ⟨t', rfl⟩ : ∃ t', t = t' + 1 := ⟨t - 1, by omega⟩
    have e3 : x3 = 4 := by omega
    subst e3
    refine ⟨σ, D, at', bd, nf, nm, d, cap, mc, g, 0, ?_, h, ?_, he, ⟨hl, hd, hp, hc, fun _ _ => rfl⟩, ⟨Nat.le_refl _, fun _ _ _ => rfl, Or.inl rfl, Or.inl rfl⟩, fun _ _ ea => ea, ⟨by omega, by omega⟩, ⟨rfl, rfl, rfl, Nat.le_refl _⟩, fun i hi => ⟨rfl, hn i hi, fun _ _ => rfl, fun x hx => by omega⟩⟩
    · unfold ol_X7_readRec_34
      rw [if_pos (show (4 : Int32) ≤ nI 4 by decide)]
    · cases s with
      | inl j => exact ho
      | inr i => exact ho
  | r + 1, x3, t, σ, D, at', cd, bd, nf, s, nm, ν, d, cap, mc, g, h1, h2, h3, h, ho, hn, he, hl, hd, hp, hc, hcd => by
    obtain ⟨t', rfl⟩ : ∃ t', t = t' + 1 := ⟨t - 1, by omega⟩
    unfold ol_X7_readRec_34
    rw [if_neg (show ¬ (4 : Int32) ≤ nI x3 from show ¬ nI 4 ≤ nI x3 from nI_ge (by omega) (by decide)), if_neg (show ¬ nI x3 = 0 from fun z => by have := nI_inj' (b := 0) (by omega) (by decide) z; omega), oob_at h.2.1, obn_at, c_kind (n := m + 1) h ho (by omega), oin_at]
    by_cases ck : cK kk s = 1
    · obtain ⟨i, hs, hi1⟩ := cK_1 ck
      subst hs
      rw [if_pos ck]
      unfold oj_X7_readRec_51
      obtain ⟨σ1, D1, at1, bd1, nf1, b, d1, cap1, g1, c1, v1, o1, ⟨l1, ok1, ok1p, c4, c5, c6⟩, c7, ⟨c8, c9, qq, c10⟩, ⟨c11, c12⟩, ⟨c13, c14, c15, c16, c16b⟩, c17⟩ := c_tpar (κ := κ) (T := T) (m := m) (lo := lo) (nm := nm) (ν := ν) h ho hn he hfs hA hl hd hp hc (by omega) (by omega) (by omega) hT hwl
      rw [oob_at h.2.1, obn_at, c1, ocv_at]
      have eM : aMs kk 1 i = .inr ((), i + 1) := by unfold aMs; rw [if_pos hi1]
      have eT : aTo (.inr i) (aMs kk 1) = .inr (i + 1) := by rw [aTo_ok, eM]; rfl
      rw [eT] at o1 c16
      have Q1 := c17 i rfl hi1
      have e1 := (c7.2.1 e (alt h.1.1.1 he) (cMu.no h he (by omega)) (by have := hp.1; omega) (by have := ok1.1; omega)).trans he
      have at1e : at1 = at' + 1 := by have := o1.2.1; have := ho.2.1; omega
      obtain ⟨σ2, D2, at2, bd2, nf2, nm2, d2, cap2, mc2, g2, q, w1, w2, w3, w4, ⟨w5, w6, w7, w8, w9⟩, ⟨w10, w11, w12, w13⟩, w14, ⟨w15, w16⟩, ⟨w17, w18, w19, w20⟩, w21⟩ := c_rlp hA hm hT hwl hfs hel r (x3 + 1) t' σ1 D1 at1 (cd + 1) bd1 nf1 (.inr (i + 1)) (nPut nm i b) (nCnt i (nTell f pp ee i ν)) d1 cap1 (mc + 1) g1 (by omega) (by omega) (by omega) v1 o1 (fun i' hi' => by cases hi'; exact Q1) e1 l1 (Or.inl ok1) ok1p c4 (by omega)
      obtain ⟨y1, y2, y3, y4⟩ := w21 (i + 1) rfl
      have aP : aPs kk (r + 1) i = aPs kk r (i + 1) + 1 := by rw [aPs, if_pos hi1]
      refine ⟨σ2, D2, at2, bd2, nf2, nm2, d2, cap2, mc2, g2, q + 1, ?_, ?_, ?_, w4, ⟨?_, w6, w7, by omega, fun j hj => ?_⟩, ⟨by have := c7.1; omega, fun a ha hmu => ?_, ?_, ?_⟩, fun a gs ea => ?_, ⟨by omega, by omega⟩, ⟨w17.trans c13, w18.trans c14, by omega, by omega⟩, fun i' hi' => ?_⟩
      · rw [← w1, nI_1]
      · rw [show cd + (q + 1) = cd + 1 + q by omega]; exact w2
      · show cO pp cnt at2 bd2 (.inr (i + aPs kk (r + 1) i))
        rw [aP, show i + (aPs kk r (i + 1) + 1) = i + 1 + aPs kk r (i + 1) by omega]
        exact w3
      · rw [show x3 + (q + 1) = x3 + 1 + q by omega]; exact w5
      · rw [w9 j (by omega), c5 j hj]
      · have ha2 : a < σ.2.1 := by have := hp.2.1; have := hp.1; omega
        rw [w11 a ha (cMu.bk c7.2.2.1 c7.2.2.2 ha2 hmu), c7.2.1 a ha2 hmu (by have := hp.1; omega) (by have := ok1.1; omega)]
      · rcases w12 with z | z
        · rw [z]; exact c7.2.2.1
        · exact Or.inr (by have := c7.1; omega)
      · rcases w13 with z | z
        · rw [z]; exact c7.2.2.2
        · exact Or.inr (by have := c7.1; omega)
      · refine w14 a gs ?_
        rw [c7.2.1 a (alt h.1.1.1 ea) (cMu.no h ea (by omega)) (fun z => by rw [z, hl.1] at ea; cases ea) (fun z => ?_)]
        · exact ea
        · rcases c16b with y | y
          · rw [z, y] at ea
            rcases hl.2.1 with ⟨-, -, -, w⟩ | ⟨w, -⟩
            · rw [w] at ea; cases ea
            · rw [w] at ea; cases ea
          · have := alt h.1.1.1 ea; omega
      · cases hi'
        have c10' := w14 b _ c10
        refine ⟨by rw [y1, aP], ?_, fun u hu => by rw [y3 u (by omega), nPut_lt hu], fun x hx => ?_⟩
        · rw [show cd + (q + 1) = cd + 1 + q by omega, show i + (q + 1) = i + 1 + q by omega]; exact y2
        · cases x with
          | zero => exact ⟨b, (w9 x3 (by omega)).trans c6, (y3 i (by omega)).trans nPut_eq, ⟨c9.1, alt w2.1.1.1 c10', cMu.no w2 c10' (by omega)⟩, qq, c10'⟩
          | succ x =>
            obtain ⟨b', z1, z2⟩ := y4 x (by omega)
            exact ⟨b', by rw [show x3 + (x + 1) = x3 + 1 + x by omega]; exact z1, by rw [show i + (x + 1) = i + 1 + x by omega, show cd + (x + 1) = cd + 1 + x by omega]; exact z2⟩
    · rw [if_neg ck]
      have a0 : ∀ i, s = .inr i → aPs kk (r + 1) i = 0 := fun i hs => by
        subst hs
        rw [aPs, if_neg (show ¬ aIs kk 1 i = true from fun z => ck (of_decide_eq_true z))]
      refine ⟨σ, D, at', bd, nf, nm, d, cap, mc, g, 0, rfl, h, ?_, he, ⟨hl, hd, hp, hc, fun _ _ => rfl⟩, ⟨Nat.le_refl _, fun _ _ _ => rfl, Or.inl rfl, Or.inl rfl⟩, fun _ _ ea => ea, ⟨by omega, by omega⟩, ⟨rfl, rfl, rfl, by omega⟩, fun i hi => ⟨(a0 i hi).symm, hn i hi, fun _ _ => rfl, fun x hx => by omega⟩⟩
      cases s with
      | inl j => exact ho
      | inr i =>
        show cO pp cnt at' bd (.inr (i + aPs kk (r + 1) i))
        rw [a0 i rfl]; exact ho
end CQX
