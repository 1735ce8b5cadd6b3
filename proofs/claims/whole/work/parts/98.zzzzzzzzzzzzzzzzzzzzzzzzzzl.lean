/-! weakenAll(): its loops -/
/-- what the loop knows of looks and changes -/
def wyJ (T : Nat) (f pp ee R R6 : Nat → Int32) (Γ : uGm) (cell : Nat × List Bool → Nat) (FK : Nat × List Bool → List gFc) (Fs fs : List gFit) (N : Nat) (σ : oSt) (Fc : Nat → Nat → Bool) (lk : Nat → Int32) (c : Int32) : Prop := (∀ i, i < N → (lk i).toInt ≤ c.toInt) ∧ (∀ (i : Nat) (x : gFit), fs[i]? = some x → 0 < (lk i).toInt → (∀ kp, rlK x kp → (chG σ (cell kp)).toInt < (lk i).toInt) → wyS T f pp ee R R6 Γ cell Fc x) ∧ ∀ al, gSb T f pp ee R R6 Γ Fs al → fLe FK al (fun kp => Fc (cell kp))
/-- what stands fast in weakenAll() -/
def wyC (κ : oKv) (T T0 cnt : Nat) (kk f fc pp ee R R6 : Nat → Int32) (L : List Nat) (nm : Nat → Option Nat) (φ : Nat → Nat) (Bb : Int) (B : Nat → Nat) (D : cDt) (lo : Nat) (V : oSt) (st : Nat) (l : Nat → Nat) (b0 : Nat) (Γ : uGm) (Ψ : kGh) (σ0 σG : oSt) (K : Int) (j pa ph ta th la N n Hm : Nat) (cf : List Value) (FK : Nat × List Bool → List gFc) (Dn : Nat → Prop) (ct : Nat → Nat → Option Nat) (Fs fs : List gFit) (Ks : List (Nat × List Bool)) : Prop := wkH T T0 f fc pp ee R L nm φ Bb lo b0 V σG Ψ pa ph ta th ∧ (100200 ≤ T ∧ Hm + 60 ≤ n) ∧ wyL b0 Ψ.2.2.1 la σG ∧ R6 1500 = 0 ∧ (∀ σ, wFr Ψ.2.2.1 pa ph ta th σG σ → oLs σ (some (l 0)) N (ct 0) ∧ oLs σ (some (l 1)) N (ct 1) ∧ oLs σ (some (l 2)) N (ct 2)) ∧ (cf[2]? = some (.ref j) ∧ cf[3]? = some (.ref (l 0)) ∧ cf[4]? = some (.ref (l 1)) ∧ cf[5]? = some (.ref (l 2))) ∧ (σ0.2.1 + 25 < T ∧ cnI K σ0) ∧ (fs.length = N ∧ ∀ (i : Nat) (x : gFit), fs[i]? = some x → ftR st l b0 Γ.2.2.1 Γ.2.2.2.1 Ψ σG (nCl κ T T0 kk pp ee f fc B D V nm lo) Dn (ct 0 i) (ct 1 i) (ct 2 i) x ∧ wyF T cnt kk pp ee f R R6 L Γ Bb Hm FK x ∧ fkp Γ.2.2.1 Γ.2.2.2.1 x = true ∧ x ∈ Fs ∧ ∀ m : gTm, x.2.2.1 = .inr m → (m.1, m.2.1) ∈ Ks) ∧ ∀ kp kp', FK kp ≠ [] → FK kp' ≠ [] → Ψ.2.1 kp = Ψ.2.1 kp' → kp = kp'
theorem i32_s {c : Int32} (h0 : 0 ≤ c.toInt) (h : c.toInt + 1 < 2 ^ 31) : (c + 1).toInt = c.toInt + 1 := by
  rw [Int32.toInt_add]
  have : (1 : Int32).toInt = 1 := by decide
  rw [this, Int.bmod_eq_of_le (by omega) (by omega)]
section WYL
variable {κ : oKv} {T T0 cnt : Nat} {kk f fc pp ee R R6 : Nat → Int32} {L : List Nat} {nm : Nat → Option Nat} {φ : Nat → Nat} {Bb : Int} {B : Nat → Nat} {D : cDt} {lo : Nat} {V : oSt} {st : Nat} {l : Nat → Nat} {b0 : Nat} {Γ : uGm} {Ψ : kGh} {σ0 σG : oSt} {K : Int} {j o pa ph ta th ch la N len0 n Hm : Nat} {cf : List Value} {FK : Nat × List Bool → List gFc} {Dn : Nat → Prop} {ct : Nat → Nat → Option Nat} {Fs fs : List gFit} {Ks : List (Nat × List Bool)}
set_option maxHeartbeats 1000000 in
/-- **weakenAll()'s inner loop** -/
theorem c_wa33 {x4 : Int32} {k17 : Option Nat → Option Nat → Int32 → Int32 → Int32 → oSt → oRs} (C : wyC κ T T0 cnt kk f fc pp ee R R6 L nm φ Bb B D lo V st l b0 Γ Ψ σ0 σG K j pa ph ta th la N n Hm cf FK Dn ct Fs fs Ks) {M : Nat} : ∀ (d i : Nat) (σ : oSt) (Fc : Nat → Nat → Bool) (lk : Nat → Int32) (c x3 : Int32) (t : Nat), i + d = N → d < t → wyI st l b0 Ψ.2.2.1 K j o pa ph ta th ch la N len0 cf σ0 σG σ Fc lk → wyJ T f pp ee R R6 Γ Ψ.2.1 FK Fs fs N σ Fc lk c → 0 ≤ c.toInt → c.toInt + d + 1 < 2 ^ 31 → (x3 = 0 ∨ x3 = 1) → (x3 = 0 → ∀ (i' : Nat) (x : gFit), i' < i → fs[i']? = some x → wyS T f pp ee R R6 Γ Ψ.2.1 Fc x) → wyN FK Ψ.2.1 Fc Ks + (if x3 = 0 then 0 else 1) ≤ M → ∃ σ' Fc' lk' c' x3', ol_X0_weakenAll_33 T (oF κ T (n + 4)) κ k17 t (some ch) (some la) c x3 x4 (nI i) σ = k17 (some ch) (some la) c' x3' (x4 + 1) σ' ∧ wyI st l b0 Ψ.2.2.1 K j o pa ph ta th ch la N len0 cf σ0 σG σ' Fc' lk' ∧ wyJ T f pp ee R R6 Γ Ψ.2.1 FK Fs fs N σ' Fc' lk' c' ∧ 0 ≤ c'.toInt ∧ c'.toInt ≤ c.toInt + d ∧ (x3' = 0 ∨ x3' = 1) ∧ (x3' = 0 → ∀ (i' : Nat) (x : gFit), i' < N → fs[i']? = some x → wyS T f pp ee R R6 Γ Ψ.2.1 Fc' x) ∧ wyN FK Ψ.2.1 Fc' Ks + (if x3' = 0 then 0 else 1) ≤ M := by
  obtain ⟨W, ⟨hT, hN⟩, hL, hR0, hO, hcf, ⟨hs0, hc0⟩, ⟨hln, hfs⟩, hinj⟩ := C
  intro d
  induction d with
  | zero =>
    intro i σ Fc lk c x3 t hi ht hI hJ hc hcb h3 hR hM
    obtain ⟨t, rfl⟩ : ∃ t', t = t' + 1 := ⟨t - 1, by omega⟩
    have hla := hI.2.2.2.2.2.2
    have e1 : oln2 κ σ (some la) = some (nI N) := by
      simp only [oln2, hla]
      rfl
    refine ⟨σ, Fc, lk, c, x3, ?_, hI, hJ, hc, by omega, h3, ?_, hM⟩
    · rw [ol_X0_weakenAll_33, e1, obn_at, if_pos (by
        rw [show i = N by omega]
        exact Int32.le_refl _)]
    · rw [← hi]
      exact hR
  | succ d ih =>
    intro i σ Fc lk c x3 t hi ht hI hJ hc hcb h3 hR hM
    obtain ⟨t, rfl⟩ : ∃ t', t = t' + 1 := ⟨t - 1, by omega⟩
    have hiN : i < N := by omega
    obtain ⟨x, hx⟩ : ∃ x, fs[i]? = some x := ⟨_, List.getElem?_eq_getElem (by omega)⟩
    obtain ⟨f1, f2, f3, f4, f5⟩ := hfs i x hx
    have ec : (c + 1).toInt = c.toInt + 1 := i32_s hc (by omega)
    obtain ⟨J1, J2, J3⟩ := id hJ
    have lkb : ∀ i', i' < N → (upd lk i (c + 1) i').toInt ≤ (c + 1).toInt := fun i' hi' => by
      by_cases z : i' = i
      · rw [z, upd_at]; exact Int.le_refl _
      · rw [upd_ne _ _ z]
        have := J1 i' hi'
        omega
    rcases c_wa1 (κ := κ) (T := T) (n := n) (t := t) (c := c) (x3 := x3) (x4 := x4) (k17 := k17) W hT hN hL hR0 hO hcf hs0 hc0 hI hiN f1 f2 f3 (by omega) (J2 i x hx) with ⟨e, w⟩ | ⟨σ', e, hI', w, ck⟩ | ⟨σ', Fc', m, e, hI', ⟨hm, hne⟩, n1, n2, n3, n4, ⟨k, k1, k2, k3⟩, ck1, ck⟩
    · obtain ⟨σ', Fc', lk', c', x3', r1, r2, r3, r4, r5, r6⟩ := ih (i + 1) σ Fc lk c x3 t (by omega) (by omega) hI hJ hc (by omega) h3 (fun z i' x' hi' hx' => by
        by_cases q : i' = i
        · rw [q, hx] at hx'
          injection hx' with hx'
          rw [← hx']; exact w
        · exact hR z i' x' (by omega) hx') hM
      exact ⟨σ', Fc', lk', c', x3', e.trans r1, r2, r3, r4, by omega, r6⟩
    · obtain ⟨σ'', Fc'', lk'', c', x3', r1, r2, r3, r4, r5, r6⟩ := ih (i + 1) σ' Fc (upd lk i (c + 1)) (c + 1) x3 t (by omega) (by omega) hI' ⟨lkb, fun i' x' hx' hp hc' => by
          by_cases q : i' = i
          · rw [q, hx] at hx'
            injection hx' with hx'
            rw [← hx']; exact w
          · rw [upd_ne _ _ q] at hp
            refine J2 i' x' hx' hp (fun kp hkp => ?_)
            have h' := hc' kp hkp
            rw [upd_ne _ _ q] at h'
            obtain ⟨fs', z⟩ := rl_kn hI.2.1 hI.chi (hfs i' x' hx').1 hkp
            rw [ck _ fs' z] at h'
            exact h', J3⟩ (by omega) (by omega) h3 (fun z i' x' hi' hx' => by
        by_cases q : i' = i
        · rw [q, hx] at hx'
          injection hx' with hx'
          rw [← hx']; exact w
        · exact hR z i' x' (by omega) hx') hM
      exact ⟨σ'', Fc'', lk'', c', x3', e.trans r1, r2, r3, r4, by omega, r6⟩
    · obtain ⟨-, -, -, -, -, hS0, hX0, hY0⟩ := id f2
      have em : gIn Γ.2.2.1 Γ.2.2.2.1 m.2.2.1 m.2.2.2.2 = FK (m.1, m.2.1) := hY0 m hm
      have lt : wyN FK Ψ.2.1 Fc' Ks < wyN FK Ψ.2.1 Fc Ks := wyN_lt n2 (by rw [← em]; exact k1) k2 k3 Ks (f5 m hm)
      obtain ⟨σ'', Fc'', lk'', c', x3', r1, r2, r3, r4, r5, r6⟩ := ih (i + 1) σ' Fc' (upd lk i (c + 1)) (c + 1) 1 t (by omega) (by omega) hI' ⟨lkb, fun i' x' hx' hp hc' => by
          have hi' : i' < N := by
            rw [← hln]
            exact (List.getElem?_eq_some_iff.mp hx').1
          have no : ∀ kp, rlK x' kp → Ψ.2.1 kp ≠ Ψ.2.1 (m.1, m.2.1) := fun kp hkp z => by
            have := hc' kp hkp
            rw [z, ck1] at this
            have := lkb i' hi'
            omega
          have same : ∀ kp, rlK x' kp → ∀ k, Fc (Ψ.2.1 kp) k = true → Fc' (Ψ.2.1 kp) k = true := fun kp hkp k z => by rw [n1 _ _ (no kp hkp)]; exact z
          obtain ⟨g1, ⟨-, -, -, -, -, hS1, hX1, hY1⟩, -⟩ := hfs i' x' hx'
          by_cases q : i' = i
          · rw [q, hx] at hx'
            injection hx' with hx'
            subst hx'
            refine wyS.me (Fc := Fc) (fun m' hm' k y hy hk => ?_) same hS1 hX1
            rw [hm] at hm'
            injection hm' with hm'
            subst hm'
            exact n4 k y hy hk
          · rw [upd_ne _ _ q] at hp
            refine wyS.go (J2 i' x' hx' hp (fun kp hkp => ?_)) n2 same hS1 hX1
            have h' := hc' kp hkp
            rw [upd_ne _ _ q] at h'
            obtain ⟨fs', z⟩ := rl_kn hI.2.1 hI.chi g1 hkp
            rw [ck _ fs' (no kp hkp) z] at h'
            exact h', fun al hg => wy_gr hm hinj hne hS0 hX0 hY0 n1 n3 f4 hg (J3 al hg)⟩ (by omega) (by omega) (Or.inr rfl) (fun z => absurd z (by decide)) (by
        rw [if_neg (by decide)]
        omega)
      exact ⟨σ'', Fc'', lk'', c', x3', e.trans r1, r2, r3, r4, by omega, r6⟩
/-- **weakenAll()'s outer loop** -/
theorem c_wa17 (C : wyC κ T T0 cnt kk f fc pp ee R R6 L nm φ Bb B D lo V st l b0 Γ Ψ σ0 σG K j pa ph ta th la N n Hm cf FK Dn ct Fs fs Ks) (hNT : N < T) : ∀ (M r : Nat) (σ : oSt) (Fc : Nat → Nat → Bool) (lk : Nat → Int32) (c : Int32) (t : Nat), r + M + 1 < 1000000 → M + 1 < t → wyI st l b0 Ψ.2.2.1 K j o pa ph ta th ch la N len0 cf σ0 σG σ Fc lk → wyJ T f pp ee R R6 Γ Ψ.2.1 FK Fs fs N σ Fc lk c → 0 ≤ c.toInt → c.toInt + ((M + 1) * N : Nat) + 1 < 2 ^ 31 → wyN FK Ψ.2.1 Fc Ks ≤ M → ∃ σ' Fc' lk' c', ol_X0_weakenAll_17 T (oF κ T (n + 4)) κ t (some ch) (some la) c 1 (nI r) σ = some (none, σ') ∧ wyI st l b0 Ψ.2.2.1 K j o pa ph ta th ch la N len0 cf σ0 σG σ' Fc' lk' ∧ wyJ T f pp ee R R6 Γ Ψ.2.1 FK Fs fs N σ' Fc' lk' c' ∧ ∀ x, x ∈ fs → wyS T f pp ee R R6 Γ Ψ.2.1 Fc' x := by
  have hln : fs.length = N := C.2.2.2.2.2.2.2.1.1
  intro M
  induction M with
  | zero =>
    intro r σ Fc lk c t hr ht hI hJ hc hcb hM
    obtain ⟨t, rfl⟩ : ∃ t', t = t' + 2 := ⟨t - 2, by omega⟩
    obtain ⟨σ', Fc', lk', c', x3', r1, r2, r3, r4, r5, r6, r7, r8⟩ := c_wa33 (x4 := nI r) (k17 := ol_X0_weakenAll_17 T (oF κ T (n + 4)) κ (t + 1)) C (M := 0) N 0 σ Fc lk c 0 T (by omega) hNT hI hJ hc (by omega) (Or.inl rfl) (fun _ i' x hi' => absurd hi' (Nat.not_lt_zero _)) (by
      rw [if_pos rfl]
      exact hM)
    have e3 : x3' = 0 := r6.elim id (fun z => by
      rw [z, if_neg (by decide)] at r8
      omega)
    refine ⟨σ', Fc', lk', c', ?_, r2, r3, fun x hx => ?_⟩
    · rw [ol_X0_weakenAll_17, if_neg (show ¬ (1000000 : Int32) ≤ nI r from nI_ge (a := r) (b := 1000000) (by omega) (by decide)), if_neg (by decide)]
      refine r1.trans ?_
      rw [e3, ol_X0_weakenAll_17]
      split
      · rfl
      · rw [if_pos rfl]
    · obtain ⟨k, hk⟩ := List.getElem?_of_mem hx
      exact r7 e3 k x (by
        rw [← hln]
        exact (List.getElem?_eq_some_iff.mp hk).1) hk
  | succ M ih =>
    intro r σ Fc lk c t hr ht hI hJ hc hcb hM
    obtain ⟨t, rfl⟩ : ∃ t', t = t' + 2 := ⟨t - 2, by omega⟩
    have eM : (M + 1 + 1) * N = (M + 1) * N + N := Nat.succ_mul _ _
    obtain ⟨σ', Fc', lk', c', x3', r1, r2, r3, r4, r5, r6, r7, r8⟩ := c_wa33 (x4 := nI r) (k17 := ol_X0_weakenAll_17 T (oF κ T (n + 4)) κ (t + 1)) C (M := M + 1) N 0 σ Fc lk c 0 T (by omega) hNT hI hJ hc (by omega) (Or.inl rfl) (fun _ i' x hi' => absurd hi' (Nat.not_lt_zero _)) (by
      rw [if_pos rfl]
      exact hM)
    have beg : ol_X0_weakenAll_17 T (oF κ T (n + 4)) κ (t + 2) (some ch) (some la) c 1 (nI r) σ = ol_X0_weakenAll_17 T (oF κ T (n + 4)) κ (t + 1) (some ch) (some la) c' x3' (nI r + 1) σ' := by
      rw [ol_X0_weakenAll_17, if_neg (show ¬ (1000000 : Int32) ≤ nI r from nI_ge (a := r) (b := 1000000) (by omega) (by decide)), if_neg (by decide)]
      exact r1
    rcases r6 with e3 | e3
    · refine ⟨σ', Fc', lk', c', ?_, r2, r3, fun x hx => ?_⟩
      · rw [beg, e3, ol_X0_weakenAll_17]
        split
        · rfl
        · rw [if_pos rfl]
      · obtain ⟨k, hk⟩ := List.getElem?_of_mem hx
        exact r7 e3 k x (by
          rw [← hln]
          exact (List.getElem?_eq_some_iff.mp hk).1) hk
    · rw [e3, if_neg (by decide)] at r8
      obtain ⟨σ2, Fc2, lk2, c2, q1, q2, q3, q4⟩ := ih (r + 1) σ' Fc' lk' c' (t + 1) (by omega) (by omega) r2 r3 r4 (by omega) (by omega)
      refine ⟨σ2, Fc2, lk2, c2, ?_, q2, q3, q4⟩
      rw [beg, e3, nI_p1]
      exact q1
end WYL
