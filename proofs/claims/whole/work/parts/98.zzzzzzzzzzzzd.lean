/-! the class's Judge: begin(), its first loop; questions of isSure() -/
/-- a NAME that is measured: int, array, list -/
def isM (b : Int32) : Bool := b == 210 || b == 200 || b == 213
/-- a Scope: NAMES and tests, the innermost first; bs their kinds, kn what is known of them -/
abbrev sEn : Type := Nat ⊕ (Nat × Bool)
def cScp (bs : Nat → Int32) (kn : Nat → Nat) (σ : oSt) : List sEn → Option Nat → Prop
  | [], s => s = none
  | .inl a :: r, s => ∃ q ou v2, s = some q ∧ σ.1 q = some (.inr (10, [.ref a, va_rf none, .int v2, va_rf ou])) ∧ (∃ fs, σ.1 a = some (.inr (6, fs)) ∧ fs.length = 8 ∧ fs[3]? = some (.int (bs a)) ∧ (isM (bs a) = true → fs[4]? = some (.ref (kn a)))) ∧ cScp bs kn σ r ou
  | .inr (m, h) :: r, s => ∃ q ou, s = some q ∧ σ.1 q = some (.inr (10, [va_rf none, .ref m, .int (b01 h), va_rf ou])) ∧ cScp bs kn σ r ou
/-- the NAMES that are measured -/
def msL (bs : Nat → Int32) : List sEn → List Nat
  | [] => []
  | .inl a :: r => if isM (bs a) = true then a :: msL bs r else msL bs r
  | .inr _ :: r => msL bs r
/-- the tests -/
def tsL : List sEn → List (Nat × Bool)
  | [] => []
  | .inl _ :: r => tsL r
  | .inr x :: r => x :: tsL r
/-- only slots and rounds of these NAMES change -/
def jKn (A : List Nat) (σ σ' : oSt) : Prop := (∀ x, x ∉ A → σ'.1 x = σ.1 x) ∧ σ'.2 = σ.2 ∧ ∀ x, x ∈ A → ∃ fs fs', σ.1 x = some (.inr (6, fs)) ∧ σ'.1 x = some (.inr (6, fs')) ∧ fs'.length = fs.length ∧ ∀ i, i ≠ 6 → i ≠ 7 → fs'[i]? = fs[i]?
section JBG
variable {κ : oKv} {T n j : Nat} {bs : Nat → Int32} {kn : Nat → Nat} {σ σ' : oSt} {rd : Int32}
theorem jKn.rf (σ : oSt) : jKn [] σ σ := ⟨fun _ _ => rfl, rfl, fun x h => by cases h⟩
theorem jKn.nm {A : List Nat} (h : jKn A σ σ') {x : Nat} {fs : List Value} (e : σ.1 x = some (.inr (6, fs))) : ∃ fs', σ'.1 x = some (.inr (6, fs')) ∧ fs'.length = fs.length ∧ ∀ i, i ≠ 6 → i ≠ 7 → fs'[i]? = fs[i]? := by
  by_cases z : x ∈ A
  · obtain ⟨f1, f2, a1, a2, a3, a4⟩ := h.2.2 x z
    rw [e] at a1
    injection a1 with a1
    injection a1 with a1
    injection a1 with a1 a5
    subst a5
    exact ⟨f2, a2, a3, a4⟩
  · exact ⟨fs, (h.1 x z).trans e, rfl, fun _ _ _ => rfl⟩
theorem jKn.ot {A : List Nat} (h : jKn A σ σ') {x : Nat} {cc : oC} (e : σ.1 x = some cc) (h6 : ∀ fs, cc ≠ .inr (6, fs)) : σ'.1 x = some cc := by
  refine (h.1 x fun z => ?_).trans e
  obtain ⟨f1, f2, a1, -⟩ := h.2.2 x z
  rw [e] at a1
  exact h6 f1 (Option.some.inj a1)
theorem cScp.jkn {A : List Nat} (h : jKn A σ σ') : ∀ (Sc : List sEn) (s : Option Nat), cScp bs kn σ Sc s → cScp bs kn σ' Sc s
  | [], _, g => g
  | .inl a :: r, s, ⟨q, ou, v2, g1, g2, ⟨fs, g3, g4, g5, g6⟩, g7⟩ => by
    obtain ⟨f2, b1, b2, b3⟩ := h.nm g3
    exact ⟨q, ou, v2, g1, h.ot g2 (fun fs w => by injection w with w; injection w with w; exact absurd w (by decide)), ⟨f2, b1, b2.trans g4, (b3 3 (by decide) (by decide)).trans g5, fun w => (b3 4 (by decide) (by decide)).trans (g6 w)⟩, cScp.jkn h r ou g7⟩
  | .inr (m, hh) :: r, s, ⟨q, ou, g1, g2, g7⟩ => ⟨q, ou, g1, h.ot g2 (fun fs w => by injection w with w; injection w with w; exact absurd w (by decide)), cScp.jkn h r ou g7⟩
theorem c_meas {a : Nat} {fs : List Value} {b : Int32} (h : σ.1 a = some (.inr (6, fs))) (h3 : fs[3]? = some (.int b)) : oF κ T (n + 1) 6 [va_rf (some a)] σ = some (some (.int (b01 (isM b))), σ) := by
  have f3 : ofd σ (some a) 6 3 = some (.int b) := (ofd_at h).trans h3
  rw [oE_X4_isMeasured]
  unfold ob_X4_isMeasured oj_X4_isMeasured_30 isM
  rw [f3, ovi_i, obn_at]
  by_cases z1 : b = 210
  · rw [if_pos z1, z1]; rfl
  · rw [if_neg z1, obn_at]
    by_cases z2 : b = 200
    · rw [if_pos z2, z2]; rfl
    · rw [if_neg z2, obn_at]
      by_cases z3 : b = 213
      · rw [if_pos z3, z3]; rfl
      · rw [if_neg z3]
        have : (b == 210 || b == 200 || b == 213) = false := by simp [z1, z2, z3]
        rw [this]
        rfl
/-- what comes behind the first loop -/
def bgE (T : Nat) (call : oCl) (κ : oKv) (x0 x1 x2 : Option Nat) (x3 : Int32) (σ : oSt) : oRs := obn (ovr (ofd σ x0 3 0)) fun v2 => obn (oob σ v2 8) fun a4 => ocv (call 41 [va_rf v2, .int x3] σ) fun s6 => if x2 = none then oj_X1_begin_101 T call κ x0 x1 s6 else obn (oob s6 x0 3) fun a10 => ocv (call 50 [va_rf x0, va_rf x2, .int 0] s6) fun s12 => oj_X1_begin_101 T call κ x0 x1 s12
theorem c_bg25 {x1 x2 : Option Nat} : ∀ (Sc : List sEn) (s : Option Nat) (t u : Nat) (σ : oSt), cScp bs kn σ Sc s → (msL bs Sc).Nodup → Sc.length < t → (∃ jf, σ.1 j = some (.inr (3, jf)) ∧ jf[7]? = some (.int rd)) → ∃ σ2, ol_X1_begin_25 T (oF κ T (n + 1)) κ t (some j) x1 x2 (nI u) s σ = bgE T (oF κ T (n + 1)) κ (some j) x1 x2 (nI (u + (msL bs Sc).length)) σ2 ∧ jKn (msL bs Sc) σ σ2 ∧ ∀ (i a : Nat), (msL bs Sc)[i]? = some a → ∃ fs, σ2.1 a = some (.inr (6, fs)) ∧ fs[6]? = some (.int (nI (u + i))) ∧ fs[7]? = some (.int rd)
  | [], s, t, u, σ, hS, hN, ht, hj => by
    obtain ⟨t, rfl⟩ : ∃ t', t = t' + 1 := ⟨t - 1, by omega⟩
    have hS : s = none := hS
    subst hS
    exact ⟨σ, by rw [ol_X1_begin_25, if_pos rfl]; rfl, jKn.rf σ, fun i a e => by cases e⟩
  | .inl a :: r, s, t, u, σ, ⟨q, ou, v2, g1, g2, ⟨fs, g3, g4, g5, g6⟩, g7⟩, hN, ht, ⟨jf, j1, j2⟩ => by
    obtain ⟨t, rfl⟩ : ∃ t', t = t' + 1 := ⟨t - 1, by omega⟩
    subst g1
    have q0 : ofd σ (some q) 10 0 = some (.ref a) := ofd_at g2
    have q3 : ofd σ (some q) 10 3 = some (va_rf ou) := ofd_at g2
    have ms := c_meas (κ := κ) (T := T) (n := n) g3 g5
    have ht' : r.length < t := by have := ht; simp only [List.length_cons] at this; omega
    by_cases z : isM (bs a) = true
    · have eM : msL bs (.inl a :: r) = a :: msL bs r := if_pos z
      rw [eM] at hN ⊢
      have hN2 := List.nodup_cons.mp hN
      -- slot and round
      have nq : q ≠ a := fun e => by
        subst e
        rw [g2] at g3
        injection g3 with g3
        injection g3 with g3
        injection g3 with g3
        exact absurd g3 (by decide)
      have nj : j ≠ a := fun e => by
        subst e
        rw [j1] at g3
        injection g3 with g3
        injection g3 with g3
        injection g3 with g3
        exact absurd g3 (by decide)
      have k1 : jKn [a] σ (oput σ a (.inr (6, (fs.set 6 (.int (nI u))).set 7 (.int rd)))) := by
        refine ⟨fun x hx => oput_ne (fun e => hx (by rw [e]; exact List.mem_cons_self ..)), rfl, fun x hx => ?_⟩
        rcases List.mem_cons.mp hx with rfl | hx
        · exact ⟨fs, _, g3, oput_eq _ _ _, by rw [List.length_set, List.length_set], fun i h6 h7 => by rw [List.getElem?_set_ne (Ne.symm h7), List.getElem?_set_ne (Ne.symm h6)]⟩
        · cases hx
      obtain ⟨σ2, i1, i2, i3⟩ := c_bg25 (x1 := x1) (x2 := x2) r ou t (u + 1) _ (cScp.jkn k1 r ou g7) hN2.2 ht' ⟨jf, (oput_ne nj).trans j1, j2⟩
      refine ⟨σ2, ?_, ?_, fun i b e => ?_⟩
      · have f7 : ofd (oput σ a (.inr (6, fs.set 6 (.int (nI u))))) (some j) 3 7 = some (.int rd) := (ofd_at ((oput_ne nj).trans j1)).trans j2
        have q0' : ofd (oput σ a (.inr (6, fs.set 6 (.int (nI u))))) (some q) 10 0 = some (.ref a) := ofd_at ((oput_ne nq).trans g2)
        have q3' : ofd (oput σ a (.inr (6, (fs.set 6 (.int (nI u))).set 7 (.int rd)))) (some q) 10 3 = some (va_rf ou) := ofd_at ((oput_ne nq).trans g2)
        rw [ol_X1_begin_25, if_neg (by simp), q0, ovr_rf, obn_at, if_neg (by simp), obn_at, oob_at g3, obn_at, ms, z, oin_at, if_neg (by decide), q0, ovr_rf, obn_at, opf_at g3 (by omega), obn_at, q0', ovr_rf, obn_at, f7, ovi_i, obn_at, opf_at (oput_eq _ _ _) (by rw [List.length_set]; omega), obn_at, oput_oput, nI_p1]
        unfold oj_X1_begin_73
        rw [q3', ovr_va, obn_at, i1]
        congr 2
        simp only [List.length_cons]
        omega
      · refine ⟨fun x hx => ?_, i2.2.1, fun x hx => ?_⟩
        · have h1 := fun w => hx (List.mem_cons_of_mem _ w)
          have h2 : x ≠ a := fun e => hx (by rw [e]; exact List.mem_cons_self ..)
          exact (i2.1 x h1).trans (oput_ne h2)
        · rcases List.mem_cons.mp hx with rfl | hx
          · refine ⟨fs, (fs.set 6 (.int (nI u))).set 7 (.int rd), g3, (i2.1 _ hN2.1).trans (oput_eq _ _ _), by rw [List.length_set, List.length_set], fun i h6 h7 => by rw [List.getElem?_set_ne (Ne.symm h7), List.getElem?_set_ne (Ne.symm h6)]⟩
          · obtain ⟨f1, f2, a1, a2, a3⟩ := i2.2.2 x hx
            have h2 : x ≠ a := fun e => hN2.1 (by rw [← e]; exact hx)
            rw [oput_ne h2] at a1
            exact ⟨f1, f2, a1, a2, a3⟩
      · cases i with
        | zero =>
          have e : a = b := Option.some.inj e
          subst e
          refine ⟨_, (i2.1 _ hN2.1).trans (oput_eq _ _ _), ?_, ?_⟩
          · rw [List.getElem?_set_ne (by decide), List.getElem?_set_self (by omega)]; rfl
          · rw [List.getElem?_set_self (by rw [List.length_set]; omega)]
        | succ i =>
          obtain ⟨f1, a1, a2, a3⟩ := i3 i b e
          exact ⟨f1, a1, by rw [a2, show u + 1 + i = u + (i + 1) by omega], a3⟩
    · have eM : msL bs (.inl a :: r) = msL bs r := if_neg z
      rw [eM] at hN ⊢
      obtain ⟨σ2, i1, i2, i3⟩ := c_bg25 (x1 := x1) (x2 := x2) r ou t u σ g7 hN ht' ⟨jf, j1, j2⟩
      refine ⟨σ2, ?_, i2, i3⟩
      rw [ol_X1_begin_25, if_neg (by simp), q0, ovr_rf, obn_at, if_neg (by simp), obn_at, oob_at g3, obn_at, ms, show isM (bs a) = false by simpa using z, oin_at, if_pos (by decide)]
      unfold oj_X1_begin_73
      rw [q3, ovr_va, obn_at, i1]
  | .inr (m, hh) :: r, s, t, u, σ, ⟨q, ou, g1, g2, g7⟩, hN, ht, hj => by
    obtain ⟨t, rfl⟩ : ∃ t', t = t' + 1 := ⟨t - 1, by omega⟩
    subst g1
    have q0 : ofd σ (some q) 10 0 = some (va_rf none) := ofd_at g2
    have q3 : ofd σ (some q) 10 3 = some (va_rf ou) := ofd_at g2
    have ht' : r.length < t := by have := ht; simp only [List.length_cons] at this; omega
    obtain ⟨σ2, i1, i2, i3⟩ := c_bg25 (x1 := x1) (x2 := x2) r ou t u σ g7 hN ht' hj
    refine ⟨σ2, ?_, i2, i3⟩
    rw [ol_X1_begin_25, if_neg (by simp), q0, ovr_va, obn_at, if_pos rfl]
    unfold oj_X1_begin_73
    rw [q3, ovr_va, obn_at, i1]
    rfl
end JBG
section JQA
variable {κ : oKv} {T j o pa ph ta th W : Nat} {B : Int} {rd : Int32}
/-- only whether there is a way -/
def rpA (σ : oSt) (ps : Int32) (S : List Unit) : Prop := ps = b01 S.isEmpty
theorem qOkA {X : Nat → Prop} : qOk κ T 1 j o pa ph ta th W B rd none X rpA (fun _ _ => False) := by
  refine ⟨fun x L L' h g => g, fun σ σ' ps S h g => g, fun n σ ca len b fa f ps P Tr S J g => ?_, fun n σ ca len b f ps P Tr L S hn J hv hL hb hl g => ?_⟩
  · have f8 : ofd σ (some j) 3 8 = some (va_rf none) := ofd_at J.1
    have f9 : ofd σ (some j) 3 9 = some (.int ps) := ofd_at J.1
    rw [oE_X1_isDecided]
    unfold ob_X1_isDecided
    rw [f8, ovr_va, obn_at, if_pos rfl, f9, ovi_i, obn_at, show ps = b01 S.isEmpty from g, ogd_at]
    cases S.isEmpty <;> rfl
  · obtain ⟨n, rfl⟩ : ∃ n', n = n' + 1 := ⟨n - 1, by omega⟩
    have f8 : ofd σ (some j) 3 8 = some (va_rf none) := ofd_at J.1
    obtain ⟨⟨n1, n2, n3, n4, n5, n6⟩, -⟩ := J.ne
    obtain ⟨h1, ⟨h2, h3⟩, ⟨gp, hp, h4, h5, h6⟩, ⟨gt, ht, h7, h8, h9⟩, h10, h11⟩ := J
    refine ⟨_, 1, ?_, ⟨oput_eq _ _ _, ⟨(oput_ne (Ne.symm n1)).trans h2, (oput_ne (Ne.symm n2)).trans h3⟩, ⟨gp, hp, (oput_ne (Ne.symm n3)).trans h4, (oput_ne (Ne.symm n4)).trans h5, h6⟩, ⟨gt, ht, (oput_ne (Ne.symm n5)).trans h7, (oput_ne (Ne.symm n6)).trans h8, h9⟩, h10, h11⟩, ⟨fun x cc e k _ => ?_, fun x e _ => ?_, Nat.le_refl _, fun x fs e => ⟨fs, (oput_ne (fun z => ?_)).trans e, rfl, fun _ _ _ => rfl⟩⟩, rfl, ?_⟩
    · rw [oE_X1_conclude]
      unfold ob_X1_conclude
      rw [f8, ovr_va, obn_at, if_pos rfl, opf_at h1 (by simp only [List.length_cons, List.length_nil]; omega), obn_at]
      rfl
    · have : x ≠ j := fun z => by
        subst z
        rw [h1] at e
        injection e with e
        subst e
        exact k.1 rfl
      exact (oput_ne this).trans e
    · have : x ≠ j := fun z => by
        subst z
        rw [h1] at e
        cases e
      exact (oput_ne this).trans e
    · subst z
      rw [h1] at e
      injection e with e
      injection e with e
      injection e with e
      exact absurd e (by decide)
    · have : fQz (fun _ => False) S = [] := by
        unfold fQz
        exact List.filter_eq_nil_iff.mpr (fun x hx => by simp)
      show (1 : Int32) = b01 (fQz (fun _ => False) S).isEmpty
      rw [this]
      rfl
end JQA
