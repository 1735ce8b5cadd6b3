/-! the class's parser: the E by its first word; through a reader of its rest -/
section CRJ
variable {κ : oKv} {sz T n m len cnt : Nat} {kk pp ee f : Nat → Int32} {A : Nat → Nat} {nq ni : Int32} {rt : Value} {σ σ' σ1 : oSt} {D D' : cDt} {at' cd : Nat} {cn am bd nf ff : Int32} {s : Sum Nat Nat} {nm nm' : Nat → Option Nat} {ν : nSt} {lo e i : Nat}
theorem aIs_ne {c c0 : Nat} (h : kk i = nI c0) (h1 : c0 < 2 ^ 31) (h2 : c < 2 ^ 31) (h3 : c0 ≠ c) : ¬ aIs kk c i = true := fun z => h3 (nI_inj' h1 h2 (h.symm.trans (of_decide_eq_true z)))
theorem aE_212 {k : Nat} (h : kk i = nI 212) : aE kk T (k + 1) i = (if aIs kk 219 (i + 1) = true then aRc kk (aE kk T k) i else (aMs kk 1 (i + 1)).on fun _ i1 => aLt kk (aE kk T k) (tN 1 i 0 0 s0 s0) i1) := by
  rw [aE, if_pos (show aIs kk 212 i = true from decide_eq_true h)]
theorem aE_206 {k : Nat} (h : kk i = nI 206) : aE kk T (k + 1) i = aFn kk (aE kk T k) i := by
  rw [aE, if_neg (aIs_ne h (c := 212) (by decide) (by decide) (by decide)), if_pos (show aIs kk 206 i = true from decide_eq_true h)]
theorem aE_207 {k : Nat} (h : kk i = nI 207) : aE kk T (k + 1) i = aIf kk T (aE kk T k) (aSi kk T (k + 1)) i := by
  rw [aE, if_neg (aIs_ne h (c := 212) (by decide) (by decide) (by decide)), if_neg (aIs_ne h (c := 206) (by decide) (by decide) (by decide)), if_pos (show aIs kk 207 i = true from decide_eq_true h)]
theorem aE_201 {k : Nat} (h : kk i = nI 201) : aE kk T (k + 1) i = aAt kk T (aE kk T k) (aSi kk T (k + 1)) i := by
  rw [aE, if_neg (aIs_ne h (c := 212) (by decide) (by decide) (by decide)), if_neg (aIs_ne h (c := 206) (by decide) (by decide) (by decide)), if_neg (aIs_ne h (c := 207) (by decide) (by decide) (by decide)), if_pos (show aIs kk 201 i = true from decide_eq_true h)]
theorem aE_220 {k : Nat} (h : kk i = nI 220) : aE kk T (k + 1) i = aSe kk T (aE kk T k) i := by
  rw [aE, if_neg (aIs_ne h (c := 212) (by decide) (by decide) (by decide)), if_neg (aIs_ne h (c := 206) (by decide) (by decide) (by decide)), if_neg (aIs_ne h (c := 207) (by decide) (by decide) (by decide)), if_neg (aIs_ne h (c := 201) (by decide) (by decide) (by decide)), if_pos (show aIs kk 220 i = true from decide_eq_true h)]
theorem aE_215 {k : Nat} (h : kk i = nI 215) : aE kk T (k + 1) i = (aSm kk T (i + 1)).on fun s i1 => .inr (tN 7 i 0 0 s s0 tZ tZ, i1) := by
  rw [aE, if_neg (aIs_ne h (c := 212) (by decide) (by decide) (by decide)), if_neg (aIs_ne h (c := 206) (by decide) (by decide) (by decide)), if_neg (aIs_ne h (c := 207) (by decide) (by decide) (by decide)), if_neg (aIs_ne h (c := 201) (by decide) (by decide) (by decide)), if_neg (aIs_ne h (c := 220) (by decide) (by decide) (by decide)), if_pos (show aIs kk 215 i = true from decide_eq_true h)]
theorem aE_216 {k : Nat} (h : kk i = nI 216) : aE kk T (k + 1) i = .inr (tN 17 i 0 0 s0 s0 tZ tZ, i + 1) := by
  rw [aE, if_neg (aIs_ne h (c := 212) (by decide) (by decide) (by decide)), if_neg (aIs_ne h (c := 206) (by decide) (by decide) (by decide)), if_neg (aIs_ne h (c := 207) (by decide) (by decide) (by decide)), if_neg (aIs_ne h (c := 201) (by decide) (by decide) (by decide)), if_neg (aIs_ne h (c := 220) (by decide) (by decide) (by decide)), if_neg (aIs_ne h (c := 215) (by decide) (by decide) (by decide)), if_pos (show aIs kk 216 i = true from decide_eq_true h)]
theorem aE_203 {k : Nat} (h : kk i = nI 203) : aE kk T (k + 1) i = (aSm kk T (i + 1)).on fun s i1 => (aMs kk 1 i1).on fun _ i2 => .inr (tN 18 i i1 0 s s0 tZ tZ, i2) := by
  rw [aE, if_neg (aIs_ne h (c := 212) (by decide) (by decide) (by decide)), if_neg (aIs_ne h (c := 206) (by decide) (by decide) (by decide)), if_neg (aIs_ne h (c := 207) (by decide) (by decide) (by decide)), if_neg (aIs_ne h (c := 201) (by decide) (by decide) (by decide)), if_neg (aIs_ne h (c := 220) (by decide) (by decide) (by decide)), if_neg (aIs_ne h (c := 215) (by decide) (by decide) (by decide)), if_neg (aIs_ne h (c := 216) (by decide) (by decide) (by decide)), if_pos (show aIs kk 203 i = true from decide_eq_true h)]
theorem aE_214 {k : Nat} (h : kk i = nI 214) : aE kk T (k + 1) i = aMt kk (aE kk T k) i := by
  rw [aE, if_neg (aIs_ne h (c := 212) (by decide) (by decide) (by decide)), if_neg (aIs_ne h (c := 206) (by decide) (by decide) (by decide)), if_neg (aIs_ne h (c := 207) (by decide) (by decide) (by decide)), if_neg (aIs_ne h (c := 201) (by decide) (by decide) (by decide)), if_neg (aIs_ne h (c := 220) (by decide) (by decide) (by decide)), if_neg (aIs_ne h (c := 215) (by decide) (by decide) (by decide)), if_neg (aIs_ne h (c := 216) (by decide) (by decide) (by decide)), if_neg (aIs_ne h (c := 203) (by decide) (by decide) (by decide)), if_pos (show aIs kk 214 i = true from decide_eq_true h)]
theorem aE_223 {k : Nat} (h : kk i = nI 223) : aE kk T (k + 1) i = .inr (tN 8 i 0 0 s0 s0 tZ tZ, i + 1) := by
  rw [aE, if_neg (aIs_ne h (c := 212) (by decide) (by decide) (by decide)), if_neg (aIs_ne h (c := 206) (by decide) (by decide) (by decide)), if_neg (aIs_ne h (c := 207) (by decide) (by decide) (by decide)), if_neg (aIs_ne h (c := 201) (by decide) (by decide) (by decide)), if_neg (aIs_ne h (c := 220) (by decide) (by decide) (by decide)), if_neg (aIs_ne h (c := 215) (by decide) (by decide) (by decide)), if_neg (aIs_ne h (c := 216) (by decide) (by decide) (by decide)), if_neg (aIs_ne h (c := 203) (by decide) (by decide) (by decide)), if_neg (aIs_ne h (c := 214) (by decide) (by decide) (by decide)), if_pos (show aIs kk 223 i = true from decide_eq_true h)]
theorem aE_205 {k : Nat} (h : kk i = nI 205) : aE kk T (k + 1) i = .inr (tN 9 i 0 0 s0 s0 tZ tZ, i + 1) := by
  rw [aE, if_neg (aIs_ne h (c := 212) (by decide) (by decide) (by decide)), if_neg (aIs_ne h (c := 206) (by decide) (by decide) (by decide)), if_neg (aIs_ne h (c := 207) (by decide) (by decide) (by decide)), if_neg (aIs_ne h (c := 201) (by decide) (by decide) (by decide)), if_neg (aIs_ne h (c := 220) (by decide) (by decide) (by decide)), if_neg (aIs_ne h (c := 215) (by decide) (by decide) (by decide)), if_neg (aIs_ne h (c := 216) (by decide) (by decide) (by decide)), if_neg (aIs_ne h (c := 203) (by decide) (by decide) (by decide)), if_neg (aIs_ne h (c := 214) (by decide) (by decide) (by decide)), if_neg (aIs_ne h (c := 223) (by decide) (by decide) (by decide)), if_pos (show aIs kk 205 i = true from decide_eq_true h)]
theorem aE_40 {k : Nat} (h : kk i = nI 40) : aE kk T (k + 1) i = (aE kk T k (i + 1)).on fun a i1 => (aMs kk 41 i1).on fun _ i2 => .inr (tN 16 i 0 0 s0 s0 a tZ, i2) := by
  rw [aE, if_neg (aIs_ne h (c := 212) (by decide) (by decide) (by decide)), if_neg (aIs_ne h (c := 206) (by decide) (by decide) (by decide)), if_neg (aIs_ne h (c := 207) (by decide) (by decide) (by decide)), if_neg (aIs_ne h (c := 201) (by decide) (by decide) (by decide)), if_neg (aIs_ne h (c := 220) (by decide) (by decide) (by decide)), if_neg (aIs_ne h (c := 215) (by decide) (by decide) (by decide)), if_neg (aIs_ne h (c := 216) (by decide) (by decide) (by decide)), if_neg (aIs_ne h (c := 203) (by decide) (by decide) (by decide)), if_neg (aIs_ne h (c := 214) (by decide) (by decide) (by decide)), if_neg (aIs_ne h (c := 223) (by decide) (by decide) (by decide)), if_neg (aIs_ne h (c := 205) (by decide) (by decide) (by decide)), if_pos (show aIs kk 40 i = true from decide_eq_true h)]
theorem aE_no {k : Nat} (h212 : ¬ kk i = nI 212) (h206 : ¬ kk i = nI 206) (h207 : ¬ kk i = nI 207) (h201 : ¬ kk i = nI 201) (h220 : ¬ kk i = nI 220) (h215 : ¬ kk i = nI 215) (h216 : ¬ kk i = nI 216) (h203 : ¬ kk i = nI 203) (h214 : ¬ kk i = nI 214) (h223 : ¬ kk i = nI 223) (h205 : ¬ kk i = nI 205) (h40 : ¬ kk i = nI 40) : aE kk T (k + 1) i = aOp kk T (aE kk T k) i := by
  rw [aE, if_neg (show ¬ aIs kk 212 i = true from fun z => h212 (of_decide_eq_true z)), if_neg (show ¬ aIs kk 206 i = true from fun z => h206 (of_decide_eq_true z)), if_neg (show ¬ aIs kk 207 i = true from fun z => h207 (of_decide_eq_true z)), if_neg (show ¬ aIs kk 201 i = true from fun z => h201 (of_decide_eq_true z)), if_neg (show ¬ aIs kk 220 i = true from fun z => h220 (of_decide_eq_true z)), if_neg (show ¬ aIs kk 215 i = true from fun z => h215 (of_decide_eq_true z)), if_neg (show ¬ aIs kk 216 i = true from fun z => h216 (of_decide_eq_true z)), if_neg (show ¬ aIs kk 203 i = true from fun z => h203 (of_decide_eq_true z)), if_neg (show ¬ aIs kk 214 i = true from fun z => h214 (of_decide_eq_true z)), if_neg (show ¬ aIs kk 223 i = true from fun z => h223 (of_decide_eq_true z)), if_neg (show ¬ aIs kk 205 i = true from fun z => h205 (of_decide_eq_true z)), if_neg (show ¬ aIs kk 40 i = true from fun z => h40 (of_decide_eq_true z))]
/-- a fun is read as one -/
theorem aE_f3 {k : Nat} : ∀ (i : Nat) (t : tT) (j : Nat), aIs kk 206 i = true → aE kk T k i = .inr (t, j) → ∃ a, t = tN 3 i 0 0 s0 s0 a tZ := fun i t j h1 h2 => by
  cases k with
  | zero => unfold aE at h2; cases h2
  | succ k =>
    rw [aE_206 (of_decide_eq_true h1)] at h2
    unfold aFn at h2
    obtain ⟨_, i1, _, h2⟩ := on_inr h2
    obtain ⟨_, i2, _, h2⟩ := on_inr h2
    obtain ⟨a, i3, _, h2⟩ := on_inr h2
    injection h2 with h2
    injection h2 with h3 h4
    exact ⟨a, h3.symm⟩
theorem cK_c {c : Nat} (h : cK kk s = nI c) (h0 : 0 < c) (hc : c < 2 ^ 31) : ∃ i, s = .inr i ∧ kk i = nI c := by
  cases s with
  | inl j => exact absurd (nI_inj' (a := 0) (by decide) hc (show nI 0 = nI c from h)) (by omega)
  | inr i => exact ⟨i, rfl, h⟩
theorem kk_lt (h : cV κ sz len cnt kk pp ee f A nq ni rt σ D at' cd cn am bd nf ff) (hi : i ≤ cnt) {c : Nat} (hk : kk i = nI c) (h0 : 0 < c) (hc : c < 2 ^ 31) : i < cnt := by
  by_cases q : i < cnt
  · exact q
  · have : i = cnt := by omega
    rw [this, h.1.2.2.2.2.2.1] at hk
    have := nI_inj' (a := 0) (by decide) hc hk
    omega
/-- lower still -/
theorem cKp.lw (hlow : σ.1 κ.2.2.1 = none) {lo lo' : Nat} (h : lo' ≤ lo) : cKp κ A D lo σ D lo' σ := ⟨fun a w => ⟨rfl, by have := w.1; omega, w.2⟩, fun a gs ea => ⟨gs, ea⟩, fun a gs ea => ⟨gs, ea⟩, hlow⟩
theorem cTr.lw {t : tT} {env : List Nat} {fk k x lo lo' : Nat} {g : Nat → Option Nat} (hlow : σ.1 κ.2.2.1 = none) (hl : lo' ≤ lo) (h : cTr κ T kk pp ee f A D lo σ nm t env fk g k x) : cTr κ T kk pp ee f A D lo' σ nm t env fk g k x := cTr.kp (cKp.lw hlow hl) (P := fun _ => True) (fun _ _ => rfl) _ _ _ _ _ _ (fun _ _ => trivial) (fun _ _ => trivial) (fun _ _ => rfl) h
/-- an E through a reader of its rest -/
theorem c_viaR {mi dp : Nat} {K : Int32} {F : Nat → aR tT} (HR : cRc κ sz T len cnt kk pp ee f A nq ni rt mi dp m K F) (h : cV κ sz len cnt kk pp ee f A nq ni rt σ D at' cd cn am bd nf ff) (v1 : cV κ sz len cnt kk pp ee f A nq ni rt σ1 D at' cd cn am bd nf ff) (r1 : cFr A σ D σ1 D) (n1 : σ1.1 σ.2.1 = some (.inr (7, cNd K (pp at') (nI cd)))) (z1 : σ1.2 = (σ.2.1 + 1, σ.2.2.1 + 1, σ.2.2.2 + 21)) (ho : cO pp cnt at' bd (.inr at')) (hi : at' < cnt) (hcd : cd ≤ 12 + 6 * dp) (hq : cQn pp ee f σ D nm ν cd nf at') : ∃ σ' D' at2 am2 bd2 nf2 ff2 nm' e fs, (ocv (oF κ T m mi [va_rf (some (A 0)), va_rf (some σ.2.1), .int (nI dp)] σ1) fun s => some (some (va_rf (some σ.2.1)), s)) = some (some (va_rf (some e)), σ') ∧ cV κ sz len cnt kk pp ee f A nq ni rt σ' D' at2 cd cn am2 bd2 nf2 ff2 ∧ cL kk pp cnt at2 bd2 (F at').st ∧ cFr A σ D σ' D' ∧ (σ.2.1 ≤ e ∧ σ'.1 e = some (.inr (7, fs)) ∧ fs.length = 21) ∧ cEx 0 0 (svR (F at')) σ D at' (.inr at') σ' D' at2 (F at').st ∧ (∀ t j, F at' = .inr (t, j) → cPo κ T kk pp ee f A σ.2.1 D cd cn ff nm ν σ' D' nf2 ff2 nm' e at' t j) := by
  obtain ⟨σ2, D2, at2, am2, bd2, nf2, ff2, nm2, fs, b1, b2, b3, b4, ⟨b5, b5b⟩, b6, b7⟩ := HR σ1 D at' cd cn am bd nf ff nm ν σ.2.1 v1 ho hi hcd (hq.kf h r1) n1
  rw [b1, ocv_at]
  refine ⟨σ2, D2, at2, am2, bd2, nf2, ff2, nm2, σ.2.1, fs, rfl, b2, b3, ((r1.fe _).tr b4).fr (Nat.le_refl _), ⟨Nat.le_refl _, b5, b5b⟩, ?_, b7⟩
  unfold cEx at b6 ⊢
  have w1 : σ1.2.2.1 = σ.2.2.1 + 1 := by rw [z1]
  have w2 : σ1.2.2.2 = σ.2.2.2 + 21 := by rw [z1]
  omega
/-- a truth, or nil -/
theorem c_cst {K : Int32} {g : Nat} (hm : 1 ≤ m) (hg : (g = 8 ∧ K = 223) ∨ (g = 9 ∧ K = 205) ∨ (g = 17 ∧ K = 216)) (h : cV κ sz len cnt kk pp ee f A nq ni rt σ D at' cd cn am bd nf ff) (v1 : cV κ sz len cnt kk pp ee f A nq ni rt σ1 D at' cd cn am bd nf ff) (r1 : cFr A σ D σ1 D) (n1 : σ1.1 σ.2.1 = some (.inr (7, cNd K (pp at') (nI cd)))) (z1 : σ1.2 = (σ.2.1 + 1, σ.2.2.1 + 1, σ.2.2.2 + 21)) (ho : cO pp cnt at' bd (.inr at')) (hi : at' < cnt) (hq : cQn pp ee f σ D nm ν cd nf at') : ∃ σ' D' at2 am2 bd2 nf2 ff2 nm' e fs, (ocv (oF κ T m 105 [va_rf (some (A 0))] σ1) fun s => some (some (va_rf (some σ.2.1)), s)) = some (some (va_rf (some e)), σ') ∧ cV κ sz len cnt kk pp ee f A nq ni rt σ' D' at2 cd cn am2 bd2 nf2 ff2 ∧ cL kk pp cnt at2 bd2 (.inr (at' + 1)) ∧ cFr A σ D σ' D' ∧ (σ.2.1 ≤ e ∧ σ'.1 e = some (.inr (7, fs)) ∧ fs.length = 21) ∧ cEx 0 0 0 σ D at' (.inr at') σ' D' at2 (.inr (at' + 1)) ∧ cPo κ T kk pp ee f A σ.2.1 D cd cn ff nm ν σ' D' nf2 ff2 nm' e at' (tN g at' 0 0 s0 s0 tZ tZ) (at' + 1) := by
  obtain ⟨σ2, a2, v2, o2, r2, z2, k2⟩ := w_next (κ := κ) (T := T) (n := m) v1 ho hi hm
  rw [a2, ocv_at]
  have n2 := v1.kd r2 n1 (by omega)
  have Q2 := ((hq.kf h r1).kf v1 r2).le (Nat.le_succ _)
  have ok : cOk A D σ.2.1 σ2 σ.2.1 := ⟨Nat.le_refl _, alt v2.1.1.1 n2, cMu.no v2 n2 (by omega)⟩
  refine ⟨σ2, D, at' + 1, am, bd, nf, ff, nm, σ.2.1, _, rfl, v2, Or.inl o2, r1.tr r2, ⟨Nat.le_refl _, n2, rfl⟩, ?_, ?_⟩
  · unfold cEx
    have w1 : σ2.2.2.1 = σ.2.2.1 + 1 := by rw [z2, z1]
    have w2 : σ2.2.2.2 = σ.2.2.2 + 21 := by rw [z2, z1]
    rw [show fl (.inr at') = 0 from rfl, show fl (.inr (at' + 1)) = 0 from rfl]
    omega
  · have hl := hq.1.1
    rcases hg with ⟨rfl, rfl⟩ | ⟨rfl, rfl⟩ | ⟨rfl, rfl⟩
    · exact ⟨⟨ok, by rw [hl]; exact n2⟩, Q2, fun _ _ => rfl, rfl, rfl, fun _ _ => rfl⟩
    · exact ⟨⟨ok, by rw [hl]; exact n2⟩, Q2, fun _ _ => rfl, rfl, rfl, fun _ _ => rfl⟩
    · exact ⟨⟨ok, by rw [hl]; exact n2⟩, Q2, fun _ _ => rfl, rfl, rfl, fun _ _ => rfl⟩
end CRJ
