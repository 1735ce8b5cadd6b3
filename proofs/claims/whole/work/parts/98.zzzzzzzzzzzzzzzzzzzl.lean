/-! lists that may hold null: add -/
/-- the list at x, its places null or objects of kind ci -/
def cLo (κ : oKv) (σ : oSt) (x d cap len : Nat) (mc : Int32) (g : Nat → Option Nat) (ci : Nat) : Prop := σ.1 x = some (.inr (1, [.int mc, .ref d, .int (nI len)])) ∧ ((len = 0 ∧ cap = 0 ∧ d = κ.2.2.1 ∧ σ.1 d = none) ∨ (σ.1 d = some (.inl (.object "java/lang/Object", cap, .inr (.inr (.inr (.inr g))))) ∧ len ≤ cap ∧ 10 ≤ cap)) ∧ (∀ j, j < len → ∀ b, g j = some b → ∃ fs, σ.1 b = some (.inr (ci, fs)))
section CLO
variable {κ : oKv} {T n x d cap len ci : Nat} {σ : oSt} {mc : Int32} {g : Nat → Option Nat} {o : Option Nat}
theorem l_putO {σ : oSt} {d : Nat} {k : Nat} (hd : σ.1 d = some (.inl (.object "java/lang/Object", cap, .inr (.inr (.inr (.inr g)))))) (hx : σ.1 x = some (.inr (1, [.int mc, .ref d, .int (nI len)]))) (hb : ∀ b, o = some b → ∃ fs, σ.1 b = some (.inr (ci, fs))) (h1 : ci < 15) (h2 : ci ≠ 1) (hl : len < cap) (hc : cap < 2 ^ 31) : oj_Jx4a65c_add_72be8_11 T (oF κ T k) κ (some x) o (some d) (nI len) σ = some (none, oput (oput σ d (.inl (.object "java/lang/Object", cap, .inr (.inr (.inr (.inr (va_up g len o))))))) x (.inr (1, [.int mc, .ref d, .int (nI (len + 1))]))) := by
  have hxd : x ≠ d := fun e => by rw [e, hd] at hx; cases hx
  have z1 : zin (nI len) cap = true := zin_n hl hc
  have ef := ofits_o h1 h2
  have hx' : (oput σ d (.inl (.object "java/lang/Object", cap, .inr (.inr (.inr (.inr (va_up g len o))))))).1 x = some (.inr (1, [.int mc, .ref d, .int (nI len)])) := by rw [oput_ne hxd]; exact hx
  unfold oj_Jx4a65c_add_72be8_11
  have e1 : osr σ (some d) (nI len) o = some (oput σ d (.inl (.object "java/lang/Object", cap, .inr (.inr (.inr (.inr (va_up g len o))))))) := by
    cases o with
    | none => simp only [osr, hd, z1, if_true, nI_clamp (show len < 2 ^ 31 by omega)]
    | some b =>
      obtain ⟨fs, hb⟩ := hb b rfl
      simp only [osr, hd, z1, if_true, hb, ef, nI_clamp (show len < 2 ^ 31 by omega)]
  rw [e1]
  simp only [obn, opf_at hx' (show 2 < 3 by decide), List.set_cons_zero, List.set_cons_succ, nI_1]
set_option maxHeartbeats 1000000 in
theorem l_addO (hlow : σ.1 κ.2.2.1 = none) (hk : κ.2.2.1 ≠ σ.2.1) (h : cLo κ σ x d cap len mc g ci) (hb : ∀ b, o = some b → ∃ fs, σ.1 b = some (.inr (ci, fs))) (h1 : ci < 15) (h2 : ci ≠ 1) (hc : cap ≤ 30000) (hfr : σ.1 σ.2.1 = none) : ∃ σ' d' cap' g', oF κ T (n + 6) 227 [va_rf (some x), va_rf o] σ = some (some (.int 1), σ') ∧ cLo κ σ' x d' cap' (len + 1) (mc + 1) g' ci ∧ (∀ j, j < len → g' j = g j) ∧ g' len = o ∧ (∀ a, a ≠ x → a ≠ d' → σ'.1 a = σ.1 a) ∧ ((d' = d ∧ cap' = cap ∧ σ'.2 = σ.2) ∨ (d' = σ.2.1 ∧ len = cap ∧ (cap = 0 → cap' = 10) ∧ (0 < cap → cap' = cap + cap / 2) ∧ σ'.2 = (σ.2.1 + 1, σ.2.2.1 + 1, σ.2.2.2 + cap'))) := by
  obtain ⟨hx, hd, hg⟩ := h
  have hx3 : ofd σ (some x) 1 0 = some (.int mc) := by rw [ofd_at hx]; rfl
  -- modCount
  have hx' : (oput σ x (.inr (1, [.int (mc + 1), .ref d, .int (nI len)]))).1 x = some (.inr (1, [.int (mc + 1), .ref d, .int (nI len)])) := oput_eq _ _ _
  have hnx : ∀ a, a ≠ x → (oput σ x (.inr (1, [.int (mc + 1), .ref d, .int (nI len)]))).1 a = σ.1 a := fun a e => oput_ne e
  have hs2 : (oput σ x (.inr (1, [.int (mc + 1), .ref d, .int (nI len)]))).2 = σ.2 := rfl
  have hbx : ∀ b, o = some b → b ≠ x := fun b eo e => by obtain ⟨fs, hb⟩ := hb b eo; rw [e, hx] at hb; cases hb; exact h2 rfl
  have hxn : x ≠ σ.2.1 := fun e => by rw [← e, hx] at hfr; cases hfr
  have hbn : ∀ b, o = some b → b ≠ σ.2.1 := fun b eo e => by obtain ⟨fs, hb⟩ := hb b eo; rw [← e, hb] at hfr; cases hfr
  rw [oE_Jx4a65c_add_9ea2d]
  unfold ob_Jx4a65c_add_9ea2d
  rw [hx3]
  simp only [ovi, obn, opf_at hx (show 0 < 3 by decide), List.set_cons_zero]
  have hb' : ∀ b, o = some b → ∃ fs, (oput σ x (.inr (1, [.int (mc + 1), .ref d, .int (nI len)]))).1 b = some (.inr (ci, fs)) := fun b eo => by rw [hnx b (hbx b eo)]; exact hb b eo
  have hfr' : (oput σ x (.inr (1, [.int (mc + 1), .ref d, .int (nI len)]))).1 (oput σ x (.inr (1, [.int (mc + 1), .ref d, .int (nI len)]))).2.1 = none := by
    show (oput σ x (.inr (1, [.int (mc + 1), .ref d, .int (nI len)]))).1 σ.2.1 = none
    rw [hnx _ (Ne.symm hxn)]; exact hfr
  have hd' : (len = 0 ∧ cap = 0 ∧ d = κ.2.2.1 ∧ (oput σ x (.inr (1, [.int (mc + 1), .ref d, .int (nI len)]))).1 d = none) ∨ ((oput σ x (.inr (1, [.int (mc + 1), .ref d, .int (nI len)]))).1 d = some (.inl (.object "java/lang/Object", cap, .inr (.inr (.inr (.inr g))))) ∧ len ≤ cap ∧ 10 ≤ cap) := by
    rcases hd with ⟨a1, a2, a3, a4⟩ | ⟨a1, a2⟩
    · exact Or.inl ⟨a1, a2, a3, by rw [hnx d (fun e => by rw [e, hx] at a4; cases a4)]; exact a4⟩
    · exact Or.inr ⟨by rw [hnx d (fun e => by rw [e, hx] at a1; cases a1)]; exact a1, a2⟩
  have hg' : ∀ j, j < len → ∀ b, g j = some b → ∃ fs, (oput σ x (.inr (1, [.int (mc + 1), .ref d, .int (nI len)]))).1 b = some (.inr (ci, fs)) := fun j hj b' e1 => by
    obtain ⟨fs', e2⟩ := hg j hj b' e1
    exact ⟨fs', by rw [hnx b' (fun e => by rw [e, hx] at e2; cases e2; exact h2 rfl)]; exact e2⟩
  generalize oput σ x (.inr (1, [.int (mc + 1), .ref d, .int (nI len)])) = σ1 at hx' hnx hs2 hb' hfr' hd' hg' ⊢
  have hnx1 : σ1.2.1 = σ.2.1 := by rw [hs2]
  simp only [ofd_at hx', List.getElem?_cons_zero, List.getElem?_cons_succ, ovr, ovi, oob_at hx', oE_Jx4a65c_add_72be8]
  unfold ob_Jx4a65c_add_72be8
  rcases hd' with ⟨a1, a2, a3, a4⟩ | ⟨a1, a2, a5⟩
  · -- empty and new
    subst a1 a2
    have a4' : σ1.1 κ.2.2.1 = none := a3 ▸ a4
    have e1 : oln2 κ σ1 (some d) = some 0 := by rw [a3]; simp only [oln2, a4', if_true]
    have hxd : x ≠ d := fun e => by rw [← e, hx'] at a4; cases a4
    have G : oF κ T (n + 4) 229 [va_rf (some x)] σ1 = some (some (va_rf (some σ1.2.1)), oput (onew σ1 (.inl (.object "java/lang/Object", 10, .inr (.inr (.inr (.inr (fun _ => none)))))) 10) x (.inr (1, [.int (mc + 1), .ref σ1.2.1, .int (nI 0)]))) := by
      have hx2 : (onew σ1 (.inl (.object "java/lang/Object", 10, .inr (.inr (.inr (.inr (fun _ => none)))))) 10).1 x = some (.inr (1, [.int (mc + 1), .ref d, .int (nI 0)])) := by rw [onew_ne (by rw [hnx1]; exact hxn)]; exact hx'
      rw [oE_Jx4a65c_grow_d5877]
      simp only [ob_Jx4a65c_grow_d5877, ofd_at hx', List.getElem?_cons_zero, List.getElem?_cons_succ, ovi, obn, oob_at hx', oE_Jx4a65c_grow_92f84]
      unfold ob_Jx4a65c_grow_92f84
      simp only [ofd_at hx', List.getElem?_cons_zero, List.getElem?_cons_succ, ovr, obn, e1]
      rw [if_neg (show ¬ (0 : Int32) < 0 by decide), if_pos (by rw [a3])]
      have e2 : (if (10 : Int32) < nI 0 + 1 then nI 0 + 1 else (10 : Int32)) = 10 := by decide
      rw [e2]
      have e3 : onn 10 = true := by decide
      have e4 : (10 : Int32).toNatClampNeg = 10 := by decide
      simp only [ogd, e3, if_true, olet, e4, opf_at hx2 (show 1 < 3 by decide), List.set_cons_zero, List.set_cons_succ, obn, orn, va_rf]
    simp only [e1, obn]
    rw [if_pos (show nI 0 = 0 from rfl), oob_at hx']
    simp only [obn]
    rw [G, orn_at]
    have q1 : (oput (onew σ1 (.inl (.object "java/lang/Object", 10, .inr (.inr (.inr (.inr (fun _ => none)))))) 10) x (.inr (1, [.int (mc + 1), .ref σ1.2.1, .int (nI 0)]))).1 σ1.2.1 = some (.inl (.object "java/lang/Object", 10, .inr (.inr (.inr (.inr (fun _ => none)))))) := by rw [oput_ne (by rw [hnx1]; exact Ne.symm hxn), onew_eq]
    have q2 : ∀ b, o = some b → ∃ fs, (oput (onew σ1 (.inl (.object "java/lang/Object", 10, .inr (.inr (.inr (.inr (fun _ => none)))))) 10) x (.inr (1, [.int (mc + 1), .ref σ1.2.1, .int (nI 0)]))).1 b = some (.inr (ci, fs)) := fun b eo => by rw [oput_ne (hbx b eo), onew_ne (by rw [hnx1]; exact hbn b eo)]; exact hb' b eo
    have P := l_putO (κ := κ) (T := T) (k := n + 4) q1 (oput_eq _ _ _) q2 h1 h2 (show 0 < 10 by decide) (by decide)
    rw [P]
    refine ⟨_, σ1.2.1, 10, va_up (fun _ => none) 0 o, rfl, ⟨oput_eq _ _ _, Or.inr ⟨?_, by omega, by omega⟩, fun j hj b' eb => ?_⟩, fun j hj => by omega, ?_, fun a b1 b3 => ?_, Or.inr ⟨hnx1, by simp, fun _ => rfl, fun e => by omega, ?_⟩⟩
    · rw [oput_ne (by rw [hnx1]; exact Ne.symm hxn), oput_eq]
    · have : j = 0 := by omega
      subst this
      have eo : o = some b' := by simpa [va_up] using eb
      obtain ⟨fs, q⟩ := q2 b' eo
      exact ⟨fs, by rw [oput_ne (hbx b' eo), oput_ne (by rw [hnx1]; exact hbn b' eo)]; exact q⟩
    · simp [va_up]
    · rw [oput_ne b1, oput_ne b3, oput_ne b1, onew_ne b3]
      exact hnx a b1
    · show (σ1.2.1 + 1, σ1.2.2.1 + 1, σ1.2.2.2 + 10) = _
      rw [hs2]
  · -- a row is there
    have hxd : x ≠ d := fun e => by rw [← e, hx'] at a1; cases a1
    have hbd : ∀ b, o = some b → b ≠ d := fun b eo e => by obtain ⟨fs, h⟩ := hb' b eo; rw [← e, h] at a1; cases a1
    have hdn : d ≠ σ.2.1 := fun e => by rw [e, ← hnx1, hfr'] at a1; cases a1
    have e1 : oln2 κ σ1 (some d) = some (nI cap) := by simp only [oln2, a1]; rfl
    simp only [e1, obn]
    by_cases cl : len = cap
    · subst cl
      rw [if_pos rfl, oob_at hx']
      simp only [obn]
      have hx2 : (onew σ1 (.inl (.object "java/lang/Object", len + len / 2, .inr (.inr (.inr (.inr (fun _ => none)))))) (len + len / 2)).1 x = some (.inr (1, [.int (mc + 1), .ref d, .int (nI len)])) := by rw [onew_ne (by rw [hnx1]; exact hxn)]; exact hx'
      have hd2 : (onew σ1 (.inl (.object "java/lang/Object", len + len / 2, .inr (.inr (.inr (.inr (fun _ => none)))))) (len + len / 2)).1 d = some (.inl (.object "java/lang/Object", len, .inr (.inr (.inr (.inr g))))) := by rw [onew_ne (by rw [hnx1]; exact hdn)]; exact a1
      have hn2 : (onew σ1 (.inl (.object "java/lang/Object", len + len / 2, .inr (.inr (.inr (.inr (fun _ => none)))))) (len + len / 2)).1 σ1.2.1 = some (.inl (.object "java/lang/Object", len + len / 2, .inr (.inr (.inr (.inr (fun _ => none)))))) := onew_eq _ _ _
      have hg2 : ∀ j, j < len → ∀ b, g j = some b → ∃ fs, (onew σ1 (.inl (.object "java/lang/Object", len + len / 2, .inr (.inr (.inr (.inr (fun _ => none)))))) (len + len / 2)).1 b = some (.inr (ci, fs)) := fun j hj b' e1 => by
        obtain ⟨fs', e2⟩ := hg' j hj b' e1
        exact ⟨fs', by rw [onew_ne (fun e => by rw [e, hfr'] at e2; cases e2)]; exact e2⟩
      have CY : ocy (onew σ1 (.inl (.object "java/lang/Object", len + len / 2, .inr (.inr (.inr (.inr (fun _ => none)))))) (len + len / 2)) (some d) 0 (some σ1.2.1) 0 (nI len) = some (oput (onew σ1 (.inl (.object "java/lang/Object", len + len / 2, .inr (.inr (.inr (.inr (fun _ => none)))))) (len + len / 2)) σ1.2.1 (.inl (.object "java/lang/Object", len + len / 2, .inr (.inr (.inr (.inr (va_cpy g (fun _ => none) 0 0 len))))))) := by
        have ix : oix 0 0 (nI len) len (len + len / 2) = true := by
          unfold oix
          rw [nI_clamp (show len < 2 ^ 31 by omega), show (0 : Int32).toNatClampNeg = 0 by decide, decide_eq_true (show ¬ (0 : Int32) < 0 by decide), decide_eq_true (show ¬ nI len < 0 from nI_pos (by omega)), decide_eq_true (show 0 + len ≤ len by omega), decide_eq_true (show 0 + len ≤ len + len / 2 by omega)]
          rfl
        have fd : ∃ q, (List.range 15).find? (fun c => ofits "java/lang/Object" c && oelm (onew σ1 (.inl (.object "java/lang/Object", len + len / 2, .inr (.inr (.inr (.inr (fun _ => none)))))) (len + len / 2)) g 0 len c) = some q := by
          refine Option.isSome_iff_exists.mp (List.find?_isSome.mpr ⟨ci, List.mem_range.mpr h1, ?_⟩)
          rw [ofits_o h1 h2, Bool.true_and]
          unfold oelm
          refine List.all_eq_true.mpr (fun j hj => ?_)
          rw [Nat.zero_add]
          cases e1 : g j with
          | none => rfl
          | some b' =>
            obtain ⟨fs', e2⟩ := hg2 j (List.mem_range.mp hj) b' e1
            simp only [e2, decide_true]
        obtain ⟨q, fd⟩ := fd
        simp only [ocy, hd2, hn2, ix, true_and, if_true, nI_clamp (show len < 2 ^ 31 by omega), show (0 : Int32).toNatClampNeg = 0 by decide, fd]
      have hc2 : len + len / 2 ≤ 45000 := by omega
      have G : oF κ T (n + 4) 229 [va_rf (some x)] σ1 = some (some (va_rf (some σ1.2.1)), oput (oput (onew σ1 (.inl (.object "java/lang/Object", len + len / 2, .inr (.inr (.inr (.inr (fun _ => none)))))) (len + len / 2)) σ1.2.1 (.inl (.object "java/lang/Object", len + len / 2, .inr (.inr (.inr (.inr (va_cpy g (fun _ => none) 0 0 len))))))) x (.inr (1, [.int (mc + 1), .ref σ1.2.1, .int (nI len)]))) := by
        have NL : oF κ T (n + 2) 231 [.int (nI len), .int (nI (len + 1) - nI len), .int (nI len >>> (1 &&& 31))] σ1 = some (some (.int (nI (len + len / 2))), σ1) := by
          rw [nI_sub, nI_shr1 (by omega), oE_J8_newLength_cabcc]
          unfold ob_J8_newLength_cabcc
          rw [if_pos (show nI 1 < nI (len / 2) from nI_lt (by omega) (by omega)), nI_add, if_neg (show ¬ nI (len + len / 2) ≤ 0 from show ¬ nI (len + len / 2) ≤ nI 0 from nI_ge (by omega) (by omega)), if_neg]
          intro e
          have e2 : nI (len + len / 2) ≤ nI 45000 := nI_le hc2 (by decide)
          have e3 : (2147483639 : Int32) < nI 45000 := Int32.lt_of_lt_of_le e e2
          exact absurd e3 (by decide)
        have CO : oF κ T (n + 2) 232 [va_rf (some d), .int (nI (len + len / 2))] σ1 = some (some (va_rf (some σ1.2.1)), oput (onew σ1 (.inl (.object "java/lang/Object", len + len / 2, .inr (.inr (.inr (.inr (fun _ => none)))))) (len + len / 2)) σ1.2.1 (.inl (.object "java/lang/Object", len + len / 2, .inr (.inr (.inr (.inr (va_cpy g (fun _ => none) 0 0 len))))))) := by
          rw [oE_J7_copyOf_1904c]
          have ob : oOb σ1 (some d) = some d := by simp only [oOb, a1, if_true]
          have o1 : onn (nI (len + len / 2)) = true := by
            unfold onn
            rw [nI_clamp (by omega), decide_eq_true (show ¬ nI (len + len / 2) < 0 from nI_pos (by omega)), decide_eq_true (show len + len / 2 ≤ 60000000 by omega)]
            rfl
          have l2 : oln2 κ (onew σ1 (.inl (.object "java/lang/Object", len + len / 2, .inr (.inr (.inr (.inr (fun _ => none)))))) (len + len / 2)) (some d) = some (nI len) := by simp only [oln2, hd2]; rfl
          simp only [ob_J7_copyOf_1904c, ob, obn, oE_J7_copyOf_6403c]
          unfold ob_J7_copyOf_6403c
          simp only [if_true, ogd, o1, olet, nI_clamp (show len + len / 2 < 2 ^ 31 by omega), l2, obn]
          rw [if_neg (show ¬ nI (len + len / 2) < nI len from fun e => by
            have : nI len < nI (len + len / 2) := nI_lt (by omega) (by omega)
            exact Int32.lt_irrefl (Int32.lt_trans e this))]
          rw [CY]
          simp only [orn, va_rf]
        have hx4 : (oput (onew σ1 (.inl (.object "java/lang/Object", len + len / 2, .inr (.inr (.inr (.inr (fun _ => none)))))) (len + len / 2)) σ1.2.1 (.inl (.object "java/lang/Object", len + len / 2, .inr (.inr (.inr (.inr (va_cpy g (fun _ => none) 0 0 len))))))).1 x = some (.inr (1, [.int (mc + 1), .ref d, .int (nI len)])) := by rw [oput_ne (by rw [hnx1]; exact hxn)]; exact hx2
        rw [oE_Jx4a65c_grow_d5877]
        simp only [ob_Jx4a65c_grow_d5877, ofd_at hx', List.getElem?_cons_zero, List.getElem?_cons_succ, ovi, obn, oob_at hx', oE_Jx4a65c_grow_92f84]
        unfold ob_Jx4a65c_grow_92f84
        simp only [ofd_at hx', List.getElem?_cons_zero, List.getElem?_cons_succ, ovr, obn, e1]
        rw [if_pos (show (0 : Int32) < nI len from show nI 0 < nI len from nI_lt (by omega) (by omega)), nI_1]
        unfold oj_Jx4a65c_grow_92f84_20
        simp only [NL, oin, ofd_at hx', List.getElem?_cons_zero, List.getElem?_cons_succ, ovr, obn]
        rw [CO, orn_at]
        have pe : opf (oput (onew σ1 (.inl (.object "java/lang/Object", len + len / 2, .inr (.inr (.inr (.inr (fun _ => none)))))) (len + len / 2)) σ1.2.1 (.inl (.object "java/lang/Object", len + len / 2, .inr (.inr (.inr (.inr (va_cpy g (fun _ => none) 0 0 len))))))) (some x) 1 1 (va_rf (some σ1.2.1)) = some (oput (oput (onew σ1 (.inl (.object "java/lang/Object", len + len / 2, .inr (.inr (.inr (.inr (fun _ => none)))))) (len + len / 2)) σ1.2.1 (.inl (.object "java/lang/Object", len + len / 2, .inr (.inr (.inr (.inr (va_cpy g (fun _ => none) 0 0 len))))))) x (.inr (1, [.int (mc + 1), .ref σ1.2.1, .int (nI len)]))) := opf_at hx4 (show 1 < 3 by decide)
        rw [pe]
        rfl
      rw [G, orn_at]
      have q1 : (oput (oput (onew σ1 (.inl (.object "java/lang/Object", len + len / 2, .inr (.inr (.inr (.inr (fun _ => none)))))) (len + len / 2)) σ1.2.1 (.inl (.object "java/lang/Object", len + len / 2, .inr (.inr (.inr (.inr (va_cpy g (fun _ => none) 0 0 len))))))) x (.inr (1, [.int (mc + 1), .ref σ1.2.1, .int (nI len)]))).1 σ1.2.1 = some (.inl (.object "java/lang/Object", len + len / 2, .inr (.inr (.inr (.inr (va_cpy g (fun _ => none) 0 0 len)))))) := by rw [oput_ne (by rw [hnx1]; exact Ne.symm hxn), oput_eq]
      have hO : ∀ a, a ≠ x → a ≠ σ.2.1 → (oput (oput (onew σ1 (.inl (.object "java/lang/Object", len + len / 2, .inr (.inr (.inr (.inr (fun _ => none)))))) (len + len / 2)) σ1.2.1 (.inl (.object "java/lang/Object", len + len / 2, .inr (.inr (.inr (.inr (va_cpy g (fun _ => none) 0 0 len))))))) x (.inr (1, [.int (mc + 1), .ref σ1.2.1, .int (nI len)]))).1 a = σ1.1 a := fun a b1 b3 => by rw [oput_ne b1, oput_ne (by rw [hnx1]; exact b3), onew_ne (by rw [hnx1]; exact b3)]
      have P := l_putO (κ := κ) (T := T) (k := n + 4) q1 (oput_eq _ _ _) (fun b eo => by obtain ⟨fs, h⟩ := hb' b eo; exact ⟨fs, (hO b (hbx b eo) (hbn b eo)).trans h⟩) h1 h2 (show len < len + len / 2 by omega) (by omega)
      rw [P]
      refine ⟨_, σ1.2.1, len + len / 2, va_up (va_cpy g (fun _ => none) 0 0 len) len o, rfl, ⟨oput_eq _ _ _, Or.inr ⟨?_, by omega, by omega⟩, fun j hj b' eb => ?_⟩, fun j hj => ?_, ?_, fun a b1 b3 => ?_, Or.inr ⟨hnx1, by simp, fun e => by omega, fun _ => rfl, ?_⟩⟩
      · rw [oput_ne (by rw [hnx1]; exact Ne.symm hxn), oput_eq]
      · by_cases ej : j = len
        · subst ej
          have eo : o = some b' := by simpa [va_up] using eb
          obtain ⟨fs, q⟩ := hb' b' eo
          exact ⟨fs, by rw [oput_ne (hbx b' eo), oput_ne (by rw [hnx1]; exact hbn b' eo), hO b' (hbx b' eo) (hbn b' eo)]; exact q⟩
        · have e1 : (if j = len then o else if 0 ≤ j ∧ j < 0 + len then g (0 + (j - 0)) else none) = some b' := eb
          rw [if_neg ej, if_pos (by omega), show 0 + (j - 0) = j by omega] at e1
          obtain ⟨fs', e2⟩ := hg' j (by omega) b' e1
          refine ⟨fs', ?_⟩
          · have hn1 : b' ≠ x := fun e => by rw [e, hx'] at e2; cases e2; exact h2 rfl
            have hn2 : b' ≠ σ.2.1 := fun e => by rw [e, ← hnx1, hfr'] at e2; cases e2
            rw [oput_ne hn1, oput_ne (by rw [hnx1]; exact hn2), hO b' hn1 hn2]
            exact e2
      · show (if j = len then o else if 0 ≤ j ∧ j < 0 + len then g (0 + (j - 0)) else none) = g j
        rw [if_neg (by omega), if_pos (by omega), show 0 + (j - 0) = j by omega]
      · simp [va_up]
      · rw [oput_ne b1, oput_ne b3, hO a b1 (by rw [← hnx1]; exact b3)]
        exact hnx a b1
      · show (σ1.2.1 + 1, σ1.2.2.1 + 1, σ1.2.2.2 + (len + len / 2)) = _
        rw [hs2]
    · rw [if_neg (fun e => cl (nI_inj' (by omega) (by omega) e))]
      have P := l_putO (κ := κ) (T := T) (k := n + 4) a1 hx' hb' h1 h2 (show len < cap by omega) (by omega)
      rw [P]
      refine ⟨_, d, cap, va_up g len o, rfl, ⟨oput_eq _ _ _, Or.inr ⟨?_, by omega, a5⟩, fun j hj b' eb => ?_⟩, fun j hj => ?_, ?_, fun a b1 b2 => ?_, Or.inl ⟨rfl, rfl, ?_⟩⟩
      · rw [oput_ne (Ne.symm hxd), oput_eq]
      · by_cases ej : j = len
        · subst ej
          have eo : o = some b' := by simpa [va_up] using eb
          obtain ⟨fs, q⟩ := hb' b' eo
          exact ⟨fs, by rw [oput_ne (hbx b' eo), oput_ne (hbd b' eo)]; exact q⟩
        · have e1 : (if j = len then o else g j) = some b' := eb
          rw [if_neg ej] at e1
          obtain ⟨fs', e2⟩ := hg' j (by omega) b' e1
          refine ⟨fs', ?_⟩
          · rw [oput_ne (fun e => by rw [e, hx'] at e2; cases e2; exact h2 rfl), oput_ne (fun e => by rw [e, a1] at e2; cases e2)]
            exact e2
      · show (if j = len then o else g j) = g j
        rw [if_neg (by omega)]
      · simp [va_up]
      · rw [oput_ne b1, oput_ne b2]
        exact hnx a b1
      · show σ1.2 = σ.2
        exact hs2
end CLO
