/-! lists as cells: new, add -/
/-- the list at x: its row of references at d (none while it is empty and new), len of cap places taken, all objects of kind ci -/
def cLs (κ : oKv) (σ : oSt) (x d cap len : Nat) (mc : Int32) (g : Nat → Option Nat) (ci : Nat) : Prop := σ.1 x = some (.inr (1, [.int mc, .ref d, .int (nI len)])) ∧ ((len = 0 ∧ cap = 0 ∧ d = κ.2.2.1 ∧ σ.1 d = none) ∨ (σ.1 d = some (.inl (.object "java/lang/Object", cap, .inr (.inr (.inr (.inr g))))) ∧ len ≤ cap ∧ 10 ≤ cap)) ∧ (∀ j, j < len → ∃ b fs, g j = some b ∧ σ.1 b = some (.inr (ci, fs)))
theorem oq_1 : (oq 1).2.2 = 3 := by decide +kernel
theorem oput_same {σ : oSt} {a : Nat} {c : oC} (h : σ.1 a = some c) : oput σ a c = σ := by
  refine oSt_ext (fun q => ?_) rfl
  by_cases e : q = a
  · rw [e, oput_eq, h]
  · rw [oput_ne e]
theorem orn_at (a : Nat) (s : oSt) (f : Option Nat → oSt → oRs) : orn (some (some (va_rf (some a)), s)) f = f (some a) s := rfl
theorem orn_no (s : oSt) (f : Option Nat → oSt → oRs) : orn (some (some (va_rf none), s)) f = f none s := rfl
theorem oin_at (x : Int32) (s : oSt) (f : Int32 → oSt → oRs) : oin (some (some (.int x), s)) f = f x s := rfl
theorem ocv_at (s : oSt) (f : oSt → oRs) : ocv (some (none, s)) f = f s := rfl
theorem obn_at {α : Type} (a : α) (f : α → oRs) : obn (some a) f = f a := rfl
theorem olet_at (s : oSt) (f : oSt → oRs) : olet s f = f s := rfl
theorem ogd_at {b : Bool} {r : oRs} (h : b = true) : ogd b r = r := if_pos h
section CLS
variable {κ : oKv} {T n x d cap len ci b : Nat} {σ : oSt} {mc : Int32} {g : Nat → Option Nat} {fs : List Value}
/-- new ArrayList() on a new cell -/
theorem l_init (h : σ.1 x = some (.inr (1, odef 1))) : oF κ T (n + 3) 224 [va_rf (some x)] σ = some (none, oput σ x (.inr (1, [.int 0, .ref κ.2.2.1, .int 0]))) := by
  rw [odef_1] at h
  have k1 : oF κ T (n + 1) 226 [va_rf (some x)] σ = some (none, σ) := by
    rw [oE_Jxa1e45_init_da8c8]
    simp only [ob_Jxa1e45_init_da8c8, obn]
  have k2 : oF κ T (n + 2) 225 [va_rf (some x)] σ = some (none, σ) := by
    rw [oE_Jxc12de_init_da8c8]
    simp only [ob_Jxc12de_init_da8c8, obn, k1, ocv, opf_at h (show 0 < 3 by decide), List.set_cons_zero]
    rw [oput_same h]
  rw [oE_Jx4a65c_init_da8c8]
  simp only [ob_Jx4a65c_init_da8c8, obn, k2, ocv, opf_at h (show 1 < 3 by decide), List.set_cons_zero, List.set_cons_succ]
  rfl
theorem ofits_o (h1 : ci < 15) (h2 : ci ≠ 1) : ofits "java/lang/Object" ci = true := by
  unfold ofits
  rw [decide_eq_true h1, decide_eq_true (show "java/lang/Object" = "java/lang/Object" ∧ ci ≠ 1 from ⟨rfl, h2⟩)]
  rfl
theorem nI_sub' {a b : Nat} (h : b ≤ a) : nI a - nI b = nI (a - b) := by
  have e : a = b + (a - b) := by omega
  rw [e, nI_sub]
  rw [show b + (a - b) - b = a - b by omega]
theorem nI_shr1 {c : Nat} (h : c < 2 ^ 31) : nI c >>> (1 &&& 31) = nI (c / 2) := by
  have e : (1 &&& 31 : Int32) = 1 := by decide
  rw [e]
  apply Int32.toInt_inj.mp
  show ((nI c) >>> (1 : Int32)).toBitVec.toInt = _
  rw [Int32.toBitVec_shiftRight, BitVec.sshiftRight_eq', BitVec.toInt_sshiftRight]
  have e2 : ((1 : Int32).toBitVec.smod 32).toNat = 1 := by decide
  rw [e2]
  show (nI c).toInt >>> 1 = _
  rw [nI_toInt h, nI_toInt (show c / 2 < 2 ^ 31 by omega), Int.shiftRight_eq_div_pow]
  omega
/-- the row's own room, and what is put into it -/
theorem l_put {σ : oSt} {d : Nat} {k : Nat} (hd : σ.1 d = some (.inl (.object "java/lang/Object", cap, .inr (.inr (.inr (.inr g)))))) (hx : σ.1 x = some (.inr (1, [.int mc, .ref d, .int (nI len)]))) (hb : σ.1 b = some (.inr (ci, fs))) (h1 : ci < 15) (h2 : ci ≠ 1) (hl : len < cap) (hc : cap < 2 ^ 31) : oj_Jx4a65c_add_72be8_11 T (oF κ T k) κ (some x) (some b) (some d) (nI len) σ = some (none, oput (oput σ d (.inl (.object "java/lang/Object", cap, .inr (.inr (.inr (.inr (va_up g len (some b)))))))) x (.inr (1, [.int mc, .ref d, .int (nI (len + 1))]))) := by
  have hxd : x ≠ d := fun e => by rw [e, hd] at hx; cases hx
  have z1 : zin (nI len) cap = true := zin_n hl hc
  have ef := ofits_o h1 h2
  have hx' : (oput σ d (.inl (.object "java/lang/Object", cap, .inr (.inr (.inr (.inr (va_up g len (some b)))))))).1 x = some (.inr (1, [.int mc, .ref d, .int (nI len)])) := by rw [oput_ne hxd]; exact hx
  unfold oj_Jx4a65c_add_72be8_11
  have e1 : osr σ (some d) (nI len) (some b) = some (oput σ d (.inl (.object "java/lang/Object", cap, .inr (.inr (.inr (.inr (va_up g len (some b)))))))) := by
    simp only [osr, hd, z1, if_true, hb, ef, nI_clamp (show len < 2 ^ 31 by omega)]
  rw [e1]
  simp only [obn, opf_at hx' (show 2 < 3 by decide), List.set_cons_zero, List.set_cons_succ, nI_1]
set_option maxHeartbeats 1000000 in
/-- add(E) -/
theorem l_add (hlow : σ.1 κ.2.2.1 = none) (hk : κ.2.2.1 ≠ σ.2.1) (h : cLs κ σ x d cap len mc g ci) (hb : σ.1 b = some (.inr (ci, fs))) (h1 : ci < 15) (h2 : ci ≠ 1) (hc : cap ≤ 10000) (hfr : σ.1 σ.2.1 = none) : ∃ σ' d' cap' g', oF κ T (n + 6) 227 [va_rf (some x), va_rf (some b)] σ = some (some (.int 1), σ') ∧ cLs κ σ' x d' cap' (len + 1) (mc + 1) g' ci ∧ (∀ j, j < len → g' j = g j) ∧ g' len = some b ∧ (∀ a, a ≠ x → a ≠ d' → σ'.1 a = σ.1 a) ∧ ((d' = d ∧ cap' = cap ∧ σ'.2 = σ.2) ∨ (d' = σ.2.1 ∧ len = cap ∧ (cap = 0 → cap' = 10) ∧ (0 < cap → cap' = cap + cap / 2) ∧ σ'.2 = (σ.2.1 + 1, σ.2.2.1 + 1, σ.2.2.2 + cap'))) := by
  obtain ⟨hx, hd, hg⟩ := h
  have hx3 : ofd σ (some x) 1 0 = some (.int mc) := by rw [ofd_at hx]; rfl
  -- modCount
  have hx' : (oput σ x (.inr (1, [.int (mc + 1), .ref d, .int (nI len)]))).1 x = some (.inr (1, [.int (mc + 1), .ref d, .int (nI len)])) := oput_eq _ _ _
  have hnx : ∀ a, a ≠ x → (oput σ x (.inr (1, [.int (mc + 1), .ref d, .int (nI len)]))).1 a = σ.1 a := fun a e => oput_ne e
  have hs2 : (oput σ x (.inr (1, [.int (mc + 1), .ref d, .int (nI len)]))).2 = σ.2 := rfl
  have hbx : b ≠ x := fun e => by rw [e, hx] at hb; cases hb; exact h2 rfl
  have hxn : x ≠ σ.2.1 := fun e => by rw [← e, hx] at hfr; cases hfr
  have hbn : b ≠ σ.2.1 := fun e => by rw [← e, hb] at hfr; cases hfr
  rw [oE_Jx4a65c_add_9ea2d]
  unfold ob_Jx4a65c_add_9ea2d
  rw [hx3]
  simp only [ovi, obn, opf_at hx (show 0 < 3 by decide), List.set_cons_zero]
  have hb' : (oput σ x (.inr (1, [.int (mc + 1), .ref d, .int (nI len)]))).1 b = some (.inr (ci, fs)) := by rw [hnx b hbx]; exact hb
  have hfr' : (oput σ x (.inr (1, [.int (mc + 1), .ref d, .int (nI len)]))).1 (oput σ x (.inr (1, [.int (mc + 1), .ref d, .int (nI len)]))).2.1 = none := by
    show (oput σ x (.inr (1, [.int (mc + 1), .ref d, .int (nI len)]))).1 σ.2.1 = none
    rw [hnx _ (Ne.symm hxn)]; exact hfr
  have hd' : (len = 0 ∧ cap = 0 ∧ d = κ.2.2.1 ∧ (oput σ x (.inr (1, [.int (mc + 1), .ref d, .int (nI len)]))).1 d = none) ∨ ((oput σ x (.inr (1, [.int (mc + 1), .ref d, .int (nI len)]))).1 d = some (.inl (.object "java/lang/Object", cap, .inr (.inr (.inr (.inr g))))) ∧ len ≤ cap ∧ 10 ≤ cap) := by
    rcases hd with ⟨a1, a2, a3, a4⟩ | ⟨a1, a2⟩
    · exact Or.inl ⟨a1, a2, a3, by rw [hnx d (fun e => by rw [e, hx] at a4; cases a4)]; exact a4⟩
    · exact Or.inr ⟨by rw [hnx d (fun e => by rw [e, hx] at a1; cases a1)]; exact a1, a2⟩
  have hg' : ∀ j, j < len → ∃ b fs, g j = some b ∧ (oput σ x (.inr (1, [.int (mc + 1), .ref d, .int (nI len)]))).1 b = some (.inr (ci, fs)) := fun j hj => by
    obtain ⟨b', fs', e1, e2⟩ := hg j hj
    exact ⟨b', fs', e1, by rw [hnx b' (fun e => by rw [e, hx] at e2; cases e2; exact h2 rfl)]; exact e2⟩
  generalize oput σ x (.inr (1, [.int (mc + 1), .ref d, .int (nI len)])) = σ1 at hx' hnx hs2 hb' hfr' hd' hg' ⊢
  have hnx1 : σ1.2.1 = σ.2.1 := by rw [hs2]
  simp only [ofd_at hx', List.getElem?_cons_zero, List.getElem?_cons_succ, ovr, ovi, oob_at hx', oE_Jx4a65c_add_72be8]
  unfold ob_Jx4a65c_add_72be8
  rcases hd' with ⟨a1, a2, a3, a4⟩ | ⟨a1, a2, a5⟩
  · -- empty and new
    subst a1 a2
    have a4' : σ1.1 κ.2.2.1 = none := a3 ▸ a4
    have e1 : oln2 κ σ1 (some d) = some 0 := by rw [a3]; simp only [oln2, a4', if_true]
    have hxd : x ≠ d := fun e => by rw [← e, hx'] at a4; cases a4
    have G : oF κ T (n + 4) 229 [va_rf (some x)] σ1 = some (some (va_rf (some σ1.2.1)), oput (onew σ1 (.inl (.object "java/lang/Object", 10, .inr (.inr (.inr (.inr (fun _ => none)))))) 10) x (.inr (1, [.int (mc + 1), .ref σ1.2.1, .int (nI 0)]))) := by
      have hx2 : (onew σ1 (.inl (.object "java/lang/Object", 10, .inr (.inr (.inr (.inr (fun _ => none)))))) 10).1 x = some (.inr (1, [.int (mc + 1), .ref d, .int (nI 0)])) := by rw [onew_ne (by rw [hnx1]; exact hxn)]; exact hx'
      rw [oE_Jx4a65c_grow_d5877]
      simp only [ob_Jx4a65c_grow_d5877, ofd_at hx', List.getElem?_cons_zero, List.getElem?_cons_succ, ovi, obn, oob_at hx', oE_Jx4a65c_grow_92f84]
      unfold ob_Jx4a65c_grow_92f84
      simp only [ofd_at hx', List.getElem?_cons_zero, List.getElem?_cons_succ, ovr, obn, e1]
      rw [if_neg (show ¬ (0 : Int32) < 0 by decide), if_pos (by rw [a3])]
      have e2 : (if (10 : Int32) < nI 0 + 1 then nI 0 + 1 else (10 : Int32)) = 10 := by decide
      rw [e2]
      have e3 : onn 10 = true := by decide
      have e4 : (10 : Int32).toNatClampNeg = 10 := by decide
      simp only [ogd, e3, if_true, olet, e4, opf_at hx2 (show 1 < 3 by decide), List.set_cons_zero, List.set_cons_succ, obn, orn, va_rf]
    simp only [e1, obn]
    rw [if_pos (show nI 0 = 0 from rfl), oob_at hx']
    simp only [obn]
    rw [G, orn_at]
    have q1 : (oput (onew σ1 (.inl (.object "java/lang/Object", 10, .inr (.inr (.inr (.inr (fun _ => none)))))) 10) x (.inr (1, [.int (mc + 1), .ref σ1.2.1, .int (nI 0)]))).1 σ1.2.1 = some (.inl (.object "java/lang/Object", 10, .inr (.inr (.inr (.inr (fun _ => none)))))) := by rw [oput_ne (by rw [hnx1]; exact Ne.symm hxn), onew_eq]
    have q2 : (oput (onew σ1 (.inl (.object "java/lang/Object", 10, .inr (.inr (.inr (.inr (fun _ => none)))))) 10) x (.inr (1, [.int (mc + 1), .ref σ1.2.1, .int (nI 0)]))).1 b = some (.inr (ci, fs)) := by rw [oput_ne hbx, onew_ne (by rw [hnx1]; exact hbn)]; exact hb'
    have P := l_put (κ := κ) (T := T) (k := n + 4) q1 (oput_eq _ _ _) q2 h1 h2 (show 0 < 10 by decide) (by decide)
    rw [P]
    refine ⟨_, σ1.2.1, 10, va_up (fun _ => none) 0 (some b), rfl, ⟨oput_eq _ _ _, Or.inr ⟨?_, by omega, by omega⟩, fun j hj => ?_⟩, fun j hj => by omega, ?_, fun a b1 b3 => ?_, Or.inr ⟨hnx1, by simp, fun _ => rfl, fun e => by omega, ?_⟩⟩
    · rw [oput_ne (by rw [hnx1]; exact Ne.symm hxn), oput_eq]
    · have : j = 0 := by omega
      subst this
      refine ⟨b, fs, by simp [va_up], ?_⟩
      rw [oput_ne hbx, oput_ne (by rw [hnx1]; exact hbn)]
      exact q2
    · simp [va_up]
    · rw [oput_ne b1, oput_ne b3, oput_ne b1, onew_ne b3]
      exact hnx a b1
    · show (σ1.2.1 + 1, σ1.2.2.1 + 1, σ1.2.2.2 + 10) = _
      rw [hs2]
  · -- a row is there
    have hxd : x ≠ d := fun e => by rw [← e, hx'] at a1; cases a1
    have hbd : b ≠ d := fun e => by rw [← e, hb'] at a1; cases a1
    have hdn : d ≠ σ.2.1 := fun e => by rw [e, ← hnx1, hfr'] at a1; cases a1
    have e1 : oln2 κ σ1 (some d) = some (nI cap) := by simp only [oln2, a1]; rfl
    simp only [e1, obn]
    by_cases cl : len = cap
    · subst cl
      rw [if_pos rfl, oob_at hx']
      simp only [obn]
      have hx2 : (onew σ1 (.inl (.object "java/lang/Object", len + len / 2, .inr (.inr (.inr (.inr (fun _ => none)))))) (len + len / 2)).1 x = some (.inr (1, [.int (mc + 1), .ref d, .int (nI len)])) := by rw [onew_ne (by rw [hnx1]; exact hxn)]; exact hx'
      have hd2 : (onew σ1 (.inl (.object "java/lang/Object", len + len / 2, .inr (.inr (.inr (.inr (fun _ => none)))))) (len + len / 2)).1 d = some (.inl (.object "java/lang/Object", len, .inr (.inr (.inr (.inr g))))) := by rw [onew_ne (by rw [hnx1]; exact hdn)]; exact a1
      have hn2 : (onew σ1 (.inl (.object "java/lang/Object", len + len / 2, .inr (.inr (.inr (.inr (fun _ => none)))))) (len + len / 2)).1 σ1.2.1 = some (.inl (.object "java/lang/Object", len + len / 2, .inr (.inr (.inr (.inr (fun _ => none)))))) := onew_eq _ _ _
      have hg2 : ∀ j, j < len → ∃ b fs, g j = some b ∧ (onew σ1 (.inl (.object "java/lang/Object", len + len / 2, .inr (.inr (.inr (.inr (fun _ => none)))))) (len + len / 2)).1 b = some (.inr (ci, fs)) := fun j hj => by
        obtain ⟨b', fs', e1, e2⟩ := hg' j hj
        exact ⟨b', fs', e1, by rw [onew_ne (fun e => by rw [e, hfr'] at e2; cases e2)]; exact e2⟩
      have CY : ocy (onew σ1 (.inl (.object "java/lang/Object", len + len / 2, .inr (.inr (.inr (.inr (fun _ => none)))))) (len + len / 2)) (some d) 0 (some σ1.2.1) 0 (nI len) = some (oput (onew σ1 (.inl (.object "java/lang/Object", len + len / 2, .inr (.inr (.inr (.inr (fun _ => none)))))) (len + len / 2)) σ1.2.1 (.inl (.object "java/lang/Object", len + len / 2, .inr (.inr (.inr (.inr (va_cpy g (fun _ => none) 0 0 len))))))) := by
        have ix : oix 0 0 (nI len) len (len + len / 2) = true := by
          unfold oix
          rw [nI_clamp (show len < 2 ^ 31 by omega), show (0 : Int32).toNatClampNeg = 0 by decide, decide_eq_true (show ¬ (0 : Int32) < 0 by decide), decide_eq_true (show ¬ nI len < 0 from nI_pos (by omega)), decide_eq_true (show 0 + len ≤ len by omega), decide_eq_true (show 0 + len ≤ len + len / 2 by omega)]
          rfl
        have fd : ∃ q, (List.range 15).find? (fun c => ofits "java/lang/Object" c && oelm (onew σ1 (.inl (.object "java/lang/Object", len + len / 2, .inr (.inr (.inr (.inr (fun _ => none)))))) (len + len / 2)) g 0 len c) = some q := by
          refine Option.isSome_iff_exists.mp (List.find?_isSome.mpr ⟨ci, List.mem_range.mpr h1, ?_⟩)
          rw [ofits_o h1 h2, Bool.true_and]
          unfold oelm
          refine List.all_eq_true.mpr (fun j hj => ?_)
          obtain ⟨b', fs', e1, e2⟩ := hg2 j (List.mem_range.mp hj)
          simp only [Nat.zero_add, e1, e2, decide_true]
        obtain ⟨q, fd⟩ := fd
        simp only [ocy, hd2, hn2, ix, true_and, if_true, nI_clamp (show len < 2 ^ 31 by omega), show (0 : Int32).toNatClampNeg = 0 by decide, fd]
      have hc2 : len + len / 2 ≤ 15000 := by omega
      have G : oF κ T (n + 4) 229 [va_rf (some x)] σ1 = some (some (va_rf (some σ1.2.1)), oput (oput (onew σ1 (.inl (.object "java/lang/Object", len + len / 2, .inr (.inr (.inr (.inr (fun _ => none)))))) (len + len / 2)) σ1.2.1 (.inl (.object "java/lang/Object", len + len / 2, .inr (.inr (.inr (.inr (va_cpy g (fun _ => none) 0 0 len))))))) x (.inr (1, [.int (mc + 1), .ref σ1.2.1, .int (nI len)]))) := by
        have NL : oF κ T (n + 2) 231 [.int (nI len), .int (nI (len + 1) - nI len), .int (nI len >>> (1 &&& 31))] σ1 = some (some (.int (nI (len + len / 2))), σ1) := by
          rw [nI_sub, nI_shr1 (by omega), oE_J8_newLength_cabcc]
          unfold ob_J8_newLength_cabcc
          rw [if_pos (show nI 1 < nI (len / 2) from nI_lt (by omega) (by omega)), nI_add, if_neg (show ¬ nI (len + len / 2) ≤ 0 from show ¬ nI (len + len / 2) ≤ nI 0 from nI_ge (by omega) (by omega)), if_neg]
          intro e
          have e2 : nI (len + len / 2) ≤ nI 15000 := nI_le hc2 (by decide)
          have e3 : (2147483639 : Int32) < nI 15000 := Int32.lt_of_lt_of_le e e2
          exact absurd e3 (by decide)
        have CO : oF κ T (n + 2) 232 [va_rf (some d), .int (nI (len + len / 2))] σ1 = some (some (va_rf (some σ1.2.1)), oput (onew σ1 (.inl (.object "java/lang/Object", len + len / 2, .inr (.inr (.inr (.inr (fun _ => none)))))) (len + len / 2)) σ1.2.1 (.inl (.object "java/lang/Object", len + len / 2, .inr (.inr (.inr (.inr (va_cpy g (fun _ => none) 0 0 len))))))) := by
          rw [oE_J7_copyOf_1904c]
          have ob : oOb σ1 (some d) = some d := by simp only [oOb, a1, if_true]
          have o1 : onn (nI (len + len / 2)) = true := by
            unfold onn
            rw [nI_clamp (by omega), decide_eq_true (show ¬ nI (len + len / 2) < 0 from nI_pos (by omega)), decide_eq_true (show len + len / 2 ≤ 60000000 by omega)]
            rfl
          have l2 : oln2 κ (onew σ1 (.inl (.object "java/lang/Object", len + len / 2, .inr (.inr (.inr (.inr (fun _ => none)))))) (len + len / 2)) (some d) = some (nI len) := by simp only [oln2, hd2]; rfl
          simp only [ob_J7_copyOf_1904c, ob, obn, oE_J7_copyOf_6403c]
          unfold ob_J7_copyOf_6403c
          simp only [if_true, ogd, o1, olet, nI_clamp (show len + len / 2 < 2 ^ 31 by omega), l2, obn]
          rw [if_neg (show ¬ nI (len + len / 2) < nI len from fun e => by
            have : nI len < nI (len + len / 2) := nI_lt (by omega) (by omega)
            exact Int32.lt_irrefl (Int32.lt_trans e this))]
          rw [CY]
          simp only [orn, va_rf]
        have hx4 : (oput (onew σ1 (.inl (.object "java/lang/Object", len + len / 2, .inr (.inr (.inr (.inr (fun _ => none)))))) (len + len / 2)) σ1.2.1 (.inl (.object "java/lang/Object", len + len / 2, .inr (.inr (.inr (.inr (va_cpy g (fun _ => none) 0 0 len))))))).1 x = some (.inr (1, [.int (mc + 1), .ref d, .int (nI len)])) := by rw [oput_ne (by rw [hnx1]; exact hxn)]; exact hx2
        rw [oE_Jx4a65c_grow_d5877]
        simp only [ob_Jx4a65c_grow_d5877, ofd_at hx', List.getElem?_cons_zero, List.getElem?_cons_succ, ovi, obn, oob_at hx', oE_Jx4a65c_grow_92f84]
        unfold ob_Jx4a65c_grow_92f84
        simp only [ofd_at hx', List.getElem?_cons_zero, List.getElem?_cons_succ, ovr, obn, e1]
        rw [if_pos (show (0 : Int32) < nI len from show nI 0 < nI len from nI_lt (by omega) (by omega)), nI_1]
        unfold oj_Jx4a65c_grow_92f84_20
        simp only [NL, oin, ofd_at hx', List.getElem?_cons_zero, List.getElem?_cons_succ, ovr, obn]
        rw [CO, orn_at]
        have pe : opf (oput (onew σ1 (.inl (.object "java/lang/Object", len + len / 2, .inr (.inr (.inr (.inr (fun _ => none)))))) (len + len / 2)) σ1.2.1 (.inl (.object "java/lang/Object", len + len / 2, .inr (.inr (.inr (.inr (va_cpy g (fun _ => none) 0 0 len))))))) (some x) 1 1 (va_rf (some σ1.2.1)) = some (oput (oput (onew σ1 (.inl (.object "java/lang/Object", len + len / 2, .inr (.inr (.inr (.inr (fun _ => none)))))) (len + len / 2)) σ1.2.1 (.inl (.object "java/lang/Object", len + len / 2, .inr (.inr (.inr (.inr (va_cpy g (fun _ => none) 0 0 len))))))) x (.inr (1, [.int (mc + 1), .ref σ1.2.1, .int (nI len)]))) := opf_at hx4 (show 1 < 3 by decide)
        rw [pe]
        rfl
      rw [G, orn_at]
      have q1 : (oput (oput (onew σ1 (.inl (.object "java/lang/Object", len + len / 2, .inr (.inr (.inr (.inr (fun _ => none)))))) (len + len / 2)) σ1.2.1 (.inl (.object "java/lang/Object", len + len / 2, .inr (.inr (.inr (.inr (va_cpy g (fun _ => none) 0 0 len))))))) x (.inr (1, [.int (mc + 1), .ref σ1.2.1, .int (nI len)]))).1 σ1.2.1 = some (.inl (.object "java/lang/Object", len + len / 2, .inr (.inr (.inr (.inr (va_cpy g (fun _ => none) 0 0 len)))))) := by rw [oput_ne (by rw [hnx1]; exact Ne.symm hxn), oput_eq]
      have hO : ∀ a, a ≠ x → a ≠ σ.2.1 → (oput (oput (onew σ1 (.inl (.object "java/lang/Object", len + len / 2, .inr (.inr (.inr (.inr (fun _ => none)))))) (len + len / 2)) σ1.2.1 (.inl (.object "java/lang/Object", len + len / 2, .inr (.inr (.inr (.inr (va_cpy g (fun _ => none) 0 0 len))))))) x (.inr (1, [.int (mc + 1), .ref σ1.2.1, .int (nI len)]))).1 a = σ1.1 a := fun a b1 b3 => by rw [oput_ne b1, oput_ne (by rw [hnx1]; exact b3), onew_ne (by rw [hnx1]; exact b3)]
      have q2 := (hO b hbx hbn).trans hb'
      have P := l_put (κ := κ) (T := T) (k := n + 4) q1 (oput_eq _ _ _) q2 h1 h2 (show len < len + len / 2 by omega) (by omega)
      rw [P]
      refine ⟨_, σ1.2.1, len + len / 2, va_up (va_cpy g (fun _ => none) 0 0 len) len (some b), rfl, ⟨oput_eq _ _ _, Or.inr ⟨?_, by omega, by omega⟩, fun j hj => ?_⟩, fun j hj => ?_, ?_, fun a b1 b3 => ?_, Or.inr ⟨hnx1, by simp, fun e => by omega, fun _ => rfl, ?_⟩⟩
      · rw [oput_ne (by rw [hnx1]; exact Ne.symm hxn), oput_eq]
      · by_cases ej : j = len
        · subst ej
          refine ⟨b, fs, by simp [va_up], ?_⟩
          rw [oput_ne hbx, oput_ne (by rw [hnx1]; exact hbn)]
          exact q2
        · obtain ⟨b', fs', e1, e2⟩ := hg' j (by omega)
          refine ⟨b', fs', ?_, ?_⟩
          · show (if j = len then some b else if 0 ≤ j ∧ j < 0 + len then g (0 + (j - 0)) else none) = some b'
            rw [if_neg ej, if_pos (by omega), show 0 + (j - 0) = j by omega]
            exact e1
          · have hn1 : b' ≠ x := fun e => by rw [e, hx'] at e2; cases e2; exact h2 rfl
            have hn2 : b' ≠ σ.2.1 := fun e => by rw [e, ← hnx1, hfr'] at e2; cases e2
            rw [oput_ne hn1, oput_ne (by rw [hnx1]; exact hn2), hO b' hn1 hn2]
            exact e2
      · show (if j = len then some b else if 0 ≤ j ∧ j < 0 + len then g (0 + (j - 0)) else none) = g j
        rw [if_neg (by omega), if_pos (by omega), show 0 + (j - 0) = j by omega]
      · simp [va_up]
      · rw [oput_ne b1, oput_ne b3, hO a b1 (by rw [← hnx1]; exact b3)]
        exact hnx a b1
      · show (σ1.2.1 + 1, σ1.2.2.1 + 1, σ1.2.2.2 + (len + len / 2)) = _
        rw [hs2]
    · rw [if_neg (fun e => cl (nI_inj' (by omega) (by omega) e))]
      have P := l_put (κ := κ) (T := T) (k := n + 4) a1 hx' hb' h1 h2 (show len < cap by omega) (by omega)
      rw [P]
      refine ⟨_, d, cap, va_up g len (some b), rfl, ⟨oput_eq _ _ _, Or.inr ⟨?_, by omega, a5⟩, fun j hj => ?_⟩, fun j hj => ?_, ?_, fun a b1 b2 => ?_, Or.inl ⟨rfl, rfl, ?_⟩⟩
      · rw [oput_ne (Ne.symm hxd), oput_eq]
      · by_cases ej : j = len
        · subst ej
          refine ⟨b, fs, by simp [va_up], ?_⟩
          rw [oput_ne hbx, oput_ne hbd]
          exact hb'
        · obtain ⟨b', fs', e1, e2⟩ := hg' j (by omega)
          refine ⟨b', fs', ?_, ?_⟩
          · show (if j = len then some b else g j) = some b'
            rw [if_neg ej]; exact e1
          · rw [oput_ne (fun e => by rw [e, hx'] at e2; cases e2; exact h2 rfl), oput_ne (fun e => by rw [e, a1] at e2; cases e2)]
            exact e2
      · show (if j = len then some b else g j) = g j
        rw [if_neg (by omega)]
      · simp [va_up]
      · rw [oput_ne b1, oput_ne b2]
        exact hnx a b1
      · show σ1.2 = σ.2
        exact hs2
end CLS
