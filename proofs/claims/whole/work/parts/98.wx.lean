/-! the class's words: a word is added -/
/-- at a stands a String, its letters at v -/
def oTv (κ : oKv) (σ : oSt) (a v len : Nat) (f : Nat → Int32) : Prop := oSt' κ σ (some a) = some a ∧ ofk κ σ (some a) 0 = some (.ref v) ∧ ofk κ σ (some a) 1 = some (.int 0) ∧ oln2 κ σ (some v) = some (nI len) ∧ len < 2 ^ 31 ∧ ∀ j, j < len → oai8 κ σ (some v) (nI j) = some (f j)
theorem oTv.tx {κ : oKv} {σ : oSt} {a v len : Nat} {f : Nat → Int32} (h : oTv κ σ a v len f) : oTx κ σ (some a) len f := ⟨a, v, h⟩
theorem oTv.keep {κ : oKv} {σ σ' : oSt} {a v len : Nat} {f : Nat → Int32} (h : oTv κ σ a v len f) (h1 : σ'.1 a = σ.1 a) (h2 : σ'.1 v = σ.1 v) : oTv κ σ' a v len f := by
  obtain ⟨g1, g2, g3, g4, g5, g6⟩ := h
  have e1 : oob σ' (some a) 0 = oob σ (some a) 0 := by simp only [oob, h1]
  have e2 : ∀ k, ofd σ' (some a) 0 k = ofd σ (some a) 0 k := fun k => by simp only [ofd, h1]
  have e3 : oln2 κ σ' (some v) = oln2 κ σ (some v) := by simp only [oln2, h2]
  have e4 : ∀ i, oai σ' (some v) .byte i = oai σ (some v) .byte i := fun i => by simp only [oai, h2]
  have e5 : oSt' κ σ' (some a) = oSt' κ σ (some a) := by simp only [oSt', e1]
  have e6 : ∀ k, ofk κ σ' (some a) k = ofk κ σ (some a) k := fun k => by simp only [ofk, e2]
  refine ⟨e5.trans g1, (e6 0).trans g2, (e6 1).trans g3, by rw [e3, g4], g5, fun j hj => ?_⟩
  rw [← g6 j hj]
  simp only [oai8, e4]
/-- the words' object at w, its rows at ka, pa, ea -/
def wSt (σ : oSt) (w ka pa ea r cap : Nat) (kk pp ee : Nat → Int32) (cnt : Nat) (bad : Int32) : oSt := oput (oput (oput (oput σ ka (.inl (.int, cap, .inl kk))) pa (.inl (.int, cap, .inl pp))) ea (.inl (.int, cap, .inl ee))) w (.inr (13, [.ref r, .ref ka, .ref pa, .ref ea, .int (nI cnt), .int bad]))
/-- they are apart -/
def wAp (w ka pa ea r v : Nat) : Prop := ka ≠ pa ∧ ka ≠ ea ∧ pa ≠ ea ∧ w ≠ ka ∧ w ≠ pa ∧ w ≠ ea ∧ r ≠ w ∧ r ≠ ka ∧ r ≠ pa ∧ r ≠ ea ∧ v ≠ w ∧ v ≠ ka ∧ v ≠ pa ∧ v ≠ ea
section OWA
variable {κ : oKv} {ks : Nat → Nat} {T n len sz cap cnt : Nat} {σ : oSt} {w ka pa ea r v : Nat} {f kk pp ee : Nat → Int32} {bad : Int32}
theorem wSt_w : (wSt σ w ka pa ea r cap kk pp ee cnt bad).1 w = some (.inr (13, [.ref r, .ref ka, .ref pa, .ref ea, .int (nI cnt), .int bad])) := oput_eq _ _ _
theorem wSt_e (h : wAp w ka pa ea r v) : (wSt σ w ka pa ea r cap kk pp ee cnt bad).1 ea = some (.inl (.int, cap, .inl ee)) := by
  unfold wSt
  rw [oput_ne (Ne.symm h.2.2.2.2.2.1), oput_eq]
theorem wSt_p (h : wAp w ka pa ea r v) : (wSt σ w ka pa ea r cap kk pp ee cnt bad).1 pa = some (.inl (.int, cap, .inl pp)) := by
  unfold wSt
  rw [oput_ne (Ne.symm h.2.2.2.2.1), oput_ne h.2.2.1, oput_eq]
theorem wSt_k (h : wAp w ka pa ea r v) : (wSt σ w ka pa ea r cap kk pp ee cnt bad).1 ka = some (.inl (.int, cap, .inl kk)) := by
  unfold wSt
  rw [oput_ne (Ne.symm h.2.2.2.1), oput_ne h.2.1, oput_ne h.1, oput_eq]
theorem wSt_o {q : Nat} (h1 : q ≠ w) (h2 : q ≠ ka) (h3 : q ≠ pa) (h4 : q ≠ ea) : (wSt σ w ka pa ea r cap kk pp ee cnt bad).1 q = σ.1 q := by
  unfold wSt
  rw [oput_ne h1, oput_ne h4, oput_ne h3, oput_ne h2]
theorem wSt_sp (h : wAp w ka pa ea r v) (g : Nat → Int32) : oput (wSt σ w ka pa ea r cap kk pp ee cnt bad) pa (.inl (.int, cap, .inl g)) = wSt σ w ka pa ea r cap kk g ee cnt bad := by
  refine oSt_ext (fun q => ?_) rfl
  by_cases e1 : q = pa
  · rw [e1, oput_eq, wSt_p h]
  · rw [oput_ne e1]
    unfold wSt
    by_cases e2 : q = w
    · rw [e2, oput_eq, oput_eq]
    · rw [oput_ne e2, oput_ne e2]
      by_cases e3 : q = ea
      · rw [e3, oput_eq, oput_eq]
      · rw [oput_ne e3, oput_ne e3, oput_ne e1, oput_ne e1]
theorem wSt_se (h : wAp w ka pa ea r v) (g : Nat → Int32) : oput (wSt σ w ka pa ea r cap kk pp ee cnt bad) ea (.inl (.int, cap, .inl g)) = wSt σ w ka pa ea r cap kk pp g cnt bad := by
  refine oSt_ext (fun q => ?_) rfl
  by_cases e1 : q = ea
  · rw [e1, oput_eq, wSt_e h]
  · rw [oput_ne e1]
    unfold wSt
    by_cases e2 : q = w
    · rw [e2, oput_eq, oput_eq]
    · rw [oput_ne e2, oput_ne e2, oput_ne e1, oput_ne e1]
theorem wSt_sk (h : wAp w ka pa ea r v) (g : Nat → Int32) : oput (wSt σ w ka pa ea r cap kk pp ee cnt bad) ka (.inl (.int, cap, .inl g)) = wSt σ w ka pa ea r cap g pp ee cnt bad := by
  refine oSt_ext (fun q => ?_) rfl
  by_cases e1 : q = ka
  · rw [e1, oput_eq, wSt_k h]
  · rw [oput_ne e1]
    unfold wSt
    by_cases e2 : q = w
    · rw [e2, oput_eq, oput_eq]
    · rw [oput_ne e2, oput_ne e2]
      by_cases e3 : q = ea
      · rw [e3, oput_eq, oput_eq]
      · rw [oput_ne e3, oput_ne e3]
        by_cases e4 : q = pa
        · rw [e4, oput_eq, oput_eq]
        · rw [oput_ne e4, oput_ne e4, oput_ne e1, oput_ne e1]
theorem wSt_sw (c2 : Nat) (b2 : Int32) : oput (wSt σ w ka pa ea r cap kk pp ee cnt bad) w (.inr (13, [.ref r, .ref ka, .ref pa, .ref ea, .int (nI c2), .int b2])) = wSt σ w ka pa ea r cap kk pp ee c2 b2 := by
  refine oSt_ext (fun q => ?_) rfl
  unfold wSt
  by_cases e2 : q = w
  · rw [e2, oput_eq, oput_eq]
  · rw [oput_ne e2, oput_ne e2, oput_ne e2]
theorem wSt_tv (hap : wAp w ka pa ea r v) (h : oTv κ σ r v len f) : oTv κ (wSt σ w ka pa ea r cap kk pp ee cnt bad) r v len f := h.keep (wSt_o hap.2.2.2.2.2.2.1 hap.2.2.2.2.2.2.2.1 hap.2.2.2.2.2.2.2.2.1 hap.2.2.2.2.2.2.2.2.2.1) (wSt_o hap.2.2.2.2.2.2.2.2.2.2.1 hap.2.2.2.2.2.2.2.2.2.2.2.1 hap.2.2.2.2.2.2.2.2.2.2.2.2.1 hap.2.2.2.2.2.2.2.2.2.2.2.2.2)
theorem wSt_low (hz : sz ≤ w ∧ sz ≤ ka ∧ sz ≤ pa ∧ sz ≤ ea) (hlow : ∀ a, a < sz → σ.1 a = none) : ∀ a, a < sz → (wSt σ w ka pa ea r cap kk pp ee cnt bad).1 a = none := fun a ha => by
  rw [wSt_o (by omega) (by omega) (by omega) (by omega)]
  exact hlow a ha
/-- the kind of the word from a to e -/
def wKind (T len : Nat) (g : Nat → Int32) (a e : Nat) : Int32 := if bL (g a) = true then kKind g a (e - a) T 200 0 0 else if bD (g a) = true then 2 else if e - a = 2 then dSg len g a else g a
set_option maxHeartbeats 1000000 in
theorem w_add {a e : Nat} (hf : lFacts κ ks sz) (hlow : ∀ a, a < sz → σ.1 a = none) (hz : sz ≤ w ∧ sz ≤ ka ∧ sz ≤ pa ∧ sz ≤ ea) (hap : wAp w ka pa ea r v) (h : oTv κ σ r v len f) (hae : a < e) (he : e ≤ len) (hlen : len ≤ 2000) (hT : 2010 ≤ T) (hcnt : cnt < cap) (hcap : cap ≤ 2001) : oF κ T (n + 7) 170 [va_rf (some w), .int (nI a), .int (nI e)] (wSt σ w ka pa ea r cap kk pp ee cnt bad) = some (none, wSt σ w ka pa ea r cap (upd kk cnt (wKind T len (fun j => f j &&& 255) a e)) (upd pp cnt (nI a)) (upd ee cnt (nI e)) (cnt + 1) bad) := by
  have L : ∀ (kk pp ee : Nat → Int32) (cnt : Nat), oTv κ (wSt σ w ka pa ea r cap kk pp ee cnt bad) r v len f := fun _ _ _ _ => wSt_tv hap h
  have LW : ∀ (kk pp ee : Nat → Int32) (cnt : Nat), ∀ a, a < sz → (wSt σ w ka pa ea r cap kk pp ee cnt bad).1 a = none := fun _ _ _ _ => wSt_low hz hlow
  have D : ∀ (kk pp ee : Nat → Int32) (k : Nat), ofd (wSt σ w ka pa ea r cap kk pp ee cnt bad) (some w) 13 k = [Value.ref r, .ref ka, .ref pa, .ref ea, .int (nI cnt), .int bad][k]? := fun _ _ _ k => ofd_at wSt_w
  have z1 : zin (nI cnt) cap = true := decide_eq_true ⟨by rw [nI_toInt (by omega)]; omega, by rw [nI_toInt (by omega)]; omega⟩
  have OB : ∀ (kk pp ee : Nat → Int32), oob (wSt σ w ka pa ea r cap kk pp ee cnt bad) (some w) 13 = some w := fun _ _ _ => oob_at wSt_w
  have SP : ∀ (kk pp ee : Nat → Int32) (x : Int32), osi (wSt σ w ka pa ea r cap kk pp ee cnt bad) (some pa) .int (nI cnt) x = some (wSt σ w ka pa ea r cap kk (upd pp cnt x) ee cnt bad) := fun kk pp ee x => by rw [osi_at (wSt_p hap) z1, nI_clamp (by omega), wSt_sp hap]
  have SE : ∀ (kk pp ee : Nat → Int32) (x : Int32), osi (wSt σ w ka pa ea r cap kk pp ee cnt bad) (some ea) .int (nI cnt) x = some (wSt σ w ka pa ea r cap kk pp (upd ee cnt x) cnt bad) := fun kk pp ee x => by rw [osi_at (wSt_e hap) z1, nI_clamp (by omega), wSt_se hap]
  have SK : ∀ (kk pp ee : Nat → Int32) (x : Int32), osi (wSt σ w ka pa ea r cap kk pp ee cnt bad) (some ka) .int (nI cnt) x = some (wSt σ w ka pa ea r cap (upd kk cnt x) pp ee cnt bad) := fun kk pp ee x => by rw [osi_at (wSt_k hap) z1, nI_clamp (by omega), wSt_sk hap]
  have fin : ∀ (kk pp ee : Nat → Int32), oj_X11_add_99 T (oF κ T (n + 6)) κ (some w) (wSt σ w ka pa ea r cap kk pp ee cnt bad) = some (none, wSt σ w ka pa ea r cap kk pp ee (cnt + 1) bad) := fun kk pp ee => by
    unfold oj_X11_add_99
    rw [D, show ([Value.ref r, .ref ka, .ref pa, .ref ea, .int (nI cnt), .int bad])[4]? = some (.int (nI cnt)) from rfl]
    simp only [ovi, obn, nI_1]
    rw [opf_at wSt_w (show 4 < 6 by decide)]
    simp only [obn, List.set, wSt_sw]
  have c0 : oSt' κ (wSt σ w ka pa ea r cap kk pp ee cnt bad) (some r) = some r := (L kk pp ee cnt).1
  rw [oE_X11_add]
  unfold ob_X11_add wKind
  simp only [D, List.getElem?_cons_zero, List.getElem?_cons_succ, ovr, ovi, obn, c0, s_chr (n := n + 2) (L kk pp ee cnt).tx (show a < len by omega), oin, SP, SE, w_isL (n := n + 5)]
  cases c1 : bL (f a &&& 255) with
  | true =>
    rw [if_neg (show ¬ b01 true = 0 by decide), if_pos rfl]
    simp only [D, List.getElem?_cons_zero, List.getElem?_cons_succ, ovr, ovi, obn, OB, w_keyword (n := n) hf (LW _ _ _ _) (OB _ _ _) (show ofd _ (some w) 13 0 = some (va_rf (some r)) from D _ _ _ 0) (L _ _ _ _).tx (Nat.le_of_lt hae) he hlen hT, oin, SK]
    exact fin _ _ _
  | false =>
    rw [if_pos (show b01 false = 0 by decide)]
    simp only [w_isD (n := n + 5), oin, Bool.false_eq_true, if_false]
    cases c2 : bD (f a &&& 255) with
    | true =>
      rw [if_neg (show ¬ b01 true = 0 by decide), if_pos rfl]
      simp only [D, List.getElem?_cons_zero, List.getElem?_cons_succ, ovr, ovi, obn, SK]
      exact fin _ _ _
    | false =>
      rw [if_pos (show b01 false = 0 by decide)]
      simp only [D, List.getElem?_cons_zero, List.getElem?_cons_succ, ovr, ovi, obn, pk_sub (Nat.le_of_lt hae), Bool.false_eq_true, if_false]
      by_cases c3 : e - a = 2
      · rw [if_pos (show nI (e - a) = 2 by rw [c3]; rfl), if_pos c3]
        simp only [OB, obn, w_dbl (n := n + 1) (show ofd _ (some w) 13 0 = some (va_rf (some r)) from D _ _ _ 0) (L _ _ _ _).tx (show a < len by omega), oin]
        unfold oj_X11_add_98
        simp only [SK, obn]
        exact fin _ _ _
      · rw [if_neg (show ¬ nI (e - a) = 2 from fun h9 => c3 ((nI_eq (b := 2) (by omega) (by decide)).mp h9)), if_neg c3]
        unfold oj_X11_add_98
        simp only [SK, obn]
        exact fin _ _ _
end OWA
