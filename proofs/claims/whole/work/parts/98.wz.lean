/-! the class splits its text into words -/
/-- words: kinds, places, ends, how many, and the place of the first that is none (or -1) -/
abbrev wRes : Type := (Nat → Int32) × (Nat → Int32) × (Nat → Int32) × Nat × Int32
def wLex (T len : Nat) (g : Nat → Int32) : Nat → Nat → (Nat → Int32) → (Nat → Int32) → (Nat → Int32) → Nat → wRes
  | 0, _, kk, pp, ee, cnt => (kk, pp, ee, cnt, -1)
  | m + 1, i, kk, pp, ee, cnt => if i < len then (if g i = 32 then wLex T len g m (i + 1) kk pp ee cnt else if g i = 10 then wLex T len g m (i + 1) kk pp ee cnt else if wEnd len g i ≤ i then (kk, pp, ee, cnt, nI i) else wLex T len g m (wEnd len g i) (upd kk cnt (wKind T len g i (wEnd len g i))) (upd pp cnt (nI i)) (upd ee cnt (nI (wEnd len g i))) (cnt + 1)) else (kk, pp, ee, cnt, -1)
theorem wEnd_le {len i : Nat} {g : Nat → Int32} (hi : i < len) : wEnd len g i ≤ len := by
  unfold wEnd
  split
  · split
    · exact wRun_le len g true len (i + 1) (by omega)
    · omega
  · split
    · split
      · exact wRun_le len g false len (i + 1) (by omega)
      · omega
    · split
      · split <;> omega
      next h9 =>
        unfold dSg at h9
        split at h9
        · omega
        · exact absurd rfl h9
theorem nI_m1 (e : Nat) (h : 0 < e) : nI e - 1 + 1 = nI e := by
  obtain ⟨k, rfl⟩ : ∃ k, e = k + 1 := ⟨e - 1, by omega⟩
  rw [nI_pred, nI_1]
section OWZ
variable {κ : oKv} {ks : Nat → Nat} {T n len sz : Nat} {σ : oSt} {w ka pa ea r v : Nat} {f : Nat → Int32}
/-- what the words' object is when they are all read -/
def wFin (σ : oSt) (w ka pa ea r len : Nat) (R : wRes) : oSt := wSt σ w ka pa ea r (len + 1) R.1 (upd R.2.1 R.2.2.2.1 (nI len)) (upd R.2.2.1 R.2.2.2.1 (nI len)) R.2.2.2.1 R.2.2.2.2
set_option maxHeartbeats 2000000 in
theorem w_split_loop (hf : lFacts κ ks sz) (hlow : ∀ a, a < sz → σ.1 a = none) (hz : sz ≤ w ∧ sz ≤ ka ∧ sz ≤ pa ∧ sz ≤ ea) (hap : wAp w ka pa ea r v) (h : oTv κ σ r v len f) (hlen : len ≤ 2000) (hT : 2010 ≤ T) : ∀ (t i : Nat) (kk pp ee : Nat → Int32) (cnt : Nat), cnt ≤ i → i ≤ len → len + 1 < i + t → ol_X11_split_2 T (oF κ T (n + 7)) κ t (some w) (nI i) (wSt σ w ka pa ea r (len + 1) kk pp ee cnt (-1)) = some (none, wFin σ w ka pa ea r len (wLex T len (fun j => f j &&& 255) t i kk pp ee cnt))
  | 0, i, kk, pp, ee, cnt, _, _, ht => by omega
  | t + 1, i, kk, pp, ee, cnt, hci, hi, ht => by
    have L : ∀ (kk pp ee : Nat → Int32) (cnt : Nat) (bad : Int32), oTv κ (wSt σ w ka pa ea r (len + 1) kk pp ee cnt bad) r v len f := fun _ _ _ _ _ => wSt_tv hap h
    have LW : ∀ (kk pp ee : Nat → Int32) (cnt : Nat) (bad : Int32), ∀ a, a < sz → (wSt σ w ka pa ea r (len + 1) kk pp ee cnt bad).1 a = none := fun _ _ _ _ _ => wSt_low hz hlow
    have D : ∀ (kk pp ee : Nat → Int32) (cnt : Nat) (bad : Int32) (k : Nat), ofd (wSt σ w ka pa ea r (len + 1) kk pp ee cnt bad) (some w) 13 k = [Value.ref r, .ref ka, .ref pa, .ref ea, .int (nI cnt), .int bad][k]? := fun _ _ _ _ _ k => ofd_at wSt_w
    have OB : ∀ (kk pp ee : Nat → Int32) (cnt : Nat) (bad : Int32), oob (wSt σ w ka pa ea r (len + 1) kk pp ee cnt bad) (some w) 13 = some w := fun _ _ _ _ _ => oob_at wSt_w
    have ST : ∀ (kk pp ee : Nat → Int32) (cnt : Nat) (bad : Int32), oSt' κ (wSt σ w ka pa ea r (len + 1) kk pp ee cnt bad) (some r) = some r := fun kk pp ee cnt bad => (L kk pp ee cnt bad).1
    have LEN : ∀ (kk pp ee : Nat → Int32) (cnt : Nat) (bad : Int32), oF κ T (n + 7) 207 [va_rf (some r)] (wSt σ w ka pa ea r (len + 1) kk pp ee cnt bad) = some (some (.int (nI len)), wSt σ w ka pa ea r (len + 1) kk pp ee cnt bad) := fun kk pp ee cnt bad => s_len (n := n + 5) (L kk pp ee cnt bad).tx
    have fin : ∀ (kk pp ee : Nat → Int32) (cnt : Nat) (bad : Int32), cnt ≤ len → oj_X11_split_76 T (oF κ T (n + 7)) κ (some w) (wSt σ w ka pa ea r (len + 1) kk pp ee cnt bad) = some (none, wFin σ w ka pa ea r len (kk, pp, ee, cnt, bad)) := fun kk pp ee cnt bad hc => by
      have z1 : zin (nI cnt) (len + 1) = true := decide_eq_true ⟨by rw [nI_toInt (by omega)]; omega, by rw [nI_toInt (by omega)]; omega⟩
      unfold oj_X11_split_76 wFin
      simp only [D, List.getElem?_cons_zero, List.getElem?_cons_succ, ovr, ovi, obn, ST, LEN, oin, osi_at (wSt_p hap) z1, nI_clamp (show cnt < 2 ^ 31 by omega), wSt_sp hap]
      simp only [D, List.getElem?_cons_zero, List.getElem?_cons_succ, ovr, ovi, obn, ST, LEN, oin, osi_at (wSt_e hap) z1, nI_clamp (show cnt < 2 ^ 31 by omega), wSt_se hap]
    rw [ol_X11_split_2, wLex]
    simp only [D, List.getElem?_cons_zero, List.getElem?_cons_succ, ovr, ovi, obn, ST, LEN, oin]
    by_cases c1 : i < len
    · rw [if_neg (nI_ge c1 (by omega)), if_pos c1, if_neg (show ¬ (0 : Int32) ≤ -1 by decide)]
      simp only [s_chr (n := n + 3) (L kk pp ee cnt (-1)).tx c1, oin]
      unfold oj_X11_split_70
      simp only [nI_1]
      by_cases c2 : f i &&& 255 = 32
      · rw [if_pos c2, if_pos c2]
        exact w_split_loop hf hlow hz hap h hlen hT t (i + 1) kk pp ee cnt (by omega) (by omega) (by omega)
      · rw [if_neg c2, if_neg c2]
        by_cases c3 : f i &&& 255 = 10
        · rw [if_pos c3, if_pos c3]
          exact w_split_loop hf hlow hz hap h hlen hT t (i + 1) kk pp ee cnt (by omega) (by omega) (by omega)
        · rw [if_neg c3, if_neg c3]
          have hwe := wEnd_le (g := fun j => f j &&& 255) c1
          simp only [OB, obn, w_end (n := n + 1) hf (LW kk pp ee cnt (-1)) (OB kk pp ee cnt (-1)) (show ofd _ (some w) 13 0 = some (va_rf (some r)) from D _ _ _ _ _ 0) (L kk pp ee cnt (-1)).tx hlen hT c1, oin]
          by_cases c4 : wEnd len (fun j => f j &&& 255) i ≤ i
          · rw [if_pos (nI_le c4 (by omega)), if_pos c4, opf_at wSt_w (show 5 < 6 by decide)]
            simp only [obn, List.set, wSt_sw]
            obtain ⟨t2, rfl⟩ : ∃ t2, t = t2 + 1 := ⟨t - 1, by omega⟩
            rw [ol_X11_split_2]
            simp only [D, List.getElem?_cons_zero, List.getElem?_cons_succ, ovr, ovi, obn, ST, LEN, oin]
            by_cases c5 : i + 1 < len
            · rw [if_neg (nI_ge c5 (by omega)), if_pos (show (0 : Int32) ≤ nI i from nI_pos' (by omega))]
              exact fin _ _ _ _ _ (by omega)
            · rw [if_pos (nI_le (by omega) (by omega))]
              exact fin _ _ _ _ _ (by omega)
          · rw [if_neg (nI_ge (by omega) (by omega)), if_neg c4]
            simp only [w_add (n := n) hf hlow hz hap h (show i < wEnd len (fun j => f j &&& 255) i by omega) hwe hlen hT (show cnt < len + 1 by omega) (show len + 1 ≤ 2001 by omega), ocv, nI_m1 _ (show 0 < wEnd len (fun j => f j &&& 255) i by omega)]
            exact w_split_loop hf hlow hz hap h hlen hT t _ _ _ _ (cnt + 1) (by omega) hwe (by omega)
    · rw [if_pos (nI_le (by omega) (by omega)), if_neg c1]
      exact fin _ _ _ _ _ (by omega)
theorem w_split {kk pp ee : Nat → Int32} (hf : lFacts κ ks sz) (hlow : ∀ a, a < sz → σ.1 a = none) (hz : sz ≤ w ∧ sz ≤ ka ∧ sz ≤ pa ∧ sz ≤ ea) (hap : wAp w ka pa ea r v) (h : oTv κ σ r v len f) (hlen : len ≤ 2000) (hT : 2010 ≤ T) : oF κ T (n + 8) 171 [va_rf (some w)] (wSt σ w ka pa ea r (len + 1) kk pp ee 0 (-1)) = some (none, wFin σ w ka pa ea r len (wLex T len (fun j => f j &&& 255) T 0 kk pp ee 0)) := by
  rw [oE_X11_split]
  unfold ob_X11_split
  exact w_split_loop hf hlow hz hap h hlen hT T 0 kk pp ee 0 (Nat.le_refl _) (Nat.zero_le _) (by omega)
end OWZ
