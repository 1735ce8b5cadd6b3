/-! a String is made out of a row of letters (the class) -/
theorem vnar_b (x : Int32) : vp_nar .byte x.toInt8.toInt32 = x.toInt8.toInt32 := by
  show x.toInt8.toInt32.toInt8.toInt32 = _
  rw [Int8.toInt8_toInt32]
theorem oput_oput (σ : oSt) (a : Nat) (c d : oC) : oput (oput σ a c) a d = oput σ a d := by
  refine oSt_ext (fun q => ?_) rfl
  by_cases e : q = a
  · rw [e, oput_eq, oput_eq]
  · rw [oput_ne e, oput_ne e, oput_ne e]
theorem oput_self {σ : oSt} {a : Nat} {c : oC} (h : σ.1 a = some c) : oput σ a c = σ := by
  refine oSt_ext (fun q => ?_) rfl
  by_cases e : q = a
  · rw [e, oput_eq, h]
  · rw [oput_ne e]
theorem odef_0 : odef 0 = [.null, .int 0, .int 0, .int 0] := by decide +kernel
/-- the letters of g as bytes, from i on -/
def sCp (g h : Nat → Int32) (len i : Nat) : Nat → Int32 := fun j => if i ≤ j ∧ j < len then (g j).toInt8.toInt32 else h j
theorem sCp_step {g h : Nat → Int32} {len i : Nat} (hi : i < len) : sCp g (upd h i (g i).toInt8.toInt32) len (i + 1) = sCp g h len i := by
  funext j
  unfold sCp upd
  by_cases c1 : j = i
  · subst c1
    rw [if_neg (by omega), if_pos rfl, if_pos ⟨by omega, hi⟩]
  · by_cases c2 : i ≤ j ∧ j < len
    · rw [if_pos (by omega), if_pos c2]
    · rw [if_neg (by omega), if_neg c1, if_neg c2]
theorem sCp_end {g h : Nat → Int32} {len : Nat} : sCp g h len len = h := by
  funext j
  unfold sCp
  rw [if_neg (by omega)]
section OSN
variable {κ : oKv} {ks : Nat → Nat} {T n len sz : Nat} {σ : oSt} {c b r : Nat} {g h : Nat → Int32}
theorem s_comp {call : oCl} (hcb : c ≠ b) (hg : ∀ j, j < len → g j ≤ 255) (hlen : len ≤ 2000) : ∀ (t i : Nat) (σ : oSt) (h : Nat → Int32), σ.1 c = some (.inl (.char, len, .inl g)) → σ.1 b = some (.inl (.byte, len, .inl h)) → i ≤ len → len < i + t → ol_J2_compress_fe38e_3 T call κ t (some c) (nI i) (some b) (nI i) (nI len) (nI i) σ = some (some (.int (nI len)), oput σ b (.inl (.byte, len, .inl (sCp g h len i))))
  | 0, i, σ, h, _, _, _, ht => by omega
  | t + 1, i, σ, h, hc, hb, hi, ht => by
    rw [ol_J2_compress_fe38e_3]
    by_cases c1 : i < len
    · have z1 : zin (nI i) len = true := decide_eq_true ⟨by rw [nI_toInt (by omega)]; omega, by rw [nI_toInt (by omega)]; omega⟩
      rw [if_neg (nI_ge c1 (by omega)), oai_at hc z1]
      simp only [obn, nI_clamp (show i < 2 ^ 31 by omega), if_pos (hg i c1), osi_at hb z1, vnar_b, nI_1]
      refine (s_comp hcb hg hlen t (i + 1) _ (upd h i (g i).toInt8.toInt32) ((oput_ne hcb).trans hc) (oput_eq _ _ _) (by omega) (by omega)).trans ?_
      rw [oput_oput, sCp_step c1]
    · have e : i = len := by omega
      subst e
      rw [if_pos (nI_le (Nat.le_refl _) (by omega)), sCp_end, oput_self hb]
/-- the state behind new String(letters): r the String, its bytes at the next address (or those of the empty constant) -/
def sNew (κ : oKv) (σ : oSt) (r len : Nat) (g : Nat → Int32) : oSt := if len = 0 then oput σ r (.inr (0, [.ref (κ.2.1 0), .int 0, .int 0, .int 0])) else oput (onew σ (.inl (.byte, len, .inl (sCp g (fun _ => 0) len 0))) len) r (.inr (0, [.ref σ.2.1, .int 0, .int 0, .int 0]))
theorem onew_eq (σ : oSt) (c : oC) (k : Nat) : (onew σ c k).1 σ.2.1 = some c := by simp [onew]
theorem onew_ne {σ : oSt} {c : oC} {k q : Nat} (h : q ≠ σ.2.1) : (onew σ c k).1 q = σ.1 q := by simp [onew, h]
theorem onew_put (σ : oSt) (c d : oC) (k : Nat) : oput (onew σ c k) σ.2.1 d = onew σ d k := by
  refine oSt_ext (fun q => ?_) rfl
  by_cases e : q = σ.2.1
  · rw [e, oput_eq, onew_eq]
  · rw [oput_ne e, onew_ne e, onew_ne e]
theorem s_new (hf : lFacts κ ks sz) (hlow : ∀ a, a < sz → σ.1 a = none) (hfr : σ.1 σ.2.1 = none) (hr : σ.1 r = some (.inr (0, odef 0))) (hc : σ.1 c = some (.inl (.char, len, .inl g))) (hg : ∀ j, j < len → g j ≤ 255) (hlen : len ≤ 2000) (hT : 2010 ≤ T) : oF κ T (n + 4) 196 [va_rf (some r), va_rf (some c)] σ = some (none, sNew κ σ r len g) := by
  have eln : oln2 κ σ (some c) = some (nI len) := by simp only [oln2, hc]; rfl
  rw [odef_0] at hr
  rw [oE_J0_init_905df]
  unfold ob_J0_init_905df
  rw [eln]
  simp only [obn, oE_J0_init_bb550]
  unfold ob_J0_init_bb550 sNew
  simp only [obn]
  by_cases c0 : len = 0
  · subst c0
    have h0 := oTx_const (i := 0) hf hlow (by decide)
    obtain ⟨a, v, h1, h2, h3, -⟩ := h0
    have hlow0 : σ.1 (κ.1 0) = none := hlow _ (hf.1 0 (by decide)).1
    obtain ⟨j, hj, hj2, hj3⟩ := okA_some (κ := κ) (i := 0) (by decide)
    have k1 : ∀ σ : oSt, σ.1 (κ.1 0) = none → ofk κ σ (some (κ.1 0)) 0 = some (.ref (κ.2.1 0)) := fun σ hs => by
      simp only [ofk, ofd, hs, hj, if_true]
      rw [hf.2.2.1 j 0 hj2 (by decide) hj3]
    have k2 : ∀ σ : oSt, σ.1 (κ.1 0) = none → ofk κ σ (some (κ.1 0)) 1 = some (.int 0) := fun σ hs => by
      simp only [ofk, ofd, hs, hj]
      rfl
    have hne : κ.1 0 ≠ r := fun e => by rw [← e, hlow0] at hr; cases hr
    rw [if_pos (show nI 0 = 0 from rfl), if_pos rfl, k1 σ hlow0]
    simp only [ovr, obn, va_rf, opf_at hr (show 0 < 4 by decide), k2 _ ((oput_ne hne).trans hlow0), ovi, ogd, show oby 0 = true from by decide, if_true, List.set]
    rw [opf_at (oput_eq _ _ _) (show 1 < 4 by decide)]
    simp only [obn, oput_oput, List.set, ocv]
  · have en : ¬ nI len = 0 := fun e => c0 (nI_inj' (b := 0) (by omega) (by omega) e)
    have hcn : c ≠ σ.2.1 := fun e => by rw [e, hfr] at hc; cases hc
    have hrn : r ≠ σ.2.1 := fun e => by rw [e, hfr] at hr; cases hr
    have on : onn (nI len) = true := by
      unfold onn
      rw [decide_eq_true (nI_pos (show len < 2 ^ 31 by omega)), nI_clamp (by omega), decide_eq_true (show len ≤ 60000000 by omega)]
      rfl
    have hcomp : oF κ T (n + 2) 198 [va_rf (some c), .int 0, .int (nI len)] σ = some (some (va_rf (some σ.2.1)), onew σ (.inl (.byte, len, .inl (sCp g (fun _ => 0) len 0))) len) := by
      rw [oE_J2_compress_dfd3c]
      unfold ob_J2_compress_dfd3c
      simp only [ogd, on, if_true, olet, nI_clamp (show len < 2 ^ 31 by omega)]
      rw [oE_J2_compress_fe38e]
      unfold ob_J2_compress_fe38e
      have := s_comp (κ := κ) (T := T) (call := oF κ T n) hcn hg hlen T 0 (onew σ (.inl (.byte, len, .inl (fun _ => 0))) len) (fun _ => 0) ((onew_ne hcn).trans hc) (onew_eq _ _ _) (Nat.zero_le _) (by omega)
      show oin (ol_J2_compress_fe38e_3 T (oF κ T n) κ T (some c) (nI 0) (some σ.2.1) (nI 0) (nI len) (nI 0) (onew σ (.inl (.byte, len, .inl (fun _ => 0))) len)) _ = _
      rw [this]
      simp only [oin, if_true, onew_put]
    rw [if_neg en, if_neg (show ¬ (1 : Int32) = 0 by decide), if_neg c0, hcomp]
    have eln2 : oln2 κ (onew σ (.inl (.byte, len, .inl (sCp g (fun _ => 0) len 0))) len) (some σ.2.1) = some (nI len) := by
      simp only [oln2, onew_eq]; rfl
    have cod : oF κ T (n + 2) 200 [va_rf (some σ.2.1), .int (nI len)] (onew σ (.inl (.byte, len, .inl (sCp g (fun _ => 0) len 0))) len) = some (some (.int 0), onew σ (.inl (.byte, len, .inl (sCp g (fun _ => 0) len 0))) len) := by
      rw [oE_J2_coderFromArrayLen_85cad]
      unfold ob_J2_coderFromArrayLen_85cad
      rw [eln2]
      simp only [obn, Int32.sub_self]
      rfl
    simp only [orn, va_rf] at cod ⊢
    rw [cod]
    have hr2 : (onew σ (.inl (.byte, len, .inl (sCp g (fun _ => 0) len 0))) len).1 r = some (.inr (0, [.null, .int 0, .int 0, .int 0])) := (onew_ne hrn).trans hr
    simp only [oin, ogd, show oby 0 = true from by decide, if_true, opf_at hr2 (show 1 < 4 by decide), obn, List.set]
    rw [opf_at (oput_eq _ _ _) (show 0 < 4 by decide)]
    simp only [obn, oput_oput, List.set, ocv]
end OSN
