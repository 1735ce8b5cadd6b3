/-! the reference: counts, uses -/
/-- the word of told number d -/
def kW (L : List Nat) (d : Nat) : Nat := L.getD d 0
def kAny (f pp ee : Nat → Int32) (L l : List Nat) (w : Nat) : Bool := l.any (fun u => wEq f pp ee (kW L u) w)
def kEnd (pp : Nat → Int32) (d : Nat) (q : kSt) : kSt := (q.1 ++ [d], (if q.1.length < 12 then q else kBad pp (kW q.2.1 d) q).2)
def kCnt (f pp ee : Nat → Int32) (d : Nat) (q : kSt) : kSt := kEnd pp d (if kAny f pp ee q.2.1 q.1 (kW q.2.1 d) = true then kBad pp (kW q.2.1 d) q else q)
/-- numbers and words in range -/
def kOk (cnt : Nat) (q : kSt) : Prop := (∀ w ∈ q.2.1, w < cnt) ∧ (∀ d ∈ q.1, d < q.2.1.length) ∧ q.2.1.length ≤ 700
section KRC
variable {ks : Nat → Nat} {qs : List Nat} {T n h0 len cnt : Nat} {τ : zSt} {kk pp ee f : Nat → Int32} {q : kSt}
theorem kOk.w (h : kOk cnt q) {d : Nat} (hd : d < q.2.1.length) : q.2.1[d]? = some (kW q.2.1 d) ∧ kW q.2.1 d < cnt := by
  have e : q.2.1[d]? = some (kW q.2.1 d) := by
    unfold kW
    rw [List.getD_eq_getElem?_getD, List.getElem?_eq_getElem hd]
    rfl
  exact ⟨e, h.1 _ (List.mem_of_getElem? e)⟩
theorem r_cntE {d : Nat} (hw : rW τ T len cnt kk pp ee f) (h : kR τ q) (ho : kOk cnt q) (hd : d < q.2.1.length) (hE : q.1.length < 400) : ∃ τ', j_counts_53 T (zF h0 qs ks T (n + 1)) h0 qs ks (nI d) τ = some (none, τ') ∧ kR τ' (kEnd pp d q) ∧ kFm τ τ' := by
  have hL := ho.2.2
  obtain ⟨e1, e2⟩ := ho.w hd
  have fin : ∀ (υ : zSt) (p : kSt), kR υ p → p.1 = q.1 → ∃ τ', j_counts_72 T (zF h0 qs ks T (n + 1)) h0 qs ks (nI d) υ = some (none, τ') ∧ kR τ' (q.1 ++ [d], p.2) ∧ kFm υ τ' := fun υ p hp ep => by
    obtain ⟨⟨h1, h2⟩, ⟨h3, h4⟩, h5, h6⟩ := hp
    rw [ep] at h3 h4
    unfold j_counts_72
    simp only [zgd, zlet, h3, zin_n hE (by decide), if_true, nI_clamp (show q.1.length < 2 ^ 31 by omega)]
    refine ⟨zI (zA υ 33 (upd (υ.2.2.1 33) q.1.length (nI d))) 51 (υ.1 51 + 1), rfl, ⟨⟨h1, h2⟩, ⟨?_, fun i u e => ?_⟩, h5, h6⟩, ⟨fun k _ c _ => if_neg c, rfl, fun k _ _ c => if_neg c, rfl⟩⟩
    · show υ.1 51 + 1 = nI (q.1 ++ [d]).length
      rw [h3, List.length_append]
      exact nI_add _ 1 ▸ rfl
    · show upd (υ.2.2.1 33) q.1.length (nI d) i = nI u
      by_cases c : i < q.1.length
      · rw [upd_ne _ _ (by omega)]
        exact h4 i u (by rw [← e]; exact (List.getElem?_append_left c).symm)
      · have e' : (q.1 ++ [d])[i]? = some u := e
        rw [List.getElem?_append_right (by omega)] at e'
        have : i = q.1.length := by
          by_cases c2 : i - q.1.length = 0
          · omega
          · rw [List.getElem?_eq_none (by simp; omega)] at e'; cases e'
        subst this
        rw [Nat.sub_self] at e'
        injection e' with e'
        rw [upd_at, ← e']
  unfold j_counts_53 kEnd
  rw [h.2.1.1]
  by_cases c : q.1.length < 12
  · rw [if_pos (show nI q.1.length < 12 from (Int32.lt_iff_toInt_lt.mpr (by rw [nI_toInt (by omega)]; show _ < (12 : Int); omega))), if_pos c]
    exact fin τ q h rfl
  · rw [if_neg (show ¬ nI q.1.length < 12 from fun z => by have := Int32.lt_iff_toInt_lt.mp z; rw [nI_toInt (by omega)] at this; have : ((q.1.length : Nat) : Int) < (12 : Int) := this; omega), if_neg c]
    obtain ⟨υ, u1, u2, u3⟩ := r_wrong (n := n) (h0 := h0) (qs := qs) (ks := ks) hw h e2
    simp only [zgd, zin_n (show d < 700 by omega) (by decide), if_true, nI_clamp (show d < 2 ^ 31 by omega), h.1.2 d _ e1, u1, zcv]
    obtain ⟨τ', t1, t2, t3⟩ := fin υ _ u2 rfl
    exact ⟨τ', t1, t2, u3.tr t3⟩
/-- counts(d) -/
theorem r_cntL {d : Nat} (hT : 2010 ≤ T) (hw : rW τ T len cnt kk pp ee f) (h : kR τ q) (ho : kOk cnt q) (hd : d < q.2.1.length) (hE : q.1.length < 400) : ∀ (t i : Nat), i ≤ q.1.length → q.1.length < i + t → ∃ τ', l_counts_2 T (zF h0 qs ks T (n + 1)) h0 qs ks t (nI d) (nI i) τ = some (none, τ') ∧ kR τ' (kEnd pp d (if kAny f pp ee q.2.1 (q.1.drop i) (kW q.2.1 d) = true then kBad pp (kW q.2.1 d) q else q)) ∧ kFm τ τ'
  | 0, i, _, ht => by omega
  | t + 1, i, hi, ht => by
    have hL := ho.2.2
    obtain ⟨e1, e2⟩ := ho.w hd
    rw [l_counts_2, h.2.1.1]
    by_cases c : i < q.1.length
    · have e3 : q.1[i]? = some q.1[i] := List.getElem?_eq_getElem c
      have e4 : q.1[i] < q.2.1.length := ho.2.1 _ (List.getElem_mem c)
      obtain ⟨e5, e6⟩ := ho.w e4
      rw [if_neg (nI_ge c (by omega)), List.drop_eq_getElem_cons c]
      simp only [zgd, zin_n (show i < 400 by omega) (by decide), zin_n (show q.1[i] < 700 by omega) (by decide), zin_n (show d < 700 by omega) (by decide), if_true, nI_clamp (show i < 2 ^ 31 by omega), nI_clamp (show d < 2 ^ 31 by omega), nI_clamp (show q.1[i] < 2 ^ 31 by omega), h.2.1.2 i _ e3, h.1.2 _ _ e5, h.1.2 d _ e1, r_sameW hT hw e6 e2, zci]
      have ka : kAny f pp ee q.2.1 (q.1[i] :: q.1.drop (i + 1)) (kW q.2.1 d) = (wEq f pp ee (kW q.2.1 q.1[i]) (kW q.2.1 d) || kAny f pp ee q.2.1 (q.1.drop (i + 1)) (kW q.2.1 d)) := rfl
      by_cases hq : wEq f pp ee (kW q.2.1 q.1[i]) (kW q.2.1 d) = true
      · obtain ⟨υ, u1, u2, u3⟩ := r_wrong (n := n) (h0 := h0) (qs := qs) (ks := ks) hw h e2
        rw [if_neg (by rw [hq]; decide), u1]
        simp only [zcv]
        obtain ⟨τ', t1, t2, t3⟩ := r_cntE (n := n) (h0 := h0) (qs := qs) (ks := ks) (u3.rw hw) u2 (show kOk cnt (kBad pp (kW q.2.1 d) q) from ho) hd hE
        refine ⟨τ', t1, ?_, u3.tr t3⟩
        rw [if_pos (by rw [ka, hq]; rfl)]
        exact t2
      · have hq' : wEq f pp ee (kW q.2.1 q.1[i]) (kW q.2.1 d) = false := by simpa using hq
        obtain ⟨τ', t1, t2, t3⟩ := r_cntL hT hw h ho hd hE t (i + 1) (by omega) (by omega)
        rw [if_pos (by rw [hq']; rfl)]
        refine ⟨τ', ?_, ?_, t3⟩
        · rw [← t1, ← nI_add i 1]; rfl
        · rw [ka, hq', Bool.false_or]; exact t2
    · rw [if_pos (nI_le (by omega) (by omega)), List.drop_eq_nil_of_le (by omega)]
      exact r_cntE hw h ho hd hE
theorem r_counts {d : Nat} (hT : 2010 ≤ T) (hw : rW τ T len cnt kk pp ee f) (h : kR τ q) (ho : kOk cnt q) (hd : d < q.2.1.length) (hE : q.1.length < 400) : ∃ τ', zF h0 qs ks T (n + 2) 34 [.ref h0, .int (nI d)] τ = some (none, τ') ∧ kR τ' (kCnt f pp ee d q) ∧ kFm τ τ' := by
  rw [zE_counts]
  exact r_cntL hT hw h ho hd hE T 0 (Nat.zero_le _) (by omega)
end KRC
