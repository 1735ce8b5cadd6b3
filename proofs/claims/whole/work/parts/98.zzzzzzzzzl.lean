/-! the class's Octagon: its state, one way more -/
/-- σ with an Octagon at o whose cells lie at ca -/
def gOc (σ : oSt) (o ca len W b : Nat) (cl fa : Int32) (f : Nat → Int64) : oSt := oput (oput σ ca (.inl (.long, len, .inr (.inl f)))) o (.inr (8, [.ref ca, .int (nI W), .int (nI b), .int cl, .int fa]))
section GS
variable {σ : oSt} {o ca len W b : Nat} {cl fa : Int32} {f : Nat → Int64}
theorem gOc_o : (gOc σ o ca len W b cl fa f).1 o = some (.inr (8, [.ref ca, .int (nI W), .int (nI b), .int cl, .int fa])) := oput_eq _ _ _
theorem gOc_ca (h : ca ≠ o) : (gOc σ o ca len W b cl fa f).1 ca = some (.inl (.long, len, .inr (.inl f))) := (oput_ne h).trans (oput_eq _ _ _)
theorem gOc_oth {x : Nat} (h1 : x ≠ o) (h2 : x ≠ ca) : (gOc σ o ca len W b cl fa f).1 x = σ.1 x := (oput_ne h1).trans (oput_ne h2)
theorem gOc_2 : (gOc σ o ca len W b cl fa f).2 = σ.2 := rfl
theorem gOc_f0 : ofd (gOc σ o ca len W b cl fa f) (some o) 8 0 = some (.ref ca) := ofd_at gOc_o
theorem gOc_f1 : ofd (gOc σ o ca len W b cl fa f) (some o) 8 1 = some (.int (nI W)) := ofd_at gOc_o
theorem gOc_f2 : ofd (gOc σ o ca len W b cl fa f) (some o) 8 2 = some (.int (nI b)) := ofd_at gOc_o
theorem gOc_f3 : ofd (gOc σ o ca len W b cl fa f) (some o) 8 3 = some (.int cl) := ofd_at gOc_o
theorem gOc_f4 : ofd (gOc σ o ca len W b cl fa f) (some o) 8 4 = some (.int fa) := ofd_at gOc_o
theorem gOc_ob : oob (gOc σ o ca len W b cl fa f) (some o) 8 = some o := oob_at gOc_o
theorem gOc_j (h : ca ≠ o) {i : Nat} (hi : i < len) (hl : len < 2 ^ 31) : oaj (gOc σ o ca len W b cl fa f) (some ca) (nI i) = some (f i) := by
  simp only [oaj, gOc_ca h, zin_n hi hl, and_self, if_true, nI_clamp (show i < 2 ^ 31 by omega)]
theorem oput_cm {σ : oSt} {a c : Nat} {x y z : oC} (h : a ≠ c) : oput (oput (oput σ a x) c y) a z = oput (oput σ a z) c y := by
  unfold oput
  refine Prod.ext (funext fun k => ?_) rfl
  by_cases h1 : k = a
  · subst h1
    simp [h]
  · simp [h1]
theorem gOc_s (h : ca ≠ o) {i : Nat} (hi : i < len) (hl : len < 2 ^ 31) {v : Int64} : osj (gOc σ o ca len W b cl fa f) (some ca) (nI i) v = some (gOc σ o ca len W b cl fa (vp_updL f i v)) := by
  simp only [osj, gOc_ca h, zin_n hi hl, and_self, if_true, nI_clamp (show i < 2 ^ 31 by omega)]
  unfold gOc
  rw [oput_cm h]
theorem gOc_p4 {v : Int32} : opf (gOc σ o ca len W b cl fa f) (some o) 8 4 (.int v) = some (gOc σ o ca len W b cl v f) := by
  rw [opf_at gOc_o (by simp only [List.length_cons, List.length_nil]; omega)]
  unfold gOc
  rw [oput_oput]
  rfl
theorem gOc_p3 {v : Int32} : opf (gOc σ o ca len W b cl fa f) (some o) 8 3 (.int v) = some (gOc σ o ca len W b v fa f) := by
  rw [opf_at gOc_o (by simp only [List.length_cons, List.length_nil]; omega)]
  unfold gOc
  rw [oput_oput]
  rfl
theorem gOc_p2 {v : Nat} : opf (gOc σ o ca len W b cl fa f) (some o) 8 2 (.int (nI v)) = some (gOc σ o ca len W v cl fa f) := by
  rw [opf_at gOc_o (by simp only [List.length_cons, List.length_nil]; omega)]
  unfold gOc
  rw [oput_oput]
  rfl
theorem gOc_p1 {v : Nat} : opf (gOc σ o ca len W b cl fa f) (some o) 8 1 (.int (nI v)) = some (gOc σ o ca len v b cl fa f) := by
  rw [opf_at gOc_o (by simp only [List.length_cons, List.length_nil]; omega)]
  unfold gOc
  rw [oput_oput]
  rfl
end GS
theorem ix_le {p i W : Nat} (h : p < i) : p * W + W ≤ i * W := by
  have := Nat.mul_le_mul_right W (Nat.succ_le_of_lt h)
  rw [Nat.succ_mul] at this
  exact this
theorem nI3 (b i W j : Nat) : nI b + nI i * nI W + nI j = nI (b + i * W + j) := by
  rw [nI_mul, nI_add, nI_add]
theorem nI2 (b i W : Nat) : nI b + nI i * nI W = nI (b + i * W) := by
  rw [nI_mul, nI_add]
/-- one cell -/
def lSt (way more a b : Int64) : Int64 := if 0 ≤ lg_cmp a 1152921504606846976 then b else if 0 ≤ lg_cmp (way + more + a) b then b else way + more + a
def lRow (b W q i : Nat) (way more : Int64) (f : Nat → Int64) : Nat → Int64 := if 0 ≤ lg_cmp way 1152921504606846976 then f else fun e => if b + i * W ≤ e ∧ e < b + i * W + W then lSt way more (f (b + q * W + (e - (b + i * W)))) (f e) else f e
def lLd (b W p q : Nat) (more : Int64) : Nat → (Nat → Int64) → Nat → Int64
  | 0, f => f
  | i + 1, f => lRow b W q i (lLd b W p q more i f (b + i * W + p)) more (lLd b W p q more i f)
section LD
variable {κ : oKv} {T n o ca len W b p q : Nat} {cl fa : Int32} {more : Int64} {σ : oSt}
theorem c_ld53 {call : oCl} {k16 : Option Nat → Int32 → Int64 → Int32 → Int32 → oSt → oRs} {i : Nat} {way : Int64} (hne : ca ≠ o) (hl : len < 2 ^ 31) (hq : q < W) (hi : i < W) (hm : b + W * W ≤ len) : ∀ (d j t : Nat) (f : Nat → Int64), j + d = W → d < t → ∃ f', ol_X6_lead_53 T call κ k16 t (some o) (nI p) more (nI (b + q * W)) (nI i) (nI (b + i * W)) way (nI j) (gOc σ o ca len W b cl fa f) = k16 (some o) (nI p) more (nI (b + q * W)) (nI (i + 1)) (gOc σ o ca len W b cl fa f') ∧ ∀ e, f' e = if ¬ 0 ≤ lg_cmp way 1152921504606846976 ∧ b + i * W + j ≤ e ∧ e < b + i * W + W then lSt way more (f (b + q * W + (e - (b + i * W)))) (f e) else f e
  | d, j, t, f, hj, ht => by
    obtain ⟨t, rfl⟩ : ∃ t', t = t' + 1 := ⟨t - 1, by omega⟩
    have m1 := ix_le (W := W) hq
    have m2 := ix_le (W := W) hi
    by_cases cw : 0 ≤ lg_cmp way 1152921504606846976
    · refine ⟨f, ?_, fun e => (if_neg (fun w => w.1 cw)).symm⟩
      rw [ol_X6_lead_53, if_pos cw]
      unfold oj_X6_lead_148
      rw [nI_p1]
    · match d, hj, ht with
      | 0, hj, ht =>
        refine ⟨f, ?_, fun e => (if_neg (by omega)).symm⟩
        rw [ol_X6_lead_53, if_neg cw, gOc_f1, ovi_i, obn_at, if_pos (nI_le (by omega) (by have := Nat.le_mul_self W; omega))]
        unfold oj_X6_lead_148
        rw [nI_p1]
      | d + 1, hj, ht =>
        have hWW := Nat.le_mul_self W
        have step : ∃ f1, ol_X6_lead_53 T call κ k16 (t + 1) (some o) (nI p) more (nI (b + q * W)) (nI i) (nI (b + i * W)) way (nI j) (gOc σ o ca len W b cl fa f) = ol_X6_lead_53 T call κ k16 t (some o) (nI p) more (nI (b + q * W)) (nI i) (nI (b + i * W)) way (nI (j + 1)) (gOc σ o ca len W b cl fa f1) ∧ ∀ e, f1 e = if e = b + i * W + j then lSt way more (f (b + q * W + j)) (f e) else f e := by
          rw [ol_X6_lead_53, if_neg cw]
          unfold oj_X6_lead_142
          simp only [gOc_f1, gOc_f0, ovi_i, ovr_rf, obn_at, nI_add, nI_p1, gOc_j hne (show b + q * W + j < len by omega) hl, gOc_j hne (show b + i * W + j < len by omega) hl, gOc_s hne (show b + i * W + j < len by omega) hl]
          rw [if_neg (nI_ge (by omega) (by omega))]
          by_cases c1 : 0 ≤ lg_cmp (f (b + q * W + j)) 1152921504606846976
          · rw [if_pos c1]
            refine ⟨f, rfl, fun e => ?_⟩
            by_cases z : e = b + i * W + j
            · rw [if_pos z, z]; unfold lSt; rw [if_pos c1]
            · rw [if_neg z]
          · rw [if_neg c1]
            by_cases c2 : 0 ≤ lg_cmp (way + more + f (b + q * W + j)) (f (b + i * W + j))
            · rw [if_pos c2]
              refine ⟨f, rfl, fun e => ?_⟩
              by_cases z : e = b + i * W + j
              · rw [if_pos z, z]; unfold lSt; rw [if_neg c1, if_pos c2]
              · rw [if_neg z]
            · rw [if_neg c2]
              refine ⟨_, rfl, fun e => ?_⟩
              rw [vp_L]
              by_cases z : e = b + i * W + j
              · rw [if_pos z, if_pos z, z]; unfold lSt; rw [if_neg c1, if_neg c2]
              · rw [if_neg z, if_neg z]
        obtain ⟨f1, s1, s2⟩ := step
        obtain ⟨f', i1, i2⟩ := c_ld53 (call := call) (k16 := k16) (way := way) hne hl hq hi hm d (j + 1) t f1 (by omega) (by omega)
        refine ⟨f', s1.trans i1, fun e => ?_⟩
        rw [i2 e]
        by_cases z : e = b + i * W + j
        · rw [if_neg (by omega), s2 e, if_pos z, if_pos ⟨cw, by omega, by omega⟩, z, show b + i * W + j - (b + i * W) = j by omega]
        · by_cases c : b + i * W + j ≤ e ∧ e < b + i * W + W
          · rw [if_pos ⟨cw, by omega, by omega⟩, if_pos ⟨cw, c.1, c.2⟩, s2 e, if_neg z, s2 (b + q * W + (e - (b + i * W))), if_neg]
            intro zz
            -- the same cell of row q only where i = q, and then e is that cell
            rcases Nat.lt_trichotomy q i with y | y | y
            · have := ix_le (W := W) y; omega
            · subst y; omega
            · have := ix_le (W := W) y; omega
          · rw [if_neg (by omega), if_neg (by omega), s2 e, if_neg z]
theorem c_ld16 {call : oCl} (hT : 200 ≤ T) (hW : W ≤ 160) (hne : ca ≠ o) (hl : len < 2 ^ 31) (hp : p < W) (hq : q < W) (hm : b + W * W ≤ len) : ∀ (d i t : Nat) (f : Nat → Int64), i + d = W → d < t → ∃ f', ol_X6_lead_16 T call κ t (some o) (nI p) more (nI (b + q * W)) (nI i) (gOc σ o ca len W b cl fa f) = some (none, gOc σ o ca len W b cl fa f') ∧ ∀ f0, lLd b W p q more i f0 = f → lLd b W p q more W f0 = f'
  | 0, i, t, f, hi, ht => by
    obtain ⟨t, rfl⟩ : ∃ t', t = t' + 1 := ⟨t - 1, by omega⟩
    have : i = W := by omega
    subst this
    refine ⟨f, ?_, fun f0 e => e⟩
    rw [ol_X6_lead_16, gOc_f1, ovi_i, obn_at, if_pos (nI_le (by omega) (by omega))]
  | d + 1, i, t, f, hi, ht => by
    obtain ⟨t, rfl⟩ : ∃ t', t = t' + 1 := ⟨t - 1, by omega⟩
    have m2 := ix_le (W := W) (show i < W by omega)
    obtain ⟨f1, s1, s2⟩ := c_ld53 (κ := κ) (T := T) (call := call) (k16 := ol_X6_lead_16 T call κ t) (σ := σ) (b := b) (cl := cl) (fa := fa) (p := p) (more := more) (way := f (b + i * W + p)) hne hl hq (show i < W by omega) hm W 0 T f (Nat.zero_add _) (by omega)
    have e1 : f1 = lRow b W q i (f (b + i * W + p)) more f := funext fun e => by
      rw [s2 e]
      unfold lRow
      by_cases c : 0 ≤ lg_cmp (f (b + i * W + p)) 1152921504606846976
      · rw [if_pos c, if_neg (fun w => w.1 c)]
      · rw [if_neg c]
        by_cases y : b + i * W ≤ e ∧ e < b + i * W + W
        · rw [if_pos ⟨c, by omega, y.2⟩, if_pos y]
        · rw [if_neg (by omega), if_neg y]
    obtain ⟨f', i1, i2⟩ := c_ld16 (call := call) hT hW hne hl hp hq hm d (i + 1) t f1 (by omega) (by omega)
    refine ⟨f', ?_, fun f0 e => i2 f0 (by show lRow b W q i (lLd b W p q more i f0 (b + i * W + p)) more (lLd b W p q more i f0) = _; rw [e, e1])⟩
    rw [ol_X6_lead_16, gOc_f1, ovi_i, obn_at, if_neg (nI_ge (by omega) (by omega)), gOc_f2, ovi_i, obn_at, obn_at, gOc_f0, ovr_rf, obn_at, nI3, gOc_j hne (by omega) hl, obn_at, nI2]
    exact s1.trans i1
/-- lead(p, q, more) -/
theorem c_lead {f : Nat → Int64} (hT : 200 ≤ T) (hW : W ≤ 160) (hne : ca ≠ o) (hl : len < 2 ^ 31) (hp : p < W) (hq : q < W) (hm : b + W * W ≤ len) : oF κ T (n + 1) 42 [va_rf (some o), .int (nI p), .int (nI q), .long more] (gOc σ o ca len W b cl fa f) = some (none, gOc σ o ca len W b cl fa (lLd b W p q more W f)) := by
  rw [oE_X6_lead]
  unfold ob_X6_lead
  rw [gOc_f2, ovi_i, obn_at, gOc_f1, ovi_i, obn_at, nI2]
  obtain ⟨f', i1, i2⟩ := c_ld16 (κ := κ) (call := oF κ T n) (σ := σ) (cl := cl) (fa := fa) (more := more) hT hW hne hl hp hq hm W 0 T f (Nat.zero_add _) (by omega)
  rw [i2 f rfl]
  exact i1
end LD
