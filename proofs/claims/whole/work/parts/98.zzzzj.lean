/-! the class's types: its object and its rows -/
def yO (A : Nat → Nat) (cnt lv ft ov : Int32) : List Value := [.ref (A 0), .ref (A 1), .ref (A 2), .ref (A 3), .ref (A 4), .ref (A 5), .int cnt, .int lv, .int ft, .int ov]
def yN (mo i : Nat) : Nat := if i = 5 then 3 * mo else mo
/-- the object at y, its rows at A: kinds, takes, answers, same, colours, work -/
def yT (y : Nat) (A : Nat → Nat) (mo : Nat) (F : Nat → Nat → Int32) (cnt lv ft ov : Int32) (σ : oSt) : Prop := σ.1 y = some (.inr (12, yO A cnt lv ft ov)) ∧ (∀ i, i < 6 → σ.1 (A i) = some (.inl (.int, yN mo i, .inl (F i)))) ∧ ((∀ i, i < 6 → A i ≠ y) ∧ ∀ i j, i < 6 → j < 6 → A i = A j → i = j) ∧ 8 ≤ mo ∧ mo ≤ 8008
/-- all else is as it was -/
def yF (y : Nat) (A : Nat → Nat) (σ σ' : oSt) : Prop := (∀ p, p ≠ y → (∀ i, i < 6 → p ≠ A i) → σ'.1 p = σ.1 p) ∧ σ'.2 = σ.2 ∧ ∀ p, σ.1 p = none → σ'.1 p = none
def yU (F : Nat → Nat → Int32) (i t : Nat) (v : Int32) : Nat → Nat → Int32 := fun k => if k = i then upd (F i) t v else F k
theorem yU_at (F : Nat → Nat → Int32) (i t : Nat) (v : Int32) : yU F i t v i = upd (F i) t v := if_pos rfl
theorem yU_ne (F : Nat → Nat → Int32) {i j : Nat} (t : Nat) (v : Int32) (h : j ≠ i) : yU F i t v j = F j := if_neg h
section CTY
variable {κ : oKv} {T n mo y : Nat} {A : Nat → Nat} {F : Nat → Nat → Int32} {cnt lv ft ov : Int32} {σ σ' σ'' : oSt}
theorem yF.rf (y : Nat) (A : Nat → Nat) (σ : oSt) : yF y A σ σ := ⟨fun _ _ _ => rfl, rfl, fun _ h => h⟩
theorem yF.tr (h : yF y A σ σ') (g : yF y A σ' σ'') : yF y A σ σ'' := ⟨fun p a b => (g.1 p a b).trans (h.1 p a b), g.2.1.trans h.2.1, fun p hp => g.2.2 p (h.2.2 p hp)⟩
theorem yN_le (mo i : Nat) : mo ≤ yN mo i := by unfold yN; split <;> omega
theorem yT.rd (h : yT y A mo F cnt lv ft ov σ) {i t : Nat} (hi : i < 6) (ht : t < yN mo i) : oai σ (some (A i)) .int (nI t) = some (F i t) := by
  have l : yN mo i ≤ 3 * mo := by unfold yN; split <;> omega
  have := h.2.2.2
  rw [oai_at (h.2.1 i hi) (zin_n ht (by omega)), nI_clamp (by omega)]
theorem yT.wr (h : yT y A mo F cnt lv ft ov σ) {i t : Nat} (hi : i < 6) (ht : t < yN mo i) (v : Int32) : ∃ σ', osi σ (some (A i)) .int (nI t) v = some σ' ∧ yT y A mo (yU F i t v) cnt lv ft ov σ' ∧ yF y A σ σ' := by
  have l : yN mo i ≤ 3 * mo := by unfold yN; split <;> omega
  obtain ⟨h1, h2, ⟨h3, h4⟩, h5⟩ := h
  refine ⟨oput σ (A i) (.inl (.int, yN mo i, .inl (upd (F i) t v))), by rw [osi_at (h2 i hi) (zin_n ht (by omega)), nI_clamp (by omega)], ⟨(oput_ne (fun e => h3 i hi e.symm)).trans h1, fun j hj => ?_, ⟨h3, h4⟩, h5⟩, ⟨fun p a b => oput_ne (b i hi), rfl, fun p hp => (oput_ne (fun e => by rw [e, h2 i hi] at hp; cases hp)).trans hp⟩⟩
  by_cases c : j = i
  · subst c
    rw [oput_eq, yU_at]
  · rw [oput_ne (fun e => c (h4 j i hj hi e)), yU_ne _ _ _ c]
    exact h2 j hj
theorem yT.ob (h : yT y A mo F cnt lv ft ov σ) : oob σ (some y) 12 = some y := oob_at h.1
theorem yT.row (h : yT y A mo F cnt lv ft ov σ) : ovr (ofd σ (some y) 12 0) = some (some (A 0)) ∧ ovr (ofd σ (some y) 12 1) = some (some (A 1)) ∧ ovr (ofd σ (some y) 12 2) = some (some (A 2)) ∧ ovr (ofd σ (some y) 12 3) = some (some (A 3)) ∧ ovr (ofd σ (some y) 12 4) = some (some (A 4)) ∧ ovr (ofd σ (some y) 12 5) = some (some (A 5)) ∧ ovi (ofd σ (some y) 12 6) = some cnt ∧ ovi (ofd σ (some y) 12 7) = some lv ∧ ovi (ofd σ (some y) 12 8) = some ft ∧ ovi (ofd σ (some y) 12 9) = some ov := by
  simp only [ofd_at h.1]
  exact ⟨rfl, rfl, rfl, rfl, rfl, rfl, rfl, rfl, rfl, rfl⟩
/-- its fields -/
theorem yT.put (h : yT y A mo F cnt lv ft ov σ) (cnt' lv' ft' ov' : Int32) : yT y A mo F cnt' lv' ft' ov' (oput σ y (.inr (12, yO A cnt' lv' ft' ov'))) ∧ yF y A σ (oput σ y (.inr (12, yO A cnt' lv' ft' ov'))) := by
  obtain ⟨h1, h2, ⟨h3, h4⟩, h5⟩ := h
  exact ⟨⟨oput_eq _ _ _, fun i hi => (oput_ne (h3 i hi)).trans (h2 i hi), ⟨h3, h4⟩, h5⟩, ⟨fun p a b => oput_ne a, rfl, fun p hp => (oput_ne (fun e => by rw [e, h1] at hp; cases hp)).trans hp⟩⟩
theorem yT.p6 (h : yT y A mo F cnt lv ft ov σ) (v : Int32) : opf σ (some y) 12 6 (.int v) = some (oput σ y (.inr (12, yO A v lv ft ov))) := opf_at h.1 (by show 6 < 10; omega)
theorem yT.p7 (h : yT y A mo F cnt lv ft ov σ) (v : Int32) : opf σ (some y) 12 7 (.int v) = some (oput σ y (.inr (12, yO A cnt v ft ov))) := opf_at h.1 (by show 7 < 10; omega)
theorem yT.p8 (h : yT y A mo F cnt lv ft ov σ) (v : Int32) : opf σ (some y) 12 8 (.int v) = some (oput σ y (.inr (12, yO A cnt lv v ov))) := opf_at h.1 (by show 8 < 10; omega)
theorem yT.p9 (h : yT y A mo F cnt lv ft ov σ) (v : Int32) : opf σ (some y) 12 9 (.int v) = some (oput σ y (.inr (12, yO A cnt lv ft v))) := opf_at h.1 (by show 9 < 10; omega)
theorem yT.ln (h : yT y A mo F cnt lv ft ov σ) {i : Nat} (hi : i < 6) : oln2 κ σ (some (A i)) = some (nI (yN mo i)) := by
  unfold oln2
  simp only [h.2.1 i hi]
  rfl
/-- make(kind) -/
theorem c_make {c : Nat} (h : yT y A mo F (nI c) lv ft ov σ) (hc : c ≤ mo) (x : Int32) : ∃ σ', oF κ T (n + 1) 146 [va_rf (some y), .int x] σ = some (some (.int (if c = mo then 0 else nI c)), σ') ∧ yT y A mo (if c = mo then F else yU (yU F 0 c x) 3 c (nI c)) (nI (if c = mo then c else c + 1)) lv ft ov σ' ∧ yF y A σ σ' := by
  have hm := h.2.2.2
  have e0 : yN mo 0 = mo := rfl
  have r := h.row
  rw [oE_X10_make]
  unfold ob_X10_make
  simp only [r.2.2.2.2.2.2.1, r.1, obn_at, h.ln (κ := κ) (i := 0) (by decide), e0]
  by_cases e : c = mo
  · rw [if_pos (by rw [e]), if_pos e, if_pos e, if_pos e]
    exact ⟨σ, rfl, h, yF.rf y A σ⟩
  · rw [if_neg (fun z => e (nI_inj' (by omega) (by omega) z)), if_neg e, if_neg e, if_neg e]
    obtain ⟨s1, w1, w2, w3⟩ := h.wr (i := 0) (t := c) (by decide) (by rw [e0]; omega) x
    have r1 := w2.row
    obtain ⟨s2, v1, v2, v3⟩ := w2.wr (i := 3) (t := c) (by decide) (by show c < mo; omega) (nI c)
    have r2 := v2.row
    obtain ⟨u1, u2⟩ := v2.put (nI c + 1) lv ft ov
    have r3 := u1.row
    have pl : nI c + 1 = nI (c + 1) := nI_add c 1 ▸ rfl
    rw [w1, obn_at, r1.2.2.2.1, obn_at, r1.2.2.2.2.2.2.1, obn_at, obn_at, v1, obn_at, r2.2.2.2.2.2.2.1, obn_at, v2.p6, obn_at, r3.2.2.2.2.2.2.1, obn_at]
    refine ⟨_, ?_, ?_, (w3.tr v3).tr u2⟩
    rotate_left
    · rw [pl] at u1
      rw [pl]
      exact u1
    · rw [pl, nI_s1]
/-- function(taken, answered) -/
theorem c_func {c : Nat} (h : yT y A mo F (nI c) lv ft ov σ) (hc : c ≤ mo) (x1 x2 : Int32) : ∃ σ' F', oF κ T (n + 2) 149 [va_rf (some y), .int x1, .int x2] σ = some (some (.int (if c = mo then 0 else nI c)), σ') ∧ yT y A mo F' (nI (if c = mo then c else c + 1)) lv ft ov σ' ∧ yF y A σ σ' ∧ (c < mo → F' = yU (yU (yU (yU F 0 c 206) 3 c (nI c)) 1 c x1) 2 c x2) := by
  have hm := h.2.2.2
  rw [oE_X10_function]
  unfold ob_X10_function
  rw [h.ob, obn_at]
  obtain ⟨s1, a1, a2, a3⟩ := c_make (κ := κ) (T := T) (n := n) h hc 206
  rw [a1, oin_at]
  have hr : ∃ d, (if c = mo then (0 : Int32) else nI c) = nI d ∧ d < mo ∧ (c < mo → d = c) := by
    by_cases e : c = mo
    · exact ⟨0, by rw [if_pos e]; rfl, by omega, fun z => by omega⟩
    · exact ⟨c, by rw [if_neg e], by omega, fun _ => rfl⟩
  obtain ⟨d, d1, d2, d3⟩ := hr
  rw [d1]
  have r1 := a2.row
  obtain ⟨s2, v1, v2, v3⟩ := a2.wr (i := 1) (t := d) (by decide) (by show d < mo; omega) x1
  have r2 := v2.row
  obtain ⟨s3, u1, u2, u3⟩ := v2.wr (i := 2) (t := d) (by decide) (by show d < mo; omega) x2
  rw [r1.2.1, obn_at, v1, obn_at, r2.2.2.1, obn_at, u1, obn_at]
  refine ⟨s3, _, rfl, u2, (a3.tr v3).tr u3, fun z => ?_⟩
  rw [d3 z, if_neg (show ¬ c = mo by omega)]
/-- basic(kind) -/
theorem c_basic (x : Int32) : oF κ T (n + 1) 148 [.int x] σ = some (some (.int (if x = 202 then 1 else if x = 200 then 2 else if x = 213 then 3 else 0)), σ) := by
  rw [oE_X10_basic]
  unfold ob_X10_basic
  split
  · rfl
  · split
    · rfl
    · split <;> rfl
/-- its kinds -/
def cKd (k : Nat) : Int32 := if k = 0 then 0 else if k = 1 then 206 else if k = 2 then 210 else if k = 3 then 202 else if k = 4 then 200 else 213
theorem cKd_inj {j k : Nat} (hj : j ≤ 5) (hk : k ≤ 5) (h : cKd j = cKd k) : j = k := by
  have d : ∀ a, a ≤ 5 → ∀ b, b ≤ 5 → cKd a = cKd b → a = b := by decide
  exact d j hj k hk h
/-- its rows are the graph g: 0 to 3 are int, bool, array, list, the others free or functions -/
def cGr (F : Nat → Nat → Int32) (g : gG) : Prop := (4 ≤ g.n ∧ (∀ t, t < 4 → g.K t = t + 2) ∧ ∀ t, 4 ≤ t → t < g.n → g.K t ≤ 1) ∧ ∀ t, t < g.n → F 0 t = cKd (g.K t) ∧ (g.K t = 1 → F 1 t = nI (g.L t) ∧ F 2 t = nI (g.R t)) ∧ F 3 t = nI (g.S t)
theorem cGr.k5 {g : gG} (h : cGr F g) {t : Nat} (ht : t < g.n) : g.K t ≤ 5 := by
  by_cases c : t < 4
  · rw [h.1.2.1 t c]; omega
  · have := h.1.2.2 t (by omega) ht; omega
/-- root(t) -/
theorem c_rootL {call : oCl} {g : gG} (h : yT y A mo F (nI g.n) lv ft ov σ) (hg : cGr F g) (hn : g.n ≤ mo) {d : Nat → Nat} (hd : ∀ t, t < g.n → g.S t < g.n ∧ (g.S t = t ∨ d (g.S t) < d t) ∧ d t ≤ g.n) : ∀ (f i t j : Nat), t < g.n → d t ≤ j → i + d t ≤ g.n → d t < f → ol_X10_root_4 T call κ f (some y) (nI t) (nI i) σ = some (some (.int (nI (gRt g.S j t))), σ)
  | 0, i, t, j, _, _, _, hf => by omega
  | f + 1, i, t, j, ht, hj, hi, hf => by
    have hm := h.2.2.2
    have r := h.row
    obtain ⟨p1, p2, p3⟩ := hd t ht
    obtain ⟨-, -, e3⟩ := hg.2 t ht
    rw [ol_X10_root_4, r.2.2.2.2.2.2.1, obn_at]
    by_cases c0 : g.n ≤ i
    · have c : g.S t = t := by rcases p2 with e | e; exact e; omega
      rw [if_pos (nI_le c0 (by omega)), gRt_fix c]
    · rw [if_neg (nI_ge (by omega) (by omega)), r.2.2.2.1, obn_at, h.rd (i := 3) (by decide) (by show t < mo; omega), obn_at, e3]
      by_cases c : g.S t = t
      · rw [if_pos (by rw [c]), gRt_fix c]
      · have e : d (g.S t) < d t := by rcases p2 with e | e; exact absurd e c; exact e
        rw [if_neg (fun z => c (nI_inj' (by omega) (by omega) z)), obn_at, h.rd (i := 3) (by decide) (by show t < mo; omega), obn_at, e3]
        obtain ⟨j, rfl⟩ : ∃ j', j = j' + 1 := ⟨j - 1, by omega⟩
        have e2 : gRt g.S (j + 1) t = gRt g.S j (g.S t) := by show (if g.S t = t then t else gRt g.S j (g.S t)) = _; rw [if_neg c]
        rw [e2, show nI i + 1 = nI (i + 1) from nI_add i 1 ▸ rfl]
        exact c_rootL h hg hn hd f (i + 1) (g.S t) j p1 (by omega) (by omega) (by omega)
theorem c_root {g : gG} (hT : 9010 ≤ T) (h : yT y A mo F (nI g.n) lv ft ov σ) (hg : cGr F g) (hn : g.n ≤ mo) (hF : gF g) {t : Nat} (ht : t < g.n) : oF κ T (n + 1) 21 [va_rf (some y), .int (nI t)] σ = some (some (.int (nI (gR g t))), σ) := by
  have hm := h.2.2.2
  obtain ⟨d, hd⟩ := hF
  rw [oE_X10_root]
  exact c_rootL h hg hn (d := d) (fun t ht => ⟨(hd t ht).1, (hd t ht).2.1, by have := (hd t ht).2.2; omega⟩) T 0 t g.n ht (by have := (hd t ht).2.2; omega) (by have := (hd t ht).2.2; omega) (by have := (hd t ht).2.2; omega)
/-- Arrays.fill(row, v) -/
theorem c_fillL {call : oCl} {i : Nat} (hi : i < 6) (v : Int32) : ∀ (f j : Nat) (σ : oSt) (F : Nat → Nat → Int32), yT y A mo F cnt lv ft ov σ → j ≤ yN mo i → yN mo i < j + f → (∀ t, t < j → F i t = v) → ∃ σ' F', ol_J7_fill_53178_5 T call κ f (some (A i)) v (nI j) (nI (yN mo i)) σ = some (none, σ') ∧ yT y A mo F' cnt lv ft ov σ' ∧ yF y A σ σ' ∧ (∀ t, t < yN mo i → F' i t = v) ∧ ∀ k, k ≠ i → F' k = F k
  | 0, j, σ, F, _, _, hf, _ => by omega
  | f + 1, j, σ, F, h, hj, hf, hv => by
    have hm := h.2.2.2
    have l : yN mo i ≤ 3 * mo := by unfold yN; split <;> omega
    rw [ol_J7_fill_53178_5]
    by_cases c : j = yN mo i
    · rw [if_pos (nI_le (by omega) (by omega))]
      exact ⟨σ, F, rfl, h, yF.rf y A σ, fun t ht => hv t (by omega), fun _ _ => rfl⟩
    · rw [if_neg (nI_ge (by omega) (by omega))]
      obtain ⟨s1, w1, w2, w3⟩ := h.wr hi (show j < yN mo i by omega) v
      rw [w1, obn_at, show nI j + 1 = nI (j + 1) from nI_add j 1 ▸ rfl]
      obtain ⟨σ', F', a1, a2, a3, a4, a5⟩ := c_fillL (call := call) hi v f (j + 1) s1 _ w2 (by omega) (by omega) (fun t ht => by
        rw [yU_at]
        by_cases e : t = j
        · rw [e, upd_at]
        · rw [upd_ne _ _ e]; exact hv t (by omega))
      exact ⟨σ', F', a1, a2, w3.tr a3, a4, fun k hk => (a5 k hk).trans (yU_ne _ _ _ hk)⟩
theorem c_fill (hT : 24100 ≤ T) (h : yT y A mo F cnt lv ft ov σ) {i : Nat} (hi : i < 6) (v : Int32) : ∃ σ' F', oF κ T (n + 1) 242 [va_rf (some (A i)), .int v] σ = some (none, σ') ∧ yT y A mo F' cnt lv ft ov σ' ∧ yF y A σ σ' ∧ (∀ t, t < yN mo i → F' i t = v) ∧ ∀ k, k ≠ i → F' k = F k := by
  have hm := h.2.2.2
  have l : yN mo i ≤ 3 * mo := by unfold yN; split <;> omega
  rw [oE_J7_fill_53178]
  unfold ob_J7_fill_53178
  rw [h.ln hi, obn_at]
  exact c_fillL hi v T 0 σ F h (Nat.zero_le _) (by omega) (fun t ht => by omega)
end CTY
