/-! the class as ONE plain function: oF κ n j av σ is what method j answers, and the state behind it; the rules give it -/
abbrev oDf : Type := Nat → oCl → oKv → List Value → oSt → oRs
def oOk (j : Nat) (f : oDf) : Prop := ∀ (κ : oKv) (T n : Nat) (call : oCl), (∀ j' av s w, call j' av s = some w → oTr κ n j' av s w) → ∀ (av : List Value) (σ : oSt) (v : Option Value × oSt), f T call κ av σ = some v → oTr κ (n + 1) j av σ v
def oun (x : Value) : Option (Option Nat) := match x with
  | .ref a => some (some a)
  | .null => some none
  | _ => none
theorem oun_e {x : Value} {r : Option Nat} (h : oun x = some r) : x = va_rf r := by
  unfold oun at h
  split at h
  · cases h; rfl
  · cases h; rfl
  · cases h
theorem olg_n : (lg_sl []).length = 0 := rfl
theorem olg_i (x : Int32) (l : List Value) : (lg_sl (.int x :: l)).length = (lg_sl l).length + 1 := by
  show (([.val (.int x)] : List Slot) ++ lg_sl l).length = _
  rw [List.length_append]; exact Nat.add_comm 1 _
theorem olg_l (x : Int64) (l : List Value) : (lg_sl (.long x :: l)).length = (lg_sl l).length + 2 := by
  show (([.val (.long x), .second] : List Slot) ++ lg_sl l).length = _
  rw [List.length_append]; exact Nat.add_comm 2 _
theorem olg_r (r : Option Nat) (l : List Value) : (lg_sl (va_rf r :: l)).length = (lg_sl l).length + 1 := by
  cases r with
  | none =>
    show (([.val .null] : List Slot) ++ lg_sl l).length = _
    rw [List.length_append]; exact Nat.add_comm 1 _
  | some a =>
    show (([.val (.ref a)] : List Slot) ++ lg_sl l).length = _
    rw [List.length_append]; exact Nat.add_comm 1 _
theorem olv_n (k : Nat) : lv_args k [] = [] := rfl
theorem olv_i (k : Nat) (x : Int32) (l : List Value) : lv_args k (.int x :: l) = (k, .int x) :: lv_args (k + 1) l := rfl
theorem olv_l (k : Nat) (x : Int64) (l : List Value) : lv_args k (.long x :: l) = (k, .long x) :: lv_args (k + 2) l := rfl
theorem olv_r (k : Nat) (r : Option Nat) (l : List Value) : lv_args k (va_rf r :: l) = (k, va_rf r) :: lv_args (k + 1) l := by cases r <;> rfl
def od_X0_init (n : Nat) (call : oCl) (κ : oKv) (av : List Value) (σ : oSt) : oRs := match av with
  | [x0, x1, x2, x3] => obn (oun x0) fun r0 => obn (oun x1) fun r1 => obn (oun x2) fun r2 => obn (oun x3) fun r3 => ob_X0_init n call κ r0 r1 r2 r3 σ
  | _ => none
set_option maxHeartbeats 1000000 in
theorem od_X0_init_ok : oOk 0 od_X0_init := fun κ T n call hc av σ v h => by
  unfold od_X0_init at h
  split at h
  next x0 x1 x2 x3 =>
    obtain ⟨r0, e0, h0⟩ := obn_e h
    obtain ⟨r1, e1, h1⟩ := obn_e h0
    obtain ⟨r2, e2, h2⟩ := obn_e h1
    obtain ⟨r3, e3, h3⟩ := obn_e h2
    rw [oun_e e0, oun_e e1, oun_e e2, oun_e e3]
    exact ⟨_, oM_0, (by simp only [olg_r, olg_i, olg_l, olg_n]; exact Nat.le_of_ble_eq_true rfl), fun X hX => (by show X 0 (zent 4 [va_rf r0, va_rf r1, va_rf r2, va_rf r3]) [] σ; rw [show zent 4 [va_rf r0, va_rf r1, va_rf r2, va_rf r3] = [some (va_rf r0), some (va_rf r1), some (va_rf r2), some (va_rf r3)] by simp only [zent, olv_r, olv_i, olv_l, olv_n]; rfl]; exact qb_X0_init hX hc h3)⟩
  next => cases h
def od_X2_init (n : Nat) (call : oCl) (κ : oKv) (av : List Value) (σ : oSt) : oRs := match av with
  | [x0, .int x1] => obn (oun x0) fun r0 => ob_X2_init n call κ r0 x1 σ
  | _ => none
set_option maxHeartbeats 1000000 in
theorem od_X2_init_ok : oOk 1 od_X2_init := fun κ T n call hc av σ v h => by
  unfold od_X2_init at h
  split at h
  next x0 x1 =>
    obtain ⟨r0, e0, h0⟩ := obn_e h
    rw [oun_e e0]
    exact ⟨_, oM_1, (by simp only [olg_r, olg_i, olg_l, olg_n]; exact Nat.le_of_ble_eq_true rfl), fun X hX => (by show X 0 (zent 2 [va_rf r0, .int x1]) [] σ; rw [show zent 2 [va_rf r0, .int x1] = [some (va_rf r0), some (.int x1)] by simp only [zent, olv_r, olv_i, olv_l, olv_n]; rfl]; exact qb_X2_init hX hc h0)⟩
  next => cases h
def od_X8_init (n : Nat) (call : oCl) (κ : oKv) (av : List Value) (σ : oSt) : oRs := match av with
  | [x0, x1, x2] => obn (oun x0) fun r0 => obn (oun x1) fun r1 => obn (oun x2) fun r2 => ob_X8_init n call κ r0 r1 r2 σ
  | _ => none
set_option maxHeartbeats 1000000 in
theorem od_X8_init_ok : oOk 2 od_X8_init := fun κ T n call hc av σ v h => by
  unfold od_X8_init at h
  split at h
  next x0 x1 x2 =>
    obtain ⟨r0, e0, h0⟩ := obn_e h
    obtain ⟨r1, e1, h1⟩ := obn_e h0
    obtain ⟨r2, e2, h2⟩ := obn_e h1
    rw [oun_e e0, oun_e e1, oun_e e2]
    exact ⟨_, oM_2, (by simp only [olg_r, olg_i, olg_l, olg_n]; exact Nat.le_of_ble_eq_true rfl), fun X hX => (by show X 0 (zent 3 [va_rf r0, va_rf r1, va_rf r2]) [] σ; rw [show zent 3 [va_rf r0, va_rf r1, va_rf r2] = [some (va_rf r0), some (va_rf r1), some (va_rf r2)] by simp only [zent, olv_r, olv_i, olv_l, olv_n]; rfl]; exact qb_X8_init hX hc h2)⟩
  next => cases h
def od_X2_init_ (n : Nat) (call : oCl) (κ : oKv) (av : List Value) (σ : oSt) : oRs := match av with
  | [x0, x1, x2, x3] => obn (oun x0) fun r0 => obn (oun x1) fun r1 => obn (oun x2) fun r2 => obn (oun x3) fun r3 => ob_X2_init_ n call κ r0 r1 r2 r3 σ
  | _ => none
set_option maxHeartbeats 1000000 in
theorem od_X2_init__ok : oOk 3 od_X2_init_ := fun κ T n call hc av σ v h => by
  unfold od_X2_init_ at h
  split at h
  next x0 x1 x2 x3 =>
    obtain ⟨r0, e0, h0⟩ := obn_e h
    obtain ⟨r1, e1, h1⟩ := obn_e h0
    obtain ⟨r2, e2, h2⟩ := obn_e h1
    obtain ⟨r3, e3, h3⟩ := obn_e h2
    rw [oun_e e0, oun_e e1, oun_e e2, oun_e e3]
    exact ⟨_, oM_3, (by simp only [olg_r, olg_i, olg_l, olg_n]; exact Nat.le_of_ble_eq_true rfl), fun X hX => (by show X 0 (zent 4 [va_rf r0, va_rf r1, va_rf r2, va_rf r3]) [] σ; rw [show zent 4 [va_rf r0, va_rf r1, va_rf r2, va_rf r3] = [some (va_rf r0), some (va_rf r1), some (va_rf r2), some (va_rf r3)] by simp only [zent, olv_r, olv_i, olv_l, olv_n]; rfl]; exact qb_X2_init_ hX hc h3)⟩
  next => cases h
def od_X2_answered (n : Nat) (call : oCl) (κ : oKv) (av : List Value) (σ : oSt) : oRs := match av with
  | [x0, x1] => obn (oun x0) fun r0 => obn (oun x1) fun r1 => ob_X2_answered n call κ r0 r1 σ
  | _ => none
set_option maxHeartbeats 1000000 in
theorem od_X2_answered_ok : oOk 4 od_X2_answered := fun κ T n call hc av σ v h => by
  unfold od_X2_answered at h
  split at h
  next x0 x1 =>
    obtain ⟨r0, e0, h0⟩ := obn_e h
    obtain ⟨r1, e1, h1⟩ := obn_e h0
    rw [oun_e e0, oun_e e1]
    exact ⟨_, oM_4, (by simp only [olg_r, olg_i, olg_l, olg_n]; exact Nat.le_of_ble_eq_true rfl), fun X hX => (by show X 0 (zent 6 [va_rf r0, va_rf r1]) [] σ; rw [show zent 6 [va_rf r0, va_rf r1] = [some (va_rf r0), some (va_rf r1), none, none, none, none] by simp only [zent, olv_r, olv_i, olv_l, olv_n]; rfl]; exact qb_X2_answered hX hc h1)⟩
  next => cases h
def od_X2_taken (n : Nat) (call : oCl) (κ : oKv) (av : List Value) (σ : oSt) : oRs := match av with
  | [x0] => obn (oun x0) fun r0 => ob_X2_taken n call κ r0 σ
  | _ => none
set_option maxHeartbeats 1000000 in
theorem od_X2_taken_ok : oOk 5 od_X2_taken := fun κ T n call hc av σ v h => by
  unfold od_X2_taken at h
  split at h
  next x0 =>
    obtain ⟨r0, e0, h0⟩ := obn_e h
    rw [oun_e e0]
    exact ⟨_, oM_5, (by simp only [olg_r, olg_i, olg_l, olg_n]; exact Nat.le_of_ble_eq_true rfl), fun X hX => (by show X 0 (zent 1 [va_rf r0]) [] σ; rw [show zent 1 [va_rf r0] = [some (va_rf r0)] by simp only [zent, olv_r, olv_i, olv_l, olv_n]; rfl]; exact qb_X2_taken hX hc h0)⟩
  next => cases h
def od_X4_isMeasured (n : Nat) (call : oCl) (κ : oKv) (av : List Value) (σ : oSt) : oRs := match av with
  | [x0] => obn (oun x0) fun r0 => ob_X4_isMeasured n call κ r0 σ
  | _ => none
set_option maxHeartbeats 1000000 in
theorem od_X4_isMeasured_ok : oOk 6 od_X4_isMeasured := fun κ T n call hc av σ v h => by
  unfold od_X4_isMeasured at h
  split at h
  next x0 =>
    obtain ⟨r0, e0, h0⟩ := obn_e h
    rw [oun_e e0]
    exact ⟨_, oM_6, (by simp only [olg_r, olg_i, olg_l, olg_n]; exact Nat.le_of_ble_eq_true rfl), fun X hX => (by show X 0 (zent 1 [va_rf r0]) [] σ; rw [show zent 1 [va_rf r0] = [some (va_rf r0)] by simp only [zent, olv_r, olv_i, olv_l, olv_n]; rfl]; exact qb_X4_isMeasured hX hc h0)⟩
  next => cases h
def od_X4_init (n : Nat) (call : oCl) (κ : oKv) (av : List Value) (σ : oSt) : oRs := match av with
  | [x0, x1, .int x2] => obn (oun x0) fun r0 => obn (oun x1) fun r1 => ob_X4_init n call κ r0 r1 x2 σ
  | _ => none
set_option maxHeartbeats 1000000 in
theorem od_X4_init_ok : oOk 7 od_X4_init := fun κ T n call hc av σ v h => by
  unfold od_X4_init at h
  split at h
  next x0 x1 x2 =>
    obtain ⟨r0, e0, h0⟩ := obn_e h
    obtain ⟨r1, e1, h1⟩ := obn_e h0
    rw [oun_e e0, oun_e e1]
    exact ⟨_, oM_7, (by simp only [olg_r, olg_i, olg_l, olg_n]; exact Nat.le_of_ble_eq_true rfl), fun X hX => (by show X 0 (zent 3 [va_rf r0, va_rf r1, .int x2]) [] σ; rw [show zent 3 [va_rf r0, va_rf r1, .int x2] = [some (va_rf r0), some (va_rf r1), some (.int x2)] by simp only [zent, olv_r, olv_i, olv_l, olv_n]; rfl]; exact qb_X4_init hX hc h1)⟩
  next => cases h
def od_X9_init (n : Nat) (call : oCl) (κ : oKv) (av : List Value) (σ : oSt) : oRs := match av with
  | [x0] => obn (oun x0) fun r0 => ob_X9_init n call κ r0 σ
  | _ => none
set_option maxHeartbeats 1000000 in
theorem od_X9_init_ok : oOk 8 od_X9_init := fun κ T n call hc av σ v h => by
  unfold od_X9_init at h
  split at h
  next x0 =>
    obtain ⟨r0, e0, h0⟩ := obn_e h
    rw [oun_e e0]
    exact ⟨_, oM_8, (by simp only [olg_r, olg_i, olg_l, olg_n]; exact Nat.le_of_ble_eq_true rfl), fun X hX => (by show X 0 (zent 1 [va_rf r0]) [] σ; rw [show zent 1 [va_rf r0] = [some (va_rf r0)] by simp only [zent, olv_r, olv_i, olv_l, olv_n]; rfl]; exact qb_X9_init hX hc h0)⟩
  next => cases h
def od_X9_append (n : Nat) (call : oCl) (κ : oKv) (av : List Value) (σ : oSt) : oRs := match av with
  | [x0, x1] => obn (oun x0) fun r0 => obn (oun x1) fun r1 => ob_X9_append n call κ r0 r1 σ
  | _ => none
set_option maxHeartbeats 1000000 in
theorem od_X9_append_ok : oOk 9 od_X9_append := fun κ T n call hc av σ v h => by
  unfold od_X9_append at h
  split at h
  next x0 x1 =>
    obtain ⟨r0, e0, h0⟩ := obn_e h
    obtain ⟨r1, e1, h1⟩ := obn_e h0
    rw [oun_e e0, oun_e e1]
    exact ⟨_, oM_9, (by simp only [olg_r, olg_i, olg_l, olg_n]; exact Nat.le_of_ble_eq_true rfl), fun X hX => (by show X 0 (zent 3 [va_rf r0, va_rf r1]) [] σ; rw [show zent 3 [va_rf r0, va_rf r1] = [some (va_rf r0), some (va_rf r1), none] by simp only [zent, olv_r, olv_i, olv_l, olv_n]; rfl]; exact qb_X9_append hX hc h1)⟩
  next => cases h
def od_X9_add (n : Nat) (call : oCl) (κ : oKv) (av : List Value) (σ : oSt) : oRs := match av with
  | [x0, x1, .int x2] => obn (oun x0) fun r0 => obn (oun x1) fun r1 => ob_X9_add n call κ r0 r1 x2 σ
  | _ => none
set_option maxHeartbeats 1000000 in
theorem od_X9_add_ok : oOk 10 od_X9_add := fun κ T n call hc av σ v h => by
  unfold od_X9_add at h
  split at h
  next x0 x1 x2 =>
    obtain ⟨r0, e0, h0⟩ := obn_e h
    obtain ⟨r1, e1, h1⟩ := obn_e h0
    rw [oun_e e0, oun_e e1]
    exact ⟨_, oM_10, (by simp only [olg_r, olg_i, olg_l, olg_n]; exact Nat.le_of_ble_eq_true rfl), fun X hX => (by show X 0 (zent 4 [va_rf r0, va_rf r1, .int x2]) [] σ; rw [show zent 4 [va_rf r0, va_rf r1, .int x2] = [some (va_rf r0), some (va_rf r1), some (.int x2), none] by simp only [zent, olv_r, olv_i, olv_l, olv_n]; rfl]; exact qb_X9_add hX hc h1)⟩
  next => cases h
def od_X9_of (n : Nat) (call : oCl) (κ : oKv) (av : List Value) (σ : oSt) : oRs := match av with
  | [x0, .int x1, .long x2] => obn (oun x0) fun r0 => ob_X9_of n call κ r0 x1 x2 σ
  | _ => none
set_option maxHeartbeats 1000000 in
theorem od_X9_of_ok : oOk 11 od_X9_of := fun κ T n call hc av σ v h => by
  unfold od_X9_of at h
  split at h
  next x0 x1 x2 =>
    obtain ⟨r0, e0, h0⟩ := obn_e h
    rw [oun_e e0]
    exact ⟨_, oM_11, (by simp only [olg_r, olg_i, olg_l, olg_n]; exact Nat.le_of_ble_eq_true rfl), fun X hX => (by show X 0 (zent 5 [va_rf r0, .int x1, .long x2]) [] σ; rw [show zent 5 [va_rf r0, .int x1, .long x2] = [some (va_rf r0), some (.int x1), some (.long x2), none, none] by simp only [zent, olv_r, olv_i, olv_l, olv_n]; rfl]; exact qb_X9_of hX hc h0)⟩
  next => cases h
def od_X0_fit (n : Nat) (call : oCl) (κ : oKv) (av : List Value) (σ : oSt) : oRs := match av with
  | [x0, x1, x2, x3] => obn (oun x0) fun r0 => obn (oun x1) fun r1 => obn (oun x2) fun r2 => obn (oun x3) fun r3 => ob_X0_fit n call κ r0 r1 r2 r3 σ
  | _ => none
set_option maxHeartbeats 1000000 in
theorem od_X0_fit_ok : oOk 12 od_X0_fit := fun κ T n call hc av σ v h => by
  unfold od_X0_fit at h
  split at h
  next x0 x1 x2 x3 =>
    obtain ⟨r0, e0, h0⟩ := obn_e h
    obtain ⟨r1, e1, h1⟩ := obn_e h0
    obtain ⟨r2, e2, h2⟩ := obn_e h1
    obtain ⟨r3, e3, h3⟩ := obn_e h2
    rw [oun_e e0, oun_e e1, oun_e e2, oun_e e3]
    exact ⟨_, oM_12, (by simp only [olg_r, olg_i, olg_l, olg_n]; exact Nat.le_of_ble_eq_true rfl), fun X hX => (by show X 0 (zent 11 [va_rf r0, va_rf r1, va_rf r2, va_rf r3]) [] σ; rw [show zent 11 [va_rf r0, va_rf r1, va_rf r2, va_rf r3] = [some (va_rf r0), some (va_rf r1), some (va_rf r2), some (va_rf r3), none, none, none, none, none, none, none] by simp only [zent, olv_r, olv_i, olv_l, olv_n]; rfl]; exact qb_X0_fit hX hc h3)⟩
  next => cases h
def od_X8_init_ (n : Nat) (call : oCl) (κ : oKv) (av : List Value) (σ : oSt) : oRs := match av with
  | [x0, x1, .int x2, x3] => obn (oun x0) fun r0 => obn (oun x1) fun r1 => obn (oun x3) fun r3 => ob_X8_init_ n call κ r0 r1 x2 r3 σ
  | _ => none
set_option maxHeartbeats 1000000 in
theorem od_X8_init__ok : oOk 13 od_X8_init_ := fun κ T n call hc av σ v h => by
  unfold od_X8_init_ at h
  split at h
  next x0 x1 x2 x3 =>
    obtain ⟨r0, e0, h0⟩ := obn_e h
    obtain ⟨r1, e1, h1⟩ := obn_e h0
    obtain ⟨r3, e3, h3⟩ := obn_e h1
    rw [oun_e e0, oun_e e1, oun_e e3]
    exact ⟨_, oM_13, (by simp only [olg_r, olg_i, olg_l, olg_n]; exact Nat.le_of_ble_eq_true rfl), fun X hX => (by show X 0 (zent 4 [va_rf r0, va_rf r1, .int x2, va_rf r3]) [] σ; rw [show zent 4 [va_rf r0, va_rf r1, .int x2, va_rf r3] = [some (va_rf r0), some (va_rf r1), some (.int x2), some (va_rf r3)] by simp only [zent, olv_r, olv_i, olv_l, olv_n]; rfl]; exact qb_X8_init_ hX hc h3)⟩
  next => cases h
def od_X9_isTerm (n : Nat) (call : oCl) (κ : oKv) (av : List Value) (σ : oSt) : oRs := match av with
  | [x0] => obn (oun x0) fun r0 => ob_X9_isTerm n call κ r0 σ
  | _ => none
set_option maxHeartbeats 1000000 in
theorem od_X9_isTerm_ok : oOk 14 od_X9_isTerm := fun κ T n call hc av σ v h => by
  unfold od_X9_isTerm at h
  split at h
  next x0 =>
    obtain ⟨r0, e0, h0⟩ := obn_e h
    rw [oun_e e0]
    exact ⟨_, oM_14, (by simp only [olg_r, olg_i, olg_l, olg_n]; exact Nat.le_of_ble_eq_true rfl), fun X hX => (by show X 0 (zent 1 [va_rf r0]) [] σ; rw [show zent 1 [va_rf r0] = [some (va_rf r0)] by simp only [zent, olv_r, olv_i, olv_l, olv_n]; rfl]; exact qb_X9_isTerm hX hc h0)⟩
  next => cases h
def od_X2_makeRoom (n : Nat) (call : oCl) (κ : oKv) (av : List Value) (σ : oSt) : oRs := match av with
  | [x0, .int x1] => obn (oun x0) fun r0 => ob_X2_makeRoom n call κ r0 x1 σ
  | _ => none
set_option maxHeartbeats 1000000 in
theorem od_X2_makeRoom_ok : oOk 15 od_X2_makeRoom := fun κ T n call hc av σ v h => by
  unfold od_X2_makeRoom at h
  split at h
  next x0 x1 =>
    obtain ⟨r0, e0, h0⟩ := obn_e h
    rw [oun_e e0]
    exact ⟨_, oM_15, (by simp only [olg_r, olg_i, olg_l, olg_n]; exact Nat.le_of_ble_eq_true rfl), fun X hX => (by show X 0 (zent 2 [va_rf r0, .int x1]) [] σ; rw [show zent 2 [va_rf r0, .int x1] = [some (va_rf r0), some (.int x1)] by simp only [zent, olv_r, olv_i, olv_l, olv_n]; rfl]; exact qb_X2_makeRoom hX hc h0)⟩
  next => cases h
def od_X2_say (n : Nat) (call : oCl) (κ : oKv) (av : List Value) (σ : oSt) : oRs := match av with
  | [x0, .int x1, x2] => obn (oun x0) fun r0 => obn (oun x2) fun r2 => ob_X2_say n call κ r0 x1 r2 σ
  | _ => none
set_option maxHeartbeats 1000000 in
theorem od_X2_say_ok : oOk 16 od_X2_say := fun κ T n call hc av σ v h => by
  unfold od_X2_say at h
  split at h
  next x0 x1 x2 =>
    obtain ⟨r0, e0, h0⟩ := obn_e h
    obtain ⟨r2, e2, h2⟩ := obn_e h0
    rw [oun_e e0, oun_e e2]
    exact ⟨_, oM_16, (by simp only [olg_r, olg_i, olg_l, olg_n]; exact Nat.le_of_ble_eq_true rfl), fun X hX => (by show X 0 (zent 3 [va_rf r0, .int x1, va_rf r2]) [] σ; rw [show zent 3 [va_rf r0, .int x1, va_rf r2] = [some (va_rf r0), some (.int x1), some (va_rf r2)] by simp only [zent, olv_r, olv_i, olv_l, olv_n]; rfl]; exact qb_X2_say hX hc h2)⟩
  next => cases h
def od_X2_of (n : Nat) (call : oCl) (κ : oKv) (av : List Value) (σ : oSt) : oRs := match av with
  | [.int x0, x1] => obn (oun x1) fun r1 => ob_X2_of n call κ x0 r1 σ
  | _ => none
set_option maxHeartbeats 1000000 in
theorem od_X2_of_ok : oOk 17 od_X2_of := fun κ T n call hc av σ v h => by
  unfold od_X2_of at h
  split at h
  next x0 x1 =>
    obtain ⟨r1, e1, h1⟩ := obn_e h
    rw [oun_e e1]
    exact ⟨_, oM_17, (by simp only [olg_r, olg_i, olg_l, olg_n]; exact Nat.le_of_ble_eq_true rfl), fun X hX => (by show X 0 (zent 3 [.int x0, va_rf r1]) [] σ; rw [show zent 3 [.int x0, va_rf r1] = [some (.int x0), some (va_rf r1), none] by simp only [zent, olv_r, olv_i, olv_l, olv_n]; rfl]; exact qb_X2_of hX hc h1)⟩
  next => cases h
def od_X0_product (n : Nat) (call : oCl) (κ : oKv) (av : List Value) (σ : oSt) : oRs := match av with
  | [x0, x1] => obn (oun x0) fun r0 => obn (oun x1) fun r1 => ob_X0_product n call κ r0 r1 σ
  | _ => none
set_option maxHeartbeats 1000000 in
theorem od_X0_product_ok : oOk 18 od_X0_product := fun κ T n call hc av σ v h => by
  unfold od_X0_product at h
  split at h
  next x0 x1 =>
    obtain ⟨r0, e0, h0⟩ := obn_e h
    obtain ⟨r1, e1, h1⟩ := obn_e h0
    rw [oun_e e0, oun_e e1]
    exact ⟨_, oM_18, (by simp only [olg_r, olg_i, olg_l, olg_n]; exact Nat.le_of_ble_eq_true rfl), fun X hX => (by show X 0 (zent 3 [va_rf r0, va_rf r1]) [] σ; rw [show zent 3 [va_rf r0, va_rf r1] = [some (va_rf r0), some (va_rf r1), none] by simp only [zent, olv_r, olv_i, olv_l, olv_n]; rfl]; exact qb_X0_product hX hc h1)⟩
  next => cases h
def od_X0_remainder (n : Nat) (call : oCl) (κ : oKv) (av : List Value) (σ : oSt) : oRs := match av with
  | [x0] => obn (oun x0) fun r0 => ob_X0_remainder n call κ r0 σ
  | _ => none
set_option maxHeartbeats 1000000 in
theorem od_X0_remainder_ok : oOk 19 od_X0_remainder := fun κ T n call hc av σ v h => by
  unfold od_X0_remainder at h
  split at h
  next x0 =>
    obtain ⟨r0, e0, h0⟩ := obn_e h
    rw [oun_e e0]
    exact ⟨_, oM_19, (by simp only [olg_r, olg_i, olg_l, olg_n]; exact Nat.le_of_ble_eq_true rfl), fun X hX => (by show X 0 (zent 2 [va_rf r0]) [] σ; rw [show zent 2 [va_rf r0] = [some (va_rf r0), none] by simp only [zent, olv_r, olv_i, olv_l, olv_n]; rfl]; exact qb_X0_remainder hX hc h0)⟩
  next => cases h
def od_X0_plain (n : Nat) (call : oCl) (κ : oKv) (av : List Value) (σ : oSt) : oRs := match av with
  | [x0] => obn (oun x0) fun r0 => ob_X0_plain n call κ r0 σ
  | _ => none
set_option maxHeartbeats 1000000 in
theorem od_X0_plain_ok : oOk 20 od_X0_plain := fun κ T n call hc av σ v h => by
  unfold od_X0_plain at h
  split at h
  next x0 =>
    obtain ⟨r0, e0, h0⟩ := obn_e h
    rw [oun_e e0]
    exact ⟨_, oM_20, (by simp only [olg_r, olg_i, olg_l, olg_n]; exact Nat.le_of_ble_eq_true rfl), fun X hX => (by show X 0 (zent 1 [va_rf r0]) [] σ; rw [show zent 1 [va_rf r0] = [some (va_rf r0)] by simp only [zent, olv_r, olv_i, olv_l, olv_n]; rfl]; exact qb_X0_plain hX hc h0)⟩
  next => cases h
def od_X10_root (n : Nat) (call : oCl) (κ : oKv) (av : List Value) (σ : oSt) : oRs := match av with
  | [x0, .int x1] => obn (oun x0) fun r0 => ob_X10_root n call κ r0 x1 σ
  | _ => none
set_option maxHeartbeats 1000000 in
theorem od_X10_root_ok : oOk 21 od_X10_root := fun κ T n call hc av σ v h => by
  unfold od_X10_root at h
  split at h
  next x0 x1 =>
    obtain ⟨r0, e0, h0⟩ := obn_e h
    rw [oun_e e0]
    exact ⟨_, oM_21, (by simp only [olg_r, olg_i, olg_l, olg_n]; exact Nat.le_of_ble_eq_true rfl), fun X hX => (by show X 0 (zent 4 [va_rf r0, .int x1]) [] σ; rw [show zent 4 [va_rf r0, .int x1] = [some (va_rf r0), some (.int x1), none, none] by simp only [zent, olv_r, olv_i, olv_l, olv_n]; rfl]; exact qb_X10_root hX hc h0)⟩
  next => cases h
def od_X10_kindOf (n : Nat) (call : oCl) (κ : oKv) (av : List Value) (σ : oSt) : oRs := match av with
  | [x0, .int x1] => obn (oun x0) fun r0 => ob_X10_kindOf n call κ r0 x1 σ
  | _ => none
set_option maxHeartbeats 1000000 in
theorem od_X10_kindOf_ok : oOk 22 od_X10_kindOf := fun κ T n call hc av σ v h => by
  unfold od_X10_kindOf at h
  split at h
  next x0 x1 =>
    obtain ⟨r0, e0, h0⟩ := obn_e h
    rw [oun_e e0]
    exact ⟨_, oM_22, (by simp only [olg_r, olg_i, olg_l, olg_n]; exact Nat.le_of_ble_eq_true rfl), fun X hX => (by show X 0 (zent 3 [va_rf r0, .int x1]) [] σ; rw [show zent 3 [va_rf r0, .int x1] = [some (va_rf r0), some (.int x1), none] by simp only [zent, olv_r, olv_i, olv_l, olv_n]; rfl]; exact qb_X10_kindOf hX hc h0)⟩
  next => cases h
def od_X10_takenBy (n : Nat) (call : oCl) (κ : oKv) (av : List Value) (σ : oSt) : oRs := match av with
  | [x0, .int x1] => obn (oun x0) fun r0 => ob_X10_takenBy n call κ r0 x1 σ
  | _ => none
set_option maxHeartbeats 1000000 in
theorem od_X10_takenBy_ok : oOk 23 od_X10_takenBy := fun κ T n call hc av σ v h => by
  unfold od_X10_takenBy at h
  split at h
  next x0 x1 =>
    obtain ⟨r0, e0, h0⟩ := obn_e h
    rw [oun_e e0]
    exact ⟨_, oM_23, (by simp only [olg_r, olg_i, olg_l, olg_n]; exact Nat.le_of_ble_eq_true rfl), fun X hX => (by show X 0 (zent 2 [va_rf r0, .int x1]) [] σ; rw [show zent 2 [va_rf r0, .int x1] = [some (va_rf r0), some (.int x1)] by simp only [zent, olv_r, olv_i, olv_l, olv_n]; rfl]; exact qb_X10_takenBy hX hc h0)⟩
  next => cases h
def od_X10_answeredBy (n : Nat) (call : oCl) (κ : oKv) (av : List Value) (σ : oSt) : oRs := match av with
  | [x0, .int x1] => obn (oun x0) fun r0 => ob_X10_answeredBy n call κ r0 x1 σ
  | _ => none
set_option maxHeartbeats 1000000 in
theorem od_X10_answeredBy_ok : oOk 24 od_X10_answeredBy := fun κ T n call hc av σ v h => by
  unfold od_X10_answeredBy at h
  split at h
  next x0 x1 =>
    obtain ⟨r0, e0, h0⟩ := obn_e h
    rw [oun_e e0]
    exact ⟨_, oM_24, (by simp only [olg_r, olg_i, olg_l, olg_n]; exact Nat.le_of_ble_eq_true rfl), fun X hX => (by show X 0 (zent 2 [va_rf r0, .int x1]) [] σ; rw [show zent 2 [va_rf r0, .int x1] = [some (va_rf r0), some (.int x1)] by simp only [zent, olv_r, olv_i, olv_l, olv_n]; rfl]; exact qb_X10_answeredBy hX hc h0)⟩
  next => cases h
def od_X0_instance (n : Nat) (call : oCl) (κ : oKv) (av : List Value) (σ : oSt) : oRs := match av with
  | [x0, x1, .int x2] => obn (oun x0) fun r0 => obn (oun x1) fun r1 => ob_X0_instance n call κ r0 r1 x2 σ
  | _ => none
set_option maxHeartbeats 1000000 in
theorem od_X0_instance_ok : oOk 25 od_X0_instance := fun κ T n call hc av σ v h => by
  unfold od_X0_instance at h
  split at h
  next x0 x1 x2 =>
    obtain ⟨r0, e0, h0⟩ := obn_e h
    obtain ⟨r1, e1, h1⟩ := obn_e h0
    rw [oun_e e0, oun_e e1]
    exact ⟨_, oM_25, (by simp only [olg_r, olg_i, olg_l, olg_n]; exact Nat.le_of_ble_eq_true rfl), fun X hX => (by show X 0 (zent 3 [va_rf r0, va_rf r1, .int x2]) [] σ; rw [show zent 3 [va_rf r0, va_rf r1, .int x2] = [some (va_rf r0), some (va_rf r1), some (.int x2)] by simp only [zent, olv_r, olv_i, olv_l, olv_n]; rfl]; exact qb_X0_instance hX hc h1)⟩
  next => cases h
def od_X0_sayInstances (n : Nat) (call : oCl) (κ : oKv) (av : List Value) (σ : oSt) : oRs := match av with
  | [x0, x1] => obn (oun x0) fun r0 => obn (oun x1) fun r1 => ob_X0_sayInstances n call κ r0 r1 σ
  | _ => none
set_option maxHeartbeats 1000000 in
theorem od_X0_sayInstances_ok : oOk 26 od_X0_sayInstances := fun κ T n call hc av σ v h => by
  unfold od_X0_sayInstances at h
  split at h
  next x0 x1 =>
    obtain ⟨r0, e0, h0⟩ := obn_e h
    obtain ⟨r1, e1, h1⟩ := obn_e h0
    rw [oun_e e0, oun_e e1]
    exact ⟨_, oM_26, (by simp only [olg_r, olg_i, olg_l, olg_n]; exact Nat.le_of_ble_eq_true rfl), fun X hX => (by show X 0 (zent 5 [va_rf r0, va_rf r1]) [] σ; rw [show zent 5 [va_rf r0, va_rf r1] = [some (va_rf r0), some (va_rf r1), none, none, none] by simp only [zent, olv_r, olv_i, olv_l, olv_n]; rfl]; exact qb_X0_sayInstances hX hc h1)⟩
  next => cases h
def od_X0_shape (n : Nat) (call : oCl) (κ : oKv) (av : List Value) (σ : oSt) : oRs := match av with
  | [x0, .int x1, x2, .int x3] => obn (oun x0) fun r0 => obn (oun x2) fun r2 => ob_X0_shape n call κ r0 x1 r2 x3 σ
  | _ => none
set_option maxHeartbeats 1000000 in
theorem od_X0_shape_ok : oOk 27 od_X0_shape := fun κ T n call hc av σ v h => by
  unfold od_X0_shape at h
  split at h
  next x0 x1 x2 x3 =>
    obtain ⟨r0, e0, h0⟩ := obn_e h
    obtain ⟨r2, e2, h2⟩ := obn_e h0
    rw [oun_e e0, oun_e e2]
    exact ⟨_, oM_27, (by simp only [olg_r, olg_i, olg_l, olg_n]; exact Nat.le_of_ble_eq_true rfl), fun X hX => (by show X 0 (zent 7 [va_rf r0, .int x1, va_rf r2, .int x3]) [] σ; rw [show zent 7 [va_rf r0, .int x1, va_rf r2, .int x3] = [some (va_rf r0), some (.int x1), some (va_rf r2), some (.int x3), none, none, none] by simp only [zent, olv_r, olv_i, olv_l, olv_n]; rfl]; exact qb_X0_shape hX hc h2)⟩
  next => cases h
def od_X0_template (n : Nat) (call : oCl) (κ : oKv) (av : List Value) (σ : oSt) : oRs := match av with
  | [x0, .int x1, x2, x3] => obn (oun x0) fun r0 => obn (oun x2) fun r2 => obn (oun x3) fun r3 => ob_X0_template n call κ r0 x1 r2 r3 σ
  | _ => none
set_option maxHeartbeats 1000000 in
theorem od_X0_template_ok : oOk 28 od_X0_template := fun κ T n call hc av σ v h => by
  unfold od_X0_template at h
  split at h
  next x0 x1 x2 x3 =>
    obtain ⟨r0, e0, h0⟩ := obn_e h
    obtain ⟨r2, e2, h2⟩ := obn_e h0
    obtain ⟨r3, e3, h3⟩ := obn_e h2
    rw [oun_e e0, oun_e e2, oun_e e3]
    exact ⟨_, oM_28, (by simp only [olg_r, olg_i, olg_l, olg_n]; exact Nat.le_of_ble_eq_true rfl), fun X hX => (by show X 0 (zent 6 [va_rf r0, .int x1, va_rf r2, va_rf r3]) [] σ; rw [show zent 6 [va_rf r0, .int x1, va_rf r2, va_rf r3] = [some (va_rf r0), some (.int x1), some (va_rf r2), some (va_rf r3), none, none] by simp only [zent, olv_r, olv_i, olv_l, olv_n]; rfl]; exact qb_X0_template hX hc h3)⟩
  next => cases h
def od_X0_fitBody (n : Nat) (call : oCl) (κ : oKv) (av : List Value) (σ : oSt) : oRs := match av with
  | [x0, x1, x2, x3] => obn (oun x0) fun r0 => obn (oun x1) fun r1 => obn (oun x2) fun r2 => obn (oun x3) fun r3 => ob_X0_fitBody n call κ r0 r1 r2 r3 σ
  | _ => none
set_option maxHeartbeats 1000000 in
theorem od_X0_fitBody_ok : oOk 29 od_X0_fitBody := fun κ T n call hc av σ v h => by
  unfold od_X0_fitBody at h
  split at h
  next x0 x1 x2 x3 =>
    obtain ⟨r0, e0, h0⟩ := obn_e h
    obtain ⟨r1, e1, h1⟩ := obn_e h0
    obtain ⟨r2, e2, h2⟩ := obn_e h1
    obtain ⟨r3, e3, h3⟩ := obn_e h2
    rw [oun_e e0, oun_e e1, oun_e e2, oun_e e3]
    exact ⟨_, oM_29, (by simp only [olg_r, olg_i, olg_l, olg_n]; exact Nat.le_of_ble_eq_true rfl), fun X hX => (by show X 0 (zent 7 [va_rf r0, va_rf r1, va_rf r2, va_rf r3]) [] σ; rw [show zent 7 [va_rf r0, va_rf r1, va_rf r2, va_rf r3] = [some (va_rf r0), some (va_rf r1), some (va_rf r2), some (va_rf r3), none, none, none] by simp only [zent, olv_r, olv_i, olv_l, olv_n]; rfl]; exact qb_X0_fitBody hX hc h3)⟩
  next => cases h
def od_X0_walk (n : Nat) (call : oCl) (κ : oKv) (av : List Value) (σ : oSt) : oRs := match av with
  | [x0, x1, x2] => obn (oun x0) fun r0 => obn (oun x1) fun r1 => obn (oun x2) fun r2 => ob_X0_walk n call κ r0 r1 r2 σ
  | _ => none
set_option maxHeartbeats 1000000 in
theorem od_X0_walk_ok : oOk 30 od_X0_walk := fun κ T n call hc av σ v h => by
  unfold od_X0_walk at h
  split at h
  next x0 x1 x2 =>
    obtain ⟨r0, e0, h0⟩ := obn_e h
    obtain ⟨r1, e1, h1⟩ := obn_e h0
    obtain ⟨r2, e2, h2⟩ := obn_e h1
    rw [oun_e e0, oun_e e1, oun_e e2]
    exact ⟨_, oM_30, (by simp only [olg_r, olg_i, olg_l, olg_n]; exact Nat.le_of_ble_eq_true rfl), fun X hX => (by show X 0 (zent 3 [va_rf r0, va_rf r1, va_rf r2]) [] σ; rw [show zent 3 [va_rf r0, va_rf r1, va_rf r2] = [some (va_rf r0), some (va_rf r1), some (va_rf r2)] by simp only [zent, olv_r, olv_i, olv_l, olv_n]; rfl]; exact qb_X0_walk hX hc h2)⟩
  next => cases h
def od_X0_walkCall (n : Nat) (call : oCl) (κ : oKv) (av : List Value) (σ : oSt) : oRs := match av with
  | [x0, x1, x2] => obn (oun x0) fun r0 => obn (oun x1) fun r1 => obn (oun x2) fun r2 => ob_X0_walkCall n call κ r0 r1 r2 σ
  | _ => none
set_option maxHeartbeats 1000000 in
theorem od_X0_walkCall_ok : oOk 31 od_X0_walkCall := fun κ T n call hc av σ v h => by
  unfold od_X0_walkCall at h
  split at h
  next x0 x1 x2 =>
    obtain ⟨r0, e0, h0⟩ := obn_e h
    obtain ⟨r1, e1, h1⟩ := obn_e h0
    obtain ⟨r2, e2, h2⟩ := obn_e h1
    rw [oun_e e0, oun_e e1, oun_e e2]
    exact ⟨_, oM_31, (by simp only [olg_r, olg_i, olg_l, olg_n]; exact Nat.le_of_ble_eq_true rfl), fun X hX => (by show X 0 (zent 7 [va_rf r0, va_rf r1, va_rf r2]) [] σ; rw [show zent 7 [va_rf r0, va_rf r1, va_rf r2] = [some (va_rf r0), some (va_rf r1), some (va_rf r2), none, none, none, none] by simp only [zent, olv_r, olv_i, olv_l, olv_n]; rfl]; exact qb_X0_walkCall hX hc h2)⟩
  next => cases h
def od_X0_walkFunction (n : Nat) (call : oCl) (κ : oKv) (av : List Value) (σ : oSt) : oRs := match av with
  | [x0, x1, x2] => obn (oun x0) fun r0 => obn (oun x1) fun r1 => obn (oun x2) fun r2 => ob_X0_walkFunction n call κ r0 r1 r2 σ
  | _ => none
set_option maxHeartbeats 1000000 in
theorem od_X0_walkFunction_ok : oOk 32 od_X0_walkFunction := fun κ T n call hc av σ v h => by
  unfold od_X0_walkFunction at h
  split at h
  next x0 x1 x2 =>
    obtain ⟨r0, e0, h0⟩ := obn_e h
    obtain ⟨r1, e1, h1⟩ := obn_e h0
    obtain ⟨r2, e2, h2⟩ := obn_e h1
    rw [oun_e e0, oun_e e1, oun_e e2]
    exact ⟨_, oM_32, (by simp only [olg_r, olg_i, olg_l, olg_n]; exact Nat.le_of_ble_eq_true rfl), fun X hX => (by show X 0 (zent 4 [va_rf r0, va_rf r1, va_rf r2]) [] σ; rw [show zent 4 [va_rf r0, va_rf r1, va_rf r2] = [some (va_rf r0), some (va_rf r1), some (va_rf r2), none] by simp only [zent, olv_r, olv_i, olv_l, olv_n]; rfl]; exact qb_X0_walkFunction hX hc h2)⟩
  next => cases h
def od_X0_walkIf (n : Nat) (call : oCl) (κ : oKv) (av : List Value) (σ : oSt) : oRs := match av with
  | [x0, x1, x2] => obn (oun x0) fun r0 => obn (oun x1) fun r1 => obn (oun x2) fun r2 => ob_X0_walkIf n call κ r0 r1 r2 σ
  | _ => none
set_option maxHeartbeats 1000000 in
theorem od_X0_walkIf_ok : oOk 33 od_X0_walkIf := fun κ T n call hc av σ v h => by
  unfold od_X0_walkIf at h
  split at h
  next x0 x1 x2 =>
    obtain ⟨r0, e0, h0⟩ := obn_e h
    obtain ⟨r1, e1, h1⟩ := obn_e h0
    obtain ⟨r2, e2, h2⟩ := obn_e h1
    rw [oun_e e0, oun_e e1, oun_e e2]
    exact ⟨_, oM_33, (by simp only [olg_r, olg_i, olg_l, olg_n]; exact Nat.le_of_ble_eq_true rfl), fun X hX => (by show X 0 (zent 6 [va_rf r0, va_rf r1, va_rf r2]) [] σ; rw [show zent 6 [va_rf r0, va_rf r1, va_rf r2] = [some (va_rf r0), some (va_rf r1), some (va_rf r2), none, none, none] by simp only [zent, olv_r, olv_i, olv_l, olv_n]; rfl]; exact qb_X0_walkIf hX hc h2)⟩
  next => cases h
def od_X0_walkLet (n : Nat) (call : oCl) (κ : oKv) (av : List Value) (σ : oSt) : oRs := match av with
  | [x0, x1, x2] => obn (oun x0) fun r0 => obn (oun x1) fun r1 => obn (oun x2) fun r2 => ob_X0_walkLet n call κ r0 r1 r2 σ
  | _ => none
set_option maxHeartbeats 1000000 in
theorem od_X0_walkLet_ok : oOk 34 od_X0_walkLet := fun κ T n call hc av σ v h => by
  unfold od_X0_walkLet at h
  split at h
  next x0 x1 x2 =>
    obtain ⟨r0, e0, h0⟩ := obn_e h
    obtain ⟨r1, e1, h1⟩ := obn_e h0
    obtain ⟨r2, e2, h2⟩ := obn_e h1
    rw [oun_e e0, oun_e e1, oun_e e2]
    exact ⟨_, oM_34, (by simp only [olg_r, olg_i, olg_l, olg_n]; exact Nat.le_of_ble_eq_true rfl), fun X hX => (by show X 0 (zent 5 [va_rf r0, va_rf r1, va_rf r2]) [] σ; rw [show zent 5 [va_rf r0, va_rf r1, va_rf r2] = [some (va_rf r0), some (va_rf r1), some (va_rf r2), none, none] by simp only [zent, olv_r, olv_i, olv_l, olv_n]; rfl]; exact qb_X0_walkLet hX hc h2)⟩
  next => cases h
def od_X0_walkMatch (n : Nat) (call : oCl) (κ : oKv) (av : List Value) (σ : oSt) : oRs := match av with
  | [x0, x1, x2] => obn (oun x0) fun r0 => obn (oun x1) fun r1 => obn (oun x2) fun r2 => ob_X0_walkMatch n call κ r0 r1 r2 σ
  | _ => none
set_option maxHeartbeats 1000000 in
theorem od_X0_walkMatch_ok : oOk 35 od_X0_walkMatch := fun κ T n call hc av σ v h => by
  unfold od_X0_walkMatch at h
  split at h
  next x0 x1 x2 =>
    obtain ⟨r0, e0, h0⟩ := obn_e h
    obtain ⟨r1, e1, h1⟩ := obn_e h0
    obtain ⟨r2, e2, h2⟩ := obn_e h1
    rw [oun_e e0, oun_e e1, oun_e e2]
    exact ⟨_, oM_35, (by simp only [olg_r, olg_i, olg_l, olg_n]; exact Nat.le_of_ble_eq_true rfl), fun X hX => (by show X 0 (zent 6 [va_rf r0, va_rf r1, va_rf r2]) [] σ; rw [show zent 6 [va_rf r0, va_rf r1, va_rf r2] = [some (va_rf r0), some (va_rf r1), some (va_rf r2), none, none, none] by simp only [zent, olv_r, olv_i, olv_l, olv_n]; rfl]; exact qb_X0_walkMatch hX hc h2)⟩
  next => cases h
def od_X0_walkRec (n : Nat) (call : oCl) (κ : oKv) (av : List Value) (σ : oSt) : oRs := match av with
  | [x0, x1, x2] => obn (oun x0) fun r0 => obn (oun x1) fun r1 => obn (oun x2) fun r2 => ob_X0_walkRec n call κ r0 r1 r2 σ
  | _ => none
set_option maxHeartbeats 1000000 in
theorem od_X0_walkRec_ok : oOk 36 od_X0_walkRec := fun κ T n call hc av σ v h => by
  unfold od_X0_walkRec at h
  split at h
  next x0 x1 x2 =>
    obtain ⟨r0, e0, h0⟩ := obn_e h
    obtain ⟨r1, e1, h1⟩ := obn_e h0
    obtain ⟨r2, e2, h2⟩ := obn_e h1
    rw [oun_e e0, oun_e e1, oun_e e2]
    exact ⟨_, oM_36, (by simp only [olg_r, olg_i, olg_l, olg_n]; exact Nat.le_of_ble_eq_true rfl), fun X hX => (by show X 0 (zent 6 [va_rf r0, va_rf r1, va_rf r2]) [] σ; rw [show zent 6 [va_rf r0, va_rf r1, va_rf r2] = [some (va_rf r0), some (va_rf r1), some (va_rf r2), none, none, none] by simp only [zent, olv_r, olv_i, olv_l, olv_n]; rfl]; exact qb_X0_walkRec hX hc h2)⟩
  next => cases h
def od_X0_gather (n : Nat) (call : oCl) (κ : oKv) (av : List Value) (σ : oSt) : oRs := match av with
  | [x0] => obn (oun x0) fun r0 => ob_X0_gather n call κ r0 σ
  | _ => none
set_option maxHeartbeats 1000000 in
theorem od_X0_gather_ok : oOk 37 od_X0_gather := fun κ T n call hc av σ v h => by
  unfold od_X0_gather at h
  split at h
  next x0 =>
    obtain ⟨r0, e0, h0⟩ := obn_e h
    rw [oun_e e0]
    exact ⟨_, oM_37, (by simp only [olg_r, olg_i, olg_l, olg_n]; exact Nat.le_of_ble_eq_true rfl), fun X hX => (by show X 0 (zent 4 [va_rf r0]) [] σ; rw [show zent 4 [va_rf r0] = [some (va_rf r0), none, none, none] by simp only [zent, olv_r, olv_i, olv_l, olv_n]; rfl]; exact qb_X0_gather hX hc h0)⟩
  next => cases h
def od_X9_isFact (n : Nat) (call : oCl) (κ : oKv) (av : List Value) (σ : oSt) : oRs := match av with
  | [x0] => obn (oun x0) fun r0 => ob_X9_isFact n call κ r0 σ
  | _ => none
set_option maxHeartbeats 1000000 in
theorem od_X9_isFact_ok : oOk 38 od_X9_isFact := fun κ T n call hc av σ v h => by
  unfold od_X9_isFact at h
  split at h
  next x0 =>
    obtain ⟨r0, e0, h0⟩ := obn_e h
    rw [oun_e e0]
    exact ⟨_, oM_38, (by simp only [olg_r, olg_i, olg_l, olg_n]; exact Nat.le_of_ble_eq_true rfl), fun X hX => (by show X 0 (zent 1 [va_rf r0]) [] σ; rw [show zent 1 [va_rf r0] = [some (va_rf r0)] by simp only [zent, olv_r, olv_i, olv_l, olv_n]; rfl]; exact qb_X9_isFact hX hc h0)⟩
  next => cases h
def od_X1_isFormed (n : Nat) (call : oCl) (κ : oKv) (av : List Value) (σ : oSt) : oRs := match av with
  | [x0] => obn (oun x0) fun r0 => ob_X1_isFormed n call κ r0 σ
  | _ => none
set_option maxHeartbeats 1000000 in
theorem od_X1_isFormed_ok : oOk 39 od_X1_isFormed := fun κ T n call hc av σ v h => by
  unfold od_X1_isFormed at h
  split at h
  next x0 =>
    obtain ⟨r0, e0, h0⟩ := obn_e h
    rw [oun_e e0]
    exact ⟨_, oM_39, (by simp only [olg_r, olg_i, olg_l, olg_n]; exact Nat.le_of_ble_eq_true rfl), fun X hX => (by show X 0 (zent 4 [va_rf r0]) [] σ; rw [show zent 4 [va_rf r0] = [some (va_rf r0), none, none, none] by simp only [zent, olv_r, olv_i, olv_l, olv_n]; rfl]; exact qb_X1_isFormed hX hc h0)⟩
  next => cases h
def od_X6_makeRoom (n : Nat) (call : oCl) (κ : oKv) (av : List Value) (σ : oSt) : oRs := match av with
  | [x0, .int x1] => obn (oun x0) fun r0 => ob_X6_makeRoom n call κ r0 x1 σ
  | _ => none
set_option maxHeartbeats 1000000 in
theorem od_X6_makeRoom_ok : oOk 40 od_X6_makeRoom := fun κ T n call hc av σ v h => by
  unfold od_X6_makeRoom at h
  split at h
  next x0 x1 =>
    obtain ⟨r0, e0, h0⟩ := obn_e h
    rw [oun_e e0]
    exact ⟨_, oM_40, (by simp only [olg_r, olg_i, olg_l, olg_n]; exact Nat.le_of_ble_eq_true rfl), fun X hX => (by show X 0 (zent 2 [va_rf r0, .int x1]) [] σ; rw [show zent 2 [va_rf r0, .int x1] = [some (va_rf r0), some (.int x1)] by simp only [zent, olv_r, olv_i, olv_l, olv_n]; rfl]; exact qb_X6_makeRoom hX hc h0)⟩
  next => cases h
def od_X6_reset (n : Nat) (call : oCl) (κ : oKv) (av : List Value) (σ : oSt) : oRs := match av with
  | [x0, .int x1] => obn (oun x0) fun r0 => ob_X6_reset n call κ r0 x1 σ
  | _ => none
set_option maxHeartbeats 1000000 in
theorem od_X6_reset_ok : oOk 41 od_X6_reset := fun κ T n call hc av σ v h => by
  unfold od_X6_reset at h
  split at h
  next x0 x1 =>
    obtain ⟨r0, e0, h0⟩ := obn_e h
    rw [oun_e e0]
    exact ⟨_, oM_41, (by simp only [olg_r, olg_i, olg_l, olg_n]; exact Nat.le_of_ble_eq_true rfl), fun X hX => (by show X 0 (zent 3 [va_rf r0, .int x1]) [] σ; rw [show zent 3 [va_rf r0, .int x1] = [some (va_rf r0), some (.int x1), none] by simp only [zent, olv_r, olv_i, olv_l, olv_n]; rfl]; exact qb_X6_reset hX hc h0)⟩
  next => cases h
def od_X6_lead (n : Nat) (call : oCl) (κ : oKv) (av : List Value) (σ : oSt) : oRs := match av with
  | [x0, .int x1, .int x2, .long x3] => obn (oun x0) fun r0 => ob_X6_lead n call κ r0 x1 x2 x3 σ
  | _ => none
set_option maxHeartbeats 1000000 in
theorem od_X6_lead_ok : oOk 42 od_X6_lead := fun κ T n call hc av σ v h => by
  unfold od_X6_lead at h
  split at h
  next x0 x1 x2 x3 =>
    obtain ⟨r0, e0, h0⟩ := obn_e h
    rw [oun_e e0]
    exact ⟨_, oM_42, (by simp only [olg_r, olg_i, olg_l, olg_n]; exact Nat.le_of_ble_eq_true rfl), fun X hX => (by show X 0 (zent 11 [va_rf r0, .int x1, .int x2, .long x3]) [] σ; rw [show zent 11 [va_rf r0, .int x1, .int x2, .long x3] = [some (va_rf r0), some (.int x1), some (.int x2), some (.long x3), none, none, none, none, none, none, none] by simp only [zent, olv_r, olv_i, olv_l, olv_n]; rfl]; exact qb_X6_lead hX hc h0)⟩
  next => cases h
def od_X6_tighten (n : Nat) (call : oCl) (κ : oKv) (av : List Value) (σ : oSt) : oRs := match av with
  | [x0] => obn (oun x0) fun r0 => ob_X6_tighten n call κ r0 σ
  | _ => none
set_option maxHeartbeats 1000000 in
theorem od_X6_tighten_ok : oOk 43 od_X6_tighten := fun κ T n call hc av σ v h => by
  unfold od_X6_tighten at h
  split at h
  next x0 =>
    obtain ⟨r0, e0, h0⟩ := obn_e h
    rw [oun_e e0]
    exact ⟨_, oM_43, (by simp only [olg_r, olg_i, olg_l, olg_n]; exact Nat.le_of_ble_eq_true rfl), fun X hX => (by show X 0 (zent 8 [va_rf r0]) [] σ; rw [show zent 8 [va_rf r0] = [some (va_rf r0), none, none, none, none, none, none, none] by simp only [zent, olv_r, olv_i, olv_l, olv_n]; rfl]; exact qb_X6_tighten hX hc h0)⟩
  next => cases h
def od_X6_limit (n : Nat) (call : oCl) (κ : oKv) (av : List Value) (σ : oSt) : oRs := match av with
  | [x0, .int x1, .int x2, .long x3] => obn (oun x0) fun r0 => ob_X6_limit n call κ r0 x1 x2 x3 σ
  | _ => none
set_option maxHeartbeats 1000000 in
theorem od_X6_limit_ok : oOk 44 od_X6_limit := fun κ T n call hc av σ v h => by
  unfold od_X6_limit at h
  split at h
  next x0 x1 x2 x3 =>
    obtain ⟨r0, e0, h0⟩ := obn_e h
    rw [oun_e e0]
    exact ⟨_, oM_44, (by simp only [olg_r, olg_i, olg_l, olg_n]; exact Nat.le_of_ble_eq_true rfl), fun X hX => (by show X 0 (zent 7 [va_rf r0, .int x1, .int x2, .long x3]) [] σ; rw [show zent 7 [va_rf r0, .int x1, .int x2, .long x3] = [some (va_rf r0), some (.int x1), some (.int x2), some (.long x3), none, none, none] by simp only [zent, olv_r, olv_i, olv_l, olv_n]; rfl]; exact qb_X6_limit hX hc h0)⟩
  next => cases h
def od_X2_insteadOf (n : Nat) (call : oCl) (κ : oKv) (av : List Value) (σ : oSt) : oRs := match av with
  | [x0, x1] => obn (oun x0) fun r0 => obn (oun x1) fun r1 => ob_X2_insteadOf n call κ r0 r1 σ
  | _ => none
set_option maxHeartbeats 1000000 in
theorem od_X2_insteadOf_ok : oOk 45 od_X2_insteadOf := fun κ T n call hc av σ v h => by
  unfold od_X2_insteadOf at h
  split at h
  next x0 x1 =>
    obtain ⟨r0, e0, h0⟩ := obn_e h
    obtain ⟨r1, e1, h1⟩ := obn_e h0
    rw [oun_e e0, oun_e e1]
    exact ⟨_, oM_45, (by simp only [olg_r, olg_i, olg_l, olg_n]; exact Nat.le_of_ble_eq_true rfl), fun X hX => (by show X 0 (zent 3 [va_rf r0, va_rf r1]) [] σ; rw [show zent 3 [va_rf r0, va_rf r1] = [some (va_rf r0), some (va_rf r1), none] by simp only [zent, olv_r, olv_i, olv_l, olv_n]; rfl]; exact qb_X2_insteadOf hX hc h1)⟩
  next => cases h
def od_X2_recall (n : Nat) (call : oCl) (κ : oKv) (av : List Value) (σ : oSt) : oRs := match av with
  | [x0, .int x1] => obn (oun x0) fun r0 => ob_X2_recall n call κ r0 x1 σ
  | _ => none
set_option maxHeartbeats 1000000 in
theorem od_X2_recall_ok : oOk 46 od_X2_recall := fun κ T n call hc av σ v h => by
  unfold od_X2_recall at h
  split at h
  next x0 x1 =>
    obtain ⟨r0, e0, h0⟩ := obn_e h
    rw [oun_e e0]
    exact ⟨_, oM_46, (by simp only [olg_r, olg_i, olg_l, olg_n]; exact Nat.le_of_ble_eq_true rfl), fun X hX => (by show X 0 (zent 4 [va_rf r0, .int x1]) [] σ; rw [show zent 4 [va_rf r0, .int x1] = [some (va_rf r0), some (.int x1), none, none] by simp only [zent, olv_r, olv_i, olv_l, olv_n]; rfl]; exact qb_X2_recall hX hc h0)⟩
  next => cases h
def od_X1_side (n : Nat) (call : oCl) (κ : oKv) (av : List Value) (σ : oSt) : oRs := match av with
  | [x0, .int x1] => obn (oun x0) fun r0 => ob_X1_side n call κ r0 x1 σ
  | _ => none
set_option maxHeartbeats 1000000 in
theorem od_X1_side_ok : oOk 47 od_X1_side := fun κ T n call hc av σ v h => by
  unfold od_X1_side at h
  split at h
  next x0 x1 =>
    obtain ⟨r0, e0, h0⟩ := obn_e h
    rw [oun_e e0]
    exact ⟨_, oM_47, (by simp only [olg_r, olg_i, olg_l, olg_n]; exact Nat.le_of_ble_eq_true rfl), fun X hX => (by show X 0 (zent 2 [va_rf r0, .int x1]) [] σ; rw [show zent 2 [va_rf r0, .int x1] = [some (va_rf r0), some (.int x1)] by simp only [zent, olv_r, olv_i, olv_l, olv_n]; rfl]; exact qb_X1_side hX hc h0)⟩
  next => cases h
def od_X6_isLimited (n : Nat) (call : oCl) (κ : oKv) (av : List Value) (σ : oSt) : oRs := match av with
  | [x0, .int x1, .int x2, .long x3] => obn (oun x0) fun r0 => ob_X6_isLimited n call κ r0 x1 x2 x3 σ
  | _ => none
set_option maxHeartbeats 1000000 in
theorem od_X6_isLimited_ok : oOk 48 od_X6_isLimited := fun κ T n call hc av σ v h => by
  unfold od_X6_isLimited at h
  split at h
  next x0 x1 x2 x3 =>
    obtain ⟨r0, e0, h0⟩ := obn_e h
    rw [oun_e e0]
    exact ⟨_, oM_48, (by simp only [olg_r, olg_i, olg_l, olg_n]; exact Nat.le_of_ble_eq_true rfl), fun X hX => (by show X 0 (zent 5 [va_rf r0, .int x1, .int x2, .long x3]) [] σ; rw [show zent 5 [va_rf r0, .int x1, .int x2, .long x3] = [some (va_rf r0), some (.int x1), some (.int x2), some (.long x3), none] by simp only [zent, olv_r, olv_i, olv_l, olv_n]; rfl]; exact qb_X6_isLimited hX hc h0)⟩
  next => cases h
def od_X1_meet (n : Nat) (call : oCl) (κ : oKv) (av : List Value) (σ : oSt) : oRs := match av with
  | [x0, x1, .int x2, .int x3] => obn (oun x0) fun r0 => obn (oun x1) fun r1 => ob_X1_meet n call κ r0 r1 x2 x3 σ
  | _ => none
set_option maxHeartbeats 1000000 in
theorem od_X1_meet_ok : oOk 49 od_X1_meet := fun κ T n call hc av σ v h => by
  unfold od_X1_meet at h
  split at h
  next x0 x1 x2 x3 =>
    obtain ⟨r0, e0, h0⟩ := obn_e h
    obtain ⟨r1, e1, h1⟩ := obn_e h0
    rw [oun_e e0, oun_e e1]
    exact ⟨_, oM_49, (by simp only [olg_r, olg_i, olg_l, olg_n]; exact Nat.le_of_ble_eq_true rfl), fun X hX => (by show X 0 (zent 12 [va_rf r0, va_rf r1, .int x2, .int x3]) [] σ; rw [show zent 12 [va_rf r0, va_rf r1, .int x2, .int x3] = [some (va_rf r0), some (va_rf r1), some (.int x2), some (.int x3), none, none, none, none, none, none, none, none] by simp only [zent, olv_r, olv_i, olv_l, olv_n]; rfl]; exact qb_X1_meet hX hc h1)⟩
  next => cases h
def od_X1_learn (n : Nat) (call : oCl) (κ : oKv) (av : List Value) (σ : oSt) : oRs := match av with
  | [x0, x1, .int x2] => obn (oun x0) fun r0 => obn (oun x1) fun r1 => ob_X1_learn n call κ r0 r1 x2 σ
  | _ => none
set_option maxHeartbeats 1000000 in
theorem od_X1_learn_ok : oOk 50 od_X1_learn := fun κ T n call hc av σ v h => by
  unfold od_X1_learn at h
  split at h
  next x0 x1 x2 =>
    obtain ⟨r0, e0, h0⟩ := obn_e h
    obtain ⟨r1, e1, h1⟩ := obn_e h0
    rw [oun_e e0, oun_e e1]
    exact ⟨_, oM_50, (by simp only [olg_r, olg_i, olg_l, olg_n]; exact Nat.le_of_ble_eq_true rfl), fun X hX => (by show X 0 (zent 4 [va_rf r0, va_rf r1, .int x2]) [] σ; rw [show zent 4 [va_rf r0, va_rf r1, .int x2] = [some (va_rf r0), some (va_rf r1), some (.int x2), none] by simp only [zent, olv_r, olv_i, olv_l, olv_n]; rfl]; exact qb_X1_learn hX hc h1)⟩
  next => cases h
def od_X1_postpone (n : Nat) (call : oCl) (κ : oKv) (av : List Value) (σ : oSt) : oRs := match av with
  | [x0, x1, .int x2] => obn (oun x0) fun r0 => obn (oun x1) fun r1 => ob_X1_postpone n call κ r0 r1 x2 σ
  | _ => none
set_option maxHeartbeats 1000000 in
theorem od_X1_postpone_ok : oOk 51 od_X1_postpone := fun κ T n call hc av σ v h => by
  unfold od_X1_postpone at h
  split at h
  next x0 x1 x2 =>
    obtain ⟨r0, e0, h0⟩ := obn_e h
    obtain ⟨r1, e1, h1⟩ := obn_e h0
    rw [oun_e e0, oun_e e1]
    exact ⟨_, oM_51, (by simp only [olg_r, olg_i, olg_l, olg_n]; exact Nat.le_of_ble_eq_true rfl), fun X hX => (by show X 0 (zent 3 [va_rf r0, va_rf r1, .int x2]) [] σ; rw [show zent 3 [va_rf r0, va_rf r1, .int x2] = [some (va_rf r0), some (va_rf r1), some (.int x2)] by simp only [zent, olv_r, olv_i, olv_l, olv_n]; rfl]; exact qb_X1_postpone hX hc h1)⟩
  next => cases h
def od_X1_choose (n : Nat) (call : oCl) (κ : oKv) (av : List Value) (σ : oSt) : oRs := match av with
  | [x0, x1, .int x2] => obn (oun x0) fun r0 => obn (oun x1) fun r1 => ob_X1_choose n call κ r0 r1 x2 σ
  | _ => none
set_option maxHeartbeats 1000000 in
theorem od_X1_choose_ok : oOk 52 od_X1_choose := fun κ T n call hc av σ v h => by
  unfold od_X1_choose at h
  split at h
  next x0 x1 x2 =>
    obtain ⟨r0, e0, h0⟩ := obn_e h
    obtain ⟨r1, e1, h1⟩ := obn_e h0
    rw [oun_e e0, oun_e e1]
    exact ⟨_, oM_52, (by simp only [olg_r, olg_i, olg_l, olg_n]; exact Nat.le_of_ble_eq_true rfl), fun X hX => (by show X 0 (zent 4 [va_rf r0, va_rf r1, .int x2]) [] σ; rw [show zent 4 [va_rf r0, va_rf r1, .int x2] = [some (va_rf r0), some (va_rf r1), some (.int x2), none] by simp only [zent, olv_r, olv_i, olv_l, olv_n]; rfl]; exact qb_X1_choose hX hc h1)⟩
  next => cases h
def od_X1_opposite (n : Nat) (call : oCl) (κ : oKv) (av : List Value) (σ : oSt) : oRs := match av with
  | [.int x0] => ob_X1_opposite n call κ x0 σ
  | _ => none
set_option maxHeartbeats 1000000 in
theorem od_X1_opposite_ok : oOk 53 od_X1_opposite := fun κ T n call hc av σ v h => by
  unfold od_X1_opposite at h
  split at h
  next x0 =>
    exact ⟨_, oM_53, Nat.le_of_ble_eq_true rfl, fun X hX => qb_X1_opposite hX hc h⟩
  next => cases h
def od_X1_limit (n : Nat) (call : oCl) (κ : oKv) (av : List Value) (σ : oSt) : oRs := match av with
  | [x0, x1, .int x2, .int x3] => obn (oun x0) fun r0 => obn (oun x1) fun r1 => ob_X1_limit n call κ r0 r1 x2 x3 σ
  | _ => none
set_option maxHeartbeats 1000000 in
theorem od_X1_limit_ok : oOk 54 od_X1_limit := fun κ T n call hc av σ v h => by
  unfold od_X1_limit at h
  split at h
  next x0 x1 x2 x3 =>
    obtain ⟨r0, e0, h0⟩ := obn_e h
    obtain ⟨r1, e1, h1⟩ := obn_e h0
    rw [oun_e e0, oun_e e1]
    exact ⟨_, oM_54, (by simp only [olg_r, olg_i, olg_l, olg_n]; exact Nat.le_of_ble_eq_true rfl), fun X hX => (by show X 0 (zent 9 [va_rf r0, va_rf r1, .int x2, .int x3]) [] σ; rw [show zent 9 [va_rf r0, va_rf r1, .int x2, .int x3] = [some (va_rf r0), some (va_rf r1), some (.int x2), some (.int x3), none, none, none, none, none] by simp only [zent, olv_r, olv_i, olv_l, olv_n]; rfl]; exact qb_X1_limit hX hc h1)⟩
  next => cases h
def od_X1_compare (n : Nat) (call : oCl) (κ : oKv) (av : List Value) (σ : oSt) : oRs := match av with
  | [x0, x1, .int x2] => obn (oun x0) fun r0 => obn (oun x1) fun r1 => ob_X1_compare n call κ r0 r1 x2 σ
  | _ => none
set_option maxHeartbeats 1000000 in
theorem od_X1_compare_ok : oOk 55 od_X1_compare := fun κ T n call hc av σ v h => by
  unfold od_X1_compare at h
  split at h
  next x0 x1 x2 =>
    obtain ⟨r0, e0, h0⟩ := obn_e h
    obtain ⟨r1, e1, h1⟩ := obn_e h0
    rw [oun_e e0, oun_e e1]
    exact ⟨_, oM_55, (by simp only [olg_r, olg_i, olg_l, olg_n]; exact Nat.le_of_ble_eq_true rfl), fun X hX => (by show X 0 (zent 4 [va_rf r0, va_rf r1, .int x2]) [] σ; rw [show zent 4 [va_rf r0, va_rf r1, .int x2] = [some (va_rf r0), some (va_rf r1), some (.int x2), none] by simp only [zent, olv_r, olv_i, olv_l, olv_n]; rfl]; exact qb_X1_compare hX hc h1)⟩
  next => cases h
def od_X1_assume (n : Nat) (call : oCl) (κ : oKv) (av : List Value) (σ : oSt) : oRs := match av with
  | [x0, x1, .int x2] => obn (oun x0) fun r0 => obn (oun x1) fun r1 => ob_X1_assume n call κ r0 r1 x2 σ
  | _ => none
set_option maxHeartbeats 1000000 in
theorem od_X1_assume_ok : oOk 56 od_X1_assume := fun κ T n call hc av σ v h => by
  unfold od_X1_assume at h
  split at h
  next x0 x1 x2 =>
    obtain ⟨r0, e0, h0⟩ := obn_e h
    obtain ⟨r1, e1, h1⟩ := obn_e h0
    rw [oun_e e0, oun_e e1]
    exact ⟨_, oM_56, (by simp only [olg_r, olg_i, olg_l, olg_n]; exact Nat.le_of_ble_eq_true rfl), fun X hX => (by show X 0 (zent 4 [va_rf r0, va_rf r1, .int x2]) [] σ; rw [show zent 4 [va_rf r0, va_rf r1, .int x2] = [some (va_rf r0), some (va_rf r1), some (.int x2), none] by simp only [zent, olv_r, olv_i, olv_l, olv_n]; rfl]; exact qb_X1_assume hX hc h1)⟩
  next => cases h
def od_X1_begin (n : Nat) (call : oCl) (κ : oKv) (av : List Value) (σ : oSt) : oRs := match av with
  | [x0, x1, x2] => obn (oun x0) fun r0 => obn (oun x1) fun r1 => obn (oun x2) fun r2 => ob_X1_begin n call κ r0 r1 r2 σ
  | _ => none
set_option maxHeartbeats 1000000 in
theorem od_X1_begin_ok : oOk 57 od_X1_begin := fun κ T n call hc av σ v h => by
  unfold od_X1_begin at h
  split at h
  next x0 x1 x2 =>
    obtain ⟨r0, e0, h0⟩ := obn_e h
    obtain ⟨r1, e1, h1⟩ := obn_e h0
    obtain ⟨r2, e2, h2⟩ := obn_e h1
    rw [oun_e e0, oun_e e1, oun_e e2]
    exact ⟨_, oM_57, (by simp only [olg_r, olg_i, olg_l, olg_n]; exact Nat.le_of_ble_eq_true rfl), fun X hX => (by show X 0 (zent 5 [va_rf r0, va_rf r1, va_rf r2]) [] σ; rw [show zent 5 [va_rf r0, va_rf r1, va_rf r2] = [some (va_rf r0), some (va_rf r1), some (va_rf r2), none, none] by simp only [zent, olv_r, olv_i, olv_l, olv_n]; rfl]; exact qb_X1_begin hX hc h2)⟩
  next => cases h
def od_X6_close (n : Nat) (call : oCl) (κ : oKv) (av : List Value) (σ : oSt) : oRs := match av with
  | [x0] => obn (oun x0) fun r0 => ob_X6_close n call κ r0 σ
  | _ => none
set_option maxHeartbeats 1000000 in
theorem od_X6_close_ok : oOk 58 od_X6_close := fun κ T n call hc av σ v h => by
  unfold od_X6_close at h
  split at h
  next x0 =>
    obtain ⟨r0, e0, h0⟩ := obn_e h
    rw [oun_e e0]
    exact ⟨_, oM_58, (by simp only [olg_r, olg_i, olg_l, olg_n]; exact Nat.le_of_ble_eq_true rfl), fun X hX => (by show X 0 (zent 3 [va_rf r0]) [] σ; rw [show zent 3 [va_rf r0] = [some (va_rf r0), none, none] by simp only [zent, olv_r, olv_i, olv_l, olv_n]; rfl]; exact qb_X6_close hX hc h0)⟩
  next => cases h
def od_X1_conclude (n : Nat) (call : oCl) (κ : oKv) (av : List Value) (σ : oSt) : oRs := match av with
  | [x0] => obn (oun x0) fun r0 => ob_X1_conclude n call κ r0 σ
  | _ => none
set_option maxHeartbeats 1000000 in
theorem od_X1_conclude_ok : oOk 59 od_X1_conclude := fun κ T n call hc av σ v h => by
  unfold od_X1_conclude at h
  split at h
  next x0 =>
    obtain ⟨r0, e0, h0⟩ := obn_e h
    rw [oun_e e0]
    exact ⟨_, oM_59, (by simp only [olg_r, olg_i, olg_l, olg_n]; exact Nat.le_of_ble_eq_true rfl), fun X hX => (by show X 0 (zent 4 [va_rf r0]) [] σ; rw [show zent 4 [va_rf r0] = [some (va_rf r0), none, none, none] by simp only [zent, olv_r, olv_i, olv_l, olv_n]; rfl]; exact qb_X1_conclude hX hc h0)⟩
  next => cases h
def od_X1_isDecided (n : Nat) (call : oCl) (κ : oKv) (av : List Value) (σ : oSt) : oRs := match av with
  | [x0] => obn (oun x0) fun r0 => ob_X1_isDecided n call κ r0 σ
  | _ => none
set_option maxHeartbeats 1000000 in
theorem od_X1_isDecided_ok : oOk 60 od_X1_isDecided := fun κ T n call hc av σ v h => by
  unfold od_X1_isDecided at h
  split at h
  next x0 =>
    obtain ⟨r0, e0, h0⟩ := obn_e h
    rw [oun_e e0]
    exact ⟨_, oM_60, (by simp only [olg_r, olg_i, olg_l, olg_n]; exact Nat.le_of_ble_eq_true rfl), fun X hX => (by show X 0 (zent 1 [va_rf r0]) [] σ; rw [show zent 1 [va_rf r0] = [some (va_rf r0)] by simp only [zent, olv_r, olv_i, olv_l, olv_n]; rfl]; exact qb_X1_isDecided hX hc h0)⟩
  next => cases h
def od_X6_rise (n : Nat) (call : oCl) (κ : oKv) (av : List Value) (σ : oSt) : oRs := match av with
  | [x0] => obn (oun x0) fun r0 => ob_X6_rise n call κ r0 σ
  | _ => none
set_option maxHeartbeats 1000000 in
theorem od_X6_rise_ok : oOk 61 od_X6_rise := fun κ T n call hc av σ v h => by
  unfold od_X6_rise at h
  split at h
  next x0 =>
    obtain ⟨r0, e0, h0⟩ := obn_e h
    rw [oun_e e0]
    exact ⟨_, oM_61, (by simp only [olg_r, olg_i, olg_l, olg_n]; exact Nat.le_of_ble_eq_true rfl), fun X hX => (by show X 0 (zent 2 [va_rf r0]) [] σ; rw [show zent 2 [va_rf r0] = [some (va_rf r0), none] by simp only [zent, olv_r, olv_i, olv_l, olv_n]; rfl]; exact qb_X6_rise hX hc h0)⟩
  next => cases h
def od_X6_sink (n : Nat) (call : oCl) (κ : oKv) (av : List Value) (σ : oSt) : oRs := match av with
  | [x0] => obn (oun x0) fun r0 => ob_X6_sink n call κ r0 σ
  | _ => none
set_option maxHeartbeats 1000000 in
theorem od_X6_sink_ok : oOk 62 od_X6_sink := fun κ T n call hc av σ v h => by
  unfold od_X6_sink at h
  split at h
  next x0 =>
    obtain ⟨r0, e0, h0⟩ := obn_e h
    rw [oun_e e0]
    exact ⟨_, oM_62, (by simp only [olg_r, olg_i, olg_l, olg_n]; exact Nat.le_of_ble_eq_true rfl), fun X hX => (by show X 0 (zent 1 [va_rf r0]) [] σ; rw [show zent 1 [va_rf r0] = [some (va_rf r0)] by simp only [zent, olv_r, olv_i, olv_l, olv_n]; rfl]; exact qb_X6_sink hX hc h0)⟩
  next => cases h
def od_X1_explore (n : Nat) (call : oCl) (κ : oKv) (av : List Value) (σ : oSt) : oRs := match av with
  | [x0, .int x1] => obn (oun x0) fun r0 => ob_X1_explore n call κ r0 x1 σ
  | _ => none
set_option maxHeartbeats 1000000 in
theorem od_X1_explore_ok : oOk 63 od_X1_explore := fun κ T n call hc av σ v h => by
  unfold od_X1_explore at h
  split at h
  next x0 x1 =>
    obtain ⟨r0, e0, h0⟩ := obn_e h
    rw [oun_e e0]
    exact ⟨_, oM_63, (by simp only [olg_r, olg_i, olg_l, olg_n]; exact Nat.le_of_ble_eq_true rfl), fun X hX => (by show X 0 (zent 8 [va_rf r0, .int x1]) [] σ; rw [show zent 8 [va_rf r0, .int x1] = [some (va_rf r0), some (.int x1), none, none, none, none, none, none] by simp only [zent, olv_r, olv_i, olv_l, olv_n]; rfl]; exact qb_X1_explore hX hc h0)⟩
  next => cases h
def od_X1_isSure (n : Nat) (call : oCl) (κ : oKv) (av : List Value) (σ : oSt) : oRs := match av with
  | [x0, x1, x2] => obn (oun x0) fun r0 => obn (oun x1) fun r1 => obn (oun x2) fun r2 => ob_X1_isSure n call κ r0 r1 r2 σ
  | _ => none
set_option maxHeartbeats 1000000 in
theorem od_X1_isSure_ok : oOk 64 od_X1_isSure := fun κ T n call hc av σ v h => by
  unfold od_X1_isSure at h
  split at h
  next x0 x1 x2 =>
    obtain ⟨r0, e0, h0⟩ := obn_e h
    obtain ⟨r1, e1, h1⟩ := obn_e h0
    obtain ⟨r2, e2, h2⟩ := obn_e h1
    rw [oun_e e0, oun_e e1, oun_e e2]
    exact ⟨_, oM_64, (by simp only [olg_r, olg_i, olg_l, olg_n]; exact Nat.le_of_ble_eq_true rfl), fun X hX => (by show X 0 (zent 3 [va_rf r0, va_rf r1, va_rf r2]) [] σ; rw [show zent 3 [va_rf r0, va_rf r1, va_rf r2] = [some (va_rf r0), some (va_rf r1), some (va_rf r2)] by simp only [zent, olv_r, olv_i, olv_l, olv_n]; rfl]; exact qb_X1_isSure hX hc h2)⟩
  next => cases h
def od_X0_findDoubt (n : Nat) (call : oCl) (κ : oKv) (av : List Value) (σ : oSt) : oRs := match av with
  | [x0] => obn (oun x0) fun r0 => ob_X0_findDoubt n call κ r0 σ
  | _ => none
set_option maxHeartbeats 1000000 in
theorem od_X0_findDoubt_ok : oOk 65 od_X0_findDoubt := fun κ T n call hc av σ v h => by
  unfold od_X0_findDoubt at h
  split at h
  next x0 =>
    obtain ⟨r0, e0, h0⟩ := obn_e h
    rw [oun_e e0]
    exact ⟨_, oM_65, (by simp only [olg_r, olg_i, olg_l, olg_n]; exact Nat.le_of_ble_eq_true rfl), fun X hX => (by show X 0 (zent 3 [va_rf r0]) [] σ; rw [show zent 3 [va_rf r0] = [some (va_rf r0), none, none] by simp only [zent, olv_r, olv_i, olv_l, olv_n]; rfl]; exact qb_X0_findDoubt hX hc h0)⟩
  next => cases h
def od_X0_lastChange (n : Nat) (call : oCl) (κ : oKv) (av : List Value) (σ : oSt) : oRs := match av with
  | [x0, .int x1] => obn (oun x0) fun r0 => ob_X0_lastChange n call κ r0 x1 σ
  | _ => none
set_option maxHeartbeats 1000000 in
theorem od_X0_lastChange_ok : oOk 66 od_X0_lastChange := fun κ T n call hc av σ v h => by
  unfold od_X0_lastChange at h
  split at h
  next x0 x1 =>
    obtain ⟨r0, e0, h0⟩ := obn_e h
    rw [oun_e e0]
    exact ⟨_, oM_66, (by simp only [olg_r, olg_i, olg_l, olg_n]; exact Nat.le_of_ble_eq_true rfl), fun X hX => (by show X 0 (zent 4 [va_rf r0, .int x1]) [] σ; rw [show zent 4 [va_rf r0, .int x1] = [some (va_rf r0), some (.int x1), none, none] by simp only [zent, olv_r, olv_i, olv_l, olv_n]; rfl]; exact qb_X0_lastChange hX hc h0)⟩
  next => cases h
def od_X1_weaken (n : Nat) (call : oCl) (κ : oKv) (av : List Value) (σ : oSt) : oRs := match av with
  | [x0, x1, x2, x3] => obn (oun x0) fun r0 => obn (oun x1) fun r1 => obn (oun x2) fun r2 => obn (oun x3) fun r3 => ob_X1_weaken n call κ r0 r1 r2 r3 σ
  | _ => none
set_option maxHeartbeats 1000000 in
theorem od_X1_weaken_ok : oOk 67 od_X1_weaken := fun κ T n call hc av σ v h => by
  unfold od_X1_weaken at h
  split at h
  next x0 x1 x2 x3 =>
    obtain ⟨r0, e0, h0⟩ := obn_e h
    obtain ⟨r1, e1, h1⟩ := obn_e h0
    obtain ⟨r2, e2, h2⟩ := obn_e h1
    obtain ⟨r3, e3, h3⟩ := obn_e h2
    rw [oun_e e0, oun_e e1, oun_e e2, oun_e e3]
    exact ⟨_, oM_67, (by simp only [olg_r, olg_i, olg_l, olg_n]; exact Nat.le_of_ble_eq_true rfl), fun X hX => (by show X 0 (zent 5 [va_rf r0, va_rf r1, va_rf r2, va_rf r3]) [] σ; rw [show zent 5 [va_rf r0, va_rf r1, va_rf r2, va_rf r3] = [some (va_rf r0), some (va_rf r1), some (va_rf r2), some (va_rf r3), none] by simp only [zent, olv_r, olv_i, olv_l, olv_n]; rfl]; exact qb_X1_weaken hX hc h3)⟩
  next => cases h
def od_X0_weakenAll (n : Nat) (call : oCl) (κ : oKv) (av : List Value) (σ : oSt) : oRs := match av with
  | [x0] => obn (oun x0) fun r0 => ob_X0_weakenAll n call κ r0 σ
  | _ => none
set_option maxHeartbeats 1000000 in
theorem od_X0_weakenAll_ok : oOk 68 od_X0_weakenAll := fun κ T n call hc av σ v h => by
  unfold od_X0_weakenAll at h
  split at h
  next x0 =>
    obtain ⟨r0, e0, h0⟩ := obn_e h
    rw [oun_e e0]
    exact ⟨_, oM_68, (by simp only [olg_r, olg_i, olg_l, olg_n]; exact Nat.le_of_ble_eq_true rfl), fun X hX => (by show X 0 (zent 7 [va_rf r0]) [] σ; rw [show zent 7 [va_rf r0] = [some (va_rf r0), none, none, none, none, none, none] by simp only [zent, olv_r, olv_i, olv_l, olv_n]; rfl]; exact qb_X0_weakenAll hX hc h0)⟩
  next => cases h
def od_X6_init (n : Nat) (call : oCl) (κ : oKv) (av : List Value) (σ : oSt) : oRs := match av with
  | [x0] => obn (oun x0) fun r0 => ob_X6_init n call κ r0 σ
  | _ => none
set_option maxHeartbeats 1000000 in
theorem od_X6_init_ok : oOk 69 od_X6_init := fun κ T n call hc av σ v h => by
  unfold od_X6_init at h
  split at h
  next x0 =>
    obtain ⟨r0, e0, h0⟩ := obn_e h
    rw [oun_e e0]
    exact ⟨_, oM_69, (by simp only [olg_r, olg_i, olg_l, olg_n]; exact Nat.le_of_ble_eq_true rfl), fun X hX => (by show X 0 (zent 1 [va_rf r0]) [] σ; rw [show zent 1 [va_rf r0] = [some (va_rf r0)] by simp only [zent, olv_r, olv_i, olv_l, olv_n]; rfl]; exact qb_X6_init hX hc h0)⟩
  next => cases h
def od_X1_init (n : Nat) (call : oCl) (κ : oKv) (av : List Value) (σ : oSt) : oRs := match av with
  | [x0] => obn (oun x0) fun r0 => ob_X1_init n call κ r0 σ
  | _ => none
set_option maxHeartbeats 1000000 in
theorem od_X1_init_ok : oOk 70 od_X1_init := fun κ T n call hc av σ v h => by
  unfold od_X1_init at h
  split at h
  next x0 =>
    obtain ⟨r0, e0, h0⟩ := obn_e h
    rw [oun_e e0]
    exact ⟨_, oM_70, (by simp only [olg_r, olg_i, olg_l, olg_n]; exact Nat.le_of_ble_eq_true rfl), fun X hX => (by show X 0 (zent 1 [va_rf r0]) [] σ; rw [show zent 1 [va_rf r0] = [some (va_rf r0)] by simp only [zent, olv_r, olv_i, olv_l, olv_n]; rfl]; exact qb_X1_init hX hc h0)⟩
  next => cases h
def od_X3_init (n : Nat) (call : oCl) (κ : oKv) (av : List Value) (σ : oSt) : oRs := match av with
  | [x0] => obn (oun x0) fun r0 => ob_X3_init n call κ r0 σ
  | _ => none
set_option maxHeartbeats 1000000 in
theorem od_X3_init_ok : oOk 71 od_X3_init := fun κ T n call hc av σ v h => by
  unfold od_X3_init at h
  split at h
  next x0 =>
    obtain ⟨r0, e0, h0⟩ := obn_e h
    rw [oun_e e0]
    exact ⟨_, oM_71, (by simp only [olg_r, olg_i, olg_l, olg_n]; exact Nat.le_of_ble_eq_true rfl), fun X hX => (by show X 0 (zent 1 [va_rf r0]) [] σ; rw [show zent 1 [va_rf r0] = [some (va_rf r0)] by simp only [zent, olv_r, olv_i, olv_l, olv_n]; rfl]; exact qb_X3_init hX hc h0)⟩
  next => cases h
def od_X3_forget (n : Nat) (call : oCl) (κ : oKv) (av : List Value) (σ : oSt) : oRs := match av with
  | [x0] => obn (oun x0) fun r0 => ob_X3_forget n call κ r0 σ
  | _ => none
set_option maxHeartbeats 1000000 in
theorem od_X3_forget_ok : oOk 72 od_X3_forget := fun κ T n call hc av σ v h => by
  unfold od_X3_forget at h
  split at h
  next x0 =>
    obtain ⟨r0, e0, h0⟩ := obn_e h
    rw [oun_e e0]
    exact ⟨_, oM_72, (by simp only [olg_r, olg_i, olg_l, olg_n]; exact Nat.le_of_ble_eq_true rfl), fun X hX => (by show X 0 (zent 1 [va_rf r0]) [] σ; rw [show zent 1 [va_rf r0] = [some (va_rf r0)] by simp only [zent, olv_r, olv_i, olv_l, olv_n]; rfl]; exact qb_X3_forget hX hc h0)⟩
  next => cases h
def od_X3_take (n : Nat) (call : oCl) (κ : oKv) (av : List Value) (σ : oSt) : oRs := match av with
  | [x0, x1, .int x2] => obn (oun x0) fun r0 => obn (oun x1) fun r1 => ob_X3_take n call κ r0 r1 x2 σ
  | _ => none
set_option maxHeartbeats 1000000 in
theorem od_X3_take_ok : oOk 73 od_X3_take := fun κ T n call hc av σ v h => by
  unfold od_X3_take at h
  split at h
  next x0 x1 x2 =>
    obtain ⟨r0, e0, h0⟩ := obn_e h
    obtain ⟨r1, e1, h1⟩ := obn_e h0
    rw [oun_e e0, oun_e e1]
    exact ⟨_, oM_73, (by simp only [olg_r, olg_i, olg_l, olg_n]; exact Nat.le_of_ble_eq_true rfl), fun X hX => (by show X 0 (zent 3 [va_rf r0, va_rf r1, .int x2]) [] σ; rw [show zent 3 [va_rf r0, va_rf r1, .int x2] = [some (va_rf r0), some (va_rf r1), some (.int x2)] by simp only [zent, olv_r, olv_i, olv_l, olv_n]; rfl]; exact qb_X3_take hX hc h1)⟩
  next => cases h
def od_X3_set (n : Nat) (call : oCl) (κ : oKv) (av : List Value) (σ : oSt) : oRs := match av with
  | [x0, .int x1, .int x2, .int x3] => obn (oun x0) fun r0 => ob_X3_set n call κ r0 x1 x2 x3 σ
  | _ => none
set_option maxHeartbeats 1000000 in
theorem od_X3_set_ok : oOk 74 od_X3_set := fun κ T n call hc av σ v h => by
  unfold od_X3_set at h
  split at h
  next x0 x1 x2 x3 =>
    obtain ⟨r0, e0, h0⟩ := obn_e h
    rw [oun_e e0]
    exact ⟨_, oM_74, (by simp only [olg_r, olg_i, olg_l, olg_n]; exact Nat.le_of_ble_eq_true rfl), fun X hX => (by show X 0 (zent 4 [va_rf r0, .int x1, .int x2, .int x3]) [] σ; rw [show zent 4 [va_rf r0, .int x1, .int x2, .int x3] = [some (va_rf r0), some (.int x1), some (.int x2), some (.int x3)] by simp only [zent, olv_r, olv_i, olv_l, olv_n]; rfl]; exact qb_X3_set hX hc h0)⟩
  next => cases h
def od_X3_setElement (n : Nat) (call : oCl) (κ : oKv) (av : List Value) (σ : oSt) : oRs := match av with
  | [x0, .int x1, .int x2, .int x3] => obn (oun x0) fun r0 => ob_X3_setElement n call κ r0 x1 x2 x3 σ
  | _ => none
set_option maxHeartbeats 1000000 in
theorem od_X3_setElement_ok : oOk 75 od_X3_setElement := fun κ T n call hc av σ v h => by
  unfold od_X3_setElement at h
  split at h
  next x0 x1 x2 x3 =>
    obtain ⟨r0, e0, h0⟩ := obn_e h
    rw [oun_e e0]
    exact ⟨_, oM_75, (by simp only [olg_r, olg_i, olg_l, olg_n]; exact Nat.le_of_ble_eq_true rfl), fun X hX => (by show X 0 (zent 4 [va_rf r0, .int x1, .int x2, .int x3]) [] σ; rw [show zent 4 [va_rf r0, .int x1, .int x2, .int x3] = [some (va_rf r0), some (.int x1), some (.int x2), some (.int x3)] by simp only [zent, olv_r, olv_i, olv_l, olv_n]; rfl]; exact qb_X3_setElement hX hc h0)⟩
  next => cases h
def od_X3_room (n : Nat) (call : oCl) (κ : oKv) (av : List Value) (σ : oSt) : oRs := match av with
  | [x0, .int x1] => obn (oun x0) fun r0 => ob_X3_room n call κ r0 x1 σ
  | _ => none
set_option maxHeartbeats 1000000 in
theorem od_X3_room_ok : oOk 76 od_X3_room := fun κ T n call hc av σ v h => by
  unfold od_X3_room at h
  split at h
  next x0 x1 =>
    obtain ⟨r0, e0, h0⟩ := obn_e h
    rw [oun_e e0]
    exact ⟨_, oM_76, (by simp only [olg_r, olg_i, olg_l, olg_n]; exact Nat.le_of_ble_eq_true rfl), fun X hX => (by show X 0 (zent 2 [va_rf r0, .int x1]) [] σ; rw [show zent 2 [va_rf r0, .int x1] = [some (va_rf r0), some (.int x1)] by simp only [zent, olv_r, olv_i, olv_l, olv_n]; rfl]; exact qb_X3_room hX hc h0)⟩
  next => cases h
def od_X3_array (n : Nat) (call : oCl) (κ : oKv) (av : List Value) (σ : oSt) : oRs := match av with
  | [x0, .int x1] => obn (oun x0) fun r0 => ob_X3_array n call κ r0 x1 σ
  | _ => none
set_option maxHeartbeats 1000000 in
theorem od_X3_array_ok : oOk 77 od_X3_array := fun κ T n call hc av σ v h => by
  unfold od_X3_array at h
  split at h
  next x0 x1 =>
    obtain ⟨r0, e0, h0⟩ := obn_e h
    rw [oun_e e0]
    exact ⟨_, oM_77, (by simp only [olg_r, olg_i, olg_l, olg_n]; exact Nat.le_of_ble_eq_true rfl), fun X hX => (by show X 0 (zent 4 [va_rf r0, .int x1]) [] σ; rw [show zent 4 [va_rf r0, .int x1] = [some (va_rf r0), some (.int x1), none, none] by simp only [zent, olv_r, olv_i, olv_l, olv_n]; rfl]; exact qb_X3_array hX hc h0)⟩
  next => cases h
def od_X3_givenArray (n : Nat) (call : oCl) (κ : oKv) (av : List Value) (σ : oSt) : oRs := match av with
  | [x0, .int x1] => obn (oun x0) fun r0 => ob_X3_givenArray n call κ r0 x1 σ
  | _ => none
set_option maxHeartbeats 1000000 in
theorem od_X3_givenArray_ok : oOk 78 od_X3_givenArray := fun κ T n call hc av σ v h => by
  unfold od_X3_givenArray at h
  split at h
  next x0 x1 =>
    obtain ⟨r0, e0, h0⟩ := obn_e h
    rw [oun_e e0]
    exact ⟨_, oM_78, (by simp only [olg_r, olg_i, olg_l, olg_n]; exact Nat.le_of_ble_eq_true rfl), fun X hX => (by show X 0 (zent 4 [va_rf r0, .int x1]) [] σ; rw [show zent 4 [va_rf r0, .int x1] = [some (va_rf r0), some (.int x1), none, none] by simp only [zent, olv_r, olv_i, olv_l, olv_n]; rfl]; exact qb_X3_givenArray hX hc h0)⟩
  next => cases h
def od_X3_pair (n : Nat) (call : oCl) (κ : oKv) (av : List Value) (σ : oSt) : oRs := match av with
  | [x0, .long x1, .int x2] => obn (oun x0) fun r0 => ob_X3_pair n call κ r0 x1 x2 σ
  | _ => none
set_option maxHeartbeats 1000000 in
theorem od_X3_pair_ok : oOk 79 od_X3_pair := fun κ T n call hc av σ v h => by
  unfold od_X3_pair at h
  split at h
  next x0 x1 x2 =>
    obtain ⟨r0, e0, h0⟩ := obn_e h
    rw [oun_e e0]
    exact ⟨_, oM_79, (by simp only [olg_r, olg_i, olg_l, olg_n]; exact Nat.le_of_ble_eq_true rfl), fun X hX => (by show X 0 (zent 5 [va_rf r0, .long x1, .int x2]) [] σ; rw [show zent 5 [va_rf r0, .long x1, .int x2] = [some (va_rf r0), some (.long x1), none, some (.int x2), none] by simp only [zent, olv_r, olv_i, olv_l, olv_n]; rfl]; exact qb_X3_pair hX hc h0)⟩
  next => cases h
def od_X3_begin (n : Nat) (call : oCl) (κ : oKv) (av : List Value) (σ : oSt) : oRs := match av with
  | [x0] => obn (oun x0) fun r0 => ob_X3_begin n call κ r0 σ
  | _ => none
set_option maxHeartbeats 1000000 in
theorem od_X3_begin_ok : oOk 80 od_X3_begin := fun κ T n call hc av σ v h => by
  unfold od_X3_begin at h
  split at h
  next x0 =>
    obtain ⟨r0, e0, h0⟩ := obn_e h
    rw [oun_e e0]
    exact ⟨_, oM_80, (by simp only [olg_r, olg_i, olg_l, olg_n]; exact Nat.le_of_ble_eq_true rfl), fun X hX => (by show X 0 (zent 3 [va_rf r0]) [] σ; rw [show zent 3 [va_rf r0] = [some (va_rf r0), none, none] by simp only [zent, olv_r, olv_i, olv_l, olv_n]; rfl]; exact qb_X3_begin hX hc h0)⟩
  next => cases h
def od_X3_await (n : Nat) (call : oCl) (κ : oKv) (av : List Value) (σ : oSt) : oRs := match av with
  | [x0, x1, .int x2, .int x3] => obn (oun x0) fun r0 => obn (oun x1) fun r1 => ob_X3_await n call κ r0 r1 x2 x3 σ
  | _ => none
set_option maxHeartbeats 1000000 in
theorem od_X3_await_ok : oOk 81 od_X3_await := fun κ T n call hc av σ v h => by
  unfold od_X3_await at h
  split at h
  next x0 x1 x2 x3 =>
    obtain ⟨r0, e0, h0⟩ := obn_e h
    obtain ⟨r1, e1, h1⟩ := obn_e h0
    rw [oun_e e0, oun_e e1]
    exact ⟨_, oM_81, (by simp only [olg_r, olg_i, olg_l, olg_n]; exact Nat.le_of_ble_eq_true rfl), fun X hX => (by show X 0 (zent 4 [va_rf r0, va_rf r1, .int x2, .int x3]) [] σ; rw [show zent 4 [va_rf r0, va_rf r1, .int x2, .int x3] = [some (va_rf r0), some (va_rf r1), some (.int x2), some (.int x3)] by simp only [zent, olv_r, olv_i, olv_l, olv_n]; rfl]; exact qb_X3_await hX hc h1)⟩
  next => cases h
def od_X3_triple (n : Nat) (call : oCl) (κ : oKv) (av : List Value) (σ : oSt) : oRs := match av with
  | [x0, .long x1, .long x2, .long x3] => obn (oun x0) fun r0 => ob_X3_triple n call κ r0 x1 x2 x3 σ
  | _ => none
set_option maxHeartbeats 1000000 in
theorem od_X3_triple_ok : oOk 82 od_X3_triple := fun κ T n call hc av σ v h => by
  unfold od_X3_triple at h
  split at h
  next x0 x1 x2 x3 =>
    obtain ⟨r0, e0, h0⟩ := obn_e h
    rw [oun_e e0]
    exact ⟨_, oM_82, (by simp only [olg_r, olg_i, olg_l, olg_n]; exact Nat.le_of_ble_eq_true rfl), fun X hX => (by show X 0 (zent 8 [va_rf r0, .long x1, .long x2, .long x3]) [] σ; rw [show zent 8 [va_rf r0, .long x1, .long x2, .long x3] = [some (va_rf r0), some (.long x1), none, some (.long x2), none, some (.long x3), none, none] by simp only [zent, olv_r, olv_i, olv_l, olv_n]; rfl]; exact qb_X3_triple hX hc h0)⟩
  next => cases h
def od_X3_valueOf (n : Nat) (call : oCl) (κ : oKv) (av : List Value) (σ : oSt) : oRs := match av with
  | [x0, x1, .int x2] => obn (oun x0) fun r0 => obn (oun x1) fun r1 => ob_X3_valueOf n call κ r0 r1 x2 σ
  | _ => none
set_option maxHeartbeats 1000000 in
theorem od_X3_valueOf_ok : oOk 83 od_X3_valueOf := fun κ T n call hc av σ v h => by
  unfold od_X3_valueOf at h
  split at h
  next x0 x1 x2 =>
    obtain ⟨r0, e0, h0⟩ := obn_e h
    obtain ⟨r1, e1, h1⟩ := obn_e h0
    rw [oun_e e0, oun_e e1]
    exact ⟨_, oM_83, (by simp only [olg_r, olg_i, olg_l, olg_n]; exact Nat.le_of_ble_eq_true rfl), fun X hX => (by show X 0 (zent 5 [va_rf r0, va_rf r1, .int x2]) [] σ; rw [show zent 5 [va_rf r0, va_rf r1, .int x2] = [some (va_rf r0), some (va_rf r1), some (.int x2), none, none] by simp only [zent, olv_r, olv_i, olv_l, olv_n]; rfl]; exact qb_X3_valueOf hX hc h1)⟩
  next => cases h
def od_X3_measure (n : Nat) (call : oCl) (κ : oKv) (av : List Value) (σ : oSt) : oRs := match av with
  | [x0, .long x1, .int x2] => obn (oun x0) fun r0 => ob_X3_measure n call κ r0 x1 x2 σ
  | _ => none
set_option maxHeartbeats 1000000 in
theorem od_X3_measure_ok : oOk 84 od_X3_measure := fun κ T n call hc av σ v h => by
  unfold od_X3_measure at h
  split at h
  next x0 x1 x2 =>
    obtain ⟨r0, e0, h0⟩ := obn_e h
    rw [oun_e e0]
    exact ⟨_, oM_84, (by simp only [olg_r, olg_i, olg_l, olg_n]; exact Nat.le_of_ble_eq_true rfl), fun X hX => (by show X 0 (zent 5 [va_rf r0, .long x1, .int x2]) [] σ; rw [show zent 5 [va_rf r0, .long x1, .int x2] = [some (va_rf r0), some (.long x1), none, some (.int x2), none] by simp only [zent, olv_r, olv_i, olv_l, olv_n]; rfl]; exact qb_X3_measure hX hc h0)⟩
  next => cases h
def od_X3_sum (n : Nat) (call : oCl) (κ : oKv) (av : List Value) (σ : oSt) : oRs := match av with
  | [x0, x1] => obn (oun x0) fun r0 => obn (oun x1) fun r1 => ob_X3_sum n call κ r0 r1 σ
  | _ => none
set_option maxHeartbeats 1000000 in
theorem od_X3_sum_ok : oOk 85 od_X3_sum := fun κ T n call hc av σ v h => by
  unfold od_X3_sum at h
  split at h
  next x0 x1 =>
    obtain ⟨r0, e0, h0⟩ := obn_e h
    obtain ⟨r1, e1, h1⟩ := obn_e h0
    rw [oun_e e0, oun_e e1]
    exact ⟨_, oM_85, (by simp only [olg_r, olg_i, olg_l, olg_n]; exact Nat.le_of_ble_eq_true rfl), fun X hX => (by show X 0 (zent 6 [va_rf r0, va_rf r1]) [] σ; rw [show zent 6 [va_rf r0, va_rf r1] = [some (va_rf r0), some (va_rf r1), none, none, none, none] by simp only [zent, olv_r, olv_i, olv_l, olv_n]; rfl]; exact qb_X3_sum hX hc h1)⟩
  next => cases h
def od_X3_stands (n : Nat) (call : oCl) (κ : oKv) (av : List Value) (σ : oSt) : oRs := match av with
  | [x0, .long x1, .int x2, x3] => obn (oun x0) fun r0 => obn (oun x3) fun r3 => ob_X3_stands n call κ r0 x1 x2 r3 σ
  | _ => none
set_option maxHeartbeats 1000000 in
theorem od_X3_stands_ok : oOk 86 od_X3_stands := fun κ T n call hc av σ v h => by
  unfold od_X3_stands at h
  split at h
  next x0 x1 x2 x3 =>
    obtain ⟨r0, e0, h0⟩ := obn_e h
    obtain ⟨r3, e3, h3⟩ := obn_e h0
    rw [oun_e e0, oun_e e3]
    exact ⟨_, oM_86, (by simp only [olg_r, olg_i, olg_l, olg_n]; exact Nat.le_of_ble_eq_true rfl), fun X hX => (by show X 0 (zent 7 [va_rf r0, .long x1, .int x2, va_rf r3]) [] σ; rw [show zent 7 [va_rf r0, .long x1, .int x2, va_rf r3] = [some (va_rf r0), some (.long x1), none, some (.int x2), some (va_rf r3), none, none] by simp only [zent, olv_r, olv_i, olv_l, olv_n]; rfl]; exact qb_X3_stands hX hc h3)⟩
  next => cases h
def od_X3_holds (n : Nat) (call : oCl) (κ : oKv) (av : List Value) (σ : oSt) : oRs := match av with
  | [x0, x1] => obn (oun x0) fun r0 => obn (oun x1) fun r1 => ob_X3_holds n call κ r0 r1 σ
  | _ => none
set_option maxHeartbeats 1000000 in
theorem od_X3_holds_ok : oOk 87 od_X3_holds := fun κ T n call hc av σ v h => by
  unfold od_X3_holds at h
  split at h
  next x0 x1 =>
    obtain ⟨r0, e0, h0⟩ := obn_e h
    obtain ⟨r1, e1, h1⟩ := obn_e h0
    rw [oun_e e0, oun_e e1]
    exact ⟨_, oM_87, (by simp only [olg_r, olg_i, olg_l, olg_n]; exact Nat.le_of_ble_eq_true rfl), fun X hX => (by show X 0 (zent 4 [va_rf r0, va_rf r1]) [] σ; rw [show zent 4 [va_rf r0, va_rf r1] = [some (va_rf r0), some (va_rf r1), none, none] by simp only [zent, olv_r, olv_i, olv_l, olv_n]; rfl]; exact qb_X3_holds hX hc h1)⟩
  next => cases h
def od_X3_elementOf (n : Nat) (call : oCl) (κ : oKv) (av : List Value) (σ : oSt) : oRs := match av with
  | [x0, x1] => obn (oun x0) fun r0 => obn (oun x1) fun r1 => ob_X3_elementOf n call κ r0 r1 σ
  | _ => none
set_option maxHeartbeats 1000000 in
theorem od_X3_elementOf_ok : oOk 88 od_X3_elementOf := fun κ T n call hc av σ v h => by
  unfold od_X3_elementOf at h
  split at h
  next x0 x1 =>
    obtain ⟨r0, e0, h0⟩ := obn_e h
    obtain ⟨r1, e1, h1⟩ := obn_e h0
    rw [oun_e e0, oun_e e1]
    exact ⟨_, oM_88, (by simp only [olg_r, olg_i, olg_l, olg_n]; exact Nat.le_of_ble_eq_true rfl), fun X hX => (by show X 0 (zent 5 [va_rf r0, va_rf r1]) [] σ; rw [show zent 5 [va_rf r0, va_rf r1] = [some (va_rf r0), some (va_rf r1), none, none, none] by simp only [zent, olv_r, olv_i, olv_l, olv_n]; rfl]; exact qb_X3_elementOf hX hc h1)⟩
  next => cases h
def od_X3_change (n : Nat) (call : oCl) (κ : oKv) (av : List Value) (σ : oSt) : oRs := match av with
  | [x0, x1] => obn (oun x0) fun r0 => obn (oun x1) fun r1 => ob_X3_change n call κ r0 r1 σ
  | _ => none
set_option maxHeartbeats 1000000 in
theorem od_X3_change_ok : oOk 89 od_X3_change := fun κ T n call hc av σ v h => by
  unfold od_X3_change at h
  split at h
  next x0 x1 =>
    obtain ⟨r0, e0, h0⟩ := obn_e h
    obtain ⟨r1, e1, h1⟩ := obn_e h0
    rw [oun_e e0, oun_e e1]
    exact ⟨_, oM_89, (by simp only [olg_r, olg_i, olg_l, olg_n]; exact Nat.le_of_ble_eq_true rfl), fun X hX => (by show X 0 (zent 5 [va_rf r0, va_rf r1]) [] σ; rw [show zent 5 [va_rf r0, va_rf r1] = [some (va_rf r0), some (va_rf r1), none, none, none] by simp only [zent, olv_r, olv_i, olv_l, olv_n]; rfl]; exact qb_X3_change hX hc h1)⟩
  next => cases h
def od_X3_match (n : Nat) (call : oCl) (κ : oKv) (av : List Value) (σ : oSt) : oRs := match av with
  | [x0, x1] => obn (oun x0) fun r0 => obn (oun x1) fun r1 => ob_X3_match n call κ r0 r1 σ
  | _ => none
set_option maxHeartbeats 1000000 in
theorem od_X3_match_ok : oOk 90 od_X3_match := fun κ T n call hc av σ v h => by
  unfold od_X3_match at h
  split at h
  next x0 x1 =>
    obtain ⟨r0, e0, h0⟩ := obn_e h
    obtain ⟨r1, e1, h1⟩ := obn_e h0
    rw [oun_e e0, oun_e e1]
    exact ⟨_, oM_90, (by simp only [olg_r, olg_i, olg_l, olg_n]; exact Nat.le_of_ble_eq_true rfl), fun X hX => (by show X 0 (zent 3 [va_rf r0, va_rf r1]) [] σ; rw [show zent 3 [va_rf r0, va_rf r1] = [some (va_rf r0), some (va_rf r1), none] by simp only [zent, olv_r, olv_i, olv_l, olv_n]; rfl]; exact qb_X3_match hX hc h1)⟩
  next => cases h
def od_X3_argument (n : Nat) (call : oCl) (κ : oKv) (av : List Value) (σ : oSt) : oRs := match av with
  | [x0, x1] => obn (oun x0) fun r0 => obn (oun x1) fun r1 => ob_X3_argument n call κ r0 r1 σ
  | _ => none
set_option maxHeartbeats 1000000 in
theorem od_X3_argument_ok : oOk 91 od_X3_argument := fun κ T n call hc av σ v h => by
  unfold od_X3_argument at h
  split at h
  next x0 x1 =>
    obtain ⟨r0, e0, h0⟩ := obn_e h
    obtain ⟨r1, e1, h1⟩ := obn_e h0
    rw [oun_e e0, oun_e e1]
    exact ⟨_, oM_91, (by simp only [olg_r, olg_i, olg_l, olg_n]; exact Nat.le_of_ble_eq_true rfl), fun X hX => (by show X 0 (zent 2 [va_rf r0, va_rf r1]) [] σ; rw [show zent 2 [va_rf r0, va_rf r1] = [some (va_rf r0), some (va_rf r1)] by simp only [zent, olv_r, olv_i, olv_l, olv_n]; rfl]; exact qb_X3_argument hX hc h1)⟩
  next => cases h
def od_X3_apply (n : Nat) (call : oCl) (κ : oKv) (av : List Value) (σ : oSt) : oRs := match av with
  | [x0, .int x1, .int x2] => obn (oun x0) fun r0 => ob_X3_apply n call κ r0 x1 x2 σ
  | _ => none
set_option maxHeartbeats 1000000 in
theorem od_X3_apply_ok : oOk 92 od_X3_apply := fun κ T n call hc av σ v h => by
  unfold od_X3_apply at h
  split at h
  next x0 x1 x2 =>
    obtain ⟨r0, e0, h0⟩ := obn_e h
    rw [oun_e e0]
    exact ⟨_, oM_92, (by simp only [olg_r, olg_i, olg_l, olg_n]; exact Nat.le_of_ble_eq_true rfl), fun X hX => (by show X 0 (zent 7 [va_rf r0, .int x1, .int x2]) [] σ; rw [show zent 7 [va_rf r0, .int x1, .int x2] = [some (va_rf r0), some (.int x1), some (.int x2), none, none, none, none] by simp only [zent, olv_r, olv_i, olv_l, olv_n]; rfl]; exact qb_X3_apply hX hc h0)⟩
  next => cases h
def od_X3_call (n : Nat) (call : oCl) (κ : oKv) (av : List Value) (σ : oSt) : oRs := match av with
  | [x0, x1] => obn (oun x0) fun r0 => obn (oun x1) fun r1 => ob_X3_call n call κ r0 r1 σ
  | _ => none
set_option maxHeartbeats 1000000 in
theorem od_X3_call_ok : oOk 93 od_X3_call := fun κ T n call hc av σ v h => by
  unfold od_X3_call at h
  split at h
  next x0 x1 =>
    obtain ⟨r0, e0, h0⟩ := obn_e h
    obtain ⟨r1, e1, h1⟩ := obn_e h0
    rw [oun_e e0, oun_e e1]
    exact ⟨_, oM_93, (by simp only [olg_r, olg_i, olg_l, olg_n]; exact Nat.le_of_ble_eq_true rfl), fun X hX => (by show X 0 (zent 6 [va_rf r0, va_rf r1]) [] σ; rw [show zent 6 [va_rf r0, va_rf r1] = [some (va_rf r0), some (va_rf r1), none, none, none, none] by simp only [zent, olv_r, olv_i, olv_l, olv_n]; rfl]; exact qb_X3_call hX hc h1)⟩
  next => cases h
def od_X3_newArray (n : Nat) (call : oCl) (κ : oKv) (av : List Value) (σ : oSt) : oRs := match av with
  | [x0, .long x1] => obn (oun x0) fun r0 => ob_X3_newArray n call κ r0 x1 σ
  | _ => none
set_option maxHeartbeats 1000000 in
theorem od_X3_newArray_ok : oOk 94 od_X3_newArray := fun κ T n call hc av σ v h => by
  unfold od_X3_newArray at h
  split at h
  next x0 x1 =>
    obtain ⟨r0, e0, h0⟩ := obn_e h
    rw [oun_e e0]
    exact ⟨_, oM_94, (by simp only [olg_r, olg_i, olg_l, olg_n]; exact Nat.le_of_ble_eq_true rfl), fun X hX => (by show X 0 (zent 3 [va_rf r0, .long x1]) [] σ; rw [show zent 3 [va_rf r0, .long x1] = [some (va_rf r0), some (.long x1), none] by simp only [zent, olv_r, olv_i, olv_l, olv_n]; rfl]; exact qb_X3_newArray hX hc h0)⟩
  next => cases h
def od_X3_cons (n : Nat) (call : oCl) (κ : oKv) (av : List Value) (σ : oSt) : oRs := match av with
  | [x0, x1] => obn (oun x0) fun r0 => obn (oun x1) fun r1 => ob_X3_cons n call κ r0 r1 σ
  | _ => none
set_option maxHeartbeats 1000000 in
theorem od_X3_cons_ok : oOk 95 od_X3_cons := fun κ T n call hc av σ v h => by
  unfold od_X3_cons at h
  split at h
  next x0 x1 =>
    obtain ⟨r0, e0, h0⟩ := obn_e h
    obtain ⟨r1, e1, h1⟩ := obn_e h0
    rw [oun_e e0, oun_e e1]
    exact ⟨_, oM_95, (by simp only [olg_r, olg_i, olg_l, olg_n]; exact Nat.le_of_ble_eq_true rfl), fun X hX => (by show X 0 (zent 6 [va_rf r0, va_rf r1]) [] σ; rw [show zent 6 [va_rf r0, va_rf r1] = [some (va_rf r0), some (va_rf r1), none, none, none, none] by simp only [zent, olv_r, olv_i, olv_l, olv_n]; rfl]; exact qb_X3_cons hX hc h1)⟩
  next => cases h
def od_X3_product (n : Nat) (call : oCl) (κ : oKv) (av : List Value) (σ : oSt) : oRs := match av with
  | [x0, .long x1, x2] => obn (oun x0) fun r0 => obn (oun x2) fun r2 => ob_X3_product n call κ r0 x1 r2 σ
  | _ => none
set_option maxHeartbeats 1000000 in
theorem od_X3_product_ok : oOk 96 od_X3_product := fun κ T n call hc av σ v h => by
  unfold od_X3_product at h
  split at h
  next x0 x1 x2 =>
    obtain ⟨r0, e0, h0⟩ := obn_e h
    obtain ⟨r2, e2, h2⟩ := obn_e h0
    rw [oun_e e0, oun_e e2]
    exact ⟨_, oM_96, (by simp only [olg_r, olg_i, olg_l, olg_n]; exact Nat.le_of_ble_eq_true rfl), fun X hX => (by show X 0 (zent 6 [va_rf r0, .long x1, va_rf r2]) [] σ; rw [show zent 6 [va_rf r0, .long x1, va_rf r2] = [some (va_rf r0), some (.long x1), none, some (va_rf r2), none, none] by simp only [zent, olv_r, olv_i, olv_l, olv_n]; rfl]; exact qb_X3_product hX hc h2)⟩
  next => cases h
def od_X3_quotient (n : Nat) (call : oCl) (κ : oKv) (av : List Value) (σ : oSt) : oRs := match av with
  | [x0, x1] => obn (oun x0) fun r0 => obn (oun x1) fun r1 => ob_X3_quotient n call κ r0 r1 σ
  | _ => none
set_option maxHeartbeats 1000000 in
theorem od_X3_quotient_ok : oOk 97 od_X3_quotient := fun κ T n call hc av σ v h => by
  unfold od_X3_quotient at h
  split at h
  next x0 x1 =>
    obtain ⟨r0, e0, h0⟩ := obn_e h
    obtain ⟨r1, e1, h1⟩ := obn_e h0
    rw [oun_e e0, oun_e e1]
    exact ⟨_, oM_97, (by simp only [olg_r, olg_i, olg_l, olg_n]; exact Nat.le_of_ble_eq_true rfl), fun X hX => (by show X 0 (zent 6 [va_rf r0, va_rf r1]) [] σ; rw [show zent 6 [va_rf r0, va_rf r1] = [some (va_rf r0), some (va_rf r1), none, none, none, none] by simp only [zent, olv_r, olv_i, olv_l, olv_n]; rfl]; exact qb_X3_quotient hX hc h1)⟩
  next => cases h
def od_X3_plain (n : Nat) (call : oCl) (κ : oKv) (av : List Value) (σ : oSt) : oRs := match av with
  | [x0, x1] => obn (oun x0) fun r0 => obn (oun x1) fun r1 => ob_X3_plain n call κ r0 r1 σ
  | _ => none
set_option maxHeartbeats 1000000 in
theorem od_X3_plain_ok : oOk 98 od_X3_plain := fun κ T n call hc av σ v h => by
  unfold od_X3_plain at h
  split at h
  next x0 x1 =>
    obtain ⟨r0, e0, h0⟩ := obn_e h
    obtain ⟨r1, e1, h1⟩ := obn_e h0
    rw [oun_e e0, oun_e e1]
    exact ⟨_, oM_98, (by simp only [olg_r, olg_i, olg_l, olg_n]; exact Nat.le_of_ble_eq_true rfl), fun X hX => (by show X 0 (zent 2 [va_rf r0, va_rf r1]) [] σ; rw [show zent 2 [va_rf r0, va_rf r1] = [some (va_rf r0), some (va_rf r1)] by simp only [zent, olv_r, olv_i, olv_l, olv_n]; rfl]; exact qb_X3_plain hX hc h1)⟩
  next => cases h
def od_X3_start (n : Nat) (call : oCl) (κ : oKv) (av : List Value) (σ : oSt) : oRs := match av with
  | [x0, x1] => obn (oun x0) fun r0 => obn (oun x1) fun r1 => ob_X3_start n call κ r0 r1 σ
  | _ => none
set_option maxHeartbeats 1000000 in
theorem od_X3_start_ok : oOk 99 od_X3_start := fun κ T n call hc av σ v h => by
  unfold od_X3_start at h
  split at h
  next x0 x1 =>
    obtain ⟨r0, e0, h0⟩ := obn_e h
    obtain ⟨r1, e1, h1⟩ := obn_e h0
    rw [oun_e e0, oun_e e1]
    exact ⟨_, oM_99, (by simp only [olg_r, olg_i, olg_l, olg_n]; exact Nat.le_of_ble_eq_true rfl), fun X hX => (by show X 0 (zent 3 [va_rf r0, va_rf r1]) [] σ; rw [show zent 3 [va_rf r0, va_rf r1] = [some (va_rf r0), some (va_rf r1), none] by simp only [zent, olv_r, olv_i, olv_l, olv_n]; rfl]; exact qb_X3_start hX hc h1)⟩
  next => cases h
def od_X3_resume (n : Nat) (call : oCl) (κ : oKv) (av : List Value) (σ : oSt) : oRs := match av with
  | [x0] => obn (oun x0) fun r0 => ob_X3_resume n call κ r0 σ
  | _ => none
set_option maxHeartbeats 1000000 in
theorem od_X3_resume_ok : oOk 100 od_X3_resume := fun κ T n call hc av σ v h => by
  unfold od_X3_resume at h
  split at h
  next x0 =>
    obtain ⟨r0, e0, h0⟩ := obn_e h
    rw [oun_e e0]
    exact ⟨_, oM_100, (by simp only [olg_r, olg_i, olg_l, olg_n]; exact Nat.le_of_ble_eq_true rfl), fun X hX => (by show X 0 (zent 3 [va_rf r0]) [] σ; rw [show zent 3 [va_rf r0] = [some (va_rf r0), none, none] by simp only [zent, olv_r, olv_i, olv_l, olv_n]; rfl]; exact qb_X3_resume hX hc h0)⟩
  next => cases h
def od_X3_go (n : Nat) (call : oCl) (κ : oKv) (av : List Value) (σ : oSt) : oRs := match av with
  | [x0, .int x1] => obn (oun x0) fun r0 => ob_X3_go n call κ r0 x1 σ
  | _ => none
set_option maxHeartbeats 1000000 in
theorem od_X3_go_ok : oOk 101 od_X3_go := fun κ T n call hc av σ v h => by
  unfold od_X3_go at h
  split at h
  next x0 x1 =>
    obtain ⟨r0, e0, h0⟩ := obn_e h
    rw [oun_e e0]
    exact ⟨_, oM_101, (by simp only [olg_r, olg_i, olg_l, olg_n]; exact Nat.le_of_ble_eq_true rfl), fun X hX => (by show X 0 (zent 4 [va_rf r0, .int x1]) [] σ; rw [show zent 4 [va_rf r0, .int x1] = [some (va_rf r0), some (.int x1), none, none] by simp only [zent, olv_r, olv_i, olv_l, olv_n]; rfl]; exact qb_X3_go hX hc h0)⟩
  next => cases h
def od_X5_init (n : Nat) (call : oCl) (κ : oKv) (av : List Value) (σ : oSt) : oRs := match av with
  | [x0, .int x1, .int x2, .int x3] => obn (oun x0) fun r0 => ob_X5_init n call κ r0 x1 x2 x3 σ
  | _ => none
set_option maxHeartbeats 1000000 in
theorem od_X5_init_ok : oOk 102 od_X5_init := fun κ T n call hc av σ v h => by
  unfold od_X5_init at h
  split at h
  next x0 x1 x2 x3 =>
    obtain ⟨r0, e0, h0⟩ := obn_e h
    rw [oun_e e0]
    exact ⟨_, oM_102, (by simp only [olg_r, olg_i, olg_l, olg_n]; exact Nat.le_of_ble_eq_true rfl), fun X hX => (by show X 0 (zent 4 [va_rf r0, .int x1, .int x2, .int x3]) [] σ; rw [show zent 4 [va_rf r0, .int x1, .int x2, .int x3] = [some (va_rf r0), some (.int x1), some (.int x2), some (.int x3)] by simp only [zent, olv_r, olv_i, olv_l, olv_n]; rfl]; exact qb_X5_init hX hc h0)⟩
  next => cases h
def od_X7_init (n : Nat) (call : oCl) (κ : oKv) (av : List Value) (σ : oSt) : oRs := match av with
  | [x0, x1] => obn (oun x0) fun r0 => obn (oun x1) fun r1 => ob_X7_init n call κ r0 r1 σ
  | _ => none
set_option maxHeartbeats 1000000 in
theorem od_X7_init_ok : oOk 103 od_X7_init := fun κ T n call hc av σ v h => by
  unfold od_X7_init at h
  split at h
  next x0 x1 =>
    obtain ⟨r0, e0, h0⟩ := obn_e h
    obtain ⟨r1, e1, h1⟩ := obn_e h0
    rw [oun_e e0, oun_e e1]
    exact ⟨_, oM_103, (by simp only [olg_r, olg_i, olg_l, olg_n]; exact Nat.le_of_ble_eq_true rfl), fun X hX => (by show X 0 (zent 2 [va_rf r0, va_rf r1]) [] σ; rw [show zent 2 [va_rf r0, va_rf r1] = [some (va_rf r0), some (va_rf r1)] by simp only [zent, olv_r, olv_i, olv_l, olv_n]; rfl]; exact qb_X7_init hX hc h1)⟩
  next => cases h
def od_X7_kind (n : Nat) (call : oCl) (κ : oKv) (av : List Value) (σ : oSt) : oRs := match av with
  | [x0] => obn (oun x0) fun r0 => ob_X7_kind n call κ r0 σ
  | _ => none
set_option maxHeartbeats 1000000 in
theorem od_X7_kind_ok : oOk 104 od_X7_kind := fun κ T n call hc av σ v h => by
  unfold od_X7_kind at h
  split at h
  next x0 =>
    obtain ⟨r0, e0, h0⟩ := obn_e h
    rw [oun_e e0]
    exact ⟨_, oM_104, (by simp only [olg_r, olg_i, olg_l, olg_n]; exact Nat.le_of_ble_eq_true rfl), fun X hX => (by show X 0 (zent 1 [va_rf r0]) [] σ; rw [show zent 1 [va_rf r0] = [some (va_rf r0)] by simp only [zent, olv_r, olv_i, olv_l, olv_n]; rfl]; exact qb_X7_kind hX hc h0)⟩
  next => cases h
def od_X7_next (n : Nat) (call : oCl) (κ : oKv) (av : List Value) (σ : oSt) : oRs := match av with
  | [x0] => obn (oun x0) fun r0 => ob_X7_next n call κ r0 σ
  | _ => none
set_option maxHeartbeats 1000000 in
theorem od_X7_next_ok : oOk 105 od_X7_next := fun κ T n call hc av σ v h => by
  unfold od_X7_next at h
  split at h
  next x0 =>
    obtain ⟨r0, e0, h0⟩ := obn_e h
    rw [oun_e e0]
    exact ⟨_, oM_105, (by simp only [olg_r, olg_i, olg_l, olg_n]; exact Nat.le_of_ble_eq_true rfl), fun X hX => (by show X 0 (zent 1 [va_rf r0]) [] σ; rw [show zent 1 [va_rf r0] = [some (va_rf r0)] by simp only [zent, olv_r, olv_i, olv_l, olv_n]; rfl]; exact qb_X7_next hX hc h0)⟩
  next => cases h
def od_X7_here (n : Nat) (call : oCl) (κ : oKv) (av : List Value) (σ : oSt) : oRs := match av with
  | [x0] => obn (oun x0) fun r0 => ob_X7_here n call κ r0 σ
  | _ => none
set_option maxHeartbeats 1000000 in
theorem od_X7_here_ok : oOk 106 od_X7_here := fun κ T n call hc av σ v h => by
  unfold od_X7_here at h
  split at h
  next x0 =>
    obtain ⟨r0, e0, h0⟩ := obn_e h
    rw [oun_e e0]
    exact ⟨_, oM_106, (by simp only [olg_r, olg_i, olg_l, olg_n]; exact Nat.le_of_ble_eq_true rfl), fun X hX => (by show X 0 (zent 1 [va_rf r0]) [] σ; rw [show zent 1 [va_rf r0] = [some (va_rf r0)] by simp only [zent, olv_r, olv_i, olv_l, olv_n]; rfl]; exact qb_X7_here hX hc h0)⟩
  next => cases h
def od_X7_fail (n : Nat) (call : oCl) (κ : oKv) (av : List Value) (σ : oSt) : oRs := match av with
  | [x0] => obn (oun x0) fun r0 => ob_X7_fail n call κ r0 σ
  | _ => none
set_option maxHeartbeats 1000000 in
theorem od_X7_fail_ok : oOk 107 od_X7_fail := fun κ T n call hc av σ v h => by
  unfold od_X7_fail at h
  split at h
  next x0 =>
    obtain ⟨r0, e0, h0⟩ := obn_e h
    rw [oun_e e0]
    exact ⟨_, oM_107, (by simp only [olg_r, olg_i, olg_l, olg_n]; exact Nat.le_of_ble_eq_true rfl), fun X hX => (by show X 0 (zent 1 [va_rf r0]) [] σ; rw [show zent 1 [va_rf r0] = [some (va_rf r0)] by simp only [zent, olv_r, olv_i, olv_l, olv_n]; rfl]; exact qb_X7_fail hX hc h0)⟩
  next => cases h
def od_X7_expect (n : Nat) (call : oCl) (κ : oKv) (av : List Value) (σ : oSt) : oRs := match av with
  | [x0, .int x1] => obn (oun x0) fun r0 => ob_X7_expect n call κ r0 x1 σ
  | _ => none
set_option maxHeartbeats 1000000 in
theorem od_X7_expect_ok : oOk 108 od_X7_expect := fun κ T n call hc av σ v h => by
  unfold od_X7_expect at h
  split at h
  next x0 x1 =>
    obtain ⟨r0, e0, h0⟩ := obn_e h
    rw [oun_e e0]
    exact ⟨_, oM_108, (by simp only [olg_r, olg_i, olg_l, olg_n]; exact Nat.le_of_ble_eq_true rfl), fun X hX => (by show X 0 (zent 2 [va_rf r0, .int x1]) [] σ; rw [show zent 2 [va_rf r0, .int x1] = [some (va_rf r0), some (.int x1)] by simp only [zent, olv_r, olv_i, olv_l, olv_n]; rfl]; exact qb_X7_expect hX hc h0)⟩
  next => cases h
def od_X7_isRelation (n : Nat) (call : oCl) (κ : oKv) (av : List Value) (σ : oSt) : oRs := match av with
  | [.int x0] => ob_X7_isRelation n call κ x0 σ
  | _ => none
set_option maxHeartbeats 1000000 in
theorem od_X7_isRelation_ok : oOk 109 od_X7_isRelation := fun κ T n call hc av σ v h => by
  unfold od_X7_isRelation at h
  split at h
  next x0 =>
    exact ⟨_, oM_109, Nat.le_of_ble_eq_true rfl, fun X hX => qb_X7_isRelation hX hc h⟩
  next => cases h
def od_X11_numberOf (n : Nat) (call : oCl) (κ : oKv) (av : List Value) (σ : oSt) : oRs := match av with
  | [x0, .int x1] => obn (oun x0) fun r0 => ob_X11_numberOf n call κ r0 x1 σ
  | _ => none
set_option maxHeartbeats 1000000 in
theorem od_X11_numberOf_ok : oOk 110 od_X11_numberOf := fun κ T n call hc av σ v h => by
  unfold od_X11_numberOf at h
  split at h
  next x0 x1 =>
    obtain ⟨r0, e0, h0⟩ := obn_e h
    rw [oun_e e0]
    exact ⟨_, oM_110, (by simp only [olg_r, olg_i, olg_l, olg_n]; exact Nat.le_of_ble_eq_true rfl), fun X hX => (by show X 0 (zent 4 [va_rf r0, .int x1]) [] σ; rw [show zent 4 [va_rf r0, .int x1] = [some (va_rf r0), some (.int x1), none, none] by simp only [zent, olv_r, olv_i, olv_l, olv_n]; rfl]; exact qb_X11_numberOf hX hc h0)⟩
  next => cases h
def od_X7_readQualTerm (n : Nat) (call : oCl) (κ : oKv) (av : List Value) (σ : oSt) : oRs := match av with
  | [x0] => obn (oun x0) fun r0 => ob_X7_readQualTerm n call κ r0 σ
  | _ => none
set_option maxHeartbeats 1000000 in
theorem od_X7_readQualTerm_ok : oOk 111 od_X7_readQualTerm := fun κ T n call hc av σ v h => by
  unfold od_X7_readQualTerm at h
  split at h
  next x0 =>
    obtain ⟨r0, e0, h0⟩ := obn_e h
    rw [oun_e e0]
    exact ⟨_, oM_111, (by simp only [olg_r, olg_i, olg_l, olg_n]; exact Nat.le_of_ble_eq_true rfl), fun X hX => (by show X 0 (zent 2 [va_rf r0]) [] σ; rw [show zent 2 [va_rf r0] = [some (va_rf r0), none] by simp only [zent, olv_r, olv_i, olv_l, olv_n]; rfl]; exact qb_X7_readQualTerm hX hc h0)⟩
  next => cases h
def od_X7_readQual (n : Nat) (call : oCl) (κ : oKv) (av : List Value) (σ : oSt) : oRs := match av with
  | [x0] => obn (oun x0) fun r0 => ob_X7_readQual n call κ r0 σ
  | _ => none
set_option maxHeartbeats 1000000 in
theorem od_X7_readQual_ok : oOk 112 od_X7_readQual := fun κ T n call hc av σ v h => by
  unfold od_X7_readQual at h
  split at h
  next x0 =>
    obtain ⟨r0, e0, h0⟩ := obn_e h
    rw [oun_e e0]
    exact ⟨_, oM_112, (by simp only [olg_r, olg_i, olg_l, olg_n]; exact Nat.le_of_ble_eq_true rfl), fun X hX => (by show X 0 (zent 2 [va_rf r0]) [] σ; rw [show zent 2 [va_rf r0] = [some (va_rf r0), none] by simp only [zent, olv_r, olv_i, olv_l, olv_n]; rfl]; exact qb_X7_readQual hX hc h0)⟩
  next => cases h
def od_X11_textOf (n : Nat) (call : oCl) (κ : oKv) (av : List Value) (σ : oSt) : oRs := match av with
  | [x0, .int x1] => obn (oun x0) fun r0 => ob_X11_textOf n call κ r0 x1 σ
  | _ => none
set_option maxHeartbeats 1000000 in
theorem od_X11_textOf_ok : oOk 113 od_X11_textOf := fun κ T n call hc av σ v h => by
  unfold od_X11_textOf at h
  split at h
  next x0 x1 =>
    obtain ⟨r0, e0, h0⟩ := obn_e h
    rw [oun_e e0]
    exact ⟨_, oM_113, (by simp only [olg_r, olg_i, olg_l, olg_n]; exact Nat.le_of_ble_eq_true rfl), fun X hX => (by show X 0 (zent 2 [va_rf r0, .int x1]) [] σ; rw [show zent 2 [va_rf r0, .int x1] = [some (va_rf r0), some (.int x1)] by simp only [zent, olv_r, olv_i, olv_l, olv_n]; rfl]; exact qb_X11_textOf hX hc h0)⟩
  next => cases h
def od_X7_counts (n : Nat) (call : oCl) (κ : oKv) (av : List Value) (σ : oSt) : oRs := match av with
  | [x0, x1] => obn (oun x0) fun r0 => obn (oun x1) fun r1 => ob_X7_counts n call κ r0 r1 σ
  | _ => none
set_option maxHeartbeats 1000000 in
theorem od_X7_counts_ok : oOk 114 od_X7_counts := fun κ T n call hc av σ v h => by
  unfold od_X7_counts at h
  split at h
  next x0 x1 =>
    obtain ⟨r0, e0, h0⟩ := obn_e h
    obtain ⟨r1, e1, h1⟩ := obn_e h0
    rw [oun_e e0, oun_e e1]
    exact ⟨_, oM_114, (by simp only [olg_r, olg_i, olg_l, olg_n]; exact Nat.le_of_ble_eq_true rfl), fun X hX => (by show X 0 (zent 3 [va_rf r0, va_rf r1]) [] σ; rw [show zent 3 [va_rf r0, va_rf r1] = [some (va_rf r0), some (va_rf r1), none] by simp only [zent, olv_r, olv_i, olv_l, olv_n]; rfl]; exact qb_X7_counts hX hc h1)⟩
  next => cases h
def od_X7_tell (n : Nat) (call : oCl) (κ : oKv) (av : List Value) (σ : oSt) : oRs := match av with
  | [x0] => obn (oun x0) fun r0 => ob_X7_tell n call κ r0 σ
  | _ => none
set_option maxHeartbeats 1000000 in
theorem od_X7_tell_ok : oOk 115 od_X7_tell := fun κ T n call hc av σ v h => by
  unfold od_X7_tell at h
  split at h
  next x0 =>
    obtain ⟨r0, e0, h0⟩ := obn_e h
    rw [oun_e e0]
    exact ⟨_, oM_115, (by simp only [olg_r, olg_i, olg_l, olg_n]; exact Nat.le_of_ble_eq_true rfl), fun X hX => (by show X 0 (zent 2 [va_rf r0]) [] σ; rw [show zent 2 [va_rf r0] = [some (va_rf r0), none] by simp only [zent, olv_r, olv_i, olv_l, olv_n]; rfl]; exact qb_X7_tell hX hc h0)⟩
  next => cases h
def od_X7_count (n : Nat) (call : oCl) (κ : oKv) (av : List Value) (σ : oSt) : oRs := match av with
  | [x0, x1] => obn (oun x0) fun r0 => obn (oun x1) fun r1 => ob_X7_count n call κ r0 r1 σ
  | _ => none
set_option maxHeartbeats 1000000 in
theorem od_X7_count_ok : oOk 116 od_X7_count := fun κ T n call hc av σ v h => by
  unfold od_X7_count at h
  split at h
  next x0 x1 =>
    obtain ⟨r0, e0, h0⟩ := obn_e h
    obtain ⟨r1, e1, h1⟩ := obn_e h0
    rw [oun_e e0, oun_e e1]
    exact ⟨_, oM_116, (by simp only [olg_r, olg_i, olg_l, olg_n]; exact Nat.le_of_ble_eq_true rfl), fun X hX => (by show X 0 (zent 2 [va_rf r0, va_rf r1]) [] σ; rw [show zent 2 [va_rf r0, va_rf r1] = [some (va_rf r0), some (va_rf r1)] by simp only [zent, olv_r, olv_i, olv_l, olv_n]; rfl]; exact qb_X7_count hX hc h1)⟩
  next => cases h
def od_X7_readInput (n : Nat) (call : oCl) (κ : oKv) (av : List Value) (σ : oSt) : oRs := match av with
  | [x0] => obn (oun x0) fun r0 => ob_X7_readInput n call κ r0 σ
  | _ => none
set_option maxHeartbeats 1000000 in
theorem od_X7_readInput_ok : oOk 117 od_X7_readInput := fun κ T n call hc av σ v h => by
  unfold od_X7_readInput at h
  split at h
  next x0 =>
    obtain ⟨r0, e0, h0⟩ := obn_e h
    rw [oun_e e0]
    exact ⟨_, oM_117, (by simp only [olg_r, olg_i, olg_l, olg_n]; exact Nat.le_of_ble_eq_true rfl), fun X hX => (by show X 0 (zent 3 [va_rf r0]) [] σ; rw [show zent 3 [va_rf r0] = [some (va_rf r0), none, none] by simp only [zent, olv_r, olv_i, olv_l, olv_n]; rfl]; exact qb_X7_readInput hX hc h0)⟩
  next => cases h
def od_X7_node (n : Nat) (call : oCl) (κ : oKv) (av : List Value) (σ : oSt) : oRs := match av with
  | [x0, .int x1] => obn (oun x0) fun r0 => ob_X7_node n call κ r0 x1 σ
  | _ => none
set_option maxHeartbeats 1000000 in
theorem od_X7_node_ok : oOk 118 od_X7_node := fun κ T n call hc av σ v h => by
  unfold od_X7_node at h
  split at h
  next x0 x1 =>
    obtain ⟨r0, e0, h0⟩ := obn_e h
    rw [oun_e e0]
    exact ⟨_, oM_118, (by simp only [olg_r, olg_i, olg_l, olg_n]; exact Nat.le_of_ble_eq_true rfl), fun X hX => (by show X 0 (zent 2 [va_rf r0, .int x1]) [] σ; rw [show zent 2 [va_rf r0, .int x1] = [some (va_rf r0), some (.int x1)] by simp only [zent, olv_r, olv_i, olv_l, olv_n]; rfl]; exact qb_X7_node hX hc h0)⟩
  next => cases h
def od_X7_use (n : Nat) (call : oCl) (κ : oKv) (av : List Value) (σ : oSt) : oRs := match av with
  | [x0] => obn (oun x0) fun r0 => ob_X7_use n call κ r0 σ
  | _ => none
set_option maxHeartbeats 1000000 in
theorem od_X7_use_ok : oOk 119 od_X7_use := fun κ T n call hc av σ v h => by
  unfold od_X7_use at h
  split at h
  next x0 =>
    obtain ⟨r0, e0, h0⟩ := obn_e h
    rw [oun_e e0]
    exact ⟨_, oM_119, (by simp only [olg_r, olg_i, olg_l, olg_n]; exact Nat.le_of_ble_eq_true rfl), fun X hX => (by show X 0 (zent 2 [va_rf r0]) [] σ; rw [show zent 2 [va_rf r0] = [some (va_rf r0), none] by simp only [zent, olv_r, olv_i, olv_l, olv_n]; rfl]; exact qb_X7_use hX hc h0)⟩
  next => cases h
def od_X7_sum_ (n : Nat) (call : oCl) (κ : oKv) (av : List Value) (σ : oSt) : oRs := match av with
  | [x0, .int x1] => obn (oun x0) fun r0 => ob_X7_sum_ n call κ r0 x1 σ
  | _ => none
set_option maxHeartbeats 1000000 in
theorem od_X7_sum__ok : oOk 120 od_X7_sum_ := fun κ T n call hc av σ v h => by
  unfold od_X7_sum_ at h
  split at h
  next x0 x1 =>
    obtain ⟨r0, e0, h0⟩ := obn_e h
    rw [oun_e e0]
    exact ⟨_, oM_120, (by simp only [olg_r, olg_i, olg_l, olg_n]; exact Nat.le_of_ble_eq_true rfl), fun X hX => (by show X 0 (zent 8 [va_rf r0, .int x1]) [] σ; rw [show zent 8 [va_rf r0, .int x1] = [some (va_rf r0), some (.int x1), none, none, none, none, none, none] by simp only [zent, olv_r, olv_i, olv_l, olv_n]; rfl]; exact qb_X7_sum_ hX hc h0)⟩
  next => cases h
def od_X7_sum (n : Nat) (call : oCl) (κ : oKv) (av : List Value) (σ : oSt) : oRs := match av with
  | [x0] => obn (oun x0) fun r0 => ob_X7_sum n call κ r0 σ
  | _ => none
set_option maxHeartbeats 1000000 in
theorem od_X7_sum_ok : oOk 121 od_X7_sum := fun κ T n call hc av σ v h => by
  unfold od_X7_sum at h
  split at h
  next x0 =>
    obtain ⟨r0, e0, h0⟩ := obn_e h
    rw [oun_e e0]
    exact ⟨_, oM_121, (by simp only [olg_r, olg_i, olg_l, olg_n]; exact Nat.le_of_ble_eq_true rfl), fun X hX => (by show X 0 (zent 1 [va_rf r0]) [] σ; rw [show zent 1 [va_rf r0] = [some (va_rf r0)] by simp only [zent, olv_r, olv_i, olv_l, olv_n]; rfl]; exact qb_X7_sum hX hc h0)⟩
  next => cases h
def od_X7_blameForm (n : Nat) (call : oCl) (κ : oKv) (av : List Value) (σ : oSt) : oRs := match av with
  | [x0, .int x1] => obn (oun x0) fun r0 => ob_X7_blameForm n call κ r0 x1 σ
  | _ => none
set_option maxHeartbeats 1000000 in
theorem od_X7_blameForm_ok : oOk 122 od_X7_blameForm := fun κ T n call hc av σ v h => by
  unfold od_X7_blameForm at h
  split at h
  next x0 x1 =>
    obtain ⟨r0, e0, h0⟩ := obn_e h
    rw [oun_e e0]
    exact ⟨_, oM_122, (by simp only [olg_r, olg_i, olg_l, olg_n]; exact Nat.le_of_ble_eq_true rfl), fun X hX => (by show X 0 (zent 2 [va_rf r0, .int x1]) [] σ; rw [show zent 2 [va_rf r0, .int x1] = [some (va_rf r0), some (.int x1)] by simp only [zent, olv_r, olv_i, olv_l, olv_n]; rfl]; exact qb_X7_blameForm hX hc h0)⟩
  next => cases h
def od_X7_compare (n : Nat) (call : oCl) (κ : oKv) (av : List Value) (σ : oSt) : oRs := match av with
  | [x0, x1, .int x2] => obn (oun x0) fun r0 => obn (oun x1) fun r1 => ob_X7_compare n call κ r0 r1 x2 σ
  | _ => none
set_option maxHeartbeats 1000000 in
theorem od_X7_compare_ok : oOk 123 od_X7_compare := fun κ T n call hc av σ v h => by
  unfold od_X7_compare at h
  split at h
  next x0 x1 x2 =>
    obtain ⟨r0, e0, h0⟩ := obn_e h
    obtain ⟨r1, e1, h1⟩ := obn_e h0
    rw [oun_e e0, oun_e e1]
    exact ⟨_, oM_123, (by simp only [olg_r, olg_i, olg_l, olg_n]; exact Nat.le_of_ble_eq_true rfl), fun X hX => (by show X 0 (zent 4 [va_rf r0, va_rf r1, .int x2]) [] σ; rw [show zent 4 [va_rf r0, va_rf r1, .int x2] = [some (va_rf r0), some (va_rf r1), some (.int x2), none] by simp only [zent, olv_r, olv_i, olv_l, olv_n]; rfl]; exact qb_X7_compare hX hc h1)⟩
  next => cases h
def od_X9_addAll (n : Nat) (call : oCl) (κ : oKv) (av : List Value) (σ : oSt) : oRs := match av with
  | [x0, x1, .int x2] => obn (oun x0) fun r0 => obn (oun x1) fun r1 => ob_X9_addAll n call κ r0 r1 x2 σ
  | _ => none
set_option maxHeartbeats 1000000 in
theorem od_X9_addAll_ok : oOk 124 od_X9_addAll := fun κ T n call hc av σ v h => by
  unfold od_X9_addAll at h
  split at h
  next x0 x1 x2 =>
    obtain ⟨r0, e0, h0⟩ := obn_e h
    obtain ⟨r1, e1, h1⟩ := obn_e h0
    rw [oun_e e0, oun_e e1]
    exact ⟨_, oM_124, (by simp only [olg_r, olg_i, olg_l, olg_n]; exact Nat.le_of_ble_eq_true rfl), fun X hX => (by show X 0 (zent 4 [va_rf r0, va_rf r1, .int x2]) [] σ; rw [show zent 4 [va_rf r0, va_rf r1, .int x2] = [some (va_rf r0), some (va_rf r1), some (.int x2), none] by simp only [zent, olv_r, olv_i, olv_l, olv_n]; rfl]; exact qb_X9_addAll hX hc h1)⟩
  next => cases h
def od_X7_comparison (n : Nat) (call : oCl) (κ : oKv) (av : List Value) (σ : oSt) : oRs := match av with
  | [x0, x1] => obn (oun x0) fun r0 => obn (oun x1) fun r1 => ob_X7_comparison n call κ r0 r1 σ
  | _ => none
set_option maxHeartbeats 1000000 in
theorem od_X7_comparison_ok : oOk 125 od_X7_comparison := fun κ T n call hc av σ v h => by
  unfold od_X7_comparison at h
  split at h
  next x0 x1 =>
    obtain ⟨r0, e0, h0⟩ := obn_e h
    obtain ⟨r1, e1, h1⟩ := obn_e h0
    rw [oun_e e0, oun_e e1]
    exact ⟨_, oM_125, (by simp only [olg_r, olg_i, olg_l, olg_n]; exact Nat.le_of_ble_eq_true rfl), fun X hX => (by show X 0 (zent 2 [va_rf r0, va_rf r1]) [] σ; rw [show zent 2 [va_rf r0, va_rf r1] = [some (va_rf r0), some (va_rf r1)] by simp only [zent, olv_r, olv_i, olv_l, olv_n]; rfl]; exact qb_X7_comparison hX hc h1)⟩
  next => cases h
def od_X7_both (n : Nat) (call : oCl) (κ : oKv) (av : List Value) (σ : oSt) : oRs := match av with
  | [x0, .int x1] => obn (oun x0) fun r0 => ob_X7_both n call κ r0 x1 σ
  | _ => none
set_option maxHeartbeats 1000000 in
theorem od_X7_both_ok : oOk 126 od_X7_both := fun κ T n call hc av σ v h => by
  unfold od_X7_both at h
  split at h
  next x0 x1 =>
    obtain ⟨r0, e0, h0⟩ := obn_e h
    rw [oun_e e0]
    exact ⟨_, oM_126, (by simp only [olg_r, olg_i, olg_l, olg_n]; exact Nat.le_of_ble_eq_true rfl), fun X hX => (by show X 0 (zent 5 [va_rf r0, .int x1]) [] σ; rw [show zent 5 [va_rf r0, .int x1] = [some (va_rf r0), some (.int x1), none, none, none] by simp only [zent, olv_r, olv_i, olv_l, olv_n]; rfl]; exact qb_X7_both hX hc h0)⟩
  next => cases h
def od_X7_either (n : Nat) (call : oCl) (κ : oKv) (av : List Value) (σ : oSt) : oRs := match av with
  | [x0, .int x1] => obn (oun x0) fun r0 => ob_X7_either n call κ r0 x1 σ
  | _ => none
set_option maxHeartbeats 1000000 in
theorem od_X7_either_ok : oOk 127 od_X7_either := fun κ T n call hc av σ v h => by
  unfold od_X7_either at h
  split at h
  next x0 x1 =>
    obtain ⟨r0, e0, h0⟩ := obn_e h
    rw [oun_e e0]
    exact ⟨_, oM_127, (by simp only [olg_r, olg_i, olg_l, olg_n]; exact Nat.le_of_ble_eq_true rfl), fun X hX => (by show X 0 (zent 5 [va_rf r0, .int x1]) [] σ; rw [show zent 5 [va_rf r0, .int x1] = [some (va_rf r0), some (.int x1), none, none, none] by simp only [zent, olv_r, olv_i, olv_l, olv_n]; rfl]; exact qb_X7_either hX hc h0)⟩
  next => cases h
def od_X7_single (n : Nat) (call : oCl) (κ : oKv) (av : List Value) (σ : oSt) : oRs := match av with
  | [x0, .int x1] => obn (oun x0) fun r0 => ob_X7_single n call κ r0 x1 σ
  | _ => none
set_option maxHeartbeats 1000000 in
theorem od_X7_single_ok : oOk 128 od_X7_single := fun κ T n call hc av σ v h => by
  unfold od_X7_single at h
  split at h
  next x0 x1 =>
    obtain ⟨r0, e0, h0⟩ := obn_e h
    rw [oun_e e0]
    exact ⟨_, oM_128, (by simp only [olg_r, olg_i, olg_l, olg_n]; exact Nat.le_of_ble_eq_true rfl), fun X hX => (by show X 0 (zent 3 [va_rf r0, .int x1]) [] σ; rw [show zent 3 [va_rf r0, .int x1] = [some (va_rf r0), some (.int x1), none] by simp only [zent, olv_r, olv_i, olv_l, olv_n]; rfl]; exact qb_X7_single hX hc h0)⟩
  next => cases h
def od_X7_test (n : Nat) (call : oCl) (κ : oKv) (av : List Value) (σ : oSt) : oRs := match av with
  | [x0, .int x1] => obn (oun x0) fun r0 => ob_X7_test n call κ r0 x1 σ
  | _ => none
set_option maxHeartbeats 1000000 in
theorem od_X7_test_ok : oOk 129 od_X7_test := fun κ T n call hc av σ v h => by
  unfold od_X7_test at h
  split at h
  next x0 x1 =>
    obtain ⟨r0, e0, h0⟩ := obn_e h
    rw [oun_e e0]
    exact ⟨_, oM_129, (by simp only [olg_r, olg_i, olg_l, olg_n]; exact Nat.le_of_ble_eq_true rfl), fun X hX => (by show X 0 (zent 5 [va_rf r0, .int x1]) [] σ; rw [show zent 5 [va_rf r0, .int x1] = [some (va_rf r0), some (.int x1), none, none, none] by simp only [zent, olv_r, olv_i, olv_l, olv_n]; rfl]; exact qb_X7_test hX hc h0)⟩
  next => cases h
def od_X7_beginsArgument (n : Nat) (call : oCl) (κ : oKv) (av : List Value) (σ : oSt) : oRs := match av with
  | [.int x0] => ob_X7_beginsArgument n call κ x0 σ
  | _ => none
set_option maxHeartbeats 1000000 in
theorem od_X7_beginsArgument_ok : oOk 130 od_X7_beginsArgument := fun κ T n call hc av σ v h => by
  unfold od_X7_beginsArgument at h
  split at h
  next x0 =>
    exact ⟨_, oM_130, Nat.le_of_ble_eq_true rfl, fun X hX => qb_X7_beginsArgument hX hc h⟩
  next => cases h
def od_X7_beFunction (n : Nat) (call : oCl) (κ : oKv) (av : List Value) (σ : oSt) : oRs := match av with
  | [x0, x1] => obn (oun x0) fun r0 => obn (oun x1) fun r1 => ob_X7_beFunction n call κ r0 r1 σ
  | _ => none
set_option maxHeartbeats 1000000 in
theorem od_X7_beFunction_ok : oOk 131 od_X7_beFunction := fun κ T n call hc av σ v h => by
  unfold od_X7_beFunction at h
  split at h
  next x0 x1 =>
    obtain ⟨r0, e0, h0⟩ := obn_e h
    obtain ⟨r1, e1, h1⟩ := obn_e h0
    rw [oun_e e0, oun_e e1]
    exact ⟨_, oM_131, (by simp only [olg_r, olg_i, olg_l, olg_n]; exact Nat.le_of_ble_eq_true rfl), fun X hX => (by show X 0 (zent 2 [va_rf r0, va_rf r1]) [] σ; rw [show zent 2 [va_rf r0, va_rf r1] = [some (va_rf r0), some (va_rf r1)] by simp only [zent, olv_r, olv_i, olv_l, olv_n]; rfl]; exact qb_X7_beFunction hX hc h1)⟩
  next => cases h
def od_X7_tellParameter (n : Nat) (call : oCl) (κ : oKv) (av : List Value) (σ : oSt) : oRs := match av with
  | [x0, x1] => obn (oun x0) fun r0 => obn (oun x1) fun r1 => ob_X7_tellParameter n call κ r0 r1 σ
  | _ => none
set_option maxHeartbeats 1000000 in
theorem od_X7_tellParameter_ok : oOk 132 od_X7_tellParameter := fun κ T n call hc av σ v h => by
  unfold od_X7_tellParameter at h
  split at h
  next x0 x1 =>
    obtain ⟨r0, e0, h0⟩ := obn_e h
    obtain ⟨r1, e1, h1⟩ := obn_e h0
    rw [oun_e e0, oun_e e1]
    exact ⟨_, oM_132, (by simp only [olg_r, olg_i, olg_l, olg_n]; exact Nat.le_of_ble_eq_true rfl), fun X hX => (by show X 0 (zent 3 [va_rf r0, va_rf r1]) [] σ; rw [show zent 3 [va_rf r0, va_rf r1] = [some (va_rf r0), some (va_rf r1), none] by simp only [zent, olv_r, olv_i, olv_l, olv_n]; rfl]; exact qb_X7_tellParameter hX hc h1)⟩
  next => cases h
def od_X7_readIndex (n : Nat) (call : oCl) (κ : oKv) (av : List Value) (σ : oSt) : oRs := match av with
  | [x0, x1] => obn (oun x0) fun r0 => obn (oun x1) fun r1 => ob_X7_readIndex n call κ r0 r1 σ
  | _ => none
set_option maxHeartbeats 1000000 in
theorem od_X7_readIndex_ok : oOk 133 od_X7_readIndex := fun κ T n call hc av σ v h => by
  unfold od_X7_readIndex at h
  split at h
  next x0 x1 =>
    obtain ⟨r0, e0, h0⟩ := obn_e h
    obtain ⟨r1, e1, h1⟩ := obn_e h0
    rw [oun_e e0, oun_e e1]
    exact ⟨_, oM_133, (by simp only [olg_r, olg_i, olg_l, olg_n]; exact Nat.le_of_ble_eq_true rfl), fun X hX => (by show X 0 (zent 3 [va_rf r0, va_rf r1]) [] σ; rw [show zent 3 [va_rf r0, va_rf r1] = [some (va_rf r0), some (va_rf r1), none] by simp only [zent, olv_r, olv_i, olv_l, olv_n]; rfl]; exact qb_X7_readIndex hX hc h1)⟩
  next => cases h
def od_X7_argument (n : Nat) (call : oCl) (κ : oKv) (av : List Value) (σ : oSt) : oRs := match av with
  | [x0, .int x1] => obn (oun x0) fun r0 => ob_X7_argument n call κ r0 x1 σ
  | _ => none
set_option maxHeartbeats 1000000 in
theorem od_X7_argument_ok : oOk 134 od_X7_argument := fun κ T n call hc av σ v h => by
  unfold od_X7_argument at h
  split at h
  next x0 x1 =>
    obtain ⟨r0, e0, h0⟩ := obn_e h
    rw [oun_e e0]
    exact ⟨_, oM_134, (by simp only [olg_r, olg_i, olg_l, olg_n]; exact Nat.le_of_ble_eq_true rfl), fun X hX => (by show X 0 (zent 4 [va_rf r0, .int x1]) [] σ; rw [show zent 4 [va_rf r0, .int x1] = [some (va_rf r0), some (.int x1), none, none] by simp only [zent, olv_r, olv_i, olv_l, olv_n]; rfl]; exact qb_X7_argument hX hc h0)⟩
  next => cases h
def od_X7_expression (n : Nat) (call : oCl) (κ : oKv) (av : List Value) (σ : oSt) : oRs := match av with
  | [x0, .int x1] => obn (oun x0) fun r0 => ob_X7_expression n call κ r0 x1 σ
  | _ => none
set_option maxHeartbeats 1000000 in
theorem od_X7_expression_ok : oOk 135 od_X7_expression := fun κ T n call hc av σ v h => by
  unfold od_X7_expression at h
  split at h
  next x0 x1 =>
    obtain ⟨r0, e0, h0⟩ := obn_e h
    rw [oun_e e0]
    exact ⟨_, oM_135, (by simp only [olg_r, olg_i, olg_l, olg_n]; exact Nat.le_of_ble_eq_true rfl), fun X hX => (by show X 0 (zent 3 [va_rf r0, .int x1]) [] σ; rw [show zent 3 [va_rf r0, .int x1] = [some (va_rf r0), some (.int x1), none] by simp only [zent, olv_r, olv_i, olv_l, olv_n]; rfl]; exact qb_X7_expression hX hc h0)⟩
  next => cases h
def od_X7_readAssert (n : Nat) (call : oCl) (κ : oKv) (av : List Value) (σ : oSt) : oRs := match av with
  | [x0, x1, .int x2] => obn (oun x0) fun r0 => obn (oun x1) fun r1 => ob_X7_readAssert n call κ r0 r1 x2 σ
  | _ => none
set_option maxHeartbeats 1000000 in
theorem od_X7_readAssert_ok : oOk 136 od_X7_readAssert := fun κ T n call hc av σ v h => by
  unfold od_X7_readAssert at h
  split at h
  next x0 x1 x2 =>
    obtain ⟨r0, e0, h0⟩ := obn_e h
    obtain ⟨r1, e1, h1⟩ := obn_e h0
    rw [oun_e e0, oun_e e1]
    exact ⟨_, oM_136, (by simp only [olg_r, olg_i, olg_l, olg_n]; exact Nat.le_of_ble_eq_true rfl), fun X hX => (by show X 0 (zent 4 [va_rf r0, va_rf r1, .int x2]) [] σ; rw [show zent 4 [va_rf r0, va_rf r1, .int x2] = [some (va_rf r0), some (va_rf r1), some (.int x2), none] by simp only [zent, olv_r, olv_i, olv_l, olv_n]; rfl]; exact qb_X7_readAssert hX hc h1)⟩
  next => cases h
def od_X7_readCall (n : Nat) (call : oCl) (κ : oKv) (av : List Value) (σ : oSt) : oRs := match av with
  | [x0, .int x1] => obn (oun x0) fun r0 => ob_X7_readCall n call κ r0 x1 σ
  | _ => none
set_option maxHeartbeats 1000000 in
theorem od_X7_readCall_ok : oOk 137 od_X7_readCall := fun κ T n call hc av σ v h => by
  unfold od_X7_readCall at h
  split at h
  next x0 x1 =>
    obtain ⟨r0, e0, h0⟩ := obn_e h
    rw [oun_e e0]
    exact ⟨_, oM_137, (by simp only [olg_r, olg_i, olg_l, olg_n]; exact Nat.le_of_ble_eq_true rfl), fun X hX => (by show X 0 (zent 4 [va_rf r0, .int x1]) [] σ; rw [show zent 4 [va_rf r0, .int x1] = [some (va_rf r0), some (.int x1), none, none] by simp only [zent, olv_r, olv_i, olv_l, olv_n]; rfl]; exact qb_X7_readCall hX hc h0)⟩
  next => cases h
def od_X7_readFunction (n : Nat) (call : oCl) (κ : oKv) (av : List Value) (σ : oSt) : oRs := match av with
  | [x0, x1, .int x2] => obn (oun x0) fun r0 => obn (oun x1) fun r1 => ob_X7_readFunction n call κ r0 r1 x2 σ
  | _ => none
set_option maxHeartbeats 1000000 in
theorem od_X7_readFunction_ok : oOk 138 od_X7_readFunction := fun κ T n call hc av σ v h => by
  unfold od_X7_readFunction at h
  split at h
  next x0 x1 x2 =>
    obtain ⟨r0, e0, h0⟩ := obn_e h
    obtain ⟨r1, e1, h1⟩ := obn_e h0
    rw [oun_e e0, oun_e e1]
    exact ⟨_, oM_138, (by simp only [olg_r, olg_i, olg_l, olg_n]; exact Nat.le_of_ble_eq_true rfl), fun X hX => (by show X 0 (zent 3 [va_rf r0, va_rf r1, .int x2]) [] σ; rw [show zent 3 [va_rf r0, va_rf r1, .int x2] = [some (va_rf r0), some (va_rf r1), some (.int x2)] by simp only [zent, olv_r, olv_i, olv_l, olv_n]; rfl]; exact qb_X7_readFunction hX hc h1)⟩
  next => cases h
def od_X7_readIf (n : Nat) (call : oCl) (κ : oKv) (av : List Value) (σ : oSt) : oRs := match av with
  | [x0, x1, .int x2] => obn (oun x0) fun r0 => obn (oun x1) fun r1 => ob_X7_readIf n call κ r0 r1 x2 σ
  | _ => none
set_option maxHeartbeats 1000000 in
theorem od_X7_readIf_ok : oOk 139 od_X7_readIf := fun κ T n call hc av σ v h => by
  unfold od_X7_readIf at h
  split at h
  next x0 x1 x2 =>
    obtain ⟨r0, e0, h0⟩ := obn_e h
    obtain ⟨r1, e1, h1⟩ := obn_e h0
    rw [oun_e e0, oun_e e1]
    exact ⟨_, oM_139, (by simp only [olg_r, olg_i, olg_l, olg_n]; exact Nat.le_of_ble_eq_true rfl), fun X hX => (by show X 0 (zent 4 [va_rf r0, va_rf r1, .int x2]) [] σ; rw [show zent 4 [va_rf r0, va_rf r1, .int x2] = [some (va_rf r0), some (va_rf r1), some (.int x2), none] by simp only [zent, olv_r, olv_i, olv_l, olv_n]; rfl]; exact qb_X7_readIf hX hc h1)⟩
  next => cases h
def od_X7_readLet (n : Nat) (call : oCl) (κ : oKv) (av : List Value) (σ : oSt) : oRs := match av with
  | [x0, x1, .int x2] => obn (oun x0) fun r0 => obn (oun x1) fun r1 => ob_X7_readLet n call κ r0 r1 x2 σ
  | _ => none
set_option maxHeartbeats 1000000 in
theorem od_X7_readLet_ok : oOk 140 od_X7_readLet := fun κ T n call hc av σ v h => by
  unfold od_X7_readLet at h
  split at h
  next x0 x1 x2 =>
    obtain ⟨r0, e0, h0⟩ := obn_e h
    obtain ⟨r1, e1, h1⟩ := obn_e h0
    rw [oun_e e0, oun_e e1]
    exact ⟨_, oM_140, (by simp only [olg_r, olg_i, olg_l, olg_n]; exact Nat.le_of_ble_eq_true rfl), fun X hX => (by show X 0 (zent 3 [va_rf r0, va_rf r1, .int x2]) [] σ; rw [show zent 3 [va_rf r0, va_rf r1, .int x2] = [some (va_rf r0), some (va_rf r1), some (.int x2)] by simp only [zent, olv_r, olv_i, olv_l, olv_n]; rfl]; exact qb_X7_readLet hX hc h1)⟩
  next => cases h
def od_X7_readMatch (n : Nat) (call : oCl) (κ : oKv) (av : List Value) (σ : oSt) : oRs := match av with
  | [x0, x1, .int x2] => obn (oun x0) fun r0 => obn (oun x1) fun r1 => ob_X7_readMatch n call κ r0 r1 x2 σ
  | _ => none
set_option maxHeartbeats 1000000 in
theorem od_X7_readMatch_ok : oOk 141 od_X7_readMatch := fun κ T n call hc av σ v h => by
  unfold od_X7_readMatch at h
  split at h
  next x0 x1 x2 =>
    obtain ⟨r0, e0, h0⟩ := obn_e h
    obtain ⟨r1, e1, h1⟩ := obn_e h0
    rw [oun_e e0, oun_e e1]
    exact ⟨_, oM_141, (by simp only [olg_r, olg_i, olg_l, olg_n]; exact Nat.le_of_ble_eq_true rfl), fun X hX => (by show X 0 (zent 3 [va_rf r0, va_rf r1, .int x2]) [] σ; rw [show zent 3 [va_rf r0, va_rf r1, .int x2] = [some (va_rf r0), some (va_rf r1), some (.int x2)] by simp only [zent, olv_r, olv_i, olv_l, olv_n]; rfl]; exact qb_X7_readMatch hX hc h1)⟩
  next => cases h
def od_X7_readOpen (n : Nat) (call : oCl) (κ : oKv) (av : List Value) (σ : oSt) : oRs := match av with
  | [x0, .int x1] => obn (oun x0) fun r0 => ob_X7_readOpen n call κ r0 x1 σ
  | _ => none
set_option maxHeartbeats 1000000 in
theorem od_X7_readOpen_ok : oOk 142 od_X7_readOpen := fun κ T n call hc av σ v h => by
  unfold od_X7_readOpen at h
  split at h
  next x0 x1 =>
    obtain ⟨r0, e0, h0⟩ := obn_e h
    rw [oun_e e0]
    exact ⟨_, oM_142, (by simp only [olg_r, olg_i, olg_l, olg_n]; exact Nat.le_of_ble_eq_true rfl), fun X hX => (by show X 0 (zent 5 [va_rf r0, .int x1]) [] σ; rw [show zent 5 [va_rf r0, .int x1] = [some (va_rf r0), some (.int x1), none, none, none] by simp only [zent, olv_r, olv_i, olv_l, olv_n]; rfl]; exact qb_X7_readOpen hX hc h0)⟩
  next => cases h
def od_X7_readRec (n : Nat) (call : oCl) (κ : oKv) (av : List Value) (σ : oSt) : oRs := match av with
  | [x0, x1, .int x2] => obn (oun x0) fun r0 => obn (oun x1) fun r1 => ob_X7_readRec n call κ r0 r1 x2 σ
  | _ => none
set_option maxHeartbeats 1000000 in
theorem od_X7_readRec_ok : oOk 143 od_X7_readRec := fun κ T n call hc av σ v h => by
  unfold od_X7_readRec at h
  split at h
  next x0 x1 x2 =>
    obtain ⟨r0, e0, h0⟩ := obn_e h
    obtain ⟨r1, e1, h1⟩ := obn_e h0
    rw [oun_e e0, oun_e e1]
    exact ⟨_, oM_143, (by simp only [olg_r, olg_i, olg_l, olg_n]; exact Nat.le_of_ble_eq_true rfl), fun X hX => (by show X 0 (zent 4 [va_rf r0, va_rf r1, .int x2]) [] σ; rw [show zent 4 [va_rf r0, va_rf r1, .int x2] = [some (va_rf r0), some (va_rf r1), some (.int x2), none] by simp only [zent, olv_r, olv_i, olv_l, olv_n]; rfl]; exact qb_X7_readRec hX hc h1)⟩
  next => cases h
def od_X7_readSet (n : Nat) (call : oCl) (κ : oKv) (av : List Value) (σ : oSt) : oRs := match av with
  | [x0, x1, .int x2] => obn (oun x0) fun r0 => obn (oun x1) fun r1 => ob_X7_readSet n call κ r0 r1 x2 σ
  | _ => none
set_option maxHeartbeats 1000000 in
theorem od_X7_readSet_ok : oOk 144 od_X7_readSet := fun κ T n call hc av σ v h => by
  unfold od_X7_readSet at h
  split at h
  next x0 x1 x2 =>
    obtain ⟨r0, e0, h0⟩ := obn_e h
    obtain ⟨r1, e1, h1⟩ := obn_e h0
    rw [oun_e e0, oun_e e1]
    exact ⟨_, oM_144, (by simp only [olg_r, olg_i, olg_l, olg_n]; exact Nat.le_of_ble_eq_true rfl), fun X hX => (by show X 0 (zent 3 [va_rf r0, va_rf r1, .int x2]) [] σ; rw [show zent 3 [va_rf r0, va_rf r1, .int x2] = [some (va_rf r0), some (va_rf r1), some (.int x2)] by simp only [zent, olv_r, olv_i, olv_l, olv_n]; rfl]; exact qb_X7_readSet hX hc h1)⟩
  next => cases h
def od_X7_readProgram (n : Nat) (call : oCl) (κ : oKv) (av : List Value) (σ : oSt) : oRs := match av with
  | [x0] => obn (oun x0) fun r0 => ob_X7_readProgram n call κ r0 σ
  | _ => none
set_option maxHeartbeats 1000000 in
theorem od_X7_readProgram_ok : oOk 145 od_X7_readProgram := fun κ T n call hc av σ v h => by
  unfold od_X7_readProgram at h
  split at h
  next x0 =>
    obtain ⟨r0, e0, h0⟩ := obn_e h
    rw [oun_e e0]
    exact ⟨_, oM_145, (by simp only [olg_r, olg_i, olg_l, olg_n]; exact Nat.le_of_ble_eq_true rfl), fun X hX => (by show X 0 (zent 1 [va_rf r0]) [] σ; rw [show zent 1 [va_rf r0] = [some (va_rf r0)] by simp only [zent, olv_r, olv_i, olv_l, olv_n]; rfl]; exact qb_X7_readProgram hX hc h0)⟩
  next => cases h
def od_X10_make (n : Nat) (call : oCl) (κ : oKv) (av : List Value) (σ : oSt) : oRs := match av with
  | [x0, .int x1] => obn (oun x0) fun r0 => ob_X10_make n call κ r0 x1 σ
  | _ => none
set_option maxHeartbeats 1000000 in
theorem od_X10_make_ok : oOk 146 od_X10_make := fun κ T n call hc av σ v h => by
  unfold od_X10_make at h
  split at h
  next x0 x1 =>
    obtain ⟨r0, e0, h0⟩ := obn_e h
    rw [oun_e e0]
    exact ⟨_, oM_146, (by simp only [olg_r, olg_i, olg_l, olg_n]; exact Nat.le_of_ble_eq_true rfl), fun X hX => (by show X 0 (zent 2 [va_rf r0, .int x1]) [] σ; rw [show zent 2 [va_rf r0, .int x1] = [some (va_rf r0), some (.int x1)] by simp only [zent, olv_r, olv_i, olv_l, olv_n]; rfl]; exact qb_X10_make hX hc h0)⟩
  next => cases h
def od_X10_init (n : Nat) (call : oCl) (κ : oKv) (av : List Value) (σ : oSt) : oRs := match av with
  | [x0, .int x1] => obn (oun x0) fun r0 => ob_X10_init n call κ r0 x1 σ
  | _ => none
set_option maxHeartbeats 1000000 in
theorem od_X10_init_ok : oOk 147 od_X10_init := fun κ T n call hc av σ v h => by
  unfold od_X10_init at h
  split at h
  next x0 x1 =>
    obtain ⟨r0, e0, h0⟩ := obn_e h
    rw [oun_e e0]
    exact ⟨_, oM_147, (by simp only [olg_r, olg_i, olg_l, olg_n]; exact Nat.le_of_ble_eq_true rfl), fun X hX => (by show X 0 (zent 3 [va_rf r0, .int x1]) [] σ; rw [show zent 3 [va_rf r0, .int x1] = [some (va_rf r0), some (.int x1), none] by simp only [zent, olv_r, olv_i, olv_l, olv_n]; rfl]; exact qb_X10_init hX hc h0)⟩
  next => cases h
def od_X10_basic (n : Nat) (call : oCl) (κ : oKv) (av : List Value) (σ : oSt) : oRs := match av with
  | [.int x0] => ob_X10_basic n call κ x0 σ
  | _ => none
set_option maxHeartbeats 1000000 in
theorem od_X10_basic_ok : oOk 148 od_X10_basic := fun κ T n call hc av σ v h => by
  unfold od_X10_basic at h
  split at h
  next x0 =>
    exact ⟨_, oM_148, Nat.le_of_ble_eq_true rfl, fun X hX => qb_X10_basic hX hc h⟩
  next => cases h
def od_X10_function (n : Nat) (call : oCl) (κ : oKv) (av : List Value) (σ : oSt) : oRs := match av with
  | [x0, .int x1, .int x2] => obn (oun x0) fun r0 => ob_X10_function n call κ r0 x1 x2 σ
  | _ => none
set_option maxHeartbeats 1000000 in
theorem od_X10_function_ok : oOk 149 od_X10_function := fun κ T n call hc av σ v h => by
  unfold od_X10_function at h
  split at h
  next x0 x1 x2 =>
    obtain ⟨r0, e0, h0⟩ := obn_e h
    rw [oun_e e0]
    exact ⟨_, oM_149, (by simp only [olg_r, olg_i, olg_l, olg_n]; exact Nat.le_of_ble_eq_true rfl), fun X hX => (by show X 0 (zent 4 [va_rf r0, .int x1, .int x2]) [] σ; rw [show zent 4 [va_rf r0, .int x1, .int x2] = [some (va_rf r0), some (.int x1), some (.int x2), none] by simp only [zent, olv_r, olv_i, olv_l, olv_n]; rfl]; exact qb_X10_function hX hc h0)⟩
  next => cases h
def od_X10_unify (n : Nat) (call : oCl) (κ : oKv) (av : List Value) (σ : oSt) : oRs := match av with
  | [x0, .int x1, .int x2] => obn (oun x0) fun r0 => ob_X10_unify n call κ r0 x1 x2 σ
  | _ => none
set_option maxHeartbeats 1000000 in
theorem od_X10_unify_ok : oOk 150 od_X10_unify := fun κ T n call hc av σ v h => by
  unfold od_X10_unify at h
  split at h
  next x0 x1 x2 =>
    obtain ⟨r0, e0, h0⟩ := obn_e h
    rw [oun_e e0]
    exact ⟨_, oM_150, (by simp only [olg_r, olg_i, olg_l, olg_n]; exact Nat.le_of_ble_eq_true rfl), fun X hX => (by show X 0 (zent 7 [va_rf r0, .int x1, .int x2]) [] σ; rw [show zent 7 [va_rf r0, .int x1, .int x2] = [some (va_rf r0), some (.int x1), some (.int x2), none, none, none, none] by simp only [zent, olv_r, olv_i, olv_l, olv_n]; rfl]; exact qb_X10_unify hX hc h0)⟩
  next => cases h
def od_X10_isFinite (n : Nat) (call : oCl) (κ : oKv) (av : List Value) (σ : oSt) : oRs := match av with
  | [x0, .int x1] => obn (oun x0) fun r0 => ob_X10_isFinite n call κ r0 x1 σ
  | _ => none
set_option maxHeartbeats 1000000 in
theorem od_X10_isFinite_ok : oOk 151 od_X10_isFinite := fun κ T n call hc av σ v h => by
  unfold od_X10_isFinite at h
  split at h
  next x0 x1 =>
    obtain ⟨r0, e0, h0⟩ := obn_e h
    rw [oun_e e0]
    exact ⟨_, oM_151, (by simp only [olg_r, olg_i, olg_l, olg_n]; exact Nat.le_of_ble_eq_true rfl), fun X hX => (by show X 0 (zent 7 [va_rf r0, .int x1]) [] σ; rw [show zent 7 [va_rf r0, .int x1] = [some (va_rf r0), some (.int x1), none, none, none, none, none] by simp only [zent, olv_r, olv_i, olv_l, olv_n]; rfl]; exact qb_X10_isFinite hX hc h0)⟩
  next => cases h
def od_X10_must (n : Nat) (call : oCl) (κ : oKv) (av : List Value) (σ : oSt) : oRs := match av with
  | [x0, .int x1, .int x2, .int x3] => obn (oun x0) fun r0 => ob_X10_must n call κ r0 x1 x2 x3 σ
  | _ => none
set_option maxHeartbeats 1000000 in
theorem od_X10_must_ok : oOk 152 od_X10_must := fun κ T n call hc av σ v h => by
  unfold od_X10_must at h
  split at h
  next x0 x1 x2 x3 =>
    obtain ⟨r0, e0, h0⟩ := obn_e h
    rw [oun_e e0]
    exact ⟨_, oM_152, (by simp only [olg_r, olg_i, olg_l, olg_n]; exact Nat.le_of_ble_eq_true rfl), fun X hX => (by show X 0 (zent 4 [va_rf r0, .int x1, .int x2, .int x3]) [] σ; rw [show zent 4 [va_rf r0, .int x1, .int x2, .int x3] = [some (va_rf r0), some (.int x1), some (.int x2), some (.int x3)] by simp only [zent, olv_r, olv_i, olv_l, olv_n]; rfl]; exact qb_X10_must hX hc h0)⟩
  next => cases h
def od_X10_checkSum (n : Nat) (call : oCl) (κ : oKv) (av : List Value) (σ : oSt) : oRs := match av with
  | [x0, x1] => obn (oun x0) fun r0 => obn (oun x1) fun r1 => ob_X10_checkSum n call κ r0 r1 σ
  | _ => none
set_option maxHeartbeats 1000000 in
theorem od_X10_checkSum_ok : oOk 153 od_X10_checkSum := fun κ T n call hc av σ v h => by
  unfold od_X10_checkSum at h
  split at h
  next x0 x1 =>
    obtain ⟨r0, e0, h0⟩ := obn_e h
    obtain ⟨r1, e1, h1⟩ := obn_e h0
    rw [oun_e e0, oun_e e1]
    exact ⟨_, oM_153, (by simp only [olg_r, olg_i, olg_l, olg_n]; exact Nat.le_of_ble_eq_true rfl), fun X hX => (by show X 0 (zent 4 [va_rf r0, va_rf r1]) [] σ; rw [show zent 4 [va_rf r0, va_rf r1] = [some (va_rf r0), some (va_rf r1), none, none] by simp only [zent, olv_r, olv_i, olv_l, olv_n]; rfl]; exact qb_X10_checkSum hX hc h1)⟩
  next => cases h
def od_X10_checkTest (n : Nat) (call : oCl) (κ : oKv) (av : List Value) (σ : oSt) : oRs := match av with
  | [x0, x1] => obn (oun x0) fun r0 => obn (oun x1) fun r1 => ob_X10_checkTest n call κ r0 r1 σ
  | _ => none
set_option maxHeartbeats 1000000 in
theorem od_X10_checkTest_ok : oOk 154 od_X10_checkTest := fun κ T n call hc av σ v h => by
  unfold od_X10_checkTest at h
  split at h
  next x0 x1 =>
    obtain ⟨r0, e0, h0⟩ := obn_e h
    obtain ⟨r1, e1, h1⟩ := obn_e h0
    rw [oun_e e0, oun_e e1]
    exact ⟨_, oM_154, (by simp only [olg_r, olg_i, olg_l, olg_n]; exact Nat.le_of_ble_eq_true rfl), fun X hX => (by show X 0 (zent 3 [va_rf r0, va_rf r1]) [] σ; rw [show zent 3 [va_rf r0, va_rf r1] = [some (va_rf r0), some (va_rf r1), none] by simp only [zent, olv_r, olv_i, olv_l, olv_n]; rfl]; exact qb_X10_checkTest hX hc h1)⟩
  next => cases h
def od_X10_inferPlain (n : Nat) (call : oCl) (κ : oKv) (av : List Value) (σ : oSt) : oRs := match av with
  | [x0, x1] => obn (oun x0) fun r0 => obn (oun x1) fun r1 => ob_X10_inferPlain n call κ r0 r1 σ
  | _ => none
set_option maxHeartbeats 1000000 in
theorem od_X10_inferPlain_ok : oOk 155 od_X10_inferPlain := fun κ T n call hc av σ v h => by
  unfold od_X10_inferPlain at h
  split at h
  next x0 x1 =>
    obtain ⟨r0, e0, h0⟩ := obn_e h
    obtain ⟨r1, e1, h1⟩ := obn_e h0
    rw [oun_e e0, oun_e e1]
    exact ⟨_, oM_155, (by simp only [olg_r, olg_i, olg_l, olg_n]; exact Nat.le_of_ble_eq_true rfl), fun X hX => (by show X 0 (zent 2 [va_rf r0, va_rf r1]) [] σ; rw [show zent 2 [va_rf r0, va_rf r1] = [some (va_rf r0), some (va_rf r1)] by simp only [zent, olv_r, olv_i, olv_l, olv_n]; rfl]; exact qb_X10_inferPlain hX hc h1)⟩
  next => cases h
def od_X10_infer (n : Nat) (call : oCl) (κ : oKv) (av : List Value) (σ : oSt) : oRs := match av with
  | [x0, x1] => obn (oun x0) fun r0 => obn (oun x1) fun r1 => ob_X10_infer n call κ r0 r1 σ
  | _ => none
set_option maxHeartbeats 1000000 in
theorem od_X10_infer_ok : oOk 156 od_X10_infer := fun κ T n call hc av σ v h => by
  unfold od_X10_infer at h
  split at h
  next x0 x1 =>
    obtain ⟨r0, e0, h0⟩ := obn_e h
    obtain ⟨r1, e1, h1⟩ := obn_e h0
    rw [oun_e e0, oun_e e1]
    exact ⟨_, oM_156, (by simp only [olg_r, olg_i, olg_l, olg_n]; exact Nat.le_of_ble_eq_true rfl), fun X hX => (by show X 0 (zent 2 [va_rf r0, va_rf r1]) [] σ; rw [show zent 2 [va_rf r0, va_rf r1] = [some (va_rf r0), some (va_rf r1)] by simp only [zent, olv_r, olv_i, olv_l, olv_n]; rfl]; exact qb_X10_infer hX hc h1)⟩
  next => cases h
def od_X10_inferCall (n : Nat) (call : oCl) (κ : oKv) (av : List Value) (σ : oSt) : oRs := match av with
  | [x0, x1] => obn (oun x0) fun r0 => obn (oun x1) fun r1 => ob_X10_inferCall n call κ r0 r1 σ
  | _ => none
set_option maxHeartbeats 1000000 in
theorem od_X10_inferCall_ok : oOk 157 od_X10_inferCall := fun κ T n call hc av σ v h => by
  unfold od_X10_inferCall at h
  split at h
  next x0 x1 =>
    obtain ⟨r0, e0, h0⟩ := obn_e h
    obtain ⟨r1, e1, h1⟩ := obn_e h0
    rw [oun_e e0, oun_e e1]
    exact ⟨_, oM_157, (by simp only [olg_r, olg_i, olg_l, olg_n]; exact Nat.le_of_ble_eq_true rfl), fun X hX => (by show X 0 (zent 6 [va_rf r0, va_rf r1]) [] σ; rw [show zent 6 [va_rf r0, va_rf r1] = [some (va_rf r0), some (va_rf r1), none, none, none, none] by simp only [zent, olv_r, olv_i, olv_l, olv_n]; rfl]; exact qb_X10_inferCall hX hc h1)⟩
  next => cases h
def od_X10_inferMatch (n : Nat) (call : oCl) (κ : oKv) (av : List Value) (σ : oSt) : oRs := match av with
  | [x0, x1] => obn (oun x0) fun r0 => obn (oun x1) fun r1 => ob_X10_inferMatch n call κ r0 r1 σ
  | _ => none
set_option maxHeartbeats 1000000 in
theorem od_X10_inferMatch_ok : oOk 158 od_X10_inferMatch := fun κ T n call hc av σ v h => by
  unfold od_X10_inferMatch at h
  split at h
  next x0 x1 =>
    obtain ⟨r0, e0, h0⟩ := obn_e h
    obtain ⟨r1, e1, h1⟩ := obn_e h0
    rw [oun_e e0, oun_e e1]
    exact ⟨_, oM_158, (by simp only [olg_r, olg_i, olg_l, olg_n]; exact Nat.le_of_ble_eq_true rfl), fun X hX => (by show X 0 (zent 2 [va_rf r0, va_rf r1]) [] σ; rw [show zent 2 [va_rf r0, va_rf r1] = [some (va_rf r0), some (va_rf r1)] by simp only [zent, olv_r, olv_i, olv_l, olv_n]; rfl]; exact qb_X10_inferMatch hX hc h1)⟩
  next => cases h
def od_X10_inferRec (n : Nat) (call : oCl) (κ : oKv) (av : List Value) (σ : oSt) : oRs := match av with
  | [x0, x1] => obn (oun x0) fun r0 => obn (oun x1) fun r1 => ob_X10_inferRec n call κ r0 r1 σ
  | _ => none
set_option maxHeartbeats 1000000 in
theorem od_X10_inferRec_ok : oOk 159 od_X10_inferRec := fun κ T n call hc av σ v h => by
  unfold od_X10_inferRec at h
  split at h
  next x0 x1 =>
    obtain ⟨r0, e0, h0⟩ := obn_e h
    obtain ⟨r1, e1, h1⟩ := obn_e h0
    rw [oun_e e0, oun_e e1]
    exact ⟨_, oM_159, (by simp only [olg_r, olg_i, olg_l, olg_n]; exact Nat.le_of_ble_eq_true rfl), fun X hX => (by show X 0 (zent 4 [va_rf r0, va_rf r1]) [] σ; rw [show zent 4 [va_rf r0, va_rf r1] = [some (va_rf r0), some (va_rf r1), none, none] by simp only [zent, olv_r, olv_i, olv_l, olv_n]; rfl]; exact qb_X10_inferRec hX hc h1)⟩
  next => cases h
def od_X10_leavesOf (n : Nat) (call : oCl) (κ : oKv) (av : List Value) (σ : oSt) : oRs := match av with
  | [x0, .int x1] => obn (oun x0) fun r0 => ob_X10_leavesOf n call κ r0 x1 σ
  | _ => none
set_option maxHeartbeats 1000000 in
theorem od_X10_leavesOf_ok : oOk 160 od_X10_leavesOf := fun κ T n call hc av σ v h => by
  unfold od_X10_leavesOf at h
  split at h
  next x0 x1 =>
    obtain ⟨r0, e0, h0⟩ := obn_e h
    rw [oun_e e0]
    exact ⟨_, oM_160, (by simp only [olg_r, olg_i, olg_l, olg_n]; exact Nat.le_of_ble_eq_true rfl), fun X hX => (by show X 0 (zent 6 [va_rf r0, .int x1]) [] σ; rw [show zent 6 [va_rf r0, .int x1] = [some (va_rf r0), some (.int x1), none, none, none, none] by simp only [zent, olv_r, olv_i, olv_l, olv_n]; rfl]; exact qb_X10_leavesOf hX hc h0)⟩
  next => cases h
def od_X10_countTemplates (n : Nat) (call : oCl) (κ : oKv) (av : List Value) (σ : oSt) : oRs := match av with
  | [x0, x1] => obn (oun x0) fun r0 => obn (oun x1) fun r1 => ob_X10_countTemplates n call κ r0 r1 σ
  | _ => none
set_option maxHeartbeats 1000000 in
theorem od_X10_countTemplates_ok : oOk 161 od_X10_countTemplates := fun κ T n call hc av σ v h => by
  unfold od_X10_countTemplates at h
  split at h
  next x0 x1 =>
    obtain ⟨r0, e0, h0⟩ := obn_e h
    obtain ⟨r1, e1, h1⟩ := obn_e h0
    rw [oun_e e0, oun_e e1]
    exact ⟨_, oM_161, (by simp only [olg_r, olg_i, olg_l, olg_n]; exact Nat.le_of_ble_eq_true rfl), fun X hX => (by show X 0 (zent 3 [va_rf r0, va_rf r1]) [] σ; rw [show zent 3 [va_rf r0, va_rf r1] = [some (va_rf r0), some (va_rf r1), none] by simp only [zent, olv_r, olv_i, olv_l, olv_n]; rfl]; exact qb_X10_countTemplates hX hc h1)⟩
  next => cases h
def od_X10_findAll (n : Nat) (call : oCl) (κ : oKv) (av : List Value) (σ : oSt) : oRs := match av with
  | [x0, x1] => obn (oun x0) fun r0 => obn (oun x1) fun r1 => ob_X10_findAll n call κ r0 r1 σ
  | _ => none
set_option maxHeartbeats 1000000 in
theorem od_X10_findAll_ok : oOk 162 od_X10_findAll := fun κ T n call hc av σ v h => by
  unfold od_X10_findAll at h
  split at h
  next x0 x1 =>
    obtain ⟨r0, e0, h0⟩ := obn_e h
    obtain ⟨r1, e1, h1⟩ := obn_e h0
    rw [oun_e e0, oun_e e1]
    exact ⟨_, oM_162, (by simp only [olg_r, olg_i, olg_l, olg_n]; exact Nat.le_of_ble_eq_true rfl), fun X hX => (by show X 0 (zent 3 [va_rf r0, va_rf r1]) [] σ; rw [show zent 3 [va_rf r0, va_rf r1] = [some (va_rf r0), some (va_rf r1), none] by simp only [zent, olv_r, olv_i, olv_l, olv_n]; rfl]; exact qb_X10_findAll hX hc h1)⟩
  next => cases h
def od_X11_isLetter (n : Nat) (call : oCl) (κ : oKv) (av : List Value) (σ : oSt) : oRs := match av with
  | [.int x0] => ob_X11_isLetter n call κ x0 σ
  | _ => none
set_option maxHeartbeats 1000000 in
theorem od_X11_isLetter_ok : oOk 163 od_X11_isLetter := fun κ T n call hc av σ v h => by
  unfold od_X11_isLetter at h
  split at h
  next x0 =>
    exact ⟨_, oM_163, Nat.le_of_ble_eq_true rfl, fun X hX => qb_X11_isLetter hX hc h⟩
  next => cases h
def od_X11_isDigit (n : Nat) (call : oCl) (κ : oKv) (av : List Value) (σ : oSt) : oRs := match av with
  | [.int x0] => ob_X11_isDigit n call κ x0 σ
  | _ => none
set_option maxHeartbeats 1000000 in
theorem od_X11_isDigit_ok : oOk 164 od_X11_isDigit := fun κ T n call hc av σ v h => by
  unfold od_X11_isDigit at h
  split at h
  next x0 =>
    exact ⟨_, oM_164, Nat.le_of_ble_eq_true rfl, fun X hX => qb_X11_isDigit hX hc h⟩
  next => cases h
def od_X11_continues (n : Nat) (call : oCl) (κ : oKv) (av : List Value) (σ : oSt) : oRs := match av with
  | [.int x0, .int x1] => ob_X11_continues n call κ x0 x1 σ
  | _ => none
set_option maxHeartbeats 1000000 in
theorem od_X11_continues_ok : oOk 165 od_X11_continues := fun κ T n call hc av σ v h => by
  unfold od_X11_continues at h
  split at h
  next x0 x1 =>
    exact ⟨_, oM_165, Nat.le_of_ble_eq_true rfl, fun X hX => qb_X11_continues hX hc h⟩
  next => cases h
def od_X11_doubleSign (n : Nat) (call : oCl) (κ : oKv) (av : List Value) (σ : oSt) : oRs := match av with
  | [x0, .int x1] => obn (oun x0) fun r0 => ob_X11_doubleSign n call κ r0 x1 σ
  | _ => none
set_option maxHeartbeats 1000000 in
theorem od_X11_doubleSign_ok : oOk 166 od_X11_doubleSign := fun κ T n call hc av σ v h => by
  unfold od_X11_doubleSign at h
  split at h
  next x0 x1 =>
    obtain ⟨r0, e0, h0⟩ := obn_e h
    rw [oun_e e0]
    exact ⟨_, oM_166, (by simp only [olg_r, olg_i, olg_l, olg_n]; exact Nat.le_of_ble_eq_true rfl), fun X hX => (by show X 0 (zent 3 [va_rf r0, .int x1]) [] σ; rw [show zent 3 [va_rf r0, .int x1] = [some (va_rf r0), some (.int x1), none] by simp only [zent, olv_r, olv_i, olv_l, olv_n]; rfl]; exact qb_X11_doubleSign hX hc h0)⟩
  next => cases h
def od_X11_endOfWord (n : Nat) (call : oCl) (κ : oKv) (av : List Value) (σ : oSt) : oRs := match av with
  | [x0, .int x1] => obn (oun x0) fun r0 => ob_X11_endOfWord n call κ r0 x1 σ
  | _ => none
set_option maxHeartbeats 1000000 in
theorem od_X11_endOfWord_ok : oOk 167 od_X11_endOfWord := fun κ T n call hc av σ v h => by
  unfold od_X11_endOfWord at h
  split at h
  next x0 x1 =>
    obtain ⟨r0, e0, h0⟩ := obn_e h
    rw [oun_e e0]
    exact ⟨_, oM_167, (by simp only [olg_r, olg_i, olg_l, olg_n]; exact Nat.le_of_ble_eq_true rfl), fun X hX => (by show X 0 (zent 5 [va_rf r0, .int x1]) [] σ; rw [show zent 5 [va_rf r0, .int x1] = [some (va_rf r0), some (.int x1), none, none, none] by simp only [zent, olv_r, olv_i, olv_l, olv_n]; rfl]; exact qb_X11_endOfWord hX hc h0)⟩
  next => cases h
def od_X11_sameLetters (n : Nat) (call : oCl) (κ : oKv) (av : List Value) (σ : oSt) : oRs := match av with
  | [x0, .int x1, .int x2, .int x3] => obn (oun x0) fun r0 => ob_X11_sameLetters n call κ r0 x1 x2 x3 σ
  | _ => none
set_option maxHeartbeats 1000000 in
theorem od_X11_sameLetters_ok : oOk 168 od_X11_sameLetters := fun κ T n call hc av σ v h => by
  unfold od_X11_sameLetters at h
  split at h
  next x0 x1 x2 x3 =>
    obtain ⟨r0, e0, h0⟩ := obn_e h
    rw [oun_e e0]
    exact ⟨_, oM_168, (by simp only [olg_r, olg_i, olg_l, olg_n]; exact Nat.le_of_ble_eq_true rfl), fun X hX => (by show X 0 (zent 5 [va_rf r0, .int x1, .int x2, .int x3]) [] σ; rw [show zent 5 [va_rf r0, .int x1, .int x2, .int x3] = [some (va_rf r0), some (.int x1), some (.int x2), some (.int x3), none] by simp only [zent, olv_r, olv_i, olv_l, olv_n]; rfl]; exact qb_X11_sameLetters hX hc h0)⟩
  next => cases h
def od_X11_keyword (n : Nat) (call : oCl) (κ : oKv) (av : List Value) (σ : oSt) : oRs := match av with
  | [x0, .int x1, .int x2] => obn (oun x0) fun r0 => ob_X11_keyword n call κ r0 x1 x2 σ
  | _ => none
set_option maxHeartbeats 1000000 in
theorem od_X11_keyword_ok : oOk 169 od_X11_keyword := fun κ T n call hc av σ v h => by
  unfold od_X11_keyword at h
  split at h
  next x0 x1 x2 =>
    obtain ⟨r0, e0, h0⟩ := obn_e h
    rw [oun_e e0]
    exact ⟨_, oM_169, (by simp only [olg_r, olg_i, olg_l, olg_n]; exact Nat.le_of_ble_eq_true rfl), fun X hX => (by show X 0 (zent 6 [va_rf r0, .int x1, .int x2]) [] σ; rw [show zent 6 [va_rf r0, .int x1, .int x2] = [some (va_rf r0), some (.int x1), some (.int x2), none, none, none] by simp only [zent, olv_r, olv_i, olv_l, olv_n]; rfl]; exact qb_X11_keyword hX hc h0)⟩
  next => cases h
def od_X11_add (n : Nat) (call : oCl) (κ : oKv) (av : List Value) (σ : oSt) : oRs := match av with
  | [x0, .int x1, .int x2] => obn (oun x0) fun r0 => ob_X11_add n call κ r0 x1 x2 σ
  | _ => none
set_option maxHeartbeats 1000000 in
theorem od_X11_add_ok : oOk 170 od_X11_add := fun κ T n call hc av σ v h => by
  unfold od_X11_add at h
  split at h
  next x0 x1 x2 =>
    obtain ⟨r0, e0, h0⟩ := obn_e h
    rw [oun_e e0]
    exact ⟨_, oM_170, (by simp only [olg_r, olg_i, olg_l, olg_n]; exact Nat.le_of_ble_eq_true rfl), fun X hX => (by show X 0 (zent 4 [va_rf r0, .int x1, .int x2]) [] σ; rw [show zent 4 [va_rf r0, .int x1, .int x2] = [some (va_rf r0), some (.int x1), some (.int x2), none] by simp only [zent, olv_r, olv_i, olv_l, olv_n]; rfl]; exact qb_X11_add hX hc h0)⟩
  next => cases h
def od_X11_split (n : Nat) (call : oCl) (κ : oKv) (av : List Value) (σ : oSt) : oRs := match av with
  | [x0] => obn (oun x0) fun r0 => ob_X11_split n call κ r0 σ
  | _ => none
set_option maxHeartbeats 1000000 in
theorem od_X11_split_ok : oOk 171 od_X11_split := fun κ T n call hc av σ v h => by
  unfold od_X11_split at h
  split at h
  next x0 =>
    obtain ⟨r0, e0, h0⟩ := obn_e h
    rw [oun_e e0]
    exact ⟨_, oM_171, (by simp only [olg_r, olg_i, olg_l, olg_n]; exact Nat.le_of_ble_eq_true rfl), fun X hX => (by show X 0 (zent 4 [va_rf r0]) [] σ; rw [show zent 4 [va_rf r0] = [some (va_rf r0), none, none, none] by simp only [zent, olv_r, olv_i, olv_l, olv_n]; rfl]; exact qb_X11_split hX hc h0)⟩
  next => cases h
def od_X11_init (n : Nat) (call : oCl) (κ : oKv) (av : List Value) (σ : oSt) : oRs := match av with
  | [x0, x1] => obn (oun x0) fun r0 => obn (oun x1) fun r1 => ob_X11_init n call κ r0 r1 σ
  | _ => none
set_option maxHeartbeats 1000000 in
theorem od_X11_init_ok : oOk 172 od_X11_init := fun κ T n call hc av σ v h => by
  unfold od_X11_init at h
  split at h
  next x0 x1 =>
    obtain ⟨r0, e0, h0⟩ := obn_e h
    obtain ⟨r1, e1, h1⟩ := obn_e h0
    rw [oun_e e0, oun_e e1]
    exact ⟨_, oM_172, (by simp only [olg_r, olg_i, olg_l, olg_n]; exact Nat.le_of_ble_eq_true rfl), fun X hX => (by show X 0 (zent 2 [va_rf r0, va_rf r1]) [] σ; rw [show zent 2 [va_rf r0, va_rf r1] = [some (va_rf r0), some (va_rf r1)] by simp only [zent, olv_r, olv_i, olv_l, olv_n]; rfl]; exact qb_X11_init hX hc h1)⟩
  next => cases h
def od_X12_init (n : Nat) (call : oCl) (κ : oKv) (av : List Value) (σ : oSt) : oRs := match av with
  | [x0] => obn (oun x0) fun r0 => ob_X12_init n call κ r0 σ
  | _ => none
set_option maxHeartbeats 1000000 in
theorem od_X12_init_ok : oOk 173 od_X12_init := fun κ T n call hc av σ v h => by
  unfold od_X12_init at h
  split at h
  next x0 =>
    obtain ⟨r0, e0, h0⟩ := obn_e h
    rw [oun_e e0]
    exact ⟨_, oM_173, (by simp only [olg_r, olg_i, olg_l, olg_n]; exact Nat.le_of_ble_eq_true rfl), fun X hX => (by show X 0 (zent 1 [va_rf r0]) [] σ; rw [show zent 1 [va_rf r0] = [some (va_rf r0)] by simp only [zent, olv_r, olv_i, olv_l, olv_n]; rfl]; exact qb_X12_init hX hc h0)⟩
  next => cases h
def od_X12_lay (n : Nat) (call : oCl) (κ : oKv) (av : List Value) (σ : oSt) : oRs := match av with
  | [x0, .int x1] => obn (oun x0) fun r0 => ob_X12_lay n call κ r0 x1 σ
  | _ => none
set_option maxHeartbeats 1000000 in
theorem od_X12_lay_ok : oOk 174 od_X12_lay := fun κ T n call hc av σ v h => by
  unfold od_X12_lay at h
  split at h
  next x0 x1 =>
    obtain ⟨r0, e0, h0⟩ := obn_e h
    rw [oun_e e0]
    exact ⟨_, oM_174, (by simp only [olg_r, olg_i, olg_l, olg_n]; exact Nat.le_of_ble_eq_true rfl), fun X hX => (by show X 0 (zent 3 [va_rf r0, .int x1]) [] σ; rw [show zent 3 [va_rf r0, .int x1] = [some (va_rf r0), some (.int x1), none] by simp only [zent, olv_r, olv_i, olv_l, olv_n]; rfl]; exact qb_X12_lay hX hc h0)⟩
  next => cases h
def od_X12_feed (n : Nat) (call : oCl) (κ : oKv) (av : List Value) (σ : oSt) : oRs := match av with
  | [x0, .int x1, .int x2, .int x3, .int x4, .int x5] => obn (oun x0) fun r0 => ob_X12_feed n call κ r0 x1 x2 x3 x4 x5 σ
  | _ => none
set_option maxHeartbeats 1000000 in
theorem od_X12_feed_ok : oOk 175 od_X12_feed := fun κ T n call hc av σ v h => by
  unfold od_X12_feed at h
  split at h
  next x0 x1 x2 x3 x4 x5 =>
    obtain ⟨r0, e0, h0⟩ := obn_e h
    rw [oun_e e0]
    exact ⟨_, oM_175, (by simp only [olg_r, olg_i, olg_l, olg_n]; exact Nat.le_of_ble_eq_true rfl), fun X hX => (by show X 0 (zent 6 [va_rf r0, .int x1, .int x2, .int x3, .int x4, .int x5]) [] σ; rw [show zent 6 [va_rf r0, .int x1, .int x2, .int x3, .int x4, .int x5] = [some (va_rf r0), some (.int x1), some (.int x2), some (.int x3), some (.int x4), some (.int x5)] by simp only [zent, olv_r, olv_i, olv_l, olv_n]; rfl]; exact qb_X12_feed hX hc h0)⟩
  next => cases h
def od_X12_end (n : Nat) (call : oCl) (κ : oKv) (av : List Value) (σ : oSt) : oRs := match av with
  | [x0, .int x1] => obn (oun x0) fun r0 => ob_X12_end n call κ r0 x1 σ
  | _ => none
set_option maxHeartbeats 1000000 in
theorem od_X12_end_ok : oOk 176 od_X12_end := fun κ T n call hc av σ v h => by
  unfold od_X12_end at h
  split at h
  next x0 x1 =>
    obtain ⟨r0, e0, h0⟩ := obn_e h
    rw [oun_e e0]
    exact ⟨_, oM_176, (by simp only [olg_r, olg_i, olg_l, olg_n]; exact Nat.le_of_ble_eq_true rfl), fun X hX => (by show X 0 (zent 2 [va_rf r0, .int x1]) [] σ; rw [show zent 2 [va_rf r0, .int x1] = [some (va_rf r0), some (.int x1)] by simp only [zent, olv_r, olv_i, olv_l, olv_n]; rfl]; exact qb_X12_end hX hc h0)⟩
  next => cases h
def od_X12_fault (n : Nat) (call : oCl) (κ : oKv) (av : List Value) (σ : oSt) : oRs := match av with
  | [x0, .int x1, .int x2] => obn (oun x0) fun r0 => ob_X12_fault n call κ r0 x1 x2 σ
  | _ => none
set_option maxHeartbeats 1000000 in
theorem od_X12_fault_ok : oOk 177 od_X12_fault := fun κ T n call hc av σ v h => by
  unfold od_X12_fault at h
  split at h
  next x0 x1 x2 =>
    obtain ⟨r0, e0, h0⟩ := obn_e h
    rw [oun_e e0]
    exact ⟨_, oM_177, (by simp only [olg_r, olg_i, olg_l, olg_n]; exact Nat.le_of_ble_eq_true rfl), fun X hX => (by show X 0 (zent 3 [va_rf r0, .int x1, .int x2]) [] σ; rw [show zent 3 [va_rf r0, .int x1, .int x2] = [some (va_rf r0), some (.int x1), some (.int x2)] by simp only [zent, olv_r, olv_i, olv_l, olv_n]; rfl]; exact qb_X12_fault hX hc h0)⟩
  next => cases h
def od_X12_compile (n : Nat) (call : oCl) (κ : oKv) (av : List Value) (σ : oSt) : oRs := match av with
  | [x0] => obn (oun x0) fun r0 => ob_X12_compile n call κ r0 σ
  | _ => none
set_option maxHeartbeats 1000000 in
theorem od_X12_compile_ok : oOk 178 od_X12_compile := fun κ T n call hc av σ v h => by
  unfold od_X12_compile at h
  split at h
  next x0 =>
    obtain ⟨r0, e0, h0⟩ := obn_e h
    rw [oun_e e0]
    exact ⟨_, oM_178, (by simp only [olg_r, olg_i, olg_l, olg_n]; exact Nat.le_of_ble_eq_true rfl), fun X hX => (by show X 0 (zent 5 [va_rf r0]) [] σ; rw [show zent 5 [va_rf r0] = [some (va_rf r0), none, none, none, none] by simp only [zent, olv_r, olv_i, olv_l, olv_n]; rfl]; exact qb_X12_compile hX hc h0)⟩
  next => cases h
def od_X12_accepted (n : Nat) (call : oCl) (κ : oKv) (av : List Value) (σ : oSt) : oRs := match av with
  | [x0] => obn (oun x0) fun r0 => ob_X12_accepted n call κ r0 σ
  | _ => none
set_option maxHeartbeats 1000000 in
theorem od_X12_accepted_ok : oOk 179 od_X12_accepted := fun κ T n call hc av σ v h => by
  unfold od_X12_accepted at h
  split at h
  next x0 =>
    obtain ⟨r0, e0, h0⟩ := obn_e h
    rw [oun_e e0]
    exact ⟨_, oM_179, (by simp only [olg_r, olg_i, olg_l, olg_n]; exact Nat.le_of_ble_eq_true rfl), fun X hX => (by show X 0 (zent 1 [va_rf r0]) [] σ; rw [show zent 1 [va_rf r0] = [some (va_rf r0)] by simp only [zent, olv_r, olv_i, olv_l, olv_n]; rfl]; exact qb_X12_accepted hX hc h0)⟩
  next => cases h
def od_X12_place (n : Nat) (call : oCl) (κ : oKv) (av : List Value) (σ : oSt) : oRs := match av with
  | [x0] => obn (oun x0) fun r0 => ob_X12_place n call κ r0 σ
  | _ => none
set_option maxHeartbeats 1000000 in
theorem od_X12_place_ok : oOk 180 od_X12_place := fun κ T n call hc av σ v h => by
  unfold od_X12_place at h
  split at h
  next x0 =>
    obtain ⟨r0, e0, h0⟩ := obn_e h
    rw [oun_e e0]
    exact ⟨_, oM_180, (by simp only [olg_r, olg_i, olg_l, olg_n]; exact Nat.le_of_ble_eq_true rfl), fun X hX => (by show X 0 (zent 1 [va_rf r0]) [] σ; rw [show zent 1 [va_rf r0] = [some (va_rf r0)] by simp only [zent, olv_r, olv_i, olv_l, olv_n]; rfl]; exact qb_X12_place hX hc h0)⟩
  next => cases h
def od_X12_put_ (n : Nat) (call : oCl) (κ : oKv) (av : List Value) (σ : oSt) : oRs := match av with
  | [x0, .int x1] => obn (oun x0) fun r0 => ob_X12_put_ n call κ r0 x1 σ
  | _ => none
set_option maxHeartbeats 1000000 in
theorem od_X12_put__ok : oOk 181 od_X12_put_ := fun κ T n call hc av σ v h => by
  unfold od_X12_put_ at h
  split at h
  next x0 x1 =>
    obtain ⟨r0, e0, h0⟩ := obn_e h
    rw [oun_e e0]
    exact ⟨_, oM_181, (by simp only [olg_r, olg_i, olg_l, olg_n]; exact Nat.le_of_ble_eq_true rfl), fun X hX => (by show X 0 (zent 2 [va_rf r0, .int x1]) [] σ; rw [show zent 2 [va_rf r0, .int x1] = [some (va_rf r0), some (.int x1)] by simp only [zent, olv_r, olv_i, olv_l, olv_n]; rfl]; exact qb_X12_put_ hX hc h0)⟩
  next => cases h
def od_X12_put (n : Nat) (call : oCl) (κ : oKv) (av : List Value) (σ : oSt) : oRs := match av with
  | [x0, x1] => obn (oun x0) fun r0 => obn (oun x1) fun r1 => ob_X12_put n call κ r0 r1 σ
  | _ => none
set_option maxHeartbeats 1000000 in
theorem od_X12_put_ok : oOk 182 od_X12_put := fun κ T n call hc av σ v h => by
  unfold od_X12_put at h
  split at h
  next x0 x1 =>
    obtain ⟨r0, e0, h0⟩ := obn_e h
    obtain ⟨r1, e1, h1⟩ := obn_e h0
    rw [oun_e e0, oun_e e1]
    exact ⟨_, oM_182, (by simp only [olg_r, olg_i, olg_l, olg_n]; exact Nat.le_of_ble_eq_true rfl), fun X hX => (by show X 0 (zent 3 [va_rf r0, va_rf r1]) [] σ; rw [show zent 3 [va_rf r0, va_rf r1] = [some (va_rf r0), some (va_rf r1), none] by simp only [zent, olv_r, olv_i, olv_l, olv_n]; rfl]; exact qb_X12_put hX hc h1)⟩
  next => cases h
def od_X12_tellNumber (n : Nat) (call : oCl) (κ : oKv) (av : List Value) (σ : oSt) : oRs := match av with
  | [x0, .long x1] => obn (oun x0) fun r0 => ob_X12_tellNumber n call κ r0 x1 σ
  | _ => none
set_option maxHeartbeats 1000000 in
theorem od_X12_tellNumber_ok : oOk 183 od_X12_tellNumber := fun κ T n call hc av σ v h => by
  unfold od_X12_tellNumber at h
  split at h
  next x0 x1 =>
    obtain ⟨r0, e0, h0⟩ := obn_e h
    rw [oun_e e0]
    exact ⟨_, oM_183, (by simp only [olg_r, olg_i, olg_l, olg_n]; exact Nat.le_of_ble_eq_true rfl), fun X hX => (by show X 0 (zent 8 [va_rf r0, .long x1]) [] σ; rw [show zent 8 [va_rf r0, .long x1] = [some (va_rf r0), some (.long x1), none, none, none, none, none, none] by simp only [zent, olv_r, olv_i, olv_l, olv_n]; rfl]; exact qb_X12_tellNumber hX hc h0)⟩
  next => cases h
def od_X12_tellName (n : Nat) (call : oCl) (κ : oKv) (av : List Value) (σ : oSt) : oRs := match av with
  | [x0, x1] => obn (oun x0) fun r0 => obn (oun x1) fun r1 => ob_X12_tellName n call κ r0 r1 σ
  | _ => none
set_option maxHeartbeats 1000000 in
theorem od_X12_tellName_ok : oOk 184 od_X12_tellName := fun κ T n call hc av σ v h => by
  unfold od_X12_tellName at h
  split at h
  next x0 x1 =>
    obtain ⟨r0, e0, h0⟩ := obn_e h
    obtain ⟨r1, e1, h1⟩ := obn_e h0
    rw [oun_e e0, oun_e e1]
    exact ⟨_, oM_184, (by simp only [olg_r, olg_i, olg_l, olg_n]; exact Nat.le_of_ble_eq_true rfl), fun X hX => (by show X 0 (zent 3 [va_rf r0, va_rf r1]) [] σ; rw [show zent 3 [va_rf r0, va_rf r1] = [some (va_rf r0), some (va_rf r1), none] by simp only [zent, olv_r, olv_i, olv_l, olv_n]; rfl]; exact qb_X12_tellName hX hc h1)⟩
  next => cases h
def od_X12_tellRelation (n : Nat) (call : oCl) (κ : oKv) (av : List Value) (σ : oSt) : oRs := match av with
  | [x0, .int x1] => obn (oun x0) fun r0 => ob_X12_tellRelation n call κ r0 x1 σ
  | _ => none
set_option maxHeartbeats 1000000 in
theorem od_X12_tellRelation_ok : oOk 185 od_X12_tellRelation := fun κ T n call hc av σ v h => by
  unfold od_X12_tellRelation at h
  split at h
  next x0 x1 =>
    obtain ⟨r0, e0, h0⟩ := obn_e h
    rw [oun_e e0]
    exact ⟨_, oM_185, (by simp only [olg_r, olg_i, olg_l, olg_n]; exact Nat.le_of_ble_eq_true rfl), fun X hX => (by show X 0 (zent 2 [va_rf r0, .int x1]) [] σ; rw [show zent 2 [va_rf r0, .int x1] = [some (va_rf r0), some (.int x1)] by simp only [zent, olv_r, olv_i, olv_l, olv_n]; rfl]; exact qb_X12_tellRelation hX hc h0)⟩
  next => cases h
def od_X12_tellTerm (n : Nat) (call : oCl) (κ : oKv) (av : List Value) (σ : oSt) : oRs := match av with
  | [x0, x1] => obn (oun x0) fun r0 => obn (oun x1) fun r1 => ob_X12_tellTerm n call κ r0 r1 σ
  | _ => none
set_option maxHeartbeats 1000000 in
theorem od_X12_tellTerm_ok : oOk 186 od_X12_tellTerm := fun κ T n call hc av σ v h => by
  unfold od_X12_tellTerm at h
  split at h
  next x0 x1 =>
    obtain ⟨r0, e0, h0⟩ := obn_e h
    obtain ⟨r1, e1, h1⟩ := obn_e h0
    rw [oun_e e0, oun_e e1]
    exact ⟨_, oM_186, (by simp only [olg_r, olg_i, olg_l, olg_n]; exact Nat.le_of_ble_eq_true rfl), fun X hX => (by show X 0 (zent 2 [va_rf r0, va_rf r1]) [] σ; rw [show zent 2 [va_rf r0, va_rf r1] = [some (va_rf r0), some (va_rf r1)] by simp only [zent, olv_r, olv_i, olv_l, olv_n]; rfl]; exact qb_X12_tellTerm hX hc h1)⟩
  next => cases h
def od_X12_tellLeaf (n : Nat) (call : oCl) (κ : oKv) (av : List Value) (σ : oSt) : oRs := match av with
  | [x0, x1] => obn (oun x0) fun r0 => obn (oun x1) fun r1 => ob_X12_tellLeaf n call κ r0 r1 σ
  | _ => none
set_option maxHeartbeats 1000000 in
theorem od_X12_tellLeaf_ok : oOk 187 od_X12_tellLeaf := fun κ T n call hc av σ v h => by
  unfold od_X12_tellLeaf at h
  split at h
  next x0 x1 =>
    obtain ⟨r0, e0, h0⟩ := obn_e h
    obtain ⟨r1, e1, h1⟩ := obn_e h0
    rw [oun_e e0, oun_e e1]
    exact ⟨_, oM_187, (by simp only [olg_r, olg_i, olg_l, olg_n]; exact Nat.le_of_ble_eq_true rfl), fun X hX => (by show X 0 (zent 3 [va_rf r0, va_rf r1]) [] σ; rw [show zent 3 [va_rf r0, va_rf r1] = [some (va_rf r0), some (va_rf r1), none] by simp only [zent, olv_r, olv_i, olv_l, olv_n]; rfl]; exact qb_X12_tellLeaf hX hc h1)⟩
  next => cases h
def od_X12_tell (n : Nat) (call : oCl) (κ : oKv) (av : List Value) (σ : oSt) : oRs := match av with
  | [x0, x1, .int x2] => obn (oun x0) fun r0 => obn (oun x1) fun r1 => ob_X12_tell n call κ r0 r1 x2 σ
  | _ => none
set_option maxHeartbeats 1000000 in
theorem od_X12_tell_ok : oOk 188 od_X12_tell := fun κ T n call hc av σ v h => by
  unfold od_X12_tell at h
  split at h
  next x0 x1 x2 =>
    obtain ⟨r0, e0, h0⟩ := obn_e h
    obtain ⟨r1, e1, h1⟩ := obn_e h0
    rw [oun_e e0, oun_e e1]
    exact ⟨_, oM_188, (by simp only [olg_r, olg_i, olg_l, olg_n]; exact Nat.le_of_ble_eq_true rfl), fun X hX => (by show X 0 (zent 6 [va_rf r0, va_rf r1, .int x2]) [] σ; rw [show zent 6 [va_rf r0, va_rf r1, .int x2] = [some (va_rf r0), some (va_rf r1), some (.int x2), none, none, none] by simp only [zent, olv_r, olv_i, olv_l, olv_n]; rfl]; exact qb_X12_tell hX hc h1)⟩
  next => cases h
def od_X12_type (n : Nat) (call : oCl) (κ : oKv) (av : List Value) (σ : oSt) : oRs := match av with
  | [x0, .int x1] => obn (oun x0) fun r0 => ob_X12_type n call κ r0 x1 σ
  | _ => none
set_option maxHeartbeats 1000000 in
theorem od_X12_type_ok : oOk 189 od_X12_type := fun κ T n call hc av σ v h => by
  unfold od_X12_type at h
  split at h
  next x0 x1 =>
    obtain ⟨r0, e0, h0⟩ := obn_e h
    rw [oun_e e0]
    exact ⟨_, oM_189, (by simp only [olg_r, olg_i, olg_l, olg_n]; exact Nat.le_of_ble_eq_true rfl), fun X hX => (by show X 0 (zent 3 [va_rf r0, .int x1]) [] σ; rw [show zent 3 [va_rf r0, .int x1] = [some (va_rf r0), some (.int x1), none] by simp only [zent, olv_r, olv_i, olv_l, olv_n]; rfl]; exact qb_X12_type hX hc h0)⟩
  next => cases h
def od_X12_out (n : Nat) (call : oCl) (κ : oKv) (av : List Value) (σ : oSt) : oRs := match av with
  | [x0, .int x1] => obn (oun x0) fun r0 => ob_X12_out n call κ r0 x1 σ
  | _ => none
set_option maxHeartbeats 1000000 in
theorem od_X12_out_ok : oOk 190 od_X12_out := fun κ T n call hc av σ v h => by
  unfold od_X12_out at h
  split at h
  next x0 x1 =>
    obtain ⟨r0, e0, h0⟩ := obn_e h
    rw [oun_e e0]
    exact ⟨_, oM_190, (by simp only [olg_r, olg_i, olg_l, olg_n]; exact Nat.le_of_ble_eq_true rfl), fun X hX => (by show X 0 (zent 2 [va_rf r0, .int x1]) [] σ; rw [show zent 2 [va_rf r0, .int x1] = [some (va_rf r0), some (.int x1)] by simp only [zent, olv_r, olv_i, olv_l, olv_n]; rfl]; exact qb_X12_out hX hc h0)⟩
  next => cases h
def od_X12_give (n : Nat) (call : oCl) (κ : oKv) (av : List Value) (σ : oSt) : oRs := match av with
  | [x0, .int x1, .int x2] => obn (oun x0) fun r0 => ob_X12_give n call κ r0 x1 x2 σ
  | _ => none
set_option maxHeartbeats 1000000 in
theorem od_X12_give_ok : oOk 191 od_X12_give := fun κ T n call hc av σ v h => by
  unfold od_X12_give at h
  split at h
  next x0 x1 x2 =>
    obtain ⟨r0, e0, h0⟩ := obn_e h
    rw [oun_e e0]
    exact ⟨_, oM_191, (by simp only [olg_r, olg_i, olg_l, olg_n]; exact Nat.le_of_ble_eq_true rfl), fun X hX => (by show X 0 (zent 3 [va_rf r0, .int x1, .int x2]) [] σ; rw [show zent 3 [va_rf r0, .int x1, .int x2] = [some (va_rf r0), some (.int x1), some (.int x2)] by simp only [zent, olv_r, olv_i, olv_l, olv_n]; rfl]; exact qb_X12_give hX hc h0)⟩
  next => cases h
def od_X12_element (n : Nat) (call : oCl) (κ : oKv) (av : List Value) (σ : oSt) : oRs := match av with
  | [x0, .int x1, .int x2, .int x3] => obn (oun x0) fun r0 => ob_X12_element n call κ r0 x1 x2 x3 σ
  | _ => none
set_option maxHeartbeats 1000000 in
theorem od_X12_element_ok : oOk 192 od_X12_element := fun κ T n call hc av σ v h => by
  unfold od_X12_element at h
  split at h
  next x0 x1 x2 x3 =>
    obtain ⟨r0, e0, h0⟩ := obn_e h
    rw [oun_e e0]
    exact ⟨_, oM_192, (by simp only [olg_r, olg_i, olg_l, olg_n]; exact Nat.le_of_ble_eq_true rfl), fun X hX => (by show X 0 (zent 4 [va_rf r0, .int x1, .int x2, .int x3]) [] σ; rw [show zent 4 [va_rf r0, .int x1, .int x2, .int x3] = [some (va_rf r0), some (.int x1), some (.int x2), some (.int x3)] by simp only [zent, olv_r, olv_i, olv_l, olv_n]; rfl]; exact qb_X12_element hX hc h0)⟩
  next => cases h
def od_X12_run (n : Nat) (call : oCl) (κ : oKv) (av : List Value) (σ : oSt) : oRs := match av with
  | [x0, .int x1] => obn (oun x0) fun r0 => ob_X12_run n call κ r0 x1 σ
  | _ => none
set_option maxHeartbeats 1000000 in
theorem od_X12_run_ok : oOk 193 od_X12_run := fun κ T n call hc av σ v h => by
  unfold od_X12_run at h
  split at h
  next x0 x1 =>
    obtain ⟨r0, e0, h0⟩ := obn_e h
    rw [oun_e e0]
    exact ⟨_, oM_193, (by simp only [olg_r, olg_i, olg_l, olg_n]; exact Nat.le_of_ble_eq_true rfl), fun X hX => (by show X 0 (zent 2 [va_rf r0, .int x1]) [] σ; rw [show zent 2 [va_rf r0, .int x1] = [some (va_rf r0), some (.int x1)] by simp only [zent, olv_r, olv_i, olv_l, olv_n]; rfl]; exact qb_X12_run hX hc h0)⟩
  next => cases h
def od_X12_value (n : Nat) (call : oCl) (κ : oKv) (av : List Value) (σ : oSt) : oRs := match av with
  | [x0] => obn (oun x0) fun r0 => ob_X12_value n call κ r0 σ
  | _ => none
set_option maxHeartbeats 1000000 in
theorem od_X12_value_ok : oOk 194 od_X12_value := fun κ T n call hc av σ v h => by
  unfold od_X12_value at h
  split at h
  next x0 =>
    obtain ⟨r0, e0, h0⟩ := obn_e h
    rw [oun_e e0]
    exact ⟨_, oM_194, (by simp only [olg_r, olg_i, olg_l, olg_n]; exact Nat.le_of_ble_eq_true rfl), fun X hX => (by show X 0 (zent 1 [va_rf r0]) [] σ; rw [show zent 1 [va_rf r0] = [some (va_rf r0)] by simp only [zent, olv_r, olv_i, olv_l, olv_n]; rfl]; exact qb_X12_value hX hc h0)⟩
  next => cases h
def od_X12_fuel (n : Nat) (call : oCl) (κ : oKv) (av : List Value) (σ : oSt) : oRs := match av with
  | [x0] => obn (oun x0) fun r0 => ob_X12_fuel n call κ r0 σ
  | _ => none
set_option maxHeartbeats 1000000 in
theorem od_X12_fuel_ok : oOk 195 od_X12_fuel := fun κ T n call hc av σ v h => by
  unfold od_X12_fuel at h
  split at h
  next x0 =>
    obtain ⟨r0, e0, h0⟩ := obn_e h
    rw [oun_e e0]
    exact ⟨_, oM_195, (by simp only [olg_r, olg_i, olg_l, olg_n]; exact Nat.le_of_ble_eq_true rfl), fun X hX => (by show X 0 (zent 1 [va_rf r0]) [] σ; rw [show zent 1 [va_rf r0] = [some (va_rf r0)] by simp only [zent, olv_r, olv_i, olv_l, olv_n]; rfl]; exact qb_X12_fuel hX hc h0)⟩
  next => cases h
def od_J0_init_905df (n : Nat) (call : oCl) (κ : oKv) (av : List Value) (σ : oSt) : oRs := match av with
  | [x0, x1] => obn (oun x0) fun r0 => obn (oun x1) fun r1 => ob_J0_init_905df n call κ r0 r1 σ
  | _ => none
set_option maxHeartbeats 1000000 in
theorem od_J0_init_905df_ok : oOk 196 od_J0_init_905df := fun κ T n call hc av σ v h => by
  unfold od_J0_init_905df at h
  split at h
  next x0 x1 =>
    obtain ⟨r0, e0, h0⟩ := obn_e h
    obtain ⟨r1, e1, h1⟩ := obn_e h0
    rw [oun_e e0, oun_e e1]
    exact ⟨_, oM_196, (by simp only [olg_r, olg_i, olg_l, olg_n]; exact Nat.le_of_ble_eq_true rfl), fun X hX => (by show X 0 (zent 2 [va_rf r0, va_rf r1]) [] σ; rw [show zent 2 [va_rf r0, va_rf r1] = [some (va_rf r0), some (va_rf r1)] by simp only [zent, olv_r, olv_i, olv_l, olv_n]; rfl]; exact qb_J0_init_905df hX hc h1)⟩
  next => cases h
def od_J0_init_bb550 (n : Nat) (call : oCl) (κ : oKv) (av : List Value) (σ : oSt) : oRs := match av with
  | [x0, x1, .int x2, .int x3, x4] => obn (oun x0) fun r0 => obn (oun x1) fun r1 => obn (oun x4) fun r4 => ob_J0_init_bb550 n call κ r0 r1 x2 x3 r4 σ
  | _ => none
set_option maxHeartbeats 1000000 in
theorem od_J0_init_bb550_ok : oOk 197 od_J0_init_bb550 := fun κ T n call hc av σ v h => by
  unfold od_J0_init_bb550 at h
  split at h
  next x0 x1 x2 x3 x4 =>
    obtain ⟨r0, e0, h0⟩ := obn_e h
    obtain ⟨r1, e1, h1⟩ := obn_e h0
    obtain ⟨r4, e4, h4⟩ := obn_e h1
    rw [oun_e e0, oun_e e1, oun_e e4]
    exact ⟨_, oM_197, (by simp only [olg_r, olg_i, olg_l, olg_n]; exact Nat.le_of_ble_eq_true rfl), fun X hX => (by show X 0 (zent 6 [va_rf r0, va_rf r1, .int x2, .int x3, va_rf r4]) [] σ; rw [show zent 6 [va_rf r0, va_rf r1, .int x2, .int x3, va_rf r4] = [some (va_rf r0), some (va_rf r1), some (.int x2), some (.int x3), some (va_rf r4), none] by simp only [zent, olv_r, olv_i, olv_l, olv_n]; rfl]; exact qb_J0_init_bb550 hX hc h4)⟩
  next => cases h
def od_J2_compress_dfd3c (n : Nat) (call : oCl) (κ : oKv) (av : List Value) (σ : oSt) : oRs := match av with
  | [x0, .int x1, .int x2] => obn (oun x0) fun r0 => ob_J2_compress_dfd3c n call κ r0 x1 x2 σ
  | _ => none
set_option maxHeartbeats 1000000 in
theorem od_J2_compress_dfd3c_ok : oOk 198 od_J2_compress_dfd3c := fun κ T n call hc av σ v h => by
  unfold od_J2_compress_dfd3c at h
  split at h
  next x0 x1 x2 =>
    obtain ⟨r0, e0, h0⟩ := obn_e h
    rw [oun_e e0]
    exact ⟨_, oM_198, (by simp only [olg_r, olg_i, olg_l, olg_n]; exact Nat.le_of_ble_eq_true rfl), fun X hX => (by show X 0 (zent 6 [va_rf r0, .int x1, .int x2]) [] σ; rw [show zent 6 [va_rf r0, .int x1, .int x2] = [some (va_rf r0), some (.int x1), some (.int x2), none, none, none] by simp only [zent, olv_r, olv_i, olv_l, olv_n]; rfl]; exact qb_J2_compress_dfd3c hX hc h0)⟩
  next => cases h
def od_J2_compress_fe38e (n : Nat) (call : oCl) (κ : oKv) (av : List Value) (σ : oSt) : oRs := match av with
  | [x0, .int x1, x2, .int x3, .int x4] => obn (oun x0) fun r0 => obn (oun x2) fun r2 => ob_J2_compress_fe38e n call κ r0 x1 r2 x3 x4 σ
  | _ => none
set_option maxHeartbeats 1000000 in
theorem od_J2_compress_fe38e_ok : oOk 199 od_J2_compress_fe38e := fun κ T n call hc av σ v h => by
  unfold od_J2_compress_fe38e at h
  split at h
  next x0 x1 x2 x3 x4 =>
    obtain ⟨r0, e0, h0⟩ := obn_e h
    obtain ⟨r2, e2, h2⟩ := obn_e h0
    rw [oun_e e0, oun_e e2]
    exact ⟨_, oM_199, (by simp only [olg_r, olg_i, olg_l, olg_n]; exact Nat.le_of_ble_eq_true rfl), fun X hX => (by show X 0 (zent 7 [va_rf r0, .int x1, va_rf r2, .int x3, .int x4]) [] σ; rw [show zent 7 [va_rf r0, .int x1, va_rf r2, .int x3, .int x4] = [some (va_rf r0), some (.int x1), some (va_rf r2), some (.int x3), some (.int x4), none, none] by simp only [zent, olv_r, olv_i, olv_l, olv_n]; rfl]; exact qb_J2_compress_fe38e hX hc h2)⟩
  next => cases h
def od_J2_coderFromArrayLen_85cad (n : Nat) (call : oCl) (κ : oKv) (av : List Value) (σ : oSt) : oRs := match av with
  | [x0, .int x1] => obn (oun x0) fun r0 => ob_J2_coderFromArrayLen_85cad n call κ r0 x1 σ
  | _ => none
set_option maxHeartbeats 1000000 in
theorem od_J2_coderFromArrayLen_85cad_ok : oOk 200 od_J2_coderFromArrayLen_85cad := fun κ T n call hc av σ v h => by
  unfold od_J2_coderFromArrayLen_85cad at h
  split at h
  next x0 x1 =>
    obtain ⟨r0, e0, h0⟩ := obn_e h
    rw [oun_e e0]
    exact ⟨_, oM_200, (by simp only [olg_r, olg_i, olg_l, olg_n]; exact Nat.le_of_ble_eq_true rfl), fun X hX => (by show X 0 (zent 2 [va_rf r0, .int x1]) [] σ; rw [show zent 2 [va_rf r0, .int x1] = [some (va_rf r0), some (.int x1)] by simp only [zent, olv_r, olv_i, olv_l, olv_n]; rfl]; exact qb_J2_coderFromArrayLen_85cad hX hc h0)⟩
  next => cases h
def od_J0_charAt_5068e (n : Nat) (call : oCl) (κ : oKv) (av : List Value) (σ : oSt) : oRs := match av with
  | [x0, .int x1] => obn (oun x0) fun r0 => ob_J0_charAt_5068e n call κ r0 x1 σ
  | _ => none
set_option maxHeartbeats 1000000 in
theorem od_J0_charAt_5068e_ok : oOk 201 od_J0_charAt_5068e := fun κ T n call hc av σ v h => by
  unfold od_J0_charAt_5068e at h
  split at h
  next x0 x1 =>
    obtain ⟨r0, e0, h0⟩ := obn_e h
    rw [oun_e e0]
    exact ⟨_, oM_201, (by simp only [olg_r, olg_i, olg_l, olg_n]; exact Nat.le_of_ble_eq_true rfl), fun X hX => (by show X 0 (zent 2 [va_rf r0, .int x1]) [] σ; rw [show zent 2 [va_rf r0, .int x1] = [some (va_rf r0), some (.int x1)] by simp only [zent, olv_r, olv_i, olv_l, olv_n]; rfl]; exact qb_J0_charAt_5068e hX hc h0)⟩
  next => cases h
def od_J0_isLatin1_aae02 (n : Nat) (call : oCl) (κ : oKv) (av : List Value) (σ : oSt) : oRs := match av with
  | [x0] => obn (oun x0) fun r0 => ob_J0_isLatin1_aae02 n call κ r0 σ
  | _ => none
set_option maxHeartbeats 1000000 in
theorem od_J0_isLatin1_aae02_ok : oOk 202 od_J0_isLatin1_aae02 := fun κ T n call hc av σ v h => by
  unfold od_J0_isLatin1_aae02 at h
  split at h
  next x0 =>
    obtain ⟨r0, e0, h0⟩ := obn_e h
    rw [oun_e e0]
    exact ⟨_, oM_202, (by simp only [olg_r, olg_i, olg_l, olg_n]; exact Nat.le_of_ble_eq_true rfl), fun X hX => (by show X 0 (zent 1 [va_rf r0]) [] σ; rw [show zent 1 [va_rf r0] = [some (va_rf r0)] by simp only [zent, olv_r, olv_i, olv_l, olv_n]; rfl]; exact qb_J0_isLatin1_aae02 hX hc h0)⟩
  next => cases h
def od_J1_charAt_3b067 (n : Nat) (call : oCl) (κ : oKv) (av : List Value) (σ : oSt) : oRs := match av with
  | [x0, .int x1] => obn (oun x0) fun r0 => ob_J1_charAt_3b067 n call κ r0 x1 σ
  | _ => none
set_option maxHeartbeats 1000000 in
theorem od_J1_charAt_3b067_ok : oOk 203 od_J1_charAt_3b067 := fun κ T n call hc av σ v h => by
  unfold od_J1_charAt_3b067 at h
  split at h
  next x0 x1 =>
    obtain ⟨r0, e0, h0⟩ := obn_e h
    rw [oun_e e0]
    exact ⟨_, oM_203, (by simp only [olg_r, olg_i, olg_l, olg_n]; exact Nat.le_of_ble_eq_true rfl), fun X hX => (by show X 0 (zent 2 [va_rf r0, .int x1]) [] σ; rw [show zent 2 [va_rf r0, .int x1] = [some (va_rf r0), some (.int x1)] by simp only [zent, olv_r, olv_i, olv_l, olv_n]; rfl]; exact qb_J1_charAt_3b067 hX hc h0)⟩
  next => cases h
def od_J0_checkIndex_df160 (n : Nat) (call : oCl) (κ : oKv) (av : List Value) (σ : oSt) : oRs := match av with
  | [.int x0, .int x1] => ob_J0_checkIndex_df160 n call κ x0 x1 σ
  | _ => none
set_option maxHeartbeats 1000000 in
theorem od_J0_checkIndex_df160_ok : oOk 204 od_J0_checkIndex_df160 := fun κ T n call hc av σ v h => by
  unfold od_J0_checkIndex_df160 at h
  split at h
  next x0 x1 =>
    exact ⟨_, oM_204, Nat.le_of_ble_eq_true rfl, fun X hX => qb_J0_checkIndex_df160 hX hc h⟩
  next => cases h
def od_J15_checkIndex_7cf53 (n : Nat) (call : oCl) (κ : oKv) (av : List Value) (σ : oSt) : oRs := match av with
  | [.int x0, .int x1] => ob_J15_checkIndex_7cf53 n call κ x0 x1 σ
  | _ => none
set_option maxHeartbeats 1000000 in
theorem od_J15_checkIndex_7cf53_ok : oOk 205 od_J15_checkIndex_7cf53 := fun κ T n call hc av σ v h => by
  unfold od_J15_checkIndex_7cf53 at h
  split at h
  next x0 x1 =>
    exact ⟨_, oM_205, Nat.le_of_ble_eq_true rfl, fun X hX => qb_J15_checkIndex_7cf53 hX hc h⟩
  next => cases h
def od_J3_checkIndex_8e157 (n : Nat) (call : oCl) (κ : oKv) (av : List Value) (σ : oSt) : oRs := match av with
  | [.int x0, .int x1, x2] => obn (oun x2) fun r2 => ob_J3_checkIndex_8e157 n call κ x0 x1 r2 σ
  | _ => none
set_option maxHeartbeats 1000000 in
theorem od_J3_checkIndex_8e157_ok : oOk 206 od_J3_checkIndex_8e157 := fun κ T n call hc av σ v h => by
  unfold od_J3_checkIndex_8e157 at h
  split at h
  next x0 x1 x2 =>
    obtain ⟨r2, e2, h2⟩ := obn_e h
    rw [oun_e e2]
    exact ⟨_, oM_206, (by simp only [olg_r, olg_i, olg_l, olg_n]; exact Nat.le_of_ble_eq_true rfl), fun X hX => (by show X 0 (zent 3 [.int x0, .int x1, va_rf r2]) [] σ; rw [show zent 3 [.int x0, .int x1, va_rf r2] = [some (.int x0), some (.int x1), some (va_rf r2)] by simp only [zent, olv_r, olv_i, olv_l, olv_n]; rfl]; exact qb_J3_checkIndex_8e157 hX hc h2)⟩
  next => cases h
def od_J0_length_8abf5 (n : Nat) (call : oCl) (κ : oKv) (av : List Value) (σ : oSt) : oRs := match av with
  | [x0] => obn (oun x0) fun r0 => ob_J0_length_8abf5 n call κ r0 σ
  | _ => none
set_option maxHeartbeats 1000000 in
theorem od_J0_length_8abf5_ok : oOk 207 od_J0_length_8abf5 := fun κ T n call hc av σ v h => by
  unfold od_J0_length_8abf5 at h
  split at h
  next x0 =>
    obtain ⟨r0, e0, h0⟩ := obn_e h
    rw [oun_e e0]
    exact ⟨_, oM_207, (by simp only [olg_r, olg_i, olg_l, olg_n]; exact Nat.le_of_ble_eq_true rfl), fun X hX => (by show X 0 (zent 1 [va_rf r0]) [] σ; rw [show zent 1 [va_rf r0] = [some (va_rf r0)] by simp only [zent, olv_r, olv_i, olv_l, olv_n]; rfl]; exact qb_J0_length_8abf5 hX hc h0)⟩
  next => cases h
def od_J0_coder_7d493 (n : Nat) (call : oCl) (κ : oKv) (av : List Value) (σ : oSt) : oRs := match av with
  | [x0] => obn (oun x0) fun r0 => ob_J0_coder_7d493 n call κ r0 σ
  | _ => none
set_option maxHeartbeats 1000000 in
theorem od_J0_coder_7d493_ok : oOk 208 od_J0_coder_7d493 := fun κ T n call hc av σ v h => by
  unfold od_J0_coder_7d493 at h
  split at h
  next x0 =>
    obtain ⟨r0, e0, h0⟩ := obn_e h
    rw [oun_e e0]
    exact ⟨_, oM_208, (by simp only [olg_r, olg_i, olg_l, olg_n]; exact Nat.le_of_ble_eq_true rfl), fun X hX => (by show X 0 (zent 1 [va_rf r0]) [] σ; rw [show zent 1 [va_rf r0] = [some (va_rf r0)] by simp only [zent, olv_r, olv_i, olv_l, olv_n]; rfl]; exact qb_J0_coder_7d493 hX hc h0)⟩
  next => cases h
def od_J0_substring_37a41 (n : Nat) (call : oCl) (κ : oKv) (av : List Value) (σ : oSt) : oRs := match av with
  | [x0, .int x1, .int x2] => obn (oun x0) fun r0 => ob_J0_substring_37a41 n call κ r0 x1 x2 σ
  | _ => none
set_option maxHeartbeats 1000000 in
theorem od_J0_substring_37a41_ok : oOk 209 od_J0_substring_37a41 := fun κ T n call hc av σ v h => by
  unfold od_J0_substring_37a41 at h
  split at h
  next x0 x1 x2 =>
    obtain ⟨r0, e0, h0⟩ := obn_e h
    rw [oun_e e0]
    exact ⟨_, oM_209, (by simp only [olg_r, olg_i, olg_l, olg_n]; exact Nat.le_of_ble_eq_true rfl), fun X hX => (by show X 0 (zent 5 [va_rf r0, .int x1, .int x2]) [] σ; rw [show zent 5 [va_rf r0, .int x1, .int x2] = [some (va_rf r0), some (.int x1), some (.int x2), none, none] by simp only [zent, olv_r, olv_i, olv_l, olv_n]; rfl]; exact qb_J0_substring_37a41 hX hc h0)⟩
  next => cases h
def od_J0_checkBoundsBeginEnd_23922 (n : Nat) (call : oCl) (κ : oKv) (av : List Value) (σ : oSt) : oRs := match av with
  | [.int x0, .int x1, .int x2] => ob_J0_checkBoundsBeginEnd_23922 n call κ x0 x1 x2 σ
  | _ => none
set_option maxHeartbeats 1000000 in
theorem od_J0_checkBoundsBeginEnd_23922_ok : oOk 210 od_J0_checkBoundsBeginEnd_23922 := fun κ T n call hc av σ v h => by
  unfold od_J0_checkBoundsBeginEnd_23922 at h
  split at h
  next x0 x1 x2 =>
    exact ⟨_, oM_210, Nat.le_of_ble_eq_true rfl, fun X hX => qb_J0_checkBoundsBeginEnd_23922 hX hc h⟩
  next => cases h
def od_J3_checkFromToIndex_8c36e (n : Nat) (call : oCl) (κ : oKv) (av : List Value) (σ : oSt) : oRs := match av with
  | [.int x0, .int x1, .int x2, x3] => obn (oun x3) fun r3 => ob_J3_checkFromToIndex_8c36e n call κ x0 x1 x2 r3 σ
  | _ => none
set_option maxHeartbeats 1000000 in
theorem od_J3_checkFromToIndex_8c36e_ok : oOk 211 od_J3_checkFromToIndex_8c36e := fun κ T n call hc av σ v h => by
  unfold od_J3_checkFromToIndex_8c36e at h
  split at h
  next x0 x1 x2 x3 =>
    obtain ⟨r3, e3, h3⟩ := obn_e h
    rw [oun_e e3]
    exact ⟨_, oM_211, (by simp only [olg_r, olg_i, olg_l, olg_n]; exact Nat.le_of_ble_eq_true rfl), fun X hX => (by show X 0 (zent 4 [.int x0, .int x1, .int x2, va_rf r3]) [] σ; rw [show zent 4 [.int x0, .int x1, .int x2, va_rf r3] = [some (.int x0), some (.int x1), some (.int x2), some (va_rf r3)] by simp only [zent, olv_r, olv_i, olv_l, olv_n]; rfl]; exact qb_J3_checkFromToIndex_8c36e hX hc h3)⟩
  next => cases h
def od_J1_newString_b4f7a (n : Nat) (call : oCl) (κ : oKv) (av : List Value) (σ : oSt) : oRs := match av with
  | [x0, .int x1, .int x2] => obn (oun x0) fun r0 => ob_J1_newString_b4f7a n call κ r0 x1 x2 σ
  | _ => none
set_option maxHeartbeats 1000000 in
theorem od_J1_newString_b4f7a_ok : oOk 212 od_J1_newString_b4f7a := fun κ T n call hc av σ v h => by
  unfold od_J1_newString_b4f7a at h
  split at h
  next x0 x1 x2 =>
    obtain ⟨r0, e0, h0⟩ := obn_e h
    rw [oun_e e0]
    exact ⟨_, oM_212, (by simp only [olg_r, olg_i, olg_l, olg_n]; exact Nat.le_of_ble_eq_true rfl), fun X hX => (by show X 0 (zent 3 [va_rf r0, .int x1, .int x2]) [] σ; rw [show zent 3 [va_rf r0, .int x1, .int x2] = [some (va_rf r0), some (.int x1), some (.int x2)] by simp only [zent, olv_r, olv_i, olv_l, olv_n]; rfl]; exact qb_J1_newString_b4f7a hX hc h0)⟩
  next => cases h
def od_J7_copyOfRange_39247 (n : Nat) (call : oCl) (κ : oKv) (av : List Value) (σ : oSt) : oRs := match av with
  | [x0, .int x1, .int x2] => obn (oun x0) fun r0 => ob_J7_copyOfRange_39247 n call κ r0 x1 x2 σ
  | _ => none
set_option maxHeartbeats 1000000 in
theorem od_J7_copyOfRange_39247_ok : oOk 213 od_J7_copyOfRange_39247 := fun κ T n call hc av σ v h => by
  unfold od_J7_copyOfRange_39247 at h
  split at h
  next x0 x1 x2 =>
    obtain ⟨r0, e0, h0⟩ := obn_e h
    rw [oun_e e0]
    exact ⟨_, oM_213, (by simp only [olg_r, olg_i, olg_l, olg_n]; exact Nat.le_of_ble_eq_true rfl), fun X hX => (by show X 0 (zent 3 [va_rf r0, .int x1, .int x2]) [] σ; rw [show zent 3 [va_rf r0, .int x1, .int x2] = [some (va_rf r0), some (.int x1), some (.int x2)] by simp only [zent, olv_r, olv_i, olv_l, olv_n]; rfl]; exact qb_J7_copyOfRange_39247 hX hc h0)⟩
  next => cases h
def od_J7_copyOfRangeByte_39247 (n : Nat) (call : oCl) (κ : oKv) (av : List Value) (σ : oSt) : oRs := match av with
  | [x0, .int x1, .int x2] => obn (oun x0) fun r0 => ob_J7_copyOfRangeByte_39247 n call κ r0 x1 x2 σ
  | _ => none
set_option maxHeartbeats 1000000 in
theorem od_J7_copyOfRangeByte_39247_ok : oOk 214 od_J7_copyOfRangeByte_39247 := fun κ T n call hc av σ v h => by
  unfold od_J7_copyOfRangeByte_39247 at h
  split at h
  next x0 x1 x2 =>
    obtain ⟨r0, e0, h0⟩ := obn_e h
    rw [oun_e e0]
    exact ⟨_, oM_214, (by simp only [olg_r, olg_i, olg_l, olg_n]; exact Nat.le_of_ble_eq_true rfl), fun X hX => (by show X 0 (zent 5 [va_rf r0, .int x1, .int x2]) [] σ; rw [show zent 5 [va_rf r0, .int x1, .int x2] = [some (va_rf r0), some (.int x1), some (.int x2), none, none] by simp only [zent, olv_r, olv_i, olv_l, olv_n]; rfl]; exact qb_J7_copyOfRangeByte_39247 hX hc h0)⟩
  next => cases h
def od_J7_checkLength_df160 (n : Nat) (call : oCl) (κ : oKv) (av : List Value) (σ : oSt) : oRs := match av with
  | [.int x0, .int x1] => ob_J7_checkLength_df160 n call κ x0 x1 σ
  | _ => none
set_option maxHeartbeats 1000000 in
theorem od_J7_checkLength_df160_ok : oOk 215 od_J7_checkLength_df160 := fun κ T n call hc av σ v h => by
  unfold od_J7_checkLength_df160 at h
  split at h
  next x0 x1 =>
    exact ⟨_, oM_215, Nat.le_of_ble_eq_true rfl, fun X hX => qb_J7_checkLength_df160 hX hc h⟩
  next => cases h
def od_J0_init_031fb (n : Nat) (call : oCl) (κ : oKv) (av : List Value) (σ : oSt) : oRs := match av with
  | [x0, x1, .int x2] => obn (oun x0) fun r0 => obn (oun x1) fun r1 => ob_J0_init_031fb n call κ r0 r1 x2 σ
  | _ => none
set_option maxHeartbeats 1000000 in
theorem od_J0_init_031fb_ok : oOk 216 od_J0_init_031fb := fun κ T n call hc av σ v h => by
  unfold od_J0_init_031fb at h
  split at h
  next x0 x1 x2 =>
    obtain ⟨r0, e0, h0⟩ := obn_e h
    obtain ⟨r1, e1, h1⟩ := obn_e h0
    rw [oun_e e0, oun_e e1]
    exact ⟨_, oM_216, (by simp only [olg_r, olg_i, olg_l, olg_n]; exact Nat.le_of_ble_eq_true rfl), fun X hX => (by show X 0 (zent 3 [va_rf r0, va_rf r1, .int x2]) [] σ; rw [show zent 3 [va_rf r0, va_rf r1, .int x2] = [some (va_rf r0), some (va_rf r1), some (.int x2)] by simp only [zent, olv_r, olv_i, olv_l, olv_n]; rfl]; exact qb_J0_init_031fb hX hc h1)⟩
  next => cases h
def od_J0_equals_9ea2d (n : Nat) (call : oCl) (κ : oKv) (av : List Value) (σ : oSt) : oRs := match av with
  | [x0, x1] => obn (oun x0) fun r0 => obn (oun x1) fun r1 => ob_J0_equals_9ea2d n call κ r0 r1 σ
  | _ => none
set_option maxHeartbeats 1000000 in
theorem od_J0_equals_9ea2d_ok : oOk 217 od_J0_equals_9ea2d := fun κ T n call hc av σ v h => by
  unfold od_J0_equals_9ea2d at h
  split at h
  next x0 x1 =>
    obtain ⟨r0, e0, h0⟩ := obn_e h
    obtain ⟨r1, e1, h1⟩ := obn_e h0
    rw [oun_e e0, oun_e e1]
    exact ⟨_, oM_217, (by simp only [olg_r, olg_i, olg_l, olg_n]; exact Nat.le_of_ble_eq_true rfl), fun X hX => (by show X 0 (zent 3 [va_rf r0, va_rf r1]) [] σ; rw [show zent 3 [va_rf r0, va_rf r1] = [some (va_rf r0), some (va_rf r1), none] by simp only [zent, olv_r, olv_i, olv_l, olv_n]; rfl]; exact qb_J0_equals_9ea2d hX hc h1)⟩
  next => cases h
def od_J1_equals_b5fdf (n : Nat) (call : oCl) (κ : oKv) (av : List Value) (σ : oSt) : oRs := match av with
  | [x0, x1] => obn (oun x0) fun r0 => obn (oun x1) fun r1 => ob_J1_equals_b5fdf n call κ r0 r1 σ
  | _ => none
set_option maxHeartbeats 1000000 in
theorem od_J1_equals_b5fdf_ok : oOk 218 od_J1_equals_b5fdf := fun κ T n call hc av σ v h => by
  unfold od_J1_equals_b5fdf at h
  split at h
  next x0 x1 =>
    obtain ⟨r0, e0, h0⟩ := obn_e h
    obtain ⟨r1, e1, h1⟩ := obn_e h0
    rw [oun_e e0, oun_e e1]
    exact ⟨_, oM_218, (by simp only [olg_r, olg_i, olg_l, olg_n]; exact Nat.le_of_ble_eq_true rfl), fun X hX => (by show X 0 (zent 3 [va_rf r0, va_rf r1]) [] σ; rw [show zent 3 [va_rf r0, va_rf r1] = [some (va_rf r0), some (va_rf r1), none] by simp only [zent, olv_r, olv_i, olv_l, olv_n]; rfl]; exact qb_J1_equals_b5fdf hX hc h1)⟩
  next => cases h
def od_J0_indexOf_0f7a4 (n : Nat) (call : oCl) (κ : oKv) (av : List Value) (σ : oSt) : oRs := match av with
  | [x0, .int x1] => obn (oun x0) fun r0 => ob_J0_indexOf_0f7a4 n call κ r0 x1 σ
  | _ => none
set_option maxHeartbeats 1000000 in
theorem od_J0_indexOf_0f7a4_ok : oOk 219 od_J0_indexOf_0f7a4 := fun κ T n call hc av σ v h => by
  unfold od_J0_indexOf_0f7a4 at h
  split at h
  next x0 x1 =>
    obtain ⟨r0, e0, h0⟩ := obn_e h
    rw [oun_e e0]
    exact ⟨_, oM_219, (by simp only [olg_r, olg_i, olg_l, olg_n]; exact Nat.le_of_ble_eq_true rfl), fun X hX => (by show X 0 (zent 2 [va_rf r0, .int x1]) [] σ; rw [show zent 2 [va_rf r0, .int x1] = [some (va_rf r0), some (.int x1)] by simp only [zent, olv_r, olv_i, olv_l, olv_n]; rfl]; exact qb_J0_indexOf_0f7a4 hX hc h0)⟩
  next => cases h
def od_J0_indexOf_7cf53 (n : Nat) (call : oCl) (κ : oKv) (av : List Value) (σ : oSt) : oRs := match av with
  | [x0, .int x1, .int x2] => obn (oun x0) fun r0 => ob_J0_indexOf_7cf53 n call κ r0 x1 x2 σ
  | _ => none
set_option maxHeartbeats 1000000 in
theorem od_J0_indexOf_7cf53_ok : oOk 220 od_J0_indexOf_7cf53 := fun κ T n call hc av σ v h => by
  unfold od_J0_indexOf_7cf53 at h
  split at h
  next x0 x1 x2 =>
    obtain ⟨r0, e0, h0⟩ := obn_e h
    rw [oun_e e0]
    exact ⟨_, oM_220, (by simp only [olg_r, olg_i, olg_l, olg_n]; exact Nat.le_of_ble_eq_true rfl), fun X hX => (by show X 0 (zent 3 [va_rf r0, .int x1, .int x2]) [] σ; rw [show zent 3 [va_rf r0, .int x1, .int x2] = [some (va_rf r0), some (.int x1), some (.int x2)] by simp only [zent, olv_r, olv_i, olv_l, olv_n]; rfl]; exact qb_J0_indexOf_7cf53 hX hc h0)⟩
  next => cases h
def od_J1_indexOf_4cfef (n : Nat) (call : oCl) (κ : oKv) (av : List Value) (σ : oSt) : oRs := match av with
  | [x0, .int x1, .int x2, .int x3] => obn (oun x0) fun r0 => ob_J1_indexOf_4cfef n call κ r0 x1 x2 x3 σ
  | _ => none
set_option maxHeartbeats 1000000 in
theorem od_J1_indexOf_4cfef_ok : oOk 221 od_J1_indexOf_4cfef := fun κ T n call hc av σ v h => by
  unfold od_J1_indexOf_4cfef at h
  split at h
  next x0 x1 x2 x3 =>
    obtain ⟨r0, e0, h0⟩ := obn_e h
    rw [oun_e e0]
    exact ⟨_, oM_221, (by simp only [olg_r, olg_i, olg_l, olg_n]; exact Nat.le_of_ble_eq_true rfl), fun X hX => (by show X 0 (zent 4 [va_rf r0, .int x1, .int x2, .int x3]) [] σ; rw [show zent 4 [va_rf r0, .int x1, .int x2, .int x3] = [some (va_rf r0), some (.int x1), some (.int x2), some (.int x3)] by simp only [zent, olv_r, olv_i, olv_l, olv_n]; rfl]; exact qb_J1_indexOf_4cfef hX hc h0)⟩
  next => cases h
def od_J1_canEncode_9a6ad (n : Nat) (call : oCl) (κ : oKv) (av : List Value) (σ : oSt) : oRs := match av with
  | [.int x0] => ob_J1_canEncode_9a6ad n call κ x0 σ
  | _ => none
set_option maxHeartbeats 1000000 in
theorem od_J1_canEncode_9a6ad_ok : oOk 222 od_J1_canEncode_9a6ad := fun κ T n call hc av σ v h => by
  unfold od_J1_canEncode_9a6ad at h
  split at h
  next x0 =>
    exact ⟨_, oM_222, Nat.le_of_ble_eq_true rfl, fun X hX => qb_J1_canEncode_9a6ad hX hc h⟩
  next => cases h
def od_J1_indexOfChar_4cfef (n : Nat) (call : oCl) (κ : oKv) (av : List Value) (σ : oSt) : oRs := match av with
  | [x0, .int x1, .int x2, .int x3] => obn (oun x0) fun r0 => ob_J1_indexOfChar_4cfef n call κ r0 x1 x2 x3 σ
  | _ => none
set_option maxHeartbeats 1000000 in
theorem od_J1_indexOfChar_4cfef_ok : oOk 223 od_J1_indexOfChar_4cfef := fun κ T n call hc av σ v h => by
  unfold od_J1_indexOfChar_4cfef at h
  split at h
  next x0 x1 x2 x3 =>
    obtain ⟨r0, e0, h0⟩ := obn_e h
    rw [oun_e e0]
    exact ⟨_, oM_223, (by simp only [olg_r, olg_i, olg_l, olg_n]; exact Nat.le_of_ble_eq_true rfl), fun X hX => (by show X 0 (zent 6 [va_rf r0, .int x1, .int x2, .int x3]) [] σ; rw [show zent 6 [va_rf r0, .int x1, .int x2, .int x3] = [some (va_rf r0), some (.int x1), some (.int x2), some (.int x3), none, none] by simp only [zent, olv_r, olv_i, olv_l, olv_n]; rfl]; exact qb_J1_indexOfChar_4cfef hX hc h0)⟩
  next => cases h
def od_Jx4a65c_init_da8c8 (n : Nat) (call : oCl) (κ : oKv) (av : List Value) (σ : oSt) : oRs := match av with
  | [x0] => obn (oun x0) fun r0 => ob_Jx4a65c_init_da8c8 n call κ r0 σ
  | _ => none
set_option maxHeartbeats 1000000 in
theorem od_Jx4a65c_init_da8c8_ok : oOk 224 od_Jx4a65c_init_da8c8 := fun κ T n call hc av σ v h => by
  unfold od_Jx4a65c_init_da8c8 at h
  split at h
  next x0 =>
    obtain ⟨r0, e0, h0⟩ := obn_e h
    rw [oun_e e0]
    exact ⟨_, oM_224, (by simp only [olg_r, olg_i, olg_l, olg_n]; exact Nat.le_of_ble_eq_true rfl), fun X hX => (by show X 0 (zent 1 [va_rf r0]) [] σ; rw [show zent 1 [va_rf r0] = [some (va_rf r0)] by simp only [zent, olv_r, olv_i, olv_l, olv_n]; rfl]; exact qb_Jx4a65c_init_da8c8 hX hc h0)⟩
  next => cases h
def od_Jxc12de_init_da8c8 (n : Nat) (call : oCl) (κ : oKv) (av : List Value) (σ : oSt) : oRs := match av with
  | [x0] => obn (oun x0) fun r0 => ob_Jxc12de_init_da8c8 n call κ r0 σ
  | _ => none
set_option maxHeartbeats 1000000 in
theorem od_Jxc12de_init_da8c8_ok : oOk 225 od_Jxc12de_init_da8c8 := fun κ T n call hc av σ v h => by
  unfold od_Jxc12de_init_da8c8 at h
  split at h
  next x0 =>
    obtain ⟨r0, e0, h0⟩ := obn_e h
    rw [oun_e e0]
    exact ⟨_, oM_225, (by simp only [olg_r, olg_i, olg_l, olg_n]; exact Nat.le_of_ble_eq_true rfl), fun X hX => (by show X 0 (zent 1 [va_rf r0]) [] σ; rw [show zent 1 [va_rf r0] = [some (va_rf r0)] by simp only [zent, olv_r, olv_i, olv_l, olv_n]; rfl]; exact qb_Jxc12de_init_da8c8 hX hc h0)⟩
  next => cases h
def od_Jxa1e45_init_da8c8 (n : Nat) (call : oCl) (κ : oKv) (av : List Value) (σ : oSt) : oRs := match av with
  | [x0] => obn (oun x0) fun r0 => ob_Jxa1e45_init_da8c8 n call κ r0 σ
  | _ => none
set_option maxHeartbeats 1000000 in
theorem od_Jxa1e45_init_da8c8_ok : oOk 226 od_Jxa1e45_init_da8c8 := fun κ T n call hc av σ v h => by
  unfold od_Jxa1e45_init_da8c8 at h
  split at h
  next x0 =>
    obtain ⟨r0, e0, h0⟩ := obn_e h
    rw [oun_e e0]
    exact ⟨_, oM_226, (by simp only [olg_r, olg_i, olg_l, olg_n]; exact Nat.le_of_ble_eq_true rfl), fun X hX => (by show X 0 (zent 1 [va_rf r0]) [] σ; rw [show zent 1 [va_rf r0] = [some (va_rf r0)] by simp only [zent, olv_r, olv_i, olv_l, olv_n]; rfl]; exact qb_Jxa1e45_init_da8c8 hX hc h0)⟩
  next => cases h
def od_Jx4a65c_add_9ea2d (n : Nat) (call : oCl) (κ : oKv) (av : List Value) (σ : oSt) : oRs := match av with
  | [x0, x1] => obn (oun x0) fun r0 => obn (oun x1) fun r1 => ob_Jx4a65c_add_9ea2d n call κ r0 r1 σ
  | _ => none
set_option maxHeartbeats 1000000 in
theorem od_Jx4a65c_add_9ea2d_ok : oOk 227 od_Jx4a65c_add_9ea2d := fun κ T n call hc av σ v h => by
  unfold od_Jx4a65c_add_9ea2d at h
  split at h
  next x0 x1 =>
    obtain ⟨r0, e0, h0⟩ := obn_e h
    obtain ⟨r1, e1, h1⟩ := obn_e h0
    rw [oun_e e0, oun_e e1]
    exact ⟨_, oM_227, (by simp only [olg_r, olg_i, olg_l, olg_n]; exact Nat.le_of_ble_eq_true rfl), fun X hX => (by show X 0 (zent 2 [va_rf r0, va_rf r1]) [] σ; rw [show zent 2 [va_rf r0, va_rf r1] = [some (va_rf r0), some (va_rf r1)] by simp only [zent, olv_r, olv_i, olv_l, olv_n]; rfl]; exact qb_Jx4a65c_add_9ea2d hX hc h1)⟩
  next => cases h
def od_Jx4a65c_add_72be8 (n : Nat) (call : oCl) (κ : oKv) (av : List Value) (σ : oSt) : oRs := match av with
  | [x0, x1, x2, .int x3] => obn (oun x0) fun r0 => obn (oun x1) fun r1 => obn (oun x2) fun r2 => ob_Jx4a65c_add_72be8 n call κ r0 r1 r2 x3 σ
  | _ => none
set_option maxHeartbeats 1000000 in
theorem od_Jx4a65c_add_72be8_ok : oOk 228 od_Jx4a65c_add_72be8 := fun κ T n call hc av σ v h => by
  unfold od_Jx4a65c_add_72be8 at h
  split at h
  next x0 x1 x2 x3 =>
    obtain ⟨r0, e0, h0⟩ := obn_e h
    obtain ⟨r1, e1, h1⟩ := obn_e h0
    obtain ⟨r2, e2, h2⟩ := obn_e h1
    rw [oun_e e0, oun_e e1, oun_e e2]
    exact ⟨_, oM_228, (by simp only [olg_r, olg_i, olg_l, olg_n]; exact Nat.le_of_ble_eq_true rfl), fun X hX => (by show X 0 (zent 4 [va_rf r0, va_rf r1, va_rf r2, .int x3]) [] σ; rw [show zent 4 [va_rf r0, va_rf r1, va_rf r2, .int x3] = [some (va_rf r0), some (va_rf r1), some (va_rf r2), some (.int x3)] by simp only [zent, olv_r, olv_i, olv_l, olv_n]; rfl]; exact qb_Jx4a65c_add_72be8 hX hc h2)⟩
  next => cases h
def od_Jx4a65c_grow_d5877 (n : Nat) (call : oCl) (κ : oKv) (av : List Value) (σ : oSt) : oRs := match av with
  | [x0] => obn (oun x0) fun r0 => ob_Jx4a65c_grow_d5877 n call κ r0 σ
  | _ => none
set_option maxHeartbeats 1000000 in
theorem od_Jx4a65c_grow_d5877_ok : oOk 229 od_Jx4a65c_grow_d5877 := fun κ T n call hc av σ v h => by
  unfold od_Jx4a65c_grow_d5877 at h
  split at h
  next x0 =>
    obtain ⟨r0, e0, h0⟩ := obn_e h
    rw [oun_e e0]
    exact ⟨_, oM_229, (by simp only [olg_r, olg_i, olg_l, olg_n]; exact Nat.le_of_ble_eq_true rfl), fun X hX => (by show X 0 (zent 1 [va_rf r0]) [] σ; rw [show zent 1 [va_rf r0] = [some (va_rf r0)] by simp only [zent, olv_r, olv_i, olv_l, olv_n]; rfl]; exact qb_Jx4a65c_grow_d5877 hX hc h0)⟩
  next => cases h
def od_Jx4a65c_grow_92f84 (n : Nat) (call : oCl) (κ : oKv) (av : List Value) (σ : oSt) : oRs := match av with
  | [x0, .int x1] => obn (oun x0) fun r0 => ob_Jx4a65c_grow_92f84 n call κ r0 x1 σ
  | _ => none
set_option maxHeartbeats 1000000 in
theorem od_Jx4a65c_grow_92f84_ok : oOk 230 od_Jx4a65c_grow_92f84 := fun κ T n call hc av σ v h => by
  unfold od_Jx4a65c_grow_92f84 at h
  split at h
  next x0 x1 =>
    obtain ⟨r0, e0, h0⟩ := obn_e h
    rw [oun_e e0]
    exact ⟨_, oM_230, (by simp only [olg_r, olg_i, olg_l, olg_n]; exact Nat.le_of_ble_eq_true rfl), fun X hX => (by show X 0 (zent 4 [va_rf r0, .int x1]) [] σ; rw [show zent 4 [va_rf r0, .int x1] = [some (va_rf r0), some (.int x1), none, none] by simp only [zent, olv_r, olv_i, olv_l, olv_n]; rfl]; exact qb_Jx4a65c_grow_92f84 hX hc h0)⟩
  next => cases h
def od_J8_newLength_cabcc (n : Nat) (call : oCl) (κ : oKv) (av : List Value) (σ : oSt) : oRs := match av with
  | [.int x0, .int x1, .int x2] => ob_J8_newLength_cabcc n call κ x0 x1 x2 σ
  | _ => none
set_option maxHeartbeats 1000000 in
theorem od_J8_newLength_cabcc_ok : oOk 231 od_J8_newLength_cabcc := fun κ T n call hc av σ v h => by
  unfold od_J8_newLength_cabcc at h
  split at h
  next x0 x1 x2 =>
    exact ⟨_, oM_231, Nat.le_of_ble_eq_true rfl, fun X hX => qb_J8_newLength_cabcc hX hc h⟩
  next => cases h
def od_J7_copyOf_1904c (n : Nat) (call : oCl) (κ : oKv) (av : List Value) (σ : oSt) : oRs := match av with
  | [x0, .int x1] => obn (oun x0) fun r0 => ob_J7_copyOf_1904c n call κ r0 x1 σ
  | _ => none
set_option maxHeartbeats 1000000 in
theorem od_J7_copyOf_1904c_ok : oOk 232 od_J7_copyOf_1904c := fun κ T n call hc av σ v h => by
  unfold od_J7_copyOf_1904c at h
  split at h
  next x0 x1 =>
    obtain ⟨r0, e0, h0⟩ := obn_e h
    rw [oun_e e0]
    exact ⟨_, oM_232, (by simp only [olg_r, olg_i, olg_l, olg_n]; exact Nat.le_of_ble_eq_true rfl), fun X hX => (by show X 0 (zent 2 [va_rf r0, .int x1]) [] σ; rw [show zent 2 [va_rf r0, .int x1] = [some (va_rf r0), some (.int x1)] by simp only [zent, olv_r, olv_i, olv_l, olv_n]; rfl]; exact qb_J7_copyOf_1904c hX hc h0)⟩
  next => cases h
def od_J7_copyOf_6403c (n : Nat) (call : oCl) (κ : oKv) (av : List Value) (σ : oSt) : oRs := match av with
  | [x0, .int x1, x2] => obn (oun x0) fun r0 => obn (oun x2) fun r2 => ob_J7_copyOf_6403c n call κ r0 x1 r2 σ
  | _ => none
set_option maxHeartbeats 1000000 in
theorem od_J7_copyOf_6403c_ok : oOk 233 od_J7_copyOf_6403c := fun κ T n call hc av σ v h => by
  unfold od_J7_copyOf_6403c at h
  split at h
  next x0 x1 x2 =>
    obtain ⟨r0, e0, h0⟩ := obn_e h
    obtain ⟨r2, e2, h2⟩ := obn_e h0
    rw [oun_e e0, oun_e e2]
    exact ⟨_, oM_233, (by simp only [olg_r, olg_i, olg_l, olg_n]; exact Nat.le_of_ble_eq_true rfl), fun X hX => (by show X 0 (zent 4 [va_rf r0, .int x1, va_rf r2]) [] σ; rw [show zent 4 [va_rf r0, .int x1, va_rf r2] = [some (va_rf r0), some (.int x1), some (va_rf r2), none] by simp only [zent, olv_r, olv_i, olv_l, olv_n]; rfl]; exact qb_J7_copyOf_6403c hX hc h2)⟩
  next => cases h
def od_Jx4a65c_get_915e3 (n : Nat) (call : oCl) (κ : oKv) (av : List Value) (σ : oSt) : oRs := match av with
  | [x0, .int x1] => obn (oun x0) fun r0 => ob_Jx4a65c_get_915e3 n call κ r0 x1 σ
  | _ => none
set_option maxHeartbeats 1000000 in
theorem od_Jx4a65c_get_915e3_ok : oOk 234 od_Jx4a65c_get_915e3 := fun κ T n call hc av σ v h => by
  unfold od_Jx4a65c_get_915e3 at h
  split at h
  next x0 x1 =>
    obtain ⟨r0, e0, h0⟩ := obn_e h
    rw [oun_e e0]
    exact ⟨_, oM_234, (by simp only [olg_r, olg_i, olg_l, olg_n]; exact Nat.le_of_ble_eq_true rfl), fun X hX => (by show X 0 (zent 2 [va_rf r0, .int x1]) [] σ; rw [show zent 2 [va_rf r0, .int x1] = [some (va_rf r0), some (.int x1)] by simp only [zent, olv_r, olv_i, olv_l, olv_n]; rfl]; exact qb_Jx4a65c_get_915e3 hX hc h0)⟩
  next => cases h
def od_Jx4a65c_elementData_915e3 (n : Nat) (call : oCl) (κ : oKv) (av : List Value) (σ : oSt) : oRs := match av with
  | [x0, .int x1] => obn (oun x0) fun r0 => ob_Jx4a65c_elementData_915e3 n call κ r0 x1 σ
  | _ => none
set_option maxHeartbeats 1000000 in
theorem od_Jx4a65c_elementData_915e3_ok : oOk 235 od_Jx4a65c_elementData_915e3 := fun κ T n call hc av σ v h => by
  unfold od_Jx4a65c_elementData_915e3 at h
  split at h
  next x0 x1 =>
    obtain ⟨r0, e0, h0⟩ := obn_e h
    rw [oun_e e0]
    exact ⟨_, oM_235, (by simp only [olg_r, olg_i, olg_l, olg_n]; exact Nat.le_of_ble_eq_true rfl), fun X hX => (by show X 0 (zent 2 [va_rf r0, .int x1]) [] σ; rw [show zent 2 [va_rf r0, .int x1] = [some (va_rf r0), some (.int x1)] by simp only [zent, olv_r, olv_i, olv_l, olv_n]; rfl]; exact qb_Jx4a65c_elementData_915e3 hX hc h0)⟩
  next => cases h
def od_Jx4a65c_size_8abf5 (n : Nat) (call : oCl) (κ : oKv) (av : List Value) (σ : oSt) : oRs := match av with
  | [x0] => obn (oun x0) fun r0 => ob_Jx4a65c_size_8abf5 n call κ r0 σ
  | _ => none
set_option maxHeartbeats 1000000 in
theorem od_Jx4a65c_size_8abf5_ok : oOk 236 od_Jx4a65c_size_8abf5 := fun κ T n call hc av σ v h => by
  unfold od_Jx4a65c_size_8abf5 at h
  split at h
  next x0 =>
    obtain ⟨r0, e0, h0⟩ := obn_e h
    rw [oun_e e0]
    exact ⟨_, oM_236, (by simp only [olg_r, olg_i, olg_l, olg_n]; exact Nat.le_of_ble_eq_true rfl), fun X hX => (by show X 0 (zent 1 [va_rf r0]) [] σ; rw [show zent 1 [va_rf r0] = [some (va_rf r0)] by simp only [zent, olv_r, olv_i, olv_l, olv_n]; rfl]; exact qb_Jx4a65c_size_8abf5 hX hc h0)⟩
  next => cases h
def od_Jx4a65c_clear_da8c8 (n : Nat) (call : oCl) (κ : oKv) (av : List Value) (σ : oSt) : oRs := match av with
  | [x0] => obn (oun x0) fun r0 => ob_Jx4a65c_clear_da8c8 n call κ r0 σ
  | _ => none
set_option maxHeartbeats 1000000 in
theorem od_Jx4a65c_clear_da8c8_ok : oOk 237 od_Jx4a65c_clear_da8c8 := fun κ T n call hc av σ v h => by
  unfold od_Jx4a65c_clear_da8c8 at h
  split at h
  next x0 =>
    obtain ⟨r0, e0, h0⟩ := obn_e h
    rw [oun_e e0]
    exact ⟨_, oM_237, (by simp only [olg_r, olg_i, olg_l, olg_n]; exact Nat.le_of_ble_eq_true rfl), fun X hX => (by show X 0 (zent 4 [va_rf r0]) [] σ; rw [show zent 4 [va_rf r0] = [some (va_rf r0), none, none, none] by simp only [zent, olv_r, olv_i, olv_l, olv_n]; rfl]; exact qb_Jx4a65c_clear_da8c8 hX hc h0)⟩
  next => cases h
def od_J7_copyOf_59c91 (n : Nat) (call : oCl) (κ : oKv) (av : List Value) (σ : oSt) : oRs := match av with
  | [x0, .int x1] => obn (oun x0) fun r0 => ob_J7_copyOf_59c91 n call κ r0 x1 σ
  | _ => none
set_option maxHeartbeats 1000000 in
theorem od_J7_copyOf_59c91_ok : oOk 238 od_J7_copyOf_59c91 := fun κ T n call hc av σ v h => by
  unfold od_J7_copyOf_59c91 at h
  split at h
  next x0 x1 =>
    obtain ⟨r0, e0, h0⟩ := obn_e h
    rw [oun_e e0]
    exact ⟨_, oM_238, (by simp only [olg_r, olg_i, olg_l, olg_n]; exact Nat.le_of_ble_eq_true rfl), fun X hX => (by show X 0 (zent 3 [va_rf r0, .int x1]) [] σ; rw [show zent 3 [va_rf r0, .int x1] = [some (va_rf r0), some (.int x1), none] by simp only [zent, olv_r, olv_i, olv_l, olv_n]; rfl]; exact qb_J7_copyOf_59c91 hX hc h0)⟩
  next => cases h
def od_J7_copyOf_c38d5 (n : Nat) (call : oCl) (κ : oKv) (av : List Value) (σ : oSt) : oRs := match av with
  | [x0, .int x1] => obn (oun x0) fun r0 => ob_J7_copyOf_c38d5 n call κ r0 x1 σ
  | _ => none
set_option maxHeartbeats 1000000 in
theorem od_J7_copyOf_c38d5_ok : oOk 239 od_J7_copyOf_c38d5 := fun κ T n call hc av σ v h => by
  unfold od_J7_copyOf_c38d5 at h
  split at h
  next x0 x1 =>
    obtain ⟨r0, e0, h0⟩ := obn_e h
    rw [oun_e e0]
    exact ⟨_, oM_239, (by simp only [olg_r, olg_i, olg_l, olg_n]; exact Nat.le_of_ble_eq_true rfl), fun X hX => (by show X 0 (zent 3 [va_rf r0, .int x1]) [] σ; rw [show zent 3 [va_rf r0, .int x1] = [some (va_rf r0), some (.int x1), none] by simp only [zent, olv_r, olv_i, olv_l, olv_n]; rfl]; exact qb_J7_copyOf_c38d5 hX hc h0)⟩
  next => cases h
def od_J7_copyOf_9075b (n : Nat) (call : oCl) (κ : oKv) (av : List Value) (σ : oSt) : oRs := match av with
  | [x0, .int x1] => obn (oun x0) fun r0 => ob_J7_copyOf_9075b n call κ r0 x1 σ
  | _ => none
set_option maxHeartbeats 1000000 in
theorem od_J7_copyOf_9075b_ok : oOk 240 od_J7_copyOf_9075b := fun κ T n call hc av σ v h => by
  unfold od_J7_copyOf_9075b at h
  split at h
  next x0 x1 =>
    obtain ⟨r0, e0, h0⟩ := obn_e h
    rw [oun_e e0]
    exact ⟨_, oM_240, (by simp only [olg_r, olg_i, olg_l, olg_n]; exact Nat.le_of_ble_eq_true rfl), fun X hX => (by show X 0 (zent 3 [va_rf r0, .int x1]) [] σ; rw [show zent 3 [va_rf r0, .int x1] = [some (va_rf r0), some (.int x1), none] by simp only [zent, olv_r, olv_i, olv_l, olv_n]; rfl]; exact qb_J7_copyOf_9075b hX hc h0)⟩
  next => cases h
def od_J7_fill_d0a16 (n : Nat) (call : oCl) (κ : oKv) (av : List Value) (σ : oSt) : oRs := match av with
  | [x0, .long x1] => obn (oun x0) fun r0 => ob_J7_fill_d0a16 n call κ r0 x1 σ
  | _ => none
set_option maxHeartbeats 1000000 in
theorem od_J7_fill_d0a16_ok : oOk 241 od_J7_fill_d0a16 := fun κ T n call hc av σ v h => by
  unfold od_J7_fill_d0a16 at h
  split at h
  next x0 x1 =>
    obtain ⟨r0, e0, h0⟩ := obn_e h
    rw [oun_e e0]
    exact ⟨_, oM_241, (by simp only [olg_r, olg_i, olg_l, olg_n]; exact Nat.le_of_ble_eq_true rfl), fun X hX => (by show X 0 (zent 5 [va_rf r0, .long x1]) [] σ; rw [show zent 5 [va_rf r0, .long x1] = [some (va_rf r0), some (.long x1), none, none, none] by simp only [zent, olv_r, olv_i, olv_l, olv_n]; rfl]; exact qb_J7_fill_d0a16 hX hc h0)⟩
  next => cases h
def od_J7_fill_53178 (n : Nat) (call : oCl) (κ : oKv) (av : List Value) (σ : oSt) : oRs := match av with
  | [x0, .int x1] => obn (oun x0) fun r0 => ob_J7_fill_53178 n call κ r0 x1 σ
  | _ => none
set_option maxHeartbeats 1000000 in
theorem od_J7_fill_53178_ok : oOk 242 od_J7_fill_53178 := fun κ T n call hc av σ v h => by
  unfold od_J7_fill_53178 at h
  split at h
  next x0 x1 =>
    obtain ⟨r0, e0, h0⟩ := obn_e h
    rw [oun_e e0]
    exact ⟨_, oM_242, (by simp only [olg_r, olg_i, olg_l, olg_n]; exact Nat.le_of_ble_eq_true rfl), fun X hX => (by show X 0 (zent 4 [va_rf r0, .int x1]) [] σ; rw [show zent 4 [va_rf r0, .int x1] = [some (va_rf r0), some (.int x1), none, none] by simp only [zent, olv_r, olv_i, olv_l, olv_n]; rfl]; exact qb_J7_fill_53178 hX hc h0)⟩
  next => cases h
def od_J9_floorDiv_f86c9 (n : Nat) (call : oCl) (κ : oKv) (av : List Value) (σ : oSt) : oRs := match av with
  | [.long x0, .long x1] => ob_J9_floorDiv_f86c9 n call κ x0 x1 σ
  | _ => none
set_option maxHeartbeats 1000000 in
theorem od_J9_floorDiv_f86c9_ok : oOk 243 od_J9_floorDiv_f86c9 := fun κ T n call hc av σ v h => by
  unfold od_J9_floorDiv_f86c9 at h
  split at h
  next x0 x1 =>
    exact ⟨_, oM_243, Nat.le_of_ble_eq_true rfl, fun X hX => qb_J9_floorDiv_f86c9 hX hc h⟩
  next => cases h
def od_J9_floorMod_f86c9 (n : Nat) (call : oCl) (κ : oKv) (av : List Value) (σ : oSt) : oRs := match av with
  | [.long x0, .long x1] => ob_J9_floorMod_f86c9 n call κ x0 x1 σ
  | _ => none
set_option maxHeartbeats 1000000 in
theorem od_J9_floorMod_f86c9_ok : oOk 244 od_J9_floorMod_f86c9 := fun κ T n call hc av σ v h => by
  unfold od_J9_floorMod_f86c9 at h
  split at h
  next x0 x1 =>
    exact ⟨_, oM_244, Nat.le_of_ble_eq_true rfl, fun X hX => qb_J9_floorMod_f86c9 hX hc h⟩
  next => cases h
def oAll : Nat → List oDf → Prop
  | _, [] => True
  | j, f :: l => oOk j f ∧ oAll (j + 1) l
theorem oAll_at : ∀ (l : List oDf) (j i : Nat) (f : oDf), oAll j l → l[i]? = some f → oOk (j + i) f
  | [], _, _, _, _, h => by simp at h
  | g :: l, j, 0, f, h, e => by
    have e2 : g = f := by simpa using e
    subst e2
    exact h.1
  | g :: l, j, i + 1, f, h, e => by
    have h9 := oAll_at l (j + 1) i f h.2 (by simpa using e)
    rw [show j + (i + 1) = j + 1 + i by omega]
    exact h9
theorem oAll_app : ∀ (a b : List oDf) (j : Nat), oAll j a → oAll (j + a.length) b → oAll j (a ++ b)
  | [], b, j, _, h => by simpa using h
  | f :: a, b, j, h1, h2 => ⟨h1.1, oAll_app a b (j + 1) h1.2 (by rw [show j + 1 + a.length = j + (f :: a).length by simp; omega]; exact h2)⟩
def odl0 : List oDf := [od_X0_init, od_X2_init, od_X8_init, od_X2_init_, od_X2_answered, od_X2_taken, od_X4_isMeasured, od_X4_init, od_X9_init, od_X9_append, od_X9_add, od_X9_of, od_X0_fit, od_X8_init_, od_X9_isTerm, od_X2_makeRoom, od_X2_say, od_X2_of]
theorem odl0_ok : oAll 0 odl0 := ⟨od_X0_init_ok, od_X2_init_ok, od_X8_init_ok, od_X2_init__ok, od_X2_answered_ok, od_X2_taken_ok, od_X4_isMeasured_ok, od_X4_init_ok, od_X9_init_ok, od_X9_append_ok, od_X9_add_ok, od_X9_of_ok, od_X0_fit_ok, od_X8_init__ok, od_X9_isTerm_ok, od_X2_makeRoom_ok, od_X2_say_ok, od_X2_of_ok, trivial⟩
def odl1 : List oDf := [od_X0_product, od_X0_remainder, od_X0_plain, od_X10_root, od_X10_kindOf, od_X10_takenBy, od_X10_answeredBy, od_X0_instance, od_X0_sayInstances, od_X0_shape, od_X0_template, od_X0_fitBody, od_X0_walk, od_X0_walkCall, od_X0_walkFunction, od_X0_walkIf, od_X0_walkLet, od_X0_walkMatch]
theorem odl1_ok : oAll 18 odl1 := ⟨od_X0_product_ok, od_X0_remainder_ok, od_X0_plain_ok, od_X10_root_ok, od_X10_kindOf_ok, od_X10_takenBy_ok, od_X10_answeredBy_ok, od_X0_instance_ok, od_X0_sayInstances_ok, od_X0_shape_ok, od_X0_template_ok, od_X0_fitBody_ok, od_X0_walk_ok, od_X0_walkCall_ok, od_X0_walkFunction_ok, od_X0_walkIf_ok, od_X0_walkLet_ok, od_X0_walkMatch_ok, trivial⟩
def odl2 : List oDf := [od_X0_walkRec, od_X0_gather, od_X9_isFact, od_X1_isFormed, od_X6_makeRoom, od_X6_reset, od_X6_lead, od_X6_tighten, od_X6_limit, od_X2_insteadOf, od_X2_recall, od_X1_side, od_X6_isLimited, od_X1_meet, od_X1_learn, od_X1_postpone, od_X1_choose, od_X1_opposite]
theorem odl2_ok : oAll 36 odl2 := ⟨od_X0_walkRec_ok, od_X0_gather_ok, od_X9_isFact_ok, od_X1_isFormed_ok, od_X6_makeRoom_ok, od_X6_reset_ok, od_X6_lead_ok, od_X6_tighten_ok, od_X6_limit_ok, od_X2_insteadOf_ok, od_X2_recall_ok, od_X1_side_ok, od_X6_isLimited_ok, od_X1_meet_ok, od_X1_learn_ok, od_X1_postpone_ok, od_X1_choose_ok, od_X1_opposite_ok, trivial⟩
def odl3 : List oDf := [od_X1_limit, od_X1_compare, od_X1_assume, od_X1_begin, od_X6_close, od_X1_conclude, od_X1_isDecided, od_X6_rise, od_X6_sink, od_X1_explore, od_X1_isSure, od_X0_findDoubt, od_X0_lastChange, od_X1_weaken, od_X0_weakenAll, od_X6_init, od_X1_init, od_X3_init]
theorem odl3_ok : oAll 54 odl3 := ⟨od_X1_limit_ok, od_X1_compare_ok, od_X1_assume_ok, od_X1_begin_ok, od_X6_close_ok, od_X1_conclude_ok, od_X1_isDecided_ok, od_X6_rise_ok, od_X6_sink_ok, od_X1_explore_ok, od_X1_isSure_ok, od_X0_findDoubt_ok, od_X0_lastChange_ok, od_X1_weaken_ok, od_X0_weakenAll_ok, od_X6_init_ok, od_X1_init_ok, od_X3_init_ok, trivial⟩
def odl4 : List oDf := [od_X3_forget, od_X3_take, od_X3_set, od_X3_setElement, od_X3_room, od_X3_array, od_X3_givenArray, od_X3_pair, od_X3_begin, od_X3_await, od_X3_triple, od_X3_valueOf, od_X3_measure, od_X3_sum, od_X3_stands, od_X3_holds, od_X3_elementOf, od_X3_change]
theorem odl4_ok : oAll 72 odl4 := ⟨od_X3_forget_ok, od_X3_take_ok, od_X3_set_ok, od_X3_setElement_ok, od_X3_room_ok, od_X3_array_ok, od_X3_givenArray_ok, od_X3_pair_ok, od_X3_begin_ok, od_X3_await_ok, od_X3_triple_ok, od_X3_valueOf_ok, od_X3_measure_ok, od_X3_sum_ok, od_X3_stands_ok, od_X3_holds_ok, od_X3_elementOf_ok, od_X3_change_ok, trivial⟩
def odl5 : List oDf := [od_X3_match, od_X3_argument, od_X3_apply, od_X3_call, od_X3_newArray, od_X3_cons, od_X3_product, od_X3_quotient, od_X3_plain, od_X3_start, od_X3_resume, od_X3_go, od_X5_init, od_X7_init, od_X7_kind, od_X7_next, od_X7_here, od_X7_fail]
theorem odl5_ok : oAll 90 odl5 := ⟨od_X3_match_ok, od_X3_argument_ok, od_X3_apply_ok, od_X3_call_ok, od_X3_newArray_ok, od_X3_cons_ok, od_X3_product_ok, od_X3_quotient_ok, od_X3_plain_ok, od_X3_start_ok, od_X3_resume_ok, od_X3_go_ok, od_X5_init_ok, od_X7_init_ok, od_X7_kind_ok, od_X7_next_ok, od_X7_here_ok, od_X7_fail_ok, trivial⟩
def odl6 : List oDf := [od_X7_expect, od_X7_isRelation, od_X11_numberOf, od_X7_readQualTerm, od_X7_readQual, od_X11_textOf, od_X7_counts, od_X7_tell, od_X7_count, od_X7_readInput, od_X7_node, od_X7_use, od_X7_sum_, od_X7_sum, od_X7_blameForm, od_X7_compare, od_X9_addAll, od_X7_comparison]
theorem odl6_ok : oAll 108 odl6 := ⟨od_X7_expect_ok, od_X7_isRelation_ok, od_X11_numberOf_ok, od_X7_readQualTerm_ok, od_X7_readQual_ok, od_X11_textOf_ok, od_X7_counts_ok, od_X7_tell_ok, od_X7_count_ok, od_X7_readInput_ok, od_X7_node_ok, od_X7_use_ok, od_X7_sum__ok, od_X7_sum_ok, od_X7_blameForm_ok, od_X7_compare_ok, od_X9_addAll_ok, od_X7_comparison_ok, trivial⟩
def odl7 : List oDf := [od_X7_both, od_X7_either, od_X7_single, od_X7_test, od_X7_beginsArgument, od_X7_beFunction, od_X7_tellParameter, od_X7_readIndex, od_X7_argument, od_X7_expression, od_X7_readAssert, od_X7_readCall, od_X7_readFunction, od_X7_readIf, od_X7_readLet, od_X7_readMatch, od_X7_readOpen, od_X7_readRec]
theorem odl7_ok : oAll 126 odl7 := ⟨od_X7_both_ok, od_X7_either_ok, od_X7_single_ok, od_X7_test_ok, od_X7_beginsArgument_ok, od_X7_beFunction_ok, od_X7_tellParameter_ok, od_X7_readIndex_ok, od_X7_argument_ok, od_X7_expression_ok, od_X7_readAssert_ok, od_X7_readCall_ok, od_X7_readFunction_ok, od_X7_readIf_ok, od_X7_readLet_ok, od_X7_readMatch_ok, od_X7_readOpen_ok, od_X7_readRec_ok, trivial⟩
def odl8 : List oDf := [od_X7_readSet, od_X7_readProgram, od_X10_make, od_X10_init, od_X10_basic, od_X10_function, od_X10_unify, od_X10_isFinite, od_X10_must, od_X10_checkSum, od_X10_checkTest, od_X10_inferPlain, od_X10_infer, od_X10_inferCall, od_X10_inferMatch, od_X10_inferRec, od_X10_leavesOf, od_X10_countTemplates]
theorem odl8_ok : oAll 144 odl8 := ⟨od_X7_readSet_ok, od_X7_readProgram_ok, od_X10_make_ok, od_X10_init_ok, od_X10_basic_ok, od_X10_function_ok, od_X10_unify_ok, od_X10_isFinite_ok, od_X10_must_ok, od_X10_checkSum_ok, od_X10_checkTest_ok, od_X10_inferPlain_ok, od_X10_infer_ok, od_X10_inferCall_ok, od_X10_inferMatch_ok, od_X10_inferRec_ok, od_X10_leavesOf_ok, od_X10_countTemplates_ok, trivial⟩
def odl9 : List oDf := [od_X10_findAll, od_X11_isLetter, od_X11_isDigit, od_X11_continues, od_X11_doubleSign, od_X11_endOfWord, od_X11_sameLetters, od_X11_keyword, od_X11_add, od_X11_split, od_X11_init, od_X12_init, od_X12_lay, od_X12_feed, od_X12_end, od_X12_fault, od_X12_compile, od_X12_accepted]
theorem odl9_ok : oAll 162 odl9 := ⟨od_X10_findAll_ok, od_X11_isLetter_ok, od_X11_isDigit_ok, od_X11_continues_ok, od_X11_doubleSign_ok, od_X11_endOfWord_ok, od_X11_sameLetters_ok, od_X11_keyword_ok, od_X11_add_ok, od_X11_split_ok, od_X11_init_ok, od_X12_init_ok, od_X12_lay_ok, od_X12_feed_ok, od_X12_end_ok, od_X12_fault_ok, od_X12_compile_ok, od_X12_accepted_ok, trivial⟩
def odl10 : List oDf := [od_X12_place, od_X12_put_, od_X12_put, od_X12_tellNumber, od_X12_tellName, od_X12_tellRelation, od_X12_tellTerm, od_X12_tellLeaf, od_X12_tell, od_X12_type, od_X12_out, od_X12_give, od_X12_element, od_X12_run, od_X12_value, od_X12_fuel, od_J0_init_905df, od_J0_init_bb550]
theorem odl10_ok : oAll 180 odl10 := ⟨od_X12_place_ok, od_X12_put__ok, od_X12_put_ok, od_X12_tellNumber_ok, od_X12_tellName_ok, od_X12_tellRelation_ok, od_X12_tellTerm_ok, od_X12_tellLeaf_ok, od_X12_tell_ok, od_X12_type_ok, od_X12_out_ok, od_X12_give_ok, od_X12_element_ok, od_X12_run_ok, od_X12_value_ok, od_X12_fuel_ok, od_J0_init_905df_ok, od_J0_init_bb550_ok, trivial⟩
def odl11 : List oDf := [od_J2_compress_dfd3c, od_J2_compress_fe38e, od_J2_coderFromArrayLen_85cad, od_J0_charAt_5068e, od_J0_isLatin1_aae02, od_J1_charAt_3b067, od_J0_checkIndex_df160, od_J15_checkIndex_7cf53, od_J3_checkIndex_8e157, od_J0_length_8abf5, od_J0_coder_7d493, od_J0_substring_37a41, od_J0_checkBoundsBeginEnd_23922, od_J3_checkFromToIndex_8c36e, od_J1_newString_b4f7a, od_J7_copyOfRange_39247, od_J7_copyOfRangeByte_39247, od_J7_checkLength_df160]
theorem odl11_ok : oAll 198 odl11 := ⟨od_J2_compress_dfd3c_ok, od_J2_compress_fe38e_ok, od_J2_coderFromArrayLen_85cad_ok, od_J0_charAt_5068e_ok, od_J0_isLatin1_aae02_ok, od_J1_charAt_3b067_ok, od_J0_checkIndex_df160_ok, od_J15_checkIndex_7cf53_ok, od_J3_checkIndex_8e157_ok, od_J0_length_8abf5_ok, od_J0_coder_7d493_ok, od_J0_substring_37a41_ok, od_J0_checkBoundsBeginEnd_23922_ok, od_J3_checkFromToIndex_8c36e_ok, od_J1_newString_b4f7a_ok, od_J7_copyOfRange_39247_ok, od_J7_copyOfRangeByte_39247_ok, od_J7_checkLength_df160_ok, trivial⟩
def odl12 : List oDf := [od_J0_init_031fb, od_J0_equals_9ea2d, od_J1_equals_b5fdf, od_J0_indexOf_0f7a4, od_J0_indexOf_7cf53, od_J1_indexOf_4cfef, od_J1_canEncode_9a6ad, od_J1_indexOfChar_4cfef, od_Jx4a65c_init_da8c8, od_Jxc12de_init_da8c8, od_Jxa1e45_init_da8c8, od_Jx4a65c_add_9ea2d, od_Jx4a65c_add_72be8, od_Jx4a65c_grow_d5877, od_Jx4a65c_grow_92f84, od_J8_newLength_cabcc, od_J7_copyOf_1904c, od_J7_copyOf_6403c]
theorem odl12_ok : oAll 216 odl12 := ⟨od_J0_init_031fb_ok, od_J0_equals_9ea2d_ok, od_J1_equals_b5fdf_ok, od_J0_indexOf_0f7a4_ok, od_J0_indexOf_7cf53_ok, od_J1_indexOf_4cfef_ok, od_J1_canEncode_9a6ad_ok, od_J1_indexOfChar_4cfef_ok, od_Jx4a65c_init_da8c8_ok, od_Jxc12de_init_da8c8_ok, od_Jxa1e45_init_da8c8_ok, od_Jx4a65c_add_9ea2d_ok, od_Jx4a65c_add_72be8_ok, od_Jx4a65c_grow_d5877_ok, od_Jx4a65c_grow_92f84_ok, od_J8_newLength_cabcc_ok, od_J7_copyOf_1904c_ok, od_J7_copyOf_6403c_ok, trivial⟩
def odl13 : List oDf := [od_Jx4a65c_get_915e3, od_Jx4a65c_elementData_915e3, od_Jx4a65c_size_8abf5, od_Jx4a65c_clear_da8c8, od_J7_copyOf_59c91, od_J7_copyOf_c38d5, od_J7_copyOf_9075b, od_J7_fill_d0a16, od_J7_fill_53178, od_J9_floorDiv_f86c9, od_J9_floorMod_f86c9]
theorem odl13_ok : oAll 234 odl13 := ⟨od_Jx4a65c_get_915e3_ok, od_Jx4a65c_elementData_915e3_ok, od_Jx4a65c_size_8abf5_ok, od_Jx4a65c_clear_da8c8_ok, od_J7_copyOf_59c91_ok, od_J7_copyOf_c38d5_ok, od_J7_copyOf_9075b_ok, od_J7_fill_d0a16_ok, od_J7_fill_53178_ok, od_J9_floorDiv_f86c9_ok, od_J9_floorMod_f86c9_ok, trivial⟩
def odl : List oDf := odl0 ++ (odl1 ++ (odl2 ++ (odl3 ++ (odl4 ++ (odl5 ++ (odl6 ++ (odl7 ++ (odl8 ++ (odl9 ++ (odl10 ++ (odl11 ++ (odl12 ++ (odl13)))))))))))))
theorem odl_ok : oAll 0 odl := (oAll_app _ _ 0 odl0_ok (oAll_app _ _ 18 odl1_ok (oAll_app _ _ 36 odl2_ok (oAll_app _ _ 54 odl3_ok (oAll_app _ _ 72 odl4_ok (oAll_app _ _ 90 odl5_ok (oAll_app _ _ 108 odl6_ok (oAll_app _ _ 126 odl7_ok (oAll_app _ _ 144 odl8_ok (oAll_app _ _ 162 odl9_ok (oAll_app _ _ 180 odl10_ok (oAll_app _ _ 198 odl11_ok (oAll_app _ _ 216 odl12_ok odl13_ok)))))))))))))
/-- what method j answers with T turns a loop and n calls within, and the state behind it -/
def oF (κ : oKv) (T : Nat) : Nat → Nat → List Value → oSt → oRs
  | 0, _, _, _ => none
  | n + 1, j, av, σ => match odl[j]? with
    | some f => f T (oF κ T n) κ av σ
    | none => none
theorem oF_ok (κ : oKv) (T : Nat) : ∀ (n j : Nat) (av : List Value) (σ : oSt) (v : Option Value × oSt), oF κ T n j av σ = some v → oTr κ n j av σ v
  | 0, _, _, _, _, h => by cases h
  | n + 1, j, av, σ, v, h => by
    rw [oF] at h
    split at h
    next f hf =>
      have h9 := oAll_at odl 0 j f odl_ok hf
      rw [Nat.zero_add] at h9
      exact h9 κ T n (oF κ T n) (oF_ok κ T n) av σ v h
    next => cases h
/-- the class's method j over the machine: what oF says is a contract -/
theorem oF_met {l : Launch} {dC : Nat → ClassId} {dI : Nat → Nat → Nat} {κ : oKv} {sz0 : Nat} {T n j : Nat} {av : List Value} {σ : oSt} {v : Option Value × oSt} (h : oF κ T n j av σ = some v) {en : oMt} (he : omt[j]? = some en) : oMe l dC dI κ sz0 n en av σ v := oTr_met n j av σ v (oF_ok κ T n j av σ v h) en he
