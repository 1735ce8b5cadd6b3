/-! oF and zF at each method -/
theorem oun_rf (r : Option Nat) : oun (va_rf r) = some r := by cases r <;> rfl
theorem oF_at {κ : oKv} {T n j : Nat} {av : List Value} {σ : oSt} {f : oDf} (h : odl[j]? = some f) : oF κ T (n + 1) j av σ = f T (oF κ T n) κ av σ := by rw [oF, h]
theorem zF_at {h0 : Nat} {qs : List Nat} {ks : Nat → Nat} {T n j : Nat} {av : List Value} {σ : zSt} {f : zDf} (h : zdl[j]? = some f) : zF h0 qs ks T (n + 1) j av σ = f T (zF h0 qs ks T n) h0 qs ks av σ := by rw [zF, h]
theorem oE_X0_init (κ : oKv) (T n : Nat) (x0 : Option Nat) (x1 : Option Nat) (x2 : Option Nat) (x3 : Option Nat) (σ : oSt) : oF κ T (n + 1) 0 [va_rf x0, va_rf x1, va_rf x2, va_rf x3] σ = ob_X0_init T (oF κ T n) κ x0 x1 x2 x3 σ := by
  rw [oF_at (f := od_X0_init) rfl]
  show (od_X0_init T (oF κ T n) κ [va_rf x0, va_rf x1, va_rf x2, va_rf x3] σ) = _
  unfold od_X0_init
  simp only [oun_rf, obn]
theorem oE_X2_init (κ : oKv) (T n : Nat) (x0 : Option Nat) (x1 : Int32) (σ : oSt) : oF κ T (n + 1) 1 [va_rf x0, .int x1] σ = ob_X2_init T (oF κ T n) κ x0 x1 σ := by
  rw [oF_at (f := od_X2_init) rfl]
  show (od_X2_init T (oF κ T n) κ [va_rf x0, .int x1] σ) = _
  unfold od_X2_init
  simp only [oun_rf, obn]
theorem oE_X8_init (κ : oKv) (T n : Nat) (x0 : Option Nat) (x1 : Option Nat) (x2 : Option Nat) (σ : oSt) : oF κ T (n + 1) 2 [va_rf x0, va_rf x1, va_rf x2] σ = ob_X8_init T (oF κ T n) κ x0 x1 x2 σ := by
  rw [oF_at (f := od_X8_init) rfl]
  show (od_X8_init T (oF κ T n) κ [va_rf x0, va_rf x1, va_rf x2] σ) = _
  unfold od_X8_init
  simp only [oun_rf, obn]
theorem oE_X2_init_ (κ : oKv) (T n : Nat) (x0 : Option Nat) (x1 : Option Nat) (x2 : Option Nat) (x3 : Option Nat) (σ : oSt) : oF κ T (n + 1) 3 [va_rf x0, va_rf x1, va_rf x2, va_rf x3] σ = ob_X2_init_ T (oF κ T n) κ x0 x1 x2 x3 σ := by
  rw [oF_at (f := od_X2_init_) rfl]
  show (od_X2_init_ T (oF κ T n) κ [va_rf x0, va_rf x1, va_rf x2, va_rf x3] σ) = _
  unfold od_X2_init_
  simp only [oun_rf, obn]
theorem oE_X2_answered (κ : oKv) (T n : Nat) (x0 : Option Nat) (x1 : Option Nat) (σ : oSt) : oF κ T (n + 1) 4 [va_rf x0, va_rf x1] σ = ob_X2_answered T (oF κ T n) κ x0 x1 σ := by
  rw [oF_at (f := od_X2_answered) rfl]
  show (od_X2_answered T (oF κ T n) κ [va_rf x0, va_rf x1] σ) = _
  unfold od_X2_answered
  simp only [oun_rf, obn]
theorem oE_X2_taken (κ : oKv) (T n : Nat) (x0 : Option Nat) (σ : oSt) : oF κ T (n + 1) 5 [va_rf x0] σ = ob_X2_taken T (oF κ T n) κ x0 σ := by
  rw [oF_at (f := od_X2_taken) rfl]
  show (od_X2_taken T (oF κ T n) κ [va_rf x0] σ) = _
  unfold od_X2_taken
  simp only [oun_rf, obn]
theorem oE_X4_isMeasured (κ : oKv) (T n : Nat) (x0 : Option Nat) (σ : oSt) : oF κ T (n + 1) 6 [va_rf x0] σ = ob_X4_isMeasured T (oF κ T n) κ x0 σ := by
  rw [oF_at (f := od_X4_isMeasured) rfl]
  show (od_X4_isMeasured T (oF κ T n) κ [va_rf x0] σ) = _
  unfold od_X4_isMeasured
  simp only [oun_rf, obn]
theorem oE_X4_init (κ : oKv) (T n : Nat) (x0 : Option Nat) (x1 : Option Nat) (x2 : Int32) (σ : oSt) : oF κ T (n + 1) 7 [va_rf x0, va_rf x1, .int x2] σ = ob_X4_init T (oF κ T n) κ x0 x1 x2 σ := by
  rw [oF_at (f := od_X4_init) rfl]
  show (od_X4_init T (oF κ T n) κ [va_rf x0, va_rf x1, .int x2] σ) = _
  unfold od_X4_init
  simp only [oun_rf, obn]
theorem oE_X9_init (κ : oKv) (T n : Nat) (x0 : Option Nat) (σ : oSt) : oF κ T (n + 1) 8 [va_rf x0] σ = ob_X9_init T (oF κ T n) κ x0 σ := by
  rw [oF_at (f := od_X9_init) rfl]
  show (od_X9_init T (oF κ T n) κ [va_rf x0] σ) = _
  unfold od_X9_init
  simp only [oun_rf, obn]
theorem oE_X9_append (κ : oKv) (T n : Nat) (x0 : Option Nat) (x1 : Option Nat) (σ : oSt) : oF κ T (n + 1) 9 [va_rf x0, va_rf x1] σ = ob_X9_append T (oF κ T n) κ x0 x1 σ := by
  rw [oF_at (f := od_X9_append) rfl]
  show (od_X9_append T (oF κ T n) κ [va_rf x0, va_rf x1] σ) = _
  unfold od_X9_append
  simp only [oun_rf, obn]
theorem oE_X9_add (κ : oKv) (T n : Nat) (x0 : Option Nat) (x1 : Option Nat) (x2 : Int32) (σ : oSt) : oF κ T (n + 1) 10 [va_rf x0, va_rf x1, .int x2] σ = ob_X9_add T (oF κ T n) κ x0 x1 x2 σ := by
  rw [oF_at (f := od_X9_add) rfl]
  show (od_X9_add T (oF κ T n) κ [va_rf x0, va_rf x1, .int x2] σ) = _
  unfold od_X9_add
  simp only [oun_rf, obn]
theorem oE_X9_of (κ : oKv) (T n : Nat) (x0 : Option Nat) (x1 : Int32) (x2 : Int64) (σ : oSt) : oF κ T (n + 1) 11 [va_rf x0, .int x1, .long x2] σ = ob_X9_of T (oF κ T n) κ x0 x1 x2 σ := by
  rw [oF_at (f := od_X9_of) rfl]
  show (od_X9_of T (oF κ T n) κ [va_rf x0, .int x1, .long x2] σ) = _
  unfold od_X9_of
  simp only [oun_rf, obn]
theorem oE_X0_fit (κ : oKv) (T n : Nat) (x0 : Option Nat) (x1 : Option Nat) (x2 : Option Nat) (x3 : Option Nat) (σ : oSt) : oF κ T (n + 1) 12 [va_rf x0, va_rf x1, va_rf x2, va_rf x3] σ = ob_X0_fit T (oF κ T n) κ x0 x1 x2 x3 σ := by
  rw [oF_at (f := od_X0_fit) rfl]
  show (od_X0_fit T (oF κ T n) κ [va_rf x0, va_rf x1, va_rf x2, va_rf x3] σ) = _
  unfold od_X0_fit
  simp only [oun_rf, obn]
theorem oE_X8_init_ (κ : oKv) (T n : Nat) (x0 : Option Nat) (x1 : Option Nat) (x2 : Int32) (x3 : Option Nat) (σ : oSt) : oF κ T (n + 1) 13 [va_rf x0, va_rf x1, .int x2, va_rf x3] σ = ob_X8_init_ T (oF κ T n) κ x0 x1 x2 x3 σ := by
  rw [oF_at (f := od_X8_init_) rfl]
  show (od_X8_init_ T (oF κ T n) κ [va_rf x0, va_rf x1, .int x2, va_rf x3] σ) = _
  unfold od_X8_init_
  simp only [oun_rf, obn]
theorem oE_X9_isTerm (κ : oKv) (T n : Nat) (x0 : Option Nat) (σ : oSt) : oF κ T (n + 1) 14 [va_rf x0] σ = ob_X9_isTerm T (oF κ T n) κ x0 σ := by
  rw [oF_at (f := od_X9_isTerm) rfl]
  show (od_X9_isTerm T (oF κ T n) κ [va_rf x0] σ) = _
  unfold od_X9_isTerm
  simp only [oun_rf, obn]
theorem oE_X2_makeRoom (κ : oKv) (T n : Nat) (x0 : Option Nat) (x1 : Int32) (σ : oSt) : oF κ T (n + 1) 15 [va_rf x0, .int x1] σ = ob_X2_makeRoom T (oF κ T n) κ x0 x1 σ := by
  rw [oF_at (f := od_X2_makeRoom) rfl]
  show (od_X2_makeRoom T (oF κ T n) κ [va_rf x0, .int x1] σ) = _
  unfold od_X2_makeRoom
  simp only [oun_rf, obn]
theorem oE_X2_say (κ : oKv) (T n : Nat) (x0 : Option Nat) (x1 : Int32) (x2 : Option Nat) (σ : oSt) : oF κ T (n + 1) 16 [va_rf x0, .int x1, va_rf x2] σ = ob_X2_say T (oF κ T n) κ x0 x1 x2 σ := by
  rw [oF_at (f := od_X2_say) rfl]
  show (od_X2_say T (oF κ T n) κ [va_rf x0, .int x1, va_rf x2] σ) = _
  unfold od_X2_say
  simp only [oun_rf, obn]
theorem oE_X2_of (κ : oKv) (T n : Nat) (x0 : Int32) (x1 : Option Nat) (σ : oSt) : oF κ T (n + 1) 17 [.int x0, va_rf x1] σ = ob_X2_of T (oF κ T n) κ x0 x1 σ := by
  rw [oF_at (f := od_X2_of) rfl]
  show (od_X2_of T (oF κ T n) κ [.int x0, va_rf x1] σ) = _
  unfold od_X2_of
  simp only [oun_rf, obn]
theorem oE_X0_product (κ : oKv) (T n : Nat) (x0 : Option Nat) (x1 : Option Nat) (σ : oSt) : oF κ T (n + 1) 18 [va_rf x0, va_rf x1] σ = ob_X0_product T (oF κ T n) κ x0 x1 σ := by
  rw [oF_at (f := od_X0_product) rfl]
  show (od_X0_product T (oF κ T n) κ [va_rf x0, va_rf x1] σ) = _
  unfold od_X0_product
  simp only [oun_rf, obn]
theorem oE_X0_remainder (κ : oKv) (T n : Nat) (x0 : Option Nat) (σ : oSt) : oF κ T (n + 1) 19 [va_rf x0] σ = ob_X0_remainder T (oF κ T n) κ x0 σ := by
  rw [oF_at (f := od_X0_remainder) rfl]
  show (od_X0_remainder T (oF κ T n) κ [va_rf x0] σ) = _
  unfold od_X0_remainder
  simp only [oun_rf, obn]
theorem oE_X0_plain (κ : oKv) (T n : Nat) (x0 : Option Nat) (σ : oSt) : oF κ T (n + 1) 20 [va_rf x0] σ = ob_X0_plain T (oF κ T n) κ x0 σ := by
  rw [oF_at (f := od_X0_plain) rfl]
  show (od_X0_plain T (oF κ T n) κ [va_rf x0] σ) = _
  unfold od_X0_plain
  simp only [oun_rf, obn]
theorem oE_X10_root (κ : oKv) (T n : Nat) (x0 : Option Nat) (x1 : Int32) (σ : oSt) : oF κ T (n + 1) 21 [va_rf x0, .int x1] σ = ob_X10_root T (oF κ T n) κ x0 x1 σ := by
  rw [oF_at (f := od_X10_root) rfl]
  show (od_X10_root T (oF κ T n) κ [va_rf x0, .int x1] σ) = _
  unfold od_X10_root
  simp only [oun_rf, obn]
theorem oE_X10_kindOf (κ : oKv) (T n : Nat) (x0 : Option Nat) (x1 : Int32) (σ : oSt) : oF κ T (n + 1) 22 [va_rf x0, .int x1] σ = ob_X10_kindOf T (oF κ T n) κ x0 x1 σ := by
  rw [oF_at (f := od_X10_kindOf) rfl]
  show (od_X10_kindOf T (oF κ T n) κ [va_rf x0, .int x1] σ) = _
  unfold od_X10_kindOf
  simp only [oun_rf, obn]
theorem oE_X10_takenBy (κ : oKv) (T n : Nat) (x0 : Option Nat) (x1 : Int32) (σ : oSt) : oF κ T (n + 1) 23 [va_rf x0, .int x1] σ = ob_X10_takenBy T (oF κ T n) κ x0 x1 σ := by
  rw [oF_at (f := od_X10_takenBy) rfl]
  show (od_X10_takenBy T (oF κ T n) κ [va_rf x0, .int x1] σ) = _
  unfold od_X10_takenBy
  simp only [oun_rf, obn]
theorem oE_X10_answeredBy (κ : oKv) (T n : Nat) (x0 : Option Nat) (x1 : Int32) (σ : oSt) : oF κ T (n + 1) 24 [va_rf x0, .int x1] σ = ob_X10_answeredBy T (oF κ T n) κ x0 x1 σ := by
  rw [oF_at (f := od_X10_answeredBy) rfl]
  show (od_X10_answeredBy T (oF κ T n) κ [va_rf x0, .int x1] σ) = _
  unfold od_X10_answeredBy
  simp only [oun_rf, obn]
theorem oE_X0_instance (κ : oKv) (T n : Nat) (x0 : Option Nat) (x1 : Option Nat) (x2 : Int32) (σ : oSt) : oF κ T (n + 1) 25 [va_rf x0, va_rf x1, .int x2] σ = ob_X0_instance T (oF κ T n) κ x0 x1 x2 σ := by
  rw [oF_at (f := od_X0_instance) rfl]
  show (od_X0_instance T (oF κ T n) κ [va_rf x0, va_rf x1, .int x2] σ) = _
  unfold od_X0_instance
  simp only [oun_rf, obn]
theorem oE_X0_sayInstances (κ : oKv) (T n : Nat) (x0 : Option Nat) (x1 : Option Nat) (σ : oSt) : oF κ T (n + 1) 26 [va_rf x0, va_rf x1] σ = ob_X0_sayInstances T (oF κ T n) κ x0 x1 σ := by
  rw [oF_at (f := od_X0_sayInstances) rfl]
  show (od_X0_sayInstances T (oF κ T n) κ [va_rf x0, va_rf x1] σ) = _
  unfold od_X0_sayInstances
  simp only [oun_rf, obn]
theorem oE_X0_shape (κ : oKv) (T n : Nat) (x0 : Option Nat) (x1 : Int32) (x2 : Option Nat) (x3 : Int32) (σ : oSt) : oF κ T (n + 1) 27 [va_rf x0, .int x1, va_rf x2, .int x3] σ = ob_X0_shape T (oF κ T n) κ x0 x1 x2 x3 σ := by
  rw [oF_at (f := od_X0_shape) rfl]
  show (od_X0_shape T (oF κ T n) κ [va_rf x0, .int x1, va_rf x2, .int x3] σ) = _
  unfold od_X0_shape
  simp only [oun_rf, obn]
theorem oE_X0_template (κ : oKv) (T n : Nat) (x0 : Option Nat) (x1 : Int32) (x2 : Option Nat) (x3 : Option Nat) (σ : oSt) : oF κ T (n + 1) 28 [va_rf x0, .int x1, va_rf x2, va_rf x3] σ = ob_X0_template T (oF κ T n) κ x0 x1 x2 x3 σ := by
  rw [oF_at (f := od_X0_template) rfl]
  show (od_X0_template T (oF κ T n) κ [va_rf x0, .int x1, va_rf x2, va_rf x3] σ) = _
  unfold od_X0_template
  simp only [oun_rf, obn]
theorem oE_X0_fitBody (κ : oKv) (T n : Nat) (x0 : Option Nat) (x1 : Option Nat) (x2 : Option Nat) (x3 : Option Nat) (σ : oSt) : oF κ T (n + 1) 29 [va_rf x0, va_rf x1, va_rf x2, va_rf x3] σ = ob_X0_fitBody T (oF κ T n) κ x0 x1 x2 x3 σ := by
  rw [oF_at (f := od_X0_fitBody) rfl]
  show (od_X0_fitBody T (oF κ T n) κ [va_rf x0, va_rf x1, va_rf x2, va_rf x3] σ) = _
  unfold od_X0_fitBody
  simp only [oun_rf, obn]
theorem oE_X0_walk (κ : oKv) (T n : Nat) (x0 : Option Nat) (x1 : Option Nat) (x2 : Option Nat) (σ : oSt) : oF κ T (n + 1) 30 [va_rf x0, va_rf x1, va_rf x2] σ = ob_X0_walk T (oF κ T n) κ x0 x1 x2 σ := by
  rw [oF_at (f := od_X0_walk) rfl]
  show (od_X0_walk T (oF κ T n) κ [va_rf x0, va_rf x1, va_rf x2] σ) = _
  unfold od_X0_walk
  simp only [oun_rf, obn]
theorem oE_X0_walkCall (κ : oKv) (T n : Nat) (x0 : Option Nat) (x1 : Option Nat) (x2 : Option Nat) (σ : oSt) : oF κ T (n + 1) 31 [va_rf x0, va_rf x1, va_rf x2] σ = ob_X0_walkCall T (oF κ T n) κ x0 x1 x2 σ := by
  rw [oF_at (f := od_X0_walkCall) rfl]
  show (od_X0_walkCall T (oF κ T n) κ [va_rf x0, va_rf x1, va_rf x2] σ) = _
  unfold od_X0_walkCall
  simp only [oun_rf, obn]
theorem oE_X0_walkFunction (κ : oKv) (T n : Nat) (x0 : Option Nat) (x1 : Option Nat) (x2 : Option Nat) (σ : oSt) : oF κ T (n + 1) 32 [va_rf x0, va_rf x1, va_rf x2] σ = ob_X0_walkFunction T (oF κ T n) κ x0 x1 x2 σ := by
  rw [oF_at (f := od_X0_walkFunction) rfl]
  show (od_X0_walkFunction T (oF κ T n) κ [va_rf x0, va_rf x1, va_rf x2] σ) = _
  unfold od_X0_walkFunction
  simp only [oun_rf, obn]
theorem oE_X0_walkIf (κ : oKv) (T n : Nat) (x0 : Option Nat) (x1 : Option Nat) (x2 : Option Nat) (σ : oSt) : oF κ T (n + 1) 33 [va_rf x0, va_rf x1, va_rf x2] σ = ob_X0_walkIf T (oF κ T n) κ x0 x1 x2 σ := by
  rw [oF_at (f := od_X0_walkIf) rfl]
  show (od_X0_walkIf T (oF κ T n) κ [va_rf x0, va_rf x1, va_rf x2] σ) = _
  unfold od_X0_walkIf
  simp only [oun_rf, obn]
theorem oE_X0_walkLet (κ : oKv) (T n : Nat) (x0 : Option Nat) (x1 : Option Nat) (x2 : Option Nat) (σ : oSt) : oF κ T (n + 1) 34 [va_rf x0, va_rf x1, va_rf x2] σ = ob_X0_walkLet T (oF κ T n) κ x0 x1 x2 σ := by
  rw [oF_at (f := od_X0_walkLet) rfl]
  show (od_X0_walkLet T (oF κ T n) κ [va_rf x0, va_rf x1, va_rf x2] σ) = _
  unfold od_X0_walkLet
  simp only [oun_rf, obn]
theorem oE_X0_walkMatch (κ : oKv) (T n : Nat) (x0 : Option Nat) (x1 : Option Nat) (x2 : Option Nat) (σ : oSt) : oF κ T (n + 1) 35 [va_rf x0, va_rf x1, va_rf x2] σ = ob_X0_walkMatch T (oF κ T n) κ x0 x1 x2 σ := by
  rw [oF_at (f := od_X0_walkMatch) rfl]
  show (od_X0_walkMatch T (oF κ T n) κ [va_rf x0, va_rf x1, va_rf x2] σ) = _
  unfold od_X0_walkMatch
  simp only [oun_rf, obn]
theorem oE_X0_walkRec (κ : oKv) (T n : Nat) (x0 : Option Nat) (x1 : Option Nat) (x2 : Option Nat) (σ : oSt) : oF κ T (n + 1) 36 [va_rf x0, va_rf x1, va_rf x2] σ = ob_X0_walkRec T (oF κ T n) κ x0 x1 x2 σ := by
  rw [oF_at (f := od_X0_walkRec) rfl]
  show (od_X0_walkRec T (oF κ T n) κ [va_rf x0, va_rf x1, va_rf x2] σ) = _
  unfold od_X0_walkRec
  simp only [oun_rf, obn]
theorem oE_X0_gather (κ : oKv) (T n : Nat) (x0 : Option Nat) (σ : oSt) : oF κ T (n + 1) 37 [va_rf x0] σ = ob_X0_gather T (oF κ T n) κ x0 σ := by
  rw [oF_at (f := od_X0_gather) rfl]
  show (od_X0_gather T (oF κ T n) κ [va_rf x0] σ) = _
  unfold od_X0_gather
  simp only [oun_rf, obn]
theorem oE_X9_isFact (κ : oKv) (T n : Nat) (x0 : Option Nat) (σ : oSt) : oF κ T (n + 1) 38 [va_rf x0] σ = ob_X9_isFact T (oF κ T n) κ x0 σ := by
  rw [oF_at (f := od_X9_isFact) rfl]
  show (od_X9_isFact T (oF κ T n) κ [va_rf x0] σ) = _
  unfold od_X9_isFact
  simp only [oun_rf, obn]
theorem oE_X1_isFormed (κ : oKv) (T n : Nat) (x0 : Option Nat) (σ : oSt) : oF κ T (n + 1) 39 [va_rf x0] σ = ob_X1_isFormed T (oF κ T n) κ x0 σ := by
  rw [oF_at (f := od_X1_isFormed) rfl]
  show (od_X1_isFormed T (oF κ T n) κ [va_rf x0] σ) = _
  unfold od_X1_isFormed
  simp only [oun_rf, obn]
theorem oE_X6_makeRoom (κ : oKv) (T n : Nat) (x0 : Option Nat) (x1 : Int32) (σ : oSt) : oF κ T (n + 1) 40 [va_rf x0, .int x1] σ = ob_X6_makeRoom T (oF κ T n) κ x0 x1 σ := by
  rw [oF_at (f := od_X6_makeRoom) rfl]
  show (od_X6_makeRoom T (oF κ T n) κ [va_rf x0, .int x1] σ) = _
  unfold od_X6_makeRoom
  simp only [oun_rf, obn]
theorem oE_X6_reset (κ : oKv) (T n : Nat) (x0 : Option Nat) (x1 : Int32) (σ : oSt) : oF κ T (n + 1) 41 [va_rf x0, .int x1] σ = ob_X6_reset T (oF κ T n) κ x0 x1 σ := by
  rw [oF_at (f := od_X6_reset) rfl]
  show (od_X6_reset T (oF κ T n) κ [va_rf x0, .int x1] σ) = _
  unfold od_X6_reset
  simp only [oun_rf, obn]
theorem oE_X6_lead (κ : oKv) (T n : Nat) (x0 : Option Nat) (x1 : Int32) (x2 : Int32) (x3 : Int64) (σ : oSt) : oF κ T (n + 1) 42 [va_rf x0, .int x1, .int x2, .long x3] σ = ob_X6_lead T (oF κ T n) κ x0 x1 x2 x3 σ := by
  rw [oF_at (f := od_X6_lead) rfl]
  show (od_X6_lead T (oF κ T n) κ [va_rf x0, .int x1, .int x2, .long x3] σ) = _
  unfold od_X6_lead
  simp only [oun_rf, obn]
theorem oE_X6_tighten (κ : oKv) (T n : Nat) (x0 : Option Nat) (σ : oSt) : oF κ T (n + 1) 43 [va_rf x0] σ = ob_X6_tighten T (oF κ T n) κ x0 σ := by
  rw [oF_at (f := od_X6_tighten) rfl]
  show (od_X6_tighten T (oF κ T n) κ [va_rf x0] σ) = _
  unfold od_X6_tighten
  simp only [oun_rf, obn]
theorem oE_X6_limit (κ : oKv) (T n : Nat) (x0 : Option Nat) (x1 : Int32) (x2 : Int32) (x3 : Int64) (σ : oSt) : oF κ T (n + 1) 44 [va_rf x0, .int x1, .int x2, .long x3] σ = ob_X6_limit T (oF κ T n) κ x0 x1 x2 x3 σ := by
  rw [oF_at (f := od_X6_limit) rfl]
  show (od_X6_limit T (oF κ T n) κ [va_rf x0, .int x1, .int x2, .long x3] σ) = _
  unfold od_X6_limit
  simp only [oun_rf, obn]
theorem oE_X2_insteadOf (κ : oKv) (T n : Nat) (x0 : Option Nat) (x1 : Option Nat) (σ : oSt) : oF κ T (n + 1) 45 [va_rf x0, va_rf x1] σ = ob_X2_insteadOf T (oF κ T n) κ x0 x1 σ := by
  rw [oF_at (f := od_X2_insteadOf) rfl]
  show (od_X2_insteadOf T (oF κ T n) κ [va_rf x0, va_rf x1] σ) = _
  unfold od_X2_insteadOf
  simp only [oun_rf, obn]
theorem oE_X2_recall (κ : oKv) (T n : Nat) (x0 : Option Nat) (x1 : Int32) (σ : oSt) : oF κ T (n + 1) 46 [va_rf x0, .int x1] σ = ob_X2_recall T (oF κ T n) κ x0 x1 σ := by
  rw [oF_at (f := od_X2_recall) rfl]
  show (od_X2_recall T (oF κ T n) κ [va_rf x0, .int x1] σ) = _
  unfold od_X2_recall
  simp only [oun_rf, obn]
theorem oE_X1_side (κ : oKv) (T n : Nat) (x0 : Option Nat) (x1 : Int32) (σ : oSt) : oF κ T (n + 1) 47 [va_rf x0, .int x1] σ = ob_X1_side T (oF κ T n) κ x0 x1 σ := by
  rw [oF_at (f := od_X1_side) rfl]
  show (od_X1_side T (oF κ T n) κ [va_rf x0, .int x1] σ) = _
  unfold od_X1_side
  simp only [oun_rf, obn]
theorem oE_X6_isLimited (κ : oKv) (T n : Nat) (x0 : Option Nat) (x1 : Int32) (x2 : Int32) (x3 : Int64) (σ : oSt) : oF κ T (n + 1) 48 [va_rf x0, .int x1, .int x2, .long x3] σ = ob_X6_isLimited T (oF κ T n) κ x0 x1 x2 x3 σ := by
  rw [oF_at (f := od_X6_isLimited) rfl]
  show (od_X6_isLimited T (oF κ T n) κ [va_rf x0, .int x1, .int x2, .long x3] σ) = _
  unfold od_X6_isLimited
  simp only [oun_rf, obn]
theorem oE_X1_meet (κ : oKv) (T n : Nat) (x0 : Option Nat) (x1 : Option Nat) (x2 : Int32) (x3 : Int32) (σ : oSt) : oF κ T (n + 1) 49 [va_rf x0, va_rf x1, .int x2, .int x3] σ = ob_X1_meet T (oF κ T n) κ x0 x1 x2 x3 σ := by
  rw [oF_at (f := od_X1_meet) rfl]
  show (od_X1_meet T (oF κ T n) κ [va_rf x0, va_rf x1, .int x2, .int x3] σ) = _
  unfold od_X1_meet
  simp only [oun_rf, obn]
theorem oE_X1_learn (κ : oKv) (T n : Nat) (x0 : Option Nat) (x1 : Option Nat) (x2 : Int32) (σ : oSt) : oF κ T (n + 1) 50 [va_rf x0, va_rf x1, .int x2] σ = ob_X1_learn T (oF κ T n) κ x0 x1 x2 σ := by
  rw [oF_at (f := od_X1_learn) rfl]
  show (od_X1_learn T (oF κ T n) κ [va_rf x0, va_rf x1, .int x2] σ) = _
  unfold od_X1_learn
  simp only [oun_rf, obn]
theorem oE_X1_postpone (κ : oKv) (T n : Nat) (x0 : Option Nat) (x1 : Option Nat) (x2 : Int32) (σ : oSt) : oF κ T (n + 1) 51 [va_rf x0, va_rf x1, .int x2] σ = ob_X1_postpone T (oF κ T n) κ x0 x1 x2 σ := by
  rw [oF_at (f := od_X1_postpone) rfl]
  show (od_X1_postpone T (oF κ T n) κ [va_rf x0, va_rf x1, .int x2] σ) = _
  unfold od_X1_postpone
  simp only [oun_rf, obn]
theorem oE_X1_choose (κ : oKv) (T n : Nat) (x0 : Option Nat) (x1 : Option Nat) (x2 : Int32) (σ : oSt) : oF κ T (n + 1) 52 [va_rf x0, va_rf x1, .int x2] σ = ob_X1_choose T (oF κ T n) κ x0 x1 x2 σ := by
  rw [oF_at (f := od_X1_choose) rfl]
  show (od_X1_choose T (oF κ T n) κ [va_rf x0, va_rf x1, .int x2] σ) = _
  unfold od_X1_choose
  simp only [oun_rf, obn]
theorem oE_X1_opposite (κ : oKv) (T n : Nat) (x0 : Int32) (σ : oSt) : oF κ T (n + 1) 53 [.int x0] σ = ob_X1_opposite T (oF κ T n) κ x0 σ := by
  rw [oF_at (f := od_X1_opposite) rfl]
  show (od_X1_opposite T (oF κ T n) κ [.int x0] σ) = _
  unfold od_X1_opposite
  rfl
theorem oE_X1_limit (κ : oKv) (T n : Nat) (x0 : Option Nat) (x1 : Option Nat) (x2 : Int32) (x3 : Int32) (σ : oSt) : oF κ T (n + 1) 54 [va_rf x0, va_rf x1, .int x2, .int x3] σ = ob_X1_limit T (oF κ T n) κ x0 x1 x2 x3 σ := by
  rw [oF_at (f := od_X1_limit) rfl]
  show (od_X1_limit T (oF κ T n) κ [va_rf x0, va_rf x1, .int x2, .int x3] σ) = _
  unfold od_X1_limit
  simp only [oun_rf, obn]
theorem oE_X1_compare (κ : oKv) (T n : Nat) (x0 : Option Nat) (x1 : Option Nat) (x2 : Int32) (σ : oSt) : oF κ T (n + 1) 55 [va_rf x0, va_rf x1, .int x2] σ = ob_X1_compare T (oF κ T n) κ x0 x1 x2 σ := by
  rw [oF_at (f := od_X1_compare) rfl]
  show (od_X1_compare T (oF κ T n) κ [va_rf x0, va_rf x1, .int x2] σ) = _
  unfold od_X1_compare
  simp only [oun_rf, obn]
theorem oE_X1_assume (κ : oKv) (T n : Nat) (x0 : Option Nat) (x1 : Option Nat) (x2 : Int32) (σ : oSt) : oF κ T (n + 1) 56 [va_rf x0, va_rf x1, .int x2] σ = ob_X1_assume T (oF κ T n) κ x0 x1 x2 σ := by
  rw [oF_at (f := od_X1_assume) rfl]
  show (od_X1_assume T (oF κ T n) κ [va_rf x0, va_rf x1, .int x2] σ) = _
  unfold od_X1_assume
  simp only [oun_rf, obn]
theorem oE_X1_begin (κ : oKv) (T n : Nat) (x0 : Option Nat) (x1 : Option Nat) (x2 : Option Nat) (σ : oSt) : oF κ T (n + 1) 57 [va_rf x0, va_rf x1, va_rf x2] σ = ob_X1_begin T (oF κ T n) κ x0 x1 x2 σ := by
  rw [oF_at (f := od_X1_begin) rfl]
  show (od_X1_begin T (oF κ T n) κ [va_rf x0, va_rf x1, va_rf x2] σ) = _
  unfold od_X1_begin
  simp only [oun_rf, obn]
theorem oE_X6_close (κ : oKv) (T n : Nat) (x0 : Option Nat) (σ : oSt) : oF κ T (n + 1) 58 [va_rf x0] σ = ob_X6_close T (oF κ T n) κ x0 σ := by
  rw [oF_at (f := od_X6_close) rfl]
  show (od_X6_close T (oF κ T n) κ [va_rf x0] σ) = _
  unfold od_X6_close
  simp only [oun_rf, obn]
theorem oE_X1_conclude (κ : oKv) (T n : Nat) (x0 : Option Nat) (σ : oSt) : oF κ T (n + 1) 59 [va_rf x0] σ = ob_X1_conclude T (oF κ T n) κ x0 σ := by
  rw [oF_at (f := od_X1_conclude) rfl]
  show (od_X1_conclude T (oF κ T n) κ [va_rf x0] σ) = _
  unfold od_X1_conclude
  simp only [oun_rf, obn]
theorem oE_X1_isDecided (κ : oKv) (T n : Nat) (x0 : Option Nat) (σ : oSt) : oF κ T (n + 1) 60 [va_rf x0] σ = ob_X1_isDecided T (oF κ T n) κ x0 σ := by
  rw [oF_at (f := od_X1_isDecided) rfl]
  show (od_X1_isDecided T (oF κ T n) κ [va_rf x0] σ) = _
  unfold od_X1_isDecided
  simp only [oun_rf, obn]
theorem oE_X6_rise (κ : oKv) (T n : Nat) (x0 : Option Nat) (σ : oSt) : oF κ T (n + 1) 61 [va_rf x0] σ = ob_X6_rise T (oF κ T n) κ x0 σ := by
  rw [oF_at (f := od_X6_rise) rfl]
  show (od_X6_rise T (oF κ T n) κ [va_rf x0] σ) = _
  unfold od_X6_rise
  simp only [oun_rf, obn]
theorem oE_X6_sink (κ : oKv) (T n : Nat) (x0 : Option Nat) (σ : oSt) : oF κ T (n + 1) 62 [va_rf x0] σ = ob_X6_sink T (oF κ T n) κ x0 σ := by
  rw [oF_at (f := od_X6_sink) rfl]
  show (od_X6_sink T (oF κ T n) κ [va_rf x0] σ) = _
  unfold od_X6_sink
  simp only [oun_rf, obn]
theorem oE_X1_explore (κ : oKv) (T n : Nat) (x0 : Option Nat) (x1 : Int32) (σ : oSt) : oF κ T (n + 1) 63 [va_rf x0, .int x1] σ = ob_X1_explore T (oF κ T n) κ x0 x1 σ := by
  rw [oF_at (f := od_X1_explore) rfl]
  show (od_X1_explore T (oF κ T n) κ [va_rf x0, .int x1] σ) = _
  unfold od_X1_explore
  simp only [oun_rf, obn]
theorem oE_X1_isSure (κ : oKv) (T n : Nat) (x0 : Option Nat) (x1 : Option Nat) (x2 : Option Nat) (σ : oSt) : oF κ T (n + 1) 64 [va_rf x0, va_rf x1, va_rf x2] σ = ob_X1_isSure T (oF κ T n) κ x0 x1 x2 σ := by
  rw [oF_at (f := od_X1_isSure) rfl]
  show (od_X1_isSure T (oF κ T n) κ [va_rf x0, va_rf x1, va_rf x2] σ) = _
  unfold od_X1_isSure
  simp only [oun_rf, obn]
theorem oE_X0_findDoubt (κ : oKv) (T n : Nat) (x0 : Option Nat) (σ : oSt) : oF κ T (n + 1) 65 [va_rf x0] σ = ob_X0_findDoubt T (oF κ T n) κ x0 σ := by
  rw [oF_at (f := od_X0_findDoubt) rfl]
  show (od_X0_findDoubt T (oF κ T n) κ [va_rf x0] σ) = _
  unfold od_X0_findDoubt
  simp only [oun_rf, obn]
theorem oE_X0_lastChange (κ : oKv) (T n : Nat) (x0 : Option Nat) (x1 : Int32) (σ : oSt) : oF κ T (n + 1) 66 [va_rf x0, .int x1] σ = ob_X0_lastChange T (oF κ T n) κ x0 x1 σ := by
  rw [oF_at (f := od_X0_lastChange) rfl]
  show (od_X0_lastChange T (oF κ T n) κ [va_rf x0, .int x1] σ) = _
  unfold od_X0_lastChange
  simp only [oun_rf, obn]
theorem oE_X1_weaken (κ : oKv) (T n : Nat) (x0 : Option Nat) (x1 : Option Nat) (x2 : Option Nat) (x3 : Option Nat) (σ : oSt) : oF κ T (n + 1) 67 [va_rf x0, va_rf x1, va_rf x2, va_rf x3] σ = ob_X1_weaken T (oF κ T n) κ x0 x1 x2 x3 σ := by
  rw [oF_at (f := od_X1_weaken) rfl]
  show (od_X1_weaken T (oF κ T n) κ [va_rf x0, va_rf x1, va_rf x2, va_rf x3] σ) = _
  unfold od_X1_weaken
  simp only [oun_rf, obn]
theorem oE_X0_weakenAll (κ : oKv) (T n : Nat) (x0 : Option Nat) (σ : oSt) : oF κ T (n + 1) 68 [va_rf x0] σ = ob_X0_weakenAll T (oF κ T n) κ x0 σ := by
  rw [oF_at (f := od_X0_weakenAll) rfl]
  show (od_X0_weakenAll T (oF κ T n) κ [va_rf x0] σ) = _
  unfold od_X0_weakenAll
  simp only [oun_rf, obn]
theorem oE_X6_init (κ : oKv) (T n : Nat) (x0 : Option Nat) (σ : oSt) : oF κ T (n + 1) 69 [va_rf x0] σ = ob_X6_init T (oF κ T n) κ x0 σ := by
  rw [oF_at (f := od_X6_init) rfl]
  show (od_X6_init T (oF κ T n) κ [va_rf x0] σ) = _
  unfold od_X6_init
  simp only [oun_rf, obn]
theorem oE_X1_init (κ : oKv) (T n : Nat) (x0 : Option Nat) (σ : oSt) : oF κ T (n + 1) 70 [va_rf x0] σ = ob_X1_init T (oF κ T n) κ x0 σ := by
  rw [oF_at (f := od_X1_init) rfl]
  show (od_X1_init T (oF κ T n) κ [va_rf x0] σ) = _
  unfold od_X1_init
  simp only [oun_rf, obn]
theorem oE_X3_init (κ : oKv) (T n : Nat) (x0 : Option Nat) (σ : oSt) : oF κ T (n + 1) 71 [va_rf x0] σ = ob_X3_init T (oF κ T n) κ x0 σ := by
  rw [oF_at (f := od_X3_init) rfl]
  show (od_X3_init T (oF κ T n) κ [va_rf x0] σ) = _
  unfold od_X3_init
  simp only [oun_rf, obn]
theorem oE_X3_forget (κ : oKv) (T n : Nat) (x0 : Option Nat) (σ : oSt) : oF κ T (n + 1) 72 [va_rf x0] σ = ob_X3_forget T (oF κ T n) κ x0 σ := by
  rw [oF_at (f := od_X3_forget) rfl]
  show (od_X3_forget T (oF κ T n) κ [va_rf x0] σ) = _
  unfold od_X3_forget
  simp only [oun_rf, obn]
theorem oE_X3_take (κ : oKv) (T n : Nat) (x0 : Option Nat) (x1 : Option Nat) (x2 : Int32) (σ : oSt) : oF κ T (n + 1) 73 [va_rf x0, va_rf x1, .int x2] σ = ob_X3_take T (oF κ T n) κ x0 x1 x2 σ := by
  rw [oF_at (f := od_X3_take) rfl]
  show (od_X3_take T (oF κ T n) κ [va_rf x0, va_rf x1, .int x2] σ) = _
  unfold od_X3_take
  simp only [oun_rf, obn]
theorem oE_X3_set (κ : oKv) (T n : Nat) (x0 : Option Nat) (x1 : Int32) (x2 : Int32) (x3 : Int32) (σ : oSt) : oF κ T (n + 1) 74 [va_rf x0, .int x1, .int x2, .int x3] σ = ob_X3_set T (oF κ T n) κ x0 x1 x2 x3 σ := by
  rw [oF_at (f := od_X3_set) rfl]
  show (od_X3_set T (oF κ T n) κ [va_rf x0, .int x1, .int x2, .int x3] σ) = _
  unfold od_X3_set
  simp only [oun_rf, obn]
theorem oE_X3_setElement (κ : oKv) (T n : Nat) (x0 : Option Nat) (x1 : Int32) (x2 : Int32) (x3 : Int32) (σ : oSt) : oF κ T (n + 1) 75 [va_rf x0, .int x1, .int x2, .int x3] σ = ob_X3_setElement T (oF κ T n) κ x0 x1 x2 x3 σ := by
  rw [oF_at (f := od_X3_setElement) rfl]
  show (od_X3_setElement T (oF κ T n) κ [va_rf x0, .int x1, .int x2, .int x3] σ) = _
  unfold od_X3_setElement
  simp only [oun_rf, obn]
theorem oE_X3_room (κ : oKv) (T n : Nat) (x0 : Option Nat) (x1 : Int32) (σ : oSt) : oF κ T (n + 1) 76 [va_rf x0, .int x1] σ = ob_X3_room T (oF κ T n) κ x0 x1 σ := by
  rw [oF_at (f := od_X3_room) rfl]
  show (od_X3_room T (oF κ T n) κ [va_rf x0, .int x1] σ) = _
  unfold od_X3_room
  simp only [oun_rf, obn]
theorem oE_X3_array (κ : oKv) (T n : Nat) (x0 : Option Nat) (x1 : Int32) (σ : oSt) : oF κ T (n + 1) 77 [va_rf x0, .int x1] σ = ob_X3_array T (oF κ T n) κ x0 x1 σ := by
  rw [oF_at (f := od_X3_array) rfl]
  show (od_X3_array T (oF κ T n) κ [va_rf x0, .int x1] σ) = _
  unfold od_X3_array
  simp only [oun_rf, obn]
theorem oE_X3_givenArray (κ : oKv) (T n : Nat) (x0 : Option Nat) (x1 : Int32) (σ : oSt) : oF κ T (n + 1) 78 [va_rf x0, .int x1] σ = ob_X3_givenArray T (oF κ T n) κ x0 x1 σ := by
  rw [oF_at (f := od_X3_givenArray) rfl]
  show (od_X3_givenArray T (oF κ T n) κ [va_rf x0, .int x1] σ) = _
  unfold od_X3_givenArray
  simp only [oun_rf, obn]
theorem oE_X3_pair (κ : oKv) (T n : Nat) (x0 : Option Nat) (x1 : Int64) (x2 : Int32) (σ : oSt) : oF κ T (n + 1) 79 [va_rf x0, .long x1, .int x2] σ = ob_X3_pair T (oF κ T n) κ x0 x1 x2 σ := by
  rw [oF_at (f := od_X3_pair) rfl]
  show (od_X3_pair T (oF κ T n) κ [va_rf x0, .long x1, .int x2] σ) = _
  unfold od_X3_pair
  simp only [oun_rf, obn]
theorem oE_X3_begin (κ : oKv) (T n : Nat) (x0 : Option Nat) (σ : oSt) : oF κ T (n + 1) 80 [va_rf x0] σ = ob_X3_begin T (oF κ T n) κ x0 σ := by
  rw [oF_at (f := od_X3_begin) rfl]
  show (od_X3_begin T (oF κ T n) κ [va_rf x0] σ) = _
  unfold od_X3_begin
  simp only [oun_rf, obn]
theorem oE_X3_await (κ : oKv) (T n : Nat) (x0 : Option Nat) (x1 : Option Nat) (x2 : Int32) (x3 : Int32) (σ : oSt) : oF κ T (n + 1) 81 [va_rf x0, va_rf x1, .int x2, .int x3] σ = ob_X3_await T (oF κ T n) κ x0 x1 x2 x3 σ := by
  rw [oF_at (f := od_X3_await) rfl]
  show (od_X3_await T (oF κ T n) κ [va_rf x0, va_rf x1, .int x2, .int x3] σ) = _
  unfold od_X3_await
  simp only [oun_rf, obn]
theorem oE_X3_triple (κ : oKv) (T n : Nat) (x0 : Option Nat) (x1 : Int64) (x2 : Int64) (x3 : Int64) (σ : oSt) : oF κ T (n + 1) 82 [va_rf x0, .long x1, .long x2, .long x3] σ = ob_X3_triple T (oF κ T n) κ x0 x1 x2 x3 σ := by
  rw [oF_at (f := od_X3_triple) rfl]
  show (od_X3_triple T (oF κ T n) κ [va_rf x0, .long x1, .long x2, .long x3] σ) = _
  unfold od_X3_triple
  simp only [oun_rf, obn]
theorem oE_X3_valueOf (κ : oKv) (T n : Nat) (x0 : Option Nat) (x1 : Option Nat) (x2 : Int32) (σ : oSt) : oF κ T (n + 1) 83 [va_rf x0, va_rf x1, .int x2] σ = ob_X3_valueOf T (oF κ T n) κ x0 x1 x2 σ := by
  rw [oF_at (f := od_X3_valueOf) rfl]
  show (od_X3_valueOf T (oF κ T n) κ [va_rf x0, va_rf x1, .int x2] σ) = _
  unfold od_X3_valueOf
  simp only [oun_rf, obn]
theorem oE_X3_measure (κ : oKv) (T n : Nat) (x0 : Option Nat) (x1 : Int64) (x2 : Int32) (σ : oSt) : oF κ T (n + 1) 84 [va_rf x0, .long x1, .int x2] σ = ob_X3_measure T (oF κ T n) κ x0 x1 x2 σ := by
  rw [oF_at (f := od_X3_measure) rfl]
  show (od_X3_measure T (oF κ T n) κ [va_rf x0, .long x1, .int x2] σ) = _
  unfold od_X3_measure
  simp only [oun_rf, obn]
theorem oE_X3_sum (κ : oKv) (T n : Nat) (x0 : Option Nat) (x1 : Option Nat) (σ : oSt) : oF κ T (n + 1) 85 [va_rf x0, va_rf x1] σ = ob_X3_sum T (oF κ T n) κ x0 x1 σ := by
  rw [oF_at (f := od_X3_sum) rfl]
  show (od_X3_sum T (oF κ T n) κ [va_rf x0, va_rf x1] σ) = _
  unfold od_X3_sum
  simp only [oun_rf, obn]
theorem oE_X3_stands (κ : oKv) (T n : Nat) (x0 : Option Nat) (x1 : Int64) (x2 : Int32) (x3 : Option Nat) (σ : oSt) : oF κ T (n + 1) 86 [va_rf x0, .long x1, .int x2, va_rf x3] σ = ob_X3_stands T (oF κ T n) κ x0 x1 x2 x3 σ := by
  rw [oF_at (f := od_X3_stands) rfl]
  show (od_X3_stands T (oF κ T n) κ [va_rf x0, .long x1, .int x2, va_rf x3] σ) = _
  unfold od_X3_stands
  simp only [oun_rf, obn]
theorem oE_X3_holds (κ : oKv) (T n : Nat) (x0 : Option Nat) (x1 : Option Nat) (σ : oSt) : oF κ T (n + 1) 87 [va_rf x0, va_rf x1] σ = ob_X3_holds T (oF κ T n) κ x0 x1 σ := by
  rw [oF_at (f := od_X3_holds) rfl]
  show (od_X3_holds T (oF κ T n) κ [va_rf x0, va_rf x1] σ) = _
  unfold od_X3_holds
  simp only [oun_rf, obn]
theorem oE_X3_elementOf (κ : oKv) (T n : Nat) (x0 : Option Nat) (x1 : Option Nat) (σ : oSt) : oF κ T (n + 1) 88 [va_rf x0, va_rf x1] σ = ob_X3_elementOf T (oF κ T n) κ x0 x1 σ := by
  rw [oF_at (f := od_X3_elementOf) rfl]
  show (od_X3_elementOf T (oF κ T n) κ [va_rf x0, va_rf x1] σ) = _
  unfold od_X3_elementOf
  simp only [oun_rf, obn]
theorem oE_X3_change (κ : oKv) (T n : Nat) (x0 : Option Nat) (x1 : Option Nat) (σ : oSt) : oF κ T (n + 1) 89 [va_rf x0, va_rf x1] σ = ob_X3_change T (oF κ T n) κ x0 x1 σ := by
  rw [oF_at (f := od_X3_change) rfl]
  show (od_X3_change T (oF κ T n) κ [va_rf x0, va_rf x1] σ) = _
  unfold od_X3_change
  simp only [oun_rf, obn]
theorem oE_X3_match (κ : oKv) (T n : Nat) (x0 : Option Nat) (x1 : Option Nat) (σ : oSt) : oF κ T (n + 1) 90 [va_rf x0, va_rf x1] σ = ob_X3_match T (oF κ T n) κ x0 x1 σ := by
  rw [oF_at (f := od_X3_match) rfl]
  show (od_X3_match T (oF κ T n) κ [va_rf x0, va_rf x1] σ) = _
  unfold od_X3_match
  simp only [oun_rf, obn]
theorem oE_X3_argument (κ : oKv) (T n : Nat) (x0 : Option Nat) (x1 : Option Nat) (σ : oSt) : oF κ T (n + 1) 91 [va_rf x0, va_rf x1] σ = ob_X3_argument T (oF κ T n) κ x0 x1 σ := by
  rw [oF_at (f := od_X3_argument) rfl]
  show (od_X3_argument T (oF κ T n) κ [va_rf x0, va_rf x1] σ) = _
  unfold od_X3_argument
  simp only [oun_rf, obn]
theorem oE_X3_apply (κ : oKv) (T n : Nat) (x0 : Option Nat) (x1 : Int32) (x2 : Int32) (σ : oSt) : oF κ T (n + 1) 92 [va_rf x0, .int x1, .int x2] σ = ob_X3_apply T (oF κ T n) κ x0 x1 x2 σ := by
  rw [oF_at (f := od_X3_apply) rfl]
  show (od_X3_apply T (oF κ T n) κ [va_rf x0, .int x1, .int x2] σ) = _
  unfold od_X3_apply
  simp only [oun_rf, obn]
theorem oE_X3_call (κ : oKv) (T n : Nat) (x0 : Option Nat) (x1 : Option Nat) (σ : oSt) : oF κ T (n + 1) 93 [va_rf x0, va_rf x1] σ = ob_X3_call T (oF κ T n) κ x0 x1 σ := by
  rw [oF_at (f := od_X3_call) rfl]
  show (od_X3_call T (oF κ T n) κ [va_rf x0, va_rf x1] σ) = _
  unfold od_X3_call
  simp only [oun_rf, obn]
theorem oE_X3_newArray (κ : oKv) (T n : Nat) (x0 : Option Nat) (x1 : Int64) (σ : oSt) : oF κ T (n + 1) 94 [va_rf x0, .long x1] σ = ob_X3_newArray T (oF κ T n) κ x0 x1 σ := by
  rw [oF_at (f := od_X3_newArray) rfl]
  show (od_X3_newArray T (oF κ T n) κ [va_rf x0, .long x1] σ) = _
  unfold od_X3_newArray
  simp only [oun_rf, obn]
theorem oE_X3_cons (κ : oKv) (T n : Nat) (x0 : Option Nat) (x1 : Option Nat) (σ : oSt) : oF κ T (n + 1) 95 [va_rf x0, va_rf x1] σ = ob_X3_cons T (oF κ T n) κ x0 x1 σ := by
  rw [oF_at (f := od_X3_cons) rfl]
  show (od_X3_cons T (oF κ T n) κ [va_rf x0, va_rf x1] σ) = _
  unfold od_X3_cons
  simp only [oun_rf, obn]
theorem oE_X3_product (κ : oKv) (T n : Nat) (x0 : Option Nat) (x1 : Int64) (x2 : Option Nat) (σ : oSt) : oF κ T (n + 1) 96 [va_rf x0, .long x1, va_rf x2] σ = ob_X3_product T (oF κ T n) κ x0 x1 x2 σ := by
  rw [oF_at (f := od_X3_product) rfl]
  show (od_X3_product T (oF κ T n) κ [va_rf x0, .long x1, va_rf x2] σ) = _
  unfold od_X3_product
  simp only [oun_rf, obn]
theorem oE_X3_quotient (κ : oKv) (T n : Nat) (x0 : Option Nat) (x1 : Option Nat) (σ : oSt) : oF κ T (n + 1) 97 [va_rf x0, va_rf x1] σ = ob_X3_quotient T (oF κ T n) κ x0 x1 σ := by
  rw [oF_at (f := od_X3_quotient) rfl]
  show (od_X3_quotient T (oF κ T n) κ [va_rf x0, va_rf x1] σ) = _
  unfold od_X3_quotient
  simp only [oun_rf, obn]
theorem oE_X3_plain (κ : oKv) (T n : Nat) (x0 : Option Nat) (x1 : Option Nat) (σ : oSt) : oF κ T (n + 1) 98 [va_rf x0, va_rf x1] σ = ob_X3_plain T (oF κ T n) κ x0 x1 σ := by
  rw [oF_at (f := od_X3_plain) rfl]
  show (od_X3_plain T (oF κ T n) κ [va_rf x0, va_rf x1] σ) = _
  unfold od_X3_plain
  simp only [oun_rf, obn]
theorem oE_X3_start (κ : oKv) (T n : Nat) (x0 : Option Nat) (x1 : Option Nat) (σ : oSt) : oF κ T (n + 1) 99 [va_rf x0, va_rf x1] σ = ob_X3_start T (oF κ T n) κ x0 x1 σ := by
  rw [oF_at (f := od_X3_start) rfl]
  show (od_X3_start T (oF κ T n) κ [va_rf x0, va_rf x1] σ) = _
  unfold od_X3_start
  simp only [oun_rf, obn]
theorem oE_X3_resume (κ : oKv) (T n : Nat) (x0 : Option Nat) (σ : oSt) : oF κ T (n + 1) 100 [va_rf x0] σ = ob_X3_resume T (oF κ T n) κ x0 σ := by
  rw [oF_at (f := od_X3_resume) rfl]
  show (od_X3_resume T (oF κ T n) κ [va_rf x0] σ) = _
  unfold od_X3_resume
  simp only [oun_rf, obn]
theorem oE_X3_go (κ : oKv) (T n : Nat) (x0 : Option Nat) (x1 : Int32) (σ : oSt) : oF κ T (n + 1) 101 [va_rf x0, .int x1] σ = ob_X3_go T (oF κ T n) κ x0 x1 σ := by
  rw [oF_at (f := od_X3_go) rfl]
  show (od_X3_go T (oF κ T n) κ [va_rf x0, .int x1] σ) = _
  unfold od_X3_go
  simp only [oun_rf, obn]
theorem oE_X5_init (κ : oKv) (T n : Nat) (x0 : Option Nat) (x1 : Int32) (x2 : Int32) (x3 : Int32) (σ : oSt) : oF κ T (n + 1) 102 [va_rf x0, .int x1, .int x2, .int x3] σ = ob_X5_init T (oF κ T n) κ x0 x1 x2 x3 σ := by
  rw [oF_at (f := od_X5_init) rfl]
  show (od_X5_init T (oF κ T n) κ [va_rf x0, .int x1, .int x2, .int x3] σ) = _
  unfold od_X5_init
  simp only [oun_rf, obn]
theorem oE_X7_init (κ : oKv) (T n : Nat) (x0 : Option Nat) (x1 : Option Nat) (σ : oSt) : oF κ T (n + 1) 103 [va_rf x0, va_rf x1] σ = ob_X7_init T (oF κ T n) κ x0 x1 σ := by
  rw [oF_at (f := od_X7_init) rfl]
  show (od_X7_init T (oF κ T n) κ [va_rf x0, va_rf x1] σ) = _
  unfold od_X7_init
  simp only [oun_rf, obn]
theorem oE_X7_kind (κ : oKv) (T n : Nat) (x0 : Option Nat) (σ : oSt) : oF κ T (n + 1) 104 [va_rf x0] σ = ob_X7_kind T (oF κ T n) κ x0 σ := by
  rw [oF_at (f := od_X7_kind) rfl]
  show (od_X7_kind T (oF κ T n) κ [va_rf x0] σ) = _
  unfold od_X7_kind
  simp only [oun_rf, obn]
theorem oE_X7_next (κ : oKv) (T n : Nat) (x0 : Option Nat) (σ : oSt) : oF κ T (n + 1) 105 [va_rf x0] σ = ob_X7_next T (oF κ T n) κ x0 σ := by
  rw [oF_at (f := od_X7_next) rfl]
  show (od_X7_next T (oF κ T n) κ [va_rf x0] σ) = _
  unfold od_X7_next
  simp only [oun_rf, obn]
theorem oE_X7_here (κ : oKv) (T n : Nat) (x0 : Option Nat) (σ : oSt) : oF κ T (n + 1) 106 [va_rf x0] σ = ob_X7_here T (oF κ T n) κ x0 σ := by
  rw [oF_at (f := od_X7_here) rfl]
  show (od_X7_here T (oF κ T n) κ [va_rf x0] σ) = _
  unfold od_X7_here
  simp only [oun_rf, obn]
theorem oE_X7_fail (κ : oKv) (T n : Nat) (x0 : Option Nat) (σ : oSt) : oF κ T (n + 1) 107 [va_rf x0] σ = ob_X7_fail T (oF κ T n) κ x0 σ := by
  rw [oF_at (f := od_X7_fail) rfl]
  show (od_X7_fail T (oF κ T n) κ [va_rf x0] σ) = _
  unfold od_X7_fail
  simp only [oun_rf, obn]
theorem oE_X7_expect (κ : oKv) (T n : Nat) (x0 : Option Nat) (x1 : Int32) (σ : oSt) : oF κ T (n + 1) 108 [va_rf x0, .int x1] σ = ob_X7_expect T (oF κ T n) κ x0 x1 σ := by
  rw [oF_at (f := od_X7_expect) rfl]
  show (od_X7_expect T (oF κ T n) κ [va_rf x0, .int x1] σ) = _
  unfold od_X7_expect
  simp only [oun_rf, obn]
theorem oE_X7_isRelation (κ : oKv) (T n : Nat) (x0 : Int32) (σ : oSt) : oF κ T (n + 1) 109 [.int x0] σ = ob_X7_isRelation T (oF κ T n) κ x0 σ := by
  rw [oF_at (f := od_X7_isRelation) rfl]
  show (od_X7_isRelation T (oF κ T n) κ [.int x0] σ) = _
  unfold od_X7_isRelation
  rfl
theorem oE_X11_numberOf (κ : oKv) (T n : Nat) (x0 : Option Nat) (x1 : Int32) (σ : oSt) : oF κ T (n + 1) 110 [va_rf x0, .int x1] σ = ob_X11_numberOf T (oF κ T n) κ x0 x1 σ := by
  rw [oF_at (f := od_X11_numberOf) rfl]
  show (od_X11_numberOf T (oF κ T n) κ [va_rf x0, .int x1] σ) = _
  unfold od_X11_numberOf
  simp only [oun_rf, obn]
theorem oE_X7_readQualTerm (κ : oKv) (T n : Nat) (x0 : Option Nat) (σ : oSt) : oF κ T (n + 1) 111 [va_rf x0] σ = ob_X7_readQualTerm T (oF κ T n) κ x0 σ := by
  rw [oF_at (f := od_X7_readQualTerm) rfl]
  show (od_X7_readQualTerm T (oF κ T n) κ [va_rf x0] σ) = _
  unfold od_X7_readQualTerm
  simp only [oun_rf, obn]
theorem oE_X7_readQual (κ : oKv) (T n : Nat) (x0 : Option Nat) (σ : oSt) : oF κ T (n + 1) 112 [va_rf x0] σ = ob_X7_readQual T (oF κ T n) κ x0 σ := by
  rw [oF_at (f := od_X7_readQual) rfl]
  show (od_X7_readQual T (oF κ T n) κ [va_rf x0] σ) = _
  unfold od_X7_readQual
  simp only [oun_rf, obn]
theorem oE_X11_textOf (κ : oKv) (T n : Nat) (x0 : Option Nat) (x1 : Int32) (σ : oSt) : oF κ T (n + 1) 113 [va_rf x0, .int x1] σ = ob_X11_textOf T (oF κ T n) κ x0 x1 σ := by
  rw [oF_at (f := od_X11_textOf) rfl]
  show (od_X11_textOf T (oF κ T n) κ [va_rf x0, .int x1] σ) = _
  unfold od_X11_textOf
  simp only [oun_rf, obn]
theorem oE_X7_counts (κ : oKv) (T n : Nat) (x0 : Option Nat) (x1 : Option Nat) (σ : oSt) : oF κ T (n + 1) 114 [va_rf x0, va_rf x1] σ = ob_X7_counts T (oF κ T n) κ x0 x1 σ := by
  rw [oF_at (f := od_X7_counts) rfl]
  show (od_X7_counts T (oF κ T n) κ [va_rf x0, va_rf x1] σ) = _
  unfold od_X7_counts
  simp only [oun_rf, obn]
theorem oE_X7_tell (κ : oKv) (T n : Nat) (x0 : Option Nat) (σ : oSt) : oF κ T (n + 1) 115 [va_rf x0] σ = ob_X7_tell T (oF κ T n) κ x0 σ := by
  rw [oF_at (f := od_X7_tell) rfl]
  show (od_X7_tell T (oF κ T n) κ [va_rf x0] σ) = _
  unfold od_X7_tell
  simp only [oun_rf, obn]
theorem oE_X7_count (κ : oKv) (T n : Nat) (x0 : Option Nat) (x1 : Option Nat) (σ : oSt) : oF κ T (n + 1) 116 [va_rf x0, va_rf x1] σ = ob_X7_count T (oF κ T n) κ x0 x1 σ := by
  rw [oF_at (f := od_X7_count) rfl]
  show (od_X7_count T (oF κ T n) κ [va_rf x0, va_rf x1] σ) = _
  unfold od_X7_count
  simp only [oun_rf, obn]
theorem oE_X7_readInput (κ : oKv) (T n : Nat) (x0 : Option Nat) (σ : oSt) : oF κ T (n + 1) 117 [va_rf x0] σ = ob_X7_readInput T (oF κ T n) κ x0 σ := by
  rw [oF_at (f := od_X7_readInput) rfl]
  show (od_X7_readInput T (oF κ T n) κ [va_rf x0] σ) = _
  unfold od_X7_readInput
  simp only [oun_rf, obn]
theorem oE_X7_node (κ : oKv) (T n : Nat) (x0 : Option Nat) (x1 : Int32) (σ : oSt) : oF κ T (n + 1) 118 [va_rf x0, .int x1] σ = ob_X7_node T (oF κ T n) κ x0 x1 σ := by
  rw [oF_at (f := od_X7_node) rfl]
  show (od_X7_node T (oF κ T n) κ [va_rf x0, .int x1] σ) = _
  unfold od_X7_node
  simp only [oun_rf, obn]
theorem oE_X7_use (κ : oKv) (T n : Nat) (x0 : Option Nat) (σ : oSt) : oF κ T (n + 1) 119 [va_rf x0] σ = ob_X7_use T (oF κ T n) κ x0 σ := by
  rw [oF_at (f := od_X7_use) rfl]
  show (od_X7_use T (oF κ T n) κ [va_rf x0] σ) = _
  unfold od_X7_use
  simp only [oun_rf, obn]
theorem oE_X7_sum_ (κ : oKv) (T n : Nat) (x0 : Option Nat) (x1 : Int32) (σ : oSt) : oF κ T (n + 1) 120 [va_rf x0, .int x1] σ = ob_X7_sum_ T (oF κ T n) κ x0 x1 σ := by
  rw [oF_at (f := od_X7_sum_) rfl]
  show (od_X7_sum_ T (oF κ T n) κ [va_rf x0, .int x1] σ) = _
  unfold od_X7_sum_
  simp only [oun_rf, obn]
theorem oE_X7_sum (κ : oKv) (T n : Nat) (x0 : Option Nat) (σ : oSt) : oF κ T (n + 1) 121 [va_rf x0] σ = ob_X7_sum T (oF κ T n) κ x0 σ := by
  rw [oF_at (f := od_X7_sum) rfl]
  show (od_X7_sum T (oF κ T n) κ [va_rf x0] σ) = _
  unfold od_X7_sum
  simp only [oun_rf, obn]
theorem oE_X7_blameForm (κ : oKv) (T n : Nat) (x0 : Option Nat) (x1 : Int32) (σ : oSt) : oF κ T (n + 1) 122 [va_rf x0, .int x1] σ = ob_X7_blameForm T (oF κ T n) κ x0 x1 σ := by
  rw [oF_at (f := od_X7_blameForm) rfl]
  show (od_X7_blameForm T (oF κ T n) κ [va_rf x0, .int x1] σ) = _
  unfold od_X7_blameForm
  simp only [oun_rf, obn]
theorem oE_X7_compare (κ : oKv) (T n : Nat) (x0 : Option Nat) (x1 : Option Nat) (x2 : Int32) (σ : oSt) : oF κ T (n + 1) 123 [va_rf x0, va_rf x1, .int x2] σ = ob_X7_compare T (oF κ T n) κ x0 x1 x2 σ := by
  rw [oF_at (f := od_X7_compare) rfl]
  show (od_X7_compare T (oF κ T n) κ [va_rf x0, va_rf x1, .int x2] σ) = _
  unfold od_X7_compare
  simp only [oun_rf, obn]
theorem oE_X9_addAll (κ : oKv) (T n : Nat) (x0 : Option Nat) (x1 : Option Nat) (x2 : Int32) (σ : oSt) : oF κ T (n + 1) 124 [va_rf x0, va_rf x1, .int x2] σ = ob_X9_addAll T (oF κ T n) κ x0 x1 x2 σ := by
  rw [oF_at (f := od_X9_addAll) rfl]
  show (od_X9_addAll T (oF κ T n) κ [va_rf x0, va_rf x1, .int x2] σ) = _
  unfold od_X9_addAll
  simp only [oun_rf, obn]
theorem oE_X7_comparison (κ : oKv) (T n : Nat) (x0 : Option Nat) (x1 : Option Nat) (σ : oSt) : oF κ T (n + 1) 125 [va_rf x0, va_rf x1] σ = ob_X7_comparison T (oF κ T n) κ x0 x1 σ := by
  rw [oF_at (f := od_X7_comparison) rfl]
  show (od_X7_comparison T (oF κ T n) κ [va_rf x0, va_rf x1] σ) = _
  unfold od_X7_comparison
  simp only [oun_rf, obn]
theorem oE_X7_both (κ : oKv) (T n : Nat) (x0 : Option Nat) (x1 : Int32) (σ : oSt) : oF κ T (n + 1) 126 [va_rf x0, .int x1] σ = ob_X7_both T (oF κ T n) κ x0 x1 σ := by
  rw [oF_at (f := od_X7_both) rfl]
  show (od_X7_both T (oF κ T n) κ [va_rf x0, .int x1] σ) = _
  unfold od_X7_both
  simp only [oun_rf, obn]
theorem oE_X7_either (κ : oKv) (T n : Nat) (x0 : Option Nat) (x1 : Int32) (σ : oSt) : oF κ T (n + 1) 127 [va_rf x0, .int x1] σ = ob_X7_either T (oF κ T n) κ x0 x1 σ := by
  rw [oF_at (f := od_X7_either) rfl]
  show (od_X7_either T (oF κ T n) κ [va_rf x0, .int x1] σ) = _
  unfold od_X7_either
  simp only [oun_rf, obn]
theorem oE_X7_single (κ : oKv) (T n : Nat) (x0 : Option Nat) (x1 : Int32) (σ : oSt) : oF κ T (n + 1) 128 [va_rf x0, .int x1] σ = ob_X7_single T (oF κ T n) κ x0 x1 σ := by
  rw [oF_at (f := od_X7_single) rfl]
  show (od_X7_single T (oF κ T n) κ [va_rf x0, .int x1] σ) = _
  unfold od_X7_single
  simp only [oun_rf, obn]
theorem oE_X7_test (κ : oKv) (T n : Nat) (x0 : Option Nat) (x1 : Int32) (σ : oSt) : oF κ T (n + 1) 129 [va_rf x0, .int x1] σ = ob_X7_test T (oF κ T n) κ x0 x1 σ := by
  rw [oF_at (f := od_X7_test) rfl]
  show (od_X7_test T (oF κ T n) κ [va_rf x0, .int x1] σ) = _
  unfold od_X7_test
  simp only [oun_rf, obn]
theorem oE_X7_beginsArgument (κ : oKv) (T n : Nat) (x0 : Int32) (σ : oSt) : oF κ T (n + 1) 130 [.int x0] σ = ob_X7_beginsArgument T (oF κ T n) κ x0 σ := by
  rw [oF_at (f := od_X7_beginsArgument) rfl]
  show (od_X7_beginsArgument T (oF κ T n) κ [.int x0] σ) = _
  unfold od_X7_beginsArgument
  rfl
theorem oE_X7_beFunction (κ : oKv) (T n : Nat) (x0 : Option Nat) (x1 : Option Nat) (σ : oSt) : oF κ T (n + 1) 131 [va_rf x0, va_rf x1] σ = ob_X7_beFunction T (oF κ T n) κ x0 x1 σ := by
  rw [oF_at (f := od_X7_beFunction) rfl]
  show (od_X7_beFunction T (oF κ T n) κ [va_rf x0, va_rf x1] σ) = _
  unfold od_X7_beFunction
  simp only [oun_rf, obn]
theorem oE_X7_tellParameter (κ : oKv) (T n : Nat) (x0 : Option Nat) (x1 : Option Nat) (σ : oSt) : oF κ T (n + 1) 132 [va_rf x0, va_rf x1] σ = ob_X7_tellParameter T (oF κ T n) κ x0 x1 σ := by
  rw [oF_at (f := od_X7_tellParameter) rfl]
  show (od_X7_tellParameter T (oF κ T n) κ [va_rf x0, va_rf x1] σ) = _
  unfold od_X7_tellParameter
  simp only [oun_rf, obn]
theorem oE_X7_readIndex (κ : oKv) (T n : Nat) (x0 : Option Nat) (x1 : Option Nat) (σ : oSt) : oF κ T (n + 1) 133 [va_rf x0, va_rf x1] σ = ob_X7_readIndex T (oF κ T n) κ x0 x1 σ := by
  rw [oF_at (f := od_X7_readIndex) rfl]
  show (od_X7_readIndex T (oF κ T n) κ [va_rf x0, va_rf x1] σ) = _
  unfold od_X7_readIndex
  simp only [oun_rf, obn]
theorem oE_X7_argument (κ : oKv) (T n : Nat) (x0 : Option Nat) (x1 : Int32) (σ : oSt) : oF κ T (n + 1) 134 [va_rf x0, .int x1] σ = ob_X7_argument T (oF κ T n) κ x0 x1 σ := by
  rw [oF_at (f := od_X7_argument) rfl]
  show (od_X7_argument T (oF κ T n) κ [va_rf x0, .int x1] σ) = _
  unfold od_X7_argument
  simp only [oun_rf, obn]
theorem oE_X7_expression (κ : oKv) (T n : Nat) (x0 : Option Nat) (x1 : Int32) (σ : oSt) : oF κ T (n + 1) 135 [va_rf x0, .int x1] σ = ob_X7_expression T (oF κ T n) κ x0 x1 σ := by
  rw [oF_at (f := od_X7_expression) rfl]
  show (od_X7_expression T (oF κ T n) κ [va_rf x0, .int x1] σ) = _
  unfold od_X7_expression
  simp only [oun_rf, obn]
theorem oE_X7_readAssert (κ : oKv) (T n : Nat) (x0 : Option Nat) (x1 : Option Nat) (x2 : Int32) (σ : oSt) : oF κ T (n + 1) 136 [va_rf x0, va_rf x1, .int x2] σ = ob_X7_readAssert T (oF κ T n) κ x0 x1 x2 σ := by
  rw [oF_at (f := od_X7_readAssert) rfl]
  show (od_X7_readAssert T (oF κ T n) κ [va_rf x0, va_rf x1, .int x2] σ) = _
  unfold od_X7_readAssert
  simp only [oun_rf, obn]
theorem oE_X7_readCall (κ : oKv) (T n : Nat) (x0 : Option Nat) (x1 : Int32) (σ : oSt) : oF κ T (n + 1) 137 [va_rf x0, .int x1] σ = ob_X7_readCall T (oF κ T n) κ x0 x1 σ := by
  rw [oF_at (f := od_X7_readCall) rfl]
  show (od_X7_readCall T (oF κ T n) κ [va_rf x0, .int x1] σ) = _
  unfold od_X7_readCall
  simp only [oun_rf, obn]
theorem oE_X7_readFunction (κ : oKv) (T n : Nat) (x0 : Option Nat) (x1 : Option Nat) (x2 : Int32) (σ : oSt) : oF κ T (n + 1) 138 [va_rf x0, va_rf x1, .int x2] σ = ob_X7_readFunction T (oF κ T n) κ x0 x1 x2 σ := by
  rw [oF_at (f := od_X7_readFunction) rfl]
  show (od_X7_readFunction T (oF κ T n) κ [va_rf x0, va_rf x1, .int x2] σ) = _
  unfold od_X7_readFunction
  simp only [oun_rf, obn]
theorem oE_X7_readIf (κ : oKv) (T n : Nat) (x0 : Option Nat) (x1 : Option Nat) (x2 : Int32) (σ : oSt) : oF κ T (n + 1) 139 [va_rf x0, va_rf x1, .int x2] σ = ob_X7_readIf T (oF κ T n) κ x0 x1 x2 σ := by
  rw [oF_at (f := od_X7_readIf) rfl]
  show (od_X7_readIf T (oF κ T n) κ [va_rf x0, va_rf x1, .int x2] σ) = _
  unfold od_X7_readIf
  simp only [oun_rf, obn]
theorem oE_X7_readLet (κ : oKv) (T n : Nat) (x0 : Option Nat) (x1 : Option Nat) (x2 : Int32) (σ : oSt) : oF κ T (n + 1) 140 [va_rf x0, va_rf x1, .int x2] σ = ob_X7_readLet T (oF κ T n) κ x0 x1 x2 σ := by
  rw [oF_at (f := od_X7_readLet) rfl]
  show (od_X7_readLet T (oF κ T n) κ [va_rf x0, va_rf x1, .int x2] σ) = _
  unfold od_X7_readLet
  simp only [oun_rf, obn]
theorem oE_X7_readMatch (κ : oKv) (T n : Nat) (x0 : Option Nat) (x1 : Option Nat) (x2 : Int32) (σ : oSt) : oF κ T (n + 1) 141 [va_rf x0, va_rf x1, .int x2] σ = ob_X7_readMatch T (oF κ T n) κ x0 x1 x2 σ := by
  rw [oF_at (f := od_X7_readMatch) rfl]
  show (od_X7_readMatch T (oF κ T n) κ [va_rf x0, va_rf x1, .int x2] σ) = _
  unfold od_X7_readMatch
  simp only [oun_rf, obn]
theorem oE_X7_readOpen (κ : oKv) (T n : Nat) (x0 : Option Nat) (x1 : Int32) (σ : oSt) : oF κ T (n + 1) 142 [va_rf x0, .int x1] σ = ob_X7_readOpen T (oF κ T n) κ x0 x1 σ := by
  rw [oF_at (f := od_X7_readOpen) rfl]
  show (od_X7_readOpen T (oF κ T n) κ [va_rf x0, .int x1] σ) = _
  unfold od_X7_readOpen
  simp only [oun_rf, obn]
theorem oE_X7_readRec (κ : oKv) (T n : Nat) (x0 : Option Nat) (x1 : Option Nat) (x2 : Int32) (σ : oSt) : oF κ T (n + 1) 143 [va_rf x0, va_rf x1, .int x2] σ = ob_X7_readRec T (oF κ T n) κ x0 x1 x2 σ := by
  rw [oF_at (f := od_X7_readRec) rfl]
  show (od_X7_readRec T (oF κ T n) κ [va_rf x0, va_rf x1, .int x2] σ) = _
  unfold od_X7_readRec
  simp only [oun_rf, obn]
theorem oE_X7_readSet (κ : oKv) (T n : Nat) (x0 : Option Nat) (x1 : Option Nat) (x2 : Int32) (σ : oSt) : oF κ T (n + 1) 144 [va_rf x0, va_rf x1, .int x2] σ = ob_X7_readSet T (oF κ T n) κ x0 x1 x2 σ := by
  rw [oF_at (f := od_X7_readSet) rfl]
  show (od_X7_readSet T (oF κ T n) κ [va_rf x0, va_rf x1, .int x2] σ) = _
  unfold od_X7_readSet
  simp only [oun_rf, obn]
theorem oE_X7_readProgram (κ : oKv) (T n : Nat) (x0 : Option Nat) (σ : oSt) : oF κ T (n + 1) 145 [va_rf x0] σ = ob_X7_readProgram T (oF κ T n) κ x0 σ := by
  rw [oF_at (f := od_X7_readProgram) rfl]
  show (od_X7_readProgram T (oF κ T n) κ [va_rf x0] σ) = _
  unfold od_X7_readProgram
  simp only [oun_rf, obn]
theorem oE_X10_make (κ : oKv) (T n : Nat) (x0 : Option Nat) (x1 : Int32) (σ : oSt) : oF κ T (n + 1) 146 [va_rf x0, .int x1] σ = ob_X10_make T (oF κ T n) κ x0 x1 σ := by
  rw [oF_at (f := od_X10_make) rfl]
  show (od_X10_make T (oF κ T n) κ [va_rf x0, .int x1] σ) = _
  unfold od_X10_make
  simp only [oun_rf, obn]
theorem oE_X10_init (κ : oKv) (T n : Nat) (x0 : Option Nat) (x1 : Int32) (σ : oSt) : oF κ T (n + 1) 147 [va_rf x0, .int x1] σ = ob_X10_init T (oF κ T n) κ x0 x1 σ := by
  rw [oF_at (f := od_X10_init) rfl]
  show (od_X10_init T (oF κ T n) κ [va_rf x0, .int x1] σ) = _
  unfold od_X10_init
  simp only [oun_rf, obn]
theorem oE_X10_basic (κ : oKv) (T n : Nat) (x0 : Int32) (σ : oSt) : oF κ T (n + 1) 148 [.int x0] σ = ob_X10_basic T (oF κ T n) κ x0 σ := by
  rw [oF_at (f := od_X10_basic) rfl]
  show (od_X10_basic T (oF κ T n) κ [.int x0] σ) = _
  unfold od_X10_basic
  rfl
theorem oE_X10_function (κ : oKv) (T n : Nat) (x0 : Option Nat) (x1 : Int32) (x2 : Int32) (σ : oSt) : oF κ T (n + 1) 149 [va_rf x0, .int x1, .int x2] σ = ob_X10_function T (oF κ T n) κ x0 x1 x2 σ := by
  rw [oF_at (f := od_X10_function) rfl]
  show (od_X10_function T (oF κ T n) κ [va_rf x0, .int x1, .int x2] σ) = _
  unfold od_X10_function
  simp only [oun_rf, obn]
theorem oE_X10_unify (κ : oKv) (T n : Nat) (x0 : Option Nat) (x1 : Int32) (x2 : Int32) (σ : oSt) : oF κ T (n + 1) 150 [va_rf x0, .int x1, .int x2] σ = ob_X10_unify T (oF κ T n) κ x0 x1 x2 σ := by
  rw [oF_at (f := od_X10_unify) rfl]
  show (od_X10_unify T (oF κ T n) κ [va_rf x0, .int x1, .int x2] σ) = _
  unfold od_X10_unify
  simp only [oun_rf, obn]
theorem oE_X10_isFinite (κ : oKv) (T n : Nat) (x0 : Option Nat) (x1 : Int32) (σ : oSt) : oF κ T (n + 1) 151 [va_rf x0, .int x1] σ = ob_X10_isFinite T (oF κ T n) κ x0 x1 σ := by
  rw [oF_at (f := od_X10_isFinite) rfl]
  show (od_X10_isFinite T (oF κ T n) κ [va_rf x0, .int x1] σ) = _
  unfold od_X10_isFinite
  simp only [oun_rf, obn]
theorem oE_X10_must (κ : oKv) (T n : Nat) (x0 : Option Nat) (x1 : Int32) (x2 : Int32) (x3 : Int32) (σ : oSt) : oF κ T (n + 1) 152 [va_rf x0, .int x1, .int x2, .int x3] σ = ob_X10_must T (oF κ T n) κ x0 x1 x2 x3 σ := by
  rw [oF_at (f := od_X10_must) rfl]
  show (od_X10_must T (oF κ T n) κ [va_rf x0, .int x1, .int x2, .int x3] σ) = _
  unfold od_X10_must
  simp only [oun_rf, obn]
theorem oE_X10_checkSum (κ : oKv) (T n : Nat) (x0 : Option Nat) (x1 : Option Nat) (σ : oSt) : oF κ T (n + 1) 153 [va_rf x0, va_rf x1] σ = ob_X10_checkSum T (oF κ T n) κ x0 x1 σ := by
  rw [oF_at (f := od_X10_checkSum) rfl]
  show (od_X10_checkSum T (oF κ T n) κ [va_rf x0, va_rf x1] σ) = _
  unfold od_X10_checkSum
  simp only [oun_rf, obn]
theorem oE_X10_checkTest (κ : oKv) (T n : Nat) (x0 : Option Nat) (x1 : Option Nat) (σ : oSt) : oF κ T (n + 1) 154 [va_rf x0, va_rf x1] σ = ob_X10_checkTest T (oF κ T n) κ x0 x1 σ := by
  rw [oF_at (f := od_X10_checkTest) rfl]
  show (od_X10_checkTest T (oF κ T n) κ [va_rf x0, va_rf x1] σ) = _
  unfold od_X10_checkTest
  simp only [oun_rf, obn]
theorem oE_X10_inferPlain (κ : oKv) (T n : Nat) (x0 : Option Nat) (x1 : Option Nat) (σ : oSt) : oF κ T (n + 1) 155 [va_rf x0, va_rf x1] σ = ob_X10_inferPlain T (oF κ T n) κ x0 x1 σ := by
  rw [oF_at (f := od_X10_inferPlain) rfl]
  show (od_X10_inferPlain T (oF κ T n) κ [va_rf x0, va_rf x1] σ) = _
  unfold od_X10_inferPlain
  simp only [oun_rf, obn]
theorem oE_X10_infer (κ : oKv) (T n : Nat) (x0 : Option Nat) (x1 : Option Nat) (σ : oSt) : oF κ T (n + 1) 156 [va_rf x0, va_rf x1] σ = ob_X10_infer T (oF κ T n) κ x0 x1 σ := by
  rw [oF_at (f := od_X10_infer) rfl]
  show (od_X10_infer T (oF κ T n) κ [va_rf x0, va_rf x1] σ) = _
  unfold od_X10_infer
  simp only [oun_rf, obn]
theorem oE_X10_inferCall (κ : oKv) (T n : Nat) (x0 : Option Nat) (x1 : Option Nat) (σ : oSt) : oF κ T (n + 1) 157 [va_rf x0, va_rf x1] σ = ob_X10_inferCall T (oF κ T n) κ x0 x1 σ := by
  rw [oF_at (f := od_X10_inferCall) rfl]
  show (od_X10_inferCall T (oF κ T n) κ [va_rf x0, va_rf x1] σ) = _
  unfold od_X10_inferCall
  simp only [oun_rf, obn]
theorem oE_X10_inferMatch (κ : oKv) (T n : Nat) (x0 : Option Nat) (x1 : Option Nat) (σ : oSt) : oF κ T (n + 1) 158 [va_rf x0, va_rf x1] σ = ob_X10_inferMatch T (oF κ T n) κ x0 x1 σ := by
  rw [oF_at (f := od_X10_inferMatch) rfl]
  show (od_X10_inferMatch T (oF κ T n) κ [va_rf x0, va_rf x1] σ) = _
  unfold od_X10_inferMatch
  simp only [oun_rf, obn]
theorem oE_X10_inferRec (κ : oKv) (T n : Nat) (x0 : Option Nat) (x1 : Option Nat) (σ : oSt) : oF κ T (n + 1) 159 [va_rf x0, va_rf x1] σ = ob_X10_inferRec T (oF κ T n) κ x0 x1 σ := by
  rw [oF_at (f := od_X10_inferRec) rfl]
  show (od_X10_inferRec T (oF κ T n) κ [va_rf x0, va_rf x1] σ) = _
  unfold od_X10_inferRec
  simp only [oun_rf, obn]
theorem oE_X10_leavesOf (κ : oKv) (T n : Nat) (x0 : Option Nat) (x1 : Int32) (σ : oSt) : oF κ T (n + 1) 160 [va_rf x0, .int x1] σ = ob_X10_leavesOf T (oF κ T n) κ x0 x1 σ := by
  rw [oF_at (f := od_X10_leavesOf) rfl]
  show (od_X10_leavesOf T (oF κ T n) κ [va_rf x0, .int x1] σ) = _
  unfold od_X10_leavesOf
  simp only [oun_rf, obn]
theorem oE_X10_countTemplates (κ : oKv) (T n : Nat) (x0 : Option Nat) (x1 : Option Nat) (σ : oSt) : oF κ T (n + 1) 161 [va_rf x0, va_rf x1] σ = ob_X10_countTemplates T (oF κ T n) κ x0 x1 σ := by
  rw [oF_at (f := od_X10_countTemplates) rfl]
  show (od_X10_countTemplates T (oF κ T n) κ [va_rf x0, va_rf x1] σ) = _
  unfold od_X10_countTemplates
  simp only [oun_rf, obn]
theorem oE_X10_findAll (κ : oKv) (T n : Nat) (x0 : Option Nat) (x1 : Option Nat) (σ : oSt) : oF κ T (n + 1) 162 [va_rf x0, va_rf x1] σ = ob_X10_findAll T (oF κ T n) κ x0 x1 σ := by
  rw [oF_at (f := od_X10_findAll) rfl]
  show (od_X10_findAll T (oF κ T n) κ [va_rf x0, va_rf x1] σ) = _
  unfold od_X10_findAll
  simp only [oun_rf, obn]
theorem oE_X11_isLetter (κ : oKv) (T n : Nat) (x0 : Int32) (σ : oSt) : oF κ T (n + 1) 163 [.int x0] σ = ob_X11_isLetter T (oF κ T n) κ x0 σ := by
  rw [oF_at (f := od_X11_isLetter) rfl]
  show (od_X11_isLetter T (oF κ T n) κ [.int x0] σ) = _
  unfold od_X11_isLetter
  rfl
theorem oE_X11_isDigit (κ : oKv) (T n : Nat) (x0 : Int32) (σ : oSt) : oF κ T (n + 1) 164 [.int x0] σ = ob_X11_isDigit T (oF κ T n) κ x0 σ := by
  rw [oF_at (f := od_X11_isDigit) rfl]
  show (od_X11_isDigit T (oF κ T n) κ [.int x0] σ) = _
  unfold od_X11_isDigit
  rfl
theorem oE_X11_continues (κ : oKv) (T n : Nat) (x0 : Int32) (x1 : Int32) (σ : oSt) : oF κ T (n + 1) 165 [.int x0, .int x1] σ = ob_X11_continues T (oF κ T n) κ x0 x1 σ := by
  rw [oF_at (f := od_X11_continues) rfl]
  show (od_X11_continues T (oF κ T n) κ [.int x0, .int x1] σ) = _
  unfold od_X11_continues
  rfl
theorem oE_X11_doubleSign (κ : oKv) (T n : Nat) (x0 : Option Nat) (x1 : Int32) (σ : oSt) : oF κ T (n + 1) 166 [va_rf x0, .int x1] σ = ob_X11_doubleSign T (oF κ T n) κ x0 x1 σ := by
  rw [oF_at (f := od_X11_doubleSign) rfl]
  show (od_X11_doubleSign T (oF κ T n) κ [va_rf x0, .int x1] σ) = _
  unfold od_X11_doubleSign
  simp only [oun_rf, obn]
theorem oE_X11_endOfWord (κ : oKv) (T n : Nat) (x0 : Option Nat) (x1 : Int32) (σ : oSt) : oF κ T (n + 1) 167 [va_rf x0, .int x1] σ = ob_X11_endOfWord T (oF κ T n) κ x0 x1 σ := by
  rw [oF_at (f := od_X11_endOfWord) rfl]
  show (od_X11_endOfWord T (oF κ T n) κ [va_rf x0, .int x1] σ) = _
  unfold od_X11_endOfWord
  simp only [oun_rf, obn]
theorem oE_X11_sameLetters (κ : oKv) (T n : Nat) (x0 : Option Nat) (x1 : Int32) (x2 : Int32) (x3 : Int32) (σ : oSt) : oF κ T (n + 1) 168 [va_rf x0, .int x1, .int x2, .int x3] σ = ob_X11_sameLetters T (oF κ T n) κ x0 x1 x2 x3 σ := by
  rw [oF_at (f := od_X11_sameLetters) rfl]
  show (od_X11_sameLetters T (oF κ T n) κ [va_rf x0, .int x1, .int x2, .int x3] σ) = _
  unfold od_X11_sameLetters
  simp only [oun_rf, obn]
theorem oE_X11_keyword (κ : oKv) (T n : Nat) (x0 : Option Nat) (x1 : Int32) (x2 : Int32) (σ : oSt) : oF κ T (n + 1) 169 [va_rf x0, .int x1, .int x2] σ = ob_X11_keyword T (oF κ T n) κ x0 x1 x2 σ := by
  rw [oF_at (f := od_X11_keyword) rfl]
  show (od_X11_keyword T (oF κ T n) κ [va_rf x0, .int x1, .int x2] σ) = _
  unfold od_X11_keyword
  simp only [oun_rf, obn]
theorem oE_X11_add (κ : oKv) (T n : Nat) (x0 : Option Nat) (x1 : Int32) (x2 : Int32) (σ : oSt) : oF κ T (n + 1) 170 [va_rf x0, .int x1, .int x2] σ = ob_X11_add T (oF κ T n) κ x0 x1 x2 σ := by
  rw [oF_at (f := od_X11_add) rfl]
  show (od_X11_add T (oF κ T n) κ [va_rf x0, .int x1, .int x2] σ) = _
  unfold od_X11_add
  simp only [oun_rf, obn]
theorem oE_X11_split (κ : oKv) (T n : Nat) (x0 : Option Nat) (σ : oSt) : oF κ T (n + 1) 171 [va_rf x0] σ = ob_X11_split T (oF κ T n) κ x0 σ := by
  rw [oF_at (f := od_X11_split) rfl]
  show (od_X11_split T (oF κ T n) κ [va_rf x0] σ) = _
  unfold od_X11_split
  simp only [oun_rf, obn]
theorem oE_X11_init (κ : oKv) (T n : Nat) (x0 : Option Nat) (x1 : Option Nat) (σ : oSt) : oF κ T (n + 1) 172 [va_rf x0, va_rf x1] σ = ob_X11_init T (oF κ T n) κ x0 x1 σ := by
  rw [oF_at (f := od_X11_init) rfl]
  show (od_X11_init T (oF κ T n) κ [va_rf x0, va_rf x1] σ) = _
  unfold od_X11_init
  simp only [oun_rf, obn]
theorem oE_X12_init (κ : oKv) (T n : Nat) (x0 : Option Nat) (σ : oSt) : oF κ T (n + 1) 173 [va_rf x0] σ = ob_X12_init T (oF κ T n) κ x0 σ := by
  rw [oF_at (f := od_X12_init) rfl]
  show (od_X12_init T (oF κ T n) κ [va_rf x0] σ) = _
  unfold od_X12_init
  simp only [oun_rf, obn]
theorem oE_X12_lay (κ : oKv) (T n : Nat) (x0 : Option Nat) (x1 : Int32) (σ : oSt) : oF κ T (n + 1) 174 [va_rf x0, .int x1] σ = ob_X12_lay T (oF κ T n) κ x0 x1 σ := by
  rw [oF_at (f := od_X12_lay) rfl]
  show (od_X12_lay T (oF κ T n) κ [va_rf x0, .int x1] σ) = _
  unfold od_X12_lay
  simp only [oun_rf, obn]
theorem oE_X12_feed (κ : oKv) (T n : Nat) (x0 : Option Nat) (x1 : Int32) (x2 : Int32) (x3 : Int32) (x4 : Int32) (x5 : Int32) (σ : oSt) : oF κ T (n + 1) 175 [va_rf x0, .int x1, .int x2, .int x3, .int x4, .int x5] σ = ob_X12_feed T (oF κ T n) κ x0 x1 x2 x3 x4 x5 σ := by
  rw [oF_at (f := od_X12_feed) rfl]
  show (od_X12_feed T (oF κ T n) κ [va_rf x0, .int x1, .int x2, .int x3, .int x4, .int x5] σ) = _
  unfold od_X12_feed
  simp only [oun_rf, obn]
theorem oE_X12_end (κ : oKv) (T n : Nat) (x0 : Option Nat) (x1 : Int32) (σ : oSt) : oF κ T (n + 1) 176 [va_rf x0, .int x1] σ = ob_X12_end T (oF κ T n) κ x0 x1 σ := by
  rw [oF_at (f := od_X12_end) rfl]
  show (od_X12_end T (oF κ T n) κ [va_rf x0, .int x1] σ) = _
  unfold od_X12_end
  simp only [oun_rf, obn]
theorem oE_X12_fault (κ : oKv) (T n : Nat) (x0 : Option Nat) (x1 : Int32) (x2 : Int32) (σ : oSt) : oF κ T (n + 1) 177 [va_rf x0, .int x1, .int x2] σ = ob_X12_fault T (oF κ T n) κ x0 x1 x2 σ := by
  rw [oF_at (f := od_X12_fault) rfl]
  show (od_X12_fault T (oF κ T n) κ [va_rf x0, .int x1, .int x2] σ) = _
  unfold od_X12_fault
  simp only [oun_rf, obn]
theorem oE_X12_compile (κ : oKv) (T n : Nat) (x0 : Option Nat) (σ : oSt) : oF κ T (n + 1) 178 [va_rf x0] σ = ob_X12_compile T (oF κ T n) κ x0 σ := by
  rw [oF_at (f := od_X12_compile) rfl]
  show (od_X12_compile T (oF κ T n) κ [va_rf x0] σ) = _
  unfold od_X12_compile
  simp only [oun_rf, obn]
theorem oE_X12_accepted (κ : oKv) (T n : Nat) (x0 : Option Nat) (σ : oSt) : oF κ T (n + 1) 179 [va_rf x0] σ = ob_X12_accepted T (oF κ T n) κ x0 σ := by
  rw [oF_at (f := od_X12_accepted) rfl]
  show (od_X12_accepted T (oF κ T n) κ [va_rf x0] σ) = _
  unfold od_X12_accepted
  simp only [oun_rf, obn]
theorem oE_X12_place (κ : oKv) (T n : Nat) (x0 : Option Nat) (σ : oSt) : oF κ T (n + 1) 180 [va_rf x0] σ = ob_X12_place T (oF κ T n) κ x0 σ := by
  rw [oF_at (f := od_X12_place) rfl]
  show (od_X12_place T (oF κ T n) κ [va_rf x0] σ) = _
  unfold od_X12_place
  simp only [oun_rf, obn]
theorem oE_X12_put_ (κ : oKv) (T n : Nat) (x0 : Option Nat) (x1 : Int32) (σ : oSt) : oF κ T (n + 1) 181 [va_rf x0, .int x1] σ = ob_X12_put_ T (oF κ T n) κ x0 x1 σ := by
  rw [oF_at (f := od_X12_put_) rfl]
  show (od_X12_put_ T (oF κ T n) κ [va_rf x0, .int x1] σ) = _
  unfold od_X12_put_
  simp only [oun_rf, obn]
theorem oE_X12_put (κ : oKv) (T n : Nat) (x0 : Option Nat) (x1 : Option Nat) (σ : oSt) : oF κ T (n + 1) 182 [va_rf x0, va_rf x1] σ = ob_X12_put T (oF κ T n) κ x0 x1 σ := by
  rw [oF_at (f := od_X12_put) rfl]
  show (od_X12_put T (oF κ T n) κ [va_rf x0, va_rf x1] σ) = _
  unfold od_X12_put
  simp only [oun_rf, obn]
theorem oE_X12_tellNumber (κ : oKv) (T n : Nat) (x0 : Option Nat) (x1 : Int64) (σ : oSt) : oF κ T (n + 1) 183 [va_rf x0, .long x1] σ = ob_X12_tellNumber T (oF κ T n) κ x0 x1 σ := by
  rw [oF_at (f := od_X12_tellNumber) rfl]
  show (od_X12_tellNumber T (oF κ T n) κ [va_rf x0, .long x1] σ) = _
  unfold od_X12_tellNumber
  simp only [oun_rf, obn]
theorem oE_X12_tellName (κ : oKv) (T n : Nat) (x0 : Option Nat) (x1 : Option Nat) (σ : oSt) : oF κ T (n + 1) 184 [va_rf x0, va_rf x1] σ = ob_X12_tellName T (oF κ T n) κ x0 x1 σ := by
  rw [oF_at (f := od_X12_tellName) rfl]
  show (od_X12_tellName T (oF κ T n) κ [va_rf x0, va_rf x1] σ) = _
  unfold od_X12_tellName
  simp only [oun_rf, obn]
theorem oE_X12_tellRelation (κ : oKv) (T n : Nat) (x0 : Option Nat) (x1 : Int32) (σ : oSt) : oF κ T (n + 1) 185 [va_rf x0, .int x1] σ = ob_X12_tellRelation T (oF κ T n) κ x0 x1 σ := by
  rw [oF_at (f := od_X12_tellRelation) rfl]
  show (od_X12_tellRelation T (oF κ T n) κ [va_rf x0, .int x1] σ) = _
  unfold od_X12_tellRelation
  simp only [oun_rf, obn]
theorem oE_X12_tellTerm (κ : oKv) (T n : Nat) (x0 : Option Nat) (x1 : Option Nat) (σ : oSt) : oF κ T (n + 1) 186 [va_rf x0, va_rf x1] σ = ob_X12_tellTerm T (oF κ T n) κ x0 x1 σ := by
  rw [oF_at (f := od_X12_tellTerm) rfl]
  show (od_X12_tellTerm T (oF κ T n) κ [va_rf x0, va_rf x1] σ) = _
  unfold od_X12_tellTerm
  simp only [oun_rf, obn]
theorem oE_X12_tellLeaf (κ : oKv) (T n : Nat) (x0 : Option Nat) (x1 : Option Nat) (σ : oSt) : oF κ T (n + 1) 187 [va_rf x0, va_rf x1] σ = ob_X12_tellLeaf T (oF κ T n) κ x0 x1 σ := by
  rw [oF_at (f := od_X12_tellLeaf) rfl]
  show (od_X12_tellLeaf T (oF κ T n) κ [va_rf x0, va_rf x1] σ) = _
  unfold od_X12_tellLeaf
  simp only [oun_rf, obn]
theorem oE_X12_tell (κ : oKv) (T n : Nat) (x0 : Option Nat) (x1 : Option Nat) (x2 : Int32) (σ : oSt) : oF κ T (n + 1) 188 [va_rf x0, va_rf x1, .int x2] σ = ob_X12_tell T (oF κ T n) κ x0 x1 x2 σ := by
  rw [oF_at (f := od_X12_tell) rfl]
  show (od_X12_tell T (oF κ T n) κ [va_rf x0, va_rf x1, .int x2] σ) = _
  unfold od_X12_tell
  simp only [oun_rf, obn]
theorem oE_X12_type (κ : oKv) (T n : Nat) (x0 : Option Nat) (x1 : Int32) (σ : oSt) : oF κ T (n + 1) 189 [va_rf x0, .int x1] σ = ob_X12_type T (oF κ T n) κ x0 x1 σ := by
  rw [oF_at (f := od_X12_type) rfl]
  show (od_X12_type T (oF κ T n) κ [va_rf x0, .int x1] σ) = _
  unfold od_X12_type
  simp only [oun_rf, obn]
theorem oE_X12_out (κ : oKv) (T n : Nat) (x0 : Option Nat) (x1 : Int32) (σ : oSt) : oF κ T (n + 1) 190 [va_rf x0, .int x1] σ = ob_X12_out T (oF κ T n) κ x0 x1 σ := by
  rw [oF_at (f := od_X12_out) rfl]
  show (od_X12_out T (oF κ T n) κ [va_rf x0, .int x1] σ) = _
  unfold od_X12_out
  simp only [oun_rf, obn]
theorem oE_X12_give (κ : oKv) (T n : Nat) (x0 : Option Nat) (x1 : Int32) (x2 : Int32) (σ : oSt) : oF κ T (n + 1) 191 [va_rf x0, .int x1, .int x2] σ = ob_X12_give T (oF κ T n) κ x0 x1 x2 σ := by
  rw [oF_at (f := od_X12_give) rfl]
  show (od_X12_give T (oF κ T n) κ [va_rf x0, .int x1, .int x2] σ) = _
  unfold od_X12_give
  simp only [oun_rf, obn]
theorem oE_X12_element (κ : oKv) (T n : Nat) (x0 : Option Nat) (x1 : Int32) (x2 : Int32) (x3 : Int32) (σ : oSt) : oF κ T (n + 1) 192 [va_rf x0, .int x1, .int x2, .int x3] σ = ob_X12_element T (oF κ T n) κ x0 x1 x2 x3 σ := by
  rw [oF_at (f := od_X12_element) rfl]
  show (od_X12_element T (oF κ T n) κ [va_rf x0, .int x1, .int x2, .int x3] σ) = _
  unfold od_X12_element
  simp only [oun_rf, obn]
theorem oE_X12_run (κ : oKv) (T n : Nat) (x0 : Option Nat) (x1 : Int32) (σ : oSt) : oF κ T (n + 1) 193 [va_rf x0, .int x1] σ = ob_X12_run T (oF κ T n) κ x0 x1 σ := by
  rw [oF_at (f := od_X12_run) rfl]
  show (od_X12_run T (oF κ T n) κ [va_rf x0, .int x1] σ) = _
  unfold od_X12_run
  simp only [oun_rf, obn]
theorem oE_X12_value (κ : oKv) (T n : Nat) (x0 : Option Nat) (σ : oSt) : oF κ T (n + 1) 194 [va_rf x0] σ = ob_X12_value T (oF κ T n) κ x0 σ := by
  rw [oF_at (f := od_X12_value) rfl]
  show (od_X12_value T (oF κ T n) κ [va_rf x0] σ) = _
  unfold od_X12_value
  simp only [oun_rf, obn]
theorem oE_X12_fuel (κ : oKv) (T n : Nat) (x0 : Option Nat) (σ : oSt) : oF κ T (n + 1) 195 [va_rf x0] σ = ob_X12_fuel T (oF κ T n) κ x0 σ := by
  rw [oF_at (f := od_X12_fuel) rfl]
  show (od_X12_fuel T (oF κ T n) κ [va_rf x0] σ) = _
  unfold od_X12_fuel
  simp only [oun_rf, obn]
theorem oE_J0_init_905df (κ : oKv) (T n : Nat) (x0 : Option Nat) (x1 : Option Nat) (σ : oSt) : oF κ T (n + 1) 196 [va_rf x0, va_rf x1] σ = ob_J0_init_905df T (oF κ T n) κ x0 x1 σ := by
  rw [oF_at (f := od_J0_init_905df) rfl]
  show (od_J0_init_905df T (oF κ T n) κ [va_rf x0, va_rf x1] σ) = _
  unfold od_J0_init_905df
  simp only [oun_rf, obn]
theorem oE_J0_init_bb550 (κ : oKv) (T n : Nat) (x0 : Option Nat) (x1 : Option Nat) (x2 : Int32) (x3 : Int32) (x4 : Option Nat) (σ : oSt) : oF κ T (n + 1) 197 [va_rf x0, va_rf x1, .int x2, .int x3, va_rf x4] σ = ob_J0_init_bb550 T (oF κ T n) κ x0 x1 x2 x3 x4 σ := by
  rw [oF_at (f := od_J0_init_bb550) rfl]
  show (od_J0_init_bb550 T (oF κ T n) κ [va_rf x0, va_rf x1, .int x2, .int x3, va_rf x4] σ) = _
  unfold od_J0_init_bb550
  simp only [oun_rf, obn]
theorem oE_J2_compress_dfd3c (κ : oKv) (T n : Nat) (x0 : Option Nat) (x1 : Int32) (x2 : Int32) (σ : oSt) : oF κ T (n + 1) 198 [va_rf x0, .int x1, .int x2] σ = ob_J2_compress_dfd3c T (oF κ T n) κ x0 x1 x2 σ := by
  rw [oF_at (f := od_J2_compress_dfd3c) rfl]
  show (od_J2_compress_dfd3c T (oF κ T n) κ [va_rf x0, .int x1, .int x2] σ) = _
  unfold od_J2_compress_dfd3c
  simp only [oun_rf, obn]
theorem oE_J2_compress_fe38e (κ : oKv) (T n : Nat) (x0 : Option Nat) (x1 : Int32) (x2 : Option Nat) (x3 : Int32) (x4 : Int32) (σ : oSt) : oF κ T (n + 1) 199 [va_rf x0, .int x1, va_rf x2, .int x3, .int x4] σ = ob_J2_compress_fe38e T (oF κ T n) κ x0 x1 x2 x3 x4 σ := by
  rw [oF_at (f := od_J2_compress_fe38e) rfl]
  show (od_J2_compress_fe38e T (oF κ T n) κ [va_rf x0, .int x1, va_rf x2, .int x3, .int x4] σ) = _
  unfold od_J2_compress_fe38e
  simp only [oun_rf, obn]
theorem oE_J2_coderFromArrayLen_85cad (κ : oKv) (T n : Nat) (x0 : Option Nat) (x1 : Int32) (σ : oSt) : oF κ T (n + 1) 200 [va_rf x0, .int x1] σ = ob_J2_coderFromArrayLen_85cad T (oF κ T n) κ x0 x1 σ := by
  rw [oF_at (f := od_J2_coderFromArrayLen_85cad) rfl]
  show (od_J2_coderFromArrayLen_85cad T (oF κ T n) κ [va_rf x0, .int x1] σ) = _
  unfold od_J2_coderFromArrayLen_85cad
  simp only [oun_rf, obn]
theorem oE_J0_charAt_5068e (κ : oKv) (T n : Nat) (x0 : Option Nat) (x1 : Int32) (σ : oSt) : oF κ T (n + 1) 201 [va_rf x0, .int x1] σ = ob_J0_charAt_5068e T (oF κ T n) κ x0 x1 σ := by
  rw [oF_at (f := od_J0_charAt_5068e) rfl]
  show (od_J0_charAt_5068e T (oF κ T n) κ [va_rf x0, .int x1] σ) = _
  unfold od_J0_charAt_5068e
  simp only [oun_rf, obn]
theorem oE_J0_isLatin1_aae02 (κ : oKv) (T n : Nat) (x0 : Option Nat) (σ : oSt) : oF κ T (n + 1) 202 [va_rf x0] σ = ob_J0_isLatin1_aae02 T (oF κ T n) κ x0 σ := by
  rw [oF_at (f := od_J0_isLatin1_aae02) rfl]
  show (od_J0_isLatin1_aae02 T (oF κ T n) κ [va_rf x0] σ) = _
  unfold od_J0_isLatin1_aae02
  simp only [oun_rf, obn]
theorem oE_J1_charAt_3b067 (κ : oKv) (T n : Nat) (x0 : Option Nat) (x1 : Int32) (σ : oSt) : oF κ T (n + 1) 203 [va_rf x0, .int x1] σ = ob_J1_charAt_3b067 T (oF κ T n) κ x0 x1 σ := by
  rw [oF_at (f := od_J1_charAt_3b067) rfl]
  show (od_J1_charAt_3b067 T (oF κ T n) κ [va_rf x0, .int x1] σ) = _
  unfold od_J1_charAt_3b067
  simp only [oun_rf, obn]
theorem oE_J0_checkIndex_df160 (κ : oKv) (T n : Nat) (x0 : Int32) (x1 : Int32) (σ : oSt) : oF κ T (n + 1) 204 [.int x0, .int x1] σ = ob_J0_checkIndex_df160 T (oF κ T n) κ x0 x1 σ := by
  rw [oF_at (f := od_J0_checkIndex_df160) rfl]
  show (od_J0_checkIndex_df160 T (oF κ T n) κ [.int x0, .int x1] σ) = _
  unfold od_J0_checkIndex_df160
  rfl
theorem oE_J15_checkIndex_7cf53 (κ : oKv) (T n : Nat) (x0 : Int32) (x1 : Int32) (σ : oSt) : oF κ T (n + 1) 205 [.int x0, .int x1] σ = ob_J15_checkIndex_7cf53 T (oF κ T n) κ x0 x1 σ := by
  rw [oF_at (f := od_J15_checkIndex_7cf53) rfl]
  show (od_J15_checkIndex_7cf53 T (oF κ T n) κ [.int x0, .int x1] σ) = _
  unfold od_J15_checkIndex_7cf53
  rfl
theorem oE_J3_checkIndex_8e157 (κ : oKv) (T n : Nat) (x0 : Int32) (x1 : Int32) (x2 : Option Nat) (σ : oSt) : oF κ T (n + 1) 206 [.int x0, .int x1, va_rf x2] σ = ob_J3_checkIndex_8e157 T (oF κ T n) κ x0 x1 x2 σ := by
  rw [oF_at (f := od_J3_checkIndex_8e157) rfl]
  show (od_J3_checkIndex_8e157 T (oF κ T n) κ [.int x0, .int x1, va_rf x2] σ) = _
  unfold od_J3_checkIndex_8e157
  simp only [oun_rf, obn]
theorem oE_J0_length_8abf5 (κ : oKv) (T n : Nat) (x0 : Option Nat) (σ : oSt) : oF κ T (n + 1) 207 [va_rf x0] σ = ob_J0_length_8abf5 T (oF κ T n) κ x0 σ := by
  rw [oF_at (f := od_J0_length_8abf5) rfl]
  show (od_J0_length_8abf5 T (oF κ T n) κ [va_rf x0] σ) = _
  unfold od_J0_length_8abf5
  simp only [oun_rf, obn]
theorem oE_J0_coder_7d493 (κ : oKv) (T n : Nat) (x0 : Option Nat) (σ : oSt) : oF κ T (n + 1) 208 [va_rf x0] σ = ob_J0_coder_7d493 T (oF κ T n) κ x0 σ := by
  rw [oF_at (f := od_J0_coder_7d493) rfl]
  show (od_J0_coder_7d493 T (oF κ T n) κ [va_rf x0] σ) = _
  unfold od_J0_coder_7d493
  simp only [oun_rf, obn]
theorem oE_J0_substring_37a41 (κ : oKv) (T n : Nat) (x0 : Option Nat) (x1 : Int32) (x2 : Int32) (σ : oSt) : oF κ T (n + 1) 209 [va_rf x0, .int x1, .int x2] σ = ob_J0_substring_37a41 T (oF κ T n) κ x0 x1 x2 σ := by
  rw [oF_at (f := od_J0_substring_37a41) rfl]
  show (od_J0_substring_37a41 T (oF κ T n) κ [va_rf x0, .int x1, .int x2] σ) = _
  unfold od_J0_substring_37a41
  simp only [oun_rf, obn]
theorem oE_J0_checkBoundsBeginEnd_23922 (κ : oKv) (T n : Nat) (x0 : Int32) (x1 : Int32) (x2 : Int32) (σ : oSt) : oF κ T (n + 1) 210 [.int x0, .int x1, .int x2] σ = ob_J0_checkBoundsBeginEnd_23922 T (oF κ T n) κ x0 x1 x2 σ := by
  rw [oF_at (f := od_J0_checkBoundsBeginEnd_23922) rfl]
  show (od_J0_checkBoundsBeginEnd_23922 T (oF κ T n) κ [.int x0, .int x1, .int x2] σ) = _
  unfold od_J0_checkBoundsBeginEnd_23922
  rfl
theorem oE_J3_checkFromToIndex_8c36e (κ : oKv) (T n : Nat) (x0 : Int32) (x1 : Int32) (x2 : Int32) (x3 : Option Nat) (σ : oSt) : oF κ T (n + 1) 211 [.int x0, .int x1, .int x2, va_rf x3] σ = ob_J3_checkFromToIndex_8c36e T (oF κ T n) κ x0 x1 x2 x3 σ := by
  rw [oF_at (f := od_J3_checkFromToIndex_8c36e) rfl]
  show (od_J3_checkFromToIndex_8c36e T (oF κ T n) κ [.int x0, .int x1, .int x2, va_rf x3] σ) = _
  unfold od_J3_checkFromToIndex_8c36e
  simp only [oun_rf, obn]
theorem oE_J1_newString_b4f7a (κ : oKv) (T n : Nat) (x0 : Option Nat) (x1 : Int32) (x2 : Int32) (σ : oSt) : oF κ T (n + 1) 212 [va_rf x0, .int x1, .int x2] σ = ob_J1_newString_b4f7a T (oF κ T n) κ x0 x1 x2 σ := by
  rw [oF_at (f := od_J1_newString_b4f7a) rfl]
  show (od_J1_newString_b4f7a T (oF κ T n) κ [va_rf x0, .int x1, .int x2] σ) = _
  unfold od_J1_newString_b4f7a
  simp only [oun_rf, obn]
theorem oE_J7_copyOfRange_39247 (κ : oKv) (T n : Nat) (x0 : Option Nat) (x1 : Int32) (x2 : Int32) (σ : oSt) : oF κ T (n + 1) 213 [va_rf x0, .int x1, .int x2] σ = ob_J7_copyOfRange_39247 T (oF κ T n) κ x0 x1 x2 σ := by
  rw [oF_at (f := od_J7_copyOfRange_39247) rfl]
  show (od_J7_copyOfRange_39247 T (oF κ T n) κ [va_rf x0, .int x1, .int x2] σ) = _
  unfold od_J7_copyOfRange_39247
  simp only [oun_rf, obn]
theorem oE_J7_copyOfRangeByte_39247 (κ : oKv) (T n : Nat) (x0 : Option Nat) (x1 : Int32) (x2 : Int32) (σ : oSt) : oF κ T (n + 1) 214 [va_rf x0, .int x1, .int x2] σ = ob_J7_copyOfRangeByte_39247 T (oF κ T n) κ x0 x1 x2 σ := by
  rw [oF_at (f := od_J7_copyOfRangeByte_39247) rfl]
  show (od_J7_copyOfRangeByte_39247 T (oF κ T n) κ [va_rf x0, .int x1, .int x2] σ) = _
  unfold od_J7_copyOfRangeByte_39247
  simp only [oun_rf, obn]
theorem oE_J7_checkLength_df160 (κ : oKv) (T n : Nat) (x0 : Int32) (x1 : Int32) (σ : oSt) : oF κ T (n + 1) 215 [.int x0, .int x1] σ = ob_J7_checkLength_df160 T (oF κ T n) κ x0 x1 σ := by
  rw [oF_at (f := od_J7_checkLength_df160) rfl]
  show (od_J7_checkLength_df160 T (oF κ T n) κ [.int x0, .int x1] σ) = _
  unfold od_J7_checkLength_df160
  rfl
theorem oE_J0_init_031fb (κ : oKv) (T n : Nat) (x0 : Option Nat) (x1 : Option Nat) (x2 : Int32) (σ : oSt) : oF κ T (n + 1) 216 [va_rf x0, va_rf x1, .int x2] σ = ob_J0_init_031fb T (oF κ T n) κ x0 x1 x2 σ := by
  rw [oF_at (f := od_J0_init_031fb) rfl]
  show (od_J0_init_031fb T (oF κ T n) κ [va_rf x0, va_rf x1, .int x2] σ) = _
  unfold od_J0_init_031fb
  simp only [oun_rf, obn]
theorem oE_J0_equals_9ea2d (κ : oKv) (T n : Nat) (x0 : Option Nat) (x1 : Option Nat) (σ : oSt) : oF κ T (n + 1) 217 [va_rf x0, va_rf x1] σ = ob_J0_equals_9ea2d T (oF κ T n) κ x0 x1 σ := by
  rw [oF_at (f := od_J0_equals_9ea2d) rfl]
  show (od_J0_equals_9ea2d T (oF κ T n) κ [va_rf x0, va_rf x1] σ) = _
  unfold od_J0_equals_9ea2d
  simp only [oun_rf, obn]
theorem oE_J1_equals_b5fdf (κ : oKv) (T n : Nat) (x0 : Option Nat) (x1 : Option Nat) (σ : oSt) : oF κ T (n + 1) 218 [va_rf x0, va_rf x1] σ = ob_J1_equals_b5fdf T (oF κ T n) κ x0 x1 σ := by
  rw [oF_at (f := od_J1_equals_b5fdf) rfl]
  show (od_J1_equals_b5fdf T (oF κ T n) κ [va_rf x0, va_rf x1] σ) = _
  unfold od_J1_equals_b5fdf
  simp only [oun_rf, obn]
theorem oE_J0_indexOf_0f7a4 (κ : oKv) (T n : Nat) (x0 : Option Nat) (x1 : Int32) (σ : oSt) : oF κ T (n + 1) 219 [va_rf x0, .int x1] σ = ob_J0_indexOf_0f7a4 T (oF κ T n) κ x0 x1 σ := by
  rw [oF_at (f := od_J0_indexOf_0f7a4) rfl]
  show (od_J0_indexOf_0f7a4 T (oF κ T n) κ [va_rf x0, .int x1] σ) = _
  unfold od_J0_indexOf_0f7a4
  simp only [oun_rf, obn]
theorem oE_J0_indexOf_7cf53 (κ : oKv) (T n : Nat) (x0 : Option Nat) (x1 : Int32) (x2 : Int32) (σ : oSt) : oF κ T (n + 1) 220 [va_rf x0, .int x1, .int x2] σ = ob_J0_indexOf_7cf53 T (oF κ T n) κ x0 x1 x2 σ := by
  rw [oF_at (f := od_J0_indexOf_7cf53) rfl]
  show (od_J0_indexOf_7cf53 T (oF κ T n) κ [va_rf x0, .int x1, .int x2] σ) = _
  unfold od_J0_indexOf_7cf53
  simp only [oun_rf, obn]
theorem oE_J1_indexOf_4cfef (κ : oKv) (T n : Nat) (x0 : Option Nat) (x1 : Int32) (x2 : Int32) (x3 : Int32) (σ : oSt) : oF κ T (n + 1) 221 [va_rf x0, .int x1, .int x2, .int x3] σ = ob_J1_indexOf_4cfef T (oF κ T n) κ x0 x1 x2 x3 σ := by
  rw [oF_at (f := od_J1_indexOf_4cfef) rfl]
  show (od_J1_indexOf_4cfef T (oF κ T n) κ [va_rf x0, .int x1, .int x2, .int x3] σ) = _
  unfold od_J1_indexOf_4cfef
  simp only [oun_rf, obn]
theorem oE_J1_canEncode_9a6ad (κ : oKv) (T n : Nat) (x0 : Int32) (σ : oSt) : oF κ T (n + 1) 222 [.int x0] σ = ob_J1_canEncode_9a6ad T (oF κ T n) κ x0 σ := by
  rw [oF_at (f := od_J1_canEncode_9a6ad) rfl]
  show (od_J1_canEncode_9a6ad T (oF κ T n) κ [.int x0] σ) = _
  unfold od_J1_canEncode_9a6ad
  rfl
theorem oE_J1_indexOfChar_4cfef (κ : oKv) (T n : Nat) (x0 : Option Nat) (x1 : Int32) (x2 : Int32) (x3 : Int32) (σ : oSt) : oF κ T (n + 1) 223 [va_rf x0, .int x1, .int x2, .int x3] σ = ob_J1_indexOfChar_4cfef T (oF κ T n) κ x0 x1 x2 x3 σ := by
  rw [oF_at (f := od_J1_indexOfChar_4cfef) rfl]
  show (od_J1_indexOfChar_4cfef T (oF κ T n) κ [va_rf x0, .int x1, .int x2, .int x3] σ) = _
  unfold od_J1_indexOfChar_4cfef
  simp only [oun_rf, obn]
theorem oE_Jx4a65c_init_da8c8 (κ : oKv) (T n : Nat) (x0 : Option Nat) (σ : oSt) : oF κ T (n + 1) 224 [va_rf x0] σ = ob_Jx4a65c_init_da8c8 T (oF κ T n) κ x0 σ := by
  rw [oF_at (f := od_Jx4a65c_init_da8c8) rfl]
  show (od_Jx4a65c_init_da8c8 T (oF κ T n) κ [va_rf x0] σ) = _
  unfold od_Jx4a65c_init_da8c8
  simp only [oun_rf, obn]
theorem oE_Jxc12de_init_da8c8 (κ : oKv) (T n : Nat) (x0 : Option Nat) (σ : oSt) : oF κ T (n + 1) 225 [va_rf x0] σ = ob_Jxc12de_init_da8c8 T (oF κ T n) κ x0 σ := by
  rw [oF_at (f := od_Jxc12de_init_da8c8) rfl]
  show (od_Jxc12de_init_da8c8 T (oF κ T n) κ [va_rf x0] σ) = _
  unfold od_Jxc12de_init_da8c8
  simp only [oun_rf, obn]
theorem oE_Jxa1e45_init_da8c8 (κ : oKv) (T n : Nat) (x0 : Option Nat) (σ : oSt) : oF κ T (n + 1) 226 [va_rf x0] σ = ob_Jxa1e45_init_da8c8 T (oF κ T n) κ x0 σ := by
  rw [oF_at (f := od_Jxa1e45_init_da8c8) rfl]
  show (od_Jxa1e45_init_da8c8 T (oF κ T n) κ [va_rf x0] σ) = _
  unfold od_Jxa1e45_init_da8c8
  simp only [oun_rf, obn]
theorem oE_Jx4a65c_add_9ea2d (κ : oKv) (T n : Nat) (x0 : Option Nat) (x1 : Option Nat) (σ : oSt) : oF κ T (n + 1) 227 [va_rf x0, va_rf x1] σ = ob_Jx4a65c_add_9ea2d T (oF κ T n) κ x0 x1 σ := by
  rw [oF_at (f := od_Jx4a65c_add_9ea2d) rfl]
  show (od_Jx4a65c_add_9ea2d T (oF κ T n) κ [va_rf x0, va_rf x1] σ) = _
  unfold od_Jx4a65c_add_9ea2d
  simp only [oun_rf, obn]
theorem oE_Jx4a65c_add_72be8 (κ : oKv) (T n : Nat) (x0 : Option Nat) (x1 : Option Nat) (x2 : Option Nat) (x3 : Int32) (σ : oSt) : oF κ T (n + 1) 228 [va_rf x0, va_rf x1, va_rf x2, .int x3] σ = ob_Jx4a65c_add_72be8 T (oF κ T n) κ x0 x1 x2 x3 σ := by
  rw [oF_at (f := od_Jx4a65c_add_72be8) rfl]
  show (od_Jx4a65c_add_72be8 T (oF κ T n) κ [va_rf x0, va_rf x1, va_rf x2, .int x3] σ) = _
  unfold od_Jx4a65c_add_72be8
  simp only [oun_rf, obn]
theorem oE_Jx4a65c_grow_d5877 (κ : oKv) (T n : Nat) (x0 : Option Nat) (σ : oSt) : oF κ T (n + 1) 229 [va_rf x0] σ = ob_Jx4a65c_grow_d5877 T (oF κ T n) κ x0 σ := by
  rw [oF_at (f := od_Jx4a65c_grow_d5877) rfl]
  show (od_Jx4a65c_grow_d5877 T (oF κ T n) κ [va_rf x0] σ) = _
  unfold od_Jx4a65c_grow_d5877
  simp only [oun_rf, obn]
theorem oE_Jx4a65c_grow_92f84 (κ : oKv) (T n : Nat) (x0 : Option Nat) (x1 : Int32) (σ : oSt) : oF κ T (n + 1) 230 [va_rf x0, .int x1] σ = ob_Jx4a65c_grow_92f84 T (oF κ T n) κ x0 x1 σ := by
  rw [oF_at (f := od_Jx4a65c_grow_92f84) rfl]
  show (od_Jx4a65c_grow_92f84 T (oF κ T n) κ [va_rf x0, .int x1] σ) = _
  unfold od_Jx4a65c_grow_92f84
  simp only [oun_rf, obn]
theorem oE_J8_newLength_cabcc (κ : oKv) (T n : Nat) (x0 : Int32) (x1 : Int32) (x2 : Int32) (σ : oSt) : oF κ T (n + 1) 231 [.int x0, .int x1, .int x2] σ = ob_J8_newLength_cabcc T (oF κ T n) κ x0 x1 x2 σ := by
  rw [oF_at (f := od_J8_newLength_cabcc) rfl]
  show (od_J8_newLength_cabcc T (oF κ T n) κ [.int x0, .int x1, .int x2] σ) = _
  unfold od_J8_newLength_cabcc
  rfl
theorem oE_J7_copyOf_1904c (κ : oKv) (T n : Nat) (x0 : Option Nat) (x1 : Int32) (σ : oSt) : oF κ T (n + 1) 232 [va_rf x0, .int x1] σ = ob_J7_copyOf_1904c T (oF κ T n) κ x0 x1 σ := by
  rw [oF_at (f := od_J7_copyOf_1904c) rfl]
  show (od_J7_copyOf_1904c T (oF κ T n) κ [va_rf x0, .int x1] σ) = _
  unfold od_J7_copyOf_1904c
  simp only [oun_rf, obn]
theorem oE_J7_copyOf_6403c (κ : oKv) (T n : Nat) (x0 : Option Nat) (x1 : Int32) (x2 : Option Nat) (σ : oSt) : oF κ T (n + 1) 233 [va_rf x0, .int x1, va_rf x2] σ = ob_J7_copyOf_6403c T (oF κ T n) κ x0 x1 x2 σ := by
  rw [oF_at (f := od_J7_copyOf_6403c) rfl]
  show (od_J7_copyOf_6403c T (oF κ T n) κ [va_rf x0, .int x1, va_rf x2] σ) = _
  unfold od_J7_copyOf_6403c
  simp only [oun_rf, obn]
theorem oE_Jx4a65c_get_915e3 (κ : oKv) (T n : Nat) (x0 : Option Nat) (x1 : Int32) (σ : oSt) : oF κ T (n + 1) 234 [va_rf x0, .int x1] σ = ob_Jx4a65c_get_915e3 T (oF κ T n) κ x0 x1 σ := by
  rw [oF_at (f := od_Jx4a65c_get_915e3) rfl]
  show (od_Jx4a65c_get_915e3 T (oF κ T n) κ [va_rf x0, .int x1] σ) = _
  unfold od_Jx4a65c_get_915e3
  simp only [oun_rf, obn]
theorem oE_Jx4a65c_elementData_915e3 (κ : oKv) (T n : Nat) (x0 : Option Nat) (x1 : Int32) (σ : oSt) : oF κ T (n + 1) 235 [va_rf x0, .int x1] σ = ob_Jx4a65c_elementData_915e3 T (oF κ T n) κ x0 x1 σ := by
  rw [oF_at (f := od_Jx4a65c_elementData_915e3) rfl]
  show (od_Jx4a65c_elementData_915e3 T (oF κ T n) κ [va_rf x0, .int x1] σ) = _
  unfold od_Jx4a65c_elementData_915e3
  simp only [oun_rf, obn]
theorem oE_Jx4a65c_size_8abf5 (κ : oKv) (T n : Nat) (x0 : Option Nat) (σ : oSt) : oF κ T (n + 1) 236 [va_rf x0] σ = ob_Jx4a65c_size_8abf5 T (oF κ T n) κ x0 σ := by
  rw [oF_at (f := od_Jx4a65c_size_8abf5) rfl]
  show (od_Jx4a65c_size_8abf5 T (oF κ T n) κ [va_rf x0] σ) = _
  unfold od_Jx4a65c_size_8abf5
  simp only [oun_rf, obn]
theorem oE_Jx4a65c_clear_da8c8 (κ : oKv) (T n : Nat) (x0 : Option Nat) (σ : oSt) : oF κ T (n + 1) 237 [va_rf x0] σ = ob_Jx4a65c_clear_da8c8 T (oF κ T n) κ x0 σ := by
  rw [oF_at (f := od_Jx4a65c_clear_da8c8) rfl]
  show (od_Jx4a65c_clear_da8c8 T (oF κ T n) κ [va_rf x0] σ) = _
  unfold od_Jx4a65c_clear_da8c8
  simp only [oun_rf, obn]
theorem oE_J7_copyOf_59c91 (κ : oKv) (T n : Nat) (x0 : Option Nat) (x1 : Int32) (σ : oSt) : oF κ T (n + 1) 238 [va_rf x0, .int x1] σ = ob_J7_copyOf_59c91 T (oF κ T n) κ x0 x1 σ := by
  rw [oF_at (f := od_J7_copyOf_59c91) rfl]
  show (od_J7_copyOf_59c91 T (oF κ T n) κ [va_rf x0, .int x1] σ) = _
  unfold od_J7_copyOf_59c91
  simp only [oun_rf, obn]
theorem oE_J7_copyOf_c38d5 (κ : oKv) (T n : Nat) (x0 : Option Nat) (x1 : Int32) (σ : oSt) : oF κ T (n + 1) 239 [va_rf x0, .int x1] σ = ob_J7_copyOf_c38d5 T (oF κ T n) κ x0 x1 σ := by
  rw [oF_at (f := od_J7_copyOf_c38d5) rfl]
  show (od_J7_copyOf_c38d5 T (oF κ T n) κ [va_rf x0, .int x1] σ) = _
  unfold od_J7_copyOf_c38d5
  simp only [oun_rf, obn]
theorem oE_J7_copyOf_9075b (κ : oKv) (T n : Nat) (x0 : Option Nat) (x1 : Int32) (σ : oSt) : oF κ T (n + 1) 240 [va_rf x0, .int x1] σ = ob_J7_copyOf_9075b T (oF κ T n) κ x0 x1 σ := by
  rw [oF_at (f := od_J7_copyOf_9075b) rfl]
  show (od_J7_copyOf_9075b T (oF κ T n) κ [va_rf x0, .int x1] σ) = _
  unfold od_J7_copyOf_9075b
  simp only [oun_rf, obn]
theorem oE_J7_fill_d0a16 (κ : oKv) (T n : Nat) (x0 : Option Nat) (x1 : Int64) (σ : oSt) : oF κ T (n + 1) 241 [va_rf x0, .long x1] σ = ob_J7_fill_d0a16 T (oF κ T n) κ x0 x1 σ := by
  rw [oF_at (f := od_J7_fill_d0a16) rfl]
  show (od_J7_fill_d0a16 T (oF κ T n) κ [va_rf x0, .long x1] σ) = _
  unfold od_J7_fill_d0a16
  simp only [oun_rf, obn]
theorem oE_J7_fill_53178 (κ : oKv) (T n : Nat) (x0 : Option Nat) (x1 : Int32) (σ : oSt) : oF κ T (n + 1) 242 [va_rf x0, .int x1] σ = ob_J7_fill_53178 T (oF κ T n) κ x0 x1 σ := by
  rw [oF_at (f := od_J7_fill_53178) rfl]
  show (od_J7_fill_53178 T (oF κ T n) κ [va_rf x0, .int x1] σ) = _
  unfold od_J7_fill_53178
  simp only [oun_rf, obn]
theorem oE_J9_floorDiv_f86c9 (κ : oKv) (T n : Nat) (x0 : Int64) (x1 : Int64) (σ : oSt) : oF κ T (n + 1) 243 [.long x0, .long x1] σ = ob_J9_floorDiv_f86c9 T (oF κ T n) κ x0 x1 σ := by
  rw [oF_at (f := od_J9_floorDiv_f86c9) rfl]
  show (od_J9_floorDiv_f86c9 T (oF κ T n) κ [.long x0, .long x1] σ) = _
  unfold od_J9_floorDiv_f86c9
  rfl
theorem oE_J9_floorMod_f86c9 (κ : oKv) (T n : Nat) (x0 : Int64) (x1 : Int64) (σ : oSt) : oF κ T (n + 1) 244 [.long x0, .long x1] σ = ob_J9_floorMod_f86c9 T (oF κ T n) κ x0 x1 σ := by
  rw [oF_at (f := od_J9_floorMod_f86c9) rfl]
  show (od_J9_floorMod_f86c9 T (oF κ T n) κ [.long x0, .long x1] σ) = _
  unfold od_J9_floorMod_f86c9
  rfl
theorem zE_feed (h0 : Nat) (qs : List Nat) (ks : Nat → Nat) (T n : Nat) (x1 : Int32) (x2 : Int32) (x3 : Int32) (x4 : Int32) (x5 : Int32) (τ : zSt) : zF h0 qs ks T (n + 1) 0 [.ref h0, .int x1, .int x2, .int x3, .int x4, .int x5] τ = b_feed T (zF h0 qs ks T n) h0 qs ks x1 x2 x3 x4 x5 τ := by
  rw [zF_at (f := zd_feed) rfl]
  unfold zd_feed
  simp only [if_true]
theorem zE_end (h0 : Nat) (qs : List Nat) (ks : Nat → Nat) (T n : Nat) (x1 : Int32) (τ : zSt) : zF h0 qs ks T (n + 1) 1 [.ref h0, .int x1] τ = b_end T (zF h0 qs ks T n) h0 qs ks x1 τ := by
  rw [zF_at (f := zd_end) rfl]
  unfold zd_end
  simp only [if_true]
theorem zE_out (h0 : Nat) (qs : List Nat) (ks : Nat → Nat) (T n : Nat) (x1 : Int32) (τ : zSt) : zF h0 qs ks T (n + 1) 2 [.ref h0, .int x1] τ = b_out T (zF h0 qs ks T n) h0 qs ks x1 τ := by
  rw [zF_at (f := zd_out) rfl]
  unfold zd_out
  simp only [if_true]
theorem zE_fault (h0 : Nat) (qs : List Nat) (ks : Nat → Nat) (T n : Nat) (x1 : Int32) (x2 : Int32) (τ : zSt) : zF h0 qs ks T (n + 1) 3 [.ref h0, .int x1, .int x2] τ = b_fault T (zF h0 qs ks T n) h0 qs ks x1 x2 τ := by
  rw [zF_at (f := zd_fault) rfl]
  unfold zd_fault
  simp only [if_true]
theorem zE_isLow (h0 : Nat) (qs : List Nat) (ks : Nat → Nat) (T n : Nat) (x0 : Int32) (τ : zSt) : zF h0 qs ks T (n + 1) 4 [.int x0] τ = b_isLow T (zF h0 qs ks T n) h0 qs ks x0 τ := by
  rw [zF_at (f := zd_isLow) rfl]
  unfold zd_isLow
  rfl
theorem zE_isDigit (h0 : Nat) (qs : List Nat) (ks : Nat → Nat) (T n : Nat) (x0 : Int32) (τ : zSt) : zF h0 qs ks T (n + 1) 5 [.int x0] τ = b_isDigit T (zF h0 qs ks T n) h0 qs ks x0 τ := by
  rw [zF_at (f := zd_isDigit) rfl]
  unfold zd_isDigit
  rfl
theorem zE_word (h0 : Nat) (qs : List Nat) (ks : Nat → Nat) (T n : Nat) (x1 : Int32) (x2 : Int32) (x3 : Int32) (τ : zSt) : zF h0 qs ks T (n + 1) 6 [.ref h0, .int x1, .int x2, .int x3] τ = b_word T (zF h0 qs ks T n) h0 qs ks x1 x2 x3 τ := by
  rw [zF_at (f := zd_word) rfl]
  unfold zd_word
  simp only [if_true]
theorem zE_isText (h0 : Nat) (qs : List Nat) (ks : Nat → Nat) (T n : Nat) (x1 : Int32) (x2 : Nat) (τ : zSt) : zF h0 qs ks T (n + 1) 7 [.ref h0, .int x1, .ref x2] τ = b_isText T (zF h0 qs ks T n) h0 qs ks x1 x2 τ := by
  rw [zF_at (f := zd_isText) rfl]
  unfold zd_isText
  simp only [if_true]
theorem zE_isKey (h0 : Nat) (qs : List Nat) (ks : Nat → Nat) (T n : Nat) (x1 : Int32) (τ : zSt) : zF h0 qs ks T (n + 1) 8 [.ref h0, .int x1] τ = b_isKey T (zF h0 qs ks T n) h0 qs ks x1 τ := by
  rw [zF_at (f := zd_isKey) rfl]
  unfold zd_isKey
  simp only [if_true]
theorem zE_readWords (h0 : Nat) (qs : List Nat) (ks : Nat → Nat) (T n : Nat) (τ : zSt) : zF h0 qs ks T (n + 1) 9 [.ref h0] τ = b_readWords T (zF h0 qs ks T n) h0 qs ks τ := by
  rw [zF_at (f := zd_readWords) rfl]
  unfold zd_readWords
  simp only [if_true]
theorem zE_node (h0 : Nat) (qs : List Nat) (ks : Nat → Nat) (T n : Nat) (x1 : Int32) (x2 : Int32) (τ : zSt) : zF h0 qs ks T (n + 1) 10 [.ref h0, .int x1, .int x2] τ = b_node T (zF h0 qs ks T n) h0 qs ks x1 x2 τ := by
  rw [zF_at (f := zd_node) rfl]
  unfold zd_node
  simp only [if_true]
theorem zE_here (h0 : Nat) (qs : List Nat) (ks : Nat → Nat) (T n : Nat) (x1 : Nat) (τ : zSt) : zF h0 qs ks T (n + 1) 11 [.ref h0, .ref x1] τ = b_here T (zF h0 qs ks T n) h0 qs ks x1 τ := by
  rw [zF_at (f := zd_here) rfl]
  unfold zd_here
  simp only [if_true]
theorem zE_skip (h0 : Nat) (qs : List Nat) (ks : Nat → Nat) (T n : Nat) (x1 : Nat) (τ : zSt) : zF h0 qs ks T (n + 1) 12 [.ref h0, .ref x1] τ = b_skip T (zF h0 qs ks T n) h0 qs ks x1 τ := by
  rw [zF_at (f := zd_skip) rfl]
  unfold zd_skip
  simp only [if_true]
theorem zE_form (h0 : Nat) (qs : List Nat) (ks : Nat → Nat) (T n : Nat) (τ : zSt) : zF h0 qs ks T (n + 1) 13 [.ref h0] τ = b_form T (zF h0 qs ks T n) h0 qs ks τ := by
  rw [zF_at (f := zd_form) rfl]
  unfold zd_form
  simp only [if_true]
theorem zE_must (h0 : Nat) (qs : List Nat) (ks : Nat → Nat) (T n : Nat) (x1 : Nat) (τ : zSt) : zF h0 qs ks T (n + 1) 14 [.ref h0, .ref x1] τ = b_must T (zF h0 qs ks T n) h0 qs ks x1 τ := by
  rw [zF_at (f := zd_must) rfl]
  unfold zd_must
  simp only [if_true]
theorem zE_name (h0 : Nat) (qs : List Nat) (ks : Nat → Nat) (T n : Nat) (τ : zSt) : zF h0 qs ks T (n + 1) 15 [.ref h0] τ = b_name T (zF h0 qs ks T n) h0 qs ks τ := by
  rw [zF_at (f := zd_name) rfl]
  unfold zd_name
  simp only [if_true]
theorem zE_numberOf (h0 : Nat) (qs : List Nat) (ks : Nat → Nat) (T n : Nat) (x1 : Int32) (τ : zSt) : zF h0 qs ks T (n + 1) 16 [.ref h0, .int x1] τ = b_numberOf T (zF h0 qs ks T n) h0 qs ks x1 τ := by
  rw [zF_at (f := zd_numberOf) rfl]
  unfold zd_numberOf
  simp only [if_true]
theorem zE_number (h0 : Nat) (qs : List Nat) (ks : Nat → Nat) (T n : Nat) (τ : zSt) : zF h0 qs ks T (n + 1) 17 [.ref h0] τ = b_number T (zF h0 qs ks T n) h0 qs ks τ := by
  rw [zF_at (f := zd_number) rfl]
  unfold zd_number
  simp only [if_true]
theorem zE_relation (h0 : Nat) (qs : List Nat) (ks : Nat → Nat) (T n : Nat) (τ : zSt) : zF h0 qs ks T (n + 1) 18 [.ref h0] τ = b_relation T (zF h0 qs ks T n) h0 qs ks τ := by
  rw [zF_at (f := zd_relation) rfl]
  unfold zd_relation
  simp only [if_true]
theorem zE_isArgument (h0 : Nat) (qs : List Nat) (ks : Nat → Nat) (T n : Nat) (τ : zSt) : zF h0 qs ks T (n + 1) 19 [.ref h0] τ = b_isArgument T (zF h0 qs ks T n) h0 qs ks τ := by
  rw [zF_at (f := zd_isArgument) rfl]
  unfold zd_isArgument
  simp only [if_true]
theorem zE_part (h0 : Nat) (qs : List Nat) (ks : Nat → Nat) (T n : Nat) (x1 : Int32) (τ : zSt) : zF h0 qs ks T (n + 1) 20 [.ref h0, .int x1] τ = b_part T (zF h0 qs ks T n) h0 qs ks x1 τ := by
  rw [zF_at (f := zd_part) rfl]
  unfold zd_part
  simp only [if_true]
theorem zE_sum (h0 : Nat) (qs : List Nat) (ks : Nat → Nat) (T n : Nat) (τ : zSt) : zF h0 qs ks T (n + 1) 21 [.ref h0] τ = b_sum T (zF h0 qs ks T n) h0 qs ks τ := by
  rw [zF_at (f := zd_sum) rfl]
  unfold zd_sum
  simp only [if_true]
theorem zE_both (h0 : Nat) (qs : List Nat) (ks : Nat → Nat) (T n : Nat) (τ : zSt) : zF h0 qs ks T (n + 1) 22 [.ref h0] τ = b_both T (zF h0 qs ks T n) h0 qs ks τ := by
  rw [zF_at (f := zd_both) rfl]
  unfold zd_both
  simp only [if_true]
theorem zE_condition (h0 : Nat) (qs : List Nat) (ks : Nat → Nat) (T n : Nat) (τ : zSt) : zF h0 qs ks T (n + 1) 23 [.ref h0] τ = b_condition T (zF h0 qs ks T n) h0 qs ks τ := by
  rw [zF_at (f := zd_condition) rfl]
  unfold zd_condition
  simp only [if_true]
theorem zE_single (h0 : Nat) (qs : List Nat) (ks : Nat → Nat) (T n : Nat) (τ : zSt) : zF h0 qs ks T (n + 1) 24 [.ref h0] τ = b_single T (zF h0 qs ks T n) h0 qs ks τ := by
  rw [zF_at (f := zd_single) rfl]
  unfold zd_single
  simp only [if_true]
theorem zE_call (h0 : Nat) (qs : List Nat) (ks : Nat → Nat) (T n : Nat) (x1 : Int32) (τ : zSt) : zF h0 qs ks T (n + 1) 25 [.ref h0, .int x1] τ = b_call T (zF h0 qs ks T n) h0 qs ks x1 τ := by
  rw [zF_at (f := zd_call) rfl]
  unfold zd_call
  simp only [if_true]
theorem zE_expression (h0 : Nat) (qs : List Nat) (ks : Nat → Nat) (T n : Nat) (τ : zSt) : zF h0 qs ks T (n + 1) 26 [.ref h0] τ = b_expression T (zF h0 qs ks T n) h0 qs ks τ := by
  rw [zF_at (f := zd_expression) rfl]
  unfold zd_expression
  simp only [if_true]
theorem zE_matching (h0 : Nat) (qs : List Nat) (ks : Nat → Nat) (T n : Nat) (x1 : Int32) (τ : zSt) : zF h0 qs ks T (n + 1) 27 [.ref h0, .int x1] τ = b_matching T (zF h0 qs ks T n) h0 qs ks x1 τ := by
  rw [zF_at (f := zd_matching) rfl]
  unfold zd_matching
  simp only [if_true]
theorem zE_simple (h0 : Nat) (qs : List Nat) (ks : Nat → Nat) (T n : Nat) (x1 : Int32) (τ : zSt) : zF h0 qs ks T (n + 1) 28 [.ref h0, .int x1] τ = b_simple T (zF h0 qs ks T n) h0 qs ks x1 τ := by
  rw [zF_at (f := zd_simple) rfl]
  unfold zd_simple
  simp only [if_true]
theorem zE_within (h0 : Nat) (qs : List Nat) (ks : Nat → Nat) (T n : Nat) (τ : zSt) : zF h0 qs ks T (n + 1) 29 [.ref h0] τ = b_within T (zF h0 qs ks T n) h0 qs ks τ := by
  rw [zF_at (f := zd_within) rfl]
  unfold zd_within
  simp only [if_true]
theorem zE_program (h0 : Nat) (qs : List Nat) (ks : Nat → Nat) (T n : Nat) (τ : zSt) : zF h0 qs ks T (n + 1) 30 [.ref h0] τ = b_program T (zF h0 qs ks T n) h0 qs ks τ := by
  rw [zF_at (f := zd_program) rfl]
  unfold zd_program
  simp only [if_true]
theorem zE_sameWord (h0 : Nat) (qs : List Nat) (ks : Nat → Nat) (T n : Nat) (x1 : Int32) (x2 : Int32) (τ : zSt) : zF h0 qs ks T (n + 1) 31 [.ref h0, .int x1, .int x2] τ = b_sameWord T (zF h0 qs ks T n) h0 qs ks x1 x2 τ := by
  rw [zF_at (f := zd_sameWord) rfl]
  unfold zd_sameWord
  simp only [if_true]
theorem zE_wrongName (h0 : Nat) (qs : List Nat) (ks : Nat → Nat) (T n : Nat) (x1 : Int32) (τ : zSt) : zF h0 qs ks T (n + 1) 32 [.ref h0, .int x1] τ = b_wrongName T (zF h0 qs ks T n) h0 qs ks x1 τ := by
  rw [zF_at (f := zd_wrongName) rfl]
  unfold zd_wrongName
  simp only [if_true]
theorem zE_tell (h0 : Nat) (qs : List Nat) (ks : Nat → Nat) (T n : Nat) (x1 : Int32) (τ : zSt) : zF h0 qs ks T (n + 1) 33 [.ref h0, .int x1] τ = b_tell T (zF h0 qs ks T n) h0 qs ks x1 τ := by
  rw [zF_at (f := zd_tell) rfl]
  unfold zd_tell
  simp only [if_true]
theorem zE_counts (h0 : Nat) (qs : List Nat) (ks : Nat → Nat) (T n : Nat) (x1 : Int32) (τ : zSt) : zF h0 qs ks T (n + 1) 34 [.ref h0, .int x1] τ = b_counts T (zF h0 qs ks T n) h0 qs ks x1 τ := by
  rw [zF_at (f := zd_counts) rfl]
  unfold zd_counts
  simp only [if_true]
theorem zE_uses (h0 : Nat) (qs : List Nat) (ks : Nat → Nat) (T n : Nat) (x1 : Int32) (τ : zSt) : zF h0 qs ks T (n + 1) 35 [.ref h0, .int x1] τ = b_uses T (zF h0 qs ks T n) h0 qs ks x1 τ := by
  rw [zF_at (f := zd_uses) rfl]
  unfold zd_uses
  simp only [if_true]
theorem zE_namesOfSum (h0 : Nat) (qs : List Nat) (ks : Nat → Nat) (T n : Nat) (x1 : Int32) (τ : zSt) : zF h0 qs ks T (n + 1) 36 [.ref h0, .int x1] τ = b_namesOfSum T (zF h0 qs ks T n) h0 qs ks x1 τ := by
  rw [zF_at (f := zd_namesOfSum) rfl]
  unfold zd_namesOfSum
  simp only [if_true]
theorem zE_namesOfCondition (h0 : Nat) (qs : List Nat) (ks : Nat → Nat) (T n : Nat) (x1 : Int32) (τ : zSt) : zF h0 qs ks T (n + 1) 37 [.ref h0, .int x1] τ = b_namesOfCondition T (zF h0 qs ks T n) h0 qs ks x1 τ := by
  rw [zF_at (f := zd_namesOfCondition) rfl]
  unfold zd_namesOfCondition
  simp only [if_true]
theorem zE_parameters (h0 : Nat) (qs : List Nat) (ks : Nat → Nat) (T n : Nat) (x1 : Int32) (τ : zSt) : zF h0 qs ks T (n + 1) 38 [.ref h0, .int x1] τ = b_parameters T (zF h0 qs ks T n) h0 qs ks x1 τ := by
  rw [zF_at (f := zd_parameters) rfl]
  unfold zd_parameters
  simp only [if_true]
theorem zE_namesOf (h0 : Nat) (qs : List Nat) (ks : Nat → Nat) (T n : Nat) (x1 : Int32) (τ : zSt) : zF h0 qs ks T (n + 1) 39 [.ref h0, .int x1] τ = b_namesOf T (zF h0 qs ks T n) h0 qs ks x1 τ := by
  rw [zF_at (f := zd_namesOf) rfl]
  unfold zd_namesOf
  simp only [if_true]
theorem zE_newType (h0 : Nat) (qs : List Nat) (ks : Nat → Nat) (T n : Nat) (x1 : Int32) (x2 : Int32) (x3 : Int32) (τ : zSt) : zF h0 qs ks T (n + 1) 40 [.ref h0, .int x1, .int x2, .int x3] τ = b_newType T (zF h0 qs ks T n) h0 qs ks x1 x2 x3 τ := by
  rw [zF_at (f := zd_newType) rfl]
  unfold zd_newType
  simp only [if_true]
theorem zE_openType (h0 : Nat) (qs : List Nat) (ks : Nat → Nat) (T n : Nat) (τ : zSt) : zF h0 qs ks T (n + 1) 41 [.ref h0] τ = b_openType T (zF h0 qs ks T n) h0 qs ks τ := by
  rw [zF_at (f := zd_openType) rfl]
  unfold zd_openType
  simp only [if_true]
theorem zE_real (h0 : Nat) (qs : List Nat) (ks : Nat → Nat) (T n : Nat) (x1 : Int32) (τ : zSt) : zF h0 qs ks T (n + 1) 42 [.ref h0, .int x1] τ = b_real T (zF h0 qs ks T n) h0 qs ks x1 τ := by
  rw [zF_at (f := zd_real) rfl]
  unfold zd_real
  simp only [if_true]
theorem zE_isIn (h0 : Nat) (qs : List Nat) (ks : Nat → Nat) (T n : Nat) (x1 : Int32) (x2 : Int32) (τ : zSt) : zF h0 qs ks T (n + 1) 43 [.ref h0, .int x1, .int x2] τ = b_isIn T (zF h0 qs ks T n) h0 qs ks x1 x2 τ := by
  rw [zF_at (f := zd_isIn) rfl]
  unfold zd_isIn
  simp only [if_true]
theorem zE_join (h0 : Nat) (qs : List Nat) (ks : Nat → Nat) (T n : Nat) (x1 : Int32) (x2 : Int32) (τ : zSt) : zF h0 qs ks T (n + 1) 44 [.ref h0, .int x1, .int x2] τ = b_join T (zF h0 qs ks T n) h0 qs ks x1 x2 τ := by
  rw [zF_at (f := zd_join) rfl]
  unfold zd_join
  simp only [if_true]
theorem zE_mustBe (h0 : Nat) (qs : List Nat) (ks : Nat → Nat) (T n : Nat) (x1 : Int32) (x2 : Int32) (x3 : Int32) (τ : zSt) : zF h0 qs ks T (n + 1) 45 [.ref h0, .int x1, .int x2, .int x3] τ = b_mustBe T (zF h0 qs ks T n) h0 qs ks x1 x2 x3 τ := by
  rw [zF_at (f := zd_mustBe) rfl]
  unfold zd_mustBe
  simp only [if_true]
theorem zE_typesOfSum (h0 : Nat) (qs : List Nat) (ks : Nat → Nat) (T n : Nat) (x1 : Int32) (τ : zSt) : zF h0 qs ks T (n + 1) 46 [.ref h0, .int x1] τ = b_typesOfSum T (zF h0 qs ks T n) h0 qs ks x1 τ := by
  rw [zF_at (f := zd_typesOfSum) rfl]
  unfold zd_typesOfSum
  simp only [if_true]
theorem zE_typesOfCondition (h0 : Nat) (qs : List Nat) (ks : Nat → Nat) (T n : Nat) (x1 : Int32) (τ : zSt) : zF h0 qs ks T (n + 1) 47 [.ref h0, .int x1] τ = b_typesOfCondition T (zF h0 qs ks T n) h0 qs ks x1 τ := by
  rw [zF_at (f := zd_typesOfCondition) rfl]
  unfold zd_typesOfCondition
  simp only [if_true]
theorem zE_isName (h0 : Nat) (qs : List Nat) (ks : Nat → Nat) (T n : Nat) (x1 : Int32) (τ : zSt) : zF h0 qs ks T (n + 1) 48 [.ref h0, .int x1] τ = b_isName T (zF h0 qs ks T n) h0 qs ks x1 τ := by
  rw [zF_at (f := zd_isName) rfl]
  unfold zd_isName
  simp only [if_true]
theorem zE_typeOf (h0 : Nat) (qs : List Nat) (ks : Nat → Nat) (T n : Nat) (x1 : Int32) (τ : zSt) : zF h0 qs ks T (n + 1) 49 [.ref h0, .int x1] τ = b_typeOf T (zF h0 qs ks T n) h0 qs ks x1 τ := by
  rw [zF_at (f := zd_typeOf) rfl]
  unfold zd_typeOf
  simp only [if_true]
theorem zE_typeOfCall (h0 : Nat) (qs : List Nat) (ks : Nat → Nat) (T n : Nat) (x1 : Int32) (τ : zSt) : zF h0 qs ks T (n + 1) 50 [.ref h0, .int x1] τ = b_typeOfCall T (zF h0 qs ks T n) h0 qs ks x1 τ := by
  rw [zF_at (f := zd_typeOfCall) rfl]
  unfold zd_typeOfCall
  simp only [if_true]
theorem zE_typed (h0 : Nat) (qs : List Nat) (ks : Nat → Nat) (T n : Nat) (x1 : Int32) (τ : zSt) : zF h0 qs ks T (n + 1) 51 [.ref h0, .int x1] τ = b_typed T (zF h0 qs ks T n) h0 qs ks x1 τ := by
  rw [zF_at (f := zd_typed) rfl]
  unfold zd_typed
  simp only [if_true]
theorem zE_sort (h0 : Nat) (qs : List Nat) (ks : Nat → Nat) (T n : Nat) (x1 : Int32) (τ : zSt) : zF h0 qs ks T (n + 1) 52 [.ref h0, .int x1] τ = b_sort T (zF h0 qs ks T n) h0 qs ks x1 τ := by
  rw [zF_at (f := zd_sort) rfl]
  unfold zd_sort
  simp only [if_true]
theorem zE_clearLine (h0 : Nat) (qs : List Nat) (ks : Nat → Nat) (T n : Nat) (τ : zSt) : zF h0 qs ks T (n + 1) 53 [.ref h0] τ = b_clearLine T (zF h0 qs ks T n) h0 qs ks τ := by
  rw [zF_at (f := zd_clearLine) rfl]
  unfold zd_clearLine
  simp only [if_true]
theorem zE_addName (h0 : Nat) (qs : List Nat) (ks : Nat → Nat) (T n : Nat) (x1 : Int32) (x2 : Int32) (τ : zSt) : zF h0 qs ks T (n + 1) 54 [.ref h0, .int x1, .int x2] τ = b_addName T (zF h0 qs ks T n) h0 qs ks x1 x2 τ := by
  rw [zF_at (f := zd_addName) rfl]
  unfold zd_addName
  simp only [if_true]
theorem zE_addSum (h0 : Nat) (qs : List Nat) (ks : Nat → Nat) (T n : Nat) (x1 : Int32) (x2 : Int32) (τ : zSt) : zF h0 qs ks T (n + 1) 55 [.ref h0, .int x1, .int x2] τ = b_addSum T (zF h0 qs ks T n) h0 qs ks x1 x2 τ := by
  rw [zF_at (f := zd_addSum) rfl]
  unfold zd_addSum
  simp only [if_true]
theorem zE_isForm (h0 : Nat) (qs : List Nat) (ks : Nat → Nat) (T n : Nat) (τ : zSt) : zF h0 qs ks T (n + 1) 56 [.ref h0] τ = b_isForm T (zF h0 qs ks T n) h0 qs ks τ := by
  rw [zF_at (f := zd_isForm) rfl]
  unfold zd_isForm
  simp only [if_true]
theorem zE_isTerm (h0 : Nat) (qs : List Nat) (ks : Nat → Nat) (T n : Nat) (x1 : Int32) (τ : zSt) : zF h0 qs ks T (n + 1) 57 [.ref h0, .int x1] τ = b_isTerm T (zF h0 qs ks T n) h0 qs ks x1 τ := by
  rw [zF_at (f := zd_isTerm) rfl]
  unfold zd_isTerm
  simp only [if_true]
theorem zE_wrongForm (h0 : Nat) (qs : List Nat) (ks : Nat → Nat) (T n : Nat) (x1 : Int32) (τ : zSt) : zF h0 qs ks T (n + 1) 58 [.ref h0, .int x1] τ = b_wrongForm T (zF h0 qs ks T n) h0 qs ks x1 τ := by
  rw [zF_at (f := zd_wrongForm) rfl]
  unfold zd_wrongForm
  simp only [if_true]
theorem zE_count (h0 : Nat) (qs : List Nat) (ks : Nat → Nat) (T n : Nat) (x1 : Int32) (τ : zSt) : zF h0 qs ks T (n + 1) 59 [.ref h0, .int x1] τ = b_count T (zF h0 qs ks T n) h0 qs ks x1 τ := by
  rw [zF_at (f := zd_count) rfl]
  unfold zd_count
  simp only [if_true]
theorem zE_formsOfCondition (h0 : Nat) (qs : List Nat) (ks : Nat → Nat) (T n : Nat) (x1 : Int32) (τ : zSt) : zF h0 qs ks T (n + 1) 60 [.ref h0, .int x1] τ = b_formsOfCondition T (zF h0 qs ks T n) h0 qs ks x1 τ := by
  rw [zF_at (f := zd_formsOfCondition) rfl]
  unfold zd_formsOfCondition
  simp only [if_true]
theorem zE_leaves (h0 : Nat) (qs : List Nat) (ks : Nat → Nat) (T n : Nat) (x1 : Int32) (x2 : Int32) (τ : zSt) : zF h0 qs ks T (n + 1) 61 [.ref h0, .int x1, .int x2] τ = b_leaves T (zF h0 qs ks T n) h0 qs ks x1 x2 τ := by
  rw [zF_at (f := zd_leaves) rfl]
  unfold zd_leaves
  simp only [if_true]
theorem zE_wants (h0 : Nat) (qs : List Nat) (ks : Nat → Nat) (T n : Nat) (x1 : Int32) (x2 : Int32) (τ : zSt) : zF h0 qs ks T (n + 1) 62 [.ref h0, .int x1, .int x2] τ = b_wants T (zF h0 qs ks T n) h0 qs ks x1 x2 τ := by
  rw [zF_at (f := zd_wants) rfl]
  unfold zd_wants
  simp only [if_true]
theorem zE_formsOf (h0 : Nat) (qs : List Nat) (ks : Nat → Nat) (T n : Nat) (x1 : Int32) (x2 : Int32) (τ : zSt) : zF h0 qs ks T (n + 1) 63 [.ref h0, .int x1, .int x2] τ = b_formsOf T (zF h0 qs ks T n) h0 qs ks x1 x2 τ := by
  rw [zF_at (f := zd_formsOf) rfl]
  unfold zd_formsOf
  simp only [if_true]
theorem zE_check (h0 : Nat) (qs : List Nat) (ks : Nat → Nat) (T n : Nat) (τ : zSt) : zF h0 qs ks T (n + 1) 64 [.ref h0] τ = b_check T (zF h0 qs ks T n) h0 qs ks τ := by
  rw [zF_at (f := zd_check) rfl]
  unfold zd_check
  simp only [if_true]
theorem zE_compile (h0 : Nat) (qs : List Nat) (ks : Nat → Nat) (T n : Nat) (τ : zSt) : zF h0 qs ks T (n + 1) 65 [.ref h0] τ = b_compile T (zF h0 qs ks T n) h0 qs ks τ := by
  rw [zF_at (f := zd_compile) rfl]
  unfold zd_compile
  simp only [if_true]
theorem zE_place (h0 : Nat) (qs : List Nat) (ks : Nat → Nat) (T n : Nat) (τ : zSt) : zF h0 qs ks T (n + 1) 66 [.ref h0] τ = b_place T (zF h0 qs ks T n) h0 qs ks τ := by
  rw [zF_at (f := zd_place) rfl]
  unfold zd_place
  simp only [if_true]
theorem zE_rich (h0 : Nat) (qs : List Nat) (ks : Nat → Nat) (T n : Nat) (x1 : Int32) (x2 : Int32) (x3 : Int32) (x4 : Int32) (x5 : Int32) (τ : zSt) : zF h0 qs ks T (n + 1) 67 [.ref h0, .int x1, .int x2, .int x3, .int x4, .int x5] τ = b_rich T (zF h0 qs ks T n) h0 qs ks x1 x2 x3 x4 x5 τ := by
  rw [zF_at (f := zd_rich) rfl]
  unfold zd_rich
  simp only [if_true]
theorem zE_said (h0 : Nat) (qs : List Nat) (ks : Nat → Nat) (T n : Nat) (x1 : Int32) (x2 : Int32) (x3 : Int32) (τ : zSt) : zF h0 qs ks T (n + 1) 68 [.ref h0, .int x1, .int x2, .int x3] τ = b_said T (zF h0 qs ks T n) h0 qs ks x1 x2 x3 τ := by
  rw [zF_at (f := zd_said) rfl]
  unfold zd_said
  simp only [if_true]
theorem zE_fact (h0 : Nat) (qs : List Nat) (ks : Nat → Nat) (T n : Nat) (x1 : Int32) (x2 : Int32) (x3 : Int32) (x4 : Int64) (x6 : Int32) (τ : zSt) : zF h0 qs ks T (n + 1) 69 [.ref h0, .int x1, .int x2, .int x3, .long x4, .int x6] τ = b_fact T (zF h0 qs ks T n) h0 qs ks x1 x2 x3 x4 x6 τ := by
  rw [zF_at (f := zd_fact) rfl]
  unfold zd_fact
  simp only [if_true]
theorem zE_isSum (h0 : Nat) (qs : List Nat) (ks : Nat → Nat) (T n : Nat) (x1 : Int32) (τ : zSt) : zF h0 qs ks T (n + 1) 70 [.ref h0, .int x1] τ = b_isSum T (zF h0 qs ks T n) h0 qs ks x1 τ := by
  rw [zF_at (f := zd_isSum) rfl]
  unfold zd_isSum
  simp only [if_true]
theorem zE_isSaid (h0 : Nat) (qs : List Nat) (ks : Nat → Nat) (T n : Nat) (x0 : Int32) (τ : zSt) : zF h0 qs ks T (n + 1) 71 [.int x0] τ = b_isSaid T (zF h0 qs ks T n) h0 qs ks x0 τ := by
  rw [zF_at (f := zd_isSaid) rfl]
  unfold zd_isSaid
  rfl
theorem zE_plainType (h0 : Nat) (qs : List Nat) (ks : Nat → Nat) (T n : Nat) (x1 : Int32) (τ : zSt) : zF h0 qs ks T (n + 1) 72 [.ref h0, .int x1] τ = b_plainType T (zF h0 qs ks T n) h0 qs ks x1 τ := by
  rw [zF_at (f := zd_plainType) rfl]
  unfold zd_plainType
  simp only [if_true]
theorem zE_knows (h0 : Nat) (qs : List Nat) (ks : Nat → Nat) (T n : Nat) (x1 : Int32) (x2 : Int32) (x3 : Int32) (τ : zSt) : zF h0 qs ks T (n + 1) 73 [.ref h0, .int x1, .int x2, .int x3] τ = b_knows T (zF h0 qs ks T n) h0 qs ks x1 x2 x3 τ := by
  rw [zF_at (f := zd_knows) rfl]
  unfold zd_knows
  simp only [if_true]
theorem zE_gone (h0 : Nat) (qs : List Nat) (ks : Nat → Nat) (T n : Nat) (x1 : Int32) (x2 : Int32) (x3 : Int32) (τ : zSt) : zF h0 qs ks T (n + 1) 74 [.ref h0, .int x1, .int x2, .int x3] τ = b_gone T (zF h0 qs ks T n) h0 qs ks x1 x2 x3 τ := by
  rw [zF_at (f := zd_gone) rfl]
  unfold zd_gone
  simp only [if_true]
theorem zE_namesAt (h0 : Nat) (qs : List Nat) (ks : Nat → Nat) (T n : Nat) (x1 : Int32) (τ : zSt) : zF h0 qs ks T (n + 1) 75 [.ref h0, .int x1] τ = b_namesAt T (zF h0 qs ks T n) h0 qs ks x1 τ := by
  rw [zF_at (f := zd_namesAt) rfl]
  unfold zd_namesAt
  simp only [if_true]
theorem zE_template (h0 : Nat) (qs : List Nat) (ks : Nat → Nat) (T n : Nat) (x1 : Int32) (x2 : Int32) (x3 : Int32) (τ : zSt) : zF h0 qs ks T (n + 1) 76 [.ref h0, .int x1, .int x2, .int x3] τ = b_template T (zF h0 qs ks T n) h0 qs ks x1 x2 x3 τ := by
  rw [zF_at (f := zd_template) rfl]
  unfold zd_template
  simp only [if_true]
theorem zE_put (h0 : Nat) (qs : List Nat) (ks : Nat → Nat) (T n : Nat) (x1 : Int32) (x2 : Int32) (x3 : Int32) (x4 : Int32) (x5 : Int64) (τ : zSt) : zF h0 qs ks T (n + 1) 77 [.ref h0, .int x1, .int x2, .int x3, .int x4, .long x5] τ = b_put T (zF h0 qs ks T n) h0 qs ks x1 x2 x3 x4 x5 τ := by
  rw [zF_at (f := zd_put) rfl]
  unfold zd_put
  simp only [if_true]
theorem zE_mustFit (h0 : Nat) (qs : List Nat) (ks : Nat → Nat) (T n : Nat) (x1 : Int32) (x2 : Int32) (x3 : Int32) (x4 : Int32) (τ : zSt) : zF h0 qs ks T (n + 1) 78 [.ref h0, .int x1, .int x2, .int x3, .int x4] τ = b_mustFit T (zF h0 qs ks T n) h0 qs ks x1 x2 x3 x4 τ := by
  rw [zF_at (f := zd_mustFit) rfl]
  unfold zd_mustFit
  simp only [if_true]
theorem zE_mustBeSo (h0 : Nat) (qs : List Nat) (ks : Nat → Nat) (T n : Nat) (x1 : Int32) (x2 : Int32) (x3 : Int32) (x4 : Int32) (x5 : Int32) (x6 : Int32) (τ : zSt) : zF h0 qs ks T (n + 1) 79 [.ref h0, .int x1, .int x2, .int x3, .int x4, .int x5, .int x6] τ = b_mustBeSo T (zF h0 qs ks T n) h0 qs ks x1 x2 x3 x4 x5 x6 τ := by
  rw [zF_at (f := zd_mustBeSo) rfl]
  unfold zd_mustBeSo
  simp only [if_true]
theorem zE_ofName (h0 : Nat) (qs : List Nat) (ks : Nat → Nat) (T n : Nat) (x1 : Int32) (τ : zSt) : zF h0 qs ks T (n + 1) 80 [.ref h0, .int x1] τ = b_ofName T (zF h0 qs ks T n) h0 qs ks x1 τ := by
  rw [zF_at (f := zd_ofName) rfl]
  unfold zd_ofName
  simp only [if_true]
theorem zE_ofSign (h0 : Nat) (qs : List Nat) (ks : Nat → Nat) (T n : Nat) (x1 : Int32) (x2 : Int32) (x3 : Int32) (τ : zSt) : zF h0 qs ks T (n + 1) 81 [.ref h0, .int x1, .int x2, .int x3] τ = b_ofSign T (zF h0 qs ks T n) h0 qs ks x1 x2 x3 τ := by
  rw [zF_at (f := zd_ofSign) rfl]
  unfold zd_ofSign
  simp only [if_true]
theorem zE_ofCall (h0 : Nat) (qs : List Nat) (ks : Nat → Nat) (T n : Nat) (x1 : Int32) (x2 : Int32) (x3 : Int32) (τ : zSt) : zF h0 qs ks T (n + 1) 82 [.ref h0, .int x1, .int x2, .int x3] τ = b_ofCall T (zF h0 qs ks T n) h0 qs ks x1 x2 x3 τ := by
  rw [zF_at (f := zd_ofCall) rfl]
  unfold zd_ofCall
  simp only [if_true]
theorem zE_richOf (h0 : Nat) (qs : List Nat) (ks : Nat → Nat) (T n : Nat) (x1 : Int32) (x2 : Int32) (x3 : Int32) (τ : zSt) : zF h0 qs ks T (n + 1) 83 [.ref h0, .int x1, .int x2, .int x3] τ = b_richOf T (zF h0 qs ks T n) h0 qs ks x1 x2 x3 τ := by
  rw [zF_at (f := zd_richOf) rfl]
  unfold zd_richOf
  simp only [if_true]
theorem zE_beginBounds (h0 : Nat) (qs : List Nat) (ks : Nat → Nat) (T n : Nat) (τ : zSt) : zF h0 qs ks T (n + 1) 84 [.ref h0] τ = b_beginBounds T (zF h0 qs ks T n) h0 qs ks τ := by
  rw [zF_at (f := zd_beginBounds) rfl]
  unfold zd_beginBounds
  simp only [if_true]
theorem zE_columnOf (h0 : Nat) (qs : List Nat) (ks : Nat → Nat) (T n : Nat) (x1 : Int32) (τ : zSt) : zF h0 qs ks T (n + 1) 85 [.ref h0, .int x1] τ = b_columnOf T (zF h0 qs ks T n) h0 qs ks x1 τ := by
  rw [zF_at (f := zd_columnOf) rfl]
  unfold zd_columnOf
  simp only [if_true]
theorem zE_downwards (h0 : Nat) (qs : List Nat) (ks : Nat → Nat) (T n : Nat) (x0 : Int64) (x2 : Int64) (τ : zSt) : zF h0 qs ks T (n + 1) 86 [.long x0, .long x2] τ = b_downwards T (zF h0 qs ks T n) h0 qs ks x0 x2 τ := by
  rw [zF_at (f := zd_downwards) rfl]
  unfold zd_downwards
  rfl
theorem zE_closes (h0 : Nat) (qs : List Nat) (ks : Nat → Nat) (T n : Nat) (τ : zSt) : zF h0 qs ks T (n + 1) 89 [.ref h0] τ = b_closes T (zF h0 qs ks T n) h0 qs ks τ := by
  rw [zF_at (f := zd_closes) rfl]
  unfold zd_closes
  simp only [if_true]
theorem zE_says (h0 : Nat) (qs : List Nat) (ks : Nat → Nat) (T n : Nat) (x1 : Int32) (x2 : Int32) (x3 : Int32) (x4 : Int32) (x5 : Int64) (τ : zSt) : zF h0 qs ks T (n + 1) 90 [.ref h0, .int x1, .int x2, .int x3, .int x4, .long x5] τ = b_says T (zF h0 qs ks T n) h0 qs ks x1 x2 x3 x4 x5 τ := by
  rw [zF_at (f := zd_says) rfl]
  unfold zd_says
  simp only [if_true]
theorem zE_putIn (h0 : Nat) (qs : List Nat) (ks : Nat → Nat) (T n : Nat) (x1 : Int32) (τ : zSt) : zF h0 qs ks T (n + 1) 91 [.ref h0, .int x1] τ = b_putIn T (zF h0 qs ks T n) h0 qs ks x1 τ := by
  rw [zF_at (f := zd_putIn) rfl]
  unfold zd_putIn
  simp only [if_true]
theorem zE_termOf (h0 : Nat) (qs : List Nat) (ks : Nat → Nat) (T n : Nat) (x1 : Int32) (x2 : Int32) (x3 : Int64) (x5 : Int32) (τ : zSt) : zF h0 qs ks T (n + 1) 92 [.ref h0, .int x1, .int x2, .long x3, .int x5] τ = b_termOf T (zF h0 qs ks T n) h0 qs ks x1 x2 x3 x5 τ := by
  rw [zF_at (f := zd_termOf) rfl]
  unfold zd_termOf
  simp only [if_true]
theorem zE_instanceTerm (h0 : Nat) (qs : List Nat) (ks : Nat → Nat) (T n : Nat) (x1 : Int32) (x2 : Int32) (τ : zSt) : zF h0 qs ks T (n + 1) 93 [.ref h0, .int x1, .int x2] τ = b_instanceTerm T (zF h0 qs ks T n) h0 qs ks x1 x2 τ := by
  rw [zF_at (f := zd_instanceTerm) rfl]
  unfold zd_instanceTerm
  simp only [if_true]
theorem zE_relates (h0 : Nat) (qs : List Nat) (ks : Nat → Nat) (T n : Nat) (x1 : Int32) (x2 : Int32) (τ : zSt) : zF h0 qs ks T (n + 1) 94 [.ref h0, .int x1, .int x2] τ = b_relates T (zF h0 qs ks T n) h0 qs ks x1 x2 τ := by
  rw [zF_at (f := zd_relates) rfl]
  unfold zd_relates
  simp only [if_true]
theorem zE_saysOf (h0 : Nat) (qs : List Nat) (ks : Nat → Nat) (T n : Nat) (x1 : Int32) (x2 : Int32) (τ : zSt) : zF h0 qs ks T (n + 1) 95 [.ref h0, .int x1, .int x2] τ = b_saysOf T (zF h0 qs ks T n) h0 qs ks x1 x2 τ := by
  rw [zF_at (f := zd_saysOf) rfl]
  unfold zd_saysOf
  simp only [if_true]
theorem zE_way (h0 : Nat) (qs : List Nat) (ks : Nat → Nat) (T n : Nat) (x1 : Int32) (x2 : Int32) (x3 : Int32) (x4 : Int32) (x5 : Int64) (τ : zSt) : zF h0 qs ks T (n + 1) 96 [.ref h0, .int x1, .int x2, .int x3, .int x4, .long x5] τ = b_way T (zF h0 qs ks T n) h0 qs ks x1 x2 x3 x4 x5 τ := by
  rw [zF_at (f := zd_way) rfl]
  unfold zd_way
  simp only [if_true]
theorem zE_lineWay (h0 : Nat) (qs : List Nat) (ks : Nat → Nat) (T n : Nat) (x1 : Int32) (x2 : Int64) (τ : zSt) : zF h0 qs ks T (n + 1) 97 [.ref h0, .int x1, .long x2] τ = b_lineWay T (zF h0 qs ks T n) h0 qs ks x1 x2 τ := by
  rw [zF_at (f := zd_lineWay) rfl]
  unfold zd_lineWay
  simp only [if_true]
theorem zE_leaf (h0 : Nat) (qs : List Nat) (ks : Nat → Nat) (T n : Nat) (τ : zSt) : zF h0 qs ks T (n + 1) 98 [.ref h0] τ = b_leaf T (zF h0 qs ks T n) h0 qs ks τ := by
  rw [zF_at (f := zd_leaf) rfl]
  unfold zd_leaf
  simp only [if_true]
theorem zE_open (h0 : Nat) (qs : List Nat) (ks : Nat → Nat) (T n : Nat) (x1 : Int32) (x2 : Int32) (τ : zSt) : zF h0 qs ks T (n + 1) 99 [.ref h0, .int x1, .int x2] τ = b_open T (zF h0 qs ks T n) h0 qs ks x1 x2 τ := by
  rw [zF_at (f := zd_open) rfl]
  unfold zd_open
  simp only [if_true]
theorem zE_compares (h0 : Nat) (qs : List Nat) (ks : Nat → Nat) (T n : Nat) (x1 : Int32) (x2 : Int32) (τ : zSt) : zF h0 qs ks T (n + 1) 100 [.ref h0, .int x1, .int x2] τ = b_compares T (zF h0 qs ks T n) h0 qs ks x1 x2 τ := by
  rw [zF_at (f := zd_compares) rfl]
  unfold zd_compares
  simp only [if_true]
theorem zE_go (h0 : Nat) (qs : List Nat) (ks : Nat → Nat) (T n : Nat) (τ : zSt) : zF h0 qs ks T (n + 1) 101 [.ref h0] τ = b_go T (zF h0 qs ks T n) h0 qs ks τ := by
  rw [zF_at (f := zd_go) rfl]
  unfold zd_go
  simp only [if_true]
theorem zE_sized (h0 : Nat) (qs : List Nat) (ks : Nat → Nat) (T n : Nat) (x1 : Int32) (x2 : Int32) (τ : zSt) : zF h0 qs ks T (n + 1) 102 [.ref h0, .int x1, .int x2] τ = b_sized T (zF h0 qs ks T n) h0 qs ks x1 x2 τ := by
  rw [zF_at (f := zd_sized) rfl]
  unfold zd_sized
  simp only [if_true]
theorem zE_truth (h0 : Nat) (qs : List Nat) (ks : Nat → Nat) (T n : Nat) (x1 : Int32) (x2 : Int32) (τ : zSt) : zF h0 qs ks T (n + 1) 103 [.ref h0, .int x1, .int x2] τ = b_truth T (zF h0 qs ks T n) h0 qs ks x1 x2 τ := by
  rw [zF_at (f := zd_truth) rfl]
  unfold zd_truth
  simp only [if_true]
theorem zE_namesSaid (h0 : Nat) (qs : List Nat) (ks : Nat → Nat) (T n : Nat) (x1 : Int32) (τ : zSt) : zF h0 qs ks T (n + 1) 104 [.ref h0, .int x1] τ = b_namesSaid T (zF h0 qs ks T n) h0 qs ks x1 τ := by
  rw [zF_at (f := zd_namesSaid) rfl]
  unfold zd_namesSaid
  simp only [if_true]
theorem zE_namesIn (h0 : Nat) (qs : List Nat) (ks : Nat → Nat) (T n : Nat) (x1 : Int32) (τ : zSt) : zF h0 qs ks T (n + 1) 105 [.ref h0, .int x1] τ = b_namesIn T (zF h0 qs ks T n) h0 qs ks x1 τ := by
  rw [zF_at (f := zd_namesIn) rfl]
  unfold zd_namesIn
  simp only [if_true]
theorem zE_namesOfGone (h0 : Nat) (qs : List Nat) (ks : Nat → Nat) (T n : Nat) (x1 : Int32) (τ : zSt) : zF h0 qs ks T (n + 1) 106 [.ref h0, .int x1] τ = b_namesOfGone T (zF h0 qs ks T n) h0 qs ks x1 τ := by
  rw [zF_at (f := zd_namesOfGone) rfl]
  unfold zd_namesOfGone
  simp only [if_true]
theorem zE_under (h0 : Nat) (qs : List Nat) (ks : Nat → Nat) (T n : Nat) (x1 : Int32) (x2 : Int32) (x3 : Int32) (τ : zSt) : zF h0 qs ks T (n + 1) 107 [.ref h0, .int x1, .int x2, .int x3] τ = b_under T (zF h0 qs ks T n) h0 qs ks x1 x2 x3 τ := by
  rw [zF_at (f := zd_under) rfl]
  unfold zd_under
  simp only [if_true]
theorem zE_fit (h0 : Nat) (qs : List Nat) (ks : Nat → Nat) (T n : Nat) (x1 : Int32) (τ : zSt) : zF h0 qs ks T (n + 1) 108 [.ref h0, .int x1] τ = b_fit T (zF h0 qs ks T n) h0 qs ks x1 τ := by
  rw [zF_at (f := zd_fit) rfl]
  unfold zd_fit
  simp only [if_true]
theorem zE_isSo (h0 : Nat) (qs : List Nat) (ks : Nat → Nat) (T n : Nat) (x1 : Int32) (τ : zSt) : zF h0 qs ks T (n + 1) 109 [.ref h0, .int x1] τ = b_isSo T (zF h0 qs ks T n) h0 qs ks x1 τ := by
  rw [zF_at (f := zd_isSo) rfl]
  unfold zd_isSo
  simp only [if_true]
theorem zE_decide (h0 : Nat) (qs : List Nat) (ks : Nat → Nat) (T n : Nat) (τ : zSt) : zF h0 qs ks T (n + 1) 110 [.ref h0] τ = b_decide T (zF h0 qs ks T n) h0 qs ks τ := by
  rw [zF_at (f := zd_decide) rfl]
  unfold zd_decide
  simp only [if_true]
theorem zE_accepted (h0 : Nat) (qs : List Nat) (ks : Nat → Nat) (T n : Nat) (τ : zSt) : zF h0 qs ks T (n + 1) 111 [.ref h0] τ = b_accepted T (zF h0 qs ks T n) h0 qs ks τ := by
  rw [zF_at (f := zd_accepted) rfl]
  unfold zd_accepted
  simp only [if_true]
theorem zE_say (h0 : Nat) (qs : List Nat) (ks : Nat → Nat) (T n : Nat) (x1 : Int32) (τ : zSt) : zF h0 qs ks T (n + 1) 112 [.ref h0, .int x1] τ = b_say T (zF h0 qs ks T n) h0 qs ks x1 τ := by
  rw [zF_at (f := zd_say) rfl]
  unfold zd_say
  simp only [if_true]
theorem zE_sayWord (h0 : Nat) (qs : List Nat) (ks : Nat → Nat) (T n : Nat) (x1 : Nat) (τ : zSt) : zF h0 qs ks T (n + 1) 113 [.ref h0, .ref x1] τ = b_sayWord T (zF h0 qs ks T n) h0 qs ks x1 τ := by
  rw [zF_at (f := zd_sayWord) rfl]
  unfold zd_sayWord
  simp only [if_true]
theorem zE_sayNumber (h0 : Nat) (qs : List Nat) (ks : Nat → Nat) (T n : Nat) (x1 : Int64) (τ : zSt) : zF h0 qs ks T (n + 1) 114 [.ref h0, .long x1] τ = b_sayNumber T (zF h0 qs ks T n) h0 qs ks x1 τ := by
  rw [zF_at (f := zd_sayNumber) rfl]
  unfold zd_sayNumber
  simp only [if_true]
theorem zE_sayName (h0 : Nat) (qs : List Nat) (ks : Nat → Nat) (T n : Nat) (x1 : Int32) (τ : zSt) : zF h0 qs ks T (n + 1) 115 [.ref h0, .int x1] τ = b_sayName T (zF h0 qs ks T n) h0 qs ks x1 τ := by
  rw [zF_at (f := zd_sayName) rfl]
  unfold zd_sayName
  simp only [if_true]
theorem zE_sayFact (h0 : Nat) (qs : List Nat) (ks : Nat → Nat) (T n : Nat) (x1 : Int32) (x2 : Int32) (τ : zSt) : zF h0 qs ks T (n + 1) 116 [.ref h0, .int x1, .int x2] τ = b_sayFact T (zF h0 qs ks T n) h0 qs ks x1 x2 τ := by
  rw [zF_at (f := zd_sayFact) rfl]
  unfold zd_sayFact
  simp only [if_true]
theorem zE_sayType (h0 : Nat) (qs : List Nat) (ks : Nat → Nat) (T n : Nat) (x1 : Int32) (τ : zSt) : zF h0 qs ks T (n + 1) 117 [.ref h0, .int x1] τ = b_sayType T (zF h0 qs ks T n) h0 qs ks x1 τ := by
  rw [zF_at (f := zd_sayType) rfl]
  unfold zd_sayType
  simp only [if_true]
theorem zE_type (h0 : Nat) (qs : List Nat) (ks : Nat → Nat) (T n : Nat) (x1 : Int32) (τ : zSt) : zF h0 qs ks T (n + 1) 118 [.ref h0, .int x1] τ = b_type T (zF h0 qs ks T n) h0 qs ks x1 τ := by
  rw [zF_at (f := zd_type) rfl]
  unfold zd_type
  simp only [if_true]
theorem zE_give (h0 : Nat) (qs : List Nat) (ks : Nat → Nat) (T n : Nat) (x1 : Int32) (x2 : Int32) (τ : zSt) : zF h0 qs ks T (n + 1) 119 [.ref h0, .int x1, .int x2] τ = b_give T (zF h0 qs ks T n) h0 qs ks x1 x2 τ := by
  rw [zF_at (f := zd_give) rfl]
  unfold zd_give
  simp only [if_true]
theorem zE_element (h0 : Nat) (qs : List Nat) (ks : Nat → Nat) (T n : Nat) (x1 : Int32) (x2 : Int32) (x3 : Int32) (τ : zSt) : zF h0 qs ks T (n + 1) 120 [.ref h0, .int x1, .int x2, .int x3] τ = b_element T (zF h0 qs ks T n) h0 qs ks x1 x2 x3 τ := by
  rw [zF_at (f := zd_element) rfl]
  unfold zd_element
  simp only [if_true]
theorem zE_slot (h0 : Nat) (qs : List Nat) (ks : Nat → Nat) (T n : Nat) (x1 : Int32) (x2 : Int32) (x3 : Int32) (x4 : Int64) (τ : zSt) : zF h0 qs ks T (n + 1) 121 [.ref h0, .int x1, .int x2, .int x3, .long x4] τ = b_slot T (zF h0 qs ks T n) h0 qs ks x1 x2 x3 x4 τ := by
  rw [zF_at (f := zd_slot) rfl]
  unfold zd_slot
  simp only [if_true]
theorem zE_find (h0 : Nat) (qs : List Nat) (ks : Nat → Nat) (T n : Nat) (x1 : Int32) (x2 : Int32) (τ : zSt) : zF h0 qs ks T (n + 1) 122 [.ref h0, .int x1, .int x2] τ = b_find T (zF h0 qs ks T n) h0 qs ks x1 x2 τ := by
  rw [zF_at (f := zd_find) rfl]
  unfold zd_find
  simp only [if_true]
theorem zE_bounded (h0 : Nat) (qs : List Nat) (ks : Nat → Nat) (T n : Nat) (x1 : Int64) (τ : zSt) : zF h0 qs ks T (n + 1) 123 [.ref h0, .long x1] τ = b_bounded T (zF h0 qs ks T n) h0 qs ks x1 τ := by
  rw [zF_at (f := zd_bounded) rfl]
  unfold zd_bounded
  simp only [if_true]
theorem zE_sizeOf (h0 : Nat) (qs : List Nat) (ks : Nat → Nat) (T n : Nat) (x1 : Int32) (τ : zSt) : zF h0 qs ks T (n + 1) 124 [.ref h0, .int x1] τ = b_sizeOf T (zF h0 qs ks T n) h0 qs ks x1 τ := by
  rw [zF_at (f := zd_sizeOf) rfl]
  unfold zd_sizeOf
  simp only [if_true]
theorem zE_valueOf (h0 : Nat) (qs : List Nat) (ks : Nat → Nat) (T n : Nat) (x1 : Int32) (x2 : Int32) (τ : zSt) : zF h0 qs ks T (n + 1) 125 [.ref h0, .int x1, .int x2] τ = b_valueOf T (zF h0 qs ks T n) h0 qs ks x1 x2 τ := by
  rw [zF_at (f := zd_valueOf) rfl]
  unfold zd_valueOf
  simp only [if_true]
theorem zE_holds (h0 : Nat) (qs : List Nat) (ks : Nat → Nat) (T n : Nat) (x1 : Int32) (x2 : Int32) (τ : zSt) : zF h0 qs ks T (n + 1) 126 [.ref h0, .int x1, .int x2] τ = b_holds T (zF h0 qs ks T n) h0 qs ks x1 x2 τ := by
  rw [zF_at (f := zd_holds) rfl]
  unfold zd_holds
  simp only [if_true]
theorem zE_newArray (h0 : Nat) (qs : List Nat) (ks : Nat → Nat) (T n : Nat) (x1 : Int64) (τ : zSt) : zF h0 qs ks T (n + 1) 127 [.ref h0, .long x1] τ = b_newArray T (zF h0 qs ks T n) h0 qs ks x1 τ := by
  rw [zF_at (f := zd_newArray) rfl]
  unfold zd_newArray
  simp only [if_true]
theorem zE_is (h0 : Nat) (qs : List Nat) (ks : Nat → Nat) (T n : Nat) (x1 : Int32) (x2 : Int64) (τ : zSt) : zF h0 qs ks T (n + 1) 128 [.ref h0, .int x1, .long x2] τ = b_is T (zF h0 qs ks T n) h0 qs ks x1 x2 τ := by
  rw [zF_at (f := zd_is) rfl]
  unfold zd_is
  simp only [if_true]
theorem zE_function (h0 : Nat) (qs : List Nat) (ks : Nat → Nat) (T n : Nat) (x1 : Int32) (x2 : Int32) (τ : zSt) : zF h0 qs ks T (n + 1) 129 [.ref h0, .int x1, .int x2] τ = b_function T (zF h0 qs ks T n) h0 qs ks x1 x2 τ := by
  rw [zF_at (f := zd_function) rfl]
  unfold zd_function
  simp only [if_true]
theorem zE_todo (h0 : Nat) (qs : List Nat) (ks : Nat → Nat) (T n : Nat) (x1 : Int32) (x2 : Int32) (x3 : Int32) (τ : zSt) : zF h0 qs ks T (n + 1) 130 [.ref h0, .int x1, .int x2, .int x3] τ = b_todo T (zF h0 qs ks T n) h0 qs ks x1 x2 x3 τ := by
  rw [zF_at (f := zd_todo) rfl]
  unfold zd_todo
  simp only [if_true]
theorem zE_then (h0 : Nat) (qs : List Nat) (ks : Nat → Nat) (T n : Nat) (x1 : Int32) (x2 : Int32) (τ : zSt) : zF h0 qs ks T (n + 1) 131 [.ref h0, .int x1, .int x2] τ = b_then T (zF h0 qs ks T n) h0 qs ks x1 x2 τ := by
  rw [zF_at (f := zd_then) rfl]
  unfold zd_then
  simp only [if_true]
theorem zE_sumValue (h0 : Nat) (qs : List Nat) (ks : Nat → Nat) (T n : Nat) (x1 : Int32) (x2 : Int32) (τ : zSt) : zF h0 qs ks T (n + 1) 132 [.ref h0, .int x1, .int x2] τ = b_sumValue T (zF h0 qs ks T n) h0 qs ks x1 x2 τ := by
  rw [zF_at (f := zd_sumValue) rfl]
  unfold zd_sumValue
  simp only [if_true]
theorem zE_product (h0 : Nat) (qs : List Nat) (ks : Nat → Nat) (T n : Nat) (x0 : Int64) (x2 : Int64) (τ : zSt) : zF h0 qs ks T (n + 1) 133 [.long x0, .long x2] τ = b_product T (zF h0 qs ks T n) h0 qs ks x0 x2 τ := by
  rw [zF_at (f := zd_product) rfl]
  unfold zd_product
  rfl
theorem zE_applies (h0 : Nat) (qs : List Nat) (ks : Nat → Nat) (T n : Nat) (x1 : Int32) (τ : zSt) : zF h0 qs ks T (n + 1) 134 [.ref h0, .int x1] τ = b_applies T (zF h0 qs ks T n) h0 qs ks x1 τ := by
  rw [zF_at (f := zd_applies) rfl]
  unfold zd_applies
  simp only [if_true]
theorem zE_called (h0 : Nat) (qs : List Nat) (ks : Nat → Nat) (T n : Nat) (x1 : Int32) (x2 : Int32) (τ : zSt) : zF h0 qs ks T (n + 1) 135 [.ref h0, .int x1, .int x2] τ = b_called T (zF h0 qs ks T n) h0 qs ks x1 x2 τ := by
  rw [zF_at (f := zd_called) rfl]
  unfold zd_called
  simp only [if_true]
theorem zE_begun (h0 : Nat) (qs : List Nat) (ks : Nat → Nat) (T n : Nat) (x1 : Int32) (x2 : Int32) (τ : zSt) : zF h0 qs ks T (n + 1) 136 [.ref h0, .int x1, .int x2] τ = b_begun T (zF h0 qs ks T n) h0 qs ks x1 x2 τ := by
  rw [zF_at (f := zd_begun) rfl]
  unfold zd_begun
  simp only [if_true]
theorem zE_goesOn (h0 : Nat) (qs : List Nat) (ks : Nat → Nat) (T n : Nat) (τ : zSt) : zF h0 qs ks T (n + 1) 137 [.ref h0] τ = b_goesOn T (zF h0 qs ks T n) h0 qs ks τ := by
  rw [zF_at (f := zd_goesOn) rfl]
  unfold zd_goesOn
  simp only [if_true]
theorem zE_run (h0 : Nat) (qs : List Nat) (ks : Nat → Nat) (T n : Nat) (x1 : Int32) (τ : zSt) : zF h0 qs ks T (n + 1) 138 [.ref h0, .int x1] τ = b_run T (zF h0 qs ks T n) h0 qs ks x1 τ := by
  rw [zF_at (f := zd_run) rfl]
  unfold zd_run
  simp only [if_true]
theorem zE_value (h0 : Nat) (qs : List Nat) (ks : Nat → Nat) (T n : Nat) (τ : zSt) : zF h0 qs ks T (n + 1) 139 [.ref h0] τ = b_value T (zF h0 qs ks T n) h0 qs ks τ := by
  rw [zF_at (f := zd_value) rfl]
  unfold zd_value
  simp only [if_true]
theorem zE_fuel (h0 : Nat) (qs : List Nat) (ks : Nat → Nat) (T n : Nat) (τ : zSt) : zF h0 qs ks T (n + 1) 140 [.ref h0] τ = b_fuel T (zF h0 qs ks T n) h0 qs ks τ := by
  rw [zF_at (f := zd_fuel) rfl]
  unfold zd_fuel
  simp only [if_true]
