/-! the constructor of the reference: 122 rows of 0 (2262706 elements); row i and its class by two lists, in the order in which they are made -/
/-- what row i is as it is made -/
def zspl : List vp_A := [(2000, .inl (fun _ => 0)), (2000, .inl (fun _ => 0)), (16000, .inl (fun _ => 0)), (2010, .inl (fun _ => 0)), (2010, .inl (fun _ => 0)), (2010, .inl (fun _ => 0)), (2100, .inl (fun _ => 0)), (2100, .inl (fun _ => 0)), (2100, .inl (fun _ => 0)), (2100, .inl (fun _ => 0)), (2100, .inl (fun _ => 0)), (2100, .inl (fun _ => 0)), (2100, .inl (fun _ => 0)), (2100, .inl (fun _ => 0)), (2100, .inl (fun _ => 0)), (2100, .inl (fun _ => 0)), (2100, .inl (fun _ => 0)), (2100, .inl (fun _ => 0)), (2100, .inl (fun _ => 0)), (2100, .inl (fun _ => 0)), (2100, .inl (fun _ => 0)), (2100, .inl (fun _ => 0)), (6, .inl (fun _ => 0)), (6, .inl (fun _ => 0)), (6, .inl (fun _ => 0)), (6, .inl (fun _ => 0)), (6, .inl (fun _ => 0)), (6, .inl (fun _ => 0)), (6, .inl (fun _ => 0)), (600, .inl (fun _ => 0)), (700, .inl (fun _ => 0)), (700, .inl (fun _ => 0)), (2010, .inl (fun _ => 0)), (400, .inl (fun _ => 0)), (9000, .inl (fun _ => 0)), (9000, .inl (fun _ => 0)), (9000, .inl (fun _ => 0)), (9000, .inl (fun _ => 0)), (9000, .inl (fun _ => 0)), (2100, .inl (fun _ => 0)), (40, .inl (fun _ => 0)), (40, .inl (fun _ => 0)), (40000, .inl (fun _ => 0)), (40000, .inl (fun _ => 0)), (40000, .inl (fun _ => 0)), (40000, .inl (fun _ => 0)), (40000, .inl (fun _ => 0)), (24000, .inl (fun _ => 0)), (24000, .inl (fun _ => 0)), (24000, .inl (fun _ => 0)), (12000, .inl (fun _ => 0)), (12000, .inl (fun _ => 0)), (12000, .inl (fun _ => 0)), (12000, .inl (fun _ => 0)), (12000, .inr (.inl (fun _ => 0))), (24000, .inl (fun _ => 0)), (24000, .inl (fun _ => 0)), (24000, .inl (fun _ => 0)), (24000, .inl (fun _ => 0)), (24000, .inr (.inl (fun _ => 0))), (64, .inl (fun _ => 0)), (64, .inl (fun _ => 0)), (64, .inl (fun _ => 0)), (8000, .inl (fun _ => 0)), (8000, .inl (fun _ => 0)), (8000, .inl (fun _ => 0)), (1501, .inl (fun _ => 0)), (1501, .inl (fun _ => 0)), (12000, .inl (fun _ => 0)), (12000, .inl (fun _ => 0)), (12000, .inl (fun _ => 0)), (12000, .inl (fun _ => 0)), (12000, .inl (fun _ => 0)), (12000, .inl (fun _ => 0)), (700, .inl (fun _ => 0)), (12000, .inl (fun _ => 0)), (12000, .inl (fun _ => 0)), (12000, .inl (fun _ => 0)), (12000, .inl (fun _ => 0)), (2100, .inl (fun _ => 0)), (2100, .inl (fun _ => 0)), (2100, .inl (fun _ => 0)), (2100, .inl (fun _ => 0)), (2100, .inl (fun _ => 0)), (2100, .inl (fun _ => 0)), (60, .inl (fun _ => 0)), (60, .inl (fun _ => 0)), (25600, .inr (.inl (fun _ => 0))), (25600, .inr (.inl (fun _ => 0))), (1501, .inl (fun _ => 0)), (100, .inl (fun _ => 0)), (300, .inl (fun _ => 0)), (300, .inl (fun _ => 0)), (300, .inl (fun _ => 0)), (300, .inl (fun _ => 0)), (300, .inl (fun _ => 0)), (300, .inl (fun _ => 0)), (60, .inl (fun _ => 0)), (60, .inl (fun _ => 0)), (300, .inr (.inl (fun _ => 0))), (8000, .inl (fun _ => 0)), (16000, .inl (fun _ => 0)), (800, .inl (fun _ => 0)), (6, .inr (.inl (fun _ => 0))), (6000, .inr (.inl (fun _ => 0))), (260000, .inl (fun _ => 0)), (260000, .inl (fun _ => 0)), (260000, .inl (fun _ => 0)), (260000, .inr (.inl (fun _ => 0))), (60000, .inl (fun _ => 0)), (60000, .inl (fun _ => 0)), (60000, .inl (fun _ => 0)), (60000, .inl (fun _ => 0)), (21000, .inl (fun _ => 0)), (21000, .inl (fun _ => 0)), (11000, .inr (.inl (fun _ => 0))), (20000, .inl (fun _ => 0)), (20000, .inl (fun _ => 0)), (20000, .inl (fun _ => 0)), (20001, .inr (.inl (fun _ => 0))), (20001, .inl (fun _ => 0)), (20001, .inl (fun _ => 0))]
def zspf (i : Nat) : vp_A := zspl.getD i (0, .inl (fun _ => 0))
def ztyl : List FieldType := [.byte, .byte, .byte, .int, .int, .int, .int, .int, .int, .int, .int, .int, .int, .int, .int, .int, .int, .int, .int, .int, .int, .int, .int, .int, .int, .int, .int, .int, .int, .int, .int, .int, .int, .int, .int, .int, .int, .int, .int, .int, .int, .int, .int, .int, .int, .int, .int, .int, .int, .int, .int, .int, .int, .int, .long, .int, .int, .int, .int, .long, .int, .int, .int, .int, .int, .boolean, .boolean, .boolean, .int, .int, .int, .int, .int, .int, .int, .int, .int, .int, .int, .int, .int, .int, .int, .int, .int, .int, .int, .long, .long, .int, .int, .int, .int, .int, .int, .int, .int, .int, .int, .long, .boolean, .byte, .int, .long, .long, .int, .int, .int, .long, .int, .int, .int, .int, .int, .int, .long, .int, .int, .int, .long, .int, .int]
def ztyf (i : Nat) : FieldType := ztyl.getD i .int
/-- the field that row i lies in -/
def zkl : List Nat := [0, 1, 2, 6, 7, 8, 13, 14, 15, 16, 17, 18, 19, 21, 22, 23, 25, 26, 27, 29, 30, 31, 34, 35, 36, 37, 38, 40, 41, 44, 46, 47, 48, 49, 53, 54, 55, 56, 57, 58, 61, 62, 70, 71, 72, 73, 74, 76, 77, 78, 80, 81, 82, 83, 84, 86, 87, 88, 89, 90, 92, 93, 94, 95, 96, 97, 101, 102, 103, 104, 105, 106, 107, 108, 111, 112, 113, 114, 115, 117, 118, 119, 120, 121, 122, 124, 125, 127, 128, 129, 130, 142, 143, 145, 146, 147, 148, 149, 150, 151, 156, 157, 159, 161, 162, 167, 168, 169, 170, 172, 173, 174, 175, 177, 178, 179, 182, 183, 184, 185, 186, 187]
def zki (i : Nat) : Nat := zkl.getD i 0
def zarr (qs : List Nat) (cs : List ClassId) : va_W := (List.range qs.length).map (fun i => (qs.getD i 0, .inl (cs.getD i 0, zspf i)))
def ztys (cs : List ClassId) : List (ClassId × FieldType) := (List.range cs.length).map (fun i => (cs.getD i 0, ztyf i))
def zput (fs : List Value) (qs : List Nat) : List Value := (List.range qs.length).foldl (fun f i => f.set (zki i) (.ref (qs.getD i 0))) fs
theorem zl_snoc {α : Type} {l : List α} {a : α} {k : Nat} (h : l.length = k) : (l ++ [a]).length = k + 1 := by rw [List.length_append, h]; rfl
theorem zg_lo {α : Type} {l : List α} {a d : α} {k i : Nat} (h : l.length = k) (hi : i < k) : (l ++ [a]).getD i d = l.getD i d := by
  rw [List.getD_eq_getElem?_getD, List.getD_eq_getElem?_getD, List.getElem?_append_left (by omega)]
theorem zg_hi {α : Type} {l : List α} {a d : α} {k : Nat} (h : l.length = k) : (l ++ [a]).getD k d = a := by
  rw [List.getD_eq_getElem?_getD, List.getElem?_append_right (by omega), h, Nat.sub_self]; rfl
theorem zarr_snoc {qs : List Nat} {cs : List ClassId} {q : Nat} {c : ClassId} {k : Nat} (hq : qs.length = k) (hc : cs.length = k) : zarr (qs ++ [q]) (cs ++ [c]) = zarr qs cs ++ [(q, .inl (c, zspf k))] := by
  unfold zarr
  rw [zl_snoc hq, List.range_succ, List.map_append, hq]
  refine congr (congrArg HAppend.hAppend (List.map_congr_left (fun i hi => ?_))) ?_
  · rw [zg_lo hq (List.mem_range.mp hi), zg_lo hc (List.mem_range.mp hi)]
  · simp only [List.map_cons, List.map_nil]
    rw [zg_hi hq, zg_hi hc]
theorem ztys_snoc {cs : List ClassId} {c : ClassId} {k : Nat} (hc : cs.length = k) : ztys (cs ++ [c]) = ztys cs ++ [(c, ztyf k)] := by
  unfold ztys
  rw [zl_snoc hc, List.range_succ, List.map_append, hc]
  refine congr (congrArg HAppend.hAppend (List.map_congr_left (fun i hi => ?_))) ?_
  · rw [zg_lo hc (List.mem_range.mp hi)]
  · simp only [List.map_cons, List.map_nil]
    rw [zg_hi hc]
theorem zput_fold {fs : List Value} {g h : Nat → Nat} : ∀ (l : List Nat), (∀ i ∈ l, g i = h i) → l.foldl (fun f i => f.set (zki i) (.ref (g i))) fs = l.foldl (fun f i => f.set (zki i) (.ref (h i))) fs := by
  intro l
  induction l generalizing fs with
  | nil => intro _; rfl
  | cons a l ih =>
    intro hl
    rw [List.foldl_cons, List.foldl_cons, hl a List.mem_cons_self]
    exact ih (fun i hi => hl i (List.mem_cons_of_mem _ hi))
theorem zput_snoc {fs : List Value} {qs : List Nat} {q k : Nat} (hq : qs.length = k) : zput fs (qs ++ [q]) = (zput fs qs).set (zki k) (.ref q) := by
  unfold zput
  rw [zl_snoc hq, List.range_succ, List.foldl_append, hq]
  simp only [List.foldl_cons, List.foldl_nil]
  rw [zg_hi hq]
  exact congrArg (fun f : List Value => f.set (zki k) (.ref q)) (zput_fold _ (fun i hi => zg_lo hq (List.mem_range.mp hi)))
theorem zput_comm_l {v : Value} {p : Nat} {g : Nat → Nat} : ∀ (l : List Nat) (fs : List Value), (∀ i ∈ l, zki i ≠ p) → (l.foldl (fun f i => f.set (zki i) (.ref (g i))) fs).set p v = l.foldl (fun f i => f.set (zki i) (.ref (g i))) (fs.set p v) := by
  intro l
  induction l with
  | nil => intro fs _; rfl
  | cons a l ih =>
    intro fs hl
    rw [List.foldl_cons, List.foldl_cons, ih _ (fun i hi => hl i (List.mem_cons_of_mem _ hi)), List.set_comm _ _ (hl a List.mem_cons_self)]
theorem zput_comm {fs : List Value} {qs : List Nat} {v : Value} {p k : Nat} (hq : qs.length = k) (h : ∀ i ∈ List.range k, zki i ≠ p) : (zput fs qs).set p v = zput (fs.set p v) qs := by
  unfold zput
  rw [hq]
  exact zput_comm_l _ _ h
theorem iw_X13_init_X13 : ∀ w ∈ wsX130, w ∈ wsX13_init := fun w h => List.mem_cons_of_mem _ (List.mem_append_right _ h)
set_option maxHeartbeats 4000000 in
set_option maxRecDepth 100000 in
/-- LiquidTongueModel() -/
theorem c_X13_init (l : Launch) (dC : Nat → ClassId) (dI : Nat → Nat → Nat) (sz : Nat) (h0 : Nat) (fs : List Value) (hlfs : fs.length = 196) : Met l yX13_init wsX13_init ({ frames := 1, cells := 122, slots := 2262706, locals := 12 }) (zPc dC dI sz [.ref h0] [(h0, .inr (15, fs))] []) (va_Qv (fun u : List Nat × List ClassId => u.1.length = 122 ∧ u.2.length = 122) (zB dC dI (fun u => ztys u.2) (fun u : List Nat × List ClassId => (h0, .inr (15, zput (fs.set 69 (.int (-1))) u.1)) :: zarr u.1 u.2) (va_A [(h0, .inr (15, fs))] sz)) (va_A [(h0, .inr (15, fs))] sz)) 122 2262706 (va_A [(h0, .inr (15, fs))] sz) := by
  refine Met.ofW (cc := cX13_init) (maxL := 1) (ret := none) (by decide) rfl ?_
  intro p e s m args below meth c s₁ B hml hv
  obtain ⟨rfl, hsz, hP, hK, hD0⟩ := hv
  have hx := B.exec
  have hb := B.bytes
  have hr := B.returns
  have hts := atoms_spec (ws := wsX13_init) B.pre
  have hown : s.vm.findClass RX13 = some m.cls := findClass_of_methodNamed B.named
  have hlocks := B.notSynchronized
  have hin : meth.name = "<init>" := (name_of_methodNamed B.named B.method).1
  subst hsz
  have hD := hD0.self (sz := s.heap.size)
  generalize hAe : va_A [(h0, .inr (15, fs))] s.heap.size = A at hD ⊢
  have hA : ∀ q : Nat, s.heap.size ≤ q → A q := fun q h => by rw [← hAe]; exact Or.inr h
  have hS : va_S A s.heap s.heap [] := va_S.rf
  have hP : va_P (dC, dI) vwCl [(h0, .inr (15, fs))] s.heap := hP
  have hl := lv_entry ([.ref h0]) (n := 1) (Nat.le_of_ble_eq_true rfl)
  rw [lg_entry_eq]
  generalize (lg_sl ([.ref h0]) ++ List.replicate (1 - (lg_sl ([.ref h0])).length) Slot.unset).toArray = ls at hl ⊢
  have hl : lv_has ls 1 [(0, .ref h0)] := hl
  have gfs : fs = zput fs [] := rfl
  refine lv_aload_n hx hb dX13_init_0 rfl (lv_at hl 0 rfl) ?_
  refine W.objInit hx hb hown (hts (.methodLink RX13 3 objectInit) (by decide +kernel)) (hts (.instanceMethod objectInit) (by decide +kernel)) (hts (.code objectInit ⟨#[0xb1]⟩ 1 none) (by decide +kernel)) rfl (by rw [hml]; exact hl.1) rfl dX13_init_1 (Nat.le_of_ble_eq_true rfl) (Nat.le_of_ble_eq_true rfl) ?_
  refine W.eq (g2 := F0 m 4 ls []) rfl ?_
  refine lv_aload_n hx hb dX13_init_4 rfl (lv_at hl 0 rfl) ?_
  refine lv_sipush (v := 2000) hx hb dX13_init_5 (by decide) ?_
  refine va_newa (atype := .byte) (ty := .byte) (N' := 2000) (a0 := (2000, .inl (fun _ => 0))) hx hb (hts (.arrayClass .byte) (by decide +kernel)) rfl hK hP hD hS hA (fun cA => rfl) (by decide) (by decide) (Nat.le_of_ble_eq_true rfl) (Nat.le_of_ble_eq_true rfl) (Nat.le_of_ble_eq_true rfl) dX13_init_8 (fun q_1 cA_2 H hK hP hD hS => ?_)
  obtain ⟨qs_3, eqs_3⟩ : ∃ z : List Nat, z = [] ++ [q_1] := ⟨_, rfl⟩
  obtain ⟨cs_4, ecs_4⟩ : ∃ z : List ClassId, z = [] ++ [cA_2] := ⟨_, rfl⟩
  have hqs_3 : qs_3.length = 1 := by rw [eqs_3]; exact zl_snoc rfl
  have hcs_4 : cs_4.length = 1 := by rw [ecs_4]; exact zl_snoc rfl
  have hP : va_P (dC, dI) vwCl ((h0, .inr (15, fs)) :: zarr qs_3 cs_4) H := by rw [eqs_3, ecs_4, zarr_snoc rfl rfl]; exact hP
  have hD : va_D A ((h0, .inr (15, fs)) :: zarr qs_3 cs_4) := by rw [eqs_3, ecs_4, zarr_snoc rfl rfl]; exact hD
  have hK : va_K (dC, dI) vwCl (ztys cs_4) s := by rw [ecs_4, ztys_snoc rfl]; exact hK
  refine W.widen (k := 1) (n := 2000) (Nat.le_of_ble_eq_true rfl) (Nat.le_of_ble_eq_true rfl) ?_
  refine va_putF (D := (dC, dI)) (ci := 15) (v := .ref q_1) (ty := .array .byte) (C := RX13) (T := TX13) (N := 196) hx hb hts iw_X13_init_X13 tyX13 tyX13_ok nmX13 hown hK hP hD hS 0 rfl rfl 0 (by decide) (hts (.fieldLink RX13 9 "LiquidTongueModel" "tape" "[B") (by decide +kernel)) (fun _ h9 => h9) rfl hin rfl (by decide +kernel) rfl rfl (zs_lt hlfs (by decide)) dX13_init_10 (fun H locs hP hD hS => ?_)
  obtain ⟨f_5, ef_5⟩ : ∃ z : List Value, z = fs.set 0 (.ref q_1) := ⟨_, rfl⟩
  have hlf_5 : f_5.length = 196 := by rw [ef_5]; exact zs_len hlfs
  have gf_5 : f_5 = zput fs qs_3 := by rw [ef_5, gfs, eqs_3, zput_snoc rfl]; rfl
  have hP : va_P (dC, dI) vwCl ((h0, .inr (15, f_5)) :: zarr qs_3 cs_4) H := by rw [ef_5]; exact hP
  have hD : va_D A ((h0, .inr (15, f_5)) :: zarr qs_3 cs_4) := by rw [ef_5]; exact hD
  refine lv_aload_n hx hb dX13_init_13 rfl (lv_at hl 0 rfl) ?_
  refine lv_sipush (v := 2000) hx hb dX13_init_14 (by decide) ?_
  refine va_newa (atype := .byte) (ty := .byte) (N' := 2000) (a0 := (2000, .inl (fun _ => 0))) hx hb (hts (.arrayClass .byte) (by decide +kernel)) rfl hK hP hD hS hA (fun cA => rfl) (by decide) (by decide) (Nat.le_of_ble_eq_true rfl) (Nat.le_of_ble_eq_true rfl) (Nat.le_of_ble_eq_true rfl) dX13_init_17 (fun q_6 cA_7 H hK hP hD hS => ?_)
  obtain ⟨qs_8, eqs_8⟩ : ∃ z : List Nat, z = qs_3 ++ [q_6] := ⟨_, rfl⟩
  obtain ⟨cs_9, ecs_9⟩ : ∃ z : List ClassId, z = cs_4 ++ [cA_7] := ⟨_, rfl⟩
  have hqs_8 : qs_8.length = 2 := by rw [eqs_8]; exact zl_snoc hqs_3
  have hcs_9 : cs_9.length = 2 := by rw [ecs_9]; exact zl_snoc hcs_4
  have hP : va_P (dC, dI) vwCl ((h0, .inr (15, f_5)) :: zarr qs_8 cs_9) H := by rw [eqs_8, ecs_9, zarr_snoc hqs_3 hcs_4]; exact hP
  have hD : va_D A ((h0, .inr (15, f_5)) :: zarr qs_8 cs_9) := by rw [eqs_8, ecs_9, zarr_snoc hqs_3 hcs_4]; exact hD
  have hK : va_K (dC, dI) vwCl (ztys cs_9) s := by rw [ecs_9, ztys_snoc hcs_4]; exact hK
  refine W.widen (k := 2) (n := 4000) (Nat.le_of_ble_eq_true rfl) (Nat.le_of_ble_eq_true rfl) ?_
  refine va_putF (D := (dC, dI)) (ci := 15) (v := .ref q_6) (ty := .array .byte) (C := RX13) (T := TX13) (N := 196) hx hb hts iw_X13_init_X13 tyX13 tyX13_ok nmX13 hown hK hP hD hS 0 rfl rfl 1 (by decide) (hts (.fieldLink RX13 13 "LiquidTongueModel" "text" "[B") (by decide +kernel)) (fun _ h9 => h9) rfl hin rfl (by decide +kernel) rfl rfl (zs_lt hlf_5 (by decide)) dX13_init_19 (fun H locs hP hD hS => ?_)
  obtain ⟨f_10, ef_10⟩ : ∃ z : List Value, z = f_5.set 1 (.ref q_6) := ⟨_, rfl⟩
  have hlf_10 : f_10.length = 196 := by rw [ef_10]; exact zs_len hlf_5
  have gf_10 : f_10 = zput fs qs_8 := by rw [ef_10, gf_5, eqs_8, zput_snoc hqs_3]; rfl
  have hP : va_P (dC, dI) vwCl ((h0, .inr (15, f_10)) :: zarr qs_8 cs_9) H := by rw [ef_10]; exact hP
  have hD : va_D A ((h0, .inr (15, f_10)) :: zarr qs_8 cs_9) := by rw [ef_10]; exact hD
  refine lv_aload_n hx hb dX13_init_22 rfl (lv_at hl 0 rfl) ?_
  refine lv_sipush (v := 16000) hx hb dX13_init_23 (by decide) ?_
  refine va_newa (atype := .byte) (ty := .byte) (N' := 16000) (a0 := (16000, .inl (fun _ => 0))) hx hb (hts (.arrayClass .byte) (by decide +kernel)) rfl hK hP hD hS hA (fun cA => rfl) (by decide) (by decide) (Nat.le_of_ble_eq_true rfl) (Nat.le_of_ble_eq_true rfl) (Nat.le_of_ble_eq_true rfl) dX13_init_26 (fun q_11 cA_12 H hK hP hD hS => ?_)
  obtain ⟨qs_13, eqs_13⟩ : ∃ z : List Nat, z = qs_8 ++ [q_11] := ⟨_, rfl⟩
  obtain ⟨cs_14, ecs_14⟩ : ∃ z : List ClassId, z = cs_9 ++ [cA_12] := ⟨_, rfl⟩
  have hqs_13 : qs_13.length = 3 := by rw [eqs_13]; exact zl_snoc hqs_8
  have hcs_14 : cs_14.length = 3 := by rw [ecs_14]; exact zl_snoc hcs_9
  have hP : va_P (dC, dI) vwCl ((h0, .inr (15, f_10)) :: zarr qs_13 cs_14) H := by rw [eqs_13, ecs_14, zarr_snoc hqs_8 hcs_9]; exact hP
  have hD : va_D A ((h0, .inr (15, f_10)) :: zarr qs_13 cs_14) := by rw [eqs_13, ecs_14, zarr_snoc hqs_8 hcs_9]; exact hD
  have hK : va_K (dC, dI) vwCl (ztys cs_14) s := by rw [ecs_14, ztys_snoc hcs_9]; exact hK
  refine W.widen (k := 3) (n := 20000) (Nat.le_of_ble_eq_true rfl) (Nat.le_of_ble_eq_true rfl) ?_
  refine va_putF (D := (dC, dI)) (ci := 15) (v := .ref q_11) (ty := .array .byte) (C := RX13) (T := TX13) (N := 196) hx hb hts iw_X13_init_X13 tyX13 tyX13_ok nmX13 hown hK hP hD hS 0 rfl rfl 2 (by decide) (hts (.fieldLink RX13 16 "LiquidTongueModel" "outs" "[B") (by decide +kernel)) (fun _ h9 => h9) rfl hin rfl (by decide +kernel) rfl rfl (zs_lt hlf_10 (by decide)) dX13_init_28 (fun H locs hP hD hS => ?_)
  obtain ⟨f_15, ef_15⟩ : ∃ z : List Value, z = f_10.set 2 (.ref q_11) := ⟨_, rfl⟩
  have hlf_15 : f_15.length = 196 := by rw [ef_15]; exact zs_len hlf_10
  have gf_15 : f_15 = zput fs qs_13 := by rw [ef_15, gf_10, eqs_13, zput_snoc hqs_8]; rfl
  have hP : va_P (dC, dI) vwCl ((h0, .inr (15, f_15)) :: zarr qs_13 cs_14) H := by rw [ef_15]; exact hP
  have hD : va_D A ((h0, .inr (15, f_15)) :: zarr qs_13 cs_14) := by rw [ef_15]; exact hD
  refine lv_aload_n hx hb dX13_init_31 rfl (lv_at hl 0 rfl) ?_
  refine lv_sipush (v := 2010) hx hb dX13_init_32 (by decide) ?_
  refine va_newa (atype := .int) (ty := .int) (N' := 2010) (a0 := (2010, .inl (fun _ => 0))) hx hb (hts (.arrayClass .int) (by decide +kernel)) rfl hK hP hD hS hA (fun cA => rfl) (by decide) (by decide) (Nat.le_of_ble_eq_true rfl) (Nat.le_of_ble_eq_true rfl) (Nat.le_of_ble_eq_true rfl) dX13_init_35 (fun q_16 cA_17 H hK hP hD hS => ?_)
  obtain ⟨qs_18, eqs_18⟩ : ∃ z : List Nat, z = qs_13 ++ [q_16] := ⟨_, rfl⟩
  obtain ⟨cs_19, ecs_19⟩ : ∃ z : List ClassId, z = cs_14 ++ [cA_17] := ⟨_, rfl⟩
  have hqs_18 : qs_18.length = 4 := by rw [eqs_18]; exact zl_snoc hqs_13
  have hcs_19 : cs_19.length = 4 := by rw [ecs_19]; exact zl_snoc hcs_14
  have hP : va_P (dC, dI) vwCl ((h0, .inr (15, f_15)) :: zarr qs_18 cs_19) H := by rw [eqs_18, ecs_19, zarr_snoc hqs_13 hcs_14]; exact hP
  have hD : va_D A ((h0, .inr (15, f_15)) :: zarr qs_18 cs_19) := by rw [eqs_18, ecs_19, zarr_snoc hqs_13 hcs_14]; exact hD
  have hK : va_K (dC, dI) vwCl (ztys cs_19) s := by rw [ecs_19, ztys_snoc hcs_14]; exact hK
  refine W.widen (k := 4) (n := 22010) (Nat.le_of_ble_eq_true rfl) (Nat.le_of_ble_eq_true rfl) ?_
  refine va_putF (D := (dC, dI)) (ci := 15) (v := .ref q_16) (ty := .array .int) (C := RX13) (T := TX13) (N := 196) hx hb hts iw_X13_init_X13 tyX13 tyX13_ok nmX13 hown hK hP hD hS 0 rfl rfl 6 (by decide) (hts (.fieldLink RX13 19 "LiquidTongueModel" "wKind" "[I") (by decide +kernel)) (fun _ h9 => h9) rfl hin rfl (by decide +kernel) rfl rfl (zs_lt hlf_15 (by decide)) dX13_init_37 (fun H locs hP hD hS => ?_)
  obtain ⟨f_20, ef_20⟩ : ∃ z : List Value, z = f_15.set 6 (.ref q_16) := ⟨_, rfl⟩
  have hlf_20 : f_20.length = 196 := by rw [ef_20]; exact zs_len hlf_15
  have gf_20 : f_20 = zput fs qs_18 := by rw [ef_20, gf_15, eqs_18, zput_snoc hqs_13]; rfl
  have hP : va_P (dC, dI) vwCl ((h0, .inr (15, f_20)) :: zarr qs_18 cs_19) H := by rw [ef_20]; exact hP
  have hD : va_D A ((h0, .inr (15, f_20)) :: zarr qs_18 cs_19) := by rw [ef_20]; exact hD
  refine lv_aload_n hx hb dX13_init_40 rfl (lv_at hl 0 rfl) ?_
  refine lv_sipush (v := 2010) hx hb dX13_init_41 (by decide) ?_
  refine va_newa (atype := .int) (ty := .int) (N' := 2010) (a0 := (2010, .inl (fun _ => 0))) hx hb (hts (.arrayClass .int) (by decide +kernel)) rfl hK hP hD hS hA (fun cA => rfl) (by decide) (by decide) (Nat.le_of_ble_eq_true rfl) (Nat.le_of_ble_eq_true rfl) (Nat.le_of_ble_eq_true rfl) dX13_init_44 (fun q_21 cA_22 H hK hP hD hS => ?_)
  obtain ⟨qs_23, eqs_23⟩ : ∃ z : List Nat, z = qs_18 ++ [q_21] := ⟨_, rfl⟩
  obtain ⟨cs_24, ecs_24⟩ : ∃ z : List ClassId, z = cs_19 ++ [cA_22] := ⟨_, rfl⟩
  have hqs_23 : qs_23.length = 5 := by rw [eqs_23]; exact zl_snoc hqs_18
  have hcs_24 : cs_24.length = 5 := by rw [ecs_24]; exact zl_snoc hcs_19
  have hP : va_P (dC, dI) vwCl ((h0, .inr (15, f_20)) :: zarr qs_23 cs_24) H := by rw [eqs_23, ecs_24, zarr_snoc hqs_18 hcs_19]; exact hP
  have hD : va_D A ((h0, .inr (15, f_20)) :: zarr qs_23 cs_24) := by rw [eqs_23, ecs_24, zarr_snoc hqs_18 hcs_19]; exact hD
  have hK : va_K (dC, dI) vwCl (ztys cs_24) s := by rw [ecs_24, ztys_snoc hcs_19]; exact hK
  refine W.widen (k := 5) (n := 24020) (Nat.le_of_ble_eq_true rfl) (Nat.le_of_ble_eq_true rfl) ?_
  refine va_putF (D := (dC, dI)) (ci := 15) (v := .ref q_21) (ty := .array .int) (C := RX13) (T := TX13) (N := 196) hx hb hts iw_X13_init_X13 tyX13 tyX13_ok nmX13 hown hK hP hD hS 0 rfl rfl 7 (by decide) (hts (.fieldLink RX13 23 "LiquidTongueModel" "wAt" "[I") (by decide +kernel)) (fun _ h9 => h9) rfl hin rfl (by decide +kernel) rfl rfl (zs_lt hlf_20 (by decide)) dX13_init_46 (fun H locs hP hD hS => ?_)
  obtain ⟨f_25, ef_25⟩ : ∃ z : List Value, z = f_20.set 7 (.ref q_21) := ⟨_, rfl⟩
  have hlf_25 : f_25.length = 196 := by rw [ef_25]; exact zs_len hlf_20
  have gf_25 : f_25 = zput fs qs_23 := by rw [ef_25, gf_20, eqs_23, zput_snoc hqs_18]; rfl
  have hP : va_P (dC, dI) vwCl ((h0, .inr (15, f_25)) :: zarr qs_23 cs_24) H := by rw [ef_25]; exact hP
  have hD : va_D A ((h0, .inr (15, f_25)) :: zarr qs_23 cs_24) := by rw [ef_25]; exact hD
  refine lv_aload_n hx hb dX13_init_49 rfl (lv_at hl 0 rfl) ?_
  refine lv_sipush (v := 2010) hx hb dX13_init_50 (by decide) ?_
  refine va_newa (atype := .int) (ty := .int) (N' := 2010) (a0 := (2010, .inl (fun _ => 0))) hx hb (hts (.arrayClass .int) (by decide +kernel)) rfl hK hP hD hS hA (fun cA => rfl) (by decide) (by decide) (Nat.le_of_ble_eq_true rfl) (Nat.le_of_ble_eq_true rfl) (Nat.le_of_ble_eq_true rfl) dX13_init_53 (fun q_26 cA_27 H hK hP hD hS => ?_)
  obtain ⟨qs_28, eqs_28⟩ : ∃ z : List Nat, z = qs_23 ++ [q_26] := ⟨_, rfl⟩
  obtain ⟨cs_29, ecs_29⟩ : ∃ z : List ClassId, z = cs_24 ++ [cA_27] := ⟨_, rfl⟩
  have hqs_28 : qs_28.length = 6 := by rw [eqs_28]; exact zl_snoc hqs_23
  have hcs_29 : cs_29.length = 6 := by rw [ecs_29]; exact zl_snoc hcs_24
  have hP : va_P (dC, dI) vwCl ((h0, .inr (15, f_25)) :: zarr qs_28 cs_29) H := by rw [eqs_28, ecs_29, zarr_snoc hqs_23 hcs_24]; exact hP
  have hD : va_D A ((h0, .inr (15, f_25)) :: zarr qs_28 cs_29) := by rw [eqs_28, ecs_29, zarr_snoc hqs_23 hcs_24]; exact hD
  have hK : va_K (dC, dI) vwCl (ztys cs_29) s := by rw [ecs_29, ztys_snoc hcs_24]; exact hK
  refine W.widen (k := 6) (n := 26030) (Nat.le_of_ble_eq_true rfl) (Nat.le_of_ble_eq_true rfl) ?_
  refine va_putF (D := (dC, dI)) (ci := 15) (v := .ref q_26) (ty := .array .int) (C := RX13) (T := TX13) (N := 196) hx hb hts iw_X13_init_X13 tyX13 tyX13_ok nmX13 hown hK hP hD hS 0 rfl rfl 8 (by decide) (hts (.fieldLink RX13 26 "LiquidTongueModel" "wEnd" "[I") (by decide +kernel)) (fun _ h9 => h9) rfl hin rfl (by decide +kernel) rfl rfl (zs_lt hlf_25 (by decide)) dX13_init_55 (fun H locs hP hD hS => ?_)
  obtain ⟨f_30, ef_30⟩ : ∃ z : List Value, z = f_25.set 8 (.ref q_26) := ⟨_, rfl⟩
  have hlf_30 : f_30.length = 196 := by rw [ef_30]; exact zs_len hlf_25
  have gf_30 : f_30 = zput fs qs_28 := by rw [ef_30, gf_25, eqs_28, zput_snoc hqs_23]; rfl
  have hP : va_P (dC, dI) vwCl ((h0, .inr (15, f_30)) :: zarr qs_28 cs_29) H := by rw [ef_30]; exact hP
  have hD : va_D A ((h0, .inr (15, f_30)) :: zarr qs_28 cs_29) := by rw [ef_30]; exact hD
  refine lv_aload_n hx hb dX13_init_58 rfl (lv_at hl 0 rfl) ?_
  refine lv_sipush (v := 2100) hx hb dX13_init_59 (by decide) ?_
  refine va_newa (atype := .int) (ty := .int) (N' := 2100) (a0 := (2100, .inl (fun _ => 0))) hx hb (hts (.arrayClass .int) (by decide +kernel)) rfl hK hP hD hS hA (fun cA => rfl) (by decide) (by decide) (Nat.le_of_ble_eq_true rfl) (Nat.le_of_ble_eq_true rfl) (Nat.le_of_ble_eq_true rfl) dX13_init_62 (fun q_31 cA_32 H hK hP hD hS => ?_)
  obtain ⟨qs_33, eqs_33⟩ : ∃ z : List Nat, z = qs_28 ++ [q_31] := ⟨_, rfl⟩
  obtain ⟨cs_34, ecs_34⟩ : ∃ z : List ClassId, z = cs_29 ++ [cA_32] := ⟨_, rfl⟩
  have hqs_33 : qs_33.length = 7 := by rw [eqs_33]; exact zl_snoc hqs_28
  have hcs_34 : cs_34.length = 7 := by rw [ecs_34]; exact zl_snoc hcs_29
  have hP : va_P (dC, dI) vwCl ((h0, .inr (15, f_30)) :: zarr qs_33 cs_34) H := by rw [eqs_33, ecs_34, zarr_snoc hqs_28 hcs_29]; exact hP
  have hD : va_D A ((h0, .inr (15, f_30)) :: zarr qs_33 cs_34) := by rw [eqs_33, ecs_34, zarr_snoc hqs_28 hcs_29]; exact hD
  have hK : va_K (dC, dI) vwCl (ztys cs_34) s := by rw [ecs_34, ztys_snoc hcs_29]; exact hK
  refine W.widen (k := 7) (n := 28130) (Nat.le_of_ble_eq_true rfl) (Nat.le_of_ble_eq_true rfl) ?_
  refine va_putF (D := (dC, dI)) (ci := 15) (v := .ref q_31) (ty := .array .int) (C := RX13) (T := TX13) (N := 196) hx hb hts iw_X13_init_X13 tyX13 tyX13_ok nmX13 hown hK hP hD hS 0 rfl rfl 13 (by decide) (hts (.fieldLink RX13 29 "LiquidTongueModel" "kind" "[I") (by decide +kernel)) (fun _ h9 => h9) rfl hin rfl (by decide +kernel) rfl rfl (zs_lt hlf_30 (by decide)) dX13_init_64 (fun H locs hP hD hS => ?_)
  obtain ⟨f_35, ef_35⟩ : ∃ z : List Value, z = f_30.set 13 (.ref q_31) := ⟨_, rfl⟩
  have hlf_35 : f_35.length = 196 := by rw [ef_35]; exact zs_len hlf_30
  have gf_35 : f_35 = zput fs qs_33 := by rw [ef_35, gf_30, eqs_33, zput_snoc hqs_28]; rfl
  have hP : va_P (dC, dI) vwCl ((h0, .inr (15, f_35)) :: zarr qs_33 cs_34) H := by rw [ef_35]; exact hP
  have hD : va_D A ((h0, .inr (15, f_35)) :: zarr qs_33 cs_34) := by rw [ef_35]; exact hD
  refine lv_aload_n hx hb dX13_init_67 rfl (lv_at hl 0 rfl) ?_
  refine lv_sipush (v := 2100) hx hb dX13_init_68 (by decide) ?_
  refine va_newa (atype := .int) (ty := .int) (N' := 2100) (a0 := (2100, .inl (fun _ => 0))) hx hb (hts (.arrayClass .int) (by decide +kernel)) rfl hK hP hD hS hA (fun cA => rfl) (by decide) (by decide) (Nat.le_of_ble_eq_true rfl) (Nat.le_of_ble_eq_true rfl) (Nat.le_of_ble_eq_true rfl) dX13_init_71 (fun q_36 cA_37 H hK hP hD hS => ?_)
  obtain ⟨qs_38, eqs_38⟩ : ∃ z : List Nat, z = qs_33 ++ [q_36] := ⟨_, rfl⟩
  obtain ⟨cs_39, ecs_39⟩ : ∃ z : List ClassId, z = cs_34 ++ [cA_37] := ⟨_, rfl⟩
  have hqs_38 : qs_38.length = 8 := by rw [eqs_38]; exact zl_snoc hqs_33
  have hcs_39 : cs_39.length = 8 := by rw [ecs_39]; exact zl_snoc hcs_34
  have hP : va_P (dC, dI) vwCl ((h0, .inr (15, f_35)) :: zarr qs_38 cs_39) H := by rw [eqs_38, ecs_39, zarr_snoc hqs_33 hcs_34]; exact hP
  have hD : va_D A ((h0, .inr (15, f_35)) :: zarr qs_38 cs_39) := by rw [eqs_38, ecs_39, zarr_snoc hqs_33 hcs_34]; exact hD
  have hK : va_K (dC, dI) vwCl (ztys cs_39) s := by rw [ecs_39, ztys_snoc hcs_34]; exact hK
  refine W.widen (k := 8) (n := 30230) (Nat.le_of_ble_eq_true rfl) (Nat.le_of_ble_eq_true rfl) ?_
  refine va_putF (D := (dC, dI)) (ci := 15) (v := .ref q_36) (ty := .array .int) (C := RX13) (T := TX13) (N := 196) hx hb hts iw_X13_init_X13 tyX13 tyX13_ok nmX13 hown hK hP hD hS 0 rfl rfl 14 (by decide) (hts (.fieldLink RX13 32 "LiquidTongueModel" "at" "[I") (by decide +kernel)) (fun _ h9 => h9) rfl hin rfl (by decide +kernel) rfl rfl (zs_lt hlf_35 (by decide)) dX13_init_73 (fun H locs hP hD hS => ?_)
  obtain ⟨f_40, ef_40⟩ : ∃ z : List Value, z = f_35.set 14 (.ref q_36) := ⟨_, rfl⟩
  have hlf_40 : f_40.length = 196 := by rw [ef_40]; exact zs_len hlf_35
  have gf_40 : f_40 = zput fs qs_38 := by rw [ef_40, gf_35, eqs_38, zput_snoc hqs_33]; rfl
  have hP : va_P (dC, dI) vwCl ((h0, .inr (15, f_40)) :: zarr qs_38 cs_39) H := by rw [ef_40]; exact hP
  have hD : va_D A ((h0, .inr (15, f_40)) :: zarr qs_38 cs_39) := by rw [ef_40]; exact hD
  refine lv_aload_n hx hb dX13_init_76 rfl (lv_at hl 0 rfl) ?_
  refine lv_sipush (v := 2100) hx hb dX13_init_77 (by decide) ?_
  refine va_newa (atype := .int) (ty := .int) (N' := 2100) (a0 := (2100, .inl (fun _ => 0))) hx hb (hts (.arrayClass .int) (by decide +kernel)) rfl hK hP hD hS hA (fun cA => rfl) (by decide) (by decide) (Nat.le_of_ble_eq_true rfl) (Nat.le_of_ble_eq_true rfl) (Nat.le_of_ble_eq_true rfl) dX13_init_80 (fun q_41 cA_42 H hK hP hD hS => ?_)
  obtain ⟨qs_43, eqs_43⟩ : ∃ z : List Nat, z = qs_38 ++ [q_41] := ⟨_, rfl⟩
  obtain ⟨cs_44, ecs_44⟩ : ∃ z : List ClassId, z = cs_39 ++ [cA_42] := ⟨_, rfl⟩
  have hqs_43 : qs_43.length = 9 := by rw [eqs_43]; exact zl_snoc hqs_38
  have hcs_44 : cs_44.length = 9 := by rw [ecs_44]; exact zl_snoc hcs_39
  have hP : va_P (dC, dI) vwCl ((h0, .inr (15, f_40)) :: zarr qs_43 cs_44) H := by rw [eqs_43, ecs_44, zarr_snoc hqs_38 hcs_39]; exact hP
  have hD : va_D A ((h0, .inr (15, f_40)) :: zarr qs_43 cs_44) := by rw [eqs_43, ecs_44, zarr_snoc hqs_38 hcs_39]; exact hD
  have hK : va_K (dC, dI) vwCl (ztys cs_44) s := by rw [ecs_44, ztys_snoc hcs_39]; exact hK
  refine W.widen (k := 9) (n := 32330) (Nat.le_of_ble_eq_true rfl) (Nat.le_of_ble_eq_true rfl) ?_
  refine va_putF (D := (dC, dI)) (ci := 15) (v := .ref q_41) (ty := .array .int) (C := RX13) (T := TX13) (N := 196) hx hb hts iw_X13_init_X13 tyX13 tyX13_ok nmX13 hown hK hP hD hS 0 rfl rfl 15 (by decide) (hts (.fieldLink RX13 35 "LiquidTongueModel" "sign" "[I") (by decide +kernel)) (fun _ h9 => h9) rfl hin rfl (by decide +kernel) rfl rfl (zs_lt hlf_40 (by decide)) dX13_init_82 (fun H locs hP hD hS => ?_)
  obtain ⟨f_45, ef_45⟩ : ∃ z : List Value, z = f_40.set 15 (.ref q_41) := ⟨_, rfl⟩
  have hlf_45 : f_45.length = 196 := by rw [ef_45]; exact zs_len hlf_40
  have gf_45 : f_45 = zput fs qs_43 := by rw [ef_45, gf_40, eqs_43, zput_snoc hqs_38]; rfl
  have hP : va_P (dC, dI) vwCl ((h0, .inr (15, f_45)) :: zarr qs_43 cs_44) H := by rw [ef_45]; exact hP
  have hD : va_D A ((h0, .inr (15, f_45)) :: zarr qs_43 cs_44) := by rw [ef_45]; exact hD
  refine lv_aload_n hx hb dX13_init_85 rfl (lv_at hl 0 rfl) ?_
  refine lv_sipush (v := 2100) hx hb dX13_init_86 (by decide) ?_
  refine va_newa (atype := .int) (ty := .int) (N' := 2100) (a0 := (2100, .inl (fun _ => 0))) hx hb (hts (.arrayClass .int) (by decide +kernel)) rfl hK hP hD hS hA (fun cA => rfl) (by decide) (by decide) (Nat.le_of_ble_eq_true rfl) (Nat.le_of_ble_eq_true rfl) (Nat.le_of_ble_eq_true rfl) dX13_init_89 (fun q_46 cA_47 H hK hP hD hS => ?_)
  obtain ⟨qs_48, eqs_48⟩ : ∃ z : List Nat, z = qs_43 ++ [q_46] := ⟨_, rfl⟩
  obtain ⟨cs_49, ecs_49⟩ : ∃ z : List ClassId, z = cs_44 ++ [cA_47] := ⟨_, rfl⟩
  have hqs_48 : qs_48.length = 10 := by rw [eqs_48]; exact zl_snoc hqs_43
  have hcs_49 : cs_49.length = 10 := by rw [ecs_49]; exact zl_snoc hcs_44
  have hP : va_P (dC, dI) vwCl ((h0, .inr (15, f_45)) :: zarr qs_48 cs_49) H := by rw [eqs_48, ecs_49, zarr_snoc hqs_43 hcs_44]; exact hP
  have hD : va_D A ((h0, .inr (15, f_45)) :: zarr qs_48 cs_49) := by rw [eqs_48, ecs_49, zarr_snoc hqs_43 hcs_44]; exact hD
  have hK : va_K (dC, dI) vwCl (ztys cs_49) s := by rw [ecs_49, ztys_snoc hcs_44]; exact hK
  refine W.widen (k := 10) (n := 34430) (Nat.le_of_ble_eq_true rfl) (Nat.le_of_ble_eq_true rfl) ?_
  refine va_putF (D := (dC, dI)) (ci := 15) (v := .ref q_46) (ty := .array .int) (C := RX13) (T := TX13) (N := 196) hx hb hts iw_X13_init_X13 tyX13 tyX13_ok nmX13 hown hK hP hD hS 0 rfl rfl 16 (by decide) (hts (.fieldLink RX13 38 "LiquidTongueModel" "x1" "[I") (by decide +kernel)) (fun _ h9 => h9) rfl hin rfl (by decide +kernel) rfl rfl (zs_lt hlf_45 (by decide)) dX13_init_91 (fun H locs hP hD hS => ?_)
  obtain ⟨f_50, ef_50⟩ : ∃ z : List Value, z = f_45.set 16 (.ref q_46) := ⟨_, rfl⟩
  have hlf_50 : f_50.length = 196 := by rw [ef_50]; exact zs_len hlf_45
  have gf_50 : f_50 = zput fs qs_48 := by rw [ef_50, gf_45, eqs_48, zput_snoc hqs_43]; rfl
  have hP : va_P (dC, dI) vwCl ((h0, .inr (15, f_50)) :: zarr qs_48 cs_49) H := by rw [ef_50]; exact hP
  have hD : va_D A ((h0, .inr (15, f_50)) :: zarr qs_48 cs_49) := by rw [ef_50]; exact hD
  refine lv_aload_n hx hb dX13_init_94 rfl (lv_at hl 0 rfl) ?_
  refine lv_sipush (v := 2100) hx hb dX13_init_95 (by decide) ?_
  refine va_newa (atype := .int) (ty := .int) (N' := 2100) (a0 := (2100, .inl (fun _ => 0))) hx hb (hts (.arrayClass .int) (by decide +kernel)) rfl hK hP hD hS hA (fun cA => rfl) (by decide) (by decide) (Nat.le_of_ble_eq_true rfl) (Nat.le_of_ble_eq_true rfl) (Nat.le_of_ble_eq_true rfl) dX13_init_98 (fun q_51 cA_52 H hK hP hD hS => ?_)
  obtain ⟨qs_53, eqs_53⟩ : ∃ z : List Nat, z = qs_48 ++ [q_51] := ⟨_, rfl⟩
  obtain ⟨cs_54, ecs_54⟩ : ∃ z : List ClassId, z = cs_49 ++ [cA_52] := ⟨_, rfl⟩
  have hqs_53 : qs_53.length = 11 := by rw [eqs_53]; exact zl_snoc hqs_48
  have hcs_54 : cs_54.length = 11 := by rw [ecs_54]; exact zl_snoc hcs_49
  have hP : va_P (dC, dI) vwCl ((h0, .inr (15, f_50)) :: zarr qs_53 cs_54) H := by rw [eqs_53, ecs_54, zarr_snoc hqs_48 hcs_49]; exact hP
  have hD : va_D A ((h0, .inr (15, f_50)) :: zarr qs_53 cs_54) := by rw [eqs_53, ecs_54, zarr_snoc hqs_48 hcs_49]; exact hD
  have hK : va_K (dC, dI) vwCl (ztys cs_54) s := by rw [ecs_54, ztys_snoc hcs_49]; exact hK
  refine W.widen (k := 11) (n := 36530) (Nat.le_of_ble_eq_true rfl) (Nat.le_of_ble_eq_true rfl) ?_
  refine va_putF (D := (dC, dI)) (ci := 15) (v := .ref q_51) (ty := .array .int) (C := RX13) (T := TX13) (N := 196) hx hb hts iw_X13_init_X13 tyX13 tyX13_ok nmX13 hown hK hP hD hS 0 rfl rfl 17 (by decide) (hts (.fieldLink RX13 41 "LiquidTongueModel" "x2" "[I") (by decide +kernel)) (fun _ h9 => h9) rfl hin rfl (by decide +kernel) rfl rfl (zs_lt hlf_50 (by decide)) dX13_init_100 (fun H locs hP hD hS => ?_)
  obtain ⟨f_55, ef_55⟩ : ∃ z : List Value, z = f_50.set 17 (.ref q_51) := ⟨_, rfl⟩
  have hlf_55 : f_55.length = 196 := by rw [ef_55]; exact zs_len hlf_50
  have gf_55 : f_55 = zput fs qs_53 := by rw [ef_55, gf_50, eqs_53, zput_snoc hqs_48]; rfl
  have hP : va_P (dC, dI) vwCl ((h0, .inr (15, f_55)) :: zarr qs_53 cs_54) H := by rw [ef_55]; exact hP
  have hD : va_D A ((h0, .inr (15, f_55)) :: zarr qs_53 cs_54) := by rw [ef_55]; exact hD
  refine lv_aload_n hx hb dX13_init_103 rfl (lv_at hl 0 rfl) ?_
  refine lv_sipush (v := 2100) hx hb dX13_init_104 (by decide) ?_
  refine va_newa (atype := .int) (ty := .int) (N' := 2100) (a0 := (2100, .inl (fun _ => 0))) hx hb (hts (.arrayClass .int) (by decide +kernel)) rfl hK hP hD hS hA (fun cA => rfl) (by decide) (by decide) (Nat.le_of_ble_eq_true rfl) (Nat.le_of_ble_eq_true rfl) (Nat.le_of_ble_eq_true rfl) dX13_init_107 (fun q_56 cA_57 H hK hP hD hS => ?_)
  obtain ⟨qs_58, eqs_58⟩ : ∃ z : List Nat, z = qs_53 ++ [q_56] := ⟨_, rfl⟩
  obtain ⟨cs_59, ecs_59⟩ : ∃ z : List ClassId, z = cs_54 ++ [cA_57] := ⟨_, rfl⟩
  have hqs_58 : qs_58.length = 12 := by rw [eqs_58]; exact zl_snoc hqs_53
  have hcs_59 : cs_59.length = 12 := by rw [ecs_59]; exact zl_snoc hcs_54
  have hP : va_P (dC, dI) vwCl ((h0, .inr (15, f_55)) :: zarr qs_58 cs_59) H := by rw [eqs_58, ecs_59, zarr_snoc hqs_53 hcs_54]; exact hP
  have hD : va_D A ((h0, .inr (15, f_55)) :: zarr qs_58 cs_59) := by rw [eqs_58, ecs_59, zarr_snoc hqs_53 hcs_54]; exact hD
  have hK : va_K (dC, dI) vwCl (ztys cs_59) s := by rw [ecs_59, ztys_snoc hcs_54]; exact hK
  refine W.widen (k := 12) (n := 38630) (Nat.le_of_ble_eq_true rfl) (Nat.le_of_ble_eq_true rfl) ?_
  refine va_putF (D := (dC, dI)) (ci := 15) (v := .ref q_56) (ty := .array .int) (C := RX13) (T := TX13) (N := 196) hx hb hts iw_X13_init_X13 tyX13 tyX13_ok nmX13 hown hK hP hD hS 0 rfl rfl 18 (by decide) (hts (.fieldLink RX13 44 "LiquidTongueModel" "x3" "[I") (by decide +kernel)) (fun _ h9 => h9) rfl hin rfl (by decide +kernel) rfl rfl (zs_lt hlf_55 (by decide)) dX13_init_109 (fun H locs hP hD hS => ?_)
  obtain ⟨f_60, ef_60⟩ : ∃ z : List Value, z = f_55.set 18 (.ref q_56) := ⟨_, rfl⟩
  have hlf_60 : f_60.length = 196 := by rw [ef_60]; exact zs_len hlf_55
  have gf_60 : f_60 = zput fs qs_58 := by rw [ef_60, gf_55, eqs_58, zput_snoc hqs_53]; rfl
  have hP : va_P (dC, dI) vwCl ((h0, .inr (15, f_60)) :: zarr qs_58 cs_59) H := by rw [ef_60]; exact hP
  have hD : va_D A ((h0, .inr (15, f_60)) :: zarr qs_58 cs_59) := by rw [ef_60]; exact hD
  refine lv_aload_n hx hb dX13_init_112 rfl (lv_at hl 0 rfl) ?_
  refine lv_sipush (v := 2100) hx hb dX13_init_113 (by decide) ?_
  refine va_newa (atype := .int) (ty := .int) (N' := 2100) (a0 := (2100, .inl (fun _ => 0))) hx hb (hts (.arrayClass .int) (by decide +kernel)) rfl hK hP hD hS hA (fun cA => rfl) (by decide) (by decide) (Nat.le_of_ble_eq_true rfl) (Nat.le_of_ble_eq_true rfl) (Nat.le_of_ble_eq_true rfl) dX13_init_116 (fun q_61 cA_62 H hK hP hD hS => ?_)
  obtain ⟨qs_63, eqs_63⟩ : ∃ z : List Nat, z = qs_58 ++ [q_61] := ⟨_, rfl⟩
  obtain ⟨cs_64, ecs_64⟩ : ∃ z : List ClassId, z = cs_59 ++ [cA_62] := ⟨_, rfl⟩
  have hqs_63 : qs_63.length = 13 := by rw [eqs_63]; exact zl_snoc hqs_58
  have hcs_64 : cs_64.length = 13 := by rw [ecs_64]; exact zl_snoc hcs_59
  have hP : va_P (dC, dI) vwCl ((h0, .inr (15, f_60)) :: zarr qs_63 cs_64) H := by rw [eqs_63, ecs_64, zarr_snoc hqs_58 hcs_59]; exact hP
  have hD : va_D A ((h0, .inr (15, f_60)) :: zarr qs_63 cs_64) := by rw [eqs_63, ecs_64, zarr_snoc hqs_58 hcs_59]; exact hD
  have hK : va_K (dC, dI) vwCl (ztys cs_64) s := by rw [ecs_64, ztys_snoc hcs_59]; exact hK
  refine W.widen (k := 13) (n := 40730) (Nat.le_of_ble_eq_true rfl) (Nat.le_of_ble_eq_true rfl) ?_
  refine va_putF (D := (dC, dI)) (ci := 15) (v := .ref q_61) (ty := .array .int) (C := RX13) (T := TX13) (N := 196) hx hb hts iw_X13_init_X13 tyX13 tyX13_ok nmX13 hown hK hP hD hS 0 rfl rfl 19 (by decide) (hts (.fieldLink RX13 47 "LiquidTongueModel" "x4" "[I") (by decide +kernel)) (fun _ h9 => h9) rfl hin rfl (by decide +kernel) rfl rfl (zs_lt hlf_60 (by decide)) dX13_init_118 (fun H locs hP hD hS => ?_)
  obtain ⟨f_65, ef_65⟩ : ∃ z : List Value, z = f_60.set 19 (.ref q_61) := ⟨_, rfl⟩
  have hlf_65 : f_65.length = 196 := by rw [ef_65]; exact zs_len hlf_60
  have gf_65 : f_65 = zput fs qs_63 := by rw [ef_65, gf_60, eqs_63, zput_snoc hqs_58]; rfl
  have hP : va_P (dC, dI) vwCl ((h0, .inr (15, f_65)) :: zarr qs_63 cs_64) H := by rw [ef_65]; exact hP
  have hD : va_D A ((h0, .inr (15, f_65)) :: zarr qs_63 cs_64) := by rw [ef_65]; exact hD
  refine lv_aload_n hx hb dX13_init_121 rfl (lv_at hl 0 rfl) ?_
  refine lv_sipush (v := 2100) hx hb dX13_init_122 (by decide) ?_
  refine va_newa (atype := .int) (ty := .int) (N' := 2100) (a0 := (2100, .inl (fun _ => 0))) hx hb (hts (.arrayClass .int) (by decide +kernel)) rfl hK hP hD hS hA (fun cA => rfl) (by decide) (by decide) (Nat.le_of_ble_eq_true rfl) (Nat.le_of_ble_eq_true rfl) (Nat.le_of_ble_eq_true rfl) dX13_init_125 (fun q_66 cA_67 H hK hP hD hS => ?_)
  obtain ⟨qs_68, eqs_68⟩ : ∃ z : List Nat, z = qs_63 ++ [q_66] := ⟨_, rfl⟩
  obtain ⟨cs_69, ecs_69⟩ : ∃ z : List ClassId, z = cs_64 ++ [cA_67] := ⟨_, rfl⟩
  have hqs_68 : qs_68.length = 14 := by rw [eqs_68]; exact zl_snoc hqs_63
  have hcs_69 : cs_69.length = 14 := by rw [ecs_69]; exact zl_snoc hcs_64
  have hP : va_P (dC, dI) vwCl ((h0, .inr (15, f_65)) :: zarr qs_68 cs_69) H := by rw [eqs_68, ecs_69, zarr_snoc hqs_63 hcs_64]; exact hP
  have hD : va_D A ((h0, .inr (15, f_65)) :: zarr qs_68 cs_69) := by rw [eqs_68, ecs_69, zarr_snoc hqs_63 hcs_64]; exact hD
  have hK : va_K (dC, dI) vwCl (ztys cs_69) s := by rw [ecs_69, ztys_snoc hcs_64]; exact hK
  refine W.widen (k := 14) (n := 42830) (Nat.le_of_ble_eq_true rfl) (Nat.le_of_ble_eq_true rfl) ?_
  refine va_putF (D := (dC, dI)) (ci := 15) (v := .ref q_66) (ty := .array .int) (C := RX13) (T := TX13) (N := 196) hx hb hts iw_X13_init_X13 tyX13 tyX13_ok nmX13 hown hK hP hD hS 0 rfl rfl 21 (by decide) (hts (.fieldLink RX13 50 "LiquidTongueModel" "sFrom" "[I") (by decide +kernel)) (fun _ h9 => h9) rfl hin rfl (by decide +kernel) rfl rfl (zs_lt hlf_65 (by decide)) dX13_init_127 (fun H locs hP hD hS => ?_)
  obtain ⟨f_70, ef_70⟩ : ∃ z : List Value, z = f_65.set 21 (.ref q_66) := ⟨_, rfl⟩
  have hlf_70 : f_70.length = 196 := by rw [ef_70]; exact zs_len hlf_65
  have gf_70 : f_70 = zput fs qs_68 := by rw [ef_70, gf_65, eqs_68, zput_snoc hqs_63]; rfl
  have hP : va_P (dC, dI) vwCl ((h0, .inr (15, f_70)) :: zarr qs_68 cs_69) H := by rw [ef_70]; exact hP
  have hD : va_D A ((h0, .inr (15, f_70)) :: zarr qs_68 cs_69) := by rw [ef_70]; exact hD
  refine lv_aload_n hx hb dX13_init_130 rfl (lv_at hl 0 rfl) ?_
  refine lv_sipush (v := 2100) hx hb dX13_init_131 (by decide) ?_
  refine va_newa (atype := .int) (ty := .int) (N' := 2100) (a0 := (2100, .inl (fun _ => 0))) hx hb (hts (.arrayClass .int) (by decide +kernel)) rfl hK hP hD hS hA (fun cA => rfl) (by decide) (by decide) (Nat.le_of_ble_eq_true rfl) (Nat.le_of_ble_eq_true rfl) (Nat.le_of_ble_eq_true rfl) dX13_init_134 (fun q_71 cA_72 H hK hP hD hS => ?_)
  obtain ⟨qs_73, eqs_73⟩ : ∃ z : List Nat, z = qs_68 ++ [q_71] := ⟨_, rfl⟩
  obtain ⟨cs_74, ecs_74⟩ : ∃ z : List ClassId, z = cs_69 ++ [cA_72] := ⟨_, rfl⟩
  have hqs_73 : qs_73.length = 15 := by rw [eqs_73]; exact zl_snoc hqs_68
  have hcs_74 : cs_74.length = 15 := by rw [ecs_74]; exact zl_snoc hcs_69
  have hP : va_P (dC, dI) vwCl ((h0, .inr (15, f_70)) :: zarr qs_73 cs_74) H := by rw [eqs_73, ecs_74, zarr_snoc hqs_68 hcs_69]; exact hP
  have hD : va_D A ((h0, .inr (15, f_70)) :: zarr qs_73 cs_74) := by rw [eqs_73, ecs_74, zarr_snoc hqs_68 hcs_69]; exact hD
  have hK : va_K (dC, dI) vwCl (ztys cs_74) s := by rw [ecs_74, ztys_snoc hcs_69]; exact hK
  refine W.widen (k := 15) (n := 44930) (Nat.le_of_ble_eq_true rfl) (Nat.le_of_ble_eq_true rfl) ?_
  refine va_putF (D := (dC, dI)) (ci := 15) (v := .ref q_71) (ty := .array .int) (C := RX13) (T := TX13) (N := 196) hx hb hts iw_X13_init_X13 tyX13 tyX13_ok nmX13 hown hK hP hD hS 0 rfl rfl 22 (by decide) (hts (.fieldLink RX13 53 "LiquidTongueModel" "sTo" "[I") (by decide +kernel)) (fun _ h9 => h9) rfl hin rfl (by decide +kernel) rfl rfl (zs_lt hlf_70 (by decide)) dX13_init_136 (fun H locs hP hD hS => ?_)
  obtain ⟨f_75, ef_75⟩ : ∃ z : List Value, z = f_70.set 22 (.ref q_71) := ⟨_, rfl⟩
  have hlf_75 : f_75.length = 196 := by rw [ef_75]; exact zs_len hlf_70
  have gf_75 : f_75 = zput fs qs_73 := by rw [ef_75, gf_70, eqs_73, zput_snoc hqs_68]; rfl
  have hP : va_P (dC, dI) vwCl ((h0, .inr (15, f_75)) :: zarr qs_73 cs_74) H := by rw [ef_75]; exact hP
  have hD : va_D A ((h0, .inr (15, f_75)) :: zarr qs_73 cs_74) := by rw [ef_75]; exact hD
  refine lv_aload_n hx hb dX13_init_139 rfl (lv_at hl 0 rfl) ?_
  refine lv_sipush (v := 2100) hx hb dX13_init_140 (by decide) ?_
  refine va_newa (atype := .int) (ty := .int) (N' := 2100) (a0 := (2100, .inl (fun _ => 0))) hx hb (hts (.arrayClass .int) (by decide +kernel)) rfl hK hP hD hS hA (fun cA => rfl) (by decide) (by decide) (Nat.le_of_ble_eq_true rfl) (Nat.le_of_ble_eq_true rfl) (Nat.le_of_ble_eq_true rfl) dX13_init_143 (fun q_76 cA_77 H hK hP hD hS => ?_)
  obtain ⟨qs_78, eqs_78⟩ : ∃ z : List Nat, z = qs_73 ++ [q_76] := ⟨_, rfl⟩
  obtain ⟨cs_79, ecs_79⟩ : ∃ z : List ClassId, z = cs_74 ++ [cA_77] := ⟨_, rfl⟩
  have hqs_78 : qs_78.length = 16 := by rw [eqs_78]; exact zl_snoc hqs_73
  have hcs_79 : cs_79.length = 16 := by rw [ecs_79]; exact zl_snoc hcs_74
  have hP : va_P (dC, dI) vwCl ((h0, .inr (15, f_75)) :: zarr qs_78 cs_79) H := by rw [eqs_78, ecs_79, zarr_snoc hqs_73 hcs_74]; exact hP
  have hD : va_D A ((h0, .inr (15, f_75)) :: zarr qs_78 cs_79) := by rw [eqs_78, ecs_79, zarr_snoc hqs_73 hcs_74]; exact hD
  have hK : va_K (dC, dI) vwCl (ztys cs_79) s := by rw [ecs_79, ztys_snoc hcs_74]; exact hK
  refine W.widen (k := 16) (n := 47030) (Nat.le_of_ble_eq_true rfl) (Nat.le_of_ble_eq_true rfl) ?_
  refine va_putF (D := (dC, dI)) (ci := 15) (v := .ref q_76) (ty := .array .int) (C := RX13) (T := TX13) (N := 196) hx hb hts iw_X13_init_X13 tyX13 tyX13_ok nmX13 hown hK hP hD hS 0 rfl rfl 23 (by decide) (hts (.fieldLink RX13 56 "LiquidTongueModel" "sAt" "[I") (by decide +kernel)) (fun _ h9 => h9) rfl hin rfl (by decide +kernel) rfl rfl (zs_lt hlf_75 (by decide)) dX13_init_145 (fun H locs hP hD hS => ?_)
  obtain ⟨f_80, ef_80⟩ : ∃ z : List Value, z = f_75.set 23 (.ref q_76) := ⟨_, rfl⟩
  have hlf_80 : f_80.length = 196 := by rw [ef_80]; exact zs_len hlf_75
  have gf_80 : f_80 = zput fs qs_78 := by rw [ef_80, gf_75, eqs_78, zput_snoc hqs_73]; rfl
  have hP : va_P (dC, dI) vwCl ((h0, .inr (15, f_80)) :: zarr qs_78 cs_79) H := by rw [ef_80]; exact hP
  have hD : va_D A ((h0, .inr (15, f_80)) :: zarr qs_78 cs_79) := by rw [ef_80]; exact hD
  refine lv_aload_n hx hb dX13_init_148 rfl (lv_at hl 0 rfl) ?_
  refine lv_sipush (v := 2100) hx hb dX13_init_149 (by decide) ?_
  refine va_newa (atype := .int) (ty := .int) (N' := 2100) (a0 := (2100, .inl (fun _ => 0))) hx hb (hts (.arrayClass .int) (by decide +kernel)) rfl hK hP hD hS hA (fun cA => rfl) (by decide) (by decide) (Nat.le_of_ble_eq_true rfl) (Nat.le_of_ble_eq_true rfl) (Nat.le_of_ble_eq_true rfl) dX13_init_152 (fun q_81 cA_82 H hK hP hD hS => ?_)
  obtain ⟨qs_83, eqs_83⟩ : ∃ z : List Nat, z = qs_78 ++ [q_81] := ⟨_, rfl⟩
  obtain ⟨cs_84, ecs_84⟩ : ∃ z : List ClassId, z = cs_79 ++ [cA_82] := ⟨_, rfl⟩
  have hqs_83 : qs_83.length = 17 := by rw [eqs_83]; exact zl_snoc hqs_78
  have hcs_84 : cs_84.length = 17 := by rw [ecs_84]; exact zl_snoc hcs_79
  have hP : va_P (dC, dI) vwCl ((h0, .inr (15, f_80)) :: zarr qs_83 cs_84) H := by rw [eqs_83, ecs_84, zarr_snoc hqs_78 hcs_79]; exact hP
  have hD : va_D A ((h0, .inr (15, f_80)) :: zarr qs_83 cs_84) := by rw [eqs_83, ecs_84, zarr_snoc hqs_78 hcs_79]; exact hD
  have hK : va_K (dC, dI) vwCl (ztys cs_84) s := by rw [ecs_84, ztys_snoc hcs_79]; exact hK
  refine W.widen (k := 17) (n := 49130) (Nat.le_of_ble_eq_true rfl) (Nat.le_of_ble_eq_true rfl) ?_
  refine va_putF (D := (dC, dI)) (ci := 15) (v := .ref q_81) (ty := .array .int) (C := RX13) (T := TX13) (N := 196) hx hb hts iw_X13_init_X13 tyX13 tyX13_ok nmX13 hown hK hP hD hS 0 rfl rfl 25 (by decide) (hts (.fieldLink RX13 59 "LiquidTongueModel" "pKind" "[I") (by decide +kernel)) (fun _ h9 => h9) rfl hin rfl (by decide +kernel) rfl rfl (zs_lt hlf_80 (by decide)) dX13_init_154 (fun H locs hP hD hS => ?_)
  obtain ⟨f_85, ef_85⟩ : ∃ z : List Value, z = f_80.set 25 (.ref q_81) := ⟨_, rfl⟩
  have hlf_85 : f_85.length = 196 := by rw [ef_85]; exact zs_len hlf_80
  have gf_85 : f_85 = zput fs qs_83 := by rw [ef_85, gf_80, eqs_83, zput_snoc hqs_78]; rfl
  have hP : va_P (dC, dI) vwCl ((h0, .inr (15, f_85)) :: zarr qs_83 cs_84) H := by rw [ef_85]; exact hP
  have hD : va_D A ((h0, .inr (15, f_85)) :: zarr qs_83 cs_84) := by rw [ef_85]; exact hD
  refine lv_aload_n hx hb dX13_init_157 rfl (lv_at hl 0 rfl) ?_
  refine lv_sipush (v := 2100) hx hb dX13_init_158 (by decide) ?_
  refine va_newa (atype := .int) (ty := .int) (N' := 2100) (a0 := (2100, .inl (fun _ => 0))) hx hb (hts (.arrayClass .int) (by decide +kernel)) rfl hK hP hD hS hA (fun cA => rfl) (by decide) (by decide) (Nat.le_of_ble_eq_true rfl) (Nat.le_of_ble_eq_true rfl) (Nat.le_of_ble_eq_true rfl) dX13_init_161 (fun q_86 cA_87 H hK hP hD hS => ?_)
  obtain ⟨qs_88, eqs_88⟩ : ∃ z : List Nat, z = qs_83 ++ [q_86] := ⟨_, rfl⟩
  obtain ⟨cs_89, ecs_89⟩ : ∃ z : List ClassId, z = cs_84 ++ [cA_87] := ⟨_, rfl⟩
  have hqs_88 : qs_88.length = 18 := by rw [eqs_88]; exact zl_snoc hqs_83
  have hcs_89 : cs_89.length = 18 := by rw [ecs_89]; exact zl_snoc hcs_84
  have hP : va_P (dC, dI) vwCl ((h0, .inr (15, f_85)) :: zarr qs_88 cs_89) H := by rw [eqs_88, ecs_89, zarr_snoc hqs_83 hcs_84]; exact hP
  have hD : va_D A ((h0, .inr (15, f_85)) :: zarr qs_88 cs_89) := by rw [eqs_88, ecs_89, zarr_snoc hqs_83 hcs_84]; exact hD
  have hK : va_K (dC, dI) vwCl (ztys cs_89) s := by rw [ecs_89, ztys_snoc hcs_84]; exact hK
  refine W.widen (k := 18) (n := 51230) (Nat.le_of_ble_eq_true rfl) (Nat.le_of_ble_eq_true rfl) ?_
  refine va_putF (D := (dC, dI)) (ci := 15) (v := .ref q_86) (ty := .array .int) (C := RX13) (T := TX13) (N := 196) hx hb hts iw_X13_init_X13 tyX13 tyX13_ok nmX13 hown hK hP hD hS 0 rfl rfl 26 (by decide) (hts (.fieldLink RX13 62 "LiquidTongueModel" "pSign" "[I") (by decide +kernel)) (fun _ h9 => h9) rfl hin rfl (by decide +kernel) rfl rfl (zs_lt hlf_85 (by decide)) dX13_init_163 (fun H locs hP hD hS => ?_)
  obtain ⟨f_90, ef_90⟩ : ∃ z : List Value, z = f_85.set 26 (.ref q_86) := ⟨_, rfl⟩
  have hlf_90 : f_90.length = 196 := by rw [ef_90]; exact zs_len hlf_85
  have gf_90 : f_90 = zput fs qs_88 := by rw [ef_90, gf_85, eqs_88, zput_snoc hqs_83]; rfl
  have hP : va_P (dC, dI) vwCl ((h0, .inr (15, f_90)) :: zarr qs_88 cs_89) H := by rw [ef_90]; exact hP
  have hD : va_D A ((h0, .inr (15, f_90)) :: zarr qs_88 cs_89) := by rw [ef_90]; exact hD
  refine lv_aload_n hx hb dX13_init_166 rfl (lv_at hl 0 rfl) ?_
  refine lv_sipush (v := 2100) hx hb dX13_init_167 (by decide) ?_
  refine va_newa (atype := .int) (ty := .int) (N' := 2100) (a0 := (2100, .inl (fun _ => 0))) hx hb (hts (.arrayClass .int) (by decide +kernel)) rfl hK hP hD hS hA (fun cA => rfl) (by decide) (by decide) (Nat.le_of_ble_eq_true rfl) (Nat.le_of_ble_eq_true rfl) (Nat.le_of_ble_eq_true rfl) dX13_init_170 (fun q_91 cA_92 H hK hP hD hS => ?_)
  obtain ⟨qs_93, eqs_93⟩ : ∃ z : List Nat, z = qs_88 ++ [q_91] := ⟨_, rfl⟩
  obtain ⟨cs_94, ecs_94⟩ : ∃ z : List ClassId, z = cs_89 ++ [cA_92] := ⟨_, rfl⟩
  have hqs_93 : qs_93.length = 19 := by rw [eqs_93]; exact zl_snoc hqs_88
  have hcs_94 : cs_94.length = 19 := by rw [ecs_94]; exact zl_snoc hcs_89
  have hP : va_P (dC, dI) vwCl ((h0, .inr (15, f_90)) :: zarr qs_93 cs_94) H := by rw [eqs_93, ecs_94, zarr_snoc hqs_88 hcs_89]; exact hP
  have hD : va_D A ((h0, .inr (15, f_90)) :: zarr qs_93 cs_94) := by rw [eqs_93, ecs_94, zarr_snoc hqs_88 hcs_89]; exact hD
  have hK : va_K (dC, dI) vwCl (ztys cs_94) s := by rw [ecs_94, ztys_snoc hcs_89]; exact hK
  refine W.widen (k := 19) (n := 53330) (Nat.le_of_ble_eq_true rfl) (Nat.le_of_ble_eq_true rfl) ?_
  refine va_putF (D := (dC, dI)) (ci := 15) (v := .ref q_91) (ty := .array .int) (C := RX13) (T := TX13) (N := 196) hx hb hts iw_X13_init_X13 tyX13 tyX13_ok nmX13 hown hK hP hD hS 0 rfl rfl 27 (by decide) (hts (.fieldLink RX13 65 "LiquidTongueModel" "pWord" "[I") (by decide +kernel)) (fun _ h9 => h9) rfl hin rfl (by decide +kernel) rfl rfl (zs_lt hlf_90 (by decide)) dX13_init_172 (fun H locs hP hD hS => ?_)
  obtain ⟨f_95, ef_95⟩ : ∃ z : List Value, z = f_90.set 27 (.ref q_91) := ⟨_, rfl⟩
  have hlf_95 : f_95.length = 196 := by rw [ef_95]; exact zs_len hlf_90
  have gf_95 : f_95 = zput fs qs_93 := by rw [ef_95, gf_90, eqs_93, zput_snoc hqs_88]; rfl
  have hP : va_P (dC, dI) vwCl ((h0, .inr (15, f_95)) :: zarr qs_93 cs_94) H := by rw [ef_95]; exact hP
  have hD : va_D A ((h0, .inr (15, f_95)) :: zarr qs_93 cs_94) := by rw [ef_95]; exact hD
  refine lv_aload_n hx hb dX13_init_175 rfl (lv_at hl 0 rfl) ?_
  refine lv_sipush (v := 2100) hx hb dX13_init_176 (by decide) ?_
  refine va_newa (atype := .int) (ty := .int) (N' := 2100) (a0 := (2100, .inl (fun _ => 0))) hx hb (hts (.arrayClass .int) (by decide +kernel)) rfl hK hP hD hS hA (fun cA => rfl) (by decide) (by decide) (Nat.le_of_ble_eq_true rfl) (Nat.le_of_ble_eq_true rfl) (Nat.le_of_ble_eq_true rfl) dX13_init_179 (fun q_96 cA_97 H hK hP hD hS => ?_)
  obtain ⟨qs_98, eqs_98⟩ : ∃ z : List Nat, z = qs_93 ++ [q_96] := ⟨_, rfl⟩
  obtain ⟨cs_99, ecs_99⟩ : ∃ z : List ClassId, z = cs_94 ++ [cA_97] := ⟨_, rfl⟩
  have hqs_98 : qs_98.length = 20 := by rw [eqs_98]; exact zl_snoc hqs_93
  have hcs_99 : cs_99.length = 20 := by rw [ecs_99]; exact zl_snoc hcs_94
  have hP : va_P (dC, dI) vwCl ((h0, .inr (15, f_95)) :: zarr qs_98 cs_99) H := by rw [eqs_98, ecs_99, zarr_snoc hqs_93 hcs_94]; exact hP
  have hD : va_D A ((h0, .inr (15, f_95)) :: zarr qs_98 cs_99) := by rw [eqs_98, ecs_99, zarr_snoc hqs_93 hcs_94]; exact hD
  have hK : va_K (dC, dI) vwCl (ztys cs_99) s := by rw [ecs_99, ztys_snoc hcs_94]; exact hK
  refine W.widen (k := 20) (n := 55430) (Nat.le_of_ble_eq_true rfl) (Nat.le_of_ble_eq_true rfl) ?_
  refine va_putF (D := (dC, dI)) (ci := 15) (v := .ref q_96) (ty := .array .int) (C := RX13) (T := TX13) (N := 196) hx hb hts iw_X13_init_X13 tyX13 tyX13_ok nmX13 hown hK hP hD hS 0 rfl rfl 29 (by decide) (hts (.fieldLink RX13 68 "LiquidTongueModel" "aKind" "[I") (by decide +kernel)) (fun _ h9 => h9) rfl hin rfl (by decide +kernel) rfl rfl (zs_lt hlf_95 (by decide)) dX13_init_181 (fun H locs hP hD hS => ?_)
  obtain ⟨f_100, ef_100⟩ : ∃ z : List Value, z = f_95.set 29 (.ref q_96) := ⟨_, rfl⟩
  have hlf_100 : f_100.length = 196 := by rw [ef_100]; exact zs_len hlf_95
  have gf_100 : f_100 = zput fs qs_98 := by rw [ef_100, gf_95, eqs_98, zput_snoc hqs_93]; rfl
  have hP : va_P (dC, dI) vwCl ((h0, .inr (15, f_100)) :: zarr qs_98 cs_99) H := by rw [ef_100]; exact hP
  have hD : va_D A ((h0, .inr (15, f_100)) :: zarr qs_98 cs_99) := by rw [ef_100]; exact hD
  refine lv_aload_n hx hb dX13_init_184 rfl (lv_at hl 0 rfl) ?_
  refine lv_sipush (v := 2100) hx hb dX13_init_185 (by decide) ?_
  refine va_newa (atype := .int) (ty := .int) (N' := 2100) (a0 := (2100, .inl (fun _ => 0))) hx hb (hts (.arrayClass .int) (by decide +kernel)) rfl hK hP hD hS hA (fun cA => rfl) (by decide) (by decide) (Nat.le_of_ble_eq_true rfl) (Nat.le_of_ble_eq_true rfl) (Nat.le_of_ble_eq_true rfl) dX13_init_188 (fun q_101 cA_102 H hK hP hD hS => ?_)
  obtain ⟨qs_103, eqs_103⟩ : ∃ z : List Nat, z = qs_98 ++ [q_101] := ⟨_, rfl⟩
  obtain ⟨cs_104, ecs_104⟩ : ∃ z : List ClassId, z = cs_99 ++ [cA_102] := ⟨_, rfl⟩
  have hqs_103 : qs_103.length = 21 := by rw [eqs_103]; exact zl_snoc hqs_98
  have hcs_104 : cs_104.length = 21 := by rw [ecs_104]; exact zl_snoc hcs_99
  have hP : va_P (dC, dI) vwCl ((h0, .inr (15, f_100)) :: zarr qs_103 cs_104) H := by rw [eqs_103, ecs_104, zarr_snoc hqs_98 hcs_99]; exact hP
  have hD : va_D A ((h0, .inr (15, f_100)) :: zarr qs_103 cs_104) := by rw [eqs_103, ecs_104, zarr_snoc hqs_98 hcs_99]; exact hD
  have hK : va_K (dC, dI) vwCl (ztys cs_104) s := by rw [ecs_104, ztys_snoc hcs_99]; exact hK
  refine W.widen (k := 21) (n := 57530) (Nat.le_of_ble_eq_true rfl) (Nat.le_of_ble_eq_true rfl) ?_
  refine va_putF (D := (dC, dI)) (ci := 15) (v := .ref q_101) (ty := .array .int) (C := RX13) (T := TX13) (N := 196) hx hb hts iw_X13_init_X13 tyX13 tyX13_ok nmX13 hown hK hP hD hS 0 rfl rfl 30 (by decide) (hts (.fieldLink RX13 71 "LiquidTongueModel" "aWhat" "[I") (by decide +kernel)) (fun _ h9 => h9) rfl hin rfl (by decide +kernel) rfl rfl (zs_lt hlf_100 (by decide)) dX13_init_190 (fun H locs hP hD hS => ?_)
  obtain ⟨f_105, ef_105⟩ : ∃ z : List Value, z = f_100.set 30 (.ref q_101) := ⟨_, rfl⟩
  have hlf_105 : f_105.length = 196 := by rw [ef_105]; exact zs_len hlf_100
  have gf_105 : f_105 = zput fs qs_103 := by rw [ef_105, gf_100, eqs_103, zput_snoc hqs_98]; rfl
  have hP : va_P (dC, dI) vwCl ((h0, .inr (15, f_105)) :: zarr qs_103 cs_104) H := by rw [ef_105]; exact hP
  have hD : va_D A ((h0, .inr (15, f_105)) :: zarr qs_103 cs_104) := by rw [ef_105]; exact hD
  refine lv_aload_n hx hb dX13_init_193 rfl (lv_at hl 0 rfl) ?_
  refine lv_sipush (v := 2100) hx hb dX13_init_194 (by decide) ?_
  refine va_newa (atype := .int) (ty := .int) (N' := 2100) (a0 := (2100, .inl (fun _ => 0))) hx hb (hts (.arrayClass .int) (by decide +kernel)) rfl hK hP hD hS hA (fun cA => rfl) (by decide) (by decide) (Nat.le_of_ble_eq_true rfl) (Nat.le_of_ble_eq_true rfl) (Nat.le_of_ble_eq_true rfl) dX13_init_197 (fun q_106 cA_107 H hK hP hD hS => ?_)
  obtain ⟨qs_108, eqs_108⟩ : ∃ z : List Nat, z = qs_103 ++ [q_106] := ⟨_, rfl⟩
  obtain ⟨cs_109, ecs_109⟩ : ∃ z : List ClassId, z = cs_104 ++ [cA_107] := ⟨_, rfl⟩
  have hqs_108 : qs_108.length = 22 := by rw [eqs_108]; exact zl_snoc hqs_103
  have hcs_109 : cs_109.length = 22 := by rw [ecs_109]; exact zl_snoc hcs_104
  have hP : va_P (dC, dI) vwCl ((h0, .inr (15, f_105)) :: zarr qs_108 cs_109) H := by rw [eqs_108, ecs_109, zarr_snoc hqs_103 hcs_104]; exact hP
  have hD : va_D A ((h0, .inr (15, f_105)) :: zarr qs_108 cs_109) := by rw [eqs_108, ecs_109, zarr_snoc hqs_103 hcs_104]; exact hD
  have hK : va_K (dC, dI) vwCl (ztys cs_109) s := by rw [ecs_109, ztys_snoc hcs_104]; exact hK
  refine W.widen (k := 22) (n := 59630) (Nat.le_of_ble_eq_true rfl) (Nat.le_of_ble_eq_true rfl) ?_
  refine va_putF (D := (dC, dI)) (ci := 15) (v := .ref q_106) (ty := .array .int) (C := RX13) (T := TX13) (N := 196) hx hb hts iw_X13_init_X13 tyX13 tyX13_ok nmX13 hown hK hP hD hS 0 rfl rfl 31 (by decide) (hts (.fieldLink RX13 74 "LiquidTongueModel" "aAt" "[I") (by decide +kernel)) (fun _ h9 => h9) rfl hin rfl (by decide +kernel) rfl rfl (zs_lt hlf_105 (by decide)) dX13_init_199 (fun H locs hP hD hS => ?_)
  obtain ⟨f_110, ef_110⟩ : ∃ z : List Value, z = f_105.set 31 (.ref q_106) := ⟨_, rfl⟩
  have hlf_110 : f_110.length = 196 := by rw [ef_110]; exact zs_len hlf_105
  have gf_110 : f_110 = zput fs qs_108 := by rw [ef_110, gf_105, eqs_108, zput_snoc hqs_103]; rfl
  have hP : va_P (dC, dI) vwCl ((h0, .inr (15, f_110)) :: zarr qs_108 cs_109) H := by rw [ef_110]; exact hP
  have hD : va_D A ((h0, .inr (15, f_110)) :: zarr qs_108 cs_109) := by rw [ef_110]; exact hD
  refine lv_aload_n hx hb dX13_init_202 rfl (lv_at hl 0 rfl) ?_
  refine lv_bipush (v := 6) hx hb dX13_init_203 (by decide) ?_
  refine va_newa (atype := .int) (ty := .int) (N' := 6) (a0 := (6, .inl (fun _ => 0))) hx hb (hts (.arrayClass .int) (by decide +kernel)) rfl hK hP hD hS hA (fun cA => rfl) (by decide) (by decide) (Nat.le_of_ble_eq_true rfl) (Nat.le_of_ble_eq_true rfl) (Nat.le_of_ble_eq_true rfl) dX13_init_205 (fun q_111 cA_112 H hK hP hD hS => ?_)
  obtain ⟨qs_113, eqs_113⟩ : ∃ z : List Nat, z = qs_108 ++ [q_111] := ⟨_, rfl⟩
  obtain ⟨cs_114, ecs_114⟩ : ∃ z : List ClassId, z = cs_109 ++ [cA_112] := ⟨_, rfl⟩
  have hqs_113 : qs_113.length = 23 := by rw [eqs_113]; exact zl_snoc hqs_108
  have hcs_114 : cs_114.length = 23 := by rw [ecs_114]; exact zl_snoc hcs_109
  have hP : va_P (dC, dI) vwCl ((h0, .inr (15, f_110)) :: zarr qs_113 cs_114) H := by rw [eqs_113, ecs_114, zarr_snoc hqs_108 hcs_109]; exact hP
  have hD : va_D A ((h0, .inr (15, f_110)) :: zarr qs_113 cs_114) := by rw [eqs_113, ecs_114, zarr_snoc hqs_108 hcs_109]; exact hD
  have hK : va_K (dC, dI) vwCl (ztys cs_114) s := by rw [ecs_114, ztys_snoc hcs_109]; exact hK
  refine W.widen (k := 23) (n := 59636) (Nat.le_of_ble_eq_true rfl) (Nat.le_of_ble_eq_true rfl) ?_
  refine va_putF (D := (dC, dI)) (ci := 15) (v := .ref q_111) (ty := .array .int) (C := RX13) (T := TX13) (N := 196) hx hb hts iw_X13_init_X13 tyX13 tyX13_ok nmX13 hown hK hP hD hS 0 rfl rfl 34 (by decide) (hts (.fieldLink RX13 77 "LiquidTongueModel" "qSort" "[I") (by decide +kernel)) (fun _ h9 => h9) rfl hin rfl (by decide +kernel) rfl rfl (zs_lt hlf_110 (by decide)) dX13_init_207 (fun H locs hP hD hS => ?_)
  obtain ⟨f_115, ef_115⟩ : ∃ z : List Value, z = f_110.set 34 (.ref q_111) := ⟨_, rfl⟩
  have hlf_115 : f_115.length = 196 := by rw [ef_115]; exact zs_len hlf_110
  have gf_115 : f_115 = zput fs qs_113 := by rw [ef_115, gf_110, eqs_113, zput_snoc hqs_108]; rfl
  have hP : va_P (dC, dI) vwCl ((h0, .inr (15, f_115)) :: zarr qs_113 cs_114) H := by rw [ef_115]; exact hP
  have hD : va_D A ((h0, .inr (15, f_115)) :: zarr qs_113 cs_114) := by rw [ef_115]; exact hD
  refine lv_aload_n hx hb dX13_init_210 rfl (lv_at hl 0 rfl) ?_
  refine lv_bipush (v := 6) hx hb dX13_init_211 (by decide) ?_
  refine va_newa (atype := .int) (ty := .int) (N' := 6) (a0 := (6, .inl (fun _ => 0))) hx hb (hts (.arrayClass .int) (by decide +kernel)) rfl hK hP hD hS hA (fun cA => rfl) (by decide) (by decide) (Nat.le_of_ble_eq_true rfl) (Nat.le_of_ble_eq_true rfl) (Nat.le_of_ble_eq_true rfl) dX13_init_213 (fun q_116 cA_117 H hK hP hD hS => ?_)
  obtain ⟨qs_118, eqs_118⟩ : ∃ z : List Nat, z = qs_113 ++ [q_116] := ⟨_, rfl⟩
  obtain ⟨cs_119, ecs_119⟩ : ∃ z : List ClassId, z = cs_114 ++ [cA_117] := ⟨_, rfl⟩
  have hqs_118 : qs_118.length = 24 := by rw [eqs_118]; exact zl_snoc hqs_113
  have hcs_119 : cs_119.length = 24 := by rw [ecs_119]; exact zl_snoc hcs_114
  have hP : va_P (dC, dI) vwCl ((h0, .inr (15, f_115)) :: zarr qs_118 cs_119) H := by rw [eqs_118, ecs_119, zarr_snoc hqs_113 hcs_114]; exact hP
  have hD : va_D A ((h0, .inr (15, f_115)) :: zarr qs_118 cs_119) := by rw [eqs_118, ecs_119, zarr_snoc hqs_113 hcs_114]; exact hD
  have hK : va_K (dC, dI) vwCl (ztys cs_119) s := by rw [ecs_119, ztys_snoc hcs_114]; exact hK
  refine W.widen (k := 24) (n := 59642) (Nat.le_of_ble_eq_true rfl) (Nat.le_of_ble_eq_true rfl) ?_
  refine va_putF (D := (dC, dI)) (ci := 15) (v := .ref q_116) (ty := .array .int) (C := RX13) (T := TX13) (N := 196) hx hb hts iw_X13_init_X13 tyX13 tyX13_ok nmX13 hown hK hP hD hS 0 rfl rfl 35 (by decide) (hts (.fieldLink RX13 80 "LiquidTongueModel" "qRel" "[I") (by decide +kernel)) (fun _ h9 => h9) rfl hin rfl (by decide +kernel) rfl rfl (zs_lt hlf_115 (by decide)) dX13_init_215 (fun H locs hP hD hS => ?_)
  obtain ⟨f_120, ef_120⟩ : ∃ z : List Value, z = f_115.set 35 (.ref q_116) := ⟨_, rfl⟩
  have hlf_120 : f_120.length = 196 := by rw [ef_120]; exact zs_len hlf_115
  have gf_120 : f_120 = zput fs qs_118 := by rw [ef_120, gf_115, eqs_118, zput_snoc hqs_113]; rfl
  have hP : va_P (dC, dI) vwCl ((h0, .inr (15, f_120)) :: zarr qs_118 cs_119) H := by rw [ef_120]; exact hP
  have hD : va_D A ((h0, .inr (15, f_120)) :: zarr qs_118 cs_119) := by rw [ef_120]; exact hD
  refine lv_aload_n hx hb dX13_init_218 rfl (lv_at hl 0 rfl) ?_
  refine lv_bipush (v := 6) hx hb dX13_init_219 (by decide) ?_
  refine va_newa (atype := .int) (ty := .int) (N' := 6) (a0 := (6, .inl (fun _ => 0))) hx hb (hts (.arrayClass .int) (by decide +kernel)) rfl hK hP hD hS hA (fun cA => rfl) (by decide) (by decide) (Nat.le_of_ble_eq_true rfl) (Nat.le_of_ble_eq_true rfl) (Nat.le_of_ble_eq_true rfl) dX13_init_221 (fun q_121 cA_122 H hK hP hD hS => ?_)
  obtain ⟨qs_123, eqs_123⟩ : ∃ z : List Nat, z = qs_118 ++ [q_121] := ⟨_, rfl⟩
  obtain ⟨cs_124, ecs_124⟩ : ∃ z : List ClassId, z = cs_119 ++ [cA_122] := ⟨_, rfl⟩
  have hqs_123 : qs_123.length = 25 := by rw [eqs_123]; exact zl_snoc hqs_118
  have hcs_124 : cs_124.length = 25 := by rw [ecs_124]; exact zl_snoc hcs_119
  have hP : va_P (dC, dI) vwCl ((h0, .inr (15, f_120)) :: zarr qs_123 cs_124) H := by rw [eqs_123, ecs_124, zarr_snoc hqs_118 hcs_119]; exact hP
  have hD : va_D A ((h0, .inr (15, f_120)) :: zarr qs_123 cs_124) := by rw [eqs_123, ecs_124, zarr_snoc hqs_118 hcs_119]; exact hD
  have hK : va_K (dC, dI) vwCl (ztys cs_124) s := by rw [ecs_124, ztys_snoc hcs_119]; exact hK
  refine W.widen (k := 25) (n := 59648) (Nat.le_of_ble_eq_true rfl) (Nat.le_of_ble_eq_true rfl) ?_
  refine va_putF (D := (dC, dI)) (ci := 15) (v := .ref q_121) (ty := .array .int) (C := RX13) (T := TX13) (N := 196) hx hb hts iw_X13_init_X13 tyX13 tyX13_ok nmX13 hown hK hP hD hS 0 rfl rfl 36 (by decide) (hts (.fieldLink RX13 83 "LiquidTongueModel" "qMinus" "[I") (by decide +kernel)) (fun _ h9 => h9) rfl hin rfl (by decide +kernel) rfl rfl (zs_lt hlf_120 (by decide)) dX13_init_223 (fun H locs hP hD hS => ?_)
  obtain ⟨f_125, ef_125⟩ : ∃ z : List Value, z = f_120.set 36 (.ref q_121) := ⟨_, rfl⟩
  have hlf_125 : f_125.length = 196 := by rw [ef_125]; exact zs_len hlf_120
  have gf_125 : f_125 = zput fs qs_123 := by rw [ef_125, gf_120, eqs_123, zput_snoc hqs_118]; rfl
  have hP : va_P (dC, dI) vwCl ((h0, .inr (15, f_125)) :: zarr qs_123 cs_124) H := by rw [ef_125]; exact hP
  have hD : va_D A ((h0, .inr (15, f_125)) :: zarr qs_123 cs_124) := by rw [ef_125]; exact hD
  refine lv_aload_n hx hb dX13_init_226 rfl (lv_at hl 0 rfl) ?_
  refine lv_bipush (v := 6) hx hb dX13_init_227 (by decide) ?_
  refine va_newa (atype := .int) (ty := .int) (N' := 6) (a0 := (6, .inl (fun _ => 0))) hx hb (hts (.arrayClass .int) (by decide +kernel)) rfl hK hP hD hS hA (fun cA => rfl) (by decide) (by decide) (Nat.le_of_ble_eq_true rfl) (Nat.le_of_ble_eq_true rfl) (Nat.le_of_ble_eq_true rfl) dX13_init_229 (fun q_126 cA_127 H hK hP hD hS => ?_)
  obtain ⟨qs_128, eqs_128⟩ : ∃ z : List Nat, z = qs_123 ++ [q_126] := ⟨_, rfl⟩
  obtain ⟨cs_129, ecs_129⟩ : ∃ z : List ClassId, z = cs_124 ++ [cA_127] := ⟨_, rfl⟩
  have hqs_128 : qs_128.length = 26 := by rw [eqs_128]; exact zl_snoc hqs_123
  have hcs_129 : cs_129.length = 26 := by rw [ecs_129]; exact zl_snoc hcs_124
  have hP : va_P (dC, dI) vwCl ((h0, .inr (15, f_125)) :: zarr qs_128 cs_129) H := by rw [eqs_128, ecs_129, zarr_snoc hqs_123 hcs_124]; exact hP
  have hD : va_D A ((h0, .inr (15, f_125)) :: zarr qs_128 cs_129) := by rw [eqs_128, ecs_129, zarr_snoc hqs_123 hcs_124]; exact hD
  have hK : va_K (dC, dI) vwCl (ztys cs_129) s := by rw [ecs_129, ztys_snoc hcs_124]; exact hK
  refine W.widen (k := 26) (n := 59654) (Nat.le_of_ble_eq_true rfl) (Nat.le_of_ble_eq_true rfl) ?_
  refine va_putF (D := (dC, dI)) (ci := 15) (v := .ref q_126) (ty := .array .int) (C := RX13) (T := TX13) (N := 196) hx hb hts iw_X13_init_X13 tyX13 tyX13_ok nmX13 hown hK hP hD hS 0 rfl rfl 37 (by decide) (hts (.fieldLink RX13 86 "LiquidTongueModel" "qStar" "[I") (by decide +kernel)) (fun _ h9 => h9) rfl hin rfl (by decide +kernel) rfl rfl (zs_lt hlf_125 (by decide)) dX13_init_231 (fun H locs hP hD hS => ?_)
  obtain ⟨f_130, ef_130⟩ : ∃ z : List Value, z = f_125.set 37 (.ref q_126) := ⟨_, rfl⟩
  have hlf_130 : f_130.length = 196 := by rw [ef_130]; exact zs_len hlf_125
  have gf_130 : f_130 = zput fs qs_128 := by rw [ef_130, gf_125, eqs_128, zput_snoc hqs_123]; rfl
  have hP : va_P (dC, dI) vwCl ((h0, .inr (15, f_130)) :: zarr qs_128 cs_129) H := by rw [ef_130]; exact hP
  have hD : va_D A ((h0, .inr (15, f_130)) :: zarr qs_128 cs_129) := by rw [ef_130]; exact hD
  refine lv_aload_n hx hb dX13_init_234 rfl (lv_at hl 0 rfl) ?_
  refine lv_bipush (v := 6) hx hb dX13_init_235 (by decide) ?_
  refine va_newa (atype := .int) (ty := .int) (N' := 6) (a0 := (6, .inl (fun _ => 0))) hx hb (hts (.arrayClass .int) (by decide +kernel)) rfl hK hP hD hS hA (fun cA => rfl) (by decide) (by decide) (Nat.le_of_ble_eq_true rfl) (Nat.le_of_ble_eq_true rfl) (Nat.le_of_ble_eq_true rfl) dX13_init_237 (fun q_131 cA_132 H hK hP hD hS => ?_)
  obtain ⟨qs_133, eqs_133⟩ : ∃ z : List Nat, z = qs_128 ++ [q_131] := ⟨_, rfl⟩
  obtain ⟨cs_134, ecs_134⟩ : ∃ z : List ClassId, z = cs_129 ++ [cA_132] := ⟨_, rfl⟩
  have hqs_133 : qs_133.length = 27 := by rw [eqs_133]; exact zl_snoc hqs_128
  have hcs_134 : cs_134.length = 27 := by rw [ecs_134]; exact zl_snoc hcs_129
  have hP : va_P (dC, dI) vwCl ((h0, .inr (15, f_130)) :: zarr qs_133 cs_134) H := by rw [eqs_133, ecs_134, zarr_snoc hqs_128 hcs_129]; exact hP
  have hD : va_D A ((h0, .inr (15, f_130)) :: zarr qs_133 cs_134) := by rw [eqs_133, ecs_134, zarr_snoc hqs_128 hcs_129]; exact hD
  have hK : va_K (dC, dI) vwCl (ztys cs_134) s := by rw [ecs_134, ztys_snoc hcs_129]; exact hK
  refine W.widen (k := 27) (n := 59660) (Nat.le_of_ble_eq_true rfl) (Nat.le_of_ble_eq_true rfl) ?_
  refine va_putF (D := (dC, dI)) (ci := 15) (v := .ref q_131) (ty := .array .int) (C := RX13) (T := TX13) (N := 196) hx hb hts iw_X13_init_X13 tyX13 tyX13_ok nmX13 hown hK hP hD hS 0 rfl rfl 38 (by decide) (hts (.fieldLink RX13 89 "LiquidTongueModel" "qNumber" "[I") (by decide +kernel)) (fun _ h9 => h9) rfl hin rfl (by decide +kernel) rfl rfl (zs_lt hlf_130 (by decide)) dX13_init_239 (fun H locs hP hD hS => ?_)
  obtain ⟨f_135, ef_135⟩ : ∃ z : List Value, z = f_130.set 38 (.ref q_131) := ⟨_, rfl⟩
  have hlf_135 : f_135.length = 196 := by rw [ef_135]; exact zs_len hlf_130
  have gf_135 : f_135 = zput fs qs_133 := by rw [ef_135, gf_130, eqs_133, zput_snoc hqs_128]; rfl
  have hP : va_P (dC, dI) vwCl ((h0, .inr (15, f_135)) :: zarr qs_133 cs_134) H := by rw [ef_135]; exact hP
  have hD : va_D A ((h0, .inr (15, f_135)) :: zarr qs_133 cs_134) := by rw [ef_135]; exact hD
  refine lv_aload_n hx hb dX13_init_242 rfl (lv_at hl 0 rfl) ?_
  refine lv_bipush (v := 6) hx hb dX13_init_243 (by decide) ?_
  refine va_newa (atype := .int) (ty := .int) (N' := 6) (a0 := (6, .inl (fun _ => 0))) hx hb (hts (.arrayClass .int) (by decide +kernel)) rfl hK hP hD hS hA (fun cA => rfl) (by decide) (by decide) (Nat.le_of_ble_eq_true rfl) (Nat.le_of_ble_eq_true rfl) (Nat.le_of_ble_eq_true rfl) dX13_init_245 (fun q_136 cA_137 H hK hP hD hS => ?_)
  obtain ⟨qs_138, eqs_138⟩ : ∃ z : List Nat, z = qs_133 ++ [q_136] := ⟨_, rfl⟩
  obtain ⟨cs_139, ecs_139⟩ : ∃ z : List ClassId, z = cs_134 ++ [cA_137] := ⟨_, rfl⟩
  have hqs_138 : qs_138.length = 28 := by rw [eqs_138]; exact zl_snoc hqs_133
  have hcs_139 : cs_139.length = 28 := by rw [ecs_139]; exact zl_snoc hcs_134
  have hP : va_P (dC, dI) vwCl ((h0, .inr (15, f_135)) :: zarr qs_138 cs_139) H := by rw [eqs_138, ecs_139, zarr_snoc hqs_133 hcs_134]; exact hP
  have hD : va_D A ((h0, .inr (15, f_135)) :: zarr qs_138 cs_139) := by rw [eqs_138, ecs_139, zarr_snoc hqs_133 hcs_134]; exact hD
  have hK : va_K (dC, dI) vwCl (ztys cs_139) s := by rw [ecs_139, ztys_snoc hcs_134]; exact hK
  refine W.widen (k := 28) (n := 59666) (Nat.le_of_ble_eq_true rfl) (Nat.le_of_ble_eq_true rfl) ?_
  refine va_putF (D := (dC, dI)) (ci := 15) (v := .ref q_136) (ty := .array .int) (C := RX13) (T := TX13) (N := 196) hx hb hts iw_X13_init_X13 tyX13 tyX13_ok nmX13 hown hK hP hD hS 0 rfl rfl 40 (by decide) (hts (.fieldLink RX13 92 "LiquidTongueModel" "inWord" "[I") (by decide +kernel)) (fun _ h9 => h9) rfl hin rfl (by decide +kernel) rfl rfl (zs_lt hlf_135 (by decide)) dX13_init_247 (fun H locs hP hD hS => ?_)
  obtain ⟨f_140, ef_140⟩ : ∃ z : List Value, z = f_135.set 40 (.ref q_136) := ⟨_, rfl⟩
  have hlf_140 : f_140.length = 196 := by rw [ef_140]; exact zs_len hlf_135
  have gf_140 : f_140 = zput fs qs_138 := by rw [ef_140, gf_135, eqs_138, zput_snoc hqs_133]; rfl
  have hP : va_P (dC, dI) vwCl ((h0, .inr (15, f_140)) :: zarr qs_138 cs_139) H := by rw [ef_140]; exact hP
  have hD : va_D A ((h0, .inr (15, f_140)) :: zarr qs_138 cs_139) := by rw [ef_140]; exact hD
  refine lv_aload_n hx hb dX13_init_250 rfl (lv_at hl 0 rfl) ?_
  refine lv_bipush (v := 6) hx hb dX13_init_251 (by decide) ?_
  refine va_newa (atype := .int) (ty := .int) (N' := 6) (a0 := (6, .inl (fun _ => 0))) hx hb (hts (.arrayClass .int) (by decide +kernel)) rfl hK hP hD hS hA (fun cA => rfl) (by decide) (by decide) (Nat.le_of_ble_eq_true rfl) (Nat.le_of_ble_eq_true rfl) (Nat.le_of_ble_eq_true rfl) dX13_init_253 (fun q_141 cA_142 H hK hP hD hS => ?_)
  obtain ⟨qs_143, eqs_143⟩ : ∃ z : List Nat, z = qs_138 ++ [q_141] := ⟨_, rfl⟩
  obtain ⟨cs_144, ecs_144⟩ : ∃ z : List ClassId, z = cs_139 ++ [cA_142] := ⟨_, rfl⟩
  have hqs_143 : qs_143.length = 29 := by rw [eqs_143]; exact zl_snoc hqs_138
  have hcs_144 : cs_144.length = 29 := by rw [ecs_144]; exact zl_snoc hcs_139
  have hP : va_P (dC, dI) vwCl ((h0, .inr (15, f_140)) :: zarr qs_143 cs_144) H := by rw [eqs_143, ecs_144, zarr_snoc hqs_138 hcs_139]; exact hP
  have hD : va_D A ((h0, .inr (15, f_140)) :: zarr qs_143 cs_144) := by rw [eqs_143, ecs_144, zarr_snoc hqs_138 hcs_139]; exact hD
  have hK : va_K (dC, dI) vwCl (ztys cs_144) s := by rw [ecs_144, ztys_snoc hcs_139]; exact hK
  refine W.widen (k := 29) (n := 59672) (Nat.le_of_ble_eq_true rfl) (Nat.le_of_ble_eq_true rfl) ?_
  refine va_putF (D := (dC, dI)) (ci := 15) (v := .ref q_141) (ty := .array .int) (C := RX13) (T := TX13) (N := 196) hx hb hts iw_X13_init_X13 tyX13 tyX13_ok nmX13 hown hK hP hD hS 0 rfl rfl 41 (by decide) (hts (.fieldLink RX13 95 "LiquidTongueModel" "inSort" "[I") (by decide +kernel)) (fun _ h9 => h9) rfl hin rfl (by decide +kernel) rfl rfl (zs_lt hlf_140 (by decide)) dX13_init_255 (fun H locs hP hD hS => ?_)
  obtain ⟨f_145, ef_145⟩ : ∃ z : List Value, z = f_140.set 41 (.ref q_141) := ⟨_, rfl⟩
  have hlf_145 : f_145.length = 196 := by rw [ef_145]; exact zs_len hlf_140
  have gf_145 : f_145 = zput fs qs_143 := by rw [ef_145, gf_140, eqs_143, zput_snoc hqs_138]; rfl
  have hP : va_P (dC, dI) vwCl ((h0, .inr (15, f_145)) :: zarr qs_143 cs_144) H := by rw [ef_145]; exact hP
  have hD : va_D A ((h0, .inr (15, f_145)) :: zarr qs_143 cs_144) := by rw [ef_145]; exact hD
  refine lv_aload_n hx hb dX13_init_258 rfl (lv_at hl 0 rfl) ?_
  refine lv_sipush (v := 600) hx hb dX13_init_259 (by decide) ?_
  refine va_newa (atype := .int) (ty := .int) (N' := 600) (a0 := (600, .inl (fun _ => 0))) hx hb (hts (.arrayClass .int) (by decide +kernel)) rfl hK hP hD hS hA (fun cA => rfl) (by decide) (by decide) (Nat.le_of_ble_eq_true rfl) (Nat.le_of_ble_eq_true rfl) (Nat.le_of_ble_eq_true rfl) dX13_init_262 (fun q_146 cA_147 H hK hP hD hS => ?_)
  obtain ⟨qs_148, eqs_148⟩ : ∃ z : List Nat, z = qs_143 ++ [q_146] := ⟨_, rfl⟩
  obtain ⟨cs_149, ecs_149⟩ : ∃ z : List ClassId, z = cs_144 ++ [cA_147] := ⟨_, rfl⟩
  have hqs_148 : qs_148.length = 30 := by rw [eqs_148]; exact zl_snoc hqs_143
  have hcs_149 : cs_149.length = 30 := by rw [ecs_149]; exact zl_snoc hcs_144
  have hP : va_P (dC, dI) vwCl ((h0, .inr (15, f_145)) :: zarr qs_148 cs_149) H := by rw [eqs_148, ecs_149, zarr_snoc hqs_143 hcs_144]; exact hP
  have hD : va_D A ((h0, .inr (15, f_145)) :: zarr qs_148 cs_149) := by rw [eqs_148, ecs_149, zarr_snoc hqs_143 hcs_144]; exact hD
  have hK : va_K (dC, dI) vwCl (ztys cs_149) s := by rw [ecs_149, ztys_snoc hcs_144]; exact hK
  refine W.widen (k := 30) (n := 60272) (Nat.le_of_ble_eq_true rfl) (Nat.le_of_ble_eq_true rfl) ?_
  refine va_putF (D := (dC, dI)) (ci := 15) (v := .ref q_146) (ty := .array .int) (C := RX13) (T := TX13) (N := 196) hx hb hts iw_X13_init_X13 tyX13 tyX13_ok nmX13 hown hK hP hD hS 0 rfl rfl 44 (by decide) (hts (.fieldLink RX13 98 "LiquidTongueModel" "callWhat" "[I") (by decide +kernel)) (fun _ h9 => h9) rfl hin rfl (by decide +kernel) rfl rfl (zs_lt hlf_145 (by decide)) dX13_init_264 (fun H locs hP hD hS => ?_)
  obtain ⟨f_150, ef_150⟩ : ∃ z : List Value, z = f_145.set 44 (.ref q_146) := ⟨_, rfl⟩
  have hlf_150 : f_150.length = 196 := by rw [ef_150]; exact zs_len hlf_145
  have gf_150 : f_150 = zput fs qs_148 := by rw [ef_150, gf_145, eqs_148, zput_snoc hqs_143]; rfl
  have hP : va_P (dC, dI) vwCl ((h0, .inr (15, f_150)) :: zarr qs_148 cs_149) H := by rw [ef_150]; exact hP
  have hD : va_D A ((h0, .inr (15, f_150)) :: zarr qs_148 cs_149) := by rw [ef_150]; exact hD
  refine lv_aload_n hx hb dX13_init_267 rfl (lv_at hl 0 rfl) ?_
  refine lv_sipush (v := 700) hx hb dX13_init_268 (by decide) ?_
  refine va_newa (atype := .int) (ty := .int) (N' := 700) (a0 := (700, .inl (fun _ => 0))) hx hb (hts (.arrayClass .int) (by decide +kernel)) rfl hK hP hD hS hA (fun cA => rfl) (by decide) (by decide) (Nat.le_of_ble_eq_true rfl) (Nat.le_of_ble_eq_true rfl) (Nat.le_of_ble_eq_true rfl) dX13_init_271 (fun q_151 cA_152 H hK hP hD hS => ?_)
  obtain ⟨qs_153, eqs_153⟩ : ∃ z : List Nat, z = qs_148 ++ [q_151] := ⟨_, rfl⟩
  obtain ⟨cs_154, ecs_154⟩ : ∃ z : List ClassId, z = cs_149 ++ [cA_152] := ⟨_, rfl⟩
  have hqs_153 : qs_153.length = 31 := by rw [eqs_153]; exact zl_snoc hqs_148
  have hcs_154 : cs_154.length = 31 := by rw [ecs_154]; exact zl_snoc hcs_149
  have hP : va_P (dC, dI) vwCl ((h0, .inr (15, f_150)) :: zarr qs_153 cs_154) H := by rw [eqs_153, ecs_154, zarr_snoc hqs_148 hcs_149]; exact hP
  have hD : va_D A ((h0, .inr (15, f_150)) :: zarr qs_153 cs_154) := by rw [eqs_153, ecs_154, zarr_snoc hqs_148 hcs_149]; exact hD
  have hK : va_K (dC, dI) vwCl (ztys cs_154) s := by rw [ecs_154, ztys_snoc hcs_149]; exact hK
  refine W.widen (k := 31) (n := 60972) (Nat.le_of_ble_eq_true rfl) (Nat.le_of_ble_eq_true rfl) ?_
  refine va_putF (D := (dC, dI)) (ci := 15) (v := .ref q_151) (ty := .array .int) (C := RX13) (T := TX13) (N := 196) hx hb hts iw_X13_init_X13 tyX13 tyX13_ok nmX13 hown hK hP hD hS 0 rfl rfl 46 (by decide) (hts (.fieldLink RX13 101 "LiquidTongueModel" "dWord" "[I") (by decide +kernel)) (fun _ h9 => h9) rfl hin rfl (by decide +kernel) rfl rfl (zs_lt hlf_150 (by decide)) dX13_init_273 (fun H locs hP hD hS => ?_)
  obtain ⟨f_155, ef_155⟩ : ∃ z : List Value, z = f_150.set 46 (.ref q_151) := ⟨_, rfl⟩
  have hlf_155 : f_155.length = 196 := by rw [ef_155]; exact zs_len hlf_150
  have gf_155 : f_155 = zput fs qs_153 := by rw [ef_155, gf_150, eqs_153, zput_snoc hqs_148]; rfl
  have hP : va_P (dC, dI) vwCl ((h0, .inr (15, f_155)) :: zarr qs_153 cs_154) H := by rw [ef_155]; exact hP
  have hD : va_D A ((h0, .inr (15, f_155)) :: zarr qs_153 cs_154) := by rw [ef_155]; exact hD
  refine lv_aload_n hx hb dX13_init_276 rfl (lv_at hl 0 rfl) ?_
  refine lv_sipush (v := 700) hx hb dX13_init_277 (by decide) ?_
  refine va_newa (atype := .int) (ty := .int) (N' := 700) (a0 := (700, .inl (fun _ => 0))) hx hb (hts (.arrayClass .int) (by decide +kernel)) rfl hK hP hD hS hA (fun cA => rfl) (by decide) (by decide) (Nat.le_of_ble_eq_true rfl) (Nat.le_of_ble_eq_true rfl) (Nat.le_of_ble_eq_true rfl) dX13_init_280 (fun q_156 cA_157 H hK hP hD hS => ?_)
  obtain ⟨qs_158, eqs_158⟩ : ∃ z : List Nat, z = qs_153 ++ [q_156] := ⟨_, rfl⟩
  obtain ⟨cs_159, ecs_159⟩ : ∃ z : List ClassId, z = cs_154 ++ [cA_157] := ⟨_, rfl⟩
  have hqs_158 : qs_158.length = 32 := by rw [eqs_158]; exact zl_snoc hqs_153
  have hcs_159 : cs_159.length = 32 := by rw [ecs_159]; exact zl_snoc hcs_154
  have hP : va_P (dC, dI) vwCl ((h0, .inr (15, f_155)) :: zarr qs_158 cs_159) H := by rw [eqs_158, ecs_159, zarr_snoc hqs_153 hcs_154]; exact hP
  have hD : va_D A ((h0, .inr (15, f_155)) :: zarr qs_158 cs_159) := by rw [eqs_158, ecs_159, zarr_snoc hqs_153 hcs_154]; exact hD
  have hK : va_K (dC, dI) vwCl (ztys cs_159) s := by rw [ecs_159, ztys_snoc hcs_154]; exact hK
  refine W.widen (k := 32) (n := 61672) (Nat.le_of_ble_eq_true rfl) (Nat.le_of_ble_eq_true rfl) ?_
  refine va_putF (D := (dC, dI)) (ci := 15) (v := .ref q_156) (ty := .array .int) (C := RX13) (T := TX13) (N := 196) hx hb hts iw_X13_init_X13 tyX13 tyX13_ok nmX13 hown hK hP hD hS 0 rfl rfl 47 (by decide) (hts (.fieldLink RX13 104 "LiquidTongueModel" "dType" "[I") (by decide +kernel)) (fun _ h9 => h9) rfl hin rfl (by decide +kernel) rfl rfl (zs_lt hlf_155 (by decide)) dX13_init_282 (fun H locs hP hD hS => ?_)
  obtain ⟨f_160, ef_160⟩ : ∃ z : List Value, z = f_155.set 47 (.ref q_156) := ⟨_, rfl⟩
  have hlf_160 : f_160.length = 196 := by rw [ef_160]; exact zs_len hlf_155
  have gf_160 : f_160 = zput fs qs_158 := by rw [ef_160, gf_155, eqs_158, zput_snoc hqs_153]; rfl
  have hP : va_P (dC, dI) vwCl ((h0, .inr (15, f_160)) :: zarr qs_158 cs_159) H := by rw [ef_160]; exact hP
  have hD : va_D A ((h0, .inr (15, f_160)) :: zarr qs_158 cs_159) := by rw [ef_160]; exact hD
  refine lv_aload_n hx hb dX13_init_285 rfl (lv_at hl 0 rfl) ?_
  refine lv_sipush (v := 2010) hx hb dX13_init_286 (by decide) ?_
  refine va_newa (atype := .int) (ty := .int) (N' := 2010) (a0 := (2010, .inl (fun _ => 0))) hx hb (hts (.arrayClass .int) (by decide +kernel)) rfl hK hP hD hS hA (fun cA => rfl) (by decide) (by decide) (Nat.le_of_ble_eq_true rfl) (Nat.le_of_ble_eq_true rfl) (Nat.le_of_ble_eq_true rfl) dX13_init_289 (fun q_161 cA_162 H hK hP hD hS => ?_)
  obtain ⟨qs_163, eqs_163⟩ : ∃ z : List Nat, z = qs_158 ++ [q_161] := ⟨_, rfl⟩
  obtain ⟨cs_164, ecs_164⟩ : ∃ z : List ClassId, z = cs_159 ++ [cA_162] := ⟨_, rfl⟩
  have hqs_163 : qs_163.length = 33 := by rw [eqs_163]; exact zl_snoc hqs_158
  have hcs_164 : cs_164.length = 33 := by rw [ecs_164]; exact zl_snoc hcs_159
  have hP : va_P (dC, dI) vwCl ((h0, .inr (15, f_160)) :: zarr qs_163 cs_164) H := by rw [eqs_163, ecs_164, zarr_snoc hqs_158 hcs_159]; exact hP
  have hD : va_D A ((h0, .inr (15, f_160)) :: zarr qs_163 cs_164) := by rw [eqs_163, ecs_164, zarr_snoc hqs_158 hcs_159]; exact hD
  have hK : va_K (dC, dI) vwCl (ztys cs_164) s := by rw [ecs_164, ztys_snoc hcs_159]; exact hK
  refine W.widen (k := 33) (n := 63682) (Nat.le_of_ble_eq_true rfl) (Nat.le_of_ble_eq_true rfl) ?_
  refine va_putF (D := (dC, dI)) (ci := 15) (v := .ref q_161) (ty := .array .int) (C := RX13) (T := TX13) (N := 196) hx hb hts iw_X13_init_X13 tyX13 tyX13_ok nmX13 hown hK hP hD hS 0 rfl rfl 48 (by decide) (hts (.fieldLink RX13 107 "LiquidTongueModel" "whose" "[I") (by decide +kernel)) (fun _ h9 => h9) rfl hin rfl (by decide +kernel) rfl rfl (zs_lt hlf_160 (by decide)) dX13_init_291 (fun H locs hP hD hS => ?_)
  obtain ⟨f_165, ef_165⟩ : ∃ z : List Value, z = f_160.set 48 (.ref q_161) := ⟨_, rfl⟩
  have hlf_165 : f_165.length = 196 := by rw [ef_165]; exact zs_len hlf_160
  have gf_165 : f_165 = zput fs qs_163 := by rw [ef_165, gf_160, eqs_163, zput_snoc hqs_158]; rfl
  have hP : va_P (dC, dI) vwCl ((h0, .inr (15, f_165)) :: zarr qs_163 cs_164) H := by rw [ef_165]; exact hP
  have hD : va_D A ((h0, .inr (15, f_165)) :: zarr qs_163 cs_164) := by rw [ef_165]; exact hD
  refine lv_aload_n hx hb dX13_init_294 rfl (lv_at hl 0 rfl) ?_
  refine lv_sipush (v := 400) hx hb dX13_init_295 (by decide) ?_
  refine va_newa (atype := .int) (ty := .int) (N' := 400) (a0 := (400, .inl (fun _ => 0))) hx hb (hts (.arrayClass .int) (by decide +kernel)) rfl hK hP hD hS hA (fun cA => rfl) (by decide) (by decide) (Nat.le_of_ble_eq_true rfl) (Nat.le_of_ble_eq_true rfl) (Nat.le_of_ble_eq_true rfl) dX13_init_298 (fun q_166 cA_167 H hK hP hD hS => ?_)
  obtain ⟨qs_168, eqs_168⟩ : ∃ z : List Nat, z = qs_163 ++ [q_166] := ⟨_, rfl⟩
  obtain ⟨cs_169, ecs_169⟩ : ∃ z : List ClassId, z = cs_164 ++ [cA_167] := ⟨_, rfl⟩
  have hqs_168 : qs_168.length = 34 := by rw [eqs_168]; exact zl_snoc hqs_163
  have hcs_169 : cs_169.length = 34 := by rw [ecs_169]; exact zl_snoc hcs_164
  have hP : va_P (dC, dI) vwCl ((h0, .inr (15, f_165)) :: zarr qs_168 cs_169) H := by rw [eqs_168, ecs_169, zarr_snoc hqs_163 hcs_164]; exact hP
  have hD : va_D A ((h0, .inr (15, f_165)) :: zarr qs_168 cs_169) := by rw [eqs_168, ecs_169, zarr_snoc hqs_163 hcs_164]; exact hD
  have hK : va_K (dC, dI) vwCl (ztys cs_169) s := by rw [ecs_169, ztys_snoc hcs_164]; exact hK
  refine W.widen (k := 34) (n := 64082) (Nat.le_of_ble_eq_true rfl) (Nat.le_of_ble_eq_true rfl) ?_
  refine va_putF (D := (dC, dI)) (ci := 15) (v := .ref q_166) (ty := .array .int) (C := RX13) (T := TX13) (N := 196) hx hb hts iw_X13_init_X13 tyX13 tyX13_ok nmX13 hown hK hP hD hS 0 rfl rfl 49 (by decide) (hts (.fieldLink RX13 110 "LiquidTongueModel" "scope" "[I") (by decide +kernel)) (fun _ h9 => h9) rfl hin rfl (by decide +kernel) rfl rfl (zs_lt hlf_165 (by decide)) dX13_init_300 (fun H locs hP hD hS => ?_)
  obtain ⟨f_170, ef_170⟩ : ∃ z : List Value, z = f_165.set 49 (.ref q_166) := ⟨_, rfl⟩
  have hlf_170 : f_170.length = 196 := by rw [ef_170]; exact zs_len hlf_165
  have gf_170 : f_170 = zput fs qs_168 := by rw [ef_170, gf_165, eqs_168, zput_snoc hqs_163]; rfl
  have hP : va_P (dC, dI) vwCl ((h0, .inr (15, f_170)) :: zarr qs_168 cs_169) H := by rw [ef_170]; exact hP
  have hD : va_D A ((h0, .inr (15, f_170)) :: zarr qs_168 cs_169) := by rw [ef_170]; exact hD
  refine lv_aload_n hx hb dX13_init_303 rfl (lv_at hl 0 rfl) ?_
  refine lv_sipush (v := 9000) hx hb dX13_init_304 (by decide) ?_
  refine va_newa (atype := .int) (ty := .int) (N' := 9000) (a0 := (9000, .inl (fun _ => 0))) hx hb (hts (.arrayClass .int) (by decide +kernel)) rfl hK hP hD hS hA (fun cA => rfl) (by decide) (by decide) (Nat.le_of_ble_eq_true rfl) (Nat.le_of_ble_eq_true rfl) (Nat.le_of_ble_eq_true rfl) dX13_init_307 (fun q_171 cA_172 H hK hP hD hS => ?_)
  obtain ⟨qs_173, eqs_173⟩ : ∃ z : List Nat, z = qs_168 ++ [q_171] := ⟨_, rfl⟩
  obtain ⟨cs_174, ecs_174⟩ : ∃ z : List ClassId, z = cs_169 ++ [cA_172] := ⟨_, rfl⟩
  have hqs_173 : qs_173.length = 35 := by rw [eqs_173]; exact zl_snoc hqs_168
  have hcs_174 : cs_174.length = 35 := by rw [ecs_174]; exact zl_snoc hcs_169
  have hP : va_P (dC, dI) vwCl ((h0, .inr (15, f_170)) :: zarr qs_173 cs_174) H := by rw [eqs_173, ecs_174, zarr_snoc hqs_168 hcs_169]; exact hP
  have hD : va_D A ((h0, .inr (15, f_170)) :: zarr qs_173 cs_174) := by rw [eqs_173, ecs_174, zarr_snoc hqs_168 hcs_169]; exact hD
  have hK : va_K (dC, dI) vwCl (ztys cs_174) s := by rw [ecs_174, ztys_snoc hcs_169]; exact hK
  refine W.widen (k := 35) (n := 73082) (Nat.le_of_ble_eq_true rfl) (Nat.le_of_ble_eq_true rfl) ?_
  refine va_putF (D := (dC, dI)) (ci := 15) (v := .ref q_171) (ty := .array .int) (C := RX13) (T := TX13) (N := 196) hx hb hts iw_X13_init_X13 tyX13 tyX13_ok nmX13 hown hK hP hD hS 0 rfl rfl 53 (by decide) (hts (.fieldLink RX13 113 "LiquidTongueModel" "tKind" "[I") (by decide +kernel)) (fun _ h9 => h9) rfl hin rfl (by decide +kernel) rfl rfl (zs_lt hlf_170 (by decide)) dX13_init_309 (fun H locs hP hD hS => ?_)
  obtain ⟨f_175, ef_175⟩ : ∃ z : List Value, z = f_170.set 53 (.ref q_171) := ⟨_, rfl⟩
  have hlf_175 : f_175.length = 196 := by rw [ef_175]; exact zs_len hlf_170
  have gf_175 : f_175 = zput fs qs_173 := by rw [ef_175, gf_170, eqs_173, zput_snoc hqs_168]; rfl
  have hP : va_P (dC, dI) vwCl ((h0, .inr (15, f_175)) :: zarr qs_173 cs_174) H := by rw [ef_175]; exact hP
  have hD : va_D A ((h0, .inr (15, f_175)) :: zarr qs_173 cs_174) := by rw [ef_175]; exact hD
  refine lv_aload_n hx hb dX13_init_312 rfl (lv_at hl 0 rfl) ?_
  refine lv_sipush (v := 9000) hx hb dX13_init_313 (by decide) ?_
  refine va_newa (atype := .int) (ty := .int) (N' := 9000) (a0 := (9000, .inl (fun _ => 0))) hx hb (hts (.arrayClass .int) (by decide +kernel)) rfl hK hP hD hS hA (fun cA => rfl) (by decide) (by decide) (Nat.le_of_ble_eq_true rfl) (Nat.le_of_ble_eq_true rfl) (Nat.le_of_ble_eq_true rfl) dX13_init_316 (fun q_176 cA_177 H hK hP hD hS => ?_)
  obtain ⟨qs_178, eqs_178⟩ : ∃ z : List Nat, z = qs_173 ++ [q_176] := ⟨_, rfl⟩
  obtain ⟨cs_179, ecs_179⟩ : ∃ z : List ClassId, z = cs_174 ++ [cA_177] := ⟨_, rfl⟩
  have hqs_178 : qs_178.length = 36 := by rw [eqs_178]; exact zl_snoc hqs_173
  have hcs_179 : cs_179.length = 36 := by rw [ecs_179]; exact zl_snoc hcs_174
  have hP : va_P (dC, dI) vwCl ((h0, .inr (15, f_175)) :: zarr qs_178 cs_179) H := by rw [eqs_178, ecs_179, zarr_snoc hqs_173 hcs_174]; exact hP
  have hD : va_D A ((h0, .inr (15, f_175)) :: zarr qs_178 cs_179) := by rw [eqs_178, ecs_179, zarr_snoc hqs_173 hcs_174]; exact hD
  have hK : va_K (dC, dI) vwCl (ztys cs_179) s := by rw [ecs_179, ztys_snoc hcs_174]; exact hK
  refine W.widen (k := 36) (n := 82082) (Nat.le_of_ble_eq_true rfl) (Nat.le_of_ble_eq_true rfl) ?_
  refine va_putF (D := (dC, dI)) (ci := 15) (v := .ref q_176) (ty := .array .int) (C := RX13) (T := TX13) (N := 196) hx hb hts iw_X13_init_X13 tyX13 tyX13_ok nmX13 hown hK hP hD hS 0 rfl rfl 54 (by decide) (hts (.fieldLink RX13 116 "LiquidTongueModel" "tLeft" "[I") (by decide +kernel)) (fun _ h9 => h9) rfl hin rfl (by decide +kernel) rfl rfl (zs_lt hlf_175 (by decide)) dX13_init_318 (fun H locs hP hD hS => ?_)
  obtain ⟨f_180, ef_180⟩ : ∃ z : List Value, z = f_175.set 54 (.ref q_176) := ⟨_, rfl⟩
  have hlf_180 : f_180.length = 196 := by rw [ef_180]; exact zs_len hlf_175
  have gf_180 : f_180 = zput fs qs_178 := by rw [ef_180, gf_175, eqs_178, zput_snoc hqs_173]; rfl
  have hP : va_P (dC, dI) vwCl ((h0, .inr (15, f_180)) :: zarr qs_178 cs_179) H := by rw [ef_180]; exact hP
  have hD : va_D A ((h0, .inr (15, f_180)) :: zarr qs_178 cs_179) := by rw [ef_180]; exact hD
  refine lv_aload_n hx hb dX13_init_321 rfl (lv_at hl 0 rfl) ?_
  refine lv_sipush (v := 9000) hx hb dX13_init_322 (by decide) ?_
  refine va_newa (atype := .int) (ty := .int) (N' := 9000) (a0 := (9000, .inl (fun _ => 0))) hx hb (hts (.arrayClass .int) (by decide +kernel)) rfl hK hP hD hS hA (fun cA => rfl) (by decide) (by decide) (Nat.le_of_ble_eq_true rfl) (Nat.le_of_ble_eq_true rfl) (Nat.le_of_ble_eq_true rfl) dX13_init_325 (fun q_181 cA_182 H hK hP hD hS => ?_)
  obtain ⟨qs_183, eqs_183⟩ : ∃ z : List Nat, z = qs_178 ++ [q_181] := ⟨_, rfl⟩
  obtain ⟨cs_184, ecs_184⟩ : ∃ z : List ClassId, z = cs_179 ++ [cA_182] := ⟨_, rfl⟩
  have hqs_183 : qs_183.length = 37 := by rw [eqs_183]; exact zl_snoc hqs_178
  have hcs_184 : cs_184.length = 37 := by rw [ecs_184]; exact zl_snoc hcs_179
  have hP : va_P (dC, dI) vwCl ((h0, .inr (15, f_180)) :: zarr qs_183 cs_184) H := by rw [eqs_183, ecs_184, zarr_snoc hqs_178 hcs_179]; exact hP
  have hD : va_D A ((h0, .inr (15, f_180)) :: zarr qs_183 cs_184) := by rw [eqs_183, ecs_184, zarr_snoc hqs_178 hcs_179]; exact hD
  have hK : va_K (dC, dI) vwCl (ztys cs_184) s := by rw [ecs_184, ztys_snoc hcs_179]; exact hK
  refine W.widen (k := 37) (n := 91082) (Nat.le_of_ble_eq_true rfl) (Nat.le_of_ble_eq_true rfl) ?_
  refine va_putF (D := (dC, dI)) (ci := 15) (v := .ref q_181) (ty := .array .int) (C := RX13) (T := TX13) (N := 196) hx hb hts iw_X13_init_X13 tyX13 tyX13_ok nmX13 hown hK hP hD hS 0 rfl rfl 55 (by decide) (hts (.fieldLink RX13 119 "LiquidTongueModel" "tRight" "[I") (by decide +kernel)) (fun _ h9 => h9) rfl hin rfl (by decide +kernel) rfl rfl (zs_lt hlf_180 (by decide)) dX13_init_327 (fun H locs hP hD hS => ?_)
  obtain ⟨f_185, ef_185⟩ : ∃ z : List Value, z = f_180.set 55 (.ref q_181) := ⟨_, rfl⟩
  have hlf_185 : f_185.length = 196 := by rw [ef_185]; exact zs_len hlf_180
  have gf_185 : f_185 = zput fs qs_183 := by rw [ef_185, gf_180, eqs_183, zput_snoc hqs_178]; rfl
  have hP : va_P (dC, dI) vwCl ((h0, .inr (15, f_185)) :: zarr qs_183 cs_184) H := by rw [ef_185]; exact hP
  have hD : va_D A ((h0, .inr (15, f_185)) :: zarr qs_183 cs_184) := by rw [ef_185]; exact hD
  refine lv_aload_n hx hb dX13_init_330 rfl (lv_at hl 0 rfl) ?_
  refine lv_sipush (v := 9000) hx hb dX13_init_331 (by decide) ?_
  refine va_newa (atype := .int) (ty := .int) (N' := 9000) (a0 := (9000, .inl (fun _ => 0))) hx hb (hts (.arrayClass .int) (by decide +kernel)) rfl hK hP hD hS hA (fun cA => rfl) (by decide) (by decide) (Nat.le_of_ble_eq_true rfl) (Nat.le_of_ble_eq_true rfl) (Nat.le_of_ble_eq_true rfl) dX13_init_334 (fun q_186 cA_187 H hK hP hD hS => ?_)
  obtain ⟨qs_188, eqs_188⟩ : ∃ z : List Nat, z = qs_183 ++ [q_186] := ⟨_, rfl⟩
  obtain ⟨cs_189, ecs_189⟩ : ∃ z : List ClassId, z = cs_184 ++ [cA_187] := ⟨_, rfl⟩
  have hqs_188 : qs_188.length = 38 := by rw [eqs_188]; exact zl_snoc hqs_183
  have hcs_189 : cs_189.length = 38 := by rw [ecs_189]; exact zl_snoc hcs_184
  have hP : va_P (dC, dI) vwCl ((h0, .inr (15, f_185)) :: zarr qs_188 cs_189) H := by rw [eqs_188, ecs_189, zarr_snoc hqs_183 hcs_184]; exact hP
  have hD : va_D A ((h0, .inr (15, f_185)) :: zarr qs_188 cs_189) := by rw [eqs_188, ecs_189, zarr_snoc hqs_183 hcs_184]; exact hD
  have hK : va_K (dC, dI) vwCl (ztys cs_189) s := by rw [ecs_189, ztys_snoc hcs_184]; exact hK
  refine W.widen (k := 38) (n := 100082) (Nat.le_of_ble_eq_true rfl) (Nat.le_of_ble_eq_true rfl) ?_
  refine va_putF (D := (dC, dI)) (ci := 15) (v := .ref q_186) (ty := .array .int) (C := RX13) (T := TX13) (N := 196) hx hb hts iw_X13_init_X13 tyX13 tyX13_ok nmX13 hown hK hP hD hS 0 rfl rfl 56 (by decide) (hts (.fieldLink RX13 122 "LiquidTongueModel" "tLink" "[I") (by decide +kernel)) (fun _ h9 => h9) rfl hin rfl (by decide +kernel) rfl rfl (zs_lt hlf_185 (by decide)) dX13_init_336 (fun H locs hP hD hS => ?_)
  obtain ⟨f_190, ef_190⟩ : ∃ z : List Value, z = f_185.set 56 (.ref q_186) := ⟨_, rfl⟩
  have hlf_190 : f_190.length = 196 := by rw [ef_190]; exact zs_len hlf_185
  have gf_190 : f_190 = zput fs qs_188 := by rw [ef_190, gf_185, eqs_188, zput_snoc hqs_183]; rfl
  have hP : va_P (dC, dI) vwCl ((h0, .inr (15, f_190)) :: zarr qs_188 cs_189) H := by rw [ef_190]; exact hP
  have hD : va_D A ((h0, .inr (15, f_190)) :: zarr qs_188 cs_189) := by rw [ef_190]; exact hD
  refine lv_aload_n hx hb dX13_init_339 rfl (lv_at hl 0 rfl) ?_
  refine lv_sipush (v := 9000) hx hb dX13_init_340 (by decide) ?_
  refine va_newa (atype := .int) (ty := .int) (N' := 9000) (a0 := (9000, .inl (fun _ => 0))) hx hb (hts (.arrayClass .int) (by decide +kernel)) rfl hK hP hD hS hA (fun cA => rfl) (by decide) (by decide) (Nat.le_of_ble_eq_true rfl) (Nat.le_of_ble_eq_true rfl) (Nat.le_of_ble_eq_true rfl) dX13_init_343 (fun q_191 cA_192 H hK hP hD hS => ?_)
  obtain ⟨qs_193, eqs_193⟩ : ∃ z : List Nat, z = qs_188 ++ [q_191] := ⟨_, rfl⟩
  obtain ⟨cs_194, ecs_194⟩ : ∃ z : List ClassId, z = cs_189 ++ [cA_192] := ⟨_, rfl⟩
  have hqs_193 : qs_193.length = 39 := by rw [eqs_193]; exact zl_snoc hqs_188
  have hcs_194 : cs_194.length = 39 := by rw [ecs_194]; exact zl_snoc hcs_189
  have hP : va_P (dC, dI) vwCl ((h0, .inr (15, f_190)) :: zarr qs_193 cs_194) H := by rw [eqs_193, ecs_194, zarr_snoc hqs_188 hcs_189]; exact hP
  have hD : va_D A ((h0, .inr (15, f_190)) :: zarr qs_193 cs_194) := by rw [eqs_193, ecs_194, zarr_snoc hqs_188 hcs_189]; exact hD
  have hK : va_K (dC, dI) vwCl (ztys cs_194) s := by rw [ecs_194, ztys_snoc hcs_189]; exact hK
  refine W.widen (k := 39) (n := 109082) (Nat.le_of_ble_eq_true rfl) (Nat.le_of_ble_eq_true rfl) ?_
  refine va_putF (D := (dC, dI)) (ci := 15) (v := .ref q_191) (ty := .array .int) (C := RX13) (T := TX13) (N := 196) hx hb hts iw_X13_init_X13 tyX13 tyX13_ok nmX13 hown hK hP hD hS 0 rfl rfl 57 (by decide) (hts (.fieldLink RX13 125 "LiquidTongueModel" "tSeen" "[I") (by decide +kernel)) (fun _ h9 => h9) rfl hin rfl (by decide +kernel) rfl rfl (zs_lt hlf_190 (by decide)) dX13_init_345 (fun H locs hP hD hS => ?_)
  obtain ⟨f_195, ef_195⟩ : ∃ z : List Value, z = f_190.set 57 (.ref q_191) := ⟨_, rfl⟩
  have hlf_195 : f_195.length = 196 := by rw [ef_195]; exact zs_len hlf_190
  have gf_195 : f_195 = zput fs qs_193 := by rw [ef_195, gf_190, eqs_193, zput_snoc hqs_188]; rfl
  have hP : va_P (dC, dI) vwCl ((h0, .inr (15, f_195)) :: zarr qs_193 cs_194) H := by rw [ef_195]; exact hP
  have hD : va_D A ((h0, .inr (15, f_195)) :: zarr qs_193 cs_194) := by rw [ef_195]; exact hD
  refine lv_aload_n hx hb dX13_init_348 rfl (lv_at hl 0 rfl) ?_
  refine lv_sipush (v := 2100) hx hb dX13_init_349 (by decide) ?_
  refine va_newa (atype := .int) (ty := .int) (N' := 2100) (a0 := (2100, .inl (fun _ => 0))) hx hb (hts (.arrayClass .int) (by decide +kernel)) rfl hK hP hD hS hA (fun cA => rfl) (by decide) (by decide) (Nat.le_of_ble_eq_true rfl) (Nat.le_of_ble_eq_true rfl) (Nat.le_of_ble_eq_true rfl) dX13_init_352 (fun q_196 cA_197 H hK hP hD hS => ?_)
  obtain ⟨qs_198, eqs_198⟩ : ∃ z : List Nat, z = qs_193 ++ [q_196] := ⟨_, rfl⟩
  obtain ⟨cs_199, ecs_199⟩ : ∃ z : List ClassId, z = cs_194 ++ [cA_197] := ⟨_, rfl⟩
  have hqs_198 : qs_198.length = 40 := by rw [eqs_198]; exact zl_snoc hqs_193
  have hcs_199 : cs_199.length = 40 := by rw [ecs_199]; exact zl_snoc hcs_194
  have hP : va_P (dC, dI) vwCl ((h0, .inr (15, f_195)) :: zarr qs_198 cs_199) H := by rw [eqs_198, ecs_199, zarr_snoc hqs_193 hcs_194]; exact hP
  have hD : va_D A ((h0, .inr (15, f_195)) :: zarr qs_198 cs_199) := by rw [eqs_198, ecs_199, zarr_snoc hqs_193 hcs_194]; exact hD
  have hK : va_K (dC, dI) vwCl (ztys cs_199) s := by rw [ecs_199, ztys_snoc hcs_194]; exact hK
  refine W.widen (k := 40) (n := 111182) (Nat.le_of_ble_eq_true rfl) (Nat.le_of_ble_eq_true rfl) ?_
  refine va_putF (D := (dC, dI)) (ci := 15) (v := .ref q_196) (ty := .array .int) (C := RX13) (T := TX13) (N := 196) hx hb hts iw_X13_init_X13 tyX13 tyX13_ok nmX13 hown hK hP hD hS 0 rfl rfl 58 (by decide) (hts (.fieldLink RX13 128 "LiquidTongueModel" "nodeType" "[I") (by decide +kernel)) (fun _ h9 => h9) rfl hin rfl (by decide +kernel) rfl rfl (zs_lt hlf_195 (by decide)) dX13_init_354 (fun H locs hP hD hS => ?_)
  obtain ⟨f_200, ef_200⟩ : ∃ z : List Value, z = f_195.set 58 (.ref q_196) := ⟨_, rfl⟩
  have hlf_200 : f_200.length = 196 := by rw [ef_200]; exact zs_len hlf_195
  have gf_200 : f_200 = zput fs qs_198 := by rw [ef_200, gf_195, eqs_198, zput_snoc hqs_193]; rfl
  have hP : va_P (dC, dI) vwCl ((h0, .inr (15, f_200)) :: zarr qs_198 cs_199) H := by rw [ef_200]; exact hP
  have hD : va_D A ((h0, .inr (15, f_200)) :: zarr qs_198 cs_199) := by rw [ef_200]; exact hD
  refine lv_aload_n hx hb dX13_init_357 rfl (lv_at hl 0 rfl) ?_
  refine lv_bipush (v := 40) hx hb dX13_init_358 (by decide) ?_
  refine va_newa (atype := .int) (ty := .int) (N' := 40) (a0 := (40, .inl (fun _ => 0))) hx hb (hts (.arrayClass .int) (by decide +kernel)) rfl hK hP hD hS hA (fun cA => rfl) (by decide) (by decide) (Nat.le_of_ble_eq_true rfl) (Nat.le_of_ble_eq_true rfl) (Nat.le_of_ble_eq_true rfl) dX13_init_360 (fun q_201 cA_202 H hK hP hD hS => ?_)
  obtain ⟨qs_203, eqs_203⟩ : ∃ z : List Nat, z = qs_198 ++ [q_201] := ⟨_, rfl⟩
  obtain ⟨cs_204, ecs_204⟩ : ∃ z : List ClassId, z = cs_199 ++ [cA_202] := ⟨_, rfl⟩
  have hqs_203 : qs_203.length = 41 := by rw [eqs_203]; exact zl_snoc hqs_198
  have hcs_204 : cs_204.length = 41 := by rw [ecs_204]; exact zl_snoc hcs_199
  have hP : va_P (dC, dI) vwCl ((h0, .inr (15, f_200)) :: zarr qs_203 cs_204) H := by rw [eqs_203, ecs_204, zarr_snoc hqs_198 hcs_199]; exact hP
  have hD : va_D A ((h0, .inr (15, f_200)) :: zarr qs_203 cs_204) := by rw [eqs_203, ecs_204, zarr_snoc hqs_198 hcs_199]; exact hD
  have hK : va_K (dC, dI) vwCl (ztys cs_204) s := by rw [ecs_204, ztys_snoc hcs_199]; exact hK
  refine W.widen (k := 41) (n := 111222) (Nat.le_of_ble_eq_true rfl) (Nat.le_of_ble_eq_true rfl) ?_
  refine va_putF (D := (dC, dI)) (ci := 15) (v := .ref q_201) (ty := .array .int) (C := RX13) (T := TX13) (N := 196) hx hb hts iw_X13_init_X13 tyX13 tyX13_ok nmX13 hown hK hP hD hS 0 rfl rfl 61 (by decide) (hts (.fieldLink RX13 131 "LiquidTongueModel" "lName" "[I") (by decide +kernel)) (fun _ h9 => h9) rfl hin rfl (by decide +kernel) rfl rfl (zs_lt hlf_200 (by decide)) dX13_init_362 (fun H locs hP hD hS => ?_)
  obtain ⟨f_205, ef_205⟩ : ∃ z : List Value, z = f_200.set 61 (.ref q_201) := ⟨_, rfl⟩
  have hlf_205 : f_205.length = 196 := by rw [ef_205]; exact zs_len hlf_200
  have gf_205 : f_205 = zput fs qs_203 := by rw [ef_205, gf_200, eqs_203, zput_snoc hqs_198]; rfl
  have hP : va_P (dC, dI) vwCl ((h0, .inr (15, f_205)) :: zarr qs_203 cs_204) H := by rw [ef_205]; exact hP
  have hD : va_D A ((h0, .inr (15, f_205)) :: zarr qs_203 cs_204) := by rw [ef_205]; exact hD
  refine lv_aload_n hx hb dX13_init_365 rfl (lv_at hl 0 rfl) ?_
  refine lv_bipush (v := 40) hx hb dX13_init_366 (by decide) ?_
  refine va_newa (atype := .int) (ty := .int) (N' := 40) (a0 := (40, .inl (fun _ => 0))) hx hb (hts (.arrayClass .int) (by decide +kernel)) rfl hK hP hD hS hA (fun cA => rfl) (by decide) (by decide) (Nat.le_of_ble_eq_true rfl) (Nat.le_of_ble_eq_true rfl) (Nat.le_of_ble_eq_true rfl) dX13_init_368 (fun q_206 cA_207 H hK hP hD hS => ?_)
  obtain ⟨qs_208, eqs_208⟩ : ∃ z : List Nat, z = qs_203 ++ [q_206] := ⟨_, rfl⟩
  obtain ⟨cs_209, ecs_209⟩ : ∃ z : List ClassId, z = cs_204 ++ [cA_207] := ⟨_, rfl⟩
  have hqs_208 : qs_208.length = 42 := by rw [eqs_208]; exact zl_snoc hqs_203
  have hcs_209 : cs_209.length = 42 := by rw [ecs_209]; exact zl_snoc hcs_204
  have hP : va_P (dC, dI) vwCl ((h0, .inr (15, f_205)) :: zarr qs_208 cs_209) H := by rw [eqs_208, ecs_209, zarr_snoc hqs_203 hcs_204]; exact hP
  have hD : va_D A ((h0, .inr (15, f_205)) :: zarr qs_208 cs_209) := by rw [eqs_208, ecs_209, zarr_snoc hqs_203 hcs_204]; exact hD
  have hK : va_K (dC, dI) vwCl (ztys cs_209) s := by rw [ecs_209, ztys_snoc hcs_204]; exact hK
  refine W.widen (k := 42) (n := 111262) (Nat.le_of_ble_eq_true rfl) (Nat.le_of_ble_eq_true rfl) ?_
  refine va_putF (D := (dC, dI)) (ci := 15) (v := .ref q_206) (ty := .array .int) (C := RX13) (T := TX13) (N := 196) hx hb hts iw_X13_init_X13 tyX13 tyX13_ok nmX13 hown hK hP hD hS 0 rfl rfl 62 (by decide) (hts (.fieldLink RX13 134 "LiquidTongueModel" "lTimes" "[I") (by decide +kernel)) (fun _ h9 => h9) rfl hin rfl (by decide +kernel) rfl rfl (zs_lt hlf_205 (by decide)) dX13_init_370 (fun H locs hP hD hS => ?_)
  obtain ⟨f_210, ef_210⟩ : ∃ z : List Value, z = f_205.set 62 (.ref q_206) := ⟨_, rfl⟩
  have hlf_210 : f_210.length = 196 := by rw [ef_210]; exact zs_len hlf_205
  have gf_210 : f_210 = zput fs qs_208 := by rw [ef_210, gf_205, eqs_208, zput_snoc hqs_203]; rfl
  have hP : va_P (dC, dI) vwCl ((h0, .inr (15, f_210)) :: zarr qs_208 cs_209) H := by rw [ef_210]; exact hP
  have hD : va_D A ((h0, .inr (15, f_210)) :: zarr qs_208 cs_209) := by rw [ef_210]; exact hD
  refine lv_aload_n hx hb dX13_init_373 rfl (lv_at hl 0 rfl) ?_
  refine lv_iconst (v := -1) hx hb dX13_init_374 (by decide) ?_
  refine va_put (D := (dC, dI)) (ci := 15) (v := .int (-1)) (ty := .int) (C := RX13) (T := TX13) (N := 196) hx hb hts iw_X13_init_X13 tyX13 tyX13_ok nmX13 hown hK hP hD hS 0 rfl rfl 69 (by decide) (hts (.fieldLink RX13 137 "LiquidTongueModel" "place" "I") (by decide +kernel)) (fun _ h9 => h9) rfl (by decide +kernel) rfl rfl (zs_lt hlf_210 (by decide)) dX13_init_375 (fun H locs hP hD hS => ?_)
  obtain ⟨f_211, ef_211⟩ : ∃ z : List Value, z = f_210.set 69 (.int (-1)) := ⟨_, rfl⟩
  have hlf_211 : f_211.length = 196 := by rw [ef_211]; exact zs_len hlf_210
  have gf_211 : f_211 = zput (fs.set 69 (.int (-1))) qs_208 := by rw [ef_211, gf_210, zput_comm hqs_208 (by decide)]
  have hP : va_P (dC, dI) vwCl ((h0, .inr (15, f_211)) :: zarr qs_208 cs_209) H := by rw [ef_211]; exact hP
  have hD : va_D A ((h0, .inr (15, f_211)) :: zarr qs_208 cs_209) := by rw [ef_211]; exact hD
  refine lv_aload_n hx hb dX13_init_378 rfl (lv_at hl 0 rfl) ?_
  refine lv_ldc (v := 40000) hx hb hown (hts (.constant RX13 141 (40000)) (by decide +kernel)) dX13_init_379 ?_
  refine va_newa (atype := .int) (ty := .int) (N' := 40000) (a0 := (40000, .inl (fun _ => 0))) hx hb (hts (.arrayClass .int) (by decide +kernel)) rfl hK hP hD hS hA (fun cA => rfl) (by decide) (by decide) (Nat.le_of_ble_eq_true rfl) (Nat.le_of_ble_eq_true rfl) (Nat.le_of_ble_eq_true rfl) dX13_init_381 (fun q_212 cA_213 H hK hP hD hS => ?_)
  obtain ⟨qs_214, eqs_214⟩ : ∃ z : List Nat, z = qs_208 ++ [q_212] := ⟨_, rfl⟩
  obtain ⟨cs_215, ecs_215⟩ : ∃ z : List ClassId, z = cs_209 ++ [cA_213] := ⟨_, rfl⟩
  have hqs_214 : qs_214.length = 43 := by rw [eqs_214]; exact zl_snoc hqs_208
  have hcs_215 : cs_215.length = 43 := by rw [ecs_215]; exact zl_snoc hcs_209
  have hP : va_P (dC, dI) vwCl ((h0, .inr (15, f_211)) :: zarr qs_214 cs_215) H := by rw [eqs_214, ecs_215, zarr_snoc hqs_208 hcs_209]; exact hP
  have hD : va_D A ((h0, .inr (15, f_211)) :: zarr qs_214 cs_215) := by rw [eqs_214, ecs_215, zarr_snoc hqs_208 hcs_209]; exact hD
  have hK : va_K (dC, dI) vwCl (ztys cs_215) s := by rw [ecs_215, ztys_snoc hcs_209]; exact hK
  refine W.widen (k := 43) (n := 151262) (Nat.le_of_ble_eq_true rfl) (Nat.le_of_ble_eq_true rfl) ?_
  refine va_putF (D := (dC, dI)) (ci := 15) (v := .ref q_212) (ty := .array .int) (C := RX13) (T := TX13) (N := 196) hx hb hts iw_X13_init_X13 tyX13 tyX13_ok nmX13 hown hK hP hD hS 0 rfl rfl 70 (by decide) (hts (.fieldLink RX13 142 "LiquidTongueModel" "rKind" "[I") (by decide +kernel)) (fun _ h9 => h9) rfl hin rfl (by decide +kernel) rfl rfl (zs_lt hlf_211 (by decide)) dX13_init_383 (fun H locs hP hD hS => ?_)
  obtain ⟨f_216, ef_216⟩ : ∃ z : List Value, z = f_211.set 70 (.ref q_212) := ⟨_, rfl⟩
  have hlf_216 : f_216.length = 196 := by rw [ef_216]; exact zs_len hlf_211
  have gf_216 : f_216 = zput (fs.set 69 (.int (-1))) qs_214 := by rw [ef_216, gf_211, eqs_214, zput_snoc hqs_208]; rfl
  have hP : va_P (dC, dI) vwCl ((h0, .inr (15, f_216)) :: zarr qs_214 cs_215) H := by rw [ef_216]; exact hP
  have hD : va_D A ((h0, .inr (15, f_216)) :: zarr qs_214 cs_215) := by rw [ef_216]; exact hD
  refine lv_aload_n hx hb dX13_init_386 rfl (lv_at hl 0 rfl) ?_
  refine lv_ldc (v := 40000) hx hb hown (hts (.constant RX13 141 (40000)) (by decide +kernel)) dX13_init_387 ?_
  refine va_newa (atype := .int) (ty := .int) (N' := 40000) (a0 := (40000, .inl (fun _ => 0))) hx hb (hts (.arrayClass .int) (by decide +kernel)) rfl hK hP hD hS hA (fun cA => rfl) (by decide) (by decide) (Nat.le_of_ble_eq_true rfl) (Nat.le_of_ble_eq_true rfl) (Nat.le_of_ble_eq_true rfl) dX13_init_389 (fun q_217 cA_218 H hK hP hD hS => ?_)
  obtain ⟨qs_219, eqs_219⟩ : ∃ z : List Nat, z = qs_214 ++ [q_217] := ⟨_, rfl⟩
  obtain ⟨cs_220, ecs_220⟩ : ∃ z : List ClassId, z = cs_215 ++ [cA_218] := ⟨_, rfl⟩
  have hqs_219 : qs_219.length = 44 := by rw [eqs_219]; exact zl_snoc hqs_214
  have hcs_220 : cs_220.length = 44 := by rw [ecs_220]; exact zl_snoc hcs_215
  have hP : va_P (dC, dI) vwCl ((h0, .inr (15, f_216)) :: zarr qs_219 cs_220) H := by rw [eqs_219, ecs_220, zarr_snoc hqs_214 hcs_215]; exact hP
  have hD : va_D A ((h0, .inr (15, f_216)) :: zarr qs_219 cs_220) := by rw [eqs_219, ecs_220, zarr_snoc hqs_214 hcs_215]; exact hD
  have hK : va_K (dC, dI) vwCl (ztys cs_220) s := by rw [ecs_220, ztys_snoc hcs_215]; exact hK
  refine W.widen (k := 44) (n := 191262) (Nat.le_of_ble_eq_true rfl) (Nat.le_of_ble_eq_true rfl) ?_
  refine va_putF (D := (dC, dI)) (ci := 15) (v := .ref q_217) (ty := .array .int) (C := RX13) (T := TX13) (N := 196) hx hb hts iw_X13_init_X13 tyX13 tyX13_ok nmX13 hown hK hP hD hS 0 rfl rfl 71 (by decide) (hts (.fieldLink RX13 145 "LiquidTongueModel" "rSaid" "[I") (by decide +kernel)) (fun _ h9 => h9) rfl hin rfl (by decide +kernel) rfl rfl (zs_lt hlf_216 (by decide)) dX13_init_391 (fun H locs hP hD hS => ?_)
  obtain ⟨f_221, ef_221⟩ : ∃ z : List Value, z = f_216.set 71 (.ref q_217) := ⟨_, rfl⟩
  have hlf_221 : f_221.length = 196 := by rw [ef_221]; exact zs_len hlf_216
  have gf_221 : f_221 = zput (fs.set 69 (.int (-1))) qs_219 := by rw [ef_221, gf_216, eqs_219, zput_snoc hqs_214]; rfl
  have hP : va_P (dC, dI) vwCl ((h0, .inr (15, f_221)) :: zarr qs_219 cs_220) H := by rw [ef_221]; exact hP
  have hD : va_D A ((h0, .inr (15, f_221)) :: zarr qs_219 cs_220) := by rw [ef_221]; exact hD
  refine lv_aload_n hx hb dX13_init_394 rfl (lv_at hl 0 rfl) ?_
  refine lv_ldc (v := 40000) hx hb hown (hts (.constant RX13 141 (40000)) (by decide +kernel)) dX13_init_395 ?_
  refine va_newa (atype := .int) (ty := .int) (N' := 40000) (a0 := (40000, .inl (fun _ => 0))) hx hb (hts (.arrayClass .int) (by decide +kernel)) rfl hK hP hD hS hA (fun cA => rfl) (by decide) (by decide) (Nat.le_of_ble_eq_true rfl) (Nat.le_of_ble_eq_true rfl) (Nat.le_of_ble_eq_true rfl) dX13_init_397 (fun q_222 cA_223 H hK hP hD hS => ?_)
  obtain ⟨qs_224, eqs_224⟩ : ∃ z : List Nat, z = qs_219 ++ [q_222] := ⟨_, rfl⟩
  obtain ⟨cs_225, ecs_225⟩ : ∃ z : List ClassId, z = cs_220 ++ [cA_223] := ⟨_, rfl⟩
  have hqs_224 : qs_224.length = 45 := by rw [eqs_224]; exact zl_snoc hqs_219
  have hcs_225 : cs_225.length = 45 := by rw [ecs_225]; exact zl_snoc hcs_220
  have hP : va_P (dC, dI) vwCl ((h0, .inr (15, f_221)) :: zarr qs_224 cs_225) H := by rw [eqs_224, ecs_225, zarr_snoc hqs_219 hcs_220]; exact hP
  have hD : va_D A ((h0, .inr (15, f_221)) :: zarr qs_224 cs_225) := by rw [eqs_224, ecs_225, zarr_snoc hqs_219 hcs_220]; exact hD
  have hK : va_K (dC, dI) vwCl (ztys cs_225) s := by rw [ecs_225, ztys_snoc hcs_220]; exact hK
  refine W.widen (k := 45) (n := 231262) (Nat.le_of_ble_eq_true rfl) (Nat.le_of_ble_eq_true rfl) ?_
  refine va_putF (D := (dC, dI)) (ci := 15) (v := .ref q_222) (ty := .array .int) (C := RX13) (T := TX13) (N := 196) hx hb hts iw_X13_init_X13 tyX13 tyX13_ok nmX13 hown hK hP hD hS 0 rfl rfl 72 (by decide) (hts (.fieldLink RX13 148 "LiquidTongueModel" "rName" "[I") (by decide +kernel)) (fun _ h9 => h9) rfl hin rfl (by decide +kernel) rfl rfl (zs_lt hlf_221 (by decide)) dX13_init_399 (fun H locs hP hD hS => ?_)
  obtain ⟨f_226, ef_226⟩ : ∃ z : List Value, z = f_221.set 72 (.ref q_222) := ⟨_, rfl⟩
  have hlf_226 : f_226.length = 196 := by rw [ef_226]; exact zs_len hlf_221
  have gf_226 : f_226 = zput (fs.set 69 (.int (-1))) qs_224 := by rw [ef_226, gf_221, eqs_224, zput_snoc hqs_219]; rfl
  have hP : va_P (dC, dI) vwCl ((h0, .inr (15, f_226)) :: zarr qs_224 cs_225) H := by rw [ef_226]; exact hP
  have hD : va_D A ((h0, .inr (15, f_226)) :: zarr qs_224 cs_225) := by rw [ef_226]; exact hD
  refine lv_aload_n hx hb dX13_init_402 rfl (lv_at hl 0 rfl) ?_
  refine lv_ldc (v := 40000) hx hb hown (hts (.constant RX13 141 (40000)) (by decide +kernel)) dX13_init_403 ?_
  refine va_newa (atype := .int) (ty := .int) (N' := 40000) (a0 := (40000, .inl (fun _ => 0))) hx hb (hts (.arrayClass .int) (by decide +kernel)) rfl hK hP hD hS hA (fun cA => rfl) (by decide) (by decide) (Nat.le_of_ble_eq_true rfl) (Nat.le_of_ble_eq_true rfl) (Nat.le_of_ble_eq_true rfl) dX13_init_405 (fun q_227 cA_228 H hK hP hD hS => ?_)
  obtain ⟨qs_229, eqs_229⟩ : ∃ z : List Nat, z = qs_224 ++ [q_227] := ⟨_, rfl⟩
  obtain ⟨cs_230, ecs_230⟩ : ∃ z : List ClassId, z = cs_225 ++ [cA_228] := ⟨_, rfl⟩
  have hqs_229 : qs_229.length = 46 := by rw [eqs_229]; exact zl_snoc hqs_224
  have hcs_230 : cs_230.length = 46 := by rw [ecs_230]; exact zl_snoc hcs_225
  have hP : va_P (dC, dI) vwCl ((h0, .inr (15, f_226)) :: zarr qs_229 cs_230) H := by rw [eqs_229, ecs_230, zarr_snoc hqs_224 hcs_225]; exact hP
  have hD : va_D A ((h0, .inr (15, f_226)) :: zarr qs_229 cs_230) := by rw [eqs_229, ecs_230, zarr_snoc hqs_224 hcs_225]; exact hD
  have hK : va_K (dC, dI) vwCl (ztys cs_230) s := by rw [ecs_230, ztys_snoc hcs_225]; exact hK
  refine W.widen (k := 46) (n := 271262) (Nat.le_of_ble_eq_true rfl) (Nat.le_of_ble_eq_true rfl) ?_
  refine va_putF (D := (dC, dI)) (ci := 15) (v := .ref q_227) (ty := .array .int) (C := RX13) (T := TX13) (N := 196) hx hb hts iw_X13_init_X13 tyX13 tyX13_ok nmX13 hown hK hP hD hS 0 rfl rfl 73 (by decide) (hts (.fieldLink RX13 151 "LiquidTongueModel" "rLeft" "[I") (by decide +kernel)) (fun _ h9 => h9) rfl hin rfl (by decide +kernel) rfl rfl (zs_lt hlf_226 (by decide)) dX13_init_407 (fun H locs hP hD hS => ?_)
  obtain ⟨f_231, ef_231⟩ : ∃ z : List Value, z = f_226.set 73 (.ref q_227) := ⟨_, rfl⟩
  have hlf_231 : f_231.length = 196 := by rw [ef_231]; exact zs_len hlf_226
  have gf_231 : f_231 = zput (fs.set 69 (.int (-1))) qs_229 := by rw [ef_231, gf_226, eqs_229, zput_snoc hqs_224]; rfl
  have hP : va_P (dC, dI) vwCl ((h0, .inr (15, f_231)) :: zarr qs_229 cs_230) H := by rw [ef_231]; exact hP
  have hD : va_D A ((h0, .inr (15, f_231)) :: zarr qs_229 cs_230) := by rw [ef_231]; exact hD
  refine lv_aload_n hx hb dX13_init_410 rfl (lv_at hl 0 rfl) ?_
  refine lv_ldc (v := 40000) hx hb hown (hts (.constant RX13 141 (40000)) (by decide +kernel)) dX13_init_411 ?_
  refine va_newa (atype := .int) (ty := .int) (N' := 40000) (a0 := (40000, .inl (fun _ => 0))) hx hb (hts (.arrayClass .int) (by decide +kernel)) rfl hK hP hD hS hA (fun cA => rfl) (by decide) (by decide) (Nat.le_of_ble_eq_true rfl) (Nat.le_of_ble_eq_true rfl) (Nat.le_of_ble_eq_true rfl) dX13_init_413 (fun q_232 cA_233 H hK hP hD hS => ?_)
  obtain ⟨qs_234, eqs_234⟩ : ∃ z : List Nat, z = qs_229 ++ [q_232] := ⟨_, rfl⟩
  obtain ⟨cs_235, ecs_235⟩ : ∃ z : List ClassId, z = cs_230 ++ [cA_233] := ⟨_, rfl⟩
  have hqs_234 : qs_234.length = 47 := by rw [eqs_234]; exact zl_snoc hqs_229
  have hcs_235 : cs_235.length = 47 := by rw [ecs_235]; exact zl_snoc hcs_230
  have hP : va_P (dC, dI) vwCl ((h0, .inr (15, f_231)) :: zarr qs_234 cs_235) H := by rw [eqs_234, ecs_235, zarr_snoc hqs_229 hcs_230]; exact hP
  have hD : va_D A ((h0, .inr (15, f_231)) :: zarr qs_234 cs_235) := by rw [eqs_234, ecs_235, zarr_snoc hqs_229 hcs_230]; exact hD
  have hK : va_K (dC, dI) vwCl (ztys cs_235) s := by rw [ecs_235, ztys_snoc hcs_230]; exact hK
  refine W.widen (k := 47) (n := 311262) (Nat.le_of_ble_eq_true rfl) (Nat.le_of_ble_eq_true rfl) ?_
  refine va_putF (D := (dC, dI)) (ci := 15) (v := .ref q_232) (ty := .array .int) (C := RX13) (T := TX13) (N := 196) hx hb hts iw_X13_init_X13 tyX13 tyX13_ok nmX13 hown hK hP hD hS 0 rfl rfl 74 (by decide) (hts (.fieldLink RX13 154 "LiquidTongueModel" "rRight" "[I") (by decide +kernel)) (fun _ h9 => h9) rfl hin rfl (by decide +kernel) rfl rfl (zs_lt hlf_231 (by decide)) dX13_init_415 (fun H locs hP hD hS => ?_)
  obtain ⟨f_236, ef_236⟩ : ∃ z : List Value, z = f_231.set 74 (.ref q_232) := ⟨_, rfl⟩
  have hlf_236 : f_236.length = 196 := by rw [ef_236]; exact zs_len hlf_231
  have gf_236 : f_236 = zput (fs.set 69 (.int (-1))) qs_234 := by rw [ef_236, gf_231, eqs_234, zput_snoc hqs_229]; rfl
  have hP : va_P (dC, dI) vwCl ((h0, .inr (15, f_236)) :: zarr qs_234 cs_235) H := by rw [ef_236]; exact hP
  have hD : va_D A ((h0, .inr (15, f_236)) :: zarr qs_234 cs_235) := by rw [ef_236]; exact hD
  refine lv_aload_n hx hb dX13_init_418 rfl (lv_at hl 0 rfl) ?_
  refine lv_sipush (v := 24000) hx hb dX13_init_419 (by decide) ?_
  refine va_newa (atype := .int) (ty := .int) (N' := 24000) (a0 := (24000, .inl (fun _ => 0))) hx hb (hts (.arrayClass .int) (by decide +kernel)) rfl hK hP hD hS hA (fun cA => rfl) (by decide) (by decide) (Nat.le_of_ble_eq_true rfl) (Nat.le_of_ble_eq_true rfl) (Nat.le_of_ble_eq_true rfl) dX13_init_422 (fun q_237 cA_238 H hK hP hD hS => ?_)
  obtain ⟨qs_239, eqs_239⟩ : ∃ z : List Nat, z = qs_234 ++ [q_237] := ⟨_, rfl⟩
  obtain ⟨cs_240, ecs_240⟩ : ∃ z : List ClassId, z = cs_235 ++ [cA_238] := ⟨_, rfl⟩
  have hqs_239 : qs_239.length = 48 := by rw [eqs_239]; exact zl_snoc hqs_234
  have hcs_240 : cs_240.length = 48 := by rw [ecs_240]; exact zl_snoc hcs_235
  have hP : va_P (dC, dI) vwCl ((h0, .inr (15, f_236)) :: zarr qs_239 cs_240) H := by rw [eqs_239, ecs_240, zarr_snoc hqs_234 hcs_235]; exact hP
  have hD : va_D A ((h0, .inr (15, f_236)) :: zarr qs_239 cs_240) := by rw [eqs_239, ecs_240, zarr_snoc hqs_234 hcs_235]; exact hD
  have hK : va_K (dC, dI) vwCl (ztys cs_240) s := by rw [ecs_240, ztys_snoc hcs_235]; exact hK
  refine W.widen (k := 48) (n := 335262) (Nat.le_of_ble_eq_true rfl) (Nat.le_of_ble_eq_true rfl) ?_
  refine va_putF (D := (dC, dI)) (ci := 15) (v := .ref q_237) (ty := .array .int) (C := RX13) (T := TX13) (N := 196) hx hb hts iw_X13_init_X13 tyX13 tyX13_ok nmX13 hown hK hP hD hS 0 rfl rfl 76 (by decide) (hts (.fieldLink RX13 157 "LiquidTongueModel" "saidCase" "[I") (by decide +kernel)) (fun _ h9 => h9) rfl hin rfl (by decide +kernel) rfl rfl (zs_lt hlf_236 (by decide)) dX13_init_424 (fun H locs hP hD hS => ?_)
  obtain ⟨f_241, ef_241⟩ : ∃ z : List Value, z = f_236.set 76 (.ref q_237) := ⟨_, rfl⟩
  have hlf_241 : f_241.length = 196 := by rw [ef_241]; exact zs_len hlf_236
  have gf_241 : f_241 = zput (fs.set 69 (.int (-1))) qs_239 := by rw [ef_241, gf_236, eqs_239, zput_snoc hqs_234]; rfl
  have hP : va_P (dC, dI) vwCl ((h0, .inr (15, f_241)) :: zarr qs_239 cs_240) H := by rw [ef_241]; exact hP
  have hD : va_D A ((h0, .inr (15, f_241)) :: zarr qs_239 cs_240) := by rw [ef_241]; exact hD
  refine lv_aload_n hx hb dX13_init_427 rfl (lv_at hl 0 rfl) ?_
  refine lv_sipush (v := 24000) hx hb dX13_init_428 (by decide) ?_
  refine va_newa (atype := .int) (ty := .int) (N' := 24000) (a0 := (24000, .inl (fun _ => 0))) hx hb (hts (.arrayClass .int) (by decide +kernel)) rfl hK hP hD hS hA (fun cA => rfl) (by decide) (by decide) (Nat.le_of_ble_eq_true rfl) (Nat.le_of_ble_eq_true rfl) (Nat.le_of_ble_eq_true rfl) dX13_init_431 (fun q_242 cA_243 H hK hP hD hS => ?_)
  obtain ⟨qs_244, eqs_244⟩ : ∃ z : List Nat, z = qs_239 ++ [q_242] := ⟨_, rfl⟩
  obtain ⟨cs_245, ecs_245⟩ : ∃ z : List ClassId, z = cs_240 ++ [cA_243] := ⟨_, rfl⟩
  have hqs_244 : qs_244.length = 49 := by rw [eqs_244]; exact zl_snoc hqs_239
  have hcs_245 : cs_245.length = 49 := by rw [ecs_245]; exact zl_snoc hcs_240
  have hP : va_P (dC, dI) vwCl ((h0, .inr (15, f_241)) :: zarr qs_244 cs_245) H := by rw [eqs_244, ecs_245, zarr_snoc hqs_239 hcs_240]; exact hP
  have hD : va_D A ((h0, .inr (15, f_241)) :: zarr qs_244 cs_245) := by rw [eqs_244, ecs_245, zarr_snoc hqs_239 hcs_240]; exact hD
  have hK : va_K (dC, dI) vwCl (ztys cs_245) s := by rw [ecs_245, ztys_snoc hcs_240]; exact hK
  refine W.widen (k := 49) (n := 359262) (Nat.le_of_ble_eq_true rfl) (Nat.le_of_ble_eq_true rfl) ?_
  refine va_putF (D := (dC, dI)) (ci := 15) (v := .ref q_242) (ty := .array .int) (C := RX13) (T := TX13) (N := 196) hx hb hts iw_X13_init_X13 tyX13 tyX13_ok nmX13 hown hK hP hD hS 0 rfl rfl 77 (by decide) (hts (.fieldLink RX13 160 "LiquidTongueModel" "saidFact" "[I") (by decide +kernel)) (fun _ h9 => h9) rfl hin rfl (by decide +kernel) rfl rfl (zs_lt hlf_241 (by decide)) dX13_init_433 (fun H locs hP hD hS => ?_)
  obtain ⟨f_246, ef_246⟩ : ∃ z : List Value, z = f_241.set 77 (.ref q_242) := ⟨_, rfl⟩
  have hlf_246 : f_246.length = 196 := by rw [ef_246]; exact zs_len hlf_241
  have gf_246 : f_246 = zput (fs.set 69 (.int (-1))) qs_244 := by rw [ef_246, gf_241, eqs_244, zput_snoc hqs_239]; rfl
  have hP : va_P (dC, dI) vwCl ((h0, .inr (15, f_246)) :: zarr qs_244 cs_245) H := by rw [ef_246]; exact hP
  have hD : va_D A ((h0, .inr (15, f_246)) :: zarr qs_244 cs_245) := by rw [ef_246]; exact hD
  refine lv_aload_n hx hb dX13_init_436 rfl (lv_at hl 0 rfl) ?_
  refine lv_sipush (v := 24000) hx hb dX13_init_437 (by decide) ?_
  refine va_newa (atype := .int) (ty := .int) (N' := 24000) (a0 := (24000, .inl (fun _ => 0))) hx hb (hts (.arrayClass .int) (by decide +kernel)) rfl hK hP hD hS hA (fun cA => rfl) (by decide) (by decide) (Nat.le_of_ble_eq_true rfl) (Nat.le_of_ble_eq_true rfl) (Nat.le_of_ble_eq_true rfl) dX13_init_440 (fun q_247 cA_248 H hK hP hD hS => ?_)
  obtain ⟨qs_249, eqs_249⟩ : ∃ z : List Nat, z = qs_244 ++ [q_247] := ⟨_, rfl⟩
  obtain ⟨cs_250, ecs_250⟩ : ∃ z : List ClassId, z = cs_245 ++ [cA_248] := ⟨_, rfl⟩
  have hqs_249 : qs_249.length = 50 := by rw [eqs_249]; exact zl_snoc hqs_244
  have hcs_250 : cs_250.length = 50 := by rw [ecs_250]; exact zl_snoc hcs_245
  have hP : va_P (dC, dI) vwCl ((h0, .inr (15, f_246)) :: zarr qs_249 cs_250) H := by rw [eqs_249, ecs_250, zarr_snoc hqs_244 hcs_245]; exact hP
  have hD : va_D A ((h0, .inr (15, f_246)) :: zarr qs_249 cs_250) := by rw [eqs_249, ecs_250, zarr_snoc hqs_244 hcs_245]; exact hD
  have hK : va_K (dC, dI) vwCl (ztys cs_250) s := by rw [ecs_250, ztys_snoc hcs_245]; exact hK
  refine W.widen (k := 50) (n := 383262) (Nat.le_of_ble_eq_true rfl) (Nat.le_of_ble_eq_true rfl) ?_
  refine va_putF (D := (dC, dI)) (ci := 15) (v := .ref q_247) (ty := .array .int) (C := RX13) (T := TX13) (N := 196) hx hb hts iw_X13_init_X13 tyX13 tyX13_ok nmX13 hown hK hP hD hS 0 rfl rfl 78 (by decide) (hts (.fieldLink RX13 163 "LiquidTongueModel" "saidPut" "[I") (by decide +kernel)) (fun _ h9 => h9) rfl hin rfl (by decide +kernel) rfl rfl (zs_lt hlf_246 (by decide)) dX13_init_442 (fun H locs hP hD hS => ?_)
  obtain ⟨f_251, ef_251⟩ : ∃ z : List Value, z = f_246.set 78 (.ref q_247) := ⟨_, rfl⟩
  have hlf_251 : f_251.length = 196 := by rw [ef_251]; exact zs_len hlf_246
  have gf_251 : f_251 = zput (fs.set 69 (.int (-1))) qs_249 := by rw [ef_251, gf_246, eqs_249, zput_snoc hqs_244]; rfl
  have hP : va_P (dC, dI) vwCl ((h0, .inr (15, f_251)) :: zarr qs_249 cs_250) H := by rw [ef_251]; exact hP
  have hD : va_D A ((h0, .inr (15, f_251)) :: zarr qs_249 cs_250) := by rw [ef_251]; exact hD
  refine lv_aload_n hx hb dX13_init_445 rfl (lv_at hl 0 rfl) ?_
  refine lv_sipush (v := 12000) hx hb dX13_init_446 (by decide) ?_
  refine va_newa (atype := .int) (ty := .int) (N' := 12000) (a0 := (12000, .inl (fun _ => 0))) hx hb (hts (.arrayClass .int) (by decide +kernel)) rfl hK hP hD hS hA (fun cA => rfl) (by decide) (by decide) (Nat.le_of_ble_eq_true rfl) (Nat.le_of_ble_eq_true rfl) (Nat.le_of_ble_eq_true rfl) dX13_init_449 (fun q_252 cA_253 H hK hP hD hS => ?_)
  obtain ⟨qs_254, eqs_254⟩ : ∃ z : List Nat, z = qs_249 ++ [q_252] := ⟨_, rfl⟩
  obtain ⟨cs_255, ecs_255⟩ : ∃ z : List ClassId, z = cs_250 ++ [cA_253] := ⟨_, rfl⟩
  have hqs_254 : qs_254.length = 51 := by rw [eqs_254]; exact zl_snoc hqs_249
  have hcs_255 : cs_255.length = 51 := by rw [ecs_255]; exact zl_snoc hcs_250
  have hP : va_P (dC, dI) vwCl ((h0, .inr (15, f_251)) :: zarr qs_254 cs_255) H := by rw [eqs_254, ecs_255, zarr_snoc hqs_249 hcs_250]; exact hP
  have hD : va_D A ((h0, .inr (15, f_251)) :: zarr qs_254 cs_255) := by rw [eqs_254, ecs_255, zarr_snoc hqs_249 hcs_250]; exact hD
  have hK : va_K (dC, dI) vwCl (ztys cs_255) s := by rw [ecs_255, ztys_snoc hcs_250]; exact hK
  refine W.widen (k := 51) (n := 395262) (Nat.le_of_ble_eq_true rfl) (Nat.le_of_ble_eq_true rfl) ?_
  refine va_putF (D := (dC, dI)) (ci := 15) (v := .ref q_252) (ty := .array .int) (C := RX13) (T := TX13) (N := 196) hx hb hts iw_X13_init_X13 tyX13 tyX13_ok nmX13 hown hK hP hD hS 0 rfl rfl 80 (by decide) (hts (.fieldLink RX13 166 "LiquidTongueModel" "factRel" "[I") (by decide +kernel)) (fun _ h9 => h9) rfl hin rfl (by decide +kernel) rfl rfl (zs_lt hlf_251 (by decide)) dX13_init_451 (fun H locs hP hD hS => ?_)
  obtain ⟨f_256, ef_256⟩ : ∃ z : List Value, z = f_251.set 80 (.ref q_252) := ⟨_, rfl⟩
  have hlf_256 : f_256.length = 196 := by rw [ef_256]; exact zs_len hlf_251
  have gf_256 : f_256 = zput (fs.set 69 (.int (-1))) qs_254 := by rw [ef_256, gf_251, eqs_254, zput_snoc hqs_249]; rfl
  have hP : va_P (dC, dI) vwCl ((h0, .inr (15, f_256)) :: zarr qs_254 cs_255) H := by rw [ef_256]; exact hP
  have hD : va_D A ((h0, .inr (15, f_256)) :: zarr qs_254 cs_255) := by rw [ef_256]; exact hD
  refine lv_aload_n hx hb dX13_init_454 rfl (lv_at hl 0 rfl) ?_
  refine lv_sipush (v := 12000) hx hb dX13_init_455 (by decide) ?_
  refine va_newa (atype := .int) (ty := .int) (N' := 12000) (a0 := (12000, .inl (fun _ => 0))) hx hb (hts (.arrayClass .int) (by decide +kernel)) rfl hK hP hD hS hA (fun cA => rfl) (by decide) (by decide) (Nat.le_of_ble_eq_true rfl) (Nat.le_of_ble_eq_true rfl) (Nat.le_of_ble_eq_true rfl) dX13_init_458 (fun q_257 cA_258 H hK hP hD hS => ?_)
  obtain ⟨qs_259, eqs_259⟩ : ∃ z : List Nat, z = qs_254 ++ [q_257] := ⟨_, rfl⟩
  obtain ⟨cs_260, ecs_260⟩ : ∃ z : List ClassId, z = cs_255 ++ [cA_258] := ⟨_, rfl⟩
  have hqs_259 : qs_259.length = 52 := by rw [eqs_259]; exact zl_snoc hqs_254
  have hcs_260 : cs_260.length = 52 := by rw [ecs_260]; exact zl_snoc hcs_255
  have hP : va_P (dC, dI) vwCl ((h0, .inr (15, f_256)) :: zarr qs_259 cs_260) H := by rw [eqs_259, ecs_260, zarr_snoc hqs_254 hcs_255]; exact hP
  have hD : va_D A ((h0, .inr (15, f_256)) :: zarr qs_259 cs_260) := by rw [eqs_259, ecs_260, zarr_snoc hqs_254 hcs_255]; exact hD
  have hK : va_K (dC, dI) vwCl (ztys cs_260) s := by rw [ecs_260, ztys_snoc hcs_255]; exact hK
  refine W.widen (k := 52) (n := 407262) (Nat.le_of_ble_eq_true rfl) (Nat.le_of_ble_eq_true rfl) ?_
  refine va_putF (D := (dC, dI)) (ci := 15) (v := .ref q_257) (ty := .array .int) (C := RX13) (T := TX13) (N := 196) hx hb hts iw_X13_init_X13 tyX13 tyX13_ok nmX13 hown hK hP hD hS 0 rfl rfl 81 (by decide) (hts (.fieldLink RX13 169 "LiquidTongueModel" "factName" "[I") (by decide +kernel)) (fun _ h9 => h9) rfl hin rfl (by decide +kernel) rfl rfl (zs_lt hlf_256 (by decide)) dX13_init_460 (fun H locs hP hD hS => ?_)
  obtain ⟨f_261, ef_261⟩ : ∃ z : List Value, z = f_256.set 81 (.ref q_257) := ⟨_, rfl⟩
  have hlf_261 : f_261.length = 196 := by rw [ef_261]; exact zs_len hlf_256
  have gf_261 : f_261 = zput (fs.set 69 (.int (-1))) qs_259 := by rw [ef_261, gf_256, eqs_259, zput_snoc hqs_254]; rfl
  have hP : va_P (dC, dI) vwCl ((h0, .inr (15, f_261)) :: zarr qs_259 cs_260) H := by rw [ef_261]; exact hP
  have hD : va_D A ((h0, .inr (15, f_261)) :: zarr qs_259 cs_260) := by rw [ef_261]; exact hD
  refine lv_aload_n hx hb dX13_init_463 rfl (lv_at hl 0 rfl) ?_
  refine lv_sipush (v := 12000) hx hb dX13_init_464 (by decide) ?_
  refine va_newa (atype := .int) (ty := .int) (N' := 12000) (a0 := (12000, .inl (fun _ => 0))) hx hb (hts (.arrayClass .int) (by decide +kernel)) rfl hK hP hD hS hA (fun cA => rfl) (by decide) (by decide) (Nat.le_of_ble_eq_true rfl) (Nat.le_of_ble_eq_true rfl) (Nat.le_of_ble_eq_true rfl) dX13_init_467 (fun q_262 cA_263 H hK hP hD hS => ?_)
  obtain ⟨qs_264, eqs_264⟩ : ∃ z : List Nat, z = qs_259 ++ [q_262] := ⟨_, rfl⟩
  obtain ⟨cs_265, ecs_265⟩ : ∃ z : List ClassId, z = cs_260 ++ [cA_263] := ⟨_, rfl⟩
  have hqs_264 : qs_264.length = 53 := by rw [eqs_264]; exact zl_snoc hqs_259
  have hcs_265 : cs_265.length = 53 := by rw [ecs_265]; exact zl_snoc hcs_260
  have hP : va_P (dC, dI) vwCl ((h0, .inr (15, f_261)) :: zarr qs_264 cs_265) H := by rw [eqs_264, ecs_265, zarr_snoc hqs_259 hcs_260]; exact hP
  have hD : va_D A ((h0, .inr (15, f_261)) :: zarr qs_264 cs_265) := by rw [eqs_264, ecs_265, zarr_snoc hqs_259 hcs_260]; exact hD
  have hK : va_K (dC, dI) vwCl (ztys cs_265) s := by rw [ecs_265, ztys_snoc hcs_260]; exact hK
  refine W.widen (k := 53) (n := 419262) (Nat.le_of_ble_eq_true rfl) (Nat.le_of_ble_eq_true rfl) ?_
  refine va_putF (D := (dC, dI)) (ci := 15) (v := .ref q_262) (ty := .array .int) (C := RX13) (T := TX13) (N := 196) hx hb hts iw_X13_init_X13 tyX13 tyX13_ok nmX13 hown hK hP hD hS 0 rfl rfl 82 (by decide) (hts (.fieldLink RX13 172 "LiquidTongueModel" "factTimes" "[I") (by decide +kernel)) (fun _ h9 => h9) rfl hin rfl (by decide +kernel) rfl rfl (zs_lt hlf_261 (by decide)) dX13_init_469 (fun H locs hP hD hS => ?_)
  obtain ⟨f_266, ef_266⟩ : ∃ z : List Value, z = f_261.set 82 (.ref q_262) := ⟨_, rfl⟩
  have hlf_266 : f_266.length = 196 := by rw [ef_266]; exact zs_len hlf_261
  have gf_266 : f_266 = zput (fs.set 69 (.int (-1))) qs_264 := by rw [ef_266, gf_261, eqs_264, zput_snoc hqs_259]; rfl
  have hP : va_P (dC, dI) vwCl ((h0, .inr (15, f_266)) :: zarr qs_264 cs_265) H := by rw [ef_266]; exact hP
  have hD : va_D A ((h0, .inr (15, f_266)) :: zarr qs_264 cs_265) := by rw [ef_266]; exact hD
  refine lv_aload_n hx hb dX13_init_472 rfl (lv_at hl 0 rfl) ?_
  refine lv_sipush (v := 12000) hx hb dX13_init_473 (by decide) ?_
  refine va_newa (atype := .int) (ty := .int) (N' := 12000) (a0 := (12000, .inl (fun _ => 0))) hx hb (hts (.arrayClass .int) (by decide +kernel)) rfl hK hP hD hS hA (fun cA => rfl) (by decide) (by decide) (Nat.le_of_ble_eq_true rfl) (Nat.le_of_ble_eq_true rfl) (Nat.le_of_ble_eq_true rfl) dX13_init_476 (fun q_267 cA_268 H hK hP hD hS => ?_)
  obtain ⟨qs_269, eqs_269⟩ : ∃ z : List Nat, z = qs_264 ++ [q_267] := ⟨_, rfl⟩
  obtain ⟨cs_270, ecs_270⟩ : ∃ z : List ClassId, z = cs_265 ++ [cA_268] := ⟨_, rfl⟩
  have hqs_269 : qs_269.length = 54 := by rw [eqs_269]; exact zl_snoc hqs_264
  have hcs_270 : cs_270.length = 54 := by rw [ecs_270]; exact zl_snoc hcs_265
  have hP : va_P (dC, dI) vwCl ((h0, .inr (15, f_266)) :: zarr qs_269 cs_270) H := by rw [eqs_269, ecs_270, zarr_snoc hqs_264 hcs_265]; exact hP
  have hD : va_D A ((h0, .inr (15, f_266)) :: zarr qs_269 cs_270) := by rw [eqs_269, ecs_270, zarr_snoc hqs_264 hcs_265]; exact hD
  have hK : va_K (dC, dI) vwCl (ztys cs_270) s := by rw [ecs_270, ztys_snoc hcs_265]; exact hK
  refine W.widen (k := 54) (n := 431262) (Nat.le_of_ble_eq_true rfl) (Nat.le_of_ble_eq_true rfl) ?_
  refine va_putF (D := (dC, dI)) (ci := 15) (v := .ref q_267) (ty := .array .int) (C := RX13) (T := TX13) (N := 196) hx hb hts iw_X13_init_X13 tyX13 tyX13_ok nmX13 hown hK hP hD hS 0 rfl rfl 83 (by decide) (hts (.fieldLink RX13 175 "LiquidTongueModel" "factNext" "[I") (by decide +kernel)) (fun _ h9 => h9) rfl hin rfl (by decide +kernel) rfl rfl (zs_lt hlf_266 (by decide)) dX13_init_478 (fun H locs hP hD hS => ?_)
  obtain ⟨f_271, ef_271⟩ : ∃ z : List Value, z = f_266.set 83 (.ref q_267) := ⟨_, rfl⟩
  have hlf_271 : f_271.length = 196 := by rw [ef_271]; exact zs_len hlf_266
  have gf_271 : f_271 = zput (fs.set 69 (.int (-1))) qs_269 := by rw [ef_271, gf_266, eqs_269, zput_snoc hqs_264]; rfl
  have hP : va_P (dC, dI) vwCl ((h0, .inr (15, f_271)) :: zarr qs_269 cs_270) H := by rw [ef_271]; exact hP
  have hD : va_D A ((h0, .inr (15, f_271)) :: zarr qs_269 cs_270) := by rw [ef_271]; exact hD
  refine lv_aload_n hx hb dX13_init_481 rfl (lv_at hl 0 rfl) ?_
  refine lv_sipush (v := 12000) hx hb dX13_init_482 (by decide) ?_
  refine va_newa (atype := .long) (ty := .long) (N' := 12000) (a0 := (12000, .inr (.inl (fun _ => 0)))) hx hb (hts (.arrayClass .long) (by decide +kernel)) rfl hK hP hD hS hA (fun cA => rfl) (by decide) (by decide) (Nat.le_of_ble_eq_true rfl) (Nat.le_of_ble_eq_true rfl) (Nat.le_of_ble_eq_true rfl) dX13_init_485 (fun q_272 cA_273 H hK hP hD hS => ?_)
  obtain ⟨qs_274, eqs_274⟩ : ∃ z : List Nat, z = qs_269 ++ [q_272] := ⟨_, rfl⟩
  obtain ⟨cs_275, ecs_275⟩ : ∃ z : List ClassId, z = cs_270 ++ [cA_273] := ⟨_, rfl⟩
  have hqs_274 : qs_274.length = 55 := by rw [eqs_274]; exact zl_snoc hqs_269
  have hcs_275 : cs_275.length = 55 := by rw [ecs_275]; exact zl_snoc hcs_270
  have hP : va_P (dC, dI) vwCl ((h0, .inr (15, f_271)) :: zarr qs_274 cs_275) H := by rw [eqs_274, ecs_275, zarr_snoc hqs_269 hcs_270]; exact hP
  have hD : va_D A ((h0, .inr (15, f_271)) :: zarr qs_274 cs_275) := by rw [eqs_274, ecs_275, zarr_snoc hqs_269 hcs_270]; exact hD
  have hK : va_K (dC, dI) vwCl (ztys cs_275) s := by rw [ecs_275, ztys_snoc hcs_270]; exact hK
  refine W.widen (k := 55) (n := 443262) (Nat.le_of_ble_eq_true rfl) (Nat.le_of_ble_eq_true rfl) ?_
  refine va_putF (D := (dC, dI)) (ci := 15) (v := .ref q_272) (ty := .array .long) (C := RX13) (T := TX13) (N := 196) hx hb hts iw_X13_init_X13 tyX13 tyX13_ok nmX13 hown hK hP hD hS 0 rfl rfl 84 (by decide) (hts (.fieldLink RX13 178 "LiquidTongueModel" "factNumber" "[J") (by decide +kernel)) (fun _ h9 => h9) rfl hin rfl (by decide +kernel) rfl rfl (zs_lt hlf_271 (by decide)) dX13_init_487 (fun H locs hP hD hS => ?_)
  obtain ⟨f_276, ef_276⟩ : ∃ z : List Value, z = f_271.set 84 (.ref q_272) := ⟨_, rfl⟩
  have hlf_276 : f_276.length = 196 := by rw [ef_276]; exact zs_len hlf_271
  have gf_276 : f_276 = zput (fs.set 69 (.int (-1))) qs_274 := by rw [ef_276, gf_271, eqs_274, zput_snoc hqs_269]; rfl
  have hP : va_P (dC, dI) vwCl ((h0, .inr (15, f_276)) :: zarr qs_274 cs_275) H := by rw [ef_276]; exact hP
  have hD : va_D A ((h0, .inr (15, f_276)) :: zarr qs_274 cs_275) := by rw [ef_276]; exact hD
  refine lv_aload_n hx hb dX13_init_490 rfl (lv_at hl 0 rfl) ?_
  refine lv_sipush (v := 24000) hx hb dX13_init_491 (by decide) ?_
  refine va_newa (atype := .int) (ty := .int) (N' := 24000) (a0 := (24000, .inl (fun _ => 0))) hx hb (hts (.arrayClass .int) (by decide +kernel)) rfl hK hP hD hS hA (fun cA => rfl) (by decide) (by decide) (Nat.le_of_ble_eq_true rfl) (Nat.le_of_ble_eq_true rfl) (Nat.le_of_ble_eq_true rfl) dX13_init_494 (fun q_277 cA_278 H hK hP hD hS => ?_)
  obtain ⟨qs_279, eqs_279⟩ : ∃ z : List Nat, z = qs_274 ++ [q_277] := ⟨_, rfl⟩
  obtain ⟨cs_280, ecs_280⟩ : ∃ z : List ClassId, z = cs_275 ++ [cA_278] := ⟨_, rfl⟩
  have hqs_279 : qs_279.length = 56 := by rw [eqs_279]; exact zl_snoc hqs_274
  have hcs_280 : cs_280.length = 56 := by rw [ecs_280]; exact zl_snoc hcs_275
  have hP : va_P (dC, dI) vwCl ((h0, .inr (15, f_276)) :: zarr qs_279 cs_280) H := by rw [eqs_279, ecs_280, zarr_snoc hqs_274 hcs_275]; exact hP
  have hD : va_D A ((h0, .inr (15, f_276)) :: zarr qs_279 cs_280) := by rw [eqs_279, ecs_280, zarr_snoc hqs_274 hcs_275]; exact hD
  have hK : va_K (dC, dI) vwCl (ztys cs_280) s := by rw [ecs_280, ztys_snoc hcs_275]; exact hK
  refine W.widen (k := 56) (n := 467262) (Nat.le_of_ble_eq_true rfl) (Nat.le_of_ble_eq_true rfl) ?_
  refine va_putF (D := (dC, dI)) (ci := 15) (v := .ref q_277) (ty := .array .int) (C := RX13) (T := TX13) (N := 196) hx hb hts iw_X13_init_X13 tyX13 tyX13_ok nmX13 hown hK hP hD hS 0 rfl rfl 86 (by decide) (hts (.fieldLink RX13 182 "LiquidTongueModel" "putName" "[I") (by decide +kernel)) (fun _ h9 => h9) rfl hin rfl (by decide +kernel) rfl rfl (zs_lt hlf_276 (by decide)) dX13_init_496 (fun H locs hP hD hS => ?_)
  obtain ⟨f_281, ef_281⟩ : ∃ z : List Value, z = f_276.set 86 (.ref q_277) := ⟨_, rfl⟩
  have hlf_281 : f_281.length = 196 := by rw [ef_281]; exact zs_len hlf_276
  have gf_281 : f_281 = zput (fs.set 69 (.int (-1))) qs_279 := by rw [ef_281, gf_276, eqs_279, zput_snoc hqs_274]; rfl
  have hP : va_P (dC, dI) vwCl ((h0, .inr (15, f_281)) :: zarr qs_279 cs_280) H := by rw [ef_281]; exact hP
  have hD : va_D A ((h0, .inr (15, f_281)) :: zarr qs_279 cs_280) := by rw [ef_281]; exact hD
  refine lv_aload_n hx hb dX13_init_499 rfl (lv_at hl 0 rfl) ?_
  refine lv_sipush (v := 24000) hx hb dX13_init_500 (by decide) ?_
  refine va_newa (atype := .int) (ty := .int) (N' := 24000) (a0 := (24000, .inl (fun _ => 0))) hx hb (hts (.arrayClass .int) (by decide +kernel)) rfl hK hP hD hS hA (fun cA => rfl) (by decide) (by decide) (Nat.le_of_ble_eq_true rfl) (Nat.le_of_ble_eq_true rfl) (Nat.le_of_ble_eq_true rfl) dX13_init_503 (fun q_282 cA_283 H hK hP hD hS => ?_)
  obtain ⟨qs_284, eqs_284⟩ : ∃ z : List Nat, z = qs_279 ++ [q_282] := ⟨_, rfl⟩
  obtain ⟨cs_285, ecs_285⟩ : ∃ z : List ClassId, z = cs_280 ++ [cA_283] := ⟨_, rfl⟩
  have hqs_284 : qs_284.length = 57 := by rw [eqs_284]; exact zl_snoc hqs_279
  have hcs_285 : cs_285.length = 57 := by rw [ecs_285]; exact zl_snoc hcs_280
  have hP : va_P (dC, dI) vwCl ((h0, .inr (15, f_281)) :: zarr qs_284 cs_285) H := by rw [eqs_284, ecs_285, zarr_snoc hqs_279 hcs_280]; exact hP
  have hD : va_D A ((h0, .inr (15, f_281)) :: zarr qs_284 cs_285) := by rw [eqs_284, ecs_285, zarr_snoc hqs_279 hcs_280]; exact hD
  have hK : va_K (dC, dI) vwCl (ztys cs_285) s := by rw [ecs_285, ztys_snoc hcs_280]; exact hK
  refine W.widen (k := 57) (n := 491262) (Nat.le_of_ble_eq_true rfl) (Nat.le_of_ble_eq_true rfl) ?_
  refine va_putF (D := (dC, dI)) (ci := 15) (v := .ref q_282) (ty := .array .int) (C := RX13) (T := TX13) (N := 196) hx hb hts iw_X13_init_X13 tyX13 tyX13_ok nmX13 hown hK hP hD hS 0 rfl rfl 87 (by decide) (hts (.fieldLink RX13 185 "LiquidTongueModel" "putBy" "[I") (by decide +kernel)) (fun _ h9 => h9) rfl hin rfl (by decide +kernel) rfl rfl (zs_lt hlf_281 (by decide)) dX13_init_505 (fun H locs hP hD hS => ?_)
  obtain ⟨f_286, ef_286⟩ : ∃ z : List Value, z = f_281.set 87 (.ref q_282) := ⟨_, rfl⟩
  have hlf_286 : f_286.length = 196 := by rw [ef_286]; exact zs_len hlf_281
  have gf_286 : f_286 = zput (fs.set 69 (.int (-1))) qs_284 := by rw [ef_286, gf_281, eqs_284, zput_snoc hqs_279]; rfl
  have hP : va_P (dC, dI) vwCl ((h0, .inr (15, f_286)) :: zarr qs_284 cs_285) H := by rw [ef_286]; exact hP
  have hD : va_D A ((h0, .inr (15, f_286)) :: zarr qs_284 cs_285) := by rw [ef_286]; exact hD
  refine lv_aload_n hx hb dX13_init_508 rfl (lv_at hl 0 rfl) ?_
  refine lv_sipush (v := 24000) hx hb dX13_init_509 (by decide) ?_
  refine va_newa (atype := .int) (ty := .int) (N' := 24000) (a0 := (24000, .inl (fun _ => 0))) hx hb (hts (.arrayClass .int) (by decide +kernel)) rfl hK hP hD hS hA (fun cA => rfl) (by decide) (by decide) (Nat.le_of_ble_eq_true rfl) (Nat.le_of_ble_eq_true rfl) (Nat.le_of_ble_eq_true rfl) dX13_init_512 (fun q_287 cA_288 H hK hP hD hS => ?_)
  obtain ⟨qs_289, eqs_289⟩ : ∃ z : List Nat, z = qs_284 ++ [q_287] := ⟨_, rfl⟩
  obtain ⟨cs_290, ecs_290⟩ : ∃ z : List ClassId, z = cs_285 ++ [cA_288] := ⟨_, rfl⟩
  have hqs_289 : qs_289.length = 58 := by rw [eqs_289]; exact zl_snoc hqs_284
  have hcs_290 : cs_290.length = 58 := by rw [ecs_290]; exact zl_snoc hcs_285
  have hP : va_P (dC, dI) vwCl ((h0, .inr (15, f_286)) :: zarr qs_289 cs_290) H := by rw [eqs_289, ecs_290, zarr_snoc hqs_284 hcs_285]; exact hP
  have hD : va_D A ((h0, .inr (15, f_286)) :: zarr qs_289 cs_290) := by rw [eqs_289, ecs_290, zarr_snoc hqs_284 hcs_285]; exact hD
  have hK : va_K (dC, dI) vwCl (ztys cs_290) s := by rw [ecs_290, ztys_snoc hcs_285]; exact hK
  refine W.widen (k := 58) (n := 515262) (Nat.le_of_ble_eq_true rfl) (Nat.le_of_ble_eq_true rfl) ?_
  refine va_putF (D := (dC, dI)) (ci := 15) (v := .ref q_287) (ty := .array .int) (C := RX13) (T := TX13) (N := 196) hx hb hts iw_X13_init_X13 tyX13 tyX13_ok nmX13 hown hK hP hD hS 0 rfl rfl 88 (by decide) (hts (.fieldLink RX13 188 "LiquidTongueModel" "putTimes" "[I") (by decide +kernel)) (fun _ h9 => h9) rfl hin rfl (by decide +kernel) rfl rfl (zs_lt hlf_286 (by decide)) dX13_init_514 (fun H locs hP hD hS => ?_)
  obtain ⟨f_291, ef_291⟩ : ∃ z : List Value, z = f_286.set 88 (.ref q_287) := ⟨_, rfl⟩
  have hlf_291 : f_291.length = 196 := by rw [ef_291]; exact zs_len hlf_286
  have gf_291 : f_291 = zput (fs.set 69 (.int (-1))) qs_289 := by rw [ef_291, gf_286, eqs_289, zput_snoc hqs_284]; rfl
  have hP : va_P (dC, dI) vwCl ((h0, .inr (15, f_291)) :: zarr qs_289 cs_290) H := by rw [ef_291]; exact hP
  have hD : va_D A ((h0, .inr (15, f_291)) :: zarr qs_289 cs_290) := by rw [ef_291]; exact hD
  refine lv_aload_n hx hb dX13_init_517 rfl (lv_at hl 0 rfl) ?_
  refine lv_sipush (v := 24000) hx hb dX13_init_518 (by decide) ?_
  refine va_newa (atype := .int) (ty := .int) (N' := 24000) (a0 := (24000, .inl (fun _ => 0))) hx hb (hts (.arrayClass .int) (by decide +kernel)) rfl hK hP hD hS hA (fun cA => rfl) (by decide) (by decide) (Nat.le_of_ble_eq_true rfl) (Nat.le_of_ble_eq_true rfl) (Nat.le_of_ble_eq_true rfl) dX13_init_521 (fun q_292 cA_293 H hK hP hD hS => ?_)
  obtain ⟨qs_294, eqs_294⟩ : ∃ z : List Nat, z = qs_289 ++ [q_292] := ⟨_, rfl⟩
  obtain ⟨cs_295, ecs_295⟩ : ∃ z : List ClassId, z = cs_290 ++ [cA_293] := ⟨_, rfl⟩
  have hqs_294 : qs_294.length = 59 := by rw [eqs_294]; exact zl_snoc hqs_289
  have hcs_295 : cs_295.length = 59 := by rw [ecs_295]; exact zl_snoc hcs_290
  have hP : va_P (dC, dI) vwCl ((h0, .inr (15, f_291)) :: zarr qs_294 cs_295) H := by rw [eqs_294, ecs_295, zarr_snoc hqs_289 hcs_290]; exact hP
  have hD : va_D A ((h0, .inr (15, f_291)) :: zarr qs_294 cs_295) := by rw [eqs_294, ecs_295, zarr_snoc hqs_289 hcs_290]; exact hD
  have hK : va_K (dC, dI) vwCl (ztys cs_295) s := by rw [ecs_295, ztys_snoc hcs_290]; exact hK
  refine W.widen (k := 59) (n := 539262) (Nat.le_of_ble_eq_true rfl) (Nat.le_of_ble_eq_true rfl) ?_
  refine va_putF (D := (dC, dI)) (ci := 15) (v := .ref q_292) (ty := .array .int) (C := RX13) (T := TX13) (N := 196) hx hb hts iw_X13_init_X13 tyX13 tyX13_ok nmX13 hown hK hP hD hS 0 rfl rfl 89 (by decide) (hts (.fieldLink RX13 191 "LiquidTongueModel" "putNext" "[I") (by decide +kernel)) (fun _ h9 => h9) rfl hin rfl (by decide +kernel) rfl rfl (zs_lt hlf_291 (by decide)) dX13_init_523 (fun H locs hP hD hS => ?_)
  obtain ⟨f_296, ef_296⟩ : ∃ z : List Value, z = f_291.set 89 (.ref q_292) := ⟨_, rfl⟩
  have hlf_296 : f_296.length = 196 := by rw [ef_296]; exact zs_len hlf_291
  have gf_296 : f_296 = zput (fs.set 69 (.int (-1))) qs_294 := by rw [ef_296, gf_291, eqs_294, zput_snoc hqs_289]; rfl
  have hP : va_P (dC, dI) vwCl ((h0, .inr (15, f_296)) :: zarr qs_294 cs_295) H := by rw [ef_296]; exact hP
  have hD : va_D A ((h0, .inr (15, f_296)) :: zarr qs_294 cs_295) := by rw [ef_296]; exact hD
  refine lv_aload_n hx hb dX13_init_526 rfl (lv_at hl 0 rfl) ?_
  refine lv_sipush (v := 24000) hx hb dX13_init_527 (by decide) ?_
  refine va_newa (atype := .long) (ty := .long) (N' := 24000) (a0 := (24000, .inr (.inl (fun _ => 0)))) hx hb (hts (.arrayClass .long) (by decide +kernel)) rfl hK hP hD hS hA (fun cA => rfl) (by decide) (by decide) (Nat.le_of_ble_eq_true rfl) (Nat.le_of_ble_eq_true rfl) (Nat.le_of_ble_eq_true rfl) dX13_init_530 (fun q_297 cA_298 H hK hP hD hS => ?_)
  obtain ⟨qs_299, eqs_299⟩ : ∃ z : List Nat, z = qs_294 ++ [q_297] := ⟨_, rfl⟩
  obtain ⟨cs_300, ecs_300⟩ : ∃ z : List ClassId, z = cs_295 ++ [cA_298] := ⟨_, rfl⟩
  have hqs_299 : qs_299.length = 60 := by rw [eqs_299]; exact zl_snoc hqs_294
  have hcs_300 : cs_300.length = 60 := by rw [ecs_300]; exact zl_snoc hcs_295
  have hP : va_P (dC, dI) vwCl ((h0, .inr (15, f_296)) :: zarr qs_299 cs_300) H := by rw [eqs_299, ecs_300, zarr_snoc hqs_294 hcs_295]; exact hP
  have hD : va_D A ((h0, .inr (15, f_296)) :: zarr qs_299 cs_300) := by rw [eqs_299, ecs_300, zarr_snoc hqs_294 hcs_295]; exact hD
  have hK : va_K (dC, dI) vwCl (ztys cs_300) s := by rw [ecs_300, ztys_snoc hcs_295]; exact hK
  refine W.widen (k := 60) (n := 563262) (Nat.le_of_ble_eq_true rfl) (Nat.le_of_ble_eq_true rfl) ?_
  refine va_putF (D := (dC, dI)) (ci := 15) (v := .ref q_297) (ty := .array .long) (C := RX13) (T := TX13) (N := 196) hx hb hts iw_X13_init_X13 tyX13 tyX13_ok nmX13 hown hK hP hD hS 0 rfl rfl 90 (by decide) (hts (.fieldLink RX13 194 "LiquidTongueModel" "putNumber" "[J") (by decide +kernel)) (fun _ h9 => h9) rfl hin rfl (by decide +kernel) rfl rfl (zs_lt hlf_296 (by decide)) dX13_init_532 (fun H locs hP hD hS => ?_)
  obtain ⟨f_301, ef_301⟩ : ∃ z : List Value, z = f_296.set 90 (.ref q_297) := ⟨_, rfl⟩
  have hlf_301 : f_301.length = 196 := by rw [ef_301]; exact zs_len hlf_296
  have gf_301 : f_301 = zput (fs.set 69 (.int (-1))) qs_299 := by rw [ef_301, gf_296, eqs_299, zput_snoc hqs_294]; rfl
  have hP : va_P (dC, dI) vwCl ((h0, .inr (15, f_301)) :: zarr qs_299 cs_300) H := by rw [ef_301]; exact hP
  have hD : va_D A ((h0, .inr (15, f_301)) :: zarr qs_299 cs_300) := by rw [ef_301]; exact hD
  refine lv_aload_n hx hb dX13_init_535 rfl (lv_at hl 0 rfl) ?_
  refine lv_bipush (v := 64) hx hb dX13_init_536 (by decide) ?_
  refine va_newa (atype := .int) (ty := .int) (N' := 64) (a0 := (64, .inl (fun _ => 0))) hx hb (hts (.arrayClass .int) (by decide +kernel)) rfl hK hP hD hS hA (fun cA => rfl) (by decide) (by decide) (Nat.le_of_ble_eq_true rfl) (Nat.le_of_ble_eq_true rfl) (Nat.le_of_ble_eq_true rfl) dX13_init_538 (fun q_302 cA_303 H hK hP hD hS => ?_)
  obtain ⟨qs_304, eqs_304⟩ : ∃ z : List Nat, z = qs_299 ++ [q_302] := ⟨_, rfl⟩
  obtain ⟨cs_305, ecs_305⟩ : ∃ z : List ClassId, z = cs_300 ++ [cA_303] := ⟨_, rfl⟩
  have hqs_304 : qs_304.length = 61 := by rw [eqs_304]; exact zl_snoc hqs_299
  have hcs_305 : cs_305.length = 61 := by rw [ecs_305]; exact zl_snoc hcs_300
  have hP : va_P (dC, dI) vwCl ((h0, .inr (15, f_301)) :: zarr qs_304 cs_305) H := by rw [eqs_304, ecs_305, zarr_snoc hqs_299 hcs_300]; exact hP
  have hD : va_D A ((h0, .inr (15, f_301)) :: zarr qs_304 cs_305) := by rw [eqs_304, ecs_305, zarr_snoc hqs_299 hcs_300]; exact hD
  have hK : va_K (dC, dI) vwCl (ztys cs_305) s := by rw [ecs_305, ztys_snoc hcs_300]; exact hK
  refine W.widen (k := 61) (n := 563326) (Nat.le_of_ble_eq_true rfl) (Nat.le_of_ble_eq_true rfl) ?_
  refine va_putF (D := (dC, dI)) (ci := 15) (v := .ref q_302) (ty := .array .int) (C := RX13) (T := TX13) (N := 196) hx hb hts iw_X13_init_X13 tyX13 tyX13_ok nmX13 hown hK hP hD hS 0 rfl rfl 92 (by decide) (hts (.fieldLink RX13 197 "LiquidTongueModel" "caseArray" "[I") (by decide +kernel)) (fun _ h9 => h9) rfl hin rfl (by decide +kernel) rfl rfl (zs_lt hlf_301 (by decide)) dX13_init_540 (fun H locs hP hD hS => ?_)
  obtain ⟨f_306, ef_306⟩ : ∃ z : List Value, z = f_301.set 92 (.ref q_302) := ⟨_, rfl⟩
  have hlf_306 : f_306.length = 196 := by rw [ef_306]; exact zs_len hlf_301
  have gf_306 : f_306 = zput (fs.set 69 (.int (-1))) qs_304 := by rw [ef_306, gf_301, eqs_304, zput_snoc hqs_299]; rfl
  have hP : va_P (dC, dI) vwCl ((h0, .inr (15, f_306)) :: zarr qs_304 cs_305) H := by rw [ef_306]; exact hP
  have hD : va_D A ((h0, .inr (15, f_306)) :: zarr qs_304 cs_305) := by rw [ef_306]; exact hD
  refine lv_aload_n hx hb dX13_init_543 rfl (lv_at hl 0 rfl) ?_
  refine lv_bipush (v := 64) hx hb dX13_init_544 (by decide) ?_
  refine va_newa (atype := .int) (ty := .int) (N' := 64) (a0 := (64, .inl (fun _ => 0))) hx hb (hts (.arrayClass .int) (by decide +kernel)) rfl hK hP hD hS hA (fun cA => rfl) (by decide) (by decide) (Nat.le_of_ble_eq_true rfl) (Nat.le_of_ble_eq_true rfl) (Nat.le_of_ble_eq_true rfl) dX13_init_546 (fun q_307 cA_308 H hK hP hD hS => ?_)
  obtain ⟨qs_309, eqs_309⟩ : ∃ z : List Nat, z = qs_304 ++ [q_307] := ⟨_, rfl⟩
  obtain ⟨cs_310, ecs_310⟩ : ∃ z : List ClassId, z = cs_305 ++ [cA_308] := ⟨_, rfl⟩
  have hqs_309 : qs_309.length = 62 := by rw [eqs_309]; exact zl_snoc hqs_304
  have hcs_310 : cs_310.length = 62 := by rw [ecs_310]; exact zl_snoc hcs_305
  have hP : va_P (dC, dI) vwCl ((h0, .inr (15, f_306)) :: zarr qs_309 cs_310) H := by rw [eqs_309, ecs_310, zarr_snoc hqs_304 hcs_305]; exact hP
  have hD : va_D A ((h0, .inr (15, f_306)) :: zarr qs_309 cs_310) := by rw [eqs_309, ecs_310, zarr_snoc hqs_304 hcs_305]; exact hD
  have hK : va_K (dC, dI) vwCl (ztys cs_310) s := by rw [ecs_310, ztys_snoc hcs_305]; exact hK
  refine W.widen (k := 62) (n := 563390) (Nat.le_of_ble_eq_true rfl) (Nat.le_of_ble_eq_true rfl) ?_
  refine va_putF (D := (dC, dI)) (ci := 15) (v := .ref q_307) (ty := .array .int) (C := RX13) (T := TX13) (N := 196) hx hb hts iw_X13_init_X13 tyX13 tyX13_ok nmX13 hown hK hP hD hS 0 rfl rfl 93 (by decide) (hts (.fieldLink RX13 200 "LiquidTongueModel" "caseFrom" "[I") (by decide +kernel)) (fun _ h9 => h9) rfl hin rfl (by decide +kernel) rfl rfl (zs_lt hlf_306 (by decide)) dX13_init_548 (fun H locs hP hD hS => ?_)
  obtain ⟨f_311, ef_311⟩ : ∃ z : List Value, z = f_306.set 93 (.ref q_307) := ⟨_, rfl⟩
  have hlf_311 : f_311.length = 196 := by rw [ef_311]; exact zs_len hlf_306
  have gf_311 : f_311 = zput (fs.set 69 (.int (-1))) qs_309 := by rw [ef_311, gf_306, eqs_309, zput_snoc hqs_304]; rfl
  have hP : va_P (dC, dI) vwCl ((h0, .inr (15, f_311)) :: zarr qs_309 cs_310) H := by rw [ef_311]; exact hP
  have hD : va_D A ((h0, .inr (15, f_311)) :: zarr qs_309 cs_310) := by rw [ef_311]; exact hD
  refine lv_aload_n hx hb dX13_init_551 rfl (lv_at hl 0 rfl) ?_
  refine lv_bipush (v := 64) hx hb dX13_init_552 (by decide) ?_
  refine va_newa (atype := .int) (ty := .int) (N' := 64) (a0 := (64, .inl (fun _ => 0))) hx hb (hts (.arrayClass .int) (by decide +kernel)) rfl hK hP hD hS hA (fun cA => rfl) (by decide) (by decide) (Nat.le_of_ble_eq_true rfl) (Nat.le_of_ble_eq_true rfl) (Nat.le_of_ble_eq_true rfl) dX13_init_554 (fun q_312 cA_313 H hK hP hD hS => ?_)
  obtain ⟨qs_314, eqs_314⟩ : ∃ z : List Nat, z = qs_309 ++ [q_312] := ⟨_, rfl⟩
  obtain ⟨cs_315, ecs_315⟩ : ∃ z : List ClassId, z = cs_310 ++ [cA_313] := ⟨_, rfl⟩
  have hqs_314 : qs_314.length = 63 := by rw [eqs_314]; exact zl_snoc hqs_309
  have hcs_315 : cs_315.length = 63 := by rw [ecs_315]; exact zl_snoc hcs_310
  have hP : va_P (dC, dI) vwCl ((h0, .inr (15, f_311)) :: zarr qs_314 cs_315) H := by rw [eqs_314, ecs_315, zarr_snoc hqs_309 hcs_310]; exact hP
  have hD : va_D A ((h0, .inr (15, f_311)) :: zarr qs_314 cs_315) := by rw [eqs_314, ecs_315, zarr_snoc hqs_309 hcs_310]; exact hD
  have hK : va_K (dC, dI) vwCl (ztys cs_315) s := by rw [ecs_315, ztys_snoc hcs_310]; exact hK
  refine W.widen (k := 63) (n := 563454) (Nat.le_of_ble_eq_true rfl) (Nat.le_of_ble_eq_true rfl) ?_
  refine va_putF (D := (dC, dI)) (ci := 15) (v := .ref q_312) (ty := .array .int) (C := RX13) (T := TX13) (N := 196) hx hb hts iw_X13_init_X13 tyX13 tyX13_ok nmX13 hown hK hP hD hS 0 rfl rfl 94 (by decide) (hts (.fieldLink RX13 203 "LiquidTongueModel" "caseTo" "[I") (by decide +kernel)) (fun _ h9 => h9) rfl hin rfl (by decide +kernel) rfl rfl (zs_lt hlf_311 (by decide)) dX13_init_556 (fun H locs hP hD hS => ?_)
  obtain ⟨f_316, ef_316⟩ : ∃ z : List Value, z = f_311.set 94 (.ref q_312) := ⟨_, rfl⟩
  have hlf_316 : f_316.length = 196 := by rw [ef_316]; exact zs_len hlf_311
  have gf_316 : f_316 = zput (fs.set 69 (.int (-1))) qs_314 := by rw [ef_316, gf_311, eqs_314, zput_snoc hqs_309]; rfl
  have hP : va_P (dC, dI) vwCl ((h0, .inr (15, f_316)) :: zarr qs_314 cs_315) H := by rw [ef_316]; exact hP
  have hD : va_D A ((h0, .inr (15, f_316)) :: zarr qs_314 cs_315) := by rw [ef_316]; exact hD
  refine lv_aload_n hx hb dX13_init_559 rfl (lv_at hl 0 rfl) ?_
  refine lv_sipush (v := 8000) hx hb dX13_init_560 (by decide) ?_
  refine va_newa (atype := .int) (ty := .int) (N' := 8000) (a0 := (8000, .inl (fun _ => 0))) hx hb (hts (.arrayClass .int) (by decide +kernel)) rfl hK hP hD hS hA (fun cA => rfl) (by decide) (by decide) (Nat.le_of_ble_eq_true rfl) (Nat.le_of_ble_eq_true rfl) (Nat.le_of_ble_eq_true rfl) dX13_init_563 (fun q_317 cA_318 H hK hP hD hS => ?_)
  obtain ⟨qs_319, eqs_319⟩ : ∃ z : List Nat, z = qs_314 ++ [q_317] := ⟨_, rfl⟩
  obtain ⟨cs_320, ecs_320⟩ : ∃ z : List ClassId, z = cs_315 ++ [cA_318] := ⟨_, rfl⟩
  have hqs_319 : qs_319.length = 64 := by rw [eqs_319]; exact zl_snoc hqs_314
  have hcs_320 : cs_320.length = 64 := by rw [ecs_320]; exact zl_snoc hcs_315
  have hP : va_P (dC, dI) vwCl ((h0, .inr (15, f_316)) :: zarr qs_319 cs_320) H := by rw [eqs_319, ecs_320, zarr_snoc hqs_314 hcs_315]; exact hP
  have hD : va_D A ((h0, .inr (15, f_316)) :: zarr qs_319 cs_320) := by rw [eqs_319, ecs_320, zarr_snoc hqs_314 hcs_315]; exact hD
  have hK : va_K (dC, dI) vwCl (ztys cs_320) s := by rw [ecs_320, ztys_snoc hcs_315]; exact hK
  refine W.widen (k := 64) (n := 571454) (Nat.le_of_ble_eq_true rfl) (Nat.le_of_ble_eq_true rfl) ?_
  refine va_putF (D := (dC, dI)) (ci := 15) (v := .ref q_317) (ty := .array .int) (C := RX13) (T := TX13) (N := 196) hx hb hts iw_X13_init_X13 tyX13 tyX13_ok nmX13 hown hK hP hD hS 0 rfl rfl 95 (by decide) (hts (.fieldLink RX13 206 "LiquidTongueModel" "byQual" "[I") (by decide +kernel)) (fun _ h9 => h9) rfl hin rfl (by decide +kernel) rfl rfl (zs_lt hlf_316 (by decide)) dX13_init_565 (fun H locs hP hD hS => ?_)
  obtain ⟨f_321, ef_321⟩ : ∃ z : List Value, z = f_316.set 95 (.ref q_317) := ⟨_, rfl⟩
  have hlf_321 : f_321.length = 196 := by rw [ef_321]; exact zs_len hlf_316
  have gf_321 : f_321 = zput (fs.set 69 (.int (-1))) qs_319 := by rw [ef_321, gf_316, eqs_319, zput_snoc hqs_314]; rfl
  have hP : va_P (dC, dI) vwCl ((h0, .inr (15, f_321)) :: zarr qs_319 cs_320) H := by rw [ef_321]; exact hP
  have hD : va_D A ((h0, .inr (15, f_321)) :: zarr qs_319 cs_320) := by rw [ef_321]; exact hD
  refine lv_aload_n hx hb dX13_init_568 rfl (lv_at hl 0 rfl) ?_
  refine lv_sipush (v := 8000) hx hb dX13_init_569 (by decide) ?_
  refine va_newa (atype := .int) (ty := .int) (N' := 8000) (a0 := (8000, .inl (fun _ => 0))) hx hb (hts (.arrayClass .int) (by decide +kernel)) rfl hK hP hD hS hA (fun cA => rfl) (by decide) (by decide) (Nat.le_of_ble_eq_true rfl) (Nat.le_of_ble_eq_true rfl) (Nat.le_of_ble_eq_true rfl) dX13_init_572 (fun q_322 cA_323 H hK hP hD hS => ?_)
  obtain ⟨qs_324, eqs_324⟩ : ∃ z : List Nat, z = qs_319 ++ [q_322] := ⟨_, rfl⟩
  obtain ⟨cs_325, ecs_325⟩ : ∃ z : List ClassId, z = cs_320 ++ [cA_323] := ⟨_, rfl⟩
  have hqs_324 : qs_324.length = 65 := by rw [eqs_324]; exact zl_snoc hqs_319
  have hcs_325 : cs_325.length = 65 := by rw [ecs_325]; exact zl_snoc hcs_320
  have hP : va_P (dC, dI) vwCl ((h0, .inr (15, f_321)) :: zarr qs_324 cs_325) H := by rw [eqs_324, ecs_325, zarr_snoc hqs_319 hcs_320]; exact hP
  have hD : va_D A ((h0, .inr (15, f_321)) :: zarr qs_324 cs_325) := by rw [eqs_324, ecs_325, zarr_snoc hqs_319 hcs_320]; exact hD
  have hK : va_K (dC, dI) vwCl (ztys cs_325) s := by rw [ecs_325, ztys_snoc hcs_320]; exact hK
  refine W.widen (k := 65) (n := 579454) (Nat.le_of_ble_eq_true rfl) (Nat.le_of_ble_eq_true rfl) ?_
  refine va_putF (D := (dC, dI)) (ci := 15) (v := .ref q_322) (ty := .array .int) (C := RX13) (T := TX13) (N := 196) hx hb hts iw_X13_init_X13 tyX13 tyX13_ok nmX13 hown hK hP hD hS 0 rfl rfl 96 (by decide) (hts (.fieldLink RX13 209 "LiquidTongueModel" "byName" "[I") (by decide +kernel)) (fun _ h9 => h9) rfl hin rfl (by decide +kernel) rfl rfl (zs_lt hlf_321 (by decide)) dX13_init_574 (fun H locs hP hD hS => ?_)
  obtain ⟨f_326, ef_326⟩ : ∃ z : List Value, z = f_321.set 96 (.ref q_322) := ⟨_, rfl⟩
  have hlf_326 : f_326.length = 196 := by rw [ef_326]; exact zs_len hlf_321
  have gf_326 : f_326 = zput (fs.set 69 (.int (-1))) qs_324 := by rw [ef_326, gf_321, eqs_324, zput_snoc hqs_319]; rfl
  have hP : va_P (dC, dI) vwCl ((h0, .inr (15, f_326)) :: zarr qs_324 cs_325) H := by rw [ef_326]; exact hP
  have hD : va_D A ((h0, .inr (15, f_326)) :: zarr qs_324 cs_325) := by rw [ef_326]; exact hD
  refine lv_aload_n hx hb dX13_init_577 rfl (lv_at hl 0 rfl) ?_
  refine lv_sipush (v := 8000) hx hb dX13_init_578 (by decide) ?_
  refine va_newa (atype := .boolean) (ty := .boolean) (N' := 8000) (a0 := (8000, .inl (fun _ => 0))) hx hb (hts (.arrayClass .boolean) (by decide +kernel)) rfl hK hP hD hS hA (fun cA => rfl) (by decide) (by decide) (Nat.le_of_ble_eq_true rfl) (Nat.le_of_ble_eq_true rfl) (Nat.le_of_ble_eq_true rfl) dX13_init_581 (fun q_327 cA_328 H hK hP hD hS => ?_)
  obtain ⟨qs_329, eqs_329⟩ : ∃ z : List Nat, z = qs_324 ++ [q_327] := ⟨_, rfl⟩
  obtain ⟨cs_330, ecs_330⟩ : ∃ z : List ClassId, z = cs_325 ++ [cA_328] := ⟨_, rfl⟩
  have hqs_329 : qs_329.length = 66 := by rw [eqs_329]; exact zl_snoc hqs_324
  have hcs_330 : cs_330.length = 66 := by rw [ecs_330]; exact zl_snoc hcs_325
  have hP : va_P (dC, dI) vwCl ((h0, .inr (15, f_326)) :: zarr qs_329 cs_330) H := by rw [eqs_329, ecs_330, zarr_snoc hqs_324 hcs_325]; exact hP
  have hD : va_D A ((h0, .inr (15, f_326)) :: zarr qs_329 cs_330) := by rw [eqs_329, ecs_330, zarr_snoc hqs_324 hcs_325]; exact hD
  have hK : va_K (dC, dI) vwCl (ztys cs_330) s := by rw [ecs_330, ztys_snoc hcs_325]; exact hK
  refine W.widen (k := 66) (n := 587454) (Nat.le_of_ble_eq_true rfl) (Nat.le_of_ble_eq_true rfl) ?_
  refine va_putF (D := (dC, dI)) (ci := 15) (v := .ref q_327) (ty := .array .boolean) (C := RX13) (T := TX13) (N := 196) hx hb hts iw_X13_init_X13 tyX13 tyX13_ok nmX13 hown hK hP hD hS 0 rfl rfl 97 (by decide) (hts (.fieldLink RX13 212 "LiquidTongueModel" "alive" "[Z") (by decide +kernel)) (fun _ h9 => h9) rfl hin rfl (by decide +kernel) rfl rfl (zs_lt hlf_326 (by decide)) dX13_init_583 (fun H locs hP hD hS => ?_)
  obtain ⟨f_331, ef_331⟩ : ∃ z : List Value, z = f_326.set 97 (.ref q_327) := ⟨_, rfl⟩
  have hlf_331 : f_331.length = 196 := by rw [ef_331]; exact zs_len hlf_326
  have gf_331 : f_331 = zput (fs.set 69 (.int (-1))) qs_329 := by rw [ef_331, gf_326, eqs_329, zput_snoc hqs_324]; rfl
  have hP : va_P (dC, dI) vwCl ((h0, .inr (15, f_331)) :: zarr qs_329 cs_330) H := by rw [ef_331]; exact hP
  have hD : va_D A ((h0, .inr (15, f_331)) :: zarr qs_329 cs_330) := by rw [ef_331]; exact hD
  refine lv_aload_n hx hb dX13_init_586 rfl (lv_at hl 0 rfl) ?_
  refine lv_sipush (v := 1501) hx hb dX13_init_587 (by decide) ?_
  refine va_newa (atype := .boolean) (ty := .boolean) (N' := 1501) (a0 := (1501, .inl (fun _ => 0))) hx hb (hts (.arrayClass .boolean) (by decide +kernel)) rfl hK hP hD hS hA (fun cA => rfl) (by decide) (by decide) (Nat.le_of_ble_eq_true rfl) (Nat.le_of_ble_eq_true rfl) (Nat.le_of_ble_eq_true rfl) dX13_init_590 (fun q_332 cA_333 H hK hP hD hS => ?_)
  obtain ⟨qs_334, eqs_334⟩ : ∃ z : List Nat, z = qs_329 ++ [q_332] := ⟨_, rfl⟩
  obtain ⟨cs_335, ecs_335⟩ : ∃ z : List ClassId, z = cs_330 ++ [cA_333] := ⟨_, rfl⟩
  have hqs_334 : qs_334.length = 67 := by rw [eqs_334]; exact zl_snoc hqs_329
  have hcs_335 : cs_335.length = 67 := by rw [ecs_335]; exact zl_snoc hcs_330
  have hP : va_P (dC, dI) vwCl ((h0, .inr (15, f_331)) :: zarr qs_334 cs_335) H := by rw [eqs_334, ecs_335, zarr_snoc hqs_329 hcs_330]; exact hP
  have hD : va_D A ((h0, .inr (15, f_331)) :: zarr qs_334 cs_335) := by rw [eqs_334, ecs_335, zarr_snoc hqs_329 hcs_330]; exact hD
  have hK : va_K (dC, dI) vwCl (ztys cs_335) s := by rw [ecs_335, ztys_snoc hcs_330]; exact hK
  refine W.widen (k := 67) (n := 588955) (Nat.le_of_ble_eq_true rfl) (Nat.le_of_ble_eq_true rfl) ?_
  refine va_putF (D := (dC, dI)) (ci := 15) (v := .ref q_332) (ty := .array .boolean) (C := RX13) (T := TX13) (N := 196) hx hb hts iw_X13_init_X13 tyX13 tyX13_ok nmX13 hown hK hP hD hS 0 rfl rfl 101 (by decide) (hts (.fieldLink RX13 216 "LiquidTongueModel" "isLength" "[Z") (by decide +kernel)) (fun _ h9 => h9) rfl hin rfl (by decide +kernel) rfl rfl (zs_lt hlf_331 (by decide)) dX13_init_592 (fun H locs hP hD hS => ?_)
  obtain ⟨f_336, ef_336⟩ : ∃ z : List Value, z = f_331.set 101 (.ref q_332) := ⟨_, rfl⟩
  have hlf_336 : f_336.length = 196 := by rw [ef_336]; exact zs_len hlf_331
  have gf_336 : f_336 = zput (fs.set 69 (.int (-1))) qs_334 := by rw [ef_336, gf_331, eqs_334, zput_snoc hqs_329]; rfl
  have hP : va_P (dC, dI) vwCl ((h0, .inr (15, f_336)) :: zarr qs_334 cs_335) H := by rw [ef_336]; exact hP
  have hD : va_D A ((h0, .inr (15, f_336)) :: zarr qs_334 cs_335) := by rw [ef_336]; exact hD
  refine lv_aload_n hx hb dX13_init_595 rfl (lv_at hl 0 rfl) ?_
  refine lv_sipush (v := 1501) hx hb dX13_init_596 (by decide) ?_
  refine va_newa (atype := .boolean) (ty := .boolean) (N' := 1501) (a0 := (1501, .inl (fun _ => 0))) hx hb (hts (.arrayClass .boolean) (by decide +kernel)) rfl hK hP hD hS hA (fun cA => rfl) (by decide) (by decide) (Nat.le_of_ble_eq_true rfl) (Nat.le_of_ble_eq_true rfl) (Nat.le_of_ble_eq_true rfl) dX13_init_599 (fun q_337 cA_338 H hK hP hD hS => ?_)
  obtain ⟨qs_339, eqs_339⟩ : ∃ z : List Nat, z = qs_334 ++ [q_337] := ⟨_, rfl⟩
  obtain ⟨cs_340, ecs_340⟩ : ∃ z : List ClassId, z = cs_335 ++ [cA_338] := ⟨_, rfl⟩
  have hqs_339 : qs_339.length = 68 := by rw [eqs_339]; exact zl_snoc hqs_334
  have hcs_340 : cs_340.length = 68 := by rw [ecs_340]; exact zl_snoc hcs_335
  have hP : va_P (dC, dI) vwCl ((h0, .inr (15, f_336)) :: zarr qs_339 cs_340) H := by rw [eqs_339, ecs_340, zarr_snoc hqs_334 hcs_335]; exact hP
  have hD : va_D A ((h0, .inr (15, f_336)) :: zarr qs_339 cs_340) := by rw [eqs_339, ecs_340, zarr_snoc hqs_334 hcs_335]; exact hD
  have hK : va_K (dC, dI) vwCl (ztys cs_340) s := by rw [ecs_340, ztys_snoc hcs_335]; exact hK
  refine W.widen (k := 68) (n := 590456) (Nat.le_of_ble_eq_true rfl) (Nat.le_of_ble_eq_true rfl) ?_
  refine va_putF (D := (dC, dI)) (ci := 15) (v := .ref q_337) (ty := .array .boolean) (C := RX13) (T := TX13) (N := 196) hx hb hts iw_X13_init_X13 tyX13 tyX13_ok nmX13 hown hK hP hD hS 0 rfl rfl 102 (by decide) (hts (.fieldLink RX13 219 "LiquidTongueModel" "isSize" "[Z") (by decide +kernel)) (fun _ h9 => h9) rfl hin rfl (by decide +kernel) rfl rfl (zs_lt hlf_336 (by decide)) dX13_init_601 (fun H locs hP hD hS => ?_)
  obtain ⟨f_341, ef_341⟩ : ∃ z : List Value, z = f_336.set 102 (.ref q_337) := ⟨_, rfl⟩
  have hlf_341 : f_341.length = 196 := by rw [ef_341]; exact zs_len hlf_336
  have gf_341 : f_341 = zput (fs.set 69 (.int (-1))) qs_339 := by rw [ef_341, gf_336, eqs_339, zput_snoc hqs_334]; rfl
  have hP : va_P (dC, dI) vwCl ((h0, .inr (15, f_341)) :: zarr qs_339 cs_340) H := by rw [ef_341]; exact hP
  have hD : va_D A ((h0, .inr (15, f_341)) :: zarr qs_339 cs_340) := by rw [ef_341]; exact hD
  refine lv_aload_n hx hb dX13_init_604 rfl (lv_at hl 0 rfl) ?_
  refine lv_sipush (v := 12000) hx hb dX13_init_605 (by decide) ?_
  refine va_newa (atype := .int) (ty := .int) (N' := 12000) (a0 := (12000, .inl (fun _ => 0))) hx hb (hts (.arrayClass .int) (by decide +kernel)) rfl hK hP hD hS hA (fun cA => rfl) (by decide) (by decide) (Nat.le_of_ble_eq_true rfl) (Nat.le_of_ble_eq_true rfl) (Nat.le_of_ble_eq_true rfl) dX13_init_608 (fun q_342 cA_343 H hK hP hD hS => ?_)
  obtain ⟨qs_344, eqs_344⟩ : ∃ z : List Nat, z = qs_339 ++ [q_342] := ⟨_, rfl⟩
  obtain ⟨cs_345, ecs_345⟩ : ∃ z : List ClassId, z = cs_340 ++ [cA_343] := ⟨_, rfl⟩
  have hqs_344 : qs_344.length = 69 := by rw [eqs_344]; exact zl_snoc hqs_339
  have hcs_345 : cs_345.length = 69 := by rw [ecs_345]; exact zl_snoc hcs_340
  have hP : va_P (dC, dI) vwCl ((h0, .inr (15, f_341)) :: zarr qs_344 cs_345) H := by rw [eqs_344, ecs_345, zarr_snoc hqs_339 hcs_340]; exact hP
  have hD : va_D A ((h0, .inr (15, f_341)) :: zarr qs_344 cs_345) := by rw [eqs_344, ecs_345, zarr_snoc hqs_339 hcs_340]; exact hD
  have hK : va_K (dC, dI) vwCl (ztys cs_345) s := by rw [ecs_345, ztys_snoc hcs_340]; exact hK
  refine W.widen (k := 69) (n := 602456) (Nat.le_of_ble_eq_true rfl) (Nat.le_of_ble_eq_true rfl) ?_
  refine va_putF (D := (dC, dI)) (ci := 15) (v := .ref q_342) (ty := .array .int) (C := RX13) (T := TX13) (N := 196) hx hb hts iw_X13_init_X13 tyX13 tyX13_ok nmX13 hown hK hP hD hS 0 rfl rfl 103 (by decide) (hts (.fieldLink RX13 222 "LiquidTongueModel" "envName" "[I") (by decide +kernel)) (fun _ h9 => h9) rfl hin rfl (by decide +kernel) rfl rfl (zs_lt hlf_341 (by decide)) dX13_init_610 (fun H locs hP hD hS => ?_)
  obtain ⟨f_346, ef_346⟩ : ∃ z : List Value, z = f_341.set 103 (.ref q_342) := ⟨_, rfl⟩
  have hlf_346 : f_346.length = 196 := by rw [ef_346]; exact zs_len hlf_341
  have gf_346 : f_346 = zput (fs.set 69 (.int (-1))) qs_344 := by rw [ef_346, gf_341, eqs_344, zput_snoc hqs_339]; rfl
  have hP : va_P (dC, dI) vwCl ((h0, .inr (15, f_346)) :: zarr qs_344 cs_345) H := by rw [ef_346]; exact hP
  have hD : va_D A ((h0, .inr (15, f_346)) :: zarr qs_344 cs_345) := by rw [ef_346]; exact hD
  refine lv_aload_n hx hb dX13_init_613 rfl (lv_at hl 0 rfl) ?_
  refine lv_sipush (v := 12000) hx hb dX13_init_614 (by decide) ?_
  refine va_newa (atype := .int) (ty := .int) (N' := 12000) (a0 := (12000, .inl (fun _ => 0))) hx hb (hts (.arrayClass .int) (by decide +kernel)) rfl hK hP hD hS hA (fun cA => rfl) (by decide) (by decide) (Nat.le_of_ble_eq_true rfl) (Nat.le_of_ble_eq_true rfl) (Nat.le_of_ble_eq_true rfl) dX13_init_617 (fun q_347 cA_348 H hK hP hD hS => ?_)
  obtain ⟨qs_349, eqs_349⟩ : ∃ z : List Nat, z = qs_344 ++ [q_347] := ⟨_, rfl⟩
  obtain ⟨cs_350, ecs_350⟩ : ∃ z : List ClassId, z = cs_345 ++ [cA_348] := ⟨_, rfl⟩
  have hqs_349 : qs_349.length = 70 := by rw [eqs_349]; exact zl_snoc hqs_344
  have hcs_350 : cs_350.length = 70 := by rw [ecs_350]; exact zl_snoc hcs_345
  have hP : va_P (dC, dI) vwCl ((h0, .inr (15, f_346)) :: zarr qs_349 cs_350) H := by rw [eqs_349, ecs_350, zarr_snoc hqs_344 hcs_345]; exact hP
  have hD : va_D A ((h0, .inr (15, f_346)) :: zarr qs_349 cs_350) := by rw [eqs_349, ecs_350, zarr_snoc hqs_344 hcs_345]; exact hD
  have hK : va_K (dC, dI) vwCl (ztys cs_350) s := by rw [ecs_350, ztys_snoc hcs_345]; exact hK
  refine W.widen (k := 70) (n := 614456) (Nat.le_of_ble_eq_true rfl) (Nat.le_of_ble_eq_true rfl) ?_
  refine va_putF (D := (dC, dI)) (ci := 15) (v := .ref q_347) (ty := .array .int) (C := RX13) (T := TX13) (N := 196) hx hb hts iw_X13_init_X13 tyX13 tyX13_ok nmX13 hown hK hP hD hS 0 rfl rfl 104 (by decide) (hts (.fieldLink RX13 225 "LiquidTongueModel" "envType" "[I") (by decide +kernel)) (fun _ h9 => h9) rfl hin rfl (by decide +kernel) rfl rfl (zs_lt hlf_346 (by decide)) dX13_init_619 (fun H locs hP hD hS => ?_)
  obtain ⟨f_351, ef_351⟩ : ∃ z : List Value, z = f_346.set 104 (.ref q_347) := ⟨_, rfl⟩
  have hlf_351 : f_351.length = 196 := by rw [ef_351]; exact zs_len hlf_346
  have gf_351 : f_351 = zput (fs.set 69 (.int (-1))) qs_349 := by rw [ef_351, gf_346, eqs_349, zput_snoc hqs_344]; rfl
  have hP : va_P (dC, dI) vwCl ((h0, .inr (15, f_351)) :: zarr qs_349 cs_350) H := by rw [ef_351]; exact hP
  have hD : va_D A ((h0, .inr (15, f_351)) :: zarr qs_349 cs_350) := by rw [ef_351]; exact hD
  refine lv_aload_n hx hb dX13_init_622 rfl (lv_at hl 0 rfl) ?_
  refine lv_sipush (v := 12000) hx hb dX13_init_623 (by decide) ?_
  refine va_newa (atype := .int) (ty := .int) (N' := 12000) (a0 := (12000, .inl (fun _ => 0))) hx hb (hts (.arrayClass .int) (by decide +kernel)) rfl hK hP hD hS hA (fun cA => rfl) (by decide) (by decide) (Nat.le_of_ble_eq_true rfl) (Nat.le_of_ble_eq_true rfl) (Nat.le_of_ble_eq_true rfl) dX13_init_626 (fun q_352 cA_353 H hK hP hD hS => ?_)
  obtain ⟨qs_354, eqs_354⟩ : ∃ z : List Nat, z = qs_349 ++ [q_352] := ⟨_, rfl⟩
  obtain ⟨cs_355, ecs_355⟩ : ∃ z : List ClassId, z = cs_350 ++ [cA_353] := ⟨_, rfl⟩
  have hqs_354 : qs_354.length = 71 := by rw [eqs_354]; exact zl_snoc hqs_349
  have hcs_355 : cs_355.length = 71 := by rw [ecs_355]; exact zl_snoc hcs_350
  have hP : va_P (dC, dI) vwCl ((h0, .inr (15, f_351)) :: zarr qs_354 cs_355) H := by rw [eqs_354, ecs_355, zarr_snoc hqs_349 hcs_350]; exact hP
  have hD : va_D A ((h0, .inr (15, f_351)) :: zarr qs_354 cs_355) := by rw [eqs_354, ecs_355, zarr_snoc hqs_349 hcs_350]; exact hD
  have hK : va_K (dC, dI) vwCl (ztys cs_355) s := by rw [ecs_355, ztys_snoc hcs_350]; exact hK
  refine W.widen (k := 71) (n := 626456) (Nat.le_of_ble_eq_true rfl) (Nat.le_of_ble_eq_true rfl) ?_
  refine va_putF (D := (dC, dI)) (ci := 15) (v := .ref q_352) (ty := .array .int) (C := RX13) (T := TX13) (N := 196) hx hb hts iw_X13_init_X13 tyX13 tyX13_ok nmX13 hown hK hP hD hS 0 rfl rfl 105 (by decide) (hts (.fieldLink RX13 228 "LiquidTongueModel" "envBefore" "[I") (by decide +kernel)) (fun _ h9 => h9) rfl hin rfl (by decide +kernel) rfl rfl (zs_lt hlf_351 (by decide)) dX13_init_628 (fun H locs hP hD hS => ?_)
  obtain ⟨f_356, ef_356⟩ : ∃ z : List Value, z = f_351.set 105 (.ref q_352) := ⟨_, rfl⟩
  have hlf_356 : f_356.length = 196 := by rw [ef_356]; exact zs_len hlf_351
  have gf_356 : f_356 = zput (fs.set 69 (.int (-1))) qs_354 := by rw [ef_356, gf_351, eqs_354, zput_snoc hqs_349]; rfl
  have hP : va_P (dC, dI) vwCl ((h0, .inr (15, f_356)) :: zarr qs_354 cs_355) H := by rw [ef_356]; exact hP
  have hD : va_D A ((h0, .inr (15, f_356)) :: zarr qs_354 cs_355) := by rw [ef_356]; exact hD
  refine lv_aload_n hx hb dX13_init_631 rfl (lv_at hl 0 rfl) ?_
  refine lv_sipush (v := 12000) hx hb dX13_init_632 (by decide) ?_
  refine va_newa (atype := .int) (ty := .int) (N' := 12000) (a0 := (12000, .inl (fun _ => 0))) hx hb (hts (.arrayClass .int) (by decide +kernel)) rfl hK hP hD hS hA (fun cA => rfl) (by decide) (by decide) (Nat.le_of_ble_eq_true rfl) (Nat.le_of_ble_eq_true rfl) (Nat.le_of_ble_eq_true rfl) dX13_init_635 (fun q_357 cA_358 H hK hP hD hS => ?_)
  obtain ⟨qs_359, eqs_359⟩ : ∃ z : List Nat, z = qs_354 ++ [q_357] := ⟨_, rfl⟩
  obtain ⟨cs_360, ecs_360⟩ : ∃ z : List ClassId, z = cs_355 ++ [cA_358] := ⟨_, rfl⟩
  have hqs_359 : qs_359.length = 72 := by rw [eqs_359]; exact zl_snoc hqs_354
  have hcs_360 : cs_360.length = 72 := by rw [ecs_360]; exact zl_snoc hcs_355
  have hP : va_P (dC, dI) vwCl ((h0, .inr (15, f_356)) :: zarr qs_359 cs_360) H := by rw [eqs_359, ecs_360, zarr_snoc hqs_354 hcs_355]; exact hP
  have hD : va_D A ((h0, .inr (15, f_356)) :: zarr qs_359 cs_360) := by rw [eqs_359, ecs_360, zarr_snoc hqs_354 hcs_355]; exact hD
  have hK : va_K (dC, dI) vwCl (ztys cs_360) s := by rw [ecs_360, ztys_snoc hcs_355]; exact hK
  refine W.widen (k := 72) (n := 638456) (Nat.le_of_ble_eq_true rfl) (Nat.le_of_ble_eq_true rfl) ?_
  refine va_putF (D := (dC, dI)) (ci := 15) (v := .ref q_357) (ty := .array .int) (C := RX13) (T := TX13) (N := 196) hx hb hts iw_X13_init_X13 tyX13 tyX13_ok nmX13 hown hK hP hD hS 0 rfl rfl 106 (by decide) (hts (.fieldLink RX13 231 "LiquidTongueModel" "goneNode" "[I") (by decide +kernel)) (fun _ h9 => h9) rfl hin rfl (by decide +kernel) rfl rfl (zs_lt hlf_356 (by decide)) dX13_init_637 (fun H locs hP hD hS => ?_)
  obtain ⟨f_361, ef_361⟩ : ∃ z : List Value, z = f_356.set 106 (.ref q_357) := ⟨_, rfl⟩
  have hlf_361 : f_361.length = 196 := by rw [ef_361]; exact zs_len hlf_356
  have gf_361 : f_361 = zput (fs.set 69 (.int (-1))) qs_359 := by rw [ef_361, gf_356, eqs_359, zput_snoc hqs_354]; rfl
  have hP : va_P (dC, dI) vwCl ((h0, .inr (15, f_361)) :: zarr qs_359 cs_360) H := by rw [ef_361]; exact hP
  have hD : va_D A ((h0, .inr (15, f_361)) :: zarr qs_359 cs_360) := by rw [ef_361]; exact hD
  refine lv_aload_n hx hb dX13_init_640 rfl (lv_at hl 0 rfl) ?_
  refine lv_sipush (v := 12000) hx hb dX13_init_641 (by decide) ?_
  refine va_newa (atype := .int) (ty := .int) (N' := 12000) (a0 := (12000, .inl (fun _ => 0))) hx hb (hts (.arrayClass .int) (by decide +kernel)) rfl hK hP hD hS hA (fun cA => rfl) (by decide) (by decide) (Nat.le_of_ble_eq_true rfl) (Nat.le_of_ble_eq_true rfl) (Nat.le_of_ble_eq_true rfl) dX13_init_644 (fun q_362 cA_363 H hK hP hD hS => ?_)
  obtain ⟨qs_364, eqs_364⟩ : ∃ z : List Nat, z = qs_359 ++ [q_362] := ⟨_, rfl⟩
  obtain ⟨cs_365, ecs_365⟩ : ∃ z : List ClassId, z = cs_360 ++ [cA_363] := ⟨_, rfl⟩
  have hqs_364 : qs_364.length = 73 := by rw [eqs_364]; exact zl_snoc hqs_359
  have hcs_365 : cs_365.length = 73 := by rw [ecs_365]; exact zl_snoc hcs_360
  have hP : va_P (dC, dI) vwCl ((h0, .inr (15, f_361)) :: zarr qs_364 cs_365) H := by rw [eqs_364, ecs_365, zarr_snoc hqs_359 hcs_360]; exact hP
  have hD : va_D A ((h0, .inr (15, f_361)) :: zarr qs_364 cs_365) := by rw [eqs_364, ecs_365, zarr_snoc hqs_359 hcs_360]; exact hD
  have hK : va_K (dC, dI) vwCl (ztys cs_365) s := by rw [ecs_365, ztys_snoc hcs_360]; exact hK
  refine W.widen (k := 73) (n := 650456) (Nat.le_of_ble_eq_true rfl) (Nat.le_of_ble_eq_true rfl) ?_
  refine va_putF (D := (dC, dI)) (ci := 15) (v := .ref q_362) (ty := .array .int) (C := RX13) (T := TX13) (N := 196) hx hb hts iw_X13_init_X13 tyX13 tyX13_ok nmX13 hown hK hP hD hS 0 rfl rfl 107 (by decide) (hts (.fieldLink RX13 234 "LiquidTongueModel" "goneIs" "[I") (by decide +kernel)) (fun _ h9 => h9) rfl hin rfl (by decide +kernel) rfl rfl (zs_lt hlf_361 (by decide)) dX13_init_646 (fun H locs hP hD hS => ?_)
  obtain ⟨f_366, ef_366⟩ : ∃ z : List Value, z = f_361.set 107 (.ref q_362) := ⟨_, rfl⟩
  have hlf_366 : f_366.length = 196 := by rw [ef_366]; exact zs_len hlf_361
  have gf_366 : f_366 = zput (fs.set 69 (.int (-1))) qs_364 := by rw [ef_366, gf_361, eqs_364, zput_snoc hqs_359]; rfl
  have hP : va_P (dC, dI) vwCl ((h0, .inr (15, f_366)) :: zarr qs_364 cs_365) H := by rw [ef_366]; exact hP
  have hD : va_D A ((h0, .inr (15, f_366)) :: zarr qs_364 cs_365) := by rw [ef_366]; exact hD
  refine lv_aload_n hx hb dX13_init_649 rfl (lv_at hl 0 rfl) ?_
  refine lv_sipush (v := 12000) hx hb dX13_init_650 (by decide) ?_
  refine va_newa (atype := .int) (ty := .int) (N' := 12000) (a0 := (12000, .inl (fun _ => 0))) hx hb (hts (.arrayClass .int) (by decide +kernel)) rfl hK hP hD hS hA (fun cA => rfl) (by decide) (by decide) (Nat.le_of_ble_eq_true rfl) (Nat.le_of_ble_eq_true rfl) (Nat.le_of_ble_eq_true rfl) dX13_init_653 (fun q_367 cA_368 H hK hP hD hS => ?_)
  obtain ⟨qs_369, eqs_369⟩ : ∃ z : List Nat, z = qs_364 ++ [q_367] := ⟨_, rfl⟩
  obtain ⟨cs_370, ecs_370⟩ : ∃ z : List ClassId, z = cs_365 ++ [cA_368] := ⟨_, rfl⟩
  have hqs_369 : qs_369.length = 74 := by rw [eqs_369]; exact zl_snoc hqs_364
  have hcs_370 : cs_370.length = 74 := by rw [ecs_370]; exact zl_snoc hcs_365
  have hP : va_P (dC, dI) vwCl ((h0, .inr (15, f_366)) :: zarr qs_369 cs_370) H := by rw [eqs_369, ecs_370, zarr_snoc hqs_364 hcs_365]; exact hP
  have hD : va_D A ((h0, .inr (15, f_366)) :: zarr qs_369 cs_370) := by rw [eqs_369, ecs_370, zarr_snoc hqs_364 hcs_365]; exact hD
  have hK : va_K (dC, dI) vwCl (ztys cs_370) s := by rw [ecs_370, ztys_snoc hcs_365]; exact hK
  refine W.widen (k := 74) (n := 662456) (Nat.le_of_ble_eq_true rfl) (Nat.le_of_ble_eq_true rfl) ?_
  refine va_putF (D := (dC, dI)) (ci := 15) (v := .ref q_367) (ty := .array .int) (C := RX13) (T := TX13) (N := 196) hx hb hts iw_X13_init_X13 tyX13 tyX13_ok nmX13 hown hK hP hD hS 0 rfl rfl 108 (by decide) (hts (.fieldLink RX13 237 "LiquidTongueModel" "goneBefore" "[I") (by decide +kernel)) (fun _ h9 => h9) rfl hin rfl (by decide +kernel) rfl rfl (zs_lt hlf_366 (by decide)) dX13_init_655 (fun H locs hP hD hS => ?_)
  obtain ⟨f_371, ef_371⟩ : ∃ z : List Value, z = f_366.set 108 (.ref q_367) := ⟨_, rfl⟩
  have hlf_371 : f_371.length = 196 := by rw [ef_371]; exact zs_len hlf_366
  have gf_371 : f_371 = zput (fs.set 69 (.int (-1))) qs_369 := by rw [ef_371, gf_366, eqs_369, zput_snoc hqs_364]; rfl
  have hP : va_P (dC, dI) vwCl ((h0, .inr (15, f_371)) :: zarr qs_369 cs_370) H := by rw [ef_371]; exact hP
  have hD : va_D A ((h0, .inr (15, f_371)) :: zarr qs_369 cs_370) := by rw [ef_371]; exact hD
  refine lv_aload_n hx hb dX13_init_658 rfl (lv_at hl 0 rfl) ?_
  refine lv_sipush (v := 700) hx hb dX13_init_659 (by decide) ?_
  refine va_newa (atype := .int) (ty := .int) (N' := 700) (a0 := (700, .inl (fun _ => 0))) hx hb (hts (.arrayClass .int) (by decide +kernel)) rfl hK hP hD hS hA (fun cA => rfl) (by decide) (by decide) (Nat.le_of_ble_eq_true rfl) (Nat.le_of_ble_eq_true rfl) (Nat.le_of_ble_eq_true rfl) dX13_init_662 (fun q_372 cA_373 H hK hP hD hS => ?_)
  obtain ⟨qs_374, eqs_374⟩ : ∃ z : List Nat, z = qs_369 ++ [q_372] := ⟨_, rfl⟩
  obtain ⟨cs_375, ecs_375⟩ : ∃ z : List ClassId, z = cs_370 ++ [cA_373] := ⟨_, rfl⟩
  have hqs_374 : qs_374.length = 75 := by rw [eqs_374]; exact zl_snoc hqs_369
  have hcs_375 : cs_375.length = 75 := by rw [ecs_375]; exact zl_snoc hcs_370
  have hP : va_P (dC, dI) vwCl ((h0, .inr (15, f_371)) :: zarr qs_374 cs_375) H := by rw [eqs_374, ecs_375, zarr_snoc hqs_369 hcs_370]; exact hP
  have hD : va_D A ((h0, .inr (15, f_371)) :: zarr qs_374 cs_375) := by rw [eqs_374, ecs_375, zarr_snoc hqs_369 hcs_370]; exact hD
  have hK : va_K (dC, dI) vwCl (ztys cs_375) s := by rw [ecs_375, ztys_snoc hcs_370]; exact hK
  refine W.widen (k := 75) (n := 663156) (Nat.le_of_ble_eq_true rfl) (Nat.le_of_ble_eq_true rfl) ?_
  refine va_putF (D := (dC, dI)) (ci := 15) (v := .ref q_372) (ty := .array .int) (C := RX13) (T := TX13) (N := 196) hx hb hts iw_X13_init_X13 tyX13 tyX13_ok nmX13 hown hK hP hD hS 0 rfl rfl 111 (by decide) (hts (.fieldLink RX13 240 "LiquidTongueModel" "dRich" "[I") (by decide +kernel)) (fun _ h9 => h9) rfl hin rfl (by decide +kernel) rfl rfl (zs_lt hlf_371 (by decide)) dX13_init_664 (fun H locs hP hD hS => ?_)
  obtain ⟨f_376, ef_376⟩ : ∃ z : List Value, z = f_371.set 111 (.ref q_372) := ⟨_, rfl⟩
  have hlf_376 : f_376.length = 196 := by rw [ef_376]; exact zs_len hlf_371
  have gf_376 : f_376 = zput (fs.set 69 (.int (-1))) qs_374 := by rw [ef_376, gf_371, eqs_374, zput_snoc hqs_369]; rfl
  have hP : va_P (dC, dI) vwCl ((h0, .inr (15, f_376)) :: zarr qs_374 cs_375) H := by rw [ef_376]; exact hP
  have hD : va_D A ((h0, .inr (15, f_376)) :: zarr qs_374 cs_375) := by rw [ef_376]; exact hD
  refine lv_aload_n hx hb dX13_init_667 rfl (lv_at hl 0 rfl) ?_
  refine lv_sipush (v := 12000) hx hb dX13_init_668 (by decide) ?_
  refine va_newa (atype := .int) (ty := .int) (N' := 12000) (a0 := (12000, .inl (fun _ => 0))) hx hb (hts (.arrayClass .int) (by decide +kernel)) rfl hK hP hD hS hA (fun cA => rfl) (by decide) (by decide) (Nat.le_of_ble_eq_true rfl) (Nat.le_of_ble_eq_true rfl) (Nat.le_of_ble_eq_true rfl) dX13_init_671 (fun q_377 cA_378 H hK hP hD hS => ?_)
  obtain ⟨qs_379, eqs_379⟩ : ∃ z : List Nat, z = qs_374 ++ [q_377] := ⟨_, rfl⟩
  obtain ⟨cs_380, ecs_380⟩ : ∃ z : List ClassId, z = cs_375 ++ [cA_378] := ⟨_, rfl⟩
  have hqs_379 : qs_379.length = 76 := by rw [eqs_379]; exact zl_snoc hqs_374
  have hcs_380 : cs_380.length = 76 := by rw [ecs_380]; exact zl_snoc hcs_375
  have hP : va_P (dC, dI) vwCl ((h0, .inr (15, f_376)) :: zarr qs_379 cs_380) H := by rw [eqs_379, ecs_380, zarr_snoc hqs_374 hcs_375]; exact hP
  have hD : va_D A ((h0, .inr (15, f_376)) :: zarr qs_379 cs_380) := by rw [eqs_379, ecs_380, zarr_snoc hqs_374 hcs_375]; exact hD
  have hK : va_K (dC, dI) vwCl (ztys cs_380) s := by rw [ecs_380, ztys_snoc hcs_375]; exact hK
  refine W.widen (k := 76) (n := 675156) (Nat.le_of_ble_eq_true rfl) (Nat.le_of_ble_eq_true rfl) ?_
  refine va_putF (D := (dC, dI)) (ci := 15) (v := .ref q_377) (ty := .array .int) (C := RX13) (T := TX13) (N := 196) hx hb hts iw_X13_init_X13 tyX13 tyX13_ok nmX13 hown hK hP hD hS 0 rfl rfl 112 (by decide) (hts (.fieldLink RX13 243 "LiquidTongueModel" "fitLeft" "[I") (by decide +kernel)) (fun _ h9 => h9) rfl hin rfl (by decide +kernel) rfl rfl (zs_lt hlf_376 (by decide)) dX13_init_673 (fun H locs hP hD hS => ?_)
  obtain ⟨f_381, ef_381⟩ : ∃ z : List Value, z = f_376.set 112 (.ref q_377) := ⟨_, rfl⟩
  have hlf_381 : f_381.length = 196 := by rw [ef_381]; exact zs_len hlf_376
  have gf_381 : f_381 = zput (fs.set 69 (.int (-1))) qs_379 := by rw [ef_381, gf_376, eqs_379, zput_snoc hqs_374]; rfl
  have hP : va_P (dC, dI) vwCl ((h0, .inr (15, f_381)) :: zarr qs_379 cs_380) H := by rw [ef_381]; exact hP
  have hD : va_D A ((h0, .inr (15, f_381)) :: zarr qs_379 cs_380) := by rw [ef_381]; exact hD
  refine lv_aload_n hx hb dX13_init_676 rfl (lv_at hl 0 rfl) ?_
  refine lv_sipush (v := 12000) hx hb dX13_init_677 (by decide) ?_
  refine va_newa (atype := .int) (ty := .int) (N' := 12000) (a0 := (12000, .inl (fun _ => 0))) hx hb (hts (.arrayClass .int) (by decide +kernel)) rfl hK hP hD hS hA (fun cA => rfl) (by decide) (by decide) (Nat.le_of_ble_eq_true rfl) (Nat.le_of_ble_eq_true rfl) (Nat.le_of_ble_eq_true rfl) dX13_init_680 (fun q_382 cA_383 H hK hP hD hS => ?_)
  obtain ⟨qs_384, eqs_384⟩ : ∃ z : List Nat, z = qs_379 ++ [q_382] := ⟨_, rfl⟩
  obtain ⟨cs_385, ecs_385⟩ : ∃ z : List ClassId, z = cs_380 ++ [cA_383] := ⟨_, rfl⟩
  have hqs_384 : qs_384.length = 77 := by rw [eqs_384]; exact zl_snoc hqs_379
  have hcs_385 : cs_385.length = 77 := by rw [ecs_385]; exact zl_snoc hcs_380
  have hP : va_P (dC, dI) vwCl ((h0, .inr (15, f_381)) :: zarr qs_384 cs_385) H := by rw [eqs_384, ecs_385, zarr_snoc hqs_379 hcs_380]; exact hP
  have hD : va_D A ((h0, .inr (15, f_381)) :: zarr qs_384 cs_385) := by rw [eqs_384, ecs_385, zarr_snoc hqs_379 hcs_380]; exact hD
  have hK : va_K (dC, dI) vwCl (ztys cs_385) s := by rw [ecs_385, ztys_snoc hcs_380]; exact hK
  refine W.widen (k := 77) (n := 687156) (Nat.le_of_ble_eq_true rfl) (Nat.le_of_ble_eq_true rfl) ?_
  refine va_putF (D := (dC, dI)) (ci := 15) (v := .ref q_382) (ty := .array .int) (C := RX13) (T := TX13) (N := 196) hx hb hts iw_X13_init_X13 tyX13 tyX13_ok nmX13 hown hK hP hD hS 0 rfl rfl 113 (by decide) (hts (.fieldLink RX13 246 "LiquidTongueModel" "fitRight" "[I") (by decide +kernel)) (fun _ h9 => h9) rfl hin rfl (by decide +kernel) rfl rfl (zs_lt hlf_381 (by decide)) dX13_init_682 (fun H locs hP hD hS => ?_)
  obtain ⟨f_386, ef_386⟩ : ∃ z : List Value, z = f_381.set 113 (.ref q_382) := ⟨_, rfl⟩
  have hlf_386 : f_386.length = 196 := by rw [ef_386]; exact zs_len hlf_381
  have gf_386 : f_386 = zput (fs.set 69 (.int (-1))) qs_384 := by rw [ef_386, gf_381, eqs_384, zput_snoc hqs_379]; rfl
  have hP : va_P (dC, dI) vwCl ((h0, .inr (15, f_386)) :: zarr qs_384 cs_385) H := by rw [ef_386]; exact hP
  have hD : va_D A ((h0, .inr (15, f_386)) :: zarr qs_384 cs_385) := by rw [ef_386]; exact hD
  refine lv_aload_n hx hb dX13_init_685 rfl (lv_at hl 0 rfl) ?_
  refine lv_sipush (v := 12000) hx hb dX13_init_686 (by decide) ?_
  refine va_newa (atype := .int) (ty := .int) (N' := 12000) (a0 := (12000, .inl (fun _ => 0))) hx hb (hts (.arrayClass .int) (by decide +kernel)) rfl hK hP hD hS hA (fun cA => rfl) (by decide) (by decide) (Nat.le_of_ble_eq_true rfl) (Nat.le_of_ble_eq_true rfl) (Nat.le_of_ble_eq_true rfl) dX13_init_689 (fun q_387 cA_388 H hK hP hD hS => ?_)
  obtain ⟨qs_389, eqs_389⟩ : ∃ z : List Nat, z = qs_384 ++ [q_387] := ⟨_, rfl⟩
  obtain ⟨cs_390, ecs_390⟩ : ∃ z : List ClassId, z = cs_385 ++ [cA_388] := ⟨_, rfl⟩
  have hqs_389 : qs_389.length = 78 := by rw [eqs_389]; exact zl_snoc hqs_384
  have hcs_390 : cs_390.length = 78 := by rw [ecs_390]; exact zl_snoc hcs_385
  have hP : va_P (dC, dI) vwCl ((h0, .inr (15, f_386)) :: zarr qs_389 cs_390) H := by rw [eqs_389, ecs_390, zarr_snoc hqs_384 hcs_385]; exact hP
  have hD : va_D A ((h0, .inr (15, f_386)) :: zarr qs_389 cs_390) := by rw [eqs_389, ecs_390, zarr_snoc hqs_384 hcs_385]; exact hD
  have hK : va_K (dC, dI) vwCl (ztys cs_390) s := by rw [ecs_390, ztys_snoc hcs_385]; exact hK
  refine W.widen (k := 78) (n := 699156) (Nat.le_of_ble_eq_true rfl) (Nat.le_of_ble_eq_true rfl) ?_
  refine va_putF (D := (dC, dI)) (ci := 15) (v := .ref q_387) (ty := .array .int) (C := RX13) (T := TX13) (N := 196) hx hb hts iw_X13_init_X13 tyX13 tyX13_ok nmX13 hown hK hP hD hS 0 rfl rfl 114 (by decide) (hts (.fieldLink RX13 249 "LiquidTongueModel" "fitEnv" "[I") (by decide +kernel)) (fun _ h9 => h9) rfl hin rfl (by decide +kernel) rfl rfl (zs_lt hlf_386 (by decide)) dX13_init_691 (fun H locs hP hD hS => ?_)
  obtain ⟨f_391, ef_391⟩ : ∃ z : List Value, z = f_386.set 114 (.ref q_387) := ⟨_, rfl⟩
  have hlf_391 : f_391.length = 196 := by rw [ef_391]; exact zs_len hlf_386
  have gf_391 : f_391 = zput (fs.set 69 (.int (-1))) qs_389 := by rw [ef_391, gf_386, eqs_389, zput_snoc hqs_384]; rfl
  have hP : va_P (dC, dI) vwCl ((h0, .inr (15, f_391)) :: zarr qs_389 cs_390) H := by rw [ef_391]; exact hP
  have hD : va_D A ((h0, .inr (15, f_391)) :: zarr qs_389 cs_390) := by rw [ef_391]; exact hD
  refine lv_aload_n hx hb dX13_init_694 rfl (lv_at hl 0 rfl) ?_
  refine lv_sipush (v := 12000) hx hb dX13_init_695 (by decide) ?_
  refine va_newa (atype := .int) (ty := .int) (N' := 12000) (a0 := (12000, .inl (fun _ => 0))) hx hb (hts (.arrayClass .int) (by decide +kernel)) rfl hK hP hD hS hA (fun cA => rfl) (by decide) (by decide) (Nat.le_of_ble_eq_true rfl) (Nat.le_of_ble_eq_true rfl) (Nat.le_of_ble_eq_true rfl) dX13_init_698 (fun q_392 cA_393 H hK hP hD hS => ?_)
  obtain ⟨qs_394, eqs_394⟩ : ∃ z : List Nat, z = qs_389 ++ [q_392] := ⟨_, rfl⟩
  obtain ⟨cs_395, ecs_395⟩ : ∃ z : List ClassId, z = cs_390 ++ [cA_393] := ⟨_, rfl⟩
  have hqs_394 : qs_394.length = 79 := by rw [eqs_394]; exact zl_snoc hqs_389
  have hcs_395 : cs_395.length = 79 := by rw [ecs_395]; exact zl_snoc hcs_390
  have hP : va_P (dC, dI) vwCl ((h0, .inr (15, f_391)) :: zarr qs_394 cs_395) H := by rw [eqs_394, ecs_395, zarr_snoc hqs_389 hcs_390]; exact hP
  have hD : va_D A ((h0, .inr (15, f_391)) :: zarr qs_394 cs_395) := by rw [eqs_394, ecs_395, zarr_snoc hqs_389 hcs_390]; exact hD
  have hK : va_K (dC, dI) vwCl (ztys cs_395) s := by rw [ecs_395, ztys_snoc hcs_390]; exact hK
  refine W.widen (k := 79) (n := 711156) (Nat.le_of_ble_eq_true rfl) (Nat.le_of_ble_eq_true rfl) ?_
  refine va_putF (D := (dC, dI)) (ci := 15) (v := .ref q_392) (ty := .array .int) (C := RX13) (T := TX13) (N := 196) hx hb hts iw_X13_init_X13 tyX13 tyX13_ok nmX13 hown hK hP hD hS 0 rfl rfl 115 (by decide) (hts (.fieldLink RX13 252 "LiquidTongueModel" "fitGone" "[I") (by decide +kernel)) (fun _ h9 => h9) rfl hin rfl (by decide +kernel) rfl rfl (zs_lt hlf_391 (by decide)) dX13_init_700 (fun H locs hP hD hS => ?_)
  obtain ⟨f_396, ef_396⟩ : ∃ z : List Value, z = f_391.set 115 (.ref q_392) := ⟨_, rfl⟩
  have hlf_396 : f_396.length = 196 := by rw [ef_396]; exact zs_len hlf_391
  have gf_396 : f_396 = zput (fs.set 69 (.int (-1))) qs_394 := by rw [ef_396, gf_391, eqs_394, zput_snoc hqs_389]; rfl
  have hP : va_P (dC, dI) vwCl ((h0, .inr (15, f_396)) :: zarr qs_394 cs_395) H := by rw [ef_396]; exact hP
  have hD : va_D A ((h0, .inr (15, f_396)) :: zarr qs_394 cs_395) := by rw [ef_396]; exact hD
  refine lv_aload_n hx hb dX13_init_703 rfl (lv_at hl 0 rfl) ?_
  refine lv_sipush (v := 2100) hx hb dX13_init_704 (by decide) ?_
  refine va_newa (atype := .int) (ty := .int) (N' := 2100) (a0 := (2100, .inl (fun _ => 0))) hx hb (hts (.arrayClass .int) (by decide +kernel)) rfl hK hP hD hS hA (fun cA => rfl) (by decide) (by decide) (Nat.le_of_ble_eq_true rfl) (Nat.le_of_ble_eq_true rfl) (Nat.le_of_ble_eq_true rfl) dX13_init_707 (fun q_397 cA_398 H hK hP hD hS => ?_)
  obtain ⟨qs_399, eqs_399⟩ : ∃ z : List Nat, z = qs_394 ++ [q_397] := ⟨_, rfl⟩
  obtain ⟨cs_400, ecs_400⟩ : ∃ z : List ClassId, z = cs_395 ++ [cA_398] := ⟨_, rfl⟩
  have hqs_399 : qs_399.length = 80 := by rw [eqs_399]; exact zl_snoc hqs_394
  have hcs_400 : cs_400.length = 80 := by rw [ecs_400]; exact zl_snoc hcs_395
  have hP : va_P (dC, dI) vwCl ((h0, .inr (15, f_396)) :: zarr qs_399 cs_400) H := by rw [eqs_399, ecs_400, zarr_snoc hqs_394 hcs_395]; exact hP
  have hD : va_D A ((h0, .inr (15, f_396)) :: zarr qs_399 cs_400) := by rw [eqs_399, ecs_400, zarr_snoc hqs_394 hcs_395]; exact hD
  have hK : va_K (dC, dI) vwCl (ztys cs_400) s := by rw [ecs_400, ztys_snoc hcs_395]; exact hK
  refine W.widen (k := 80) (n := 713256) (Nat.le_of_ble_eq_true rfl) (Nat.le_of_ble_eq_true rfl) ?_
  refine va_putF (D := (dC, dI)) (ci := 15) (v := .ref q_397) (ty := .array .int) (C := RX13) (T := TX13) (N := 196) hx hb hts iw_X13_init_X13 tyX13 tyX13_ok nmX13 hown hK hP hD hS 0 rfl rfl 117 (by decide) (hts (.fieldLink RX13 255 "LiquidTongueModel" "soKind" "[I") (by decide +kernel)) (fun _ h9 => h9) rfl hin rfl (by decide +kernel) rfl rfl (zs_lt hlf_396 (by decide)) dX13_init_709 (fun H locs hP hD hS => ?_)
  obtain ⟨f_401, ef_401⟩ : ∃ z : List Value, z = f_396.set 117 (.ref q_397) := ⟨_, rfl⟩
  have hlf_401 : f_401.length = 196 := by rw [ef_401]; exact zs_len hlf_396
  have gf_401 : f_401 = zput (fs.set 69 (.int (-1))) qs_399 := by rw [ef_401, gf_396, eqs_399, zput_snoc hqs_394]; rfl
  have hP : va_P (dC, dI) vwCl ((h0, .inr (15, f_401)) :: zarr qs_399 cs_400) H := by rw [ef_401]; exact hP
  have hD : va_D A ((h0, .inr (15, f_401)) :: zarr qs_399 cs_400) := by rw [ef_401]; exact hD
  refine lv_aload_n hx hb dX13_init_712 rfl (lv_at hl 0 rfl) ?_
  refine lv_sipush (v := 2100) hx hb dX13_init_713 (by decide) ?_
  refine va_newa (atype := .int) (ty := .int) (N' := 2100) (a0 := (2100, .inl (fun _ => 0))) hx hb (hts (.arrayClass .int) (by decide +kernel)) rfl hK hP hD hS hA (fun cA => rfl) (by decide) (by decide) (Nat.le_of_ble_eq_true rfl) (Nat.le_of_ble_eq_true rfl) (Nat.le_of_ble_eq_true rfl) dX13_init_716 (fun q_402 cA_403 H hK hP hD hS => ?_)
  obtain ⟨qs_404, eqs_404⟩ : ∃ z : List Nat, z = qs_399 ++ [q_402] := ⟨_, rfl⟩
  obtain ⟨cs_405, ecs_405⟩ : ∃ z : List ClassId, z = cs_400 ++ [cA_403] := ⟨_, rfl⟩
  have hqs_404 : qs_404.length = 81 := by rw [eqs_404]; exact zl_snoc hqs_399
  have hcs_405 : cs_405.length = 81 := by rw [ecs_405]; exact zl_snoc hcs_400
  have hP : va_P (dC, dI) vwCl ((h0, .inr (15, f_401)) :: zarr qs_404 cs_405) H := by rw [eqs_404, ecs_405, zarr_snoc hqs_399 hcs_400]; exact hP
  have hD : va_D A ((h0, .inr (15, f_401)) :: zarr qs_404 cs_405) := by rw [eqs_404, ecs_405, zarr_snoc hqs_399 hcs_400]; exact hD
  have hK : va_K (dC, dI) vwCl (ztys cs_405) s := by rw [ecs_405, ztys_snoc hcs_400]; exact hK
  refine W.widen (k := 81) (n := 715356) (Nat.le_of_ble_eq_true rfl) (Nat.le_of_ble_eq_true rfl) ?_
  refine va_putF (D := (dC, dI)) (ci := 15) (v := .ref q_402) (ty := .array .int) (C := RX13) (T := TX13) (N := 196) hx hb hts iw_X13_init_X13 tyX13 tyX13_ok nmX13 hown hK hP hD hS 0 rfl rfl 118 (by decide) (hts (.fieldLink RX13 258 "LiquidTongueModel" "soWhat" "[I") (by decide +kernel)) (fun _ h9 => h9) rfl hin rfl (by decide +kernel) rfl rfl (zs_lt hlf_401 (by decide)) dX13_init_718 (fun H locs hP hD hS => ?_)
  obtain ⟨f_406, ef_406⟩ : ∃ z : List Value, z = f_401.set 118 (.ref q_402) := ⟨_, rfl⟩
  have hlf_406 : f_406.length = 196 := by rw [ef_406]; exact zs_len hlf_401
  have gf_406 : f_406 = zput (fs.set 69 (.int (-1))) qs_404 := by rw [ef_406, gf_401, eqs_404, zput_snoc hqs_399]; rfl
  have hP : va_P (dC, dI) vwCl ((h0, .inr (15, f_406)) :: zarr qs_404 cs_405) H := by rw [ef_406]; exact hP
  have hD : va_D A ((h0, .inr (15, f_406)) :: zarr qs_404 cs_405) := by rw [ef_406]; exact hD
  refine lv_aload_n hx hb dX13_init_721 rfl (lv_at hl 0 rfl) ?_
  refine lv_sipush (v := 2100) hx hb dX13_init_722 (by decide) ?_
  refine va_newa (atype := .int) (ty := .int) (N' := 2100) (a0 := (2100, .inl (fun _ => 0))) hx hb (hts (.arrayClass .int) (by decide +kernel)) rfl hK hP hD hS hA (fun cA => rfl) (by decide) (by decide) (Nat.le_of_ble_eq_true rfl) (Nat.le_of_ble_eq_true rfl) (Nat.le_of_ble_eq_true rfl) dX13_init_725 (fun q_407 cA_408 H hK hP hD hS => ?_)
  obtain ⟨qs_409, eqs_409⟩ : ∃ z : List Nat, z = qs_404 ++ [q_407] := ⟨_, rfl⟩
  obtain ⟨cs_410, ecs_410⟩ : ∃ z : List ClassId, z = cs_405 ++ [cA_408] := ⟨_, rfl⟩
  have hqs_409 : qs_409.length = 82 := by rw [eqs_409]; exact zl_snoc hqs_404
  have hcs_410 : cs_410.length = 82 := by rw [ecs_410]; exact zl_snoc hcs_405
  have hP : va_P (dC, dI) vwCl ((h0, .inr (15, f_406)) :: zarr qs_409 cs_410) H := by rw [eqs_409, ecs_410, zarr_snoc hqs_404 hcs_405]; exact hP
  have hD : va_D A ((h0, .inr (15, f_406)) :: zarr qs_409 cs_410) := by rw [eqs_409, ecs_410, zarr_snoc hqs_404 hcs_405]; exact hD
  have hK : va_K (dC, dI) vwCl (ztys cs_410) s := by rw [ecs_410, ztys_snoc hcs_405]; exact hK
  refine W.widen (k := 82) (n := 717456) (Nat.le_of_ble_eq_true rfl) (Nat.le_of_ble_eq_true rfl) ?_
  refine va_putF (D := (dC, dI)) (ci := 15) (v := .ref q_407) (ty := .array .int) (C := RX13) (T := TX13) (N := 196) hx hb hts iw_X13_init_X13 tyX13 tyX13_ok nmX13 hown hK hP hD hS 0 rfl rfl 119 (by decide) (hts (.fieldLink RX13 261 "LiquidTongueModel" "soName" "[I") (by decide +kernel)) (fun _ h9 => h9) rfl hin rfl (by decide +kernel) rfl rfl (zs_lt hlf_406 (by decide)) dX13_init_727 (fun H locs hP hD hS => ?_)
  obtain ⟨f_411, ef_411⟩ : ∃ z : List Value, z = f_406.set 119 (.ref q_407) := ⟨_, rfl⟩
  have hlf_411 : f_411.length = 196 := by rw [ef_411]; exact zs_len hlf_406
  have gf_411 : f_411 = zput (fs.set 69 (.int (-1))) qs_409 := by rw [ef_411, gf_406, eqs_409, zput_snoc hqs_404]; rfl
  have hP : va_P (dC, dI) vwCl ((h0, .inr (15, f_411)) :: zarr qs_409 cs_410) H := by rw [ef_411]; exact hP
  have hD : va_D A ((h0, .inr (15, f_411)) :: zarr qs_409 cs_410) := by rw [ef_411]; exact hD
  refine lv_aload_n hx hb dX13_init_730 rfl (lv_at hl 0 rfl) ?_
  refine lv_sipush (v := 2100) hx hb dX13_init_731 (by decide) ?_
  refine va_newa (atype := .int) (ty := .int) (N' := 2100) (a0 := (2100, .inl (fun _ => 0))) hx hb (hts (.arrayClass .int) (by decide +kernel)) rfl hK hP hD hS hA (fun cA => rfl) (by decide) (by decide) (Nat.le_of_ble_eq_true rfl) (Nat.le_of_ble_eq_true rfl) (Nat.le_of_ble_eq_true rfl) dX13_init_734 (fun q_412 cA_413 H hK hP hD hS => ?_)
  obtain ⟨qs_414, eqs_414⟩ : ∃ z : List Nat, z = qs_409 ++ [q_412] := ⟨_, rfl⟩
  obtain ⟨cs_415, ecs_415⟩ : ∃ z : List ClassId, z = cs_410 ++ [cA_413] := ⟨_, rfl⟩
  have hqs_414 : qs_414.length = 83 := by rw [eqs_414]; exact zl_snoc hqs_409
  have hcs_415 : cs_415.length = 83 := by rw [ecs_415]; exact zl_snoc hcs_410
  have hP : va_P (dC, dI) vwCl ((h0, .inr (15, f_411)) :: zarr qs_414 cs_415) H := by rw [eqs_414, ecs_415, zarr_snoc hqs_409 hcs_410]; exact hP
  have hD : va_D A ((h0, .inr (15, f_411)) :: zarr qs_414 cs_415) := by rw [eqs_414, ecs_415, zarr_snoc hqs_409 hcs_410]; exact hD
  have hK : va_K (dC, dI) vwCl (ztys cs_415) s := by rw [ecs_415, ztys_snoc hcs_410]; exact hK
  refine W.widen (k := 83) (n := 719556) (Nat.le_of_ble_eq_true rfl) (Nat.le_of_ble_eq_true rfl) ?_
  refine va_putF (D := (dC, dI)) (ci := 15) (v := .ref q_412) (ty := .array .int) (C := RX13) (T := TX13) (N := 196) hx hb hts iw_X13_init_X13 tyX13 tyX13_ok nmX13 hown hK hP hD hS 0 rfl rfl 120 (by decide) (hts (.fieldLink RX13 264 "LiquidTongueModel" "soEnv" "[I") (by decide +kernel)) (fun _ h9 => h9) rfl hin rfl (by decide +kernel) rfl rfl (zs_lt hlf_411 (by decide)) dX13_init_736 (fun H locs hP hD hS => ?_)
  obtain ⟨f_416, ef_416⟩ : ∃ z : List Value, z = f_411.set 120 (.ref q_412) := ⟨_, rfl⟩
  have hlf_416 : f_416.length = 196 := by rw [ef_416]; exact zs_len hlf_411
  have gf_416 : f_416 = zput (fs.set 69 (.int (-1))) qs_414 := by rw [ef_416, gf_411, eqs_414, zput_snoc hqs_409]; rfl
  have hP : va_P (dC, dI) vwCl ((h0, .inr (15, f_416)) :: zarr qs_414 cs_415) H := by rw [ef_416]; exact hP
  have hD : va_D A ((h0, .inr (15, f_416)) :: zarr qs_414 cs_415) := by rw [ef_416]; exact hD
  refine lv_aload_n hx hb dX13_init_739 rfl (lv_at hl 0 rfl) ?_
  refine lv_sipush (v := 2100) hx hb dX13_init_740 (by decide) ?_
  refine va_newa (atype := .int) (ty := .int) (N' := 2100) (a0 := (2100, .inl (fun _ => 0))) hx hb (hts (.arrayClass .int) (by decide +kernel)) rfl hK hP hD hS hA (fun cA => rfl) (by decide) (by decide) (Nat.le_of_ble_eq_true rfl) (Nat.le_of_ble_eq_true rfl) (Nat.le_of_ble_eq_true rfl) dX13_init_743 (fun q_417 cA_418 H hK hP hD hS => ?_)
  obtain ⟨qs_419, eqs_419⟩ : ∃ z : List Nat, z = qs_414 ++ [q_417] := ⟨_, rfl⟩
  obtain ⟨cs_420, ecs_420⟩ : ∃ z : List ClassId, z = cs_415 ++ [cA_418] := ⟨_, rfl⟩
  have hqs_419 : qs_419.length = 84 := by rw [eqs_419]; exact zl_snoc hqs_414
  have hcs_420 : cs_420.length = 84 := by rw [ecs_420]; exact zl_snoc hcs_415
  have hP : va_P (dC, dI) vwCl ((h0, .inr (15, f_416)) :: zarr qs_419 cs_420) H := by rw [eqs_419, ecs_420, zarr_snoc hqs_414 hcs_415]; exact hP
  have hD : va_D A ((h0, .inr (15, f_416)) :: zarr qs_419 cs_420) := by rw [eqs_419, ecs_420, zarr_snoc hqs_414 hcs_415]; exact hD
  have hK : va_K (dC, dI) vwCl (ztys cs_420) s := by rw [ecs_420, ztys_snoc hcs_415]; exact hK
  refine W.widen (k := 84) (n := 721656) (Nat.le_of_ble_eq_true rfl) (Nat.le_of_ble_eq_true rfl) ?_
  refine va_putF (D := (dC, dI)) (ci := 15) (v := .ref q_417) (ty := .array .int) (C := RX13) (T := TX13) (N := 196) hx hb hts iw_X13_init_X13 tyX13 tyX13_ok nmX13 hown hK hP hD hS 0 rfl rfl 121 (by decide) (hts (.fieldLink RX13 267 "LiquidTongueModel" "soGone" "[I") (by decide +kernel)) (fun _ h9 => h9) rfl hin rfl (by decide +kernel) rfl rfl (zs_lt hlf_416 (by decide)) dX13_init_745 (fun H locs hP hD hS => ?_)
  obtain ⟨f_421, ef_421⟩ : ∃ z : List Value, z = f_416.set 121 (.ref q_417) := ⟨_, rfl⟩
  have hlf_421 : f_421.length = 196 := by rw [ef_421]; exact zs_len hlf_416
  have gf_421 : f_421 = zput (fs.set 69 (.int (-1))) qs_419 := by rw [ef_421, gf_416, eqs_419, zput_snoc hqs_414]; rfl
  have hP : va_P (dC, dI) vwCl ((h0, .inr (15, f_421)) :: zarr qs_419 cs_420) H := by rw [ef_421]; exact hP
  have hD : va_D A ((h0, .inr (15, f_421)) :: zarr qs_419 cs_420) := by rw [ef_421]; exact hD
  refine lv_aload_n hx hb dX13_init_748 rfl (lv_at hl 0 rfl) ?_
  refine lv_sipush (v := 2100) hx hb dX13_init_749 (by decide) ?_
  refine va_newa (atype := .int) (ty := .int) (N' := 2100) (a0 := (2100, .inl (fun _ => 0))) hx hb (hts (.arrayClass .int) (by decide +kernel)) rfl hK hP hD hS hA (fun cA => rfl) (by decide) (by decide) (Nat.le_of_ble_eq_true rfl) (Nat.le_of_ble_eq_true rfl) (Nat.le_of_ble_eq_true rfl) dX13_init_752 (fun q_422 cA_423 H hK hP hD hS => ?_)
  obtain ⟨qs_424, eqs_424⟩ : ∃ z : List Nat, z = qs_419 ++ [q_422] := ⟨_, rfl⟩
  obtain ⟨cs_425, ecs_425⟩ : ∃ z : List ClassId, z = cs_420 ++ [cA_423] := ⟨_, rfl⟩
  have hqs_424 : qs_424.length = 85 := by rw [eqs_424]; exact zl_snoc hqs_419
  have hcs_425 : cs_425.length = 85 := by rw [ecs_425]; exact zl_snoc hcs_420
  have hP : va_P (dC, dI) vwCl ((h0, .inr (15, f_421)) :: zarr qs_424 cs_425) H := by rw [eqs_424, ecs_425, zarr_snoc hqs_419 hcs_420]; exact hP
  have hD : va_D A ((h0, .inr (15, f_421)) :: zarr qs_424 cs_425) := by rw [eqs_424, ecs_425, zarr_snoc hqs_419 hcs_420]; exact hD
  have hK : va_K (dC, dI) vwCl (ztys cs_425) s := by rw [ecs_425, ztys_snoc hcs_420]; exact hK
  refine W.widen (k := 85) (n := 723756) (Nat.le_of_ble_eq_true rfl) (Nat.le_of_ble_eq_true rfl) ?_
  refine va_putF (D := (dC, dI)) (ci := 15) (v := .ref q_422) (ty := .array .int) (C := RX13) (T := TX13) (N := 196) hx hb hts iw_X13_init_X13 tyX13 tyX13_ok nmX13 hown hK hP hD hS 0 rfl rfl 122 (by decide) (hts (.fieldLink RX13 270 "LiquidTongueModel" "soAt" "[I") (by decide +kernel)) (fun _ h9 => h9) rfl hin rfl (by decide +kernel) rfl rfl (zs_lt hlf_421 (by decide)) dX13_init_754 (fun H locs hP hD hS => ?_)
  obtain ⟨f_426, ef_426⟩ : ∃ z : List Value, z = f_421.set 122 (.ref q_422) := ⟨_, rfl⟩
  have hlf_426 : f_426.length = 196 := by rw [ef_426]; exact zs_len hlf_421
  have gf_426 : f_426 = zput (fs.set 69 (.int (-1))) qs_424 := by rw [ef_426, gf_421, eqs_424, zput_snoc hqs_419]; rfl
  have hP : va_P (dC, dI) vwCl ((h0, .inr (15, f_426)) :: zarr qs_424 cs_425) H := by rw [ef_426]; exact hP
  have hD : va_D A ((h0, .inr (15, f_426)) :: zarr qs_424 cs_425) := by rw [ef_426]; exact hD
  refine lv_aload_n hx hb dX13_init_757 rfl (lv_at hl 0 rfl) ?_
  refine lv_bipush (v := 60) hx hb dX13_init_758 (by decide) ?_
  refine va_newa (atype := .int) (ty := .int) (N' := 60) (a0 := (60, .inl (fun _ => 0))) hx hb (hts (.arrayClass .int) (by decide +kernel)) rfl hK hP hD hS hA (fun cA => rfl) (by decide) (by decide) (Nat.le_of_ble_eq_true rfl) (Nat.le_of_ble_eq_true rfl) (Nat.le_of_ble_eq_true rfl) dX13_init_760 (fun q_427 cA_428 H hK hP hD hS => ?_)
  obtain ⟨qs_429, eqs_429⟩ : ∃ z : List Nat, z = qs_424 ++ [q_427] := ⟨_, rfl⟩
  obtain ⟨cs_430, ecs_430⟩ : ∃ z : List ClassId, z = cs_425 ++ [cA_428] := ⟨_, rfl⟩
  have hqs_429 : qs_429.length = 86 := by rw [eqs_429]; exact zl_snoc hqs_424
  have hcs_430 : cs_430.length = 86 := by rw [ecs_430]; exact zl_snoc hcs_425
  have hP : va_P (dC, dI) vwCl ((h0, .inr (15, f_426)) :: zarr qs_429 cs_430) H := by rw [eqs_429, ecs_430, zarr_snoc hqs_424 hcs_425]; exact hP
  have hD : va_D A ((h0, .inr (15, f_426)) :: zarr qs_429 cs_430) := by rw [eqs_429, ecs_430, zarr_snoc hqs_424 hcs_425]; exact hD
  have hK : va_K (dC, dI) vwCl (ztys cs_430) s := by rw [ecs_430, ztys_snoc hcs_425]; exact hK
  refine W.widen (k := 86) (n := 723816) (Nat.le_of_ble_eq_true rfl) (Nat.le_of_ble_eq_true rfl) ?_
  refine va_putF (D := (dC, dI)) (ci := 15) (v := .ref q_427) (ty := .array .int) (C := RX13) (T := TX13) (N := 196) hx hb hts iw_X13_init_X13 tyX13 tyX13_ok nmX13 hown hK hP hD hS 0 rfl rfl 124 (by decide) (hts (.fieldLink RX13 273 "LiquidTongueModel" "byNames" "[I") (by decide +kernel)) (fun _ h9 => h9) rfl hin rfl (by decide +kernel) rfl rfl (zs_lt hlf_426 (by decide)) dX13_init_762 (fun H locs hP hD hS => ?_)
  obtain ⟨f_431, ef_431⟩ : ∃ z : List Value, z = f_426.set 124 (.ref q_427) := ⟨_, rfl⟩
  have hlf_431 : f_431.length = 196 := by rw [ef_431]; exact zs_len hlf_426
  have gf_431 : f_431 = zput (fs.set 69 (.int (-1))) qs_429 := by rw [ef_431, gf_426, eqs_429, zput_snoc hqs_424]; rfl
  have hP : va_P (dC, dI) vwCl ((h0, .inr (15, f_431)) :: zarr qs_429 cs_430) H := by rw [ef_431]; exact hP
  have hD : va_D A ((h0, .inr (15, f_431)) :: zarr qs_429 cs_430) := by rw [ef_431]; exact hD
  refine lv_aload_n hx hb dX13_init_765 rfl (lv_at hl 0 rfl) ?_
  refine lv_bipush (v := 60) hx hb dX13_init_766 (by decide) ?_
  refine va_newa (atype := .int) (ty := .int) (N' := 60) (a0 := (60, .inl (fun _ => 0))) hx hb (hts (.arrayClass .int) (by decide +kernel)) rfl hK hP hD hS hA (fun cA => rfl) (by decide) (by decide) (Nat.le_of_ble_eq_true rfl) (Nat.le_of_ble_eq_true rfl) (Nat.le_of_ble_eq_true rfl) dX13_init_768 (fun q_432 cA_433 H hK hP hD hS => ?_)
  obtain ⟨qs_434, eqs_434⟩ : ∃ z : List Nat, z = qs_429 ++ [q_432] := ⟨_, rfl⟩
  obtain ⟨cs_435, ecs_435⟩ : ∃ z : List ClassId, z = cs_430 ++ [cA_433] := ⟨_, rfl⟩
  have hqs_434 : qs_434.length = 87 := by rw [eqs_434]; exact zl_snoc hqs_429
  have hcs_435 : cs_435.length = 87 := by rw [ecs_435]; exact zl_snoc hcs_430
  have hP : va_P (dC, dI) vwCl ((h0, .inr (15, f_431)) :: zarr qs_434 cs_435) H := by rw [eqs_434, ecs_435, zarr_snoc hqs_429 hcs_430]; exact hP
  have hD : va_D A ((h0, .inr (15, f_431)) :: zarr qs_434 cs_435) := by rw [eqs_434, ecs_435, zarr_snoc hqs_429 hcs_430]; exact hD
  have hK : va_K (dC, dI) vwCl (ztys cs_435) s := by rw [ecs_435, ztys_snoc hcs_430]; exact hK
  refine W.widen (k := 87) (n := 723876) (Nat.le_of_ble_eq_true rfl) (Nat.le_of_ble_eq_true rfl) ?_
  refine va_putF (D := (dC, dI)) (ci := 15) (v := .ref q_432) (ty := .array .int) (C := RX13) (T := TX13) (N := 196) hx hb hts iw_X13_init_X13 tyX13 tyX13_ok nmX13 hown hK hP hD hS 0 rfl rfl 125 (by decide) (hts (.fieldLink RX13 276 "LiquidTongueModel" "byTurned" "[I") (by decide +kernel)) (fun _ h9 => h9) rfl hin rfl (by decide +kernel) rfl rfl (zs_lt hlf_431 (by decide)) dX13_init_770 (fun H locs hP hD hS => ?_)
  obtain ⟨f_436, ef_436⟩ : ∃ z : List Value, z = f_431.set 125 (.ref q_432) := ⟨_, rfl⟩
  have hlf_436 : f_436.length = 196 := by rw [ef_436]; exact zs_len hlf_431
  have gf_436 : f_436 = zput (fs.set 69 (.int (-1))) qs_434 := by rw [ef_436, gf_431, eqs_434, zput_snoc hqs_429]; rfl
  have hP : va_P (dC, dI) vwCl ((h0, .inr (15, f_436)) :: zarr qs_434 cs_435) H := by rw [ef_436]; exact hP
  have hD : va_D A ((h0, .inr (15, f_436)) :: zarr qs_434 cs_435) := by rw [ef_436]; exact hD
  refine lv_aload_n hx hb dX13_init_773 rfl (lv_at hl 0 rfl) ?_
  refine lv_sipush (v := 25600) hx hb dX13_init_774 (by decide) ?_
  refine va_newa (atype := .long) (ty := .long) (N' := 25600) (a0 := (25600, .inr (.inl (fun _ => 0)))) hx hb (hts (.arrayClass .long) (by decide +kernel)) rfl hK hP hD hS hA (fun cA => rfl) (by decide) (by decide) (Nat.le_of_ble_eq_true rfl) (Nat.le_of_ble_eq_true rfl) (Nat.le_of_ble_eq_true rfl) dX13_init_777 (fun q_437 cA_438 H hK hP hD hS => ?_)
  obtain ⟨qs_439, eqs_439⟩ : ∃ z : List Nat, z = qs_434 ++ [q_437] := ⟨_, rfl⟩
  obtain ⟨cs_440, ecs_440⟩ : ∃ z : List ClassId, z = cs_435 ++ [cA_438] := ⟨_, rfl⟩
  have hqs_439 : qs_439.length = 88 := by rw [eqs_439]; exact zl_snoc hqs_434
  have hcs_440 : cs_440.length = 88 := by rw [ecs_440]; exact zl_snoc hcs_435
  have hP : va_P (dC, dI) vwCl ((h0, .inr (15, f_436)) :: zarr qs_439 cs_440) H := by rw [eqs_439, ecs_440, zarr_snoc hqs_434 hcs_435]; exact hP
  have hD : va_D A ((h0, .inr (15, f_436)) :: zarr qs_439 cs_440) := by rw [eqs_439, ecs_440, zarr_snoc hqs_434 hcs_435]; exact hD
  have hK : va_K (dC, dI) vwCl (ztys cs_440) s := by rw [ecs_440, ztys_snoc hcs_435]; exact hK
  refine W.widen (k := 88) (n := 749476) (Nat.le_of_ble_eq_true rfl) (Nat.le_of_ble_eq_true rfl) ?_
  refine va_putF (D := (dC, dI)) (ci := 15) (v := .ref q_437) (ty := .array .long) (C := RX13) (T := TX13) (N := 196) hx hb hts iw_X13_init_X13 tyX13 tyX13_ok nmX13 hown hK hP hD hS 0 rfl rfl 127 (by decide) (hts (.fieldLink RX13 279 "LiquidTongueModel" "base" "[J") (by decide +kernel)) (fun _ h9 => h9) rfl hin rfl (by decide +kernel) rfl rfl (zs_lt hlf_436 (by decide)) dX13_init_779 (fun H locs hP hD hS => ?_)
  obtain ⟨f_441, ef_441⟩ : ∃ z : List Value, z = f_436.set 127 (.ref q_437) := ⟨_, rfl⟩
  have hlf_441 : f_441.length = 196 := by rw [ef_441]; exact zs_len hlf_436
  have gf_441 : f_441 = zput (fs.set 69 (.int (-1))) qs_439 := by rw [ef_441, gf_436, eqs_439, zput_snoc hqs_434]; rfl
  have hP : va_P (dC, dI) vwCl ((h0, .inr (15, f_441)) :: zarr qs_439 cs_440) H := by rw [ef_441]; exact hP
  have hD : va_D A ((h0, .inr (15, f_441)) :: zarr qs_439 cs_440) := by rw [ef_441]; exact hD
  refine lv_aload_n hx hb dX13_init_782 rfl (lv_at hl 0 rfl) ?_
  refine lv_sipush (v := 25600) hx hb dX13_init_783 (by decide) ?_
  refine va_newa (atype := .long) (ty := .long) (N' := 25600) (a0 := (25600, .inr (.inl (fun _ => 0)))) hx hb (hts (.arrayClass .long) (by decide +kernel)) rfl hK hP hD hS hA (fun cA => rfl) (by decide) (by decide) (Nat.le_of_ble_eq_true rfl) (Nat.le_of_ble_eq_true rfl) (Nat.le_of_ble_eq_true rfl) dX13_init_786 (fun q_442 cA_443 H hK hP hD hS => ?_)
  obtain ⟨qs_444, eqs_444⟩ : ∃ z : List Nat, z = qs_439 ++ [q_442] := ⟨_, rfl⟩
  obtain ⟨cs_445, ecs_445⟩ : ∃ z : List ClassId, z = cs_440 ++ [cA_443] := ⟨_, rfl⟩
  have hqs_444 : qs_444.length = 89 := by rw [eqs_444]; exact zl_snoc hqs_439
  have hcs_445 : cs_445.length = 89 := by rw [ecs_445]; exact zl_snoc hcs_440
  have hP : va_P (dC, dI) vwCl ((h0, .inr (15, f_441)) :: zarr qs_444 cs_445) H := by rw [eqs_444, ecs_445, zarr_snoc hqs_439 hcs_440]; exact hP
  have hD : va_D A ((h0, .inr (15, f_441)) :: zarr qs_444 cs_445) := by rw [eqs_444, ecs_445, zarr_snoc hqs_439 hcs_440]; exact hD
  have hK : va_K (dC, dI) vwCl (ztys cs_445) s := by rw [ecs_445, ztys_snoc hcs_440]; exact hK
  refine W.widen (k := 89) (n := 775076) (Nat.le_of_ble_eq_true rfl) (Nat.le_of_ble_eq_true rfl) ?_
  refine va_putF (D := (dC, dI)) (ci := 15) (v := .ref q_442) (ty := .array .long) (C := RX13) (T := TX13) (N := 196) hx hb hts iw_X13_init_X13 tyX13 tyX13_ok nmX13 hown hK hP hD hS 0 rfl rfl 128 (by decide) (hts (.fieldLink RX13 282 "LiquidTongueModel" "bound" "[J") (by decide +kernel)) (fun _ h9 => h9) rfl hin rfl (by decide +kernel) rfl rfl (zs_lt hlf_441 (by decide)) dX13_init_788 (fun H locs hP hD hS => ?_)
  obtain ⟨f_446, ef_446⟩ : ∃ z : List Value, z = f_441.set 128 (.ref q_442) := ⟨_, rfl⟩
  have hlf_446 : f_446.length = 196 := by rw [ef_446]; exact zs_len hlf_441
  have gf_446 : f_446 = zput (fs.set 69 (.int (-1))) qs_444 := by rw [ef_446, gf_441, eqs_444, zput_snoc hqs_439]; rfl
  have hP : va_P (dC, dI) vwCl ((h0, .inr (15, f_446)) :: zarr qs_444 cs_445) H := by rw [ef_446]; exact hP
  have hD : va_D A ((h0, .inr (15, f_446)) :: zarr qs_444 cs_445) := by rw [ef_446]; exact hD
  refine lv_aload_n hx hb dX13_init_791 rfl (lv_at hl 0 rfl) ?_
  refine lv_sipush (v := 1501) hx hb dX13_init_792 (by decide) ?_
  refine va_newa (atype := .int) (ty := .int) (N' := 1501) (a0 := (1501, .inl (fun _ => 0))) hx hb (hts (.arrayClass .int) (by decide +kernel)) rfl hK hP hD hS hA (fun cA => rfl) (by decide) (by decide) (Nat.le_of_ble_eq_true rfl) (Nat.le_of_ble_eq_true rfl) (Nat.le_of_ble_eq_true rfl) dX13_init_795 (fun q_447 cA_448 H hK hP hD hS => ?_)
  obtain ⟨qs_449, eqs_449⟩ : ∃ z : List Nat, z = qs_444 ++ [q_447] := ⟨_, rfl⟩
  obtain ⟨cs_450, ecs_450⟩ : ∃ z : List ClassId, z = cs_445 ++ [cA_448] := ⟨_, rfl⟩
  have hqs_449 : qs_449.length = 90 := by rw [eqs_449]; exact zl_snoc hqs_444
  have hcs_450 : cs_450.length = 90 := by rw [ecs_450]; exact zl_snoc hcs_445
  have hP : va_P (dC, dI) vwCl ((h0, .inr (15, f_446)) :: zarr qs_449 cs_450) H := by rw [eqs_449, ecs_450, zarr_snoc hqs_444 hcs_445]; exact hP
  have hD : va_D A ((h0, .inr (15, f_446)) :: zarr qs_449 cs_450) := by rw [eqs_449, ecs_450, zarr_snoc hqs_444 hcs_445]; exact hD
  have hK : va_K (dC, dI) vwCl (ztys cs_450) s := by rw [ecs_450, ztys_snoc hcs_445]; exact hK
  refine W.widen (k := 90) (n := 776577) (Nat.le_of_ble_eq_true rfl) (Nat.le_of_ble_eq_true rfl) ?_
  refine va_putF (D := (dC, dI)) (ci := 15) (v := .ref q_447) (ty := .array .int) (C := RX13) (T := TX13) (N := 196) hx hb hts iw_X13_init_X13 tyX13 tyX13_ok nmX13 hown hK hP hD hS 0 rfl rfl 129 (by decide) (hts (.fieldLink RX13 285 "LiquidTongueModel" "column" "[I") (by decide +kernel)) (fun _ h9 => h9) rfl hin rfl (by decide +kernel) rfl rfl (zs_lt hlf_446 (by decide)) dX13_init_797 (fun H locs hP hD hS => ?_)
  obtain ⟨f_451, ef_451⟩ : ∃ z : List Value, z = f_446.set 129 (.ref q_447) := ⟨_, rfl⟩
  have hlf_451 : f_451.length = 196 := by rw [ef_451]; exact zs_len hlf_446
  have gf_451 : f_451 = zput (fs.set 69 (.int (-1))) qs_449 := by rw [ef_451, gf_446, eqs_449, zput_snoc hqs_444]; rfl
  have hP : va_P (dC, dI) vwCl ((h0, .inr (15, f_451)) :: zarr qs_449 cs_450) H := by rw [ef_451]; exact hP
  have hD : va_D A ((h0, .inr (15, f_451)) :: zarr qs_449 cs_450) := by rw [ef_451]; exact hD
  refine lv_aload_n hx hb dX13_init_800 rfl (lv_at hl 0 rfl) ?_
  refine lv_bipush (v := 100) hx hb dX13_init_801 (by decide) ?_
  refine va_newa (atype := .int) (ty := .int) (N' := 100) (a0 := (100, .inl (fun _ => 0))) hx hb (hts (.arrayClass .int) (by decide +kernel)) rfl hK hP hD hS hA (fun cA => rfl) (by decide) (by decide) (Nat.le_of_ble_eq_true rfl) (Nat.le_of_ble_eq_true rfl) (Nat.le_of_ble_eq_true rfl) dX13_init_803 (fun q_452 cA_453 H hK hP hD hS => ?_)
  obtain ⟨qs_454, eqs_454⟩ : ∃ z : List Nat, z = qs_449 ++ [q_452] := ⟨_, rfl⟩
  obtain ⟨cs_455, ecs_455⟩ : ∃ z : List ClassId, z = cs_450 ++ [cA_453] := ⟨_, rfl⟩
  have hqs_454 : qs_454.length = 91 := by rw [eqs_454]; exact zl_snoc hqs_449
  have hcs_455 : cs_455.length = 91 := by rw [ecs_455]; exact zl_snoc hcs_450
  have hP : va_P (dC, dI) vwCl ((h0, .inr (15, f_451)) :: zarr qs_454 cs_455) H := by rw [eqs_454, ecs_455, zarr_snoc hqs_449 hcs_450]; exact hP
  have hD : va_D A ((h0, .inr (15, f_451)) :: zarr qs_454 cs_455) := by rw [eqs_454, ecs_455, zarr_snoc hqs_449 hcs_450]; exact hD
  have hK : va_K (dC, dI) vwCl (ztys cs_455) s := by rw [ecs_455, ztys_snoc hcs_450]; exact hK
  refine W.widen (k := 91) (n := 776677) (Nat.le_of_ble_eq_true rfl) (Nat.le_of_ble_eq_true rfl) ?_
  refine va_putF (D := (dC, dI)) (ci := 15) (v := .ref q_452) (ty := .array .int) (C := RX13) (T := TX13) (N := 196) hx hb hts iw_X13_init_X13 tyX13 tyX13_ok nmX13 hown hK hP hD hS 0 rfl rfl 130 (by decide) (hts (.fieldLink RX13 288 "LiquidTongueModel" "used" "[I") (by decide +kernel)) (fun _ h9 => h9) rfl hin rfl (by decide +kernel) rfl rfl (zs_lt hlf_451 (by decide)) dX13_init_805 (fun H locs hP hD hS => ?_)
  obtain ⟨f_456, ef_456⟩ : ∃ z : List Value, z = f_451.set 130 (.ref q_452) := ⟨_, rfl⟩
  have hlf_456 : f_456.length = 196 := by rw [ef_456]; exact zs_len hlf_451
  have gf_456 : f_456 = zput (fs.set 69 (.int (-1))) qs_454 := by rw [ef_456, gf_451, eqs_454, zput_snoc hqs_449]; rfl
  have hP : va_P (dC, dI) vwCl ((h0, .inr (15, f_456)) :: zarr qs_454 cs_455) H := by rw [ef_456]; exact hP
  have hD : va_D A ((h0, .inr (15, f_456)) :: zarr qs_454 cs_455) := by rw [ef_456]; exact hD
  refine lv_aload_n hx hb dX13_init_808 rfl (lv_at hl 0 rfl) ?_
  refine lv_sipush (v := 300) hx hb dX13_init_809 (by decide) ?_
  refine va_newa (atype := .int) (ty := .int) (N' := 300) (a0 := (300, .inl (fun _ => 0))) hx hb (hts (.arrayClass .int) (by decide +kernel)) rfl hK hP hD hS hA (fun cA => rfl) (by decide) (by decide) (Nat.le_of_ble_eq_true rfl) (Nat.le_of_ble_eq_true rfl) (Nat.le_of_ble_eq_true rfl) dX13_init_812 (fun q_457 cA_458 H hK hP hD hS => ?_)
  obtain ⟨qs_459, eqs_459⟩ : ∃ z : List Nat, z = qs_454 ++ [q_457] := ⟨_, rfl⟩
  obtain ⟨cs_460, ecs_460⟩ : ∃ z : List ClassId, z = cs_455 ++ [cA_458] := ⟨_, rfl⟩
  have hqs_459 : qs_459.length = 92 := by rw [eqs_459]; exact zl_snoc hqs_454
  have hcs_460 : cs_460.length = 92 := by rw [ecs_460]; exact zl_snoc hcs_455
  have hP : va_P (dC, dI) vwCl ((h0, .inr (15, f_456)) :: zarr qs_459 cs_460) H := by rw [eqs_459, ecs_460, zarr_snoc hqs_454 hcs_455]; exact hP
  have hD : va_D A ((h0, .inr (15, f_456)) :: zarr qs_459 cs_460) := by rw [eqs_459, ecs_460, zarr_snoc hqs_454 hcs_455]; exact hD
  have hK : va_K (dC, dI) vwCl (ztys cs_460) s := by rw [ecs_460, ztys_snoc hcs_455]; exact hK
  refine W.widen (k := 92) (n := 776977) (Nat.le_of_ble_eq_true rfl) (Nat.le_of_ble_eq_true rfl) ?_
  refine va_putF (D := (dC, dI)) (ci := 15) (v := .ref q_457) (ty := .array .int) (C := RX13) (T := TX13) (N := 196) hx hb hts iw_X13_init_X13 tyX13 tyX13_ok nmX13 hown hK hP hD hS 0 rfl rfl 142 (by decide) (hts (.fieldLink RX13 291 "LiquidTongueModel" "openNode" "[I") (by decide +kernel)) (fun _ h9 => h9) rfl hin rfl (by decide +kernel) rfl rfl (zs_lt hlf_456 (by decide)) dX13_init_814 (fun H locs hP hD hS => ?_)
  obtain ⟨f_461, ef_461⟩ : ∃ z : List Value, z = f_456.set 142 (.ref q_457) := ⟨_, rfl⟩
  have hlf_461 : f_461.length = 196 := by rw [ef_461]; exact zs_len hlf_456
  have gf_461 : f_461 = zput (fs.set 69 (.int (-1))) qs_459 := by rw [ef_461, gf_456, eqs_459, zput_snoc hqs_454]; rfl
  have hP : va_P (dC, dI) vwCl ((h0, .inr (15, f_461)) :: zarr qs_459 cs_460) H := by rw [ef_461]; exact hP
  have hD : va_D A ((h0, .inr (15, f_461)) :: zarr qs_459 cs_460) := by rw [ef_461]; exact hD
  refine lv_aload_n hx hb dX13_init_817 rfl (lv_at hl 0 rfl) ?_
  refine lv_sipush (v := 300) hx hb dX13_init_818 (by decide) ?_
  refine va_newa (atype := .int) (ty := .int) (N' := 300) (a0 := (300, .inl (fun _ => 0))) hx hb (hts (.arrayClass .int) (by decide +kernel)) rfl hK hP hD hS hA (fun cA => rfl) (by decide) (by decide) (Nat.le_of_ble_eq_true rfl) (Nat.le_of_ble_eq_true rfl) (Nat.le_of_ble_eq_true rfl) dX13_init_821 (fun q_462 cA_463 H hK hP hD hS => ?_)
  obtain ⟨qs_464, eqs_464⟩ : ∃ z : List Nat, z = qs_459 ++ [q_462] := ⟨_, rfl⟩
  obtain ⟨cs_465, ecs_465⟩ : ∃ z : List ClassId, z = cs_460 ++ [cA_463] := ⟨_, rfl⟩
  have hqs_464 : qs_464.length = 93 := by rw [eqs_464]; exact zl_snoc hqs_459
  have hcs_465 : cs_465.length = 93 := by rw [ecs_465]; exact zl_snoc hcs_460
  have hP : va_P (dC, dI) vwCl ((h0, .inr (15, f_461)) :: zarr qs_464 cs_465) H := by rw [eqs_464, ecs_465, zarr_snoc hqs_459 hcs_460]; exact hP
  have hD : va_D A ((h0, .inr (15, f_461)) :: zarr qs_464 cs_465) := by rw [eqs_464, ecs_465, zarr_snoc hqs_459 hcs_460]; exact hD
  have hK : va_K (dC, dI) vwCl (ztys cs_465) s := by rw [ecs_465, ztys_snoc hcs_460]; exact hK
  refine W.widen (k := 93) (n := 777277) (Nat.le_of_ble_eq_true rfl) (Nat.le_of_ble_eq_true rfl) ?_
  refine va_putF (D := (dC, dI)) (ci := 15) (v := .ref q_462) (ty := .array .int) (C := RX13) (T := TX13) (N := 196) hx hb hts iw_X13_init_X13 tyX13 tyX13_ok nmX13 hown hK hP hD hS 0 rfl rfl 143 (by decide) (hts (.fieldLink RX13 294 "LiquidTongueModel" "openIs" "[I") (by decide +kernel)) (fun _ h9 => h9) rfl hin rfl (by decide +kernel) rfl rfl (zs_lt hlf_461 (by decide)) dX13_init_823 (fun H locs hP hD hS => ?_)
  obtain ⟨f_466, ef_466⟩ : ∃ z : List Value, z = f_461.set 143 (.ref q_462) := ⟨_, rfl⟩
  have hlf_466 : f_466.length = 196 := by rw [ef_466]; exact zs_len hlf_461
  have gf_466 : f_466 = zput (fs.set 69 (.int (-1))) qs_464 := by rw [ef_466, gf_461, eqs_464, zput_snoc hqs_459]; rfl
  have hP : va_P (dC, dI) vwCl ((h0, .inr (15, f_466)) :: zarr qs_464 cs_465) H := by rw [ef_466]; exact hP
  have hD : va_D A ((h0, .inr (15, f_466)) :: zarr qs_464 cs_465) := by rw [ef_466]; exact hD
  refine lv_aload_n hx hb dX13_init_826 rfl (lv_at hl 0 rfl) ?_
  refine lv_sipush (v := 300) hx hb dX13_init_827 (by decide) ?_
  refine va_newa (atype := .int) (ty := .int) (N' := 300) (a0 := (300, .inl (fun _ => 0))) hx hb (hts (.arrayClass .int) (by decide +kernel)) rfl hK hP hD hS hA (fun cA => rfl) (by decide) (by decide) (Nat.le_of_ble_eq_true rfl) (Nat.le_of_ble_eq_true rfl) (Nat.le_of_ble_eq_true rfl) dX13_init_830 (fun q_467 cA_468 H hK hP hD hS => ?_)
  obtain ⟨qs_469, eqs_469⟩ : ∃ z : List Nat, z = qs_464 ++ [q_467] := ⟨_, rfl⟩
  obtain ⟨cs_470, ecs_470⟩ : ∃ z : List ClassId, z = cs_465 ++ [cA_468] := ⟨_, rfl⟩
  have hqs_469 : qs_469.length = 94 := by rw [eqs_469]; exact zl_snoc hqs_464
  have hcs_470 : cs_470.length = 94 := by rw [ecs_470]; exact zl_snoc hcs_465
  have hP : va_P (dC, dI) vwCl ((h0, .inr (15, f_466)) :: zarr qs_469 cs_470) H := by rw [eqs_469, ecs_470, zarr_snoc hqs_464 hcs_465]; exact hP
  have hD : va_D A ((h0, .inr (15, f_466)) :: zarr qs_469 cs_470) := by rw [eqs_469, ecs_470, zarr_snoc hqs_464 hcs_465]; exact hD
  have hK : va_K (dC, dI) vwCl (ztys cs_470) s := by rw [ecs_470, ztys_snoc hcs_465]; exact hK
  refine W.widen (k := 94) (n := 777577) (Nat.le_of_ble_eq_true rfl) (Nat.le_of_ble_eq_true rfl) ?_
  refine va_putF (D := (dC, dI)) (ci := 15) (v := .ref q_467) (ty := .array .int) (C := RX13) (T := TX13) (N := 196) hx hb hts iw_X13_init_X13 tyX13 tyX13_ok nmX13 hown hK hP hD hS 0 rfl rfl 145 (by decide) (hts (.fieldLink RX13 297 "LiquidTongueModel" "wayA" "[I") (by decide +kernel)) (fun _ h9 => h9) rfl hin rfl (by decide +kernel) rfl rfl (zs_lt hlf_466 (by decide)) dX13_init_832 (fun H locs hP hD hS => ?_)
  obtain ⟨f_471, ef_471⟩ : ∃ z : List Value, z = f_466.set 145 (.ref q_467) := ⟨_, rfl⟩
  have hlf_471 : f_471.length = 196 := by rw [ef_471]; exact zs_len hlf_466
  have gf_471 : f_471 = zput (fs.set 69 (.int (-1))) qs_469 := by rw [ef_471, gf_466, eqs_469, zput_snoc hqs_464]; rfl
  have hP : va_P (dC, dI) vwCl ((h0, .inr (15, f_471)) :: zarr qs_469 cs_470) H := by rw [ef_471]; exact hP
  have hD : va_D A ((h0, .inr (15, f_471)) :: zarr qs_469 cs_470) := by rw [ef_471]; exact hD
  refine lv_aload_n hx hb dX13_init_835 rfl (lv_at hl 0 rfl) ?_
  refine lv_sipush (v := 300) hx hb dX13_init_836 (by decide) ?_
  refine va_newa (atype := .int) (ty := .int) (N' := 300) (a0 := (300, .inl (fun _ => 0))) hx hb (hts (.arrayClass .int) (by decide +kernel)) rfl hK hP hD hS hA (fun cA => rfl) (by decide) (by decide) (Nat.le_of_ble_eq_true rfl) (Nat.le_of_ble_eq_true rfl) (Nat.le_of_ble_eq_true rfl) dX13_init_839 (fun q_472 cA_473 H hK hP hD hS => ?_)
  obtain ⟨qs_474, eqs_474⟩ : ∃ z : List Nat, z = qs_469 ++ [q_472] := ⟨_, rfl⟩
  obtain ⟨cs_475, ecs_475⟩ : ∃ z : List ClassId, z = cs_470 ++ [cA_473] := ⟨_, rfl⟩
  have hqs_474 : qs_474.length = 95 := by rw [eqs_474]; exact zl_snoc hqs_469
  have hcs_475 : cs_475.length = 95 := by rw [ecs_475]; exact zl_snoc hcs_470
  have hP : va_P (dC, dI) vwCl ((h0, .inr (15, f_471)) :: zarr qs_474 cs_475) H := by rw [eqs_474, ecs_475, zarr_snoc hqs_469 hcs_470]; exact hP
  have hD : va_D A ((h0, .inr (15, f_471)) :: zarr qs_474 cs_475) := by rw [eqs_474, ecs_475, zarr_snoc hqs_469 hcs_470]; exact hD
  have hK : va_K (dC, dI) vwCl (ztys cs_475) s := by rw [ecs_475, ztys_snoc hcs_470]; exact hK
  refine W.widen (k := 95) (n := 777877) (Nat.le_of_ble_eq_true rfl) (Nat.le_of_ble_eq_true rfl) ?_
  refine va_putF (D := (dC, dI)) (ci := 15) (v := .ref q_472) (ty := .array .int) (C := RX13) (T := TX13) (N := 196) hx hb hts iw_X13_init_X13 tyX13 tyX13_ok nmX13 hown hK hP hD hS 0 rfl rfl 146 (by decide) (hts (.fieldLink RX13 300 "LiquidTongueModel" "wayTa" "[I") (by decide +kernel)) (fun _ h9 => h9) rfl hin rfl (by decide +kernel) rfl rfl (zs_lt hlf_471 (by decide)) dX13_init_841 (fun H locs hP hD hS => ?_)
  obtain ⟨f_476, ef_476⟩ : ∃ z : List Value, z = f_471.set 146 (.ref q_472) := ⟨_, rfl⟩
  have hlf_476 : f_476.length = 196 := by rw [ef_476]; exact zs_len hlf_471
  have gf_476 : f_476 = zput (fs.set 69 (.int (-1))) qs_474 := by rw [ef_476, gf_471, eqs_474, zput_snoc hqs_469]; rfl
  have hP : va_P (dC, dI) vwCl ((h0, .inr (15, f_476)) :: zarr qs_474 cs_475) H := by rw [ef_476]; exact hP
  have hD : va_D A ((h0, .inr (15, f_476)) :: zarr qs_474 cs_475) := by rw [ef_476]; exact hD
  refine lv_aload_n hx hb dX13_init_844 rfl (lv_at hl 0 rfl) ?_
  refine lv_sipush (v := 300) hx hb dX13_init_845 (by decide) ?_
  refine va_newa (atype := .int) (ty := .int) (N' := 300) (a0 := (300, .inl (fun _ => 0))) hx hb (hts (.arrayClass .int) (by decide +kernel)) rfl hK hP hD hS hA (fun cA => rfl) (by decide) (by decide) (Nat.le_of_ble_eq_true rfl) (Nat.le_of_ble_eq_true rfl) (Nat.le_of_ble_eq_true rfl) dX13_init_848 (fun q_477 cA_478 H hK hP hD hS => ?_)
  obtain ⟨qs_479, eqs_479⟩ : ∃ z : List Nat, z = qs_474 ++ [q_477] := ⟨_, rfl⟩
  obtain ⟨cs_480, ecs_480⟩ : ∃ z : List ClassId, z = cs_475 ++ [cA_478] := ⟨_, rfl⟩
  have hqs_479 : qs_479.length = 96 := by rw [eqs_479]; exact zl_snoc hqs_474
  have hcs_480 : cs_480.length = 96 := by rw [ecs_480]; exact zl_snoc hcs_475
  have hP : va_P (dC, dI) vwCl ((h0, .inr (15, f_476)) :: zarr qs_479 cs_480) H := by rw [eqs_479, ecs_480, zarr_snoc hqs_474 hcs_475]; exact hP
  have hD : va_D A ((h0, .inr (15, f_476)) :: zarr qs_479 cs_480) := by rw [eqs_479, ecs_480, zarr_snoc hqs_474 hcs_475]; exact hD
  have hK : va_K (dC, dI) vwCl (ztys cs_480) s := by rw [ecs_480, ztys_snoc hcs_475]; exact hK
  refine W.widen (k := 96) (n := 778177) (Nat.le_of_ble_eq_true rfl) (Nat.le_of_ble_eq_true rfl) ?_
  refine va_putF (D := (dC, dI)) (ci := 15) (v := .ref q_477) (ty := .array .int) (C := RX13) (T := TX13) (N := 196) hx hb hts iw_X13_init_X13 tyX13 tyX13_ok nmX13 hown hK hP hD hS 0 rfl rfl 147 (by decide) (hts (.fieldLink RX13 303 "LiquidTongueModel" "wayB" "[I") (by decide +kernel)) (fun _ h9 => h9) rfl hin rfl (by decide +kernel) rfl rfl (zs_lt hlf_476 (by decide)) dX13_init_850 (fun H locs hP hD hS => ?_)
  obtain ⟨f_481, ef_481⟩ : ∃ z : List Value, z = f_476.set 147 (.ref q_477) := ⟨_, rfl⟩
  have hlf_481 : f_481.length = 196 := by rw [ef_481]; exact zs_len hlf_476
  have gf_481 : f_481 = zput (fs.set 69 (.int (-1))) qs_479 := by rw [ef_481, gf_476, eqs_479, zput_snoc hqs_474]; rfl
  have hP : va_P (dC, dI) vwCl ((h0, .inr (15, f_481)) :: zarr qs_479 cs_480) H := by rw [ef_481]; exact hP
  have hD : va_D A ((h0, .inr (15, f_481)) :: zarr qs_479 cs_480) := by rw [ef_481]; exact hD
  refine lv_aload_n hx hb dX13_init_853 rfl (lv_at hl 0 rfl) ?_
  refine lv_sipush (v := 300) hx hb dX13_init_854 (by decide) ?_
  refine va_newa (atype := .int) (ty := .int) (N' := 300) (a0 := (300, .inl (fun _ => 0))) hx hb (hts (.arrayClass .int) (by decide +kernel)) rfl hK hP hD hS hA (fun cA => rfl) (by decide) (by decide) (Nat.le_of_ble_eq_true rfl) (Nat.le_of_ble_eq_true rfl) (Nat.le_of_ble_eq_true rfl) dX13_init_857 (fun q_482 cA_483 H hK hP hD hS => ?_)
  obtain ⟨qs_484, eqs_484⟩ : ∃ z : List Nat, z = qs_479 ++ [q_482] := ⟨_, rfl⟩
  obtain ⟨cs_485, ecs_485⟩ : ∃ z : List ClassId, z = cs_480 ++ [cA_483] := ⟨_, rfl⟩
  have hqs_484 : qs_484.length = 97 := by rw [eqs_484]; exact zl_snoc hqs_479
  have hcs_485 : cs_485.length = 97 := by rw [ecs_485]; exact zl_snoc hcs_480
  have hP : va_P (dC, dI) vwCl ((h0, .inr (15, f_481)) :: zarr qs_484 cs_485) H := by rw [eqs_484, ecs_485, zarr_snoc hqs_479 hcs_480]; exact hP
  have hD : va_D A ((h0, .inr (15, f_481)) :: zarr qs_484 cs_485) := by rw [eqs_484, ecs_485, zarr_snoc hqs_479 hcs_480]; exact hD
  have hK : va_K (dC, dI) vwCl (ztys cs_485) s := by rw [ecs_485, ztys_snoc hcs_480]; exact hK
  refine W.widen (k := 97) (n := 778477) (Nat.le_of_ble_eq_true rfl) (Nat.le_of_ble_eq_true rfl) ?_
  refine va_putF (D := (dC, dI)) (ci := 15) (v := .ref q_482) (ty := .array .int) (C := RX13) (T := TX13) (N := 196) hx hb hts iw_X13_init_X13 tyX13 tyX13_ok nmX13 hown hK hP hD hS 0 rfl rfl 148 (by decide) (hts (.fieldLink RX13 306 "LiquidTongueModel" "wayTb" "[I") (by decide +kernel)) (fun _ h9 => h9) rfl hin rfl (by decide +kernel) rfl rfl (zs_lt hlf_481 (by decide)) dX13_init_859 (fun H locs hP hD hS => ?_)
  obtain ⟨f_486, ef_486⟩ : ∃ z : List Value, z = f_481.set 148 (.ref q_482) := ⟨_, rfl⟩
  have hlf_486 : f_486.length = 196 := by rw [ef_486]; exact zs_len hlf_481
  have gf_486 : f_486 = zput (fs.set 69 (.int (-1))) qs_484 := by rw [ef_486, gf_481, eqs_484, zput_snoc hqs_479]; rfl
  have hP : va_P (dC, dI) vwCl ((h0, .inr (15, f_486)) :: zarr qs_484 cs_485) H := by rw [ef_486]; exact hP
  have hD : va_D A ((h0, .inr (15, f_486)) :: zarr qs_484 cs_485) := by rw [ef_486]; exact hD
  refine lv_aload_n hx hb dX13_init_862 rfl (lv_at hl 0 rfl) ?_
  refine lv_bipush (v := 60) hx hb dX13_init_863 (by decide) ?_
  refine va_newa (atype := .int) (ty := .int) (N' := 60) (a0 := (60, .inl (fun _ => 0))) hx hb (hts (.arrayClass .int) (by decide +kernel)) rfl hK hP hD hS hA (fun cA => rfl) (by decide) (by decide) (Nat.le_of_ble_eq_true rfl) (Nat.le_of_ble_eq_true rfl) (Nat.le_of_ble_eq_true rfl) dX13_init_865 (fun q_487 cA_488 H hK hP hD hS => ?_)
  obtain ⟨qs_489, eqs_489⟩ : ∃ z : List Nat, z = qs_484 ++ [q_487] := ⟨_, rfl⟩
  obtain ⟨cs_490, ecs_490⟩ : ∃ z : List ClassId, z = cs_485 ++ [cA_488] := ⟨_, rfl⟩
  have hqs_489 : qs_489.length = 98 := by rw [eqs_489]; exact zl_snoc hqs_484
  have hcs_490 : cs_490.length = 98 := by rw [ecs_490]; exact zl_snoc hcs_485
  have hP : va_P (dC, dI) vwCl ((h0, .inr (15, f_486)) :: zarr qs_489 cs_490) H := by rw [eqs_489, ecs_490, zarr_snoc hqs_484 hcs_485]; exact hP
  have hD : va_D A ((h0, .inr (15, f_486)) :: zarr qs_489 cs_490) := by rw [eqs_489, ecs_490, zarr_snoc hqs_484 hcs_485]; exact hD
  have hK : va_K (dC, dI) vwCl (ztys cs_490) s := by rw [ecs_490, ztys_snoc hcs_485]; exact hK
  refine W.widen (k := 98) (n := 778537) (Nat.le_of_ble_eq_true rfl) (Nat.le_of_ble_eq_true rfl) ?_
  refine va_putF (D := (dC, dI)) (ci := 15) (v := .ref q_487) (ty := .array .int) (C := RX13) (T := TX13) (N := 196) hx hb hts iw_X13_init_X13 tyX13 tyX13_ok nmX13 hown hK hP hD hS 0 rfl rfl 149 (by decide) (hts (.fieldLink RX13 309 "LiquidTongueModel" "truthName" "[I") (by decide +kernel)) (fun _ h9 => h9) rfl hin rfl (by decide +kernel) rfl rfl (zs_lt hlf_486 (by decide)) dX13_init_867 (fun H locs hP hD hS => ?_)
  obtain ⟨f_491, ef_491⟩ : ∃ z : List Value, z = f_486.set 149 (.ref q_487) := ⟨_, rfl⟩
  have hlf_491 : f_491.length = 196 := by rw [ef_491]; exact zs_len hlf_486
  have gf_491 : f_491 = zput (fs.set 69 (.int (-1))) qs_489 := by rw [ef_491, gf_486, eqs_489, zput_snoc hqs_484]; rfl
  have hP : va_P (dC, dI) vwCl ((h0, .inr (15, f_491)) :: zarr qs_489 cs_490) H := by rw [ef_491]; exact hP
  have hD : va_D A ((h0, .inr (15, f_491)) :: zarr qs_489 cs_490) := by rw [ef_491]; exact hD
  refine lv_aload_n hx hb dX13_init_870 rfl (lv_at hl 0 rfl) ?_
  refine lv_bipush (v := 60) hx hb dX13_init_871 (by decide) ?_
  refine va_newa (atype := .int) (ty := .int) (N' := 60) (a0 := (60, .inl (fun _ => 0))) hx hb (hts (.arrayClass .int) (by decide +kernel)) rfl hK hP hD hS hA (fun cA => rfl) (by decide) (by decide) (Nat.le_of_ble_eq_true rfl) (Nat.le_of_ble_eq_true rfl) (Nat.le_of_ble_eq_true rfl) dX13_init_873 (fun q_492 cA_493 H hK hP hD hS => ?_)
  obtain ⟨qs_494, eqs_494⟩ : ∃ z : List Nat, z = qs_489 ++ [q_492] := ⟨_, rfl⟩
  obtain ⟨cs_495, ecs_495⟩ : ∃ z : List ClassId, z = cs_490 ++ [cA_493] := ⟨_, rfl⟩
  have hqs_494 : qs_494.length = 99 := by rw [eqs_494]; exact zl_snoc hqs_489
  have hcs_495 : cs_495.length = 99 := by rw [ecs_495]; exact zl_snoc hcs_490
  have hP : va_P (dC, dI) vwCl ((h0, .inr (15, f_491)) :: zarr qs_494 cs_495) H := by rw [eqs_494, ecs_495, zarr_snoc hqs_489 hcs_490]; exact hP
  have hD : va_D A ((h0, .inr (15, f_491)) :: zarr qs_494 cs_495) := by rw [eqs_494, ecs_495, zarr_snoc hqs_489 hcs_490]; exact hD
  have hK : va_K (dC, dI) vwCl (ztys cs_495) s := by rw [ecs_495, ztys_snoc hcs_490]; exact hK
  refine W.widen (k := 99) (n := 778597) (Nat.le_of_ble_eq_true rfl) (Nat.le_of_ble_eq_true rfl) ?_
  refine va_putF (D := (dC, dI)) (ci := 15) (v := .ref q_492) (ty := .array .int) (C := RX13) (T := TX13) (N := 196) hx hb hts iw_X13_init_X13 tyX13 tyX13_ok nmX13 hown hK hP hD hS 0 rfl rfl 150 (by decide) (hts (.fieldLink RX13 312 "LiquidTongueModel" "truthIs" "[I") (by decide +kernel)) (fun _ h9 => h9) rfl hin rfl (by decide +kernel) rfl rfl (zs_lt hlf_491 (by decide)) dX13_init_875 (fun H locs hP hD hS => ?_)
  obtain ⟨f_496, ef_496⟩ : ∃ z : List Value, z = f_491.set 150 (.ref q_492) := ⟨_, rfl⟩
  have hlf_496 : f_496.length = 196 := by rw [ef_496]; exact zs_len hlf_491
  have gf_496 : f_496 = zput (fs.set 69 (.int (-1))) qs_494 := by rw [ef_496, gf_491, eqs_494, zput_snoc hqs_489]; rfl
  have hP : va_P (dC, dI) vwCl ((h0, .inr (15, f_496)) :: zarr qs_494 cs_495) H := by rw [ef_496]; exact hP
  have hD : va_D A ((h0, .inr (15, f_496)) :: zarr qs_494 cs_495) := by rw [ef_496]; exact hD
  refine lv_aload_n hx hb dX13_init_878 rfl (lv_at hl 0 rfl) ?_
  refine lv_sipush (v := 300) hx hb dX13_init_879 (by decide) ?_
  refine va_newa (atype := .long) (ty := .long) (N' := 300) (a0 := (300, .inr (.inl (fun _ => 0)))) hx hb (hts (.arrayClass .long) (by decide +kernel)) rfl hK hP hD hS hA (fun cA => rfl) (by decide) (by decide) (Nat.le_of_ble_eq_true rfl) (Nat.le_of_ble_eq_true rfl) (Nat.le_of_ble_eq_true rfl) dX13_init_882 (fun q_497 cA_498 H hK hP hD hS => ?_)
  obtain ⟨qs_499, eqs_499⟩ : ∃ z : List Nat, z = qs_494 ++ [q_497] := ⟨_, rfl⟩
  obtain ⟨cs_500, ecs_500⟩ : ∃ z : List ClassId, z = cs_495 ++ [cA_498] := ⟨_, rfl⟩
  have hqs_499 : qs_499.length = 100 := by rw [eqs_499]; exact zl_snoc hqs_494
  have hcs_500 : cs_500.length = 100 := by rw [ecs_500]; exact zl_snoc hcs_495
  have hP : va_P (dC, dI) vwCl ((h0, .inr (15, f_496)) :: zarr qs_499 cs_500) H := by rw [eqs_499, ecs_500, zarr_snoc hqs_494 hcs_495]; exact hP
  have hD : va_D A ((h0, .inr (15, f_496)) :: zarr qs_499 cs_500) := by rw [eqs_499, ecs_500, zarr_snoc hqs_494 hcs_495]; exact hD
  have hK : va_K (dC, dI) vwCl (ztys cs_500) s := by rw [ecs_500, ztys_snoc hcs_495]; exact hK
  refine W.widen (k := 100) (n := 778897) (Nat.le_of_ble_eq_true rfl) (Nat.le_of_ble_eq_true rfl) ?_
  refine va_putF (D := (dC, dI)) (ci := 15) (v := .ref q_497) (ty := .array .long) (C := RX13) (T := TX13) (N := 196) hx hb hts iw_X13_init_X13 tyX13 tyX13_ok nmX13 hown hK hP hD hS 0 rfl rfl 151 (by decide) (hts (.fieldLink RX13 315 "LiquidTongueModel" "wayNumber" "[J") (by decide +kernel)) (fun _ h9 => h9) rfl hin rfl (by decide +kernel) rfl rfl (zs_lt hlf_496 (by decide)) dX13_init_884 (fun H locs hP hD hS => ?_)
  obtain ⟨f_501, ef_501⟩ : ∃ z : List Value, z = f_496.set 151 (.ref q_497) := ⟨_, rfl⟩
  have hlf_501 : f_501.length = 196 := by rw [ef_501]; exact zs_len hlf_496
  have gf_501 : f_501 = zput (fs.set 69 (.int (-1))) qs_499 := by rw [ef_501, gf_496, eqs_499, zput_snoc hqs_494]; rfl
  have hP : va_P (dC, dI) vwCl ((h0, .inr (15, f_501)) :: zarr qs_499 cs_500) H := by rw [ef_501]; exact hP
  have hD : va_D A ((h0, .inr (15, f_501)) :: zarr qs_499 cs_500) := by rw [ef_501]; exact hD
  refine lv_aload_n hx hb dX13_init_887 rfl (lv_at hl 0 rfl) ?_
  refine lv_sipush (v := 8000) hx hb dX13_init_888 (by decide) ?_
  refine va_newa (atype := .boolean) (ty := .boolean) (N' := 8000) (a0 := (8000, .inl (fun _ => 0))) hx hb (hts (.arrayClass .boolean) (by decide +kernel)) rfl hK hP hD hS hA (fun cA => rfl) (by decide) (by decide) (Nat.le_of_ble_eq_true rfl) (Nat.le_of_ble_eq_true rfl) (Nat.le_of_ble_eq_true rfl) dX13_init_891 (fun q_502 cA_503 H hK hP hD hS => ?_)
  obtain ⟨qs_504, eqs_504⟩ : ∃ z : List Nat, z = qs_499 ++ [q_502] := ⟨_, rfl⟩
  obtain ⟨cs_505, ecs_505⟩ : ∃ z : List ClassId, z = cs_500 ++ [cA_503] := ⟨_, rfl⟩
  have hqs_504 : qs_504.length = 101 := by rw [eqs_504]; exact zl_snoc hqs_499
  have hcs_505 : cs_505.length = 101 := by rw [ecs_505]; exact zl_snoc hcs_500
  have hP : va_P (dC, dI) vwCl ((h0, .inr (15, f_501)) :: zarr qs_504 cs_505) H := by rw [eqs_504, ecs_505, zarr_snoc hqs_499 hcs_500]; exact hP
  have hD : va_D A ((h0, .inr (15, f_501)) :: zarr qs_504 cs_505) := by rw [eqs_504, ecs_505, zarr_snoc hqs_499 hcs_500]; exact hD
  have hK : va_K (dC, dI) vwCl (ztys cs_505) s := by rw [ecs_505, ztys_snoc hcs_500]; exact hK
  refine W.widen (k := 101) (n := 786897) (Nat.le_of_ble_eq_true rfl) (Nat.le_of_ble_eq_true rfl) ?_
  refine va_putF (D := (dC, dI)) (ci := 15) (v := .ref q_502) (ty := .array .boolean) (C := RX13) (T := TX13) (N := 196) hx hb hts iw_X13_init_X13 tyX13 tyX13_ok nmX13 hown hK hP hD hS 0 rfl rfl 156 (by decide) (hts (.fieldLink RX13 318 "LiquidTongueModel" "fails" "[Z") (by decide +kernel)) (fun _ h9 => h9) rfl hin rfl (by decide +kernel) rfl rfl (zs_lt hlf_501 (by decide)) dX13_init_893 (fun H locs hP hD hS => ?_)
  obtain ⟨f_506, ef_506⟩ : ∃ z : List Value, z = f_501.set 156 (.ref q_502) := ⟨_, rfl⟩
  have hlf_506 : f_506.length = 196 := by rw [ef_506]; exact zs_len hlf_501
  have gf_506 : f_506 = zput (fs.set 69 (.int (-1))) qs_504 := by rw [ef_506, gf_501, eqs_504, zput_snoc hqs_499]; rfl
  have hP : va_P (dC, dI) vwCl ((h0, .inr (15, f_506)) :: zarr qs_504 cs_505) H := by rw [ef_506]; exact hP
  have hD : va_D A ((h0, .inr (15, f_506)) :: zarr qs_504 cs_505) := by rw [ef_506]; exact hD
  refine lv_aload_n hx hb dX13_init_896 rfl (lv_at hl 0 rfl) ?_
  refine lv_sipush (v := 16000) hx hb dX13_init_897 (by decide) ?_
  refine va_newa (atype := .byte) (ty := .byte) (N' := 16000) (a0 := (16000, .inl (fun _ => 0))) hx hb (hts (.arrayClass .byte) (by decide +kernel)) rfl hK hP hD hS hA (fun cA => rfl) (by decide) (by decide) (Nat.le_of_ble_eq_true rfl) (Nat.le_of_ble_eq_true rfl) (Nat.le_of_ble_eq_true rfl) dX13_init_900 (fun q_507 cA_508 H hK hP hD hS => ?_)
  obtain ⟨qs_509, eqs_509⟩ : ∃ z : List Nat, z = qs_504 ++ [q_507] := ⟨_, rfl⟩
  obtain ⟨cs_510, ecs_510⟩ : ∃ z : List ClassId, z = cs_505 ++ [cA_508] := ⟨_, rfl⟩
  have hqs_509 : qs_509.length = 102 := by rw [eqs_509]; exact zl_snoc hqs_504
  have hcs_510 : cs_510.length = 102 := by rw [ecs_510]; exact zl_snoc hcs_505
  have hP : va_P (dC, dI) vwCl ((h0, .inr (15, f_506)) :: zarr qs_509 cs_510) H := by rw [eqs_509, ecs_510, zarr_snoc hqs_504 hcs_505]; exact hP
  have hD : va_D A ((h0, .inr (15, f_506)) :: zarr qs_509 cs_510) := by rw [eqs_509, ecs_510, zarr_snoc hqs_504 hcs_505]; exact hD
  have hK : va_K (dC, dI) vwCl (ztys cs_510) s := by rw [ecs_510, ztys_snoc hcs_505]; exact hK
  refine W.widen (k := 102) (n := 802897) (Nat.le_of_ble_eq_true rfl) (Nat.le_of_ble_eq_true rfl) ?_
  refine va_putF (D := (dC, dI)) (ci := 15) (v := .ref q_507) (ty := .array .byte) (C := RX13) (T := TX13) (N := 196) hx hb hts iw_X13_init_X13 tyX13 tyX13_ok nmX13 hown hK hP hD hS 0 rfl rfl 157 (by decide) (hts (.fieldLink RX13 321 "LiquidTongueModel" "saying" "[B") (by decide +kernel)) (fun _ h9 => h9) rfl hin rfl (by decide +kernel) rfl rfl (zs_lt hlf_506 (by decide)) dX13_init_902 (fun H locs hP hD hS => ?_)
  obtain ⟨f_511, ef_511⟩ : ∃ z : List Value, z = f_506.set 157 (.ref q_507) := ⟨_, rfl⟩
  have hlf_511 : f_511.length = 196 := by rw [ef_511]; exact zs_len hlf_506
  have gf_511 : f_511 = zput (fs.set 69 (.int (-1))) qs_509 := by rw [ef_511, gf_506, eqs_509, zput_snoc hqs_504]; rfl
  have hP : va_P (dC, dI) vwCl ((h0, .inr (15, f_511)) :: zarr qs_509 cs_510) H := by rw [ef_511]; exact hP
  have hD : va_D A ((h0, .inr (15, f_511)) :: zarr qs_509 cs_510) := by rw [ef_511]; exact hD
  refine lv_aload_n hx hb dX13_init_905 rfl (lv_at hl 0 rfl) ?_
  refine lv_sipush (v := 800) hx hb dX13_init_906 (by decide) ?_
  refine va_newa (atype := .int) (ty := .int) (N' := 800) (a0 := (800, .inl (fun _ => 0))) hx hb (hts (.arrayClass .int) (by decide +kernel)) rfl hK hP hD hS hA (fun cA => rfl) (by decide) (by decide) (Nat.le_of_ble_eq_true rfl) (Nat.le_of_ble_eq_true rfl) (Nat.le_of_ble_eq_true rfl) dX13_init_909 (fun q_512 cA_513 H hK hP hD hS => ?_)
  obtain ⟨qs_514, eqs_514⟩ : ∃ z : List Nat, z = qs_509 ++ [q_512] := ⟨_, rfl⟩
  obtain ⟨cs_515, ecs_515⟩ : ∃ z : List ClassId, z = cs_510 ++ [cA_513] := ⟨_, rfl⟩
  have hqs_514 : qs_514.length = 103 := by rw [eqs_514]; exact zl_snoc hqs_509
  have hcs_515 : cs_515.length = 103 := by rw [ecs_515]; exact zl_snoc hcs_510
  have hP : va_P (dC, dI) vwCl ((h0, .inr (15, f_511)) :: zarr qs_514 cs_515) H := by rw [eqs_514, ecs_515, zarr_snoc hqs_509 hcs_510]; exact hP
  have hD : va_D A ((h0, .inr (15, f_511)) :: zarr qs_514 cs_515) := by rw [eqs_514, ecs_515, zarr_snoc hqs_509 hcs_510]; exact hD
  have hK : va_K (dC, dI) vwCl (ztys cs_515) s := by rw [ecs_515, ztys_snoc hcs_510]; exact hK
  refine W.widen (k := 103) (n := 803697) (Nat.le_of_ble_eq_true rfl) (Nat.le_of_ble_eq_true rfl) ?_
  refine va_putF (D := (dC, dI)) (ci := 15) (v := .ref q_512) (ty := .array .int) (C := RX13) (T := TX13) (N := 196) hx hb hts iw_X13_init_X13 tyX13 tyX13_ok nmX13 hown hK hP hD hS 0 rfl rfl 159 (by decide) (hts (.fieldLink RX13 324 "LiquidTongueModel" "dollar" "[I") (by decide +kernel)) (fun _ h9 => h9) rfl hin rfl (by decide +kernel) rfl rfl (zs_lt hlf_511 (by decide)) dX13_init_911 (fun H locs hP hD hS => ?_)
  obtain ⟨f_516, ef_516⟩ : ∃ z : List Value, z = f_511.set 159 (.ref q_512) := ⟨_, rfl⟩
  have hlf_516 : f_516.length = 196 := by rw [ef_516]; exact zs_len hlf_511
  have gf_516 : f_516 = zput (fs.set 69 (.int (-1))) qs_514 := by rw [ef_516, gf_511, eqs_514, zput_snoc hqs_509]; rfl
  have hP : va_P (dC, dI) vwCl ((h0, .inr (15, f_516)) :: zarr qs_514 cs_515) H := by rw [ef_516]; exact hP
  have hD : va_D A ((h0, .inr (15, f_516)) :: zarr qs_514 cs_515) := by rw [ef_516]; exact hD
  refine lv_aload_n hx hb dX13_init_914 rfl (lv_at hl 0 rfl) ?_
  refine lv_bipush (v := 6) hx hb dX13_init_915 (by decide) ?_
  refine va_newa (atype := .long) (ty := .long) (N' := 6) (a0 := (6, .inr (.inl (fun _ => 0)))) hx hb (hts (.arrayClass .long) (by decide +kernel)) rfl hK hP hD hS hA (fun cA => rfl) (by decide) (by decide) (Nat.le_of_ble_eq_true rfl) (Nat.le_of_ble_eq_true rfl) (Nat.le_of_ble_eq_true rfl) dX13_init_917 (fun q_517 cA_518 H hK hP hD hS => ?_)
  obtain ⟨qs_519, eqs_519⟩ : ∃ z : List Nat, z = qs_514 ++ [q_517] := ⟨_, rfl⟩
  obtain ⟨cs_520, ecs_520⟩ : ∃ z : List ClassId, z = cs_515 ++ [cA_518] := ⟨_, rfl⟩
  have hqs_519 : qs_519.length = 104 := by rw [eqs_519]; exact zl_snoc hqs_514
  have hcs_520 : cs_520.length = 104 := by rw [ecs_520]; exact zl_snoc hcs_515
  have hP : va_P (dC, dI) vwCl ((h0, .inr (15, f_516)) :: zarr qs_519 cs_520) H := by rw [eqs_519, ecs_520, zarr_snoc hqs_514 hcs_515]; exact hP
  have hD : va_D A ((h0, .inr (15, f_516)) :: zarr qs_519 cs_520) := by rw [eqs_519, ecs_520, zarr_snoc hqs_514 hcs_515]; exact hD
  have hK : va_K (dC, dI) vwCl (ztys cs_520) s := by rw [ecs_520, ztys_snoc hcs_515]; exact hK
  refine W.widen (k := 104) (n := 803703) (Nat.le_of_ble_eq_true rfl) (Nat.le_of_ble_eq_true rfl) ?_
  refine va_putF (D := (dC, dI)) (ci := 15) (v := .ref q_517) (ty := .array .long) (C := RX13) (T := TX13) (N := 196) hx hb hts iw_X13_init_X13 tyX13 tyX13_ok nmX13 hown hK hP hD hS 0 rfl rfl 161 (by decide) (hts (.fieldLink RX13 327 "LiquidTongueModel" "given" "[J") (by decide +kernel)) (fun _ h9 => h9) rfl hin rfl (by decide +kernel) rfl rfl (zs_lt hlf_516 (by decide)) dX13_init_919 (fun H locs hP hD hS => ?_)
  obtain ⟨f_521, ef_521⟩ : ∃ z : List Value, z = f_516.set 161 (.ref q_517) := ⟨_, rfl⟩
  have hlf_521 : f_521.length = 196 := by rw [ef_521]; exact zs_len hlf_516
  have gf_521 : f_521 = zput (fs.set 69 (.int (-1))) qs_519 := by rw [ef_521, gf_516, eqs_519, zput_snoc hqs_514]; rfl
  have hP : va_P (dC, dI) vwCl ((h0, .inr (15, f_521)) :: zarr qs_519 cs_520) H := by rw [ef_521]; exact hP
  have hD : va_D A ((h0, .inr (15, f_521)) :: zarr qs_519 cs_520) := by rw [ef_521]; exact hD
  refine lv_aload_n hx hb dX13_init_922 rfl (lv_at hl 0 rfl) ?_
  refine lv_sipush (v := 6000) hx hb dX13_init_923 (by decide) ?_
  refine va_newa (atype := .long) (ty := .long) (N' := 6000) (a0 := (6000, .inr (.inl (fun _ => 0)))) hx hb (hts (.arrayClass .long) (by decide +kernel)) rfl hK hP hD hS hA (fun cA => rfl) (by decide) (by decide) (Nat.le_of_ble_eq_true rfl) (Nat.le_of_ble_eq_true rfl) (Nat.le_of_ble_eq_true rfl) dX13_init_926 (fun q_522 cA_523 H hK hP hD hS => ?_)
  obtain ⟨qs_524, eqs_524⟩ : ∃ z : List Nat, z = qs_519 ++ [q_522] := ⟨_, rfl⟩
  obtain ⟨cs_525, ecs_525⟩ : ∃ z : List ClassId, z = cs_520 ++ [cA_523] := ⟨_, rfl⟩
  have hqs_524 : qs_524.length = 105 := by rw [eqs_524]; exact zl_snoc hqs_519
  have hcs_525 : cs_525.length = 105 := by rw [ecs_525]; exact zl_snoc hcs_520
  have hP : va_P (dC, dI) vwCl ((h0, .inr (15, f_521)) :: zarr qs_524 cs_525) H := by rw [eqs_524, ecs_525, zarr_snoc hqs_519 hcs_520]; exact hP
  have hD : va_D A ((h0, .inr (15, f_521)) :: zarr qs_524 cs_525) := by rw [eqs_524, ecs_525, zarr_snoc hqs_519 hcs_520]; exact hD
  have hK : va_K (dC, dI) vwCl (ztys cs_525) s := by rw [ecs_525, ztys_snoc hcs_520]; exact hK
  refine W.widen (k := 105) (n := 809703) (Nat.le_of_ble_eq_true rfl) (Nat.le_of_ble_eq_true rfl) ?_
  refine va_putF (D := (dC, dI)) (ci := 15) (v := .ref q_522) (ty := .array .long) (C := RX13) (T := TX13) (N := 196) hx hb hts iw_X13_init_X13 tyX13 tyX13_ok nmX13 hown hK hP hD hS 0 rfl rfl 162 (by decide) (hts (.fieldLink RX13 330 "LiquidTongueModel" "elements" "[J") (by decide +kernel)) (fun _ h9 => h9) rfl hin rfl (by decide +kernel) rfl rfl (zs_lt hlf_521 (by decide)) dX13_init_928 (fun H locs hP hD hS => ?_)
  obtain ⟨f_526, ef_526⟩ : ∃ z : List Value, z = f_521.set 162 (.ref q_522) := ⟨_, rfl⟩
  have hlf_526 : f_526.length = 196 := by rw [ef_526]; exact zs_len hlf_521
  have gf_526 : f_526 = zput (fs.set 69 (.int (-1))) qs_524 := by rw [ef_526, gf_521, eqs_524, zput_snoc hqs_519]; rfl
  have hP : va_P (dC, dI) vwCl ((h0, .inr (15, f_526)) :: zarr qs_524 cs_525) H := by rw [ef_526]; exact hP
  have hD : va_D A ((h0, .inr (15, f_526)) :: zarr qs_524 cs_525) := by rw [ef_526]; exact hD
  refine lv_aload_n hx hb dX13_init_931 rfl (lv_at hl 0 rfl) ?_
  refine lv_ldcw (v := 260000) hx hb hown (hts (.constant RX13 333 (260000)) (by decide +kernel)) dX13_init_932 ?_
  refine va_newa (atype := .int) (ty := .int) (N' := 260000) (a0 := (260000, .inl (fun _ => 0))) hx hb (hts (.arrayClass .int) (by decide +kernel)) rfl hK hP hD hS hA (fun cA => rfl) (by decide) (by decide) (Nat.le_of_ble_eq_true rfl) (Nat.le_of_ble_eq_true rfl) (Nat.le_of_ble_eq_true rfl) dX13_init_935 (fun q_527 cA_528 H hK hP hD hS => ?_)
  obtain ⟨qs_529, eqs_529⟩ : ∃ z : List Nat, z = qs_524 ++ [q_527] := ⟨_, rfl⟩
  obtain ⟨cs_530, ecs_530⟩ : ∃ z : List ClassId, z = cs_525 ++ [cA_528] := ⟨_, rfl⟩
  have hqs_529 : qs_529.length = 106 := by rw [eqs_529]; exact zl_snoc hqs_524
  have hcs_530 : cs_530.length = 106 := by rw [ecs_530]; exact zl_snoc hcs_525
  have hP : va_P (dC, dI) vwCl ((h0, .inr (15, f_526)) :: zarr qs_529 cs_530) H := by rw [eqs_529, ecs_530, zarr_snoc hqs_524 hcs_525]; exact hP
  have hD : va_D A ((h0, .inr (15, f_526)) :: zarr qs_529 cs_530) := by rw [eqs_529, ecs_530, zarr_snoc hqs_524 hcs_525]; exact hD
  have hK : va_K (dC, dI) vwCl (ztys cs_530) s := by rw [ecs_530, ztys_snoc hcs_525]; exact hK
  refine W.widen (k := 106) (n := 1069703) (Nat.le_of_ble_eq_true rfl) (Nat.le_of_ble_eq_true rfl) ?_
  refine va_putF (D := (dC, dI)) (ci := 15) (v := .ref q_527) (ty := .array .int) (C := RX13) (T := TX13) (N := 196) hx hb hts iw_X13_init_X13 tyX13 tyX13_ok nmX13 hown hK hP hD hS 0 rfl rfl 167 (by decide) (hts (.fieldLink RX13 334 "LiquidTongueModel" "slotName" "[I") (by decide +kernel)) (fun _ h9 => h9) rfl hin rfl (by decide +kernel) rfl rfl (zs_lt hlf_526 (by decide)) dX13_init_937 (fun H locs hP hD hS => ?_)
  obtain ⟨f_531, ef_531⟩ : ∃ z : List Value, z = f_526.set 167 (.ref q_527) := ⟨_, rfl⟩
  have hlf_531 : f_531.length = 196 := by rw [ef_531]; exact zs_len hlf_526
  have gf_531 : f_531 = zput (fs.set 69 (.int (-1))) qs_529 := by rw [ef_531, gf_526, eqs_529, zput_snoc hqs_524]; rfl
  have hP : va_P (dC, dI) vwCl ((h0, .inr (15, f_531)) :: zarr qs_529 cs_530) H := by rw [ef_531]; exact hP
  have hD : va_D A ((h0, .inr (15, f_531)) :: zarr qs_529 cs_530) := by rw [ef_531]; exact hD
  refine lv_aload_n hx hb dX13_init_940 rfl (lv_at hl 0 rfl) ?_
  refine lv_ldcw (v := 260000) hx hb hown (hts (.constant RX13 333 (260000)) (by decide +kernel)) dX13_init_941 ?_
  refine va_newa (atype := .int) (ty := .int) (N' := 260000) (a0 := (260000, .inl (fun _ => 0))) hx hb (hts (.arrayClass .int) (by decide +kernel)) rfl hK hP hD hS hA (fun cA => rfl) (by decide) (by decide) (Nat.le_of_ble_eq_true rfl) (Nat.le_of_ble_eq_true rfl) (Nat.le_of_ble_eq_true rfl) dX13_init_944 (fun q_532 cA_533 H hK hP hD hS => ?_)
  obtain ⟨qs_534, eqs_534⟩ : ∃ z : List Nat, z = qs_529 ++ [q_532] := ⟨_, rfl⟩
  obtain ⟨cs_535, ecs_535⟩ : ∃ z : List ClassId, z = cs_530 ++ [cA_533] := ⟨_, rfl⟩
  have hqs_534 : qs_534.length = 107 := by rw [eqs_534]; exact zl_snoc hqs_529
  have hcs_535 : cs_535.length = 107 := by rw [ecs_535]; exact zl_snoc hcs_530
  have hP : va_P (dC, dI) vwCl ((h0, .inr (15, f_531)) :: zarr qs_534 cs_535) H := by rw [eqs_534, ecs_535, zarr_snoc hqs_529 hcs_530]; exact hP
  have hD : va_D A ((h0, .inr (15, f_531)) :: zarr qs_534 cs_535) := by rw [eqs_534, ecs_535, zarr_snoc hqs_529 hcs_530]; exact hD
  have hK : va_K (dC, dI) vwCl (ztys cs_535) s := by rw [ecs_535, ztys_snoc hcs_530]; exact hK
  refine W.widen (k := 107) (n := 1329703) (Nat.le_of_ble_eq_true rfl) (Nat.le_of_ble_eq_true rfl) ?_
  refine va_putF (D := (dC, dI)) (ci := 15) (v := .ref q_532) (ty := .array .int) (C := RX13) (T := TX13) (N := 196) hx hb hts iw_X13_init_X13 tyX13 tyX13_ok nmX13 hown hK hP hD hS 0 rfl rfl 168 (by decide) (hts (.fieldLink RX13 337 "LiquidTongueModel" "slotKind" "[I") (by decide +kernel)) (fun _ h9 => h9) rfl hin rfl (by decide +kernel) rfl rfl (zs_lt hlf_531 (by decide)) dX13_init_946 (fun H locs hP hD hS => ?_)
  obtain ⟨f_536, ef_536⟩ : ∃ z : List Value, z = f_531.set 168 (.ref q_532) := ⟨_, rfl⟩
  have hlf_536 : f_536.length = 196 := by rw [ef_536]; exact zs_len hlf_531
  have gf_536 : f_536 = zput (fs.set 69 (.int (-1))) qs_534 := by rw [ef_536, gf_531, eqs_534, zput_snoc hqs_529]; rfl
  have hP : va_P (dC, dI) vwCl ((h0, .inr (15, f_536)) :: zarr qs_534 cs_535) H := by rw [ef_536]; exact hP
  have hD : va_D A ((h0, .inr (15, f_536)) :: zarr qs_534 cs_535) := by rw [ef_536]; exact hD
  refine lv_aload_n hx hb dX13_init_949 rfl (lv_at hl 0 rfl) ?_
  refine lv_ldcw (v := 260000) hx hb hown (hts (.constant RX13 333 (260000)) (by decide +kernel)) dX13_init_950 ?_
  refine va_newa (atype := .int) (ty := .int) (N' := 260000) (a0 := (260000, .inl (fun _ => 0))) hx hb (hts (.arrayClass .int) (by decide +kernel)) rfl hK hP hD hS hA (fun cA => rfl) (by decide) (by decide) (Nat.le_of_ble_eq_true rfl) (Nat.le_of_ble_eq_true rfl) (Nat.le_of_ble_eq_true rfl) dX13_init_953 (fun q_537 cA_538 H hK hP hD hS => ?_)
  obtain ⟨qs_539, eqs_539⟩ : ∃ z : List Nat, z = qs_534 ++ [q_537] := ⟨_, rfl⟩
  obtain ⟨cs_540, ecs_540⟩ : ∃ z : List ClassId, z = cs_535 ++ [cA_538] := ⟨_, rfl⟩
  have hqs_539 : qs_539.length = 108 := by rw [eqs_539]; exact zl_snoc hqs_534
  have hcs_540 : cs_540.length = 108 := by rw [ecs_540]; exact zl_snoc hcs_535
  have hP : va_P (dC, dI) vwCl ((h0, .inr (15, f_536)) :: zarr qs_539 cs_540) H := by rw [eqs_539, ecs_540, zarr_snoc hqs_534 hcs_535]; exact hP
  have hD : va_D A ((h0, .inr (15, f_536)) :: zarr qs_539 cs_540) := by rw [eqs_539, ecs_540, zarr_snoc hqs_534 hcs_535]; exact hD
  have hK : va_K (dC, dI) vwCl (ztys cs_540) s := by rw [ecs_540, ztys_snoc hcs_535]; exact hK
  refine W.widen (k := 108) (n := 1589703) (Nat.le_of_ble_eq_true rfl) (Nat.le_of_ble_eq_true rfl) ?_
  refine va_putF (D := (dC, dI)) (ci := 15) (v := .ref q_537) (ty := .array .int) (C := RX13) (T := TX13) (N := 196) hx hb hts iw_X13_init_X13 tyX13 tyX13_ok nmX13 hown hK hP hD hS 0 rfl rfl 169 (by decide) (hts (.fieldLink RX13 340 "LiquidTongueModel" "slotBefore" "[I") (by decide +kernel)) (fun _ h9 => h9) rfl hin rfl (by decide +kernel) rfl rfl (zs_lt hlf_536 (by decide)) dX13_init_955 (fun H locs hP hD hS => ?_)
  obtain ⟨f_541, ef_541⟩ : ∃ z : List Value, z = f_536.set 169 (.ref q_537) := ⟨_, rfl⟩
  have hlf_541 : f_541.length = 196 := by rw [ef_541]; exact zs_len hlf_536
  have gf_541 : f_541 = zput (fs.set 69 (.int (-1))) qs_539 := by rw [ef_541, gf_536, eqs_539, zput_snoc hqs_534]; rfl
  have hP : va_P (dC, dI) vwCl ((h0, .inr (15, f_541)) :: zarr qs_539 cs_540) H := by rw [ef_541]; exact hP
  have hD : va_D A ((h0, .inr (15, f_541)) :: zarr qs_539 cs_540) := by rw [ef_541]; exact hD
  refine lv_aload_n hx hb dX13_init_958 rfl (lv_at hl 0 rfl) ?_
  refine lv_ldcw (v := 260000) hx hb hown (hts (.constant RX13 333 (260000)) (by decide +kernel)) dX13_init_959 ?_
  refine va_newa (atype := .long) (ty := .long) (N' := 260000) (a0 := (260000, .inr (.inl (fun _ => 0)))) hx hb (hts (.arrayClass .long) (by decide +kernel)) rfl hK hP hD hS hA (fun cA => rfl) (by decide) (by decide) (Nat.le_of_ble_eq_true rfl) (Nat.le_of_ble_eq_true rfl) (Nat.le_of_ble_eq_true rfl) dX13_init_962 (fun q_542 cA_543 H hK hP hD hS => ?_)
  obtain ⟨qs_544, eqs_544⟩ : ∃ z : List Nat, z = qs_539 ++ [q_542] := ⟨_, rfl⟩
  obtain ⟨cs_545, ecs_545⟩ : ∃ z : List ClassId, z = cs_540 ++ [cA_543] := ⟨_, rfl⟩
  have hqs_544 : qs_544.length = 109 := by rw [eqs_544]; exact zl_snoc hqs_539
  have hcs_545 : cs_545.length = 109 := by rw [ecs_545]; exact zl_snoc hcs_540
  have hP : va_P (dC, dI) vwCl ((h0, .inr (15, f_541)) :: zarr qs_544 cs_545) H := by rw [eqs_544, ecs_545, zarr_snoc hqs_539 hcs_540]; exact hP
  have hD : va_D A ((h0, .inr (15, f_541)) :: zarr qs_544 cs_545) := by rw [eqs_544, ecs_545, zarr_snoc hqs_539 hcs_540]; exact hD
  have hK : va_K (dC, dI) vwCl (ztys cs_545) s := by rw [ecs_545, ztys_snoc hcs_540]; exact hK
  refine W.widen (k := 109) (n := 1849703) (Nat.le_of_ble_eq_true rfl) (Nat.le_of_ble_eq_true rfl) ?_
  refine va_putF (D := (dC, dI)) (ci := 15) (v := .ref q_542) (ty := .array .long) (C := RX13) (T := TX13) (N := 196) hx hb hts iw_X13_init_X13 tyX13 tyX13_ok nmX13 hown hK hP hD hS 0 rfl rfl 170 (by decide) (hts (.fieldLink RX13 343 "LiquidTongueModel" "slotValue" "[J") (by decide +kernel)) (fun _ h9 => h9) rfl hin rfl (by decide +kernel) rfl rfl (zs_lt hlf_541 (by decide)) dX13_init_964 (fun H locs hP hD hS => ?_)
  obtain ⟨f_546, ef_546⟩ : ∃ z : List Value, z = f_541.set 170 (.ref q_542) := ⟨_, rfl⟩
  have hlf_546 : f_546.length = 196 := by rw [ef_546]; exact zs_len hlf_541
  have gf_546 : f_546 = zput (fs.set 69 (.int (-1))) qs_544 := by rw [ef_546, gf_541, eqs_544, zput_snoc hqs_539]; rfl
  have hP : va_P (dC, dI) vwCl ((h0, .inr (15, f_546)) :: zarr qs_544 cs_545) H := by rw [ef_546]; exact hP
  have hD : va_D A ((h0, .inr (15, f_546)) :: zarr qs_544 cs_545) := by rw [ef_546]; exact hD
  refine lv_aload_n hx hb dX13_init_967 rfl (lv_at hl 0 rfl) ?_
  refine lv_ldcw (v := 60000) hx hb hown (hts (.constant RX13 346 (60000)) (by decide +kernel)) dX13_init_968 ?_
  refine va_newa (atype := .int) (ty := .int) (N' := 60000) (a0 := (60000, .inl (fun _ => 0))) hx hb (hts (.arrayClass .int) (by decide +kernel)) rfl hK hP hD hS hA (fun cA => rfl) (by decide) (by decide) (Nat.le_of_ble_eq_true rfl) (Nat.le_of_ble_eq_true rfl) (Nat.le_of_ble_eq_true rfl) dX13_init_971 (fun q_547 cA_548 H hK hP hD hS => ?_)
  obtain ⟨qs_549, eqs_549⟩ : ∃ z : List Nat, z = qs_544 ++ [q_547] := ⟨_, rfl⟩
  obtain ⟨cs_550, ecs_550⟩ : ∃ z : List ClassId, z = cs_545 ++ [cA_548] := ⟨_, rfl⟩
  have hqs_549 : qs_549.length = 110 := by rw [eqs_549]; exact zl_snoc hqs_544
  have hcs_550 : cs_550.length = 110 := by rw [ecs_550]; exact zl_snoc hcs_545
  have hP : va_P (dC, dI) vwCl ((h0, .inr (15, f_546)) :: zarr qs_549 cs_550) H := by rw [eqs_549, ecs_550, zarr_snoc hqs_544 hcs_545]; exact hP
  have hD : va_D A ((h0, .inr (15, f_546)) :: zarr qs_549 cs_550) := by rw [eqs_549, ecs_550, zarr_snoc hqs_544 hcs_545]; exact hD
  have hK : va_K (dC, dI) vwCl (ztys cs_550) s := by rw [ecs_550, ztys_snoc hcs_545]; exact hK
  refine W.widen (k := 110) (n := 1909703) (Nat.le_of_ble_eq_true rfl) (Nat.le_of_ble_eq_true rfl) ?_
  refine va_putF (D := (dC, dI)) (ci := 15) (v := .ref q_547) (ty := .array .int) (C := RX13) (T := TX13) (N := 196) hx hb hts iw_X13_init_X13 tyX13 tyX13_ok nmX13 hown hK hP hD hS 0 rfl rfl 172 (by decide) (hts (.fieldLink RX13 347 "LiquidTongueModel" "fNode" "[I") (by decide +kernel)) (fun _ h9 => h9) rfl hin rfl (by decide +kernel) rfl rfl (zs_lt hlf_546 (by decide)) dX13_init_973 (fun H locs hP hD hS => ?_)
  obtain ⟨f_551, ef_551⟩ : ∃ z : List Value, z = f_546.set 172 (.ref q_547) := ⟨_, rfl⟩
  have hlf_551 : f_551.length = 196 := by rw [ef_551]; exact zs_len hlf_546
  have gf_551 : f_551 = zput (fs.set 69 (.int (-1))) qs_549 := by rw [ef_551, gf_546, eqs_549, zput_snoc hqs_544]; rfl
  have hP : va_P (dC, dI) vwCl ((h0, .inr (15, f_551)) :: zarr qs_549 cs_550) H := by rw [ef_551]; exact hP
  have hD : va_D A ((h0, .inr (15, f_551)) :: zarr qs_549 cs_550) := by rw [ef_551]; exact hD
  refine lv_aload_n hx hb dX13_init_976 rfl (lv_at hl 0 rfl) ?_
  refine lv_ldcw (v := 60000) hx hb hown (hts (.constant RX13 346 (60000)) (by decide +kernel)) dX13_init_977 ?_
  refine va_newa (atype := .int) (ty := .int) (N' := 60000) (a0 := (60000, .inl (fun _ => 0))) hx hb (hts (.arrayClass .int) (by decide +kernel)) rfl hK hP hD hS hA (fun cA => rfl) (by decide) (by decide) (Nat.le_of_ble_eq_true rfl) (Nat.le_of_ble_eq_true rfl) (Nat.le_of_ble_eq_true rfl) dX13_init_980 (fun q_552 cA_553 H hK hP hD hS => ?_)
  obtain ⟨qs_554, eqs_554⟩ : ∃ z : List Nat, z = qs_549 ++ [q_552] := ⟨_, rfl⟩
  obtain ⟨cs_555, ecs_555⟩ : ∃ z : List ClassId, z = cs_550 ++ [cA_553] := ⟨_, rfl⟩
  have hqs_554 : qs_554.length = 111 := by rw [eqs_554]; exact zl_snoc hqs_549
  have hcs_555 : cs_555.length = 111 := by rw [ecs_555]; exact zl_snoc hcs_550
  have hP : va_P (dC, dI) vwCl ((h0, .inr (15, f_551)) :: zarr qs_554 cs_555) H := by rw [eqs_554, ecs_555, zarr_snoc hqs_549 hcs_550]; exact hP
  have hD : va_D A ((h0, .inr (15, f_551)) :: zarr qs_554 cs_555) := by rw [eqs_554, ecs_555, zarr_snoc hqs_549 hcs_550]; exact hD
  have hK : va_K (dC, dI) vwCl (ztys cs_555) s := by rw [ecs_555, ztys_snoc hcs_550]; exact hK
  refine W.widen (k := 111) (n := 1969703) (Nat.le_of_ble_eq_true rfl) (Nat.le_of_ble_eq_true rfl) ?_
  refine va_putF (D := (dC, dI)) (ci := 15) (v := .ref q_552) (ty := .array .int) (C := RX13) (T := TX13) (N := 196) hx hb hts iw_X13_init_X13 tyX13 tyX13_ok nmX13 hown hK hP hD hS 0 rfl rfl 173 (by decide) (hts (.fieldLink RX13 350 "LiquidTongueModel" "fSlots" "[I") (by decide +kernel)) (fun _ h9 => h9) rfl hin rfl (by decide +kernel) rfl rfl (zs_lt hlf_551 (by decide)) dX13_init_982 (fun H locs hP hD hS => ?_)
  obtain ⟨f_556, ef_556⟩ : ∃ z : List Value, z = f_551.set 173 (.ref q_552) := ⟨_, rfl⟩
  have hlf_556 : f_556.length = 196 := by rw [ef_556]; exact zs_len hlf_551
  have gf_556 : f_556 = zput (fs.set 69 (.int (-1))) qs_554 := by rw [ef_556, gf_551, eqs_554, zput_snoc hqs_549]; rfl
  have hP : va_P (dC, dI) vwCl ((h0, .inr (15, f_556)) :: zarr qs_554 cs_555) H := by rw [ef_556]; exact hP
  have hD : va_D A ((h0, .inr (15, f_556)) :: zarr qs_554 cs_555) := by rw [ef_556]; exact hD
  refine lv_aload_n hx hb dX13_init_985 rfl (lv_at hl 0 rfl) ?_
  refine lv_ldcw (v := 60000) hx hb hown (hts (.constant RX13 346 (60000)) (by decide +kernel)) dX13_init_986 ?_
  refine va_newa (atype := .int) (ty := .int) (N' := 60000) (a0 := (60000, .inl (fun _ => 0))) hx hb (hts (.arrayClass .int) (by decide +kernel)) rfl hK hP hD hS hA (fun cA => rfl) (by decide) (by decide) (Nat.le_of_ble_eq_true rfl) (Nat.le_of_ble_eq_true rfl) (Nat.le_of_ble_eq_true rfl) dX13_init_989 (fun q_557 cA_558 H hK hP hD hS => ?_)
  obtain ⟨qs_559, eqs_559⟩ : ∃ z : List Nat, z = qs_554 ++ [q_557] := ⟨_, rfl⟩
  obtain ⟨cs_560, ecs_560⟩ : ∃ z : List ClassId, z = cs_555 ++ [cA_558] := ⟨_, rfl⟩
  have hqs_559 : qs_559.length = 112 := by rw [eqs_559]; exact zl_snoc hqs_554
  have hcs_560 : cs_560.length = 112 := by rw [ecs_560]; exact zl_snoc hcs_555
  have hP : va_P (dC, dI) vwCl ((h0, .inr (15, f_556)) :: zarr qs_559 cs_560) H := by rw [eqs_559, ecs_560, zarr_snoc hqs_554 hcs_555]; exact hP
  have hD : va_D A ((h0, .inr (15, f_556)) :: zarr qs_559 cs_560) := by rw [eqs_559, ecs_560, zarr_snoc hqs_554 hcs_555]; exact hD
  have hK : va_K (dC, dI) vwCl (ztys cs_560) s := by rw [ecs_560, ztys_snoc hcs_555]; exact hK
  refine W.widen (k := 112) (n := 2029703) (Nat.le_of_ble_eq_true rfl) (Nat.le_of_ble_eq_true rfl) ?_
  refine va_putF (D := (dC, dI)) (ci := 15) (v := .ref q_557) (ty := .array .int) (C := RX13) (T := TX13) (N := 196) hx hb hts iw_X13_init_X13 tyX13 tyX13_ok nmX13 hown hK hP hD hS 0 rfl rfl 174 (by decide) (hts (.fieldLink RX13 353 "LiquidTongueModel" "fHad" "[I") (by decide +kernel)) (fun _ h9 => h9) rfl hin rfl (by decide +kernel) rfl rfl (zs_lt hlf_556 (by decide)) dX13_init_991 (fun H locs hP hD hS => ?_)
  obtain ⟨f_561, ef_561⟩ : ∃ z : List Value, z = f_556.set 174 (.ref q_557) := ⟨_, rfl⟩
  have hlf_561 : f_561.length = 196 := by rw [ef_561]; exact zs_len hlf_556
  have gf_561 : f_561 = zput (fs.set 69 (.int (-1))) qs_559 := by rw [ef_561, gf_556, eqs_559, zput_snoc hqs_554]; rfl
  have hP : va_P (dC, dI) vwCl ((h0, .inr (15, f_561)) :: zarr qs_559 cs_560) H := by rw [ef_561]; exact hP
  have hD : va_D A ((h0, .inr (15, f_561)) :: zarr qs_559 cs_560) := by rw [ef_561]; exact hD
  refine lv_aload_n hx hb dX13_init_994 rfl (lv_at hl 0 rfl) ?_
  refine lv_ldcw (v := 60000) hx hb hown (hts (.constant RX13 346 (60000)) (by decide +kernel)) dX13_init_995 ?_
  refine va_newa (atype := .int) (ty := .int) (N' := 60000) (a0 := (60000, .inl (fun _ => 0))) hx hb (hts (.arrayClass .int) (by decide +kernel)) rfl hK hP hD hS hA (fun cA => rfl) (by decide) (by decide) (Nat.le_of_ble_eq_true rfl) (Nat.le_of_ble_eq_true rfl) (Nat.le_of_ble_eq_true rfl) dX13_init_998 (fun q_562 cA_563 H hK hP hD hS => ?_)
  obtain ⟨qs_564, eqs_564⟩ : ∃ z : List Nat, z = qs_559 ++ [q_562] := ⟨_, rfl⟩
  obtain ⟨cs_565, ecs_565⟩ : ∃ z : List ClassId, z = cs_560 ++ [cA_563] := ⟨_, rfl⟩
  have hqs_564 : qs_564.length = 113 := by rw [eqs_564]; exact zl_snoc hqs_559
  have hcs_565 : cs_565.length = 113 := by rw [ecs_565]; exact zl_snoc hcs_560
  have hP : va_P (dC, dI) vwCl ((h0, .inr (15, f_561)) :: zarr qs_564 cs_565) H := by rw [eqs_564, ecs_565, zarr_snoc hqs_559 hcs_560]; exact hP
  have hD : va_D A ((h0, .inr (15, f_561)) :: zarr qs_564 cs_565) := by rw [eqs_564, ecs_565, zarr_snoc hqs_559 hcs_560]; exact hD
  have hK : va_K (dC, dI) vwCl (ztys cs_565) s := by rw [ecs_565, ztys_snoc hcs_560]; exact hK
  refine W.widen (k := 113) (n := 2089703) (Nat.le_of_ble_eq_true rfl) (Nat.le_of_ble_eq_true rfl) ?_
  refine va_putF (D := (dC, dI)) (ci := 15) (v := .ref q_562) (ty := .array .int) (C := RX13) (T := TX13) (N := 196) hx hb hts iw_X13_init_X13 tyX13 tyX13_ok nmX13 hown hK hP hD hS 0 rfl rfl 175 (by decide) (hts (.fieldLink RX13 356 "LiquidTongueModel" "fMany" "[I") (by decide +kernel)) (fun _ h9 => h9) rfl hin rfl (by decide +kernel) rfl rfl (zs_lt hlf_561 (by decide)) dX13_init_1000 (fun H locs hP hD hS => ?_)
  obtain ⟨f_566, ef_566⟩ : ∃ z : List Value, z = f_561.set 175 (.ref q_562) := ⟨_, rfl⟩
  have hlf_566 : f_566.length = 196 := by rw [ef_566]; exact zs_len hlf_561
  have gf_566 : f_566 = zput (fs.set 69 (.int (-1))) qs_564 := by rw [ef_566, gf_561, eqs_564, zput_snoc hqs_559]; rfl
  have hP : va_P (dC, dI) vwCl ((h0, .inr (15, f_566)) :: zarr qs_564 cs_565) H := by rw [ef_566]; exact hP
  have hD : va_D A ((h0, .inr (15, f_566)) :: zarr qs_564 cs_565) := by rw [ef_566]; exact hD
  refine lv_aload_n hx hb dX13_init_1003 rfl (lv_at hl 0 rfl) ?_
  refine lv_sipush (v := 21000) hx hb dX13_init_1004 (by decide) ?_
  refine va_newa (atype := .int) (ty := .int) (N' := 21000) (a0 := (21000, .inl (fun _ => 0))) hx hb (hts (.arrayClass .int) (by decide +kernel)) rfl hK hP hD hS hA (fun cA => rfl) (by decide) (by decide) (Nat.le_of_ble_eq_true rfl) (Nat.le_of_ble_eq_true rfl) (Nat.le_of_ble_eq_true rfl) dX13_init_1007 (fun q_567 cA_568 H hK hP hD hS => ?_)
  obtain ⟨qs_569, eqs_569⟩ : ∃ z : List Nat, z = qs_564 ++ [q_567] := ⟨_, rfl⟩
  obtain ⟨cs_570, ecs_570⟩ : ∃ z : List ClassId, z = cs_565 ++ [cA_568] := ⟨_, rfl⟩
  have hqs_569 : qs_569.length = 114 := by rw [eqs_569]; exact zl_snoc hqs_564
  have hcs_570 : cs_570.length = 114 := by rw [ecs_570]; exact zl_snoc hcs_565
  have hP : va_P (dC, dI) vwCl ((h0, .inr (15, f_566)) :: zarr qs_569 cs_570) H := by rw [eqs_569, ecs_570, zarr_snoc hqs_564 hcs_565]; exact hP
  have hD : va_D A ((h0, .inr (15, f_566)) :: zarr qs_569 cs_570) := by rw [eqs_569, ecs_570, zarr_snoc hqs_564 hcs_565]; exact hD
  have hK : va_K (dC, dI) vwCl (ztys cs_570) s := by rw [ecs_570, ztys_snoc hcs_565]; exact hK
  refine W.widen (k := 114) (n := 2110703) (Nat.le_of_ble_eq_true rfl) (Nat.le_of_ble_eq_true rfl) ?_
  refine va_putF (D := (dC, dI)) (ci := 15) (v := .ref q_567) (ty := .array .int) (C := RX13) (T := TX13) (N := 196) hx hb hts iw_X13_init_X13 tyX13 tyX13_ok nmX13 hown hK hP hD hS 0 rfl rfl 177 (by decide) (hts (.fieldLink RX13 359 "LiquidTongueModel" "yFrom" "[I") (by decide +kernel)) (fun _ h9 => h9) rfl hin rfl (by decide +kernel) rfl rfl (zs_lt hlf_566 (by decide)) dX13_init_1009 (fun H locs hP hD hS => ?_)
  obtain ⟨f_571, ef_571⟩ : ∃ z : List Value, z = f_566.set 177 (.ref q_567) := ⟨_, rfl⟩
  have hlf_571 : f_571.length = 196 := by rw [ef_571]; exact zs_len hlf_566
  have gf_571 : f_571 = zput (fs.set 69 (.int (-1))) qs_569 := by rw [ef_571, gf_566, eqs_569, zput_snoc hqs_564]; rfl
  have hP : va_P (dC, dI) vwCl ((h0, .inr (15, f_571)) :: zarr qs_569 cs_570) H := by rw [ef_571]; exact hP
  have hD : va_D A ((h0, .inr (15, f_571)) :: zarr qs_569 cs_570) := by rw [ef_571]; exact hD
  refine lv_aload_n hx hb dX13_init_1012 rfl (lv_at hl 0 rfl) ?_
  refine lv_sipush (v := 21000) hx hb dX13_init_1013 (by decide) ?_
  refine va_newa (atype := .int) (ty := .int) (N' := 21000) (a0 := (21000, .inl (fun _ => 0))) hx hb (hts (.arrayClass .int) (by decide +kernel)) rfl hK hP hD hS hA (fun cA => rfl) (by decide) (by decide) (Nat.le_of_ble_eq_true rfl) (Nat.le_of_ble_eq_true rfl) (Nat.le_of_ble_eq_true rfl) dX13_init_1016 (fun q_572 cA_573 H hK hP hD hS => ?_)
  obtain ⟨qs_574, eqs_574⟩ : ∃ z : List Nat, z = qs_569 ++ [q_572] := ⟨_, rfl⟩
  obtain ⟨cs_575, ecs_575⟩ : ∃ z : List ClassId, z = cs_570 ++ [cA_573] := ⟨_, rfl⟩
  have hqs_574 : qs_574.length = 115 := by rw [eqs_574]; exact zl_snoc hqs_569
  have hcs_575 : cs_575.length = 115 := by rw [ecs_575]; exact zl_snoc hcs_570
  have hP : va_P (dC, dI) vwCl ((h0, .inr (15, f_571)) :: zarr qs_574 cs_575) H := by rw [eqs_574, ecs_575, zarr_snoc hqs_569 hcs_570]; exact hP
  have hD : va_D A ((h0, .inr (15, f_571)) :: zarr qs_574 cs_575) := by rw [eqs_574, ecs_575, zarr_snoc hqs_569 hcs_570]; exact hD
  have hK : va_K (dC, dI) vwCl (ztys cs_575) s := by rw [ecs_575, ztys_snoc hcs_570]; exact hK
  refine W.widen (k := 115) (n := 2131703) (Nat.le_of_ble_eq_true rfl) (Nat.le_of_ble_eq_true rfl) ?_
  refine va_putF (D := (dC, dI)) (ci := 15) (v := .ref q_572) (ty := .array .int) (C := RX13) (T := TX13) (N := 196) hx hb hts iw_X13_init_X13 tyX13 tyX13_ok nmX13 hown hK hP hD hS 0 rfl rfl 178 (by decide) (hts (.fieldLink RX13 362 "LiquidTongueModel" "yLong" "[I") (by decide +kernel)) (fun _ h9 => h9) rfl hin rfl (by decide +kernel) rfl rfl (zs_lt hlf_571 (by decide)) dX13_init_1018 (fun H locs hP hD hS => ?_)
  obtain ⟨f_576, ef_576⟩ : ∃ z : List Value, z = f_571.set 178 (.ref q_572) := ⟨_, rfl⟩
  have hlf_576 : f_576.length = 196 := by rw [ef_576]; exact zs_len hlf_571
  have gf_576 : f_576 = zput (fs.set 69 (.int (-1))) qs_574 := by rw [ef_576, gf_571, eqs_574, zput_snoc hqs_569]; rfl
  have hP : va_P (dC, dI) vwCl ((h0, .inr (15, f_576)) :: zarr qs_574 cs_575) H := by rw [ef_576]; exact hP
  have hD : va_D A ((h0, .inr (15, f_576)) :: zarr qs_574 cs_575) := by rw [ef_576]; exact hD
  refine lv_aload_n hx hb dX13_init_1021 rfl (lv_at hl 0 rfl) ?_
  refine lv_sipush (v := 11000) hx hb dX13_init_1022 (by decide) ?_
  refine va_newa (atype := .long) (ty := .long) (N' := 11000) (a0 := (11000, .inr (.inl (fun _ => 0)))) hx hb (hts (.arrayClass .long) (by decide +kernel)) rfl hK hP hD hS hA (fun cA => rfl) (by decide) (by decide) (Nat.le_of_ble_eq_true rfl) (Nat.le_of_ble_eq_true rfl) (Nat.le_of_ble_eq_true rfl) dX13_init_1025 (fun q_577 cA_578 H hK hP hD hS => ?_)
  obtain ⟨qs_579, eqs_579⟩ : ∃ z : List Nat, z = qs_574 ++ [q_577] := ⟨_, rfl⟩
  obtain ⟨cs_580, ecs_580⟩ : ∃ z : List ClassId, z = cs_575 ++ [cA_578] := ⟨_, rfl⟩
  have hqs_579 : qs_579.length = 116 := by rw [eqs_579]; exact zl_snoc hqs_574
  have hcs_580 : cs_580.length = 116 := by rw [ecs_580]; exact zl_snoc hcs_575
  have hP : va_P (dC, dI) vwCl ((h0, .inr (15, f_576)) :: zarr qs_579 cs_580) H := by rw [eqs_579, ecs_580, zarr_snoc hqs_574 hcs_575]; exact hP
  have hD : va_D A ((h0, .inr (15, f_576)) :: zarr qs_579 cs_580) := by rw [eqs_579, ecs_580, zarr_snoc hqs_574 hcs_575]; exact hD
  have hK : va_K (dC, dI) vwCl (ztys cs_580) s := by rw [ecs_580, ztys_snoc hcs_575]; exact hK
  refine W.widen (k := 116) (n := 2142703) (Nat.le_of_ble_eq_true rfl) (Nat.le_of_ble_eq_true rfl) ?_
  refine va_putF (D := (dC, dI)) (ci := 15) (v := .ref q_577) (ty := .array .long) (C := RX13) (T := TX13) (N := 196) hx hb hts iw_X13_init_X13 tyX13 tyX13_ok nmX13 hown hK hP hD hS 0 rfl rfl 179 (by decide) (hts (.fieldLink RX13 365 "LiquidTongueModel" "heap" "[J") (by decide +kernel)) (fun _ h9 => h9) rfl hin rfl (by decide +kernel) rfl rfl (zs_lt hlf_576 (by decide)) dX13_init_1027 (fun H locs hP hD hS => ?_)
  obtain ⟨f_581, ef_581⟩ : ∃ z : List Value, z = f_576.set 179 (.ref q_577) := ⟨_, rfl⟩
  have hlf_581 : f_581.length = 196 := by rw [ef_581]; exact zs_len hlf_576
  have gf_581 : f_581 = zput (fs.set 69 (.int (-1))) qs_579 := by rw [ef_581, gf_576, eqs_579, zput_snoc hqs_574]; rfl
  have hP : va_P (dC, dI) vwCl ((h0, .inr (15, f_581)) :: zarr qs_579 cs_580) H := by rw [ef_581]; exact hP
  have hD : va_D A ((h0, .inr (15, f_581)) :: zarr qs_579 cs_580) := by rw [ef_581]; exact hD
  refine lv_aload_n hx hb dX13_init_1030 rfl (lv_at hl 0 rfl) ?_
  refine lv_sipush (v := 20000) hx hb dX13_init_1031 (by decide) ?_
  refine va_newa (atype := .int) (ty := .int) (N' := 20000) (a0 := (20000, .inl (fun _ => 0))) hx hb (hts (.arrayClass .int) (by decide +kernel)) rfl hK hP hD hS hA (fun cA => rfl) (by decide) (by decide) (Nat.le_of_ble_eq_true rfl) (Nat.le_of_ble_eq_true rfl) (Nat.le_of_ble_eq_true rfl) dX13_init_1034 (fun q_582 cA_583 H hK hP hD hS => ?_)
  obtain ⟨qs_584, eqs_584⟩ : ∃ z : List Nat, z = qs_579 ++ [q_582] := ⟨_, rfl⟩
  obtain ⟨cs_585, ecs_585⟩ : ∃ z : List ClassId, z = cs_580 ++ [cA_583] := ⟨_, rfl⟩
  have hqs_584 : qs_584.length = 117 := by rw [eqs_584]; exact zl_snoc hqs_579
  have hcs_585 : cs_585.length = 117 := by rw [ecs_585]; exact zl_snoc hcs_580
  have hP : va_P (dC, dI) vwCl ((h0, .inr (15, f_581)) :: zarr qs_584 cs_585) H := by rw [eqs_584, ecs_585, zarr_snoc hqs_579 hcs_580]; exact hP
  have hD : va_D A ((h0, .inr (15, f_581)) :: zarr qs_584 cs_585) := by rw [eqs_584, ecs_585, zarr_snoc hqs_579 hcs_580]; exact hD
  have hK : va_K (dC, dI) vwCl (ztys cs_585) s := by rw [ecs_585, ztys_snoc hcs_580]; exact hK
  refine W.widen (k := 117) (n := 2162703) (Nat.le_of_ble_eq_true rfl) (Nat.le_of_ble_eq_true rfl) ?_
  refine va_putF (D := (dC, dI)) (ci := 15) (v := .ref q_582) (ty := .array .int) (C := RX13) (T := TX13) (N := 196) hx hb hts iw_X13_init_X13 tyX13 tyX13_ok nmX13 hown hK hP hD hS 0 rfl rfl 182 (by decide) (hts (.fieldLink RX13 368 "LiquidTongueModel" "doKind" "[I") (by decide +kernel)) (fun _ h9 => h9) rfl hin rfl (by decide +kernel) rfl rfl (zs_lt hlf_581 (by decide)) dX13_init_1036 (fun H locs hP hD hS => ?_)
  obtain ⟨f_586, ef_586⟩ : ∃ z : List Value, z = f_581.set 182 (.ref q_582) := ⟨_, rfl⟩
  have hlf_586 : f_586.length = 196 := by rw [ef_586]; exact zs_len hlf_581
  have gf_586 : f_586 = zput (fs.set 69 (.int (-1))) qs_584 := by rw [ef_586, gf_581, eqs_584, zput_snoc hqs_579]; rfl
  have hP : va_P (dC, dI) vwCl ((h0, .inr (15, f_586)) :: zarr qs_584 cs_585) H := by rw [ef_586]; exact hP
  have hD : va_D A ((h0, .inr (15, f_586)) :: zarr qs_584 cs_585) := by rw [ef_586]; exact hD
  refine lv_aload_n hx hb dX13_init_1039 rfl (lv_at hl 0 rfl) ?_
  refine lv_sipush (v := 20000) hx hb dX13_init_1040 (by decide) ?_
  refine va_newa (atype := .int) (ty := .int) (N' := 20000) (a0 := (20000, .inl (fun _ => 0))) hx hb (hts (.arrayClass .int) (by decide +kernel)) rfl hK hP hD hS hA (fun cA => rfl) (by decide) (by decide) (Nat.le_of_ble_eq_true rfl) (Nat.le_of_ble_eq_true rfl) (Nat.le_of_ble_eq_true rfl) dX13_init_1043 (fun q_587 cA_588 H hK hP hD hS => ?_)
  obtain ⟨qs_589, eqs_589⟩ : ∃ z : List Nat, z = qs_584 ++ [q_587] := ⟨_, rfl⟩
  obtain ⟨cs_590, ecs_590⟩ : ∃ z : List ClassId, z = cs_585 ++ [cA_588] := ⟨_, rfl⟩
  have hqs_589 : qs_589.length = 118 := by rw [eqs_589]; exact zl_snoc hqs_584
  have hcs_590 : cs_590.length = 118 := by rw [ecs_590]; exact zl_snoc hcs_585
  have hP : va_P (dC, dI) vwCl ((h0, .inr (15, f_586)) :: zarr qs_589 cs_590) H := by rw [eqs_589, ecs_590, zarr_snoc hqs_584 hcs_585]; exact hP
  have hD : va_D A ((h0, .inr (15, f_586)) :: zarr qs_589 cs_590) := by rw [eqs_589, ecs_590, zarr_snoc hqs_584 hcs_585]; exact hD
  have hK : va_K (dC, dI) vwCl (ztys cs_590) s := by rw [ecs_590, ztys_snoc hcs_585]; exact hK
  refine W.widen (k := 118) (n := 2182703) (Nat.le_of_ble_eq_true rfl) (Nat.le_of_ble_eq_true rfl) ?_
  refine va_putF (D := (dC, dI)) (ci := 15) (v := .ref q_587) (ty := .array .int) (C := RX13) (T := TX13) (N := 196) hx hb hts iw_X13_init_X13 tyX13 tyX13_ok nmX13 hown hK hP hD hS 0 rfl rfl 183 (by decide) (hts (.fieldLink RX13 371 "LiquidTongueModel" "doWhat" "[I") (by decide +kernel)) (fun _ h9 => h9) rfl hin rfl (by decide +kernel) rfl rfl (zs_lt hlf_586 (by decide)) dX13_init_1045 (fun H locs hP hD hS => ?_)
  obtain ⟨f_591, ef_591⟩ : ∃ z : List Value, z = f_586.set 183 (.ref q_587) := ⟨_, rfl⟩
  have hlf_591 : f_591.length = 196 := by rw [ef_591]; exact zs_len hlf_586
  have gf_591 : f_591 = zput (fs.set 69 (.int (-1))) qs_589 := by rw [ef_591, gf_586, eqs_589, zput_snoc hqs_584]; rfl
  have hP : va_P (dC, dI) vwCl ((h0, .inr (15, f_591)) :: zarr qs_589 cs_590) H := by rw [ef_591]; exact hP
  have hD : va_D A ((h0, .inr (15, f_591)) :: zarr qs_589 cs_590) := by rw [ef_591]; exact hD
  refine lv_aload_n hx hb dX13_init_1048 rfl (lv_at hl 0 rfl) ?_
  refine lv_sipush (v := 20000) hx hb dX13_init_1049 (by decide) ?_
  refine va_newa (atype := .int) (ty := .int) (N' := 20000) (a0 := (20000, .inl (fun _ => 0))) hx hb (hts (.arrayClass .int) (by decide +kernel)) rfl hK hP hD hS hA (fun cA => rfl) (by decide) (by decide) (Nat.le_of_ble_eq_true rfl) (Nat.le_of_ble_eq_true rfl) (Nat.le_of_ble_eq_true rfl) dX13_init_1052 (fun q_592 cA_593 H hK hP hD hS => ?_)
  obtain ⟨qs_594, eqs_594⟩ : ∃ z : List Nat, z = qs_589 ++ [q_592] := ⟨_, rfl⟩
  obtain ⟨cs_595, ecs_595⟩ : ∃ z : List ClassId, z = cs_590 ++ [cA_593] := ⟨_, rfl⟩
  have hqs_594 : qs_594.length = 119 := by rw [eqs_594]; exact zl_snoc hqs_589
  have hcs_595 : cs_595.length = 119 := by rw [ecs_595]; exact zl_snoc hcs_590
  have hP : va_P (dC, dI) vwCl ((h0, .inr (15, f_591)) :: zarr qs_594 cs_595) H := by rw [eqs_594, ecs_595, zarr_snoc hqs_589 hcs_590]; exact hP
  have hD : va_D A ((h0, .inr (15, f_591)) :: zarr qs_594 cs_595) := by rw [eqs_594, ecs_595, zarr_snoc hqs_589 hcs_590]; exact hD
  have hK : va_K (dC, dI) vwCl (ztys cs_595) s := by rw [ecs_595, ztys_snoc hcs_590]; exact hK
  refine W.widen (k := 119) (n := 2202703) (Nat.le_of_ble_eq_true rfl) (Nat.le_of_ble_eq_true rfl) ?_
  refine va_putF (D := (dC, dI)) (ci := 15) (v := .ref q_592) (ty := .array .int) (C := RX13) (T := TX13) (N := 196) hx hb hts iw_X13_init_X13 tyX13 tyX13_ok nmX13 hown hK hP hD hS 0 rfl rfl 184 (by decide) (hts (.fieldLink RX13 374 "LiquidTongueModel" "doSlots" "[I") (by decide +kernel)) (fun _ h9 => h9) rfl hin rfl (by decide +kernel) rfl rfl (zs_lt hlf_591 (by decide)) dX13_init_1054 (fun H locs hP hD hS => ?_)
  obtain ⟨f_596, ef_596⟩ : ∃ z : List Value, z = f_591.set 184 (.ref q_592) := ⟨_, rfl⟩
  have hlf_596 : f_596.length = 196 := by rw [ef_596]; exact zs_len hlf_591
  have gf_596 : f_596 = zput (fs.set 69 (.int (-1))) qs_594 := by rw [ef_596, gf_591, eqs_594, zput_snoc hqs_589]; rfl
  have hP : va_P (dC, dI) vwCl ((h0, .inr (15, f_596)) :: zarr qs_594 cs_595) H := by rw [ef_596]; exact hP
  have hD : va_D A ((h0, .inr (15, f_596)) :: zarr qs_594 cs_595) := by rw [ef_596]; exact hD
  refine lv_aload_n hx hb dX13_init_1057 rfl (lv_at hl 0 rfl) ?_
  refine lv_sipush (v := 20001) hx hb dX13_init_1058 (by decide) ?_
  refine va_newa (atype := .long) (ty := .long) (N' := 20001) (a0 := (20001, .inr (.inl (fun _ => 0)))) hx hb (hts (.arrayClass .long) (by decide +kernel)) rfl hK hP hD hS hA (fun cA => rfl) (by decide) (by decide) (Nat.le_of_ble_eq_true rfl) (Nat.le_of_ble_eq_true rfl) (Nat.le_of_ble_eq_true rfl) dX13_init_1061 (fun q_597 cA_598 H hK hP hD hS => ?_)
  obtain ⟨qs_599, eqs_599⟩ : ∃ z : List Nat, z = qs_594 ++ [q_597] := ⟨_, rfl⟩
  obtain ⟨cs_600, ecs_600⟩ : ∃ z : List ClassId, z = cs_595 ++ [cA_598] := ⟨_, rfl⟩
  have hqs_599 : qs_599.length = 120 := by rw [eqs_599]; exact zl_snoc hqs_594
  have hcs_600 : cs_600.length = 120 := by rw [ecs_600]; exact zl_snoc hcs_595
  have hP : va_P (dC, dI) vwCl ((h0, .inr (15, f_596)) :: zarr qs_599 cs_600) H := by rw [eqs_599, ecs_600, zarr_snoc hqs_594 hcs_595]; exact hP
  have hD : va_D A ((h0, .inr (15, f_596)) :: zarr qs_599 cs_600) := by rw [eqs_599, ecs_600, zarr_snoc hqs_594 hcs_595]; exact hD
  have hK : va_K (dC, dI) vwCl (ztys cs_600) s := by rw [ecs_600, ztys_snoc hcs_595]; exact hK
  refine W.widen (k := 120) (n := 2222704) (Nat.le_of_ble_eq_true rfl) (Nat.le_of_ble_eq_true rfl) ?_
  refine va_putF (D := (dC, dI)) (ci := 15) (v := .ref q_597) (ty := .array .long) (C := RX13) (T := TX13) (N := 196) hx hb hts iw_X13_init_X13 tyX13 tyX13_ok nmX13 hown hK hP hD hS 0 rfl rfl 185 (by decide) (hts (.fieldLink RX13 377 "LiquidTongueModel" "cellFirst" "[J") (by decide +kernel)) (fun _ h9 => h9) rfl hin rfl (by decide +kernel) rfl rfl (zs_lt hlf_596 (by decide)) dX13_init_1063 (fun H locs hP hD hS => ?_)
  obtain ⟨f_601, ef_601⟩ : ∃ z : List Value, z = f_596.set 185 (.ref q_597) := ⟨_, rfl⟩
  have hlf_601 : f_601.length = 196 := by rw [ef_601]; exact zs_len hlf_596
  have gf_601 : f_601 = zput (fs.set 69 (.int (-1))) qs_599 := by rw [ef_601, gf_596, eqs_599, zput_snoc hqs_594]; rfl
  have hP : va_P (dC, dI) vwCl ((h0, .inr (15, f_601)) :: zarr qs_599 cs_600) H := by rw [ef_601]; exact hP
  have hD : va_D A ((h0, .inr (15, f_601)) :: zarr qs_599 cs_600) := by rw [ef_601]; exact hD
  refine lv_aload_n hx hb dX13_init_1066 rfl (lv_at hl 0 rfl) ?_
  refine lv_sipush (v := 20001) hx hb dX13_init_1067 (by decide) ?_
  refine va_newa (atype := .int) (ty := .int) (N' := 20001) (a0 := (20001, .inl (fun _ => 0))) hx hb (hts (.arrayClass .int) (by decide +kernel)) rfl hK hP hD hS hA (fun cA => rfl) (by decide) (by decide) (Nat.le_of_ble_eq_true rfl) (Nat.le_of_ble_eq_true rfl) (Nat.le_of_ble_eq_true rfl) dX13_init_1070 (fun q_602 cA_603 H hK hP hD hS => ?_)
  obtain ⟨qs_604, eqs_604⟩ : ∃ z : List Nat, z = qs_599 ++ [q_602] := ⟨_, rfl⟩
  obtain ⟨cs_605, ecs_605⟩ : ∃ z : List ClassId, z = cs_600 ++ [cA_603] := ⟨_, rfl⟩
  have hqs_604 : qs_604.length = 121 := by rw [eqs_604]; exact zl_snoc hqs_599
  have hcs_605 : cs_605.length = 121 := by rw [ecs_605]; exact zl_snoc hcs_600
  have hP : va_P (dC, dI) vwCl ((h0, .inr (15, f_601)) :: zarr qs_604 cs_605) H := by rw [eqs_604, ecs_605, zarr_snoc hqs_599 hcs_600]; exact hP
  have hD : va_D A ((h0, .inr (15, f_601)) :: zarr qs_604 cs_605) := by rw [eqs_604, ecs_605, zarr_snoc hqs_599 hcs_600]; exact hD
  have hK : va_K (dC, dI) vwCl (ztys cs_605) s := by rw [ecs_605, ztys_snoc hcs_600]; exact hK
  refine W.widen (k := 121) (n := 2242705) (Nat.le_of_ble_eq_true rfl) (Nat.le_of_ble_eq_true rfl) ?_
  refine va_putF (D := (dC, dI)) (ci := 15) (v := .ref q_602) (ty := .array .int) (C := RX13) (T := TX13) (N := 196) hx hb hts iw_X13_init_X13 tyX13 tyX13_ok nmX13 hown hK hP hD hS 0 rfl rfl 186 (by decide) (hts (.fieldLink RX13 380 "LiquidTongueModel" "cellRest" "[I") (by decide +kernel)) (fun _ h9 => h9) rfl hin rfl (by decide +kernel) rfl rfl (zs_lt hlf_601 (by decide)) dX13_init_1072 (fun H locs hP hD hS => ?_)
  obtain ⟨f_606, ef_606⟩ : ∃ z : List Value, z = f_601.set 186 (.ref q_602) := ⟨_, rfl⟩
  have hlf_606 : f_606.length = 196 := by rw [ef_606]; exact zs_len hlf_601
  have gf_606 : f_606 = zput (fs.set 69 (.int (-1))) qs_604 := by rw [ef_606, gf_601, eqs_604, zput_snoc hqs_599]; rfl
  have hP : va_P (dC, dI) vwCl ((h0, .inr (15, f_606)) :: zarr qs_604 cs_605) H := by rw [ef_606]; exact hP
  have hD : va_D A ((h0, .inr (15, f_606)) :: zarr qs_604 cs_605) := by rw [ef_606]; exact hD
  refine lv_aload_n hx hb dX13_init_1075 rfl (lv_at hl 0 rfl) ?_
  refine lv_sipush (v := 20001) hx hb dX13_init_1076 (by decide) ?_
  refine va_newa (atype := .int) (ty := .int) (N' := 20001) (a0 := (20001, .inl (fun _ => 0))) hx hb (hts (.arrayClass .int) (by decide +kernel)) rfl hK hP hD hS hA (fun cA => rfl) (by decide) (by decide) (Nat.le_of_ble_eq_true rfl) (Nat.le_of_ble_eq_true rfl) (Nat.le_of_ble_eq_true rfl) dX13_init_1079 (fun q_607 cA_608 H hK hP hD hS => ?_)
  obtain ⟨qs_609, eqs_609⟩ : ∃ z : List Nat, z = qs_604 ++ [q_607] := ⟨_, rfl⟩
  obtain ⟨cs_610, ecs_610⟩ : ∃ z : List ClassId, z = cs_605 ++ [cA_608] := ⟨_, rfl⟩
  have hqs_609 : qs_609.length = 122 := by rw [eqs_609]; exact zl_snoc hqs_604
  have hcs_610 : cs_610.length = 122 := by rw [ecs_610]; exact zl_snoc hcs_605
  have hP : va_P (dC, dI) vwCl ((h0, .inr (15, f_606)) :: zarr qs_609 cs_610) H := by rw [eqs_609, ecs_610, zarr_snoc hqs_604 hcs_605]; exact hP
  have hD : va_D A ((h0, .inr (15, f_606)) :: zarr qs_609 cs_610) := by rw [eqs_609, ecs_610, zarr_snoc hqs_604 hcs_605]; exact hD
  have hK : va_K (dC, dI) vwCl (ztys cs_610) s := by rw [ecs_610, ztys_snoc hcs_605]; exact hK
  refine W.widen (k := 122) (n := 2262706) (Nat.le_of_ble_eq_true rfl) (Nat.le_of_ble_eq_true rfl) ?_
  refine va_putF (D := (dC, dI)) (ci := 15) (v := .ref q_607) (ty := .array .int) (C := RX13) (T := TX13) (N := 196) hx hb hts iw_X13_init_X13 tyX13 tyX13_ok nmX13 hown hK hP hD hS 0 rfl rfl 187 (by decide) (hts (.fieldLink RX13 383 "LiquidTongueModel" "cellMany" "[I") (by decide +kernel)) (fun _ h9 => h9) rfl hin rfl (by decide +kernel) rfl rfl (zs_lt hlf_606 (by decide)) dX13_init_1081 (fun H locs hP hD hS => ?_)
  obtain ⟨f_611, ef_611⟩ : ∃ z : List Value, z = f_606.set 187 (.ref q_607) := ⟨_, rfl⟩
  have hlf_611 : f_611.length = 196 := by rw [ef_611]; exact zs_len hlf_606
  have gf_611 : f_611 = zput (fs.set 69 (.int (-1))) qs_609 := by rw [ef_611, gf_606, eqs_609, zput_snoc hqs_604]; rfl
  have hP : va_P (dC, dI) vwCl ((h0, .inr (15, f_611)) :: zarr qs_609 cs_610) H := by rw [ef_611]; exact hP
  have hD : va_D A ((h0, .inr (15, f_611)) :: zarr qs_609 cs_610) := by rw [ef_611]; exact hD
  have hP9 : va_P (dC, dI) vwCl ((h0, .inr (15, zput (fs.set 69 (.int (-1))) qs_609)) :: zarr qs_609 cs_610) H := by rw [← gf_611]; exact hP
  have hD9 : va_D A ((h0, .inr (15, zput (fs.set 69 (.int (-1))) qs_609)) :: zarr qs_609 cs_610) := by rw [← gf_611]; exact hD
  exact W.vret hx hb hr (fun t ht hW => ⟨⟨(qs_609, cs_610), rfl, ⟨hqs_609, hcs_610⟩, (zB_mk (by rw [ht]; exact hP9) (va_K.moved hW.alike hK) hD9)⟩, hS.F ht⟩) hS.2.2 dX13_init_1084
