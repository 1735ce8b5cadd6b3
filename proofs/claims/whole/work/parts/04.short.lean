/-! the short methods of the class and of the reference: place, fuel, value, end, out -/
theorem iw_X12_place_X12 : ∀ w ∈ wsX120, w ∈ wsX12_place := fun w h => List.mem_cons_of_mem _ (List.mem_append_right _ h)
set_option maxHeartbeats 4000000 in
set_option maxRecDepth 100000 in
/-- place(): the field -/
theorem c_X12_place (l : Launch) (dC : Nat → ClassId) (dI : Nat → Nat → Nat) (sz : Nat) (h0 : Nat) (fs : List Value) (n : Int32) (hfl : fs.length = 13) (hf : fs[5]? = some (.int n)) : Met l yX12_place wsX12_place ({ frames := 0, cells := 0, slots := 0, locals := 0 }) (zPc dC dI sz [.ref h0] [(h0, .inr (14, fs))] []) (va_Qi (fun (r : Int32) (u : List Value) => r = n ∧ u = fs) (zB dC dI (fun _ => []) (fun g : List Value => [(h0, .inr (14, g))]) (va_A [(h0, .inr (14, fs))] sz)) (va_A [(h0, .inr (14, fs))] sz)) 0 0 (va_A [(h0, .inr (14, fs))] sz) := by
  refine Met.ofW (cc := cX12_place) (maxL := 1) (ret := (some .int)) (by decide) rfl ?_
  intro p e s m args below meth c s₁ B hml hv
  obtain ⟨rfl, hsz, hP, hK, hD0⟩ := hv
  have hx := B.exec
  have hb := B.bytes
  have hr := B.returns
  have hts := atoms_spec (ws := wsX12_place) B.pre
  have hown : s.vm.findClass RX12 = some m.cls := findClass_of_methodNamed B.named
  have hlocks := B.notSynchronized
  subst hsz
  have hD := hD0.self (sz := s.heap.size)
  generalize hAe : va_A [(h0, .inr (14, fs))] s.heap.size = A at hD ⊢
  have hA : ∀ q : Nat, s.heap.size ≤ q → A q := fun q h => by rw [← hAe]; exact Or.inr h
  have hS : va_S A s.heap s.heap [] := va_S.rf
  have hP : va_P (dC, dI) vwCl [(h0, .inr (14, fs))] s.heap := hP
  have hl := lv_entry ([.ref h0]) (n := 1) (Nat.le_of_ble_eq_true rfl)
  rw [lg_entry_eq]
  generalize (lg_sl ([.ref h0]) ++ List.replicate (1 - (lg_sl ([.ref h0])).length) Slot.unset).toArray = ls at hl ⊢
  have hl : lv_has ls 1 [(0, .ref h0)] := hl
  refine lv_aload_n hx hb dX12_place_0 rfl (lv_at hl 0 rfl) ?_
  refine va_get (D := (dC, dI)) (ci := 14) (v := .int n) (C := RX12) (T := TX12) (N := 13) hx hb hts iw_X12_place_X12 hown hK hP 0 rfl rfl 5 (by decide) (hts (.fieldLink RX12 13 "LiquidTongue" "place" "I") (by decide +kernel)) (fun _ h9 => h9) hf dX12_place_1 ?_
  have hP9 := hP.sub (ws' := [(h0, .inr (14, fs))]) [0] rfl
  have hD9 := hD.sub (ws' := [(h0, .inr (14, fs))]) [0] (by decide) rfl
  have hK9 := hK.sub (tys' := []) [] rfl
  exact W.iret (v := n) hx hb hr (fun t ht hW => ⟨⟨n, fs, rfl, ⟨rfl, rfl⟩, (zB_mk (by rw [ht]; exact hP9) (va_K.moved hW.alike hK9) hD9)⟩, hS.F ht⟩) hS.2.2 dX12_place_4
theorem iw_X12_end_X12 : ∀ w ∈ wsX120, w ∈ wsX12_end := fun w h => List.mem_cons_of_mem _ (List.mem_append_right _ h)
set_option maxHeartbeats 4000000 in
set_option maxRecDepth 100000 in
/-- end(n): refused below 0 and beyond the tape; else the tape has n bytes -/
theorem c_X12_end (l : Launch) (dC : Nat → ClassId) (dI : Nat → Nat → Nat) (sz : Nat) (h0 : Nat) (fs : List Value) (n p0 : Int32) (hfl : fs.length = 13) (hf : fs[1]? = some (.int n)) : Met l yX12_end wsX12_end ({ frames := 0, cells := 0, slots := 0, locals := 0 }) (zPc dC dI sz [.ref h0, .int p0] [(h0, .inr (14, fs))] []) (va_Qi (fun (r : Int32) (u : List Value) => (¬ p0 < 0 ∧ p0 ≤ n ∧ r = 1 ∧ u = fs.set 1 (.int p0)) ∨ ((p0 < 0 ∨ ¬ p0 ≤ n) ∧ r = 0 ∧ u = fs)) (zB dC dI (fun _ => []) (fun g : List Value => [(h0, .inr (14, g))]) (va_A [(h0, .inr (14, fs))] sz)) (va_A [(h0, .inr (14, fs))] sz)) 0 0 (va_A [(h0, .inr (14, fs))] sz) := by
  refine Met.ofW (cc := cX12_end) (maxL := 2) (ret := (some .boolean)) (by decide) rfl ?_
  intro p e s m args below meth c s₁ B hml hv
  obtain ⟨rfl, hsz, hP, hK, hD0⟩ := hv
  have hx := B.exec
  have hb := B.bytes
  have hr := B.returns
  have hts := atoms_spec (ws := wsX12_end) B.pre
  have hown : s.vm.findClass RX12 = some m.cls := findClass_of_methodNamed B.named
  have hlocks := B.notSynchronized
  subst hsz
  have hD := hD0.self (sz := s.heap.size)
  generalize hAe : va_A [(h0, .inr (14, fs))] s.heap.size = A at hD ⊢
  have hA : ∀ q : Nat, s.heap.size ≤ q → A q := fun q h => by rw [← hAe]; exact Or.inr h
  have hS : va_S A s.heap s.heap [] := va_S.rf
  have hP : va_P (dC, dI) vwCl [(h0, .inr (14, fs))] s.heap := hP
  have hl := lv_entry ([.ref h0, .int p0]) (n := 2) (Nat.le_of_ble_eq_true rfl)
  rw [lg_entry_eq]
  generalize (lg_sl ([.ref h0, .int p0]) ++ List.replicate (2 - (lg_sl ([.ref h0, .int p0])).length) Slot.unset).toArray = ls at hl ⊢
  have hl : lv_has ls 2 [(0, .ref h0), (1, .int p0)] := hl
  refine lv_iload_n hx hb dX12_end_0 rfl (lv_at hl 1 rfl) ?_
  refine lv_if_lt (tgt := 12) hx hb dX12_end_1 (by decide) (fun c_1 => ?_) (fun c_1 => ?_)
  · refine lv_iconst (v := 0) hx hb dX12_end_12 (by decide) ?_
    have hP9 := hP.sub (ws' := [(h0, .inr (14, fs))]) [0] rfl
    have hD9 := hD.sub (ws' := [(h0, .inr (14, fs))]) [0] (by decide) rfl
    have hK9 := hK.sub (tys' := []) [] rfl
    exact W.zret (v := 0) hx hb hr (by first | rfl | decide) (fun t ht hW => ⟨⟨0, fs, rfl, Or.inr ⟨by first | exact Or.inl (by assumption) | exact Or.inr (by assumption), rfl, rfl⟩, (zB_mk (by rw [ht]; exact hP9) (va_K.moved hW.alike hK9) hD9)⟩, hS.F ht⟩) hS.2.2 dX12_end_13
  · refine lv_iload_n hx hb dX12_end_4 rfl (lv_at hl 1 rfl) ?_
    refine lv_aload_n hx hb dX12_end_5 rfl (lv_at hl 0 rfl) ?_
    refine va_get (D := (dC, dI)) (ci := 14) (v := .int n) (C := RX12) (T := TX12) (N := 13) hx hb hts iw_X12_end_X12 hown hK hP 0 rfl rfl 1 (by decide) (hts (.fieldLink RX12 44 "LiquidTongue" "tapeLength" "I") (by decide +kernel)) (fun _ h9 => h9) hf dX12_end_6 ?_
    refine lv_icmp_le (tgt := 14) hx hb dX12_end_9 (by decide) (fun c_9 => ?_) (fun c_9 => ?_)
    · refine lv_aload_n hx hb dX12_end_14 rfl (lv_at hl 0 rfl) ?_
      refine lv_iload_n hx hb dX12_end_15 rfl (lv_at hl 1 rfl) ?_
      refine va_put (D := (dC, dI)) (ci := 14) (v := .int p0) (ty := .int) (C := RX12) (T := TX12) (N := 13) hx hb hts iw_X12_end_X12 tyX12 tyX12_ok nmX12 hown hK hP hD hS 0 rfl rfl 1 (by decide) (hts (.fieldLink RX12 44 "LiquidTongue" "tapeLength" "I") (by decide +kernel)) (fun _ h9 => h9) rfl (by decide +kernel) rfl rfl (zs_lt hfl (by decide)) dX12_end_16 (fun H locs hP hD hS => ?_)
      have hP : va_P (dC, dI) vwCl [(h0, .inr (14, (fs.set 1 (.int p0))))] H := hP
      have hD : va_D A [(h0, .inr (14, (fs.set 1 (.int p0))))] := hD
      refine lv_iconst (v := 1) hx hb dX12_end_19 (by decide) ?_
      have hP9 := hP.sub (ws' := [(h0, .inr (14, (fs.set 1 (.int p0))))]) [0] rfl
      have hD9 := hD.sub (ws' := [(h0, .inr (14, (fs.set 1 (.int p0))))]) [0] (by decide) rfl
      have hK9 := hK.sub (tys' := []) [] rfl
      exact W.zret (v := 1) hx hb hr (by first | rfl | decide) (fun t ht hW => ⟨⟨1, fs.set 1 (.int p0), rfl, Or.inl ⟨by assumption, by assumption, rfl, rfl⟩, (zB_mk (by rw [ht]; exact hP9) (va_K.moved hW.alike hK9) hD9)⟩, hS.F ht⟩) hS.2.2 dX12_end_20
    · refine lv_iconst (v := 0) hx hb dX12_end_12 (by decide) ?_
      have hP9 := hP.sub (ws' := [(h0, .inr (14, fs))]) [0] rfl
      have hD9 := hD.sub (ws' := [(h0, .inr (14, fs))]) [0] (by decide) rfl
      have hK9 := hK.sub (tys' := []) [] rfl
      exact W.zret (v := 0) hx hb hr (by first | rfl | decide) (fun t ht hW => ⟨⟨0, fs, rfl, Or.inr ⟨by first | exact Or.inl (by assumption) | exact Or.inr (by assumption), rfl, rfl⟩, (zB_mk (by rw [ht]; exact hP9) (va_K.moved hW.alike hK9) hD9)⟩, hS.F ht⟩) hS.2.2 dX12_end_13
theorem iw_X13_place_X13 : ∀ w ∈ wsX130, w ∈ wsX13_place := fun w h => List.mem_cons_of_mem _ (List.mem_append_right _ h)
set_option maxHeartbeats 4000000 in
set_option maxRecDepth 100000 in
/-- place(): the field -/
theorem c_X13_place (l : Launch) (dC : Nat → ClassId) (dI : Nat → Nat → Nat) (sz : Nat) (h0 : Nat) (fs : List Value) (n : Int32) (hfl : fs.length = 196) (hf : fs[69]? = some (.int n)) : Met l yX13_place wsX13_place ({ frames := 0, cells := 0, slots := 0, locals := 0 }) (zPc dC dI sz [.ref h0] [(h0, .inr (15, fs))] []) (va_Qi (fun (r : Int32) (u : List Value) => r = n ∧ u = fs) (zB dC dI (fun _ => []) (fun g : List Value => [(h0, .inr (15, g))]) (va_A [(h0, .inr (15, fs))] sz)) (va_A [(h0, .inr (15, fs))] sz)) 0 0 (va_A [(h0, .inr (15, fs))] sz) := by
  refine Met.ofW (cc := cX13_place) (maxL := 1) (ret := (some .int)) (by decide) rfl ?_
  intro p e s m args below meth c s₁ B hml hv
  obtain ⟨rfl, hsz, hP, hK, hD0⟩ := hv
  have hx := B.exec
  have hb := B.bytes
  have hr := B.returns
  have hts := atoms_spec (ws := wsX13_place) B.pre
  have hown : s.vm.findClass RX13 = some m.cls := findClass_of_methodNamed B.named
  have hlocks := B.notSynchronized
  subst hsz
  have hD := hD0.self (sz := s.heap.size)
  generalize hAe : va_A [(h0, .inr (15, fs))] s.heap.size = A at hD ⊢
  have hA : ∀ q : Nat, s.heap.size ≤ q → A q := fun q h => by rw [← hAe]; exact Or.inr h
  have hS : va_S A s.heap s.heap [] := va_S.rf
  have hP : va_P (dC, dI) vwCl [(h0, .inr (15, fs))] s.heap := hP
  have hl := lv_entry ([.ref h0]) (n := 1) (Nat.le_of_ble_eq_true rfl)
  rw [lg_entry_eq]
  generalize (lg_sl ([.ref h0]) ++ List.replicate (1 - (lg_sl ([.ref h0])).length) Slot.unset).toArray = ls at hl ⊢
  have hl : lv_has ls 1 [(0, .ref h0)] := hl
  refine lv_aload_n hx hb dX13_place_0 rfl (lv_at hl 0 rfl) ?_
  refine va_get (D := (dC, dI)) (ci := 15) (v := .int n) (C := RX13) (T := TX13) (N := 196) hx hb hts iw_X13_place_X13 hown hK hP 0 rfl rfl 69 (by decide) (hts (.fieldLink RX13 137 "LiquidTongueModel" "place" "I") (by decide +kernel)) (fun _ h9 => h9) hf dX13_place_1 ?_
  have hP9 := hP.sub (ws' := [(h0, .inr (15, fs))]) [0] rfl
  have hD9 := hD.sub (ws' := [(h0, .inr (15, fs))]) [0] (by decide) rfl
  have hK9 := hK.sub (tys' := []) [] rfl
  exact W.iret (v := n) hx hb hr (fun t ht hW => ⟨⟨n, fs, rfl, ⟨rfl, rfl⟩, (zB_mk (by rw [ht]; exact hP9) (va_K.moved hW.alike hK9) hD9)⟩, hS.F ht⟩) hS.2.2 dX13_place_4
theorem iw_X13_end_X13 : ∀ w ∈ wsX130, w ∈ wsX13_end := fun w h => List.mem_cons_of_mem _ (List.mem_append_right _ h)
set_option maxHeartbeats 4000000 in
set_option maxRecDepth 100000 in
/-- end(n): refused below 0 and beyond the tape; else the tape has n bytes -/
theorem c_X13_end (l : Launch) (dC : Nat → ClassId) (dI : Nat → Nat → Nat) (sz : Nat) (h0 : Nat) (fs : List Value) (n p0 : Int32) (hfl : fs.length = 196) (hf : fs[3]? = some (.int n)) : Met l yX13_end wsX13_end ({ frames := 0, cells := 0, slots := 0, locals := 0 }) (zPc dC dI sz [.ref h0, .int p0] [(h0, .inr (15, fs))] []) (va_Qi (fun (r : Int32) (u : List Value) => (¬ p0 < 0 ∧ p0 ≤ n ∧ r = 1 ∧ u = fs.set 3 (.int p0)) ∨ ((p0 < 0 ∨ ¬ p0 ≤ n) ∧ r = 0 ∧ u = fs)) (zB dC dI (fun _ => []) (fun g : List Value => [(h0, .inr (15, g))]) (va_A [(h0, .inr (15, fs))] sz)) (va_A [(h0, .inr (15, fs))] sz)) 0 0 (va_A [(h0, .inr (15, fs))] sz) := by
  refine Met.ofW (cc := cX13_end) (maxL := 2) (ret := (some .boolean)) (by decide) rfl ?_
  intro p e s m args below meth c s₁ B hml hv
  obtain ⟨rfl, hsz, hP, hK, hD0⟩ := hv
  have hx := B.exec
  have hb := B.bytes
  have hr := B.returns
  have hts := atoms_spec (ws := wsX13_end) B.pre
  have hown : s.vm.findClass RX13 = some m.cls := findClass_of_methodNamed B.named
  have hlocks := B.notSynchronized
  subst hsz
  have hD := hD0.self (sz := s.heap.size)
  generalize hAe : va_A [(h0, .inr (15, fs))] s.heap.size = A at hD ⊢
  have hA : ∀ q : Nat, s.heap.size ≤ q → A q := fun q h => by rw [← hAe]; exact Or.inr h
  have hS : va_S A s.heap s.heap [] := va_S.rf
  have hP : va_P (dC, dI) vwCl [(h0, .inr (15, fs))] s.heap := hP
  have hl := lv_entry ([.ref h0, .int p0]) (n := 2) (Nat.le_of_ble_eq_true rfl)
  rw [lg_entry_eq]
  generalize (lg_sl ([.ref h0, .int p0]) ++ List.replicate (2 - (lg_sl ([.ref h0, .int p0])).length) Slot.unset).toArray = ls at hl ⊢
  have hl : lv_has ls 2 [(0, .ref h0), (1, .int p0)] := hl
  refine lv_iload_n hx hb dX13_end_0 rfl (lv_at hl 1 rfl) ?_
  refine lv_if_lt (tgt := 12) hx hb dX13_end_1 (by decide) (fun c_1 => ?_) (fun c_1 => ?_)
  · refine lv_iconst (v := 0) hx hb dX13_end_12 (by decide) ?_
    have hP9 := hP.sub (ws' := [(h0, .inr (15, fs))]) [0] rfl
    have hD9 := hD.sub (ws' := [(h0, .inr (15, fs))]) [0] (by decide) rfl
    have hK9 := hK.sub (tys' := []) [] rfl
    exact W.zret (v := 0) hx hb hr (by first | rfl | decide) (fun t ht hW => ⟨⟨0, fs, rfl, Or.inr ⟨by first | exact Or.inl (by assumption) | exact Or.inr (by assumption), rfl, rfl⟩, (zB_mk (by rw [ht]; exact hP9) (va_K.moved hW.alike hK9) hD9)⟩, hS.F ht⟩) hS.2.2 dX13_end_13
  · refine lv_iload_n hx hb dX13_end_4 rfl (lv_at hl 1 rfl) ?_
    refine lv_aload_n hx hb dX13_end_5 rfl (lv_at hl 0 rfl) ?_
    refine va_get (D := (dC, dI)) (ci := 15) (v := .int n) (C := RX13) (T := TX13) (N := 196) hx hb hts iw_X13_end_X13 hown hK hP 0 rfl rfl 3 (by decide) (hts (.fieldLink RX13 386 "LiquidTongueModel" "length" "I") (by decide +kernel)) (fun _ h9 => h9) hf dX13_end_6 ?_
    refine lv_icmp_le (tgt := 14) hx hb dX13_end_9 (by decide) (fun c_9 => ?_) (fun c_9 => ?_)
    · refine lv_aload_n hx hb dX13_end_14 rfl (lv_at hl 0 rfl) ?_
      refine lv_iload_n hx hb dX13_end_15 rfl (lv_at hl 1 rfl) ?_
      refine va_put (D := (dC, dI)) (ci := 15) (v := .int p0) (ty := .int) (C := RX13) (T := TX13) (N := 196) hx hb hts iw_X13_end_X13 tyX13 tyX13_ok nmX13 hown hK hP hD hS 0 rfl rfl 3 (by decide) (hts (.fieldLink RX13 386 "LiquidTongueModel" "length" "I") (by decide +kernel)) (fun _ h9 => h9) rfl (by decide +kernel) rfl rfl (zs_lt hfl (by decide)) dX13_end_16 (fun H locs hP hD hS => ?_)
      have hP : va_P (dC, dI) vwCl [(h0, .inr (15, (fs.set 3 (.int p0))))] H := hP
      have hD : va_D A [(h0, .inr (15, (fs.set 3 (.int p0))))] := hD
      refine lv_iconst (v := 1) hx hb dX13_end_19 (by decide) ?_
      have hP9 := hP.sub (ws' := [(h0, .inr (15, (fs.set 3 (.int p0))))]) [0] rfl
      have hD9 := hD.sub (ws' := [(h0, .inr (15, (fs.set 3 (.int p0))))]) [0] (by decide) rfl
      have hK9 := hK.sub (tys' := []) [] rfl
      exact W.zret (v := 1) hx hb hr (by first | rfl | decide) (fun t ht hW => ⟨⟨1, fs.set 3 (.int p0), rfl, Or.inl ⟨by assumption, by assumption, rfl, rfl⟩, (zB_mk (by rw [ht]; exact hP9) (va_K.moved hW.alike hK9) hD9)⟩, hS.F ht⟩) hS.2.2 dX13_end_20
    · refine lv_iconst (v := 0) hx hb dX13_end_12 (by decide) ?_
      have hP9 := hP.sub (ws' := [(h0, .inr (15, fs))]) [0] rfl
      have hD9 := hD.sub (ws' := [(h0, .inr (15, fs))]) [0] (by decide) rfl
      have hK9 := hK.sub (tys' := []) [] rfl
      exact W.zret (v := 0) hx hb hr (by first | rfl | decide) (fun t ht hW => ⟨⟨0, fs, rfl, Or.inr ⟨by first | exact Or.inl (by assumption) | exact Or.inr (by assumption), rfl, rfl⟩, (zB_mk (by rw [ht]; exact hP9) (va_K.moved hW.alike hK9) hD9)⟩, hS.F ht⟩) hS.2.2 dX13_end_13
theorem iw_X12_fuel_X12 : ∀ w ∈ wsX120, w ∈ wsX12_fuel := fun w h => List.mem_cons_of_mem _ (List.mem_append_left _ (List.mem_append_right _ h))
theorem iw_X12_fuel_X3 : ∀ w ∈ wsX30, w ∈ wsX12_fuel := fun w h => List.mem_cons_of_mem _ (List.mem_append_right _ h)
set_option maxHeartbeats 4000000 in
set_option maxRecDepth 100000 in
/-- fuel(): the machine's field -/
theorem c_X12_fuel (l : Launch) (dC : Nat → ClassId) (dI : Nat → Nat → Nat) (sz : Nat) (h0 h1 : Nat) (fs ms : List Value) (n : Int32) (hfl : fs.length = 13) (hml0 : ms.length = 18) (hm : fs[12]? = some (.ref h1)) (hf : ms[17]? = some (.int n)) : Met l yX12_fuel wsX12_fuel ({ frames := 0, cells := 0, slots := 0, locals := 0 }) (zPc dC dI sz [.ref h0] [(h0, .inr (14, fs)), (h1, .inr (5, ms))] []) (va_Qi (fun (r : Int32) (u : List Value × List Value) => r = n ∧ u = (fs, ms)) (zB dC dI (fun _ => []) (fun u : List Value × List Value => [(h0, .inr (14, u.1)), (h1, .inr (5, u.2))]) (va_A [(h0, .inr (14, fs)), (h1, .inr (5, ms))] sz)) (va_A [(h0, .inr (14, fs)), (h1, .inr (5, ms))] sz)) 0 0 (va_A [(h0, .inr (14, fs)), (h1, .inr (5, ms))] sz) := by
  refine Met.ofW (cc := cX12_fuel) (maxL := 1) (ret := (some .int)) (by decide) rfl ?_
  intro p e s m args below meth c s₁ B hml hv
  obtain ⟨rfl, hsz, hP, hK, hD0⟩ := hv
  have hx := B.exec
  have hb := B.bytes
  have hr := B.returns
  have hts := atoms_spec (ws := wsX12_fuel) B.pre
  have hown : s.vm.findClass RX12 = some m.cls := findClass_of_methodNamed B.named
  have hlocks := B.notSynchronized
  subst hsz
  have hD := hD0.self (sz := s.heap.size)
  generalize hAe : va_A [(h0, .inr (14, fs)), (h1, .inr (5, ms))] s.heap.size = A at hD ⊢
  have hA : ∀ q : Nat, s.heap.size ≤ q → A q := fun q h => by rw [← hAe]; exact Or.inr h
  have hS : va_S A s.heap s.heap [] := va_S.rf
  have hP : va_P (dC, dI) vwCl [(h0, .inr (14, fs)), (h1, .inr (5, ms))] s.heap := hP
  have hl := lv_entry ([.ref h0]) (n := 1) (Nat.le_of_ble_eq_true rfl)
  rw [lg_entry_eq]
  generalize (lg_sl ([.ref h0]) ++ List.replicate (1 - (lg_sl ([.ref h0])).length) Slot.unset).toArray = ls at hl ⊢
  have hl : lv_has ls 1 [(0, .ref h0)] := hl
  refine lv_aload_n hx hb dX12_fuel_0 rfl (lv_at hl 0 rfl) ?_
  refine va_get (D := (dC, dI)) (ci := 14) (v := .ref h1) (C := RX12) (T := TX12) (N := 13) hx hb hts iw_X12_fuel_X12 hown hK hP 0 rfl rfl 12 (by decide) (hts (.fieldLink RX12 40 "LiquidTongue" "machine" "LLiquidTongue$Machine;") (by decide +kernel)) (fun _ h9 => h9) hm dX12_fuel_1 ?_
  refine va_get (D := (dC, dI)) (ci := 5) (v := .int n) (C := RX3) (T := TX3) (N := 18) hx hb hts iw_X12_fuel_X3 hown hK hP 1 rfl rfl 17 (by decide) (hts (.fieldLink RX12 319 "LiquidTongue$Machine" "took" "I") (by decide +kernel)) (fun _ h9 => h9) hf dX12_fuel_4 ?_
  have hP9 := hP.sub (ws' := [(h0, .inr (14, fs)), (h1, .inr (5, ms))]) [0, 1] rfl
  have hD9 := hD.sub (ws' := [(h0, .inr (14, fs)), (h1, .inr (5, ms))]) [0, 1] (by decide) rfl
  have hK9 := hK.sub (tys' := []) [] rfl
  exact W.iret (v := n) hx hb hr (fun t ht hW => ⟨⟨n, (fs, ms), rfl, ⟨rfl, rfl⟩, (zB_mk (by rw [ht]; exact hP9) (va_K.moved hW.alike hK9) hD9)⟩, hS.F ht⟩) hS.2.2 dX12_fuel_7
theorem iw_X12_value_X12 : ∀ w ∈ wsX120, w ∈ wsX12_value := fun w h => List.mem_cons_of_mem _ (List.mem_append_left _ (List.mem_append_right _ h))
theorem iw_X12_value_X3 : ∀ w ∈ wsX30, w ∈ wsX12_value := fun w h => List.mem_cons_of_mem _ (List.mem_append_right _ h)
set_option maxHeartbeats 4000000 in
set_option maxRecDepth 100000 in
/-- value(): the machine's field -/
theorem c_X12_value (l : Launch) (dC : Nat → ClassId) (dI : Nat → Nat → Nat) (sz : Nat) (h0 h1 : Nat) (fs ms : List Value) (n : Int64) (hfl : fs.length = 13) (hml0 : ms.length = 18) (hm : fs[12]? = some (.ref h1)) (hf : ms[16]? = some (.long n)) : Met l yX12_value wsX12_value ({ frames := 0, cells := 0, slots := 0, locals := 0 }) (zPc dC dI sz [.ref h0] [(h0, .inr (14, fs)), (h1, .inr (5, ms))] []) (va_Ql (fun (r : Int64) (u : List Value × List Value) => r = n ∧ u = (fs, ms)) (zB dC dI (fun _ => []) (fun u : List Value × List Value => [(h0, .inr (14, u.1)), (h1, .inr (5, u.2))]) (va_A [(h0, .inr (14, fs)), (h1, .inr (5, ms))] sz)) (va_A [(h0, .inr (14, fs)), (h1, .inr (5, ms))] sz)) 0 0 (va_A [(h0, .inr (14, fs)), (h1, .inr (5, ms))] sz) := by
  refine Met.ofW (cc := cX12_value) (maxL := 1) (ret := (some .long)) (by decide) rfl ?_
  intro p e s m args below meth c s₁ B hml hv
  obtain ⟨rfl, hsz, hP, hK, hD0⟩ := hv
  have hx := B.exec
  have hb := B.bytes
  have hr := B.returns
  have hts := atoms_spec (ws := wsX12_value) B.pre
  have hown : s.vm.findClass RX12 = some m.cls := findClass_of_methodNamed B.named
  have hlocks := B.notSynchronized
  subst hsz
  have hD := hD0.self (sz := s.heap.size)
  generalize hAe : va_A [(h0, .inr (14, fs)), (h1, .inr (5, ms))] s.heap.size = A at hD ⊢
  have hA : ∀ q : Nat, s.heap.size ≤ q → A q := fun q h => by rw [← hAe]; exact Or.inr h
  have hS : va_S A s.heap s.heap [] := va_S.rf
  have hP : va_P (dC, dI) vwCl [(h0, .inr (14, fs)), (h1, .inr (5, ms))] s.heap := hP
  have hl := lv_entry ([.ref h0]) (n := 1) (Nat.le_of_ble_eq_true rfl)
  rw [lg_entry_eq]
  generalize (lg_sl ([.ref h0]) ++ List.replicate (1 - (lg_sl ([.ref h0])).length) Slot.unset).toArray = ls at hl ⊢
  have hl : lv_has ls 1 [(0, .ref h0)] := hl
  refine lv_aload_n hx hb dX12_value_0 rfl (lv_at hl 0 rfl) ?_
  refine va_get (D := (dC, dI)) (ci := 14) (v := .ref h1) (C := RX12) (T := TX12) (N := 13) hx hb hts iw_X12_value_X12 hown hK hP 0 rfl rfl 12 (by decide) (hts (.fieldLink RX12 40 "LiquidTongue" "machine" "LLiquidTongue$Machine;") (by decide +kernel)) (fun _ h9 => h9) hm dX12_value_1 ?_
  refine va_get (D := (dC, dI)) (ci := 5) (v := .long n) (C := RX3) (T := TX3) (N := 18) hx hb hts iw_X12_value_X3 hown hK hP 1 rfl rfl 16 (by decide) (hts (.fieldLink RX12 316 "LiquidTongue$Machine" "gave" "J") (by decide +kernel)) (fun _ h9 => h9) hf dX12_value_4 ?_
  have hP9 := hP.sub (ws' := [(h0, .inr (14, fs)), (h1, .inr (5, ms))]) [0, 1] rfl
  have hD9 := hD.sub (ws' := [(h0, .inr (14, fs)), (h1, .inr (5, ms))]) [0, 1] (by decide) rfl
  have hK9 := hK.sub (tys' := []) [] rfl
  exact W.lret (v := n) hx hb hr (fun t ht hW => ⟨⟨n, (fs, ms), rfl, ⟨rfl, rfl⟩, (zB_mk (by rw [ht]; exact hP9) (va_K.moved hW.alike hK9) hD9)⟩, hS.F ht⟩) hS.2.2 dX12_value_7
theorem iw_X13_fuel_X13 : ∀ w ∈ wsX130, w ∈ wsX13_fuel := fun w h => List.mem_cons_of_mem _ (List.mem_append_right _ h)
set_option maxHeartbeats 4000000 in
set_option maxRecDepth 100000 in
/-- fuel() of the reference -/
theorem c_X13_fuel (l : Launch) (dC : Nat → ClassId) (dI : Nat → Nat → Nat) (sz : Nat) (h0 : Nat) (fs : List Value) (n : Int32) (hfl : fs.length = 196) (hf : fs[165]? = some (.int n)) : Met l yX13_fuel wsX13_fuel ({ frames := 0, cells := 0, slots := 0, locals := 0 }) (zPc dC dI sz [.ref h0] [(h0, .inr (15, fs))] []) (va_Qi (fun (r : Int32) (u : List Value) => r = n ∧ u = fs) (zB dC dI (fun _ => []) (fun g : List Value => [(h0, .inr (15, g))]) (va_A [(h0, .inr (15, fs))] sz)) (va_A [(h0, .inr (15, fs))] sz)) 0 0 (va_A [(h0, .inr (15, fs))] sz) := by
  refine Met.ofW (cc := cX13_fuel) (maxL := 1) (ret := (some .int)) (by decide) rfl ?_
  intro p e s m args below meth c s₁ B hml hv
  obtain ⟨rfl, hsz, hP, hK, hD0⟩ := hv
  have hx := B.exec
  have hb := B.bytes
  have hr := B.returns
  have hts := atoms_spec (ws := wsX13_fuel) B.pre
  have hown : s.vm.findClass RX13 = some m.cls := findClass_of_methodNamed B.named
  have hlocks := B.notSynchronized
  subst hsz
  have hD := hD0.self (sz := s.heap.size)
  generalize hAe : va_A [(h0, .inr (15, fs))] s.heap.size = A at hD ⊢
  have hA : ∀ q : Nat, s.heap.size ≤ q → A q := fun q h => by rw [← hAe]; exact Or.inr h
  have hS : va_S A s.heap s.heap [] := va_S.rf
  have hP : va_P (dC, dI) vwCl [(h0, .inr (15, fs))] s.heap := hP
  have hl := lv_entry ([.ref h0]) (n := 1) (Nat.le_of_ble_eq_true rfl)
  rw [lg_entry_eq]
  generalize (lg_sl ([.ref h0]) ++ List.replicate (1 - (lg_sl ([.ref h0])).length) Slot.unset).toArray = ls at hl ⊢
  have hl : lv_has ls 1 [(0, .ref h0)] := hl
  refine lv_aload_n hx hb dX13_fuel_0 rfl (lv_at hl 0 rfl) ?_
  refine va_get (D := (dC, dI)) (ci := 15) (v := .int n) (C := RX13) (T := TX13) (N := 196) hx hb hts iw_X13_fuel_X13 hown hK hP 0 rfl rfl 165 (by decide) (hts (.fieldLink RX13 1098 "LiquidTongueModel" "fuelTaken" "I") (by decide +kernel)) (fun _ h9 => h9) hf dX13_fuel_1 ?_
  have hP9 := hP.sub (ws' := [(h0, .inr (15, fs))]) [0] rfl
  have hD9 := hD.sub (ws' := [(h0, .inr (15, fs))]) [0] (by decide) rfl
  have hK9 := hK.sub (tys' := []) [] rfl
  exact W.iret (v := n) hx hb hr (fun t ht hW => ⟨⟨n, fs, rfl, ⟨rfl, rfl⟩, (zB_mk (by rw [ht]; exact hP9) (va_K.moved hW.alike hK9) hD9)⟩, hS.F ht⟩) hS.2.2 dX13_fuel_4
theorem iw_X13_value_X13 : ∀ w ∈ wsX130, w ∈ wsX13_value := fun w h => List.mem_cons_of_mem _ (List.mem_append_right _ h)
set_option maxHeartbeats 4000000 in
set_option maxRecDepth 100000 in
/-- value() of the reference -/
theorem c_X13_value (l : Launch) (dC : Nat → ClassId) (dI : Nat → Nat → Nat) (sz : Nat) (h0 : Nat) (fs : List Value) (n : Int32) (v : Int64) (hfl : fs.length = 196) (hf : fs[163]? = some (.int n)) (hg : fs[166]? = some (.long v)) : Met l yX13_value wsX13_value ({ frames := 0, cells := 0, slots := 0, locals := 0 }) (zPc dC dI sz [.ref h0] [(h0, .inr (15, fs))] []) (va_Ql (fun (r : Int64) (u : List Value) => ((n = 1 ∧ r = v) ∨ (¬ n = 1 ∧ r = 0)) ∧ u = fs) (zB dC dI (fun _ => []) (fun g : List Value => [(h0, .inr (15, g))]) (va_A [(h0, .inr (15, fs))] sz)) (va_A [(h0, .inr (15, fs))] sz)) 0 0 (va_A [(h0, .inr (15, fs))] sz) := by
  refine Met.ofW (cc := cX13_value) (maxL := 1) (ret := (some .long)) (by decide) rfl ?_
  intro p e s m args below meth c s₁ B hml hv
  obtain ⟨rfl, hsz, hP, hK, hD0⟩ := hv
  have hx := B.exec
  have hb := B.bytes
  have hr := B.returns
  have hts := atoms_spec (ws := wsX13_value) B.pre
  have hown : s.vm.findClass RX13 = some m.cls := findClass_of_methodNamed B.named
  have hlocks := B.notSynchronized
  subst hsz
  have hD := hD0.self (sz := s.heap.size)
  generalize hAe : va_A [(h0, .inr (15, fs))] s.heap.size = A at hD ⊢
  have hA : ∀ q : Nat, s.heap.size ≤ q → A q := fun q h => by rw [← hAe]; exact Or.inr h
  have hS : va_S A s.heap s.heap [] := va_S.rf
  have hP : va_P (dC, dI) vwCl [(h0, .inr (15, fs))] s.heap := hP
  have hl := lv_entry ([.ref h0]) (n := 1) (Nat.le_of_ble_eq_true rfl)
  rw [lg_entry_eq]
  generalize (lg_sl ([.ref h0]) ++ List.replicate (1 - (lg_sl ([.ref h0])).length) Slot.unset).toArray = ls at hl ⊢
  have hl : lv_has ls 1 [(0, .ref h0)] := hl
  refine lv_aload_n hx hb dX13_value_0 rfl (lv_at hl 0 rfl) ?_
  refine va_get (D := (dC, dI)) (ci := 15) (v := .int n) (C := RX13) (T := TX13) (N := 196) hx hb hts iw_X13_value_X13 hown hK hP 0 rfl rfl 163 (by decide) (hts (.fieldLink RX13 757 "LiquidTongueModel" "ran" "I") (by decide +kernel)) (fun _ h9 => h9) hf dX13_value_1 ?_
  refine lv_iconst (v := 1) hx hb dX13_value_4 (by decide) ?_
  refine lv_icmp_ne (tgt := 15) hx hb dX13_value_5 (by decide) (fun c_5 => ?_) (fun c_5 => ?_)
  · refine lv_lconst (v := 0) hx hb dX13_value_15 (by decide) ?_
    have hP9 := hP.sub (ws' := [(h0, .inr (15, fs))]) [0] rfl
    have hD9 := hD.sub (ws' := [(h0, .inr (15, fs))]) [0] (by decide) rfl
    have hK9 := hK.sub (tys' := []) [] rfl
    exact W.lret (v := 0) hx hb hr (fun t ht hW => ⟨⟨0, fs, rfl, ⟨by first | exact Or.inl ⟨by first | assumption | (exact Classical.not_not.mp (by assumption)), rfl⟩ | exact Or.inr ⟨by assumption, rfl⟩, rfl⟩, (zB_mk (by rw [ht]; exact hP9) (va_K.moved hW.alike hK9) hD9)⟩, hS.F ht⟩) hS.2.2 dX13_value_16
  · refine lv_aload_n hx hb dX13_value_8 rfl (lv_at hl 0 rfl) ?_
    refine va_get (D := (dC, dI)) (ci := 15) (v := .long v) (C := RX13) (T := TX13) (N := 196) hx hb hts iw_X13_value_X13 hown hK hP 0 rfl rfl 166 (by decide) (hts (.fieldLink RX13 1101 "LiquidTongueModel" "gaveValue" "J") (by decide +kernel)) (fun _ h9 => h9) hg dX13_value_9 ?_
    refine lv_goto (tgt := 16) hx hb dX13_value_12 (by decide) ?_
    have hP9 := hP.sub (ws' := [(h0, .inr (15, fs))]) [0] rfl
    have hD9 := hD.sub (ws' := [(h0, .inr (15, fs))]) [0] (by decide) rfl
    have hK9 := hK.sub (tys' := []) [] rfl
    exact W.lret (v := v) hx hb hr (fun t ht hW => ⟨⟨v, fs, rfl, ⟨by first | exact Or.inl ⟨by first | assumption | (exact Classical.not_not.mp (by assumption)), rfl⟩ | exact Or.inr ⟨by assumption, rfl⟩, rfl⟩, (zB_mk (by rw [ht]; exact hP9) (va_K.moved hW.alike hK9) hD9)⟩, hS.F ht⟩) hS.2.2 dX13_value_16
/-- what out(i) answers of n bytes f -/
def zo_out (n : Nat) (f : Nat → Int32) (i : Int32) : Int32 := if i = -1 then nI n else if i < 0 ∨ nI n ≤ i then -1 else f i.toNatClampNeg &&& 255
theorem zo_in {n N : Nat} {i : Int32} (hn : n ≤ N) (hN : N < 2 ^ 31) (h0 : ¬ i < 0) (h : ¬ nI n ≤ i) : vp_in i N := by
  obtain ⟨j, hj, rfl, -⟩ := pk_mu h0 h (by omega)
  exact vp_in_nI (by omega) hN
theorem zo_out_m1 {n : Nat} {f : Nat → Int32} {i : Int32} (h : i = -1) : zo_out n f i = nI n := by simp [zo_out, h]
theorem zo_out_no {n N : Nat} {f : Nat → Int32} {i : Int32} (hn : n ≤ N) (hN : N < 2 ^ 31) (h : ¬ i = -1) (h2 : i < 0 ∨ nI n ≤ i) : zo_out n f i = -1 := by simp [zo_out, h, h2]
theorem zo_out_in {n N : Nat} {f : Nat → Int32} {i : Int32} (hn : n ≤ N) (hN : N < 2 ^ 31) (h : ¬ i = -1) (h0 : ¬ i < 0) (h2 : ¬ nI n ≤ i) : zo_out n f i = f i.toNatClampNeg &&& 255 := by simp [zo_out, h, h0, h2]
theorem iw_X12_out_X12 : ∀ w ∈ wsX120, w ∈ wsX12_out := fun w h => List.mem_cons_of_mem _ (List.mem_append_right _ h)
set_option maxHeartbeats 4000000 in
set_option maxRecDepth 100000 in
/-- out(i): how many for -1, the byte, or -1 -/
theorem c_X12_out (l : Launch) (dC : Nat → ClassId) (dI : Nat → Nat → Nat) (sz : Nat) (h0 h1 : Nat) (cB : ClassId) (fs : List Value) (n N : Nat) (f : Nat → Int32) (p0 : Int32) (hfl : fs.length = 13) (hf : fs[8]? = some (.int (nI n))) (hm : fs[6]? = some (.ref h1)) (hn : n ≤ N) (hN : N < 2 ^ 31) : Met l yX12_out wsX12_out ({ frames := 0, cells := 0, slots := 0, locals := 0 }) (zPc dC dI sz [.ref h0, .int p0] [(h0, .inr (14, fs)), (h1, .inl (cB, N, .inl f))] [(cB, .byte)]) (va_Qi (fun (r : Int32) (u : List Value × (Nat → Int32)) => r = zo_out n f p0 ∧ u = (fs, f)) (zB dC dI (fun _ => [(cB, .byte)]) (fun u : List Value × (Nat → Int32) => [(h0, .inr (14, u.1)), (h1, .inl (cB, N, .inl u.2))]) (va_A [(h0, .inr (14, fs)), (h1, .inl (cB, N, .inl f))] sz)) (va_A [(h0, .inr (14, fs)), (h1, .inl (cB, N, .inl f))] sz)) 0 0 (va_A [(h0, .inr (14, fs)), (h1, .inl (cB, N, .inl f))] sz) := by
  refine Met.ofW (cc := cX12_out) (maxL := 2) (ret := (some .int)) (by decide) rfl ?_
  intro p e s m args below meth c s₁ B hml hv
  obtain ⟨rfl, hsz, hP, hK, hD0⟩ := hv
  have hx := B.exec
  have hb := B.bytes
  have hr := B.returns
  have hts := atoms_spec (ws := wsX12_out) B.pre
  have hown : s.vm.findClass RX12 = some m.cls := findClass_of_methodNamed B.named
  have hlocks := B.notSynchronized
  subst hsz
  have hD := hD0.self (sz := s.heap.size)
  generalize hAe : va_A [(h0, .inr (14, fs)), (h1, .inl (cB, N, .inl f))] s.heap.size = A at hD ⊢
  have hA : ∀ q : Nat, s.heap.size ≤ q → A q := fun q h => by rw [← hAe]; exact Or.inr h
  have hS : va_S A s.heap s.heap [] := va_S.rf
  have hP : va_P (dC, dI) vwCl [(h0, .inr (14, fs)), (h1, .inl (cB, N, .inl f))] s.heap := hP
  have hl := lv_entry ([.ref h0, .int p0]) (n := 2) (Nat.le_of_ble_eq_true rfl)
  rw [lg_entry_eq]
  generalize (lg_sl ([.ref h0, .int p0]) ++ List.replicate (2 - (lg_sl ([.ref h0, .int p0])).length) Slot.unset).toArray = ls at hl ⊢
  have hl : lv_has ls 2 [(0, .ref h0), (1, .int p0)] := hl
  refine lv_iload_n hx hb dX12_out_0 rfl (lv_at hl 1 rfl) ?_
  refine lv_iconst (v := -1) hx hb dX12_out_1 (by decide) ?_
  refine lv_icmp_ne (tgt := 10) hx hb dX12_out_2 (by decide) (fun c_2 => ?_) (fun c_2 => ?_)
  · refine lv_iload_n hx hb dX12_out_10 rfl (lv_at hl 1 rfl) ?_
    refine lv_if_lt (tgt := 35) hx hb dX12_out_11 (by decide) (fun c_11 => ?_) (fun c_11 => ?_)
    · refine lv_iconst (v := -1) hx hb dX12_out_35 (by decide) ?_
      have hP9 := hP.sub (ws' := [(h0, .inr (14, fs)), (h1, .inl (cB, N, .inl f))]) [0, 1] rfl
      have hD9 := hD.sub (ws' := [(h0, .inr (14, fs)), (h1, .inl (cB, N, .inl f))]) [0, 1] (by decide) rfl
      have hK9 := hK.sub (tys' := [(cB, .byte)]) [0] rfl
      exact W.iret (v := (-1)) hx hb hr (fun t ht hW => ⟨⟨(-1), (fs, f), rfl, ⟨by first | exact (zo_out_m1 (by first | assumption | (exact Classical.not_not.mp (by assumption)))).symm | (subst_vars; exact (zo_out_in hn hN (by assumption) (by assumption) (by assumption)).symm) | exact (zo_out_no hn hN (by assumption) (by first | exact Or.inl (by assumption) | exact Or.inr (by assumption))).symm, rfl⟩, (zB_mk (by rw [ht]; exact hP9) (va_K.moved hW.alike hK9) hD9)⟩, hS.F ht⟩) hS.2.2 dX12_out_36
    · refine lv_iload_n hx hb dX12_out_14 rfl (lv_at hl 1 rfl) ?_
      refine lv_aload_n hx hb dX12_out_15 rfl (lv_at hl 0 rfl) ?_
      refine va_get (D := (dC, dI)) (ci := 14) (v := .int (nI n)) (C := RX12) (T := TX12) (N := 13) hx hb hts iw_X12_out_X12 hown hK hP 0 rfl rfl 8 (by decide) (hts (.fieldLink RX12 178 "LiquidTongue" "outLength" "I") (by decide +kernel)) (fun _ h9 => h9) hf dX12_out_16 ?_
      refine lv_icmp_ge (tgt := 35) hx hb dX12_out_19 (by decide) (fun c_19 => ?_) (fun c_19 => ?_)
      · refine lv_iconst (v := -1) hx hb dX12_out_35 (by decide) ?_
        have hP9 := hP.sub (ws' := [(h0, .inr (14, fs)), (h1, .inl (cB, N, .inl f))]) [0, 1] rfl
        have hD9 := hD.sub (ws' := [(h0, .inr (14, fs)), (h1, .inl (cB, N, .inl f))]) [0, 1] (by decide) rfl
        have hK9 := hK.sub (tys' := [(cB, .byte)]) [0] rfl
        exact W.iret (v := (-1)) hx hb hr (fun t ht hW => ⟨⟨(-1), (fs, f), rfl, ⟨by first | exact (zo_out_m1 (by first | assumption | (exact Classical.not_not.mp (by assumption)))).symm | (subst_vars; exact (zo_out_in hn hN (by assumption) (by assumption) (by assumption)).symm) | exact (zo_out_no hn hN (by assumption) (by first | exact Or.inl (by assumption) | exact Or.inr (by assumption))).symm, rfl⟩, (zB_mk (by rw [ht]; exact hP9) (va_K.moved hW.alike hK9) hD9)⟩, hS.F ht⟩) hS.2.2 dX12_out_36
      · refine lv_aload_n hx hb dX12_out_22 rfl (lv_at hl 0 rfl) ?_
        refine va_get (D := (dC, dI)) (ci := 14) (v := .ref h1) (C := RX12) (T := TX12) (N := 13) hx hb hts iw_X12_out_X12 hown hK hP 0 rfl rfl 6 (by decide) (hts (.fieldLink RX12 17 "LiquidTongue" "out" "[B") (by decide +kernel)) (fun _ h9 => h9) hm dX12_out_23 ?_
        refine lv_iload_n hx hb dX12_out_26 rfl (lv_at hl 1 rfl) ?_
        refine va_bald hx hb hK hP 1 0 rfl rfl (zo_in hn hN (by assumption) (by assumption)) dX12_out_27 ?_
        refine lv_topi (fun z_1 ez_1 => ?_)
        refine lv_sipush (v := 255) hx hb dX12_out_28 (by decide) ?_
        refine lv_iand hx hb dX12_out_31 ?_
        refine lv_topi (fun z_2 ez_2 => ?_)
        refine lv_goto (tgt := 36) hx hb dX12_out_32 (by decide) ?_
        have hP9 := hP.sub (ws' := [(h0, .inr (14, fs)), (h1, .inl (cB, N, .inl f))]) [0, 1] rfl
        have hD9 := hD.sub (ws' := [(h0, .inr (14, fs)), (h1, .inl (cB, N, .inl f))]) [0, 1] (by decide) rfl
        have hK9 := hK.sub (tys' := [(cB, .byte)]) [0] rfl
        exact W.iret (v := z_2) hx hb hr (fun t ht hW => ⟨⟨z_2, (fs, f), rfl, ⟨by first | exact (zo_out_m1 (by first | assumption | (exact Classical.not_not.mp (by assumption)))).symm | (subst_vars; exact (zo_out_in hn hN (by assumption) (by assumption) (by assumption)).symm) | exact (zo_out_no hn hN (by assumption) (by first | exact Or.inl (by assumption) | exact Or.inr (by assumption))).symm, rfl⟩, (zB_mk (by rw [ht]; exact hP9) (va_K.moved hW.alike hK9) hD9)⟩, hS.F ht⟩) hS.2.2 dX12_out_36
  · refine lv_aload_n hx hb dX12_out_5 rfl (lv_at hl 0 rfl) ?_
    refine va_get (D := (dC, dI)) (ci := 14) (v := .int (nI n)) (C := RX12) (T := TX12) (N := 13) hx hb hts iw_X12_out_X12 hown hK hP 0 rfl rfl 8 (by decide) (hts (.fieldLink RX12 178 "LiquidTongue" "outLength" "I") (by decide +kernel)) (fun _ h9 => h9) hf dX12_out_6 ?_
    have hP9 := hP.sub (ws' := [(h0, .inr (14, fs)), (h1, .inl (cB, N, .inl f))]) [0, 1] rfl
    have hD9 := hD.sub (ws' := [(h0, .inr (14, fs)), (h1, .inl (cB, N, .inl f))]) [0, 1] (by decide) rfl
    have hK9 := hK.sub (tys' := [(cB, .byte)]) [0] rfl
    exact W.iret (v := (nI n)) hx hb hr (fun t ht hW => ⟨⟨(nI n), (fs, f), rfl, ⟨by first | exact (zo_out_m1 (by first | assumption | (exact Classical.not_not.mp (by assumption)))).symm | (subst_vars; exact (zo_out_in hn hN (by assumption) (by assumption) (by assumption)).symm) | exact (zo_out_no hn hN (by assumption) (by first | exact Or.inl (by assumption) | exact Or.inr (by assumption))).symm, rfl⟩, (zB_mk (by rw [ht]; exact hP9) (va_K.moved hW.alike hK9) hD9)⟩, hS.F ht⟩) hS.2.2 dX12_out_9
theorem iw_X13_out_X13 : ∀ w ∈ wsX130, w ∈ wsX13_out := fun w h => List.mem_cons_of_mem _ (List.mem_append_right _ h)
set_option maxHeartbeats 4000000 in
set_option maxRecDepth 100000 in
/-- out(i): how many for -1, the byte, or -1 -/
theorem c_X13_out (l : Launch) (dC : Nat → ClassId) (dI : Nat → Nat → Nat) (sz : Nat) (h0 h1 : Nat) (cB : ClassId) (fs : List Value) (n N : Nat) (f : Nat → Int32) (p0 : Int32) (hfl : fs.length = 196) (hf : fs[5]? = some (.int (nI n))) (hm : fs[2]? = some (.ref h1)) (hn : n ≤ N) (hN : N < 2 ^ 31) : Met l yX13_out wsX13_out ({ frames := 0, cells := 0, slots := 0, locals := 0 }) (zPc dC dI sz [.ref h0, .int p0] [(h0, .inr (15, fs)), (h1, .inl (cB, N, .inl f))] [(cB, .byte)]) (va_Qi (fun (r : Int32) (u : List Value × (Nat → Int32)) => r = zo_out n f p0 ∧ u = (fs, f)) (zB dC dI (fun _ => [(cB, .byte)]) (fun u : List Value × (Nat → Int32) => [(h0, .inr (15, u.1)), (h1, .inl (cB, N, .inl u.2))]) (va_A [(h0, .inr (15, fs)), (h1, .inl (cB, N, .inl f))] sz)) (va_A [(h0, .inr (15, fs)), (h1, .inl (cB, N, .inl f))] sz)) 0 0 (va_A [(h0, .inr (15, fs)), (h1, .inl (cB, N, .inl f))] sz) := by
  refine Met.ofW (cc := cX13_out) (maxL := 2) (ret := (some .int)) (by decide) rfl ?_
  intro p e s m args below meth c s₁ B hml hv
  obtain ⟨rfl, hsz, hP, hK, hD0⟩ := hv
  have hx := B.exec
  have hb := B.bytes
  have hr := B.returns
  have hts := atoms_spec (ws := wsX13_out) B.pre
  have hown : s.vm.findClass RX13 = some m.cls := findClass_of_methodNamed B.named
  have hlocks := B.notSynchronized
  subst hsz
  have hD := hD0.self (sz := s.heap.size)
  generalize hAe : va_A [(h0, .inr (15, fs)), (h1, .inl (cB, N, .inl f))] s.heap.size = A at hD ⊢
  have hA : ∀ q : Nat, s.heap.size ≤ q → A q := fun q h => by rw [← hAe]; exact Or.inr h
  have hS : va_S A s.heap s.heap [] := va_S.rf
  have hP : va_P (dC, dI) vwCl [(h0, .inr (15, fs)), (h1, .inl (cB, N, .inl f))] s.heap := hP
  have hl := lv_entry ([.ref h0, .int p0]) (n := 2) (Nat.le_of_ble_eq_true rfl)
  rw [lg_entry_eq]
  generalize (lg_sl ([.ref h0, .int p0]) ++ List.replicate (2 - (lg_sl ([.ref h0, .int p0])).length) Slot.unset).toArray = ls at hl ⊢
  have hl : lv_has ls 2 [(0, .ref h0), (1, .int p0)] := hl
  refine lv_iload_n hx hb dX13_out_0 rfl (lv_at hl 1 rfl) ?_
  refine lv_iconst (v := -1) hx hb dX13_out_1 (by decide) ?_
  refine lv_icmp_ne (tgt := 12) hx hb dX13_out_2 (by decide) (fun c_2 => ?_) (fun c_2 => ?_)
  · refine lv_iload_n hx hb dX13_out_12 rfl (lv_at hl 1 rfl) ?_
    refine lv_if_lt (tgt := 37) hx hb dX13_out_13 (by decide) (fun c_13 => ?_) (fun c_13 => ?_)
    · refine lv_iconst (v := -1) hx hb dX13_out_37 (by decide) ?_
      have hP9 := hP.sub (ws' := [(h0, .inr (15, fs)), (h1, .inl (cB, N, .inl f))]) [0, 1] rfl
      have hD9 := hD.sub (ws' := [(h0, .inr (15, fs)), (h1, .inl (cB, N, .inl f))]) [0, 1] (by decide) rfl
      have hK9 := hK.sub (tys' := [(cB, .byte)]) [0] rfl
      exact W.iret (v := (-1)) hx hb hr (fun t ht hW => ⟨⟨(-1), (fs, f), rfl, ⟨by first | exact (zo_out_m1 (by first | assumption | (exact Classical.not_not.mp (by assumption)))).symm | (subst_vars; exact (zo_out_in hn hN (by assumption) (by assumption) (by assumption)).symm) | exact (zo_out_no hn hN (by assumption) (by first | exact Or.inl (by assumption) | exact Or.inr (by assumption))).symm, rfl⟩, (zB_mk (by rw [ht]; exact hP9) (va_K.moved hW.alike hK9) hD9)⟩, hS.F ht⟩) hS.2.2 dX13_out_38
    · refine lv_iload_n hx hb dX13_out_16 rfl (lv_at hl 1 rfl) ?_
      refine lv_aload_n hx hb dX13_out_17 rfl (lv_at hl 0 rfl) ?_
      refine va_get (D := (dC, dI)) (ci := 15) (v := .int (nI n)) (C := RX13) (T := TX13) (N := 196) hx hb hts iw_X13_out_X13 hown hK hP 0 rfl rfl 5 (by decide) (hts (.fieldLink RX13 389 "LiquidTongueModel" "outMany" "I") (by decide +kernel)) (fun _ h9 => h9) hf dX13_out_18 ?_
      refine lv_icmp_ge (tgt := 37) hx hb dX13_out_21 (by decide) (fun c_21 => ?_) (fun c_21 => ?_)
      · refine lv_iconst (v := -1) hx hb dX13_out_37 (by decide) ?_
        have hP9 := hP.sub (ws' := [(h0, .inr (15, fs)), (h1, .inl (cB, N, .inl f))]) [0, 1] rfl
        have hD9 := hD.sub (ws' := [(h0, .inr (15, fs)), (h1, .inl (cB, N, .inl f))]) [0, 1] (by decide) rfl
        have hK9 := hK.sub (tys' := [(cB, .byte)]) [0] rfl
        exact W.iret (v := (-1)) hx hb hr (fun t ht hW => ⟨⟨(-1), (fs, f), rfl, ⟨by first | exact (zo_out_m1 (by first | assumption | (exact Classical.not_not.mp (by assumption)))).symm | (subst_vars; exact (zo_out_in hn hN (by assumption) (by assumption) (by assumption)).symm) | exact (zo_out_no hn hN (by assumption) (by first | exact Or.inl (by assumption) | exact Or.inr (by assumption))).symm, rfl⟩, (zB_mk (by rw [ht]; exact hP9) (va_K.moved hW.alike hK9) hD9)⟩, hS.F ht⟩) hS.2.2 dX13_out_38
      · refine lv_aload_n hx hb dX13_out_24 rfl (lv_at hl 0 rfl) ?_
        refine va_get (D := (dC, dI)) (ci := 15) (v := .ref h1) (C := RX13) (T := TX13) (N := 196) hx hb hts iw_X13_out_X13 hown hK hP 0 rfl rfl 2 (by decide) (hts (.fieldLink RX13 16 "LiquidTongueModel" "outs" "[B") (by decide +kernel)) (fun _ h9 => h9) hm dX13_out_25 ?_
        refine lv_iload_n hx hb dX13_out_28 rfl (lv_at hl 1 rfl) ?_
        refine va_bald hx hb hK hP 1 0 rfl rfl (zo_in hn hN (by assumption) (by assumption)) dX13_out_29 ?_
        refine lv_topi (fun z_1 ez_1 => ?_)
        refine lv_sipush (v := 255) hx hb dX13_out_30 (by decide) ?_
        refine lv_iand hx hb dX13_out_33 ?_
        refine lv_topi (fun z_2 ez_2 => ?_)
        refine lv_goto (tgt := 38) hx hb dX13_out_34 (by decide) ?_
        have hP9 := hP.sub (ws' := [(h0, .inr (15, fs)), (h1, .inl (cB, N, .inl f))]) [0, 1] rfl
        have hD9 := hD.sub (ws' := [(h0, .inr (15, fs)), (h1, .inl (cB, N, .inl f))]) [0, 1] (by decide) rfl
        have hK9 := hK.sub (tys' := [(cB, .byte)]) [0] rfl
        exact W.iret (v := z_2) hx hb hr (fun t ht hW => ⟨⟨z_2, (fs, f), rfl, ⟨by first | exact (zo_out_m1 (by first | assumption | (exact Classical.not_not.mp (by assumption)))).symm | (subst_vars; exact (zo_out_in hn hN (by assumption) (by assumption) (by assumption)).symm) | exact (zo_out_no hn hN (by assumption) (by first | exact Or.inl (by assumption) | exact Or.inr (by assumption))).symm, rfl⟩, (zB_mk (by rw [ht]; exact hP9) (va_K.moved hW.alike hK9) hD9)⟩, hS.F ht⟩) hS.2.2 dX13_out_38
  · refine lv_aload_n hx hb dX13_out_5 rfl (lv_at hl 0 rfl) ?_
    refine va_get (D := (dC, dI)) (ci := 15) (v := .int (nI n)) (C := RX13) (T := TX13) (N := 196) hx hb hts iw_X13_out_X13 hown hK hP 0 rfl rfl 5 (by decide) (hts (.fieldLink RX13 389 "LiquidTongueModel" "outMany" "I") (by decide +kernel)) (fun _ h9 => h9) hf dX13_out_6 ?_
    refine lv_goto (tgt := 38) hx hb dX13_out_9 (by decide) ?_
    have hP9 := hP.sub (ws' := [(h0, .inr (15, fs)), (h1, .inl (cB, N, .inl f))]) [0, 1] rfl
    have hD9 := hD.sub (ws' := [(h0, .inr (15, fs)), (h1, .inl (cB, N, .inl f))]) [0, 1] (by decide) rfl
    have hK9 := hK.sub (tys' := [(cB, .byte)]) [0] rfl
    exact W.iret (v := (nI n)) hx hb hr (fun t ht hW => ⟨⟨(nI n), (fs, f), rfl, ⟨by first | exact (zo_out_m1 (by first | assumption | (exact Classical.not_not.mp (by assumption)))).symm | (subst_vars; exact (zo_out_in hn hN (by assumption) (by assumption) (by assumption)).symm) | exact (zo_out_no hn hN (by assumption) (by first | exact Or.inl (by assumption) | exact Or.inr (by assumption))).symm, rfl⟩, (zB_mk (by rw [ht]; exact hP9) (va_K.moved hW.alike hK9) hD9)⟩, hS.F ht⟩) hS.2.2 dX13_out_38
