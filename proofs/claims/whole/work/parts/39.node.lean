/-! Parser.node: a new Node at the word that is read -/
def wnN : List Cond := [.classLink RX7 101 RX5, .instantiable RX5 21, .initialized RX5, .fieldLink RX7 103 "LiquidTongue$Parser" "counted" "I", .methodLink RX7 106 yX5_init, .instanceMethod yX5_init, .code yX7_here cX7_here 1 (some .int), .methodLink RX7 95 yX7_here, .instanceMethod yX7_here, .selects RX7 yX7_here yX7_here, .initialized RX7, .fieldLink RX7 50 "LiquidTongue$Parser" "words" "LLiquidTongue$Words;", .fieldLink RX7 89 "LiquidTongue$Words" "places" "[I", .fieldLink RX7 86 "LiquidTongue$Parser" "at" "I", .code yX5_init cX5_init 4 none, .methodLink RX5 1 objectInit, .instanceMethod objectInit, .code objectInit ⟨#[0xb1]⟩ 1 none, .fieldLink RX5 7 "LiquidTongue$Node" "kind" "I", .fieldLink RX5 13 "LiquidTongue$Node" "place" "I", .fieldLink RX5 16 "LiquidTongue$Node" "counted" "I", .fieldLink RX5 19 "LiquidTongue$Node" "mark" "I"] ++ (wsX50 ++ wsX70 ++ wsX110)
abbrev wN_X7_node : List Cond := .code yX7_node cX7_node 2 (some (.object "LiquidTongue$Node")) :: wnN
theorem iwN0_X5 : ∀ w ∈ wsX50, w ∈ wnN := fun w h => List.mem_append_right _ (List.mem_append_left _ (List.mem_append_left _ h))
theorem iwN_X5 {q : Cond} : ∀ w ∈ wsX50, w ∈ q :: wnN := fun w h => List.mem_cons_of_mem _ (iwN0_X5 w h)
theorem igN_X5 : GoodIn wnN wsX50 := goodIn_sub iwN0_X5 (by decide +kernel)
theorem iwN0_X7 : ∀ w ∈ wsX70, w ∈ wnN := fun w h => List.mem_append_right _ (List.mem_append_left _ (List.mem_append_right _ h))
theorem iwN_X7 {q : Cond} : ∀ w ∈ wsX70, w ∈ q :: wnN := fun w h => List.mem_cons_of_mem _ (iwN0_X7 w h)
theorem igN_X7 : GoodIn wnN wsX70 := goodIn_sub iwN0_X7 (by decide +kernel)
theorem iwN0_X11 : ∀ w ∈ wsX110, w ∈ wnN := fun w h => List.mem_append_right _ (List.mem_append_right _ h)
theorem iwN_X11 {q : Cond} : ∀ w ∈ wsX110, w ∈ q :: wnN := fun w h => List.mem_cons_of_mem _ (iwN0_X11 w h)
theorem igN_X11 : GoodIn wnN wsX110 := goodIn_sub iwN0_X11 (by decide +kernel)
theorem wnN_good : wnN.all goodWord = true := by decide +kernel
theorem gN_all : GoodIn wnN wnN := goodIn_sub (fun _ h => h) wnN_good
theorem gN_X7_95_X7_here : GoodIn wnN (wsV RX7 95 RX7 yX7_here wsX7_here) := goodIn_app (gi_cons (List.mem_append_left _ (List.mem_of_getElem? (i := 7) rfl)) rfl (gi_cons (List.mem_append_left _ (List.mem_of_getElem? (i := 8) rfl)) rfl (gi_cons (List.mem_append_left _ (List.mem_of_getElem? (i := 9) rfl)) rfl (gi_cons (List.mem_append_left _ (List.mem_of_getElem? (i := 10) rfl)) rfl gi_nil)))) (gi_cons (List.mem_append_left _ (List.mem_of_getElem? (i := 6) rfl)) rfl (goodIn_app (goodIn_app (gi_cons (List.mem_append_left _ (List.mem_of_getElem? (i := 11) rfl)) rfl (gi_cons (List.mem_append_left _ (List.mem_of_getElem? (i := 12) rfl)) rfl (gi_cons (List.mem_append_left _ (List.mem_of_getElem? (i := 13) rfl)) rfl gi_nil))) igN_X7) igN_X11))
theorem gN_X7_106_X5_init : GoodIn wnN (wsX5_init) := (gi_cons (List.mem_append_left _ (List.mem_of_getElem? (i := 14) rfl)) rfl (goodIn_app (gi_cons (List.mem_append_left _ (List.mem_of_getElem? (i := 15) rfl)) rfl (gi_cons (List.mem_append_left _ (List.mem_of_getElem? (i := 16) rfl)) rfl (gi_cons (List.mem_append_left _ (List.mem_of_getElem? (i := 17) rfl)) rfl (gi_cons (List.mem_append_left _ (List.mem_of_getElem? (i := 18) rfl)) rfl (gi_cons (List.mem_append_left _ (List.mem_of_getElem? (i := 19) rfl)) rfl (gi_cons (List.mem_append_left _ (List.mem_of_getElem? (i := 20) rfl)) rfl (gi_cons (List.mem_append_left _ (List.mem_of_getElem? (i := 21) rfl)) rfl gi_nil))))))) igN_X5))
set_option maxHeartbeats 4000000 in
set_option maxRecDepth 100000 in
/-- node(kind): a new Node of this kind, at the place of the word that is read -/
theorem c_X7_node (l : Launch) (dC : Nat → ClassId) (dI : Nat → Nat → Nat) (sz : Nat) (h0 wo qp : Nat) (cp : ClassId) (fs gs : List Value) (np : Nat) (fp : Nat → Int32) (p0 at0 cn : Int32) (hfl : fs.length = 18) (hgl : gs.length = 6) (hfw : fs[0]? = some (.ref wo)) (hfa : fs[11]? = some (.int at0)) (hfc : fs[12]? = some (.int cn)) (hgp : gs[2]? = some (.ref qp)) (hin0 : vp_in at0 np) : Met l yX7_node wN_X7_node ({ frames := 2, cells := 1, slots := 21, locals := 40 }) (zPc dC dI sz [.ref h0, .int p0] [(h0, .inr (9, fs)), (wo, .inr (13, gs)), (qp, .inl (cp, np, .inl fp))] [(cp, .int)]) (va_Qq (fun (r : Option Nat) (u : Nat) => r = some u) (zB dC dI (fun _ => [(cp, .int)]) (fun u : Nat => [(h0, .inr (9, fs)), (wo, .inr (13, gs)), (qp, .inl (cp, np, .inl fp)), (u, .inr (7, ((((zdef tyX5 21).set 0 (.int p0)).set 1 (.int (fp at0.toNatClampNeg))).set 2 (.int cn)).set 3 (.int (fp at0.toNatClampNeg))))]) (va_A [(h0, .inr (9, fs)), (wo, .inr (13, gs)), (qp, .inl (cp, np, .inl fp))] sz)) (va_A [(h0, .inr (9, fs)), (wo, .inr (13, gs)), (qp, .inl (cp, np, .inl fp))] sz)) 1 21 (va_A [(h0, .inr (9, fs)), (wo, .inr (13, gs)), (qp, .inl (cp, np, .inl fp))] sz) := by
  refine Met.ofW (cc := cX7_node) (maxL := 2) (ret := (some (.object "LiquidTongue$Node"))) (by decide) rfl ?_
  intro p e s m args below meth c s₁ B hml hv
  obtain ⟨rfl, hsz, hP, hK, hD0⟩ := hv
  have hx := B.exec
  have hb := B.bytes
  have hr := B.returns
  have hts := atoms_spec (ws := wN_X7_node) B.pre
  have hown : s.vm.findClass RX7 = some m.cls := findClass_of_methodNamed B.named
  have hlocks := B.notSynchronized
  subst hsz
  have hD := hD0.self (sz := s.heap.size)
  generalize hAe : va_A [(h0, .inr (9, fs)), (wo, .inr (13, gs)), (qp, .inl (cp, np, .inl fp))] s.heap.size = A at hD ⊢
  have hA : ∀ q : Nat, s.heap.size ≤ q → A q := fun q h => by rw [← hAe]; exact Or.inr h
  have hS : va_S A s.heap s.heap [] := va_S.rf
  have hP : va_P (dC, dI) vwCl [(h0, .inr (9, fs)), (wo, .inr (13, gs)), (qp, .inl (cp, np, .inl fp))] s.heap := hP
  have hl := lv_entry ([.ref h0, .int p0]) (n := 2) (Nat.le_of_ble_eq_true rfl)
  rw [lg_entry_eq]
  generalize (lg_sl ([.ref h0, .int p0]) ++ List.replicate (2 - (lg_sl ([.ref h0, .int p0])).length) Slot.unset).toArray = ls at hl ⊢
  have hl : lv_has ls 2 [(0, .ref h0), (1, .int p0)] := hl
  refine va_new (ci := 7) (fs := zdef tyX5 21) (C := RX5) (T := TX5) (N := 21) hx hb hts iwN_X5 tyX5 tyX5_ok hown (hts (.classLink RX7 101 RX5) (by decide +kernel)) (hts (.instantiable RX5 21) (by decide +kernel)) (hts (.initialized RX5) (by decide +kernel)) hK hP hD hS hA rfl (fun j hj => zdef_V hj) (Nat.le_of_ble_eq_true rfl) (Nat.le_of_ble_eq_true rfl) dX7_node_0 (fun q_1 H hP hD hS => ?_)
  have hP : va_P (dC, dI) vwCl [(h0, .inr (9, fs)), (wo, .inr (13, gs)), (qp, .inl (cp, np, .inl fp)), (q_1, .inr (7, (zdef tyX5 21)))] H := hP
  have hD : va_D A [(h0, .inr (9, fs)), (wo, .inr (13, gs)), (qp, .inl (cp, np, .inl fp)), (q_1, .inr (7, (zdef tyX5 21)))] := hD
  refine W.widen (k := 1) (n := 21) (Nat.le_of_ble_eq_true rfl) (Nat.le_of_ble_eq_true rfl) ?_
  refine lv_dup hx hb dX7_node_3 rfl ?_
  refine lv_iload_n hx hb dX7_node_4 rfl (lv_at hl 1 rfl) ?_
  refine lv_aload_n hx hb dX7_node_5 rfl (lv_at hl 0 rfl) ?_
  have hPc := hP.sub (ws' := [(h0, .inr (9, fs)), (wo, .inr (13, gs)), (qp, .inl (cp, np, .inl fp))]) [0, 1, 2] rfl
  have hDc := hD.sub (ws' := [(h0, .inr (9, fs)), (wo, .inr (13, gs)), (qp, .inl (cp, np, .inl fp))]) [0, 1, 2] (by decide) rfl
  have hKc := hK.sub (tys' := [(cp, .int)]) [0] rfl
  have hFc := va_free (wc := [(h0, .inr (9, fs)), (wo, .inr (13, gs)), (qp, .inl (cp, np, .inl fp))]) hD hS hA [0, 1, 2] rfl
  refine va_calli (va_runV (As := []) (rest := [.int p0, .ref q_1, .ref q_1]) ⟨hx, hb, hml, hown, hts⟩ (c_X7_here_r0 l dC dI H.size h0 fs wo gs qp at0 np cp fp hfl hfw hgl hgp hfa hin0) (cwV 0 hts (gi_tail gN_X7_95_X7_here) rfl rfl rfl (by decide +kernel) ⟨Nat.le_of_ble_eq_true rfl, Nat.le_of_ble_eq_true rfl⟩) ⟨zPc_blind, va_recv hKc hPc (ci := 9) (q0 := 0) rfl rfl, fun U hU hW => zPc_at hPc hKc hDc hU hW⟩ rfl rfl hl.1 rfl (lv_room (Nat.le_of_ble_eq_true rfl)) dX7_node_6 ⟨Nat.le_of_ble_eq_true rfl, Nat.le_of_ble_eq_true rfl⟩) hS (fun q _ h => hFc q h) hFc (fun r_2 u t H1 locs ht hvm hw hB hz1 hk1 hS => ?_)
  obtain ⟨hP1, hK1, hD1⟩ := hB
  have hw := hw.symm
  subst hw
  rw [ht] at hP1
  have hK1 := va_K.moved hvm.symm hK1
  obtain ⟨hP, hD⟩ := va_join (wr := [(q_1, .inr (7, (zdef tyX5 21)))]) (w1 := [(h0, .inr (9, fs)), (wo, .inr (13, gs)), (qp, .inl (cp, np, .inl fp))]) hP hD [0, 1, 2] [3] rfl rfl (by decide) (by decide) hk1 hFc hP1 hD1
  generalize H1 = H at hP hS ⊢
  have hP : va_P (dC, dI) vwCl [(q_1, .inr (7, (zdef tyX5 21))), (h0, .inr (9, fs)), (wo, .inr (13, gs)), (qp, .inl (cp, np, .inl fp))] H := hP
  have hD : va_D A [(q_1, .inr (7, (zdef tyX5 21))), (h0, .inr (9, fs)), (wo, .inr (13, gs)), (qp, .inl (cp, np, .inl fp))] := hD
  refine lv_aload_n hx hb dX7_node_9 rfl (lv_at hl 0 rfl) ?_
  refine va_get (D := (dC, dI)) (ci := 9) (v := .int cn) (C := RX7) (T := TX7) (N := 18) hx hb hts iwN_X7 hown hK hP 1 rfl rfl 12 (by decide) (hts (.fieldLink RX7 103 "LiquidTongue$Parser" "counted" "I") (by decide +kernel)) (fun _ h9 => h9) hfc dX7_node_10 ?_
  have hPc := hP.sub (ws' := [(q_1, .inr (7, (zdef tyX5 21)))]) [0] rfl
  have hDc := hD.sub (ws' := [(q_1, .inr (7, (zdef tyX5 21)))]) [0] (by decide) rfl
  have hKc := hK.sub (tys' := []) [] rfl
  have hFc := va_free (wc := [(q_1, .inr (7, (zdef tyX5 21)))]) hD hS hA [0] rfl
  refine va_callv (va_runI (As := [.int p0, .int (fp at0.toNatClampNeg), .int cn]) (rest := [.ref q_1]) ⟨hx, hb, hml, hown, hts⟩ (c_X5_init_r0 l dC dI H.size q_1 (zdef tyX5 21) p0 (fp at0.toNatClampNeg) cn (zdef_len _ _)) (cwI 3 hts (gi_tail gN_X7_106_X5_init) rfl rfl rfl (hts (.initialized RX5) (by decide +kernel)) (hts (.methodLink RX7 106 yX5_init) (by decide +kernel)) (hts (.instanceMethod yX5_init) (by decide +kernel)) rfl (by decide +kernel) ⟨Nat.le_of_ble_eq_true rfl, Nat.le_of_ble_eq_true rfl⟩) ⟨zPc_blind, fun U hU hW => zPc_at hPc hKc hDc hU hW⟩ rfl rfl hl.1 rfl (lv_room (Nat.le_of_ble_eq_true rfl)) dX7_node_13 ⟨Nat.le_of_ble_eq_true rfl, Nat.le_of_ble_eq_true rfl⟩) hS (fun q _ h => hFc q h) hFc (fun u t H1 locs ht hvm hw hB hz1 hk1 hS => ?_)
  obtain ⟨hP1, hK1, hD1⟩ := hB
  rw [ht] at hP1
  have hK1 := va_K.moved hvm.symm hK1
  obtain ⟨hP, hD⟩ := va_join (wr := [(h0, .inr (9, fs)), (wo, .inr (13, gs)), (qp, .inl (cp, np, .inl fp))]) (w1 := [(q_1, .inr (7, (((((zdef tyX5 21).set 0 (.int p0)).set 1 (.int (fp at0.toNatClampNeg))).set 2 (.int cn)).set 3 (.int (fp at0.toNatClampNeg)))))]) hP hD [0] [1, 2, 3] rfl rfl (by decide) (by decide) hk1 hFc hP1 hD1
  generalize H1 = H at hP hS ⊢
  have hP : va_P (dC, dI) vwCl [(h0, .inr (9, fs)), (wo, .inr (13, gs)), (qp, .inl (cp, np, .inl fp)), (q_1, .inr (7, (((((zdef tyX5 21).set 0 (.int p0)).set 1 (.int (fp at0.toNatClampNeg))).set 2 (.int cn)).set 3 (.int (fp at0.toNatClampNeg)))))] H := hP
  have hD : va_D A [(h0, .inr (9, fs)), (wo, .inr (13, gs)), (qp, .inl (cp, np, .inl fp)), (q_1, .inr (7, (((((zdef tyX5 21).set 0 (.int p0)).set 1 (.int (fp at0.toNatClampNeg))).set 2 (.int cn)).set 3 (.int (fp at0.toNatClampNeg)))))] := hD
  have hP9 := hP.sub (ws' := [(h0, .inr (9, fs)), (wo, .inr (13, gs)), (qp, .inl (cp, np, .inl fp)), (q_1, .inr (7, (((((zdef tyX5 21).set 0 (.int p0)).set 1 (.int (fp at0.toNatClampNeg))).set 2 (.int cn)).set 3 (.int (fp at0.toNatClampNeg)))))]) [0, 1, 2, 3] rfl
  have hD9 := hD.sub (ws' := [(h0, .inr (9, fs)), (wo, .inr (13, gs)), (qp, .inl (cp, np, .inl fp)), (q_1, .inr (7, (((((zdef tyX5 21).set 0 (.int p0)).set 1 (.int (fp at0.toNatClampNeg))).set 2 (.int cn)).set 3 (.int (fp at0.toNatClampNeg)))))]) [0, 1, 2, 3] (by decide) rfl
  have hK9 := hK.sub (tys' := [(cp, .int)]) [0] rfl
  exact W.aret (v := .ref q_1) hx hb hr (Or.inl ⟨_, rfl⟩) (Or.inr ⟨_, rfl⟩) (fun t ht hW => ⟨⟨some q_1, q_1, rfl, rfl, (zB_mk (by rw [ht]; exact hP9) (va_K.moved hW.alike hK9) hD9)⟩, hS.F ht⟩) hS.2.2 dX7_node_16
