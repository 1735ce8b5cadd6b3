/-! Parser.use where the word is no NAME: the FAULT is there, null is answered; Sum.add of null: nothing -/
def wnU : List Cond := [.code yX7_kind cX7_kind 1 (some .int), .methodLink RX7 57 yX7_kind, .instanceMethod yX7_kind, .selects RX7 yX7_kind yX7_kind, .initialized RX7, .fieldLink RX7 40 "LiquidTongue$Parser" "fault" "I", .fieldLink RX7 50 "LiquidTongue$Parser" "words" "LLiquidTongue$Words;", .fieldLink RX7 81 "LiquidTongue$Words" "kinds" "[I", .fieldLink RX7 86 "LiquidTongue$Parser" "at" "I", .code yX7_fail cX7_fail 1 none, .methodLink RX7 78 yX7_fail, .instanceMethod yX7_fail, .selects RX7 yX7_fail yX7_fail, .methodLink RX7 95 yX7_here, .instanceMethod yX7_here, .selects RX7 yX7_here yX7_here, .code yX7_here cX7_here 1 (some .int), .fieldLink RX7 89 "LiquidTongue$Words" "places" "[I"] ++ (wsX70 ++ wsX110)
abbrev wU_X7_use : List Cond := .code yX7_use cX7_use 2 (some (.object "LiquidTongue$Name")) :: wnU
abbrev wU_X9_add : List Cond := .code yX9_add cX9_add 4 none :: wnU
theorem iwU0_X7 : ∀ w ∈ wsX70, w ∈ wnU := fun w h => List.mem_append_right _ (List.mem_append_left _ h)
theorem iwU_X7 {q : Cond} : ∀ w ∈ wsX70, w ∈ q :: wnU := fun w h => List.mem_cons_of_mem _ (iwU0_X7 w h)
theorem igU_X7 : GoodIn wnU wsX70 := goodIn_sub iwU0_X7 (by decide +kernel)
theorem iwU0_X11 : ∀ w ∈ wsX110, w ∈ wnU := fun w h => List.mem_append_right _ (List.mem_append_right _ h)
theorem iwU_X11 {q : Cond} : ∀ w ∈ wsX110, w ∈ q :: wnU := fun w h => List.mem_cons_of_mem _ (iwU0_X11 w h)
theorem igU_X11 : GoodIn wnU wsX110 := goodIn_sub iwU0_X11 (by decide +kernel)
theorem wnU_good : wnU.all goodWord = true := by decide +kernel
theorem gU_all : GoodIn wnU wnU := goodIn_sub (fun _ h => h) wnU_good
theorem gU_X7_57_X7_kind : GoodIn wnU (wsV RX7 57 RX7 yX7_kind wsX7_kind) := goodIn_app (gi_cons (List.mem_append_left _ (List.mem_of_getElem? (i := 1) rfl)) rfl (gi_cons (List.mem_append_left _ (List.mem_of_getElem? (i := 2) rfl)) rfl (gi_cons (List.mem_append_left _ (List.mem_of_getElem? (i := 3) rfl)) rfl (gi_cons (List.mem_append_left _ (List.mem_of_getElem? (i := 4) rfl)) rfl gi_nil)))) (gi_cons (List.mem_append_left _ (List.mem_of_getElem? (i := 0) rfl)) rfl (goodIn_app (goodIn_app (gi_cons (List.mem_append_left _ (List.mem_of_getElem? (i := 5) rfl)) rfl (gi_cons (List.mem_append_left _ (List.mem_of_getElem? (i := 6) rfl)) rfl (gi_cons (List.mem_append_left _ (List.mem_of_getElem? (i := 7) rfl)) rfl (gi_cons (List.mem_append_left _ (List.mem_of_getElem? (i := 8) rfl)) rfl gi_nil)))) igU_X7) igU_X11))
theorem gU_X7_78_X7_fail : GoodIn wnU (wsV RX7 78 RX7 yX7_fail wsX7_fail) := goodIn_app (gi_cons (List.mem_append_left _ (List.mem_of_getElem? (i := 10) rfl)) rfl (gi_cons (List.mem_append_left _ (List.mem_of_getElem? (i := 11) rfl)) rfl (gi_cons (List.mem_append_left _ (List.mem_of_getElem? (i := 12) rfl)) rfl (gi_cons (List.mem_append_left _ (List.mem_of_getElem? (i := 4) rfl)) rfl gi_nil)))) (gi_cons (List.mem_append_left _ (List.mem_of_getElem? (i := 9) rfl)) rfl (goodIn_app (goodIn_app (gi_cons (List.mem_append_left _ (List.mem_of_getElem? (i := 5) rfl)) rfl (gi_cons (List.mem_append_left _ (List.mem_of_getElem? (i := 13) rfl)) rfl (gi_cons (List.mem_append_left _ (List.mem_of_getElem? (i := 14) rfl)) rfl (gi_cons (List.mem_append_left _ (List.mem_of_getElem? (i := 15) rfl)) rfl (gi_cons (List.mem_append_left _ (List.mem_of_getElem? (i := 4) rfl)) rfl (gi_cons (List.mem_append_left _ (List.mem_of_getElem? (i := 16) rfl)) rfl (gi_cons (List.mem_append_left _ (List.mem_of_getElem? (i := 6) rfl)) rfl (gi_cons (List.mem_append_left _ (List.mem_of_getElem? (i := 17) rfl)) rfl (gi_cons (List.mem_append_left _ (List.mem_of_getElem? (i := 8) rfl)) rfl gi_nil))))))))) igU_X7) igU_X11))
set_option maxHeartbeats 4000000 in
set_option maxRecDepth 100000 in
/-- use() where the word is no NAME and no FAULT is there yet -/
theorem c_X7_use_no (l : Launch) (dC : Nat → ClassId) (dI : Nat → Nat → Nat) (sz : Nat) (h0 wo qk qp : Nat) (ck cp : ClassId) (fs gs : List Value) (nk np : Nat) (fk fp : Nat → Int32) (at0 fa : Int32) (hfl : fs.length = 18) (hgl : gs.length = 6) (hfw : fs[0]? = some (.ref wo)) (hfa : fs[11]? = some (.int at0)) (hff : fs[15]? = some (.int fa)) (hgk : gs[1]? = some (.ref qk)) (hgp : gs[2]? = some (.ref qp)) (hink : vp_in at0 nk) (hinp : vp_in at0 np) (hno : ¬ fk at0.toNatClampNeg = 1) (hneg : fa < 0) (hneg2 : ¬ 0 ≤ fa) : Met l yX7_use wU_X7_use ({ frames := 2, cells := 0, slots := 0, locals := 40 }) (zPc dC dI sz [.ref h0] [(h0, .inr (9, fs)), (wo, .inr (13, gs)), (qk, .inl (ck, nk, .inl fk)), (qp, .inl (cp, np, .inl fp))] [(ck, .int), (cp, .int)]) (va_Qq (fun (r : Option Nat) (_ : Unit) => r = none) (zB dC dI (fun _ => [(ck, .int), (cp, .int)]) (fun _ : Unit => [(h0, .inr (9, fs.set 15 (.int (fp at0.toNatClampNeg)))), (wo, .inr (13, gs)), (qk, .inl (ck, nk, .inl fk)), (qp, .inl (cp, np, .inl fp))]) (va_A [(h0, .inr (9, fs)), (wo, .inr (13, gs)), (qk, .inl (ck, nk, .inl fk)), (qp, .inl (cp, np, .inl fp))] sz)) (va_A [(h0, .inr (9, fs)), (wo, .inr (13, gs)), (qk, .inl (ck, nk, .inl fk)), (qp, .inl (cp, np, .inl fp))] sz)) 0 0 (va_A [(h0, .inr (9, fs)), (wo, .inr (13, gs)), (qk, .inl (ck, nk, .inl fk)), (qp, .inl (cp, np, .inl fp))] sz) := by
  refine Met.ofW (cc := cX7_use) (maxL := 2) (ret := (some (.object "LiquidTongue$Name"))) (by decide) rfl ?_
  intro p e s m args below meth c s₁ B hml hv
  obtain ⟨rfl, hsz, hP, hK, hD0⟩ := hv
  have hx := B.exec
  have hb := B.bytes
  have hr := B.returns
  have hts := atoms_spec (ws := wU_X7_use) B.pre
  have hown : s.vm.findClass RX7 = some m.cls := findClass_of_methodNamed B.named
  have hlocks := B.notSynchronized
  subst hsz
  have hD := hD0.self (sz := s.heap.size)
  generalize hAe : va_A [(h0, .inr (9, fs)), (wo, .inr (13, gs)), (qk, .inl (ck, nk, .inl fk)), (qp, .inl (cp, np, .inl fp))] s.heap.size = A at hD ⊢
  have hA : ∀ q : Nat, s.heap.size ≤ q → A q := fun q h => by rw [← hAe]; exact Or.inr h
  have hS : va_S A s.heap s.heap [] := va_S.rf
  have hP : va_P (dC, dI) vwCl [(h0, .inr (9, fs)), (wo, .inr (13, gs)), (qk, .inl (ck, nk, .inl fk)), (qp, .inl (cp, np, .inl fp))] s.heap := hP
  have hl := lv_entry ([.ref h0]) (n := 2) (Nat.le_of_ble_eq_true rfl)
  rw [lg_entry_eq]
  generalize (lg_sl ([.ref h0]) ++ List.replicate (2 - (lg_sl ([.ref h0])).length) Slot.unset).toArray = ls at hl ⊢
  have hl : lv_has ls 2 [(0, .ref h0)] := hl
  refine lv_aload_n hx hb dX7_use_0 rfl (lv_at hl 0 rfl) ?_
  have hPc := hP.sub (ws' := [(h0, .inr (9, fs)), (wo, .inr (13, gs)), (qk, .inl (ck, nk, .inl fk))]) [0, 1, 2] rfl
  have hDc := hD.sub (ws' := [(h0, .inr (9, fs)), (wo, .inr (13, gs)), (qk, .inl (ck, nk, .inl fk))]) [0, 1, 2] (by decide) rfl
  have hKc := hK.sub (tys' := [(ck, .int)]) [0] rfl
  have hFc := va_free (wc := [(h0, .inr (9, fs)), (wo, .inr (13, gs)), (qk, .inl (ck, nk, .inl fk))]) hD hS hA [0, 1, 2] rfl
  refine va_calli (va_runV (As := []) (rest := []) ⟨hx, hb, hml, hown, hts⟩ (c_X7_kind_r0 l dC dI s.heap.size h0 fs fa wo gs qk at0 nk ck fk hfl hff hfw hgl hgk hfa hink hneg) (cwV 0 hts (gi_tail gU_X7_57_X7_kind) rfl rfl rfl (by decide +kernel) ⟨Nat.le_of_ble_eq_true rfl, Nat.le_of_ble_eq_true rfl⟩) ⟨zPc_blind, va_recv hKc hPc (ci := 9) (q0 := 0) rfl rfl, fun U hU hW => zPc_at hPc hKc hDc hU hW⟩ rfl rfl hl.1 rfl (lv_room (Nat.le_of_ble_eq_true rfl)) dX7_use_1 ⟨Nat.le_of_ble_eq_true rfl, Nat.le_of_ble_eq_true rfl⟩) hS (fun q _ h => hFc q h) hFc (fun r_1 u t H1 locs ht hvm hw hB hz1 hk1 hS => ?_)
  obtain ⟨hP1, hK1, hD1⟩ := hB
  have hw := hw.symm
  subst hw
  rw [ht] at hP1
  have hK1 := va_K.moved hvm.symm hK1
  obtain ⟨hP, hD⟩ := va_join (wr := [(qp, .inl (cp, np, .inl fp))]) (w1 := [(h0, .inr (9, fs)), (wo, .inr (13, gs)), (qk, .inl (ck, nk, .inl fk))]) hP hD [0, 1, 2] [3] rfl rfl (by decide) (by decide) hk1 hFc hP1 hD1
  generalize H1 = H at hP hS ⊢
  have hP : va_P (dC, dI) vwCl [(qp, .inl (cp, np, .inl fp)), (h0, .inr (9, fs)), (wo, .inr (13, gs)), (qk, .inl (ck, nk, .inl fk))] H := hP
  have hD : va_D A [(qp, .inl (cp, np, .inl fp)), (h0, .inr (9, fs)), (wo, .inr (13, gs)), (qk, .inl (ck, nk, .inl fk))] := hD
  refine lv_iconst (v := 1) hx hb dX7_use_4 (by decide) ?_
  refine lv_icmp_eq (tgt := 14) hx hb dX7_use_5 (by decide) (fun c_1 => absurd c_1 hno) (fun c_1 => ?_)
  refine lv_aload_n hx hb dX7_use_8 rfl (lv_at hl 0 rfl) ?_
  have hPc := hP.sub (ws' := [(h0, .inr (9, fs)), (wo, .inr (13, gs)), (qp, .inl (cp, np, .inl fp))]) [1, 2, 0] rfl
  have hDc := hD.sub (ws' := [(h0, .inr (9, fs)), (wo, .inr (13, gs)), (qp, .inl (cp, np, .inl fp))]) [1, 2, 0] (by decide) rfl
  have hKc := hK.sub (tys' := [(cp, .int)]) [1] rfl
  have hFc := va_free (wc := [(h0, .inr (9, fs)), (wo, .inr (13, gs)), (qp, .inl (cp, np, .inl fp))]) hD hS hA [1, 2, 0] rfl
  refine va_callv (va_runV (As := []) (rest := []) ⟨hx, hb, hml, hown, hts⟩ (c_X7_fail_r1 l dC dI H.size h0 fs fa wo gs qp at0 np cp fp hfl hff hfw hgl hgp hfa hinp hneg2) (cwV 0 hts (gi_tail gU_X7_78_X7_fail) rfl rfl rfl (by decide +kernel) ⟨Nat.le_of_ble_eq_true rfl, Nat.le_of_ble_eq_true rfl⟩) ⟨zPc_blind, va_recv hKc hPc (ci := 9) (q0 := 0) rfl rfl, fun U hU hW => zPc_at hPc hKc hDc hU hW⟩ rfl rfl hl.1 rfl (lv_room (Nat.le_of_ble_eq_true rfl)) dX7_use_9 ⟨Nat.le_of_ble_eq_true rfl, Nat.le_of_ble_eq_true rfl⟩) hS (fun q _ h => hFc q h) hFc (fun u t H1 locs ht hvm hw hB hz1 hk1 hS => ?_)
  obtain ⟨hP1, hK1, hD1⟩ := hB
  rw [ht] at hP1
  have hK1 := va_K.moved hvm.symm hK1
  obtain ⟨hP, hD⟩ := va_join (wr := [(qk, .inl (ck, nk, .inl fk))]) (w1 := [(h0, .inr (9, (fs.set 15 (.int (fp at0.toNatClampNeg))))), (wo, .inr (13, gs)), (qp, .inl (cp, np, .inl fp))]) hP hD [1, 2, 0] [3] rfl rfl (by decide) (by decide) hk1 hFc hP1 hD1
  generalize H1 = H at hP hS ⊢
  have hP : va_P (dC, dI) vwCl [(qk, .inl (ck, nk, .inl fk)), (h0, .inr (9, (fs.set 15 (.int (fp at0.toNatClampNeg))))), (wo, .inr (13, gs)), (qp, .inl (cp, np, .inl fp))] H := hP
  have hD : va_D A [(qk, .inl (ck, nk, .inl fk)), (h0, .inr (9, (fs.set 15 (.int (fp at0.toNatClampNeg))))), (wo, .inr (13, gs)), (qp, .inl (cp, np, .inl fp))] := hD
  refine lv_null hx hb dX7_use_12 ?_
  have hP9 := hP.sub (ws' := [(h0, .inr (9, (fs.set 15 (.int (fp at0.toNatClampNeg))))), (wo, .inr (13, gs)), (qk, .inl (ck, nk, .inl fk)), (qp, .inl (cp, np, .inl fp))]) [1, 2, 0, 3] rfl
  have hD9 := hD.sub (ws' := [(h0, .inr (9, (fs.set 15 (.int (fp at0.toNatClampNeg))))), (wo, .inr (13, gs)), (qk, .inl (ck, nk, .inl fk)), (qp, .inl (cp, np, .inl fp))]) [1, 2, 0, 3] (by decide) rfl
  have hK9 := hK.sub (tys' := [(ck, .int), (cp, .int)]) [0, 1] rfl
  exact W.aret (v := .null) hx hb hr (Or.inl ⟨_, rfl⟩) (Or.inl rfl) (fun t ht hW => ⟨⟨none, (), rfl, rfl, (zB_mk (by rw [ht]; exact hP9) (va_K.moved hW.alike hK9) hD9)⟩, hS.F ht⟩) hS.2.2 dX7_use_13
set_option maxHeartbeats 4000000 in
set_option maxRecDepth 100000 in
/-- add(null, by): nothing -/
theorem c_X9_add_null (l : Launch) (dC : Nat → ClassId) (dI : Nat → Nat → Nat) (sz : Nat) (h0 : Nat) (fs : List Value) (p1 : Int32) (hfl : fs.length = 4) : Met l yX9_add wU_X9_add ({ frames := 0, cells := 0, slots := 0, locals := 0 }) (zPc dC dI sz [.ref h0, .null, .int p1] [(h0, .inr (11, fs))] []) (va_Qv (fun _ : Unit => True) (zB dC dI (fun _ => []) (fun _ : Unit => [(h0, .inr (11, fs))]) (va_A [(h0, .inr (11, fs))] sz)) (va_A [(h0, .inr (11, fs))] sz)) 0 0 (va_A [(h0, .inr (11, fs))] sz) := by
  refine Met.ofW (cc := cX9_add) (maxL := 4) (ret := none) (by decide) rfl ?_
  intro p e s m args below meth c s₁ B hml hv
  obtain ⟨rfl, hsz, hP, hK, hD0⟩ := hv
  have hx := B.exec
  have hb := B.bytes
  have hr := B.returns
  have hts := atoms_spec (ws := wU_X9_add) B.pre
  have hown : s.vm.findClass RX9 = some m.cls := findClass_of_methodNamed B.named
  have hlocks := B.notSynchronized
  subst hsz
  have hD := hD0.self (sz := s.heap.size)
  generalize hAe : va_A [(h0, .inr (11, fs))] s.heap.size = A at hD ⊢
  have hA : ∀ q : Nat, s.heap.size ≤ q → A q := fun q h => by rw [← hAe]; exact Or.inr h
  have hS : va_S A s.heap s.heap [] := va_S.rf
  have hP : va_P (dC, dI) vwCl [(h0, .inr (11, fs))] s.heap := hP
  have hl := lv_entry ([.ref h0, .null, .int p1]) (n := 4) (Nat.le_of_ble_eq_true rfl)
  rw [lg_entry_eq]
  generalize (lg_sl ([.ref h0, .null, .int p1]) ++ List.replicate (4 - (lg_sl ([.ref h0, .null, .int p1])).length) Slot.unset).toArray = ls at hl ⊢
  have hl : lv_has ls 4 [(0, .ref h0), (1, .null), (2, .int p1)] := hl
  refine lv_aload_nN hx hb dX9_add_0 rfl (lv_at hl 1 rfl) ?_
  refine lv_ifnonnullN hx hb dX9_add_1 ?_
  have hP9 := hP.sub (ws' := [(h0, .inr (11, fs))]) [0] rfl
  have hD9 := hD.sub (ws' := [(h0, .inr (11, fs))]) [0] (by decide) rfl
  have hK9 := hK.sub (tys' := []) [] rfl
  exact W.vret hx hb hr (fun t ht hW => ⟨⟨(), rfl, trivial, (zB_mk (by rw [ht]; exact hP9) (va_K.moved hW.alike hK9) hD9)⟩, hS.F ht⟩) hS.2.2 dX9_add_4
