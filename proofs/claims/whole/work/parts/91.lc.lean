/-! the law: both plain states in one machine; calls of class and reference -/
/-- class at its plain state σ, reference (at y, its rows at qs) at its plain state τ, apart; all cells are newer than the law's start -/
def lInv (dC : Nat → ClassId) (dI : Nat → Nat → Nat) (s : State) (y : Nat) (qs : List Nat) (cs : List ClassId) (σ : oSt) (τ : zSt) (H : Heap) (locs : List Loc) (cells : Nat) : Prop := oR dC dI (fun q => s.heap.size ≤ q) s σ H ∧ va_P (dC, dI) vwCl (zwR y qs cs τ) H ∧ va_K (dC, dI) vwCl (ztys cs) s ∧ va_D (fun q => s.heap.size ≤ q) (zwR y qs cs τ) ∧ (∀ q, q = y ∨ q ∈ qs → σ.1 q = none) ∧ σ.2.1 = s.heap.size + cells ∧ σ.2.1 ≤ H.size ∧ va_S (fun q => s.heap.size ≤ q) s.heap H locs ∧ qs.length = 122 ∧ cs.length = 122
theorem oR.kept {dC : Nat → ClassId} {dI : Nat → Nat → Nat} {A : Nat → Prop} {s : State} {σ : oSt} {H H1 : Heap} (h : oR dC dI A s σ H) (hq : ∀ a, (σ.1 a).isSome = true → H1[a]? = H[a]?) : oR dC dI A s σ H1 := by
  obtain ⟨ws, tys, h1, h2, h3, h4⟩ := h
  refine ⟨ws, tys, h1.kept (fun k q hk => hq q.1 ?_), h2, h3, h4⟩
  obtain ⟨c, h5, -⟩ := h4.2 k q.1 q.2 hk
  rw [h5]; rfl
theorem zwR_ad {y : Nat} {qs : List Nat} {cs : List ClassId} {τ : zSt} (hq : qs.length = 122) {k : Nat} {q : Nat × va_E} (h : (zwR y qs cs τ)[k]? = some q) : q.1 = y ∨ q.1 ∈ qs := by
  cases k with
  | zero =>
    have h9 : (y, _) = q := Option.some.inj h
    rw [← h9]; exact Or.inl rfl
  | succ i =>
    have hi : i < 122 := by
      have h7 := (List.getElem?_eq_some_iff.mp h).1
      simp [zwR] at h7
      omega
    rw [zwR_at hi] at h
    cases h
    refine Or.inr ?_
    show qs.getD i 0 ∈ qs
    rw [List.getD_eq_getElem?_getD, List.getElem?_eq_getElem (by omega)]
    exact List.getElem_mem _
theorem zwR_mem {y : Nat} {qs : List Nat} {cs : List ClassId} {τ : zSt} (hq : qs.length = 122) {a : Nat} (h : a = y ∨ a ∈ qs) : ∃ (k : Nat) (e : va_E), (zwR y qs cs τ)[k]? = some (a, e) := by
  rcases h with h | h
  · exact ⟨0, _, by rw [h]; rfl⟩
  · obtain ⟨i, hi⟩ := List.getElem?_of_mem h
    have hi1 : i < 122 := by
      have := (List.getElem?_eq_some_iff.mp hi).1
      omega
    refine ⟨i + 1, (zrw qs cs τ i).2, ?_⟩
    rw [zwR_at hi1]
    have h8 : qs.getD i 0 = a := by rw [List.getD_eq_getElem?_getD, hi]; rfl
    show some (qs.getD i 0, _) = _
    rw [h8]; rfl
section LC
variable {p : Program} {l : Launch} {e : Env} {s : State} {m : MethodId} {args : Array Value} {below : List Frame} {meth : Method} {c : Code} {H : Heap} {locs : List Loc} {cells slots : Nat} {Q : State → Prop} {pc : Nat} {ls : Array Slot} {rest : List Value} {dC : Nat → ClassId} {dI : Nat → Nat → Nat} {κ : oKv} {ks : Nat → Nat} {x y : Nat} {qs : List Nat} {cs : List ClassId} {σ u : oSt} {τ υ : zSt}
theorem lInv.low {q : Nat} (hI : lInv dC dI s y qs cs σ τ H locs cells) (h : oA σ q) : s.heap.size ≤ q := by
  rcases h with h | h
  · obtain ⟨d, hd⟩ := Option.isSome_iff_exists.mp h
    exact hI.1.in hd
  · have := hI.2.2.2.2.2.1
    omega
/-- behind a call of the class -/
theorem lInv.callO {t : State} {H1 : Heap} {locs1 : List Loc} (hI : lInv dC dI s y qs cs σ τ H locs cells) (hnx : σ.2.1 = H.size) (ht : t.heap = H1) (hvm : s.vm.Alike t.vm) (hB : oBw dC dI σ u t) (hk1 : ∀ q : Nat, q < H.size → ¬ oA σ q → H1[q]? = H[q]?) (hS1 : va_S (fun q => s.heap.size ≤ q) s.heap H1 locs1) : lInv dC dI s y qs cs u τ H1 locs1 (cells + (u.2.2.1 - σ.2.2.1)) := by
  obtain ⟨i1, i2, i3, i4, i5, i6, i7, i8, i9, i10⟩ := hI
  obtain ⟨b1, b2, b3, b4, b5, b6, b7⟩ := hB
  rw [ht] at b1 b7
  have hmo : ∀ q, q = y ∨ q ∈ qs → ¬ oA σ q ∧ q < H.size := fun q hq => by
    obtain ⟨k, e9, hk⟩ := zwR_mem (cs := cs) (τ := τ) i9 hq
    have hlt := (i2 k _ hk).lt
    refine ⟨fun h => ?_, hlt⟩
    rcases h with h | h
    · rw [i5 q hq] at h; cases h
    · rw [hnx] at h
      exact absurd hlt (Nat.not_lt.mpr h)
  refine ⟨(b1.moved hvm.symm).weaken (fun a c9 e9 => ?_), i2.kept (fun k q hk => ?_), i3, i4, fun q hq => ?_, by omega, b7, hS1, i9, i10⟩
  · rcases b1.in e9 with h | h
    · obtain ⟨d, hd⟩ := Option.isSome_iff_exists.mp h
      exact i1.in hd
    · show s.heap.size ≤ a
      omega
  · have h9 := hmo q.1 (zwR_ad i9 hk)
    exact hk1 q.1 h9.2 h9.1
  · cases h9 : u.1 q with
    | none => rfl
    | some c9 => exact absurd (b1.in h9) (hmo q hq).1
/-- behind a call of the reference -/
theorem lInv.callZ {t : State} {H1 : Heap} {locs1 : List Loc} (hI : lInv dC dI s y qs cs σ τ H locs cells) (ht : t.heap = H1) (hB : zBw dC dI y qs cs (zAd y qs H.size) υ t) (hz1 : H.size ≤ H1.size) (hk1 : ∀ q : Nat, q < H.size → ¬ zAd y qs H.size q → H1[q]? = H[q]?) (hS1 : va_S (fun q => s.heap.size ≤ q) s.heap H1 locs1) : lInv dC dI s y qs cs σ υ H1 locs1 cells := by
  obtain ⟨i1, i2, i3, i4, i5, i6, i7, i8, i9, i10⟩ := hI
  obtain ⟨b1, b2, b3⟩ := hB
  rw [ht] at b1
  refine ⟨i1.kept (fun a ha => hk1 a ?_ ?_), b1, i3, zwR_D i4, i5, i6, Nat.le_trans i7 hz1, hS1, i9, i10⟩
  · obtain ⟨d, hd⟩ := Option.isSome_iff_exists.mp ha
    exact i1.lt hd
  · intro h
    rcases h with h | h | h
    · rw [i5 a (Or.inl h)] at ha; cases ha
    · rw [i5 a (Or.inr h)] at ha; cases ha
    · obtain ⟨d, hd⟩ := Option.isSome_iff_exists.mp ha
      exact absurd (i1.lt hd) (Nat.not_lt.mpr h)
/-- a call of the class, answering an int -/
theorem lc_Oi {n j ix : Nat} {en : oMt} {as fs : List Value} {r : Int32} (S : CallFix p m c cL_law 4 s args lw_tbl RL) (hEv : oEv κ s.heap.size s) (hI : lInv dC dI s y qs cs σ τ H locs cells) (hMe : oMe l dC dI κ s.heap.size n en (.ref x :: as) σ (some (Value.int r), u)) (hmo : omo σ (some (Value.int r), u)) (he : omt[j]? = some en) (hs : en.2.2.2.2.1 = 0) (hr : okd en.2.2.2.2.2.1 = 2) (hl : as.length = en.2.2.2.1) (hcl : en.2.2.2.2.2.2 = RX12) (hgd : GoodIn lw_tbl (wsV RL ix RX12 en.1 (ows en))) (hx9 : σ.1 x = some (.inr (14, fs))) (hn : n ≤ 1900) (hcs : cells + (u.2.2.1 - σ.2.2.1) ≤ room_1.cells) (hss : slots + (u.2.2.2 - σ.2.2.2) ≤ room_1.slots) (hls : ls.size = 4) (hc : (rest.map fun v => v.category).sum ≤ 16) (d : decode cL_law pc = .ok (.invokevirtual ix, 3))
    (kk : ∀ (H1 : Heap) (locs1 : List Loc), lInv dC dI s y qs cs u τ H1 locs1 (cells + (u.2.2.1 - σ.2.2.1)) → W p l e room_1 s m args below meth c H1 locs1 (cells + (u.2.2.1 - σ.2.2.1)) (slots + (u.2.2.2 - σ.2.2.2)) Q (F0 m (pc + 3) ls (Value.int r :: rest))) : W p l e room_1 s m args below meth c H locs cells slots Q (F0 m pc ls (as.reverse ++ .ref x :: rest)) := by
  have hM : Met l en.1 (ows en) _ _ _ _ _ _ := hMe
  rw [oQ_i hr] at hM
  have hok := omt_ok en (List.mem_of_getElem? he)
  have h13 := hok.2.2.1
  have hRf : room_1.frames = 2048 := rfl
  have hRl : room_1.locals = 84000 := rfl
  refine oW_size (fun hup => ?_)
  have hnx : σ.2.1 = H.size := by
    have h1 := hI.2.2.2.2.2.1
    have h2 := hI.2.2.2.2.2.2.1
    omega
  have hrecv : ∃ cellB : Cell, H[x]? = some cellB ∧ cellB.vm.isStatics = false ∧ s.vm.findClass RX12 = some cellB.cls := ocls 14 (by decide) hI.1 hx9
  have hpre : ∀ U : State, U.heap = H → s.WarmedH U.vm → oPr dC dI κ s.heap.size (.ref x :: as) σ ((.ref x :: as) : List Value).toArray U := fun U hU hW => ⟨rfl, by rw [hU]; exact hnx, by
    have h9 := (hI.1.moved hW.alike).weaken (B := oA σ) (fun a z hz => Or.inl (by rw [hz]; rfl))
    rw [← hU] at h9
    exact h9, fun q hq => hI.low hq, hEv.call (fun q hq => hq) hI.2.2.2.2.2.2.2.1 hU hW⟩
  refine va_calli (za_runV (C := RX12) (As := as) (rest := rest) S hM (cwV en.2.2.2.1 S.2.2.2.2 hgd rfl rfl rfl ⟨hok.1.trans hcl, hok.2.2.2.2.1, hok.2.2.2.2.2, hok.2.1⟩ ⟨show n + 8 + 1 ≤ room_1.frames by omega, show 8 + (en.2.2.1 + 11) + (40 * n + 320) ≤ room_1.locals by omega⟩) (show 16 + (en.2.2.1 + 11) + (40 * n + 320) ≤ room_1.locals by omega) ⟨oPr_blind, hrecv, hpre⟩ rfl hl hls rfl (za_room hc) d ⟨hcs, hss⟩) hI.2.2.2.2.2.2.2.1 (fun q _ h => hI.low h) (fun q h => hI.low h) (fun r9 u9 t H1 locs1 ht hvm hp hB hz1 hk1 hS1 => ?_)
  have hp9 : (some (Value.int r9), u9) = (some (Value.int r), u) := hp
  cases hp9
  exact kk H1 locs1 (hI.callO hnx ht hvm hB hk1 hS1)
/-- a call of the reference, answering an int -/
theorem lc_Zi {n j ix : Nat} {en : zMt} {as : List Value} {r : Int32} (S : CallFix p m c cL_law 4 s args lw_tbl RL) (hKe : zKe ks s.heap.size s) (hI : lInv dC dI s y qs cs σ τ H locs cells) (hMe : zMe l dC dI ks s.heap.size y qs cs n en (.ref y :: as) τ (fun a w => (a, w) = (some (Value.int r), υ))) (he : zmt[j]? = some en) (hs : en.2.2.2.2.1 = false) (hr : okd en.2.2.2.2.2 = 2) (hl : as.length = en.2.2.2.1) (hgd : GoodIn lw_tbl (wsV RL ix RX13 en.1 (zws en))) (hn : n ≤ 1900) (hcs : cells ≤ room_1.cells) (hss : slots ≤ room_1.slots) (hls : ls.size = 4) (hc : (rest.map fun v => v.category).sum ≤ 16) (d : decode cL_law pc = .ok (.invokevirtual ix, 3))
    (kk : ∀ (H1 : Heap) (locs1 : List Loc), lInv dC dI s y qs cs σ υ H1 locs1 cells → W p l e room_1 s m args below meth c H1 locs1 cells slots Q (F0 m (pc + 3) ls (Value.int r :: rest))) : W p l e room_1 s m args below meth c H locs cells slots Q (F0 m pc ls (as.reverse ++ .ref y :: rest)) := by
  have hM0 : Met l en.1 (zws en) _ _ _ _ _ _ := hMe H.size
  have hQ : zQ en.2.2.2.2.2 (fun a w => (a, w) = (some (Value.int r), υ)) (zBw dC dI y qs cs (zAd y qs H.size)) (zAd y qs H.size) = va_Qi (fun r9 w => (some (Value.int r9), w) = (some (Value.int r), υ)) (zBw dC dI y qs cs (zAd y qs H.size)) (zAd y qs H.size) := by
    unfold zQ
    rw [if_neg (fun h9 => by rw [h9] at hr; cases hr), if_neg (fun h9 => by rw [h9] at hr; cases hr)]
  rw [hQ] at hM0
  have hok := zmt_ok en (List.mem_of_getElem? he)
  have h13 := hok.2.2.1
  have hRf : room_1.frames = 2048 := rfl
  have hRl : room_1.locals = 84000 := rfl
  have hz0 : s.heap.size ≤ H.size := hI.2.2.2.2.2.2.2.1.1
  have hlow : ∀ q, zAd y qs H.size q → s.heap.size ≤ q := zA0 hI.2.2.2.2.2.2.2.2.1 hI.2.2.2.1 hz0
  have hrecv : ∃ cellB : Cell, H[y]? = some cellB ∧ cellB.vm.isStatics = false ∧ s.vm.findClass RX13 = some cellB.cls := va_recv (q := (RX13, TX13, 196)) hI.2.2.1 hI.2.1 (ci := 15) rfl (q0 := 0) rfl
  have hpre : ∀ U : State, U.heap = H → s.WarmedH U.vm → zPr dC dI ks s.heap.size y qs cs H.size (.ref y :: as) τ ((.ref y :: as) : List Value).toArray U := fun U hU hW => ⟨rfl, by rw [hU], by rw [hU]; exact hI.2.1, va_K.moved hW.alike hI.2.2.1, hI.2.2.2.1, hz0, hKe.call (fun q hq => hq) hI.2.2.2.2.2.2.2.1 hU hW⟩
  have hcl : en.1.cls = RX13 := hok.1
  refine va_calli (za_runV (C := RX13) (As := as) (rest := rest) S hM0 (cwV en.2.2.2.1 S.2.2.2.2 hgd rfl rfl rfl ⟨hcl, by rw [hcl]; decide, by rw [hcl]; decide, hok.2.1⟩ ⟨show n + 6 + 1 ≤ room_1.frames by omega, show 8 + (en.2.2.1 + 11) + (40 * n + 240) ≤ room_1.locals by omega⟩) (show 16 + (en.2.2.1 + 11) + (40 * n + 240) ≤ room_1.locals by omega) ⟨zPr_blind, hrecv, hpre⟩ rfl hl hls rfl (za_room hc) d ⟨hcs, hss⟩) hI.2.2.2.2.2.2.2.1 (fun q _ h => hlow q h) (fun q h => hlow q h) (fun r9 u9 t H1 locs1 ht hvm hp hB hz1 hk1 hS1 => ?_)
  have hp9 : (some (Value.int r9), u9) = (some (Value.int r), υ) := hp
  cases hp9
  exact kk H1 locs1 (hI.callZ ht hB hz1 hk1 hS1)
/-- a call of the class, answering a long -/
theorem lc_Ol {n j ix : Nat} {en : oMt} {as fs : List Value} {r : Int64} (S : CallFix p m c cL_law 4 s args lw_tbl RL) (hEv : oEv κ s.heap.size s) (hI : lInv dC dI s y qs cs σ τ H locs cells) (hMe : oMe l dC dI κ s.heap.size n en (.ref x :: as) σ (some (Value.long r), u)) (hmo : omo σ (some (Value.long r), u)) (he : omt[j]? = some en) (hs : en.2.2.2.2.1 = 0) (hr : okd en.2.2.2.2.2.1 = 1) (hl : as.length = en.2.2.2.1) (hcl : en.2.2.2.2.2.2 = RX12) (hgd : GoodIn lw_tbl (wsV RL ix RX12 en.1 (ows en))) (hx9 : σ.1 x = some (.inr (14, fs))) (hn : n ≤ 1900) (hcs : cells + (u.2.2.1 - σ.2.2.1) ≤ room_1.cells) (hss : slots + (u.2.2.2 - σ.2.2.2) ≤ room_1.slots) (hls : ls.size = 4) (hc : (rest.map fun v => v.category).sum ≤ 16) (d : decode cL_law pc = .ok (.invokevirtual ix, 3))
    (kk : ∀ (H1 : Heap) (locs1 : List Loc), lInv dC dI s y qs cs u τ H1 locs1 (cells + (u.2.2.1 - σ.2.2.1)) → W p l e room_1 s m args below meth c H1 locs1 (cells + (u.2.2.1 - σ.2.2.1)) (slots + (u.2.2.2 - σ.2.2.2)) Q (F0 m (pc + 3) ls (Value.long r :: rest))) : W p l e room_1 s m args below meth c H locs cells slots Q (F0 m pc ls (as.reverse ++ .ref x :: rest)) := by
  have hM : Met l en.1 (ows en) _ _ _ _ _ _ := hMe
  rw [oQ_l hr] at hM
  have hok := omt_ok en (List.mem_of_getElem? he)
  have h13 := hok.2.2.1
  have hRf : room_1.frames = 2048 := rfl
  have hRl : room_1.locals = 84000 := rfl
  refine oW_size (fun hup => ?_)
  have hnx : σ.2.1 = H.size := by
    have h1 := hI.2.2.2.2.2.1
    have h2 := hI.2.2.2.2.2.2.1
    omega
  have hrecv : ∃ cellB : Cell, H[x]? = some cellB ∧ cellB.vm.isStatics = false ∧ s.vm.findClass RX12 = some cellB.cls := ocls 14 (by decide) hI.1 hx9
  have hpre : ∀ U : State, U.heap = H → s.WarmedH U.vm → oPr dC dI κ s.heap.size (.ref x :: as) σ ((.ref x :: as) : List Value).toArray U := fun U hU hW => ⟨rfl, by rw [hU]; exact hnx, by
    have h9 := (hI.1.moved hW.alike).weaken (B := oA σ) (fun a z hz => Or.inl (by rw [hz]; rfl))
    rw [← hU] at h9
    exact h9, fun q hq => hI.low hq, hEv.call (fun q hq => hq) hI.2.2.2.2.2.2.2.1 hU hW⟩
  refine va_calll (za_runV (C := RX12) (As := as) (rest := rest) S hM (cwV en.2.2.2.1 S.2.2.2.2 hgd rfl rfl rfl ⟨hok.1.trans hcl, hok.2.2.2.2.1, hok.2.2.2.2.2, hok.2.1⟩ ⟨show n + 8 + 1 ≤ room_1.frames by omega, show 8 + (en.2.2.1 + 11) + (40 * n + 320) ≤ room_1.locals by omega⟩) (show 16 + (en.2.2.1 + 11) + (40 * n + 320) ≤ room_1.locals by omega) ⟨oPr_blind, hrecv, hpre⟩ rfl hl hls rfl (za_room hc) d ⟨hcs, hss⟩) hI.2.2.2.2.2.2.2.1 (fun q _ h => hI.low h) (fun q h => hI.low h) (fun r9 u9 t H1 locs1 ht hvm hp hB hz1 hk1 hS1 => ?_)
  have hp9 : (some (Value.long r9), u9) = (some (Value.long r), u) := hp
  cases hp9
  exact kk H1 locs1 (hI.callO hnx ht hvm hB hk1 hS1)
/-- a call of the reference, answering a long -/
theorem lc_Zl {n j ix : Nat} {en : zMt} {as : List Value} {r : Int64} (S : CallFix p m c cL_law 4 s args lw_tbl RL) (hKe : zKe ks s.heap.size s) (hI : lInv dC dI s y qs cs σ τ H locs cells) (hMe : zMe l dC dI ks s.heap.size y qs cs n en (.ref y :: as) τ (fun a w => (a, w) = (some (Value.long r), υ))) (he : zmt[j]? = some en) (hs : en.2.2.2.2.1 = false) (hr : en.2.2.2.2.2 = some .long) (hl : as.length = en.2.2.2.1) (hgd : GoodIn lw_tbl (wsV RL ix RX13 en.1 (zws en))) (hn : n ≤ 1900) (hcs : cells ≤ room_1.cells) (hss : slots ≤ room_1.slots) (hls : ls.size = 4) (hc : (rest.map fun v => v.category).sum ≤ 16) (d : decode cL_law pc = .ok (.invokevirtual ix, 3))
    (kk : ∀ (H1 : Heap) (locs1 : List Loc), lInv dC dI s y qs cs σ υ H1 locs1 cells → W p l e room_1 s m args below meth c H1 locs1 cells slots Q (F0 m (pc + 3) ls (Value.long r :: rest))) : W p l e room_1 s m args below meth c H locs cells slots Q (F0 m pc ls (as.reverse ++ .ref y :: rest)) := by
  have hM0 : Met l en.1 (zws en) _ _ _ _ _ _ := hMe H.size
  have hQ : zQ en.2.2.2.2.2 (fun a w => (a, w) = (some (Value.long r), υ)) (zBw dC dI y qs cs (zAd y qs H.size)) (zAd y qs H.size) = va_Ql (fun r9 w => (some (Value.long r9), w) = (some (Value.long r), υ)) (zBw dC dI y qs cs (zAd y qs H.size)) (zAd y qs H.size) := by
    unfold zQ
    rw [if_neg (by rw [hr]; decide), if_pos hr]
  rw [hQ] at hM0
  have hok := zmt_ok en (List.mem_of_getElem? he)
  have h13 := hok.2.2.1
  have hRf : room_1.frames = 2048 := rfl
  have hRl : room_1.locals = 84000 := rfl
  have hz0 : s.heap.size ≤ H.size := hI.2.2.2.2.2.2.2.1.1
  have hlow : ∀ q, zAd y qs H.size q → s.heap.size ≤ q := zA0 hI.2.2.2.2.2.2.2.2.1 hI.2.2.2.1 hz0
  have hrecv : ∃ cellB : Cell, H[y]? = some cellB ∧ cellB.vm.isStatics = false ∧ s.vm.findClass RX13 = some cellB.cls := va_recv (q := (RX13, TX13, 196)) hI.2.2.1 hI.2.1 (ci := 15) rfl (q0 := 0) rfl
  have hpre : ∀ U : State, U.heap = H → s.WarmedH U.vm → zPr dC dI ks s.heap.size y qs cs H.size (.ref y :: as) τ ((.ref y :: as) : List Value).toArray U := fun U hU hW => ⟨rfl, by rw [hU], by rw [hU]; exact hI.2.1, va_K.moved hW.alike hI.2.2.1, hI.2.2.2.1, hz0, hKe.call (fun q hq => hq) hI.2.2.2.2.2.2.2.1 hU hW⟩
  have hcl : en.1.cls = RX13 := hok.1
  refine va_calll (za_runV (C := RX13) (As := as) (rest := rest) S hM0 (cwV en.2.2.2.1 S.2.2.2.2 hgd rfl rfl rfl ⟨hcl, by rw [hcl]; decide, by rw [hcl]; decide, hok.2.1⟩ ⟨show n + 6 + 1 ≤ room_1.frames by omega, show 8 + (en.2.2.1 + 11) + (40 * n + 240) ≤ room_1.locals by omega⟩) (show 16 + (en.2.2.1 + 11) + (40 * n + 240) ≤ room_1.locals by omega) ⟨zPr_blind, hrecv, hpre⟩ rfl hl hls rfl (za_room hc) d ⟨hcs, hss⟩) hI.2.2.2.2.2.2.2.1 (fun q _ h => hlow q h) (fun q h => hlow q h) (fun r9 u9 t H1 locs1 ht hvm hp hB hz1 hk1 hS1 => ?_)
  have hp9 : (some (Value.long r9), u9) = (some (Value.long r), υ) := hp
  cases hp9
  exact kk H1 locs1 (hI.callZ ht hB hz1 hk1 hS1)
end LC
