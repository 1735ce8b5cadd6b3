/-! length and charAt of the String constants -/
theorem zA0 {sz0 h0 sz : Nat} {qs : List Nat} {cs : List ClassId} {σ : zSt} (hq : qs.length = 122) (hD0 : va_D (fun q => sz0 ≤ q) (zwR h0 qs cs σ)) (hz0 : sz0 ≤ sz) : ∀ q, zAd h0 qs sz q → sz0 ≤ q := fun q h => by
  rcases h with h | h | h
  · rw [h]; exact hD0.2 0 _ rfl
  · obtain ⟨i, hi⟩ := List.getElem?_of_mem h
    have hi1 : i < 122 := by
      have := (List.getElem?_eq_some_iff.mp hi).1
      omega
    have h9 := hD0.2 (i + 1) _ (zwR_at hi1)
    have h8 : qs.getD i 0 = q := by rw [List.getD_eq_getElem?_getD, hi]; rfl
    rw [← h8]
    exact h9
  · exact Nat.le_trans hz0 h
theorem zch_ok : zKm.all (fun q => (List.range q.2.toList.length).all (fun j => decide (((zch q.2 j &&& 255).toUInt32 % 65536).toInt32 = zch q.2 j) && decide (narrow .char (.int (zch q.2 j)) = .int (zch q.2 j)))) = true := by decide +kernel
theorem zch_at {q : Nat × String} {j : Nat} (h : q ∈ zKm) (hj : j < q.2.toList.length) : ((zch q.2 j &&& 255).toUInt32 % 65536).toInt32 = zch q.2 j ∧ narrow .char (.int (zch q.2 j)) = .int (zch q.2 j) := by
  have h1 := List.all_eq_true.mp zch_ok q h
  have h2 := List.all_eq_true.mp h1 j (List.mem_range.mpr hj)
  rw [Bool.and_eq_true] at h2
  exact ⟨of_decide_eq_true h2.1, of_decide_eq_true h2.2⟩
def zPt (dC : Nat → ClassId) (dI : Nat → Nat → Nat) (ks : Nat → Nat) (sz0 : Nat) (h0 : Nat) (qs : List Nat) (cs : List ClassId) (sz : Nat) (av : List Value) (σ : zSt) (vb : Nat) (tx : String) : Array Value → State → Prop := fun a U => zPr dC dI ks sz0 h0 qs cs sz av σ a U ∧ va_T .byte vb tx.toList.length (fun j => .int (zch tx j)) (fun x => sz0 ≤ x) U U.heap
theorem zPt_blind {dC : Nat → ClassId} {dI : Nat → Nat → Nat} {ks : Nat → Nat} {sz0 : Nat} {h0 : Nat} {qs : List Nat} {cs : List ClassId} {sz : Nat} {av : List Value} {σ : zSt} {vb : Nat} {tx : String} : FrameBlind (zPt dC dI ks sz0 h0 qs cs sz av σ vb tx) := fun a U g mk q => ⟨zPr_blind a U g mk q.1, va_T.moved (u := U) (U := U.calling g mk a) (Vm.Alike.refl U.vm) q.2⟩
theorem zKm_short : zKm.all (fun q => decide (q.2.toList.length < 1000)) = true := by decide +kernel
theorem zso_coder (l : Launch) (dC : Nat → ClassId) (dI : Nat → Nat → Nat) (ks : Nat → Nat) (sz0 h0 : Nat) (qs : List Nat) (cs : List ClassId) (hq : qs.length = 122) (q : Nat × String) (hk : q ∈ zKm) (σ : zSt) (sz : Nat) : Met l yJ0_coder_7d493 wsJ0_coder_7d493 ({ frames := 0, cells := 0, slots := 0, locals := 0 }) (zPr dC dI ks sz0 h0 qs cs sz [.ref (ks q.1)] σ) (va_Qi (fun (r : Int32) (u : zSt) => r = 0 ∧ u = σ) (zBw dC dI h0 qs cs (zAd h0 qs sz)) (zAd h0 qs sz)) 0 0 (zAd h0 qs sz) := by
  refine Met.ofW (cc := cJ0_coder_7d493) (maxL := 1) (ret := (some .byte)) (by decide) rfl ?_
  intro p e s m args below meth c s₁ B hml hv
  obtain ⟨rfl, hsz, hP, hK, hD0, hz0, hE⟩ := hv
  subst hsz
  have hx := B.exec
  have hb := B.bytes
  have hr := B.returns
  have hts := atoms_spec (ws := wsJ0_coder_7d493) B.pre
  have hown : s.vm.findClass RJ0 = some m.cls := findClass_of_methodNamed B.named
  have hlocks := B.notSynchronized
  have hD := zAd_D (sz := s.heap.size) hq hD0
  have hS0 : va_S (fun x => sz0 ≤ x) s.heap s.heap [] := va_S.rf
  have hS : va_S (zAd h0 qs s.heap.size) s.heap s.heap [] := va_S.rf
  have hA0 : ∀ x, zAd h0 qs s.heap.size x → sz0 ≤ x := zA0 hq hD0 hz0
  have hl := lv_entry ([.ref (ks q.1)]) (n := 1) (Nat.le_of_ble_eq_true rfl)
  rw [lg_entry_eq]
  generalize (lg_sl ([.ref (ks q.1)]) ++ List.replicate (1 - (lg_sl ([.ref (ks q.1)])).length) Slot.unset).toArray = ls at hl ⊢
  have hl : lv_has ls 1 [(0, .ref (ks q.1))] := hl
  obtain ⟨vb, hO, hC, hV, hT⟩ := hE.2.1 q hk
  refine va_gets hx hb hE.2.2.1 hS0 hown (hts (.fieldLink RJ0 38 "java/lang/String" "COMPACT_STRINGS" "Z") (by decide +kernel)) (fun _ h9 => h9) dJ0_coder_7d493_0 ?_
  refine lv_if_eq (tgt := 13) hx hb dJ0_coder_7d493_3 (by decide) (fun c9 => absurd c9 (by decide)) (fun _ => ?_)
  refine lv_aload_n hx hb dJ0_coder_7d493_6 rfl (lv_at hl 0 rfl) ?_
  refine vk_getf hx hb hC hS0 hown (hts (.fieldLink RJ0 15 "java/lang/String" "coder" "B") (by decide +kernel)) (fun _ h9 => h9) dJ0_coder_7d493_7 ?_
  refine lv_goto (tgt := 14) hx hb dJ0_coder_7d493_10 (by decide) ?_
  exact W.zret (v := 0) hx hb hr (by decide) (fun t ht hW => ⟨⟨0, σ, rfl, ⟨rfl, rfl⟩, ⟨by rw [ht]; exact hP, va_K.moved hW.alike hK, hD⟩⟩, hS.F ht⟩) (fun _ h => by cases h) dJ0_coder_7d493_14
theorem zso_latin (l : Launch) (dC : Nat → ClassId) (dI : Nat → Nat → Nat) (ks : Nat → Nat) (sz0 h0 : Nat) (qs : List Nat) (cs : List ClassId) (hq : qs.length = 122) (q : Nat × String) (hk : q ∈ zKm) (σ : zSt) (sz : Nat) : Met l yJ0_isLatin1_aae02 wsJ0_isLatin1_aae02 ({ frames := 0, cells := 0, slots := 0, locals := 0 }) (zPr dC dI ks sz0 h0 qs cs sz [.ref (ks q.1)] σ) (va_Qi (fun (r : Int32) (u : zSt) => r = 1 ∧ u = σ) (zBw dC dI h0 qs cs (zAd h0 qs sz)) (zAd h0 qs sz)) 0 0 (zAd h0 qs sz) := by
  refine Met.ofW (cc := cJ0_isLatin1_aae02) (maxL := 1) (ret := (some .boolean)) (by decide) rfl ?_
  intro p e s m args below meth c s₁ B hml hv
  obtain ⟨rfl, hsz, hP, hK, hD0, hz0, hE⟩ := hv
  subst hsz
  have hx := B.exec
  have hb := B.bytes
  have hr := B.returns
  have hts := atoms_spec (ws := wsJ0_isLatin1_aae02) B.pre
  have hown : s.vm.findClass RJ0 = some m.cls := findClass_of_methodNamed B.named
  have hlocks := B.notSynchronized
  have hD := zAd_D (sz := s.heap.size) hq hD0
  have hS0 : va_S (fun x => sz0 ≤ x) s.heap s.heap [] := va_S.rf
  have hS : va_S (zAd h0 qs s.heap.size) s.heap s.heap [] := va_S.rf
  have hA0 : ∀ x, zAd h0 qs s.heap.size x → sz0 ≤ x := zA0 hq hD0 hz0
  have hl := lv_entry ([.ref (ks q.1)]) (n := 1) (Nat.le_of_ble_eq_true rfl)
  rw [lg_entry_eq]
  generalize (lg_sl ([.ref (ks q.1)]) ++ List.replicate (1 - (lg_sl ([.ref (ks q.1)])).length) Slot.unset).toArray = ls at hl ⊢
  have hl : lv_has ls 1 [(0, .ref (ks q.1))] := hl
  obtain ⟨vb, hO, hC, hV, hT⟩ := hE.2.1 q hk
  refine va_gets hx hb hE.2.2.1 hS0 hown (hts (.fieldLink RJ0 38 "java/lang/String" "COMPACT_STRINGS" "Z") (by decide +kernel)) (fun _ h9 => h9) dJ0_isLatin1_aae02_0 ?_
  refine lv_if_eq (tgt := 17) hx hb dJ0_isLatin1_aae02_3 (by decide) (fun c9 => absurd c9 (by decide)) (fun _ => ?_)
  refine lv_aload_n hx hb dJ0_isLatin1_aae02_6 rfl (lv_at hl 0 rfl) ?_
  refine vk_getf hx hb hC hS0 hown (hts (.fieldLink RJ0 15 "java/lang/String" "coder" "B") (by decide +kernel)) (fun _ h9 => h9) dJ0_isLatin1_aae02_7 ?_
  refine lv_if_ne (tgt := 17) hx hb dJ0_isLatin1_aae02_10 (by decide) (fun c9 => absurd rfl c9) (fun _ => ?_)
  refine lv_iconst (v := 1) hx hb dJ0_isLatin1_aae02_13 (by decide) ?_
  refine lv_goto (tgt := 18) hx hb dJ0_isLatin1_aae02_14 (by decide) ?_
  exact W.zret (v := 1) hx hb hr (by decide) (fun t ht hW => ⟨⟨1, σ, rfl, ⟨rfl, rfl⟩, ⟨by rw [ht]; exact hP, va_K.moved hW.alike hK, hD⟩⟩, hS.F ht⟩) (fun _ h => by cases h) dJ0_isLatin1_aae02_18
theorem zso_pre (l : Launch) (dC : Nat → ClassId) (dI : Nat → Nat → Nat) (ks : Nat → Nat) (sz0 h0 : Nat) (qs : List Nat) (cs : List ClassId) (hq : qs.length = 122) (i n : Int32) (z : Value) (hz : z.category = 1) (h1 : ¬ i < 0) (h2 : i < n) (σ : zSt) (sz : Nat) : Met l yJ3_checkIndex_8e157 wsJ3_checkIndex_8e157 ({ frames := 0, cells := 0, slots := 0, locals := 0 }) (zPr dC dI ks sz0 h0 qs cs sz [.int i, .int n, z] σ) (va_Qi (fun (r : Int32) (u : zSt) => r = i ∧ u = σ) (zBw dC dI h0 qs cs (zAd h0 qs sz)) (zAd h0 qs sz)) 0 0 (zAd h0 qs sz) := by
  refine Met.ofW (cc := cJ3_checkIndex_8e157) (maxL := 3) (ret := (some .int)) (by decide) rfl ?_
  intro p e s m args below meth c s₁ B hml hv
  obtain ⟨rfl, hsz, hP, hK, hD0, hz0, hE⟩ := hv
  subst hsz
  have hx := B.exec
  have hb := B.bytes
  have hr := B.returns
  have hts := atoms_spec (ws := wsJ3_checkIndex_8e157) B.pre
  have hown : s.vm.findClass RJ3 = some m.cls := findClass_of_methodNamed B.named
  have hlocks := B.notSynchronized
  have hD := zAd_D (sz := s.heap.size) hq hD0
  have hS0 : va_S (fun x => sz0 ≤ x) s.heap s.heap [] := va_S.rf
  have hS : va_S (zAd h0 qs s.heap.size) s.heap s.heap [] := va_S.rf
  have hA0 : ∀ x, zAd h0 qs s.heap.size x → sz0 ≤ x := zA0 hq hD0 hz0
  have hl := lv_entry ([.int i, .int n, z]) (n := 3) (by cases z <;> first | exact Nat.le_of_ble_eq_true rfl | cases hz)
  rw [lg_entry_eq]
  generalize (lg_sl ([.int i, .int n, z]) ++ List.replicate (3 - (lg_sl ([.int i, .int n, z])).length) Slot.unset).toArray = ls at hl ⊢
  have hl : lv_has ls 3 [(0, .int i), (1, .int n), (2, z)] := hl
  refine lv_iload_n hx hb dJ3_checkIndex_8e157_0 rfl (lv_at hl 0 rfl) ?_
  refine lv_if_lt (tgt := 9) hx hb dJ3_checkIndex_8e157_1 (by decide) (fun c9 => absurd c9 h1) (fun _ => ?_)
  refine lv_iload_n hx hb dJ3_checkIndex_8e157_4 rfl (lv_at hl 0 rfl) ?_
  refine lv_iload_n hx hb dJ3_checkIndex_8e157_5 rfl (lv_at hl 1 rfl) ?_
  refine lv_icmp_lt (tgt := 16) hx hb dJ3_checkIndex_8e157_6 (by decide) (fun _ => ?_) (fun c9 => absurd h2 c9)
  refine lv_iload_n hx hb dJ3_checkIndex_8e157_16 rfl (lv_at hl 0 rfl) ?_
  exact W.iret (v := i) hx hb hr (fun t ht hW => ⟨⟨i, σ, rfl, ⟨rfl, rfl⟩, ⟨by rw [ht]; exact hP, va_K.moved hW.alike hK, hD⟩⟩, hS.F ht⟩) (fun _ h => by cases h) dJ3_checkIndex_8e157_17
theorem zso_chk (l : Launch) (dC : Nat → ClassId) (dI : Nat → Nat → Nat) (ks : Nat → Nat) (sz0 h0 : Nat) (qs : List Nat) (cs : List ClassId) (hq : qs.length = 122) (i n : Int32) (h1 : ¬ i < 0) (h2 : i < n) (σ : zSt) (sz : Nat) : Met l yJ0_checkIndex_df160 wsJ0_checkIndex_df160 ({ frames := 1, cells := 0, slots := 0, locals := 30 }) (zPr dC dI ks sz0 h0 qs cs sz [.int i, .int n] σ) (va_Qv (fun (u : zSt) => u = σ) (zBw dC dI h0 qs cs (zAd h0 qs sz)) (zAd h0 qs sz)) 0 0 (zAd h0 qs sz) := by
  refine Met.ofW (cc := cJ0_checkIndex_df160) (maxL := 2) (ret := none) (by decide) rfl ?_
  intro p e s m args below meth c s₁ B hml hv
  obtain ⟨rfl, hsz, hP, hK, hD0, hz0, hE⟩ := hv
  subst hsz
  have hx := B.exec
  have hb := B.bytes
  have hr := B.returns
  have hts := atoms_spec (ws := wsJ0_checkIndex_df160) B.pre
  have hown : s.vm.findClass RJ0 = some m.cls := findClass_of_methodNamed B.named
  have hlocks := B.notSynchronized
  have hD := zAd_D (sz := s.heap.size) hq hD0
  have hS0 : va_S (fun x => sz0 ≤ x) s.heap s.heap [] := va_S.rf
  have hS : va_S (zAd h0 qs s.heap.size) s.heap s.heap [] := va_S.rf
  have hA0 : ∀ x, zAd h0 qs s.heap.size x → sz0 ≤ x := zA0 hq hD0 hz0
  have hl := lv_entry ([.int i, .int n]) (n := 2) (Nat.le_of_ble_eq_true rfl)
  rw [lg_entry_eq]
  generalize (lg_sl ([.int i, .int n]) ++ List.replicate (2 - (lg_sl ([.int i, .int n])).length) Slot.unset).toArray = ls at hl ⊢
  have hl : lv_has ls 2 [(0, .int i), (1, .int n)] := hl
  refine lv_iload_n hx hb dJ0_checkIndex_df160_0 rfl (lv_at hl 0 rfl) ?_
  refine lv_iload_n hx hb dJ0_checkIndex_df160_1 rfl (lv_at hl 1 rfl) ?_
  have key : ∀ z : Value, z.category = 1 → W p l e (headSpec wsJ0_checkIndex_df160 ({ frames := 1, cells := 0, slots := 0, locals := 30 })).room s m #[.int i, .int n] below meth c s.heap [] 0 0 (MQ below (va_Qv (fun (u : zSt) => u = σ) (zBw dC dI h0 qs cs (zAd h0 qs s.heap.size)) (zAd h0 qs s.heap.size)) #[.int i, .int n] s 0 0 (zAd h0 qs s.heap.size)) (F0 m (0 + 1 + 1 + 3) ls [z, .int n, .int i]) := fun z hz => by
    refine va_calli (va_runS (As := [.int i, .int n, z]) (rest := []) ⟨hx, hb, hml, hown, hts⟩ (zso_pre l dC dI ks sz0 h0 qs cs hq i n z hz h1 h2 σ s.heap.size) (va_cwS 3 hts gJ0_checkIndex_df160_J3_checkIndex_8e157 rfl rfl rfl (by decide +kernel) ⟨Nat.le_of_ble_eq_true rfl, Nat.le_of_ble_eq_true rfl⟩) ⟨zPr_blind, fun U hU hW => zPr_at hP hK hD hS hA0 hz0 hE hU hW⟩ rfl rfl hl.1 rfl (lv_room (Nat.le_of_ble_eq_true rfl)) dJ0_checkIndex_df160_5 ⟨Nat.le_of_ble_eq_true rfl, Nat.le_of_ble_eq_true rfl⟩) hS (fun q _ h => h) (fun q h => h) (fun r u t H1 locs1 ht hvm hp hB hz1 hk1 hS1 => ?_)
    refine lv_pop hx hb dJ0_checkIndex_df160_8 rfl ?_
    obtain ⟨hr9, hu9⟩ := hp
    subst hu9
    exact W.vret hx hb hr (fun t9 ht9 hW => ⟨⟨u, rfl, rfl, ⟨by rw [ht9, ← ht]; exact hB.1, va_K.moved hW.alike hK, hD⟩⟩, hS1.F ht9⟩) hS1.2.2 dJ0_checkIndex_df160_9
  rcases hE.2.2.2 with hZ | ⟨t9, hZ⟩
  · exact va_gets hx hb hZ hS0 hown (hts (.fieldLink RJ0 1053 "jdk/internal/util/Preconditions" "SIOOBE_FORMATTER" "Ljava/util/function/BiFunction;") (by decide +kernel)) (fun _ h9 => h9) dJ0_checkIndex_df160_2 (key .null rfl)
  · exact va_gets hx hb hZ hS0 hown (hts (.fieldLink RJ0 1053 "jdk/internal/util/Preconditions" "SIOOBE_FORMATTER" "Ljava/util/function/BiFunction;") (by decide +kernel)) (fun _ h9 => h9) dJ0_checkIndex_df160_2 (key (.ref t9) rfl)
theorem zso_l1 (l : Launch) (dC : Nat → ClassId) (dI : Nat → Nat → Nat) (ks : Nat → Nat) (sz0 h0 : Nat) (qs : List Nat) (cs : List ClassId) (hq : qs.length = 122) (q : Nat × String) (hk : q ∈ zKm) (vb : Nat) (j : Nat) (hj : j < q.2.toList.length) (σ : zSt) (sz : Nat) : Met l yJ1_charAt_3b067 wsJ1_charAt_3b067 ({ frames := 2, cells := 0, slots := 0, locals := 60 }) (zPt dC dI ks sz0 h0 qs cs sz [.ref vb, .int (nI j)] σ vb q.2) (va_Qi (fun (r : Int32) (u : zSt) => r = zch q.2 j ∧ u = σ) (zBw dC dI h0 qs cs (zAd h0 qs sz)) (zAd h0 qs sz)) 0 0 (zAd h0 qs sz) := by
  have h1000 : q.2.toList.length < 1000 := of_decide_eq_true (List.all_eq_true.mp zKm_short q hk)
  refine Met.ofW (cc := cJ1_charAt_3b067) (maxL := 2) (ret := (some .char)) (by decide) rfl ?_
  intro p e s m args below meth c s₁ B hml hv
  obtain ⟨⟨rfl, hsz, hP, hK, hD0, hz0, hE⟩, hT⟩ := hv
  subst hsz
  have hx := B.exec
  have hb := B.bytes
  have hr := B.returns
  have hts := atoms_spec (ws := wsJ1_charAt_3b067) B.pre
  have hown : s.vm.findClass RJ1 = some m.cls := findClass_of_methodNamed B.named
  have hlocks := B.notSynchronized
  have hD := zAd_D (sz := s.heap.size) hq hD0
  have hS0 : va_S (fun x => sz0 ≤ x) s.heap s.heap [] := va_S.rf
  have hS : va_S (zAd h0 qs s.heap.size) s.heap s.heap [] := va_S.rf
  have hA0 : ∀ x, zAd h0 qs s.heap.size x → sz0 ≤ x := zA0 hq hD0 hz0
  have hl := lv_entry ([.ref vb, .int (nI j)]) (n := 2) (Nat.le_of_ble_eq_true rfl)
  rw [lg_entry_eq]
  generalize (lg_sl ([.ref vb, .int (nI j)]) ++ List.replicate (2 - (lg_sl ([.ref vb, .int (nI j)])).length) Slot.unset).toArray = ls at hl ⊢
  have hl : lv_has ls 2 [(0, .ref vb), (1, .int (nI j))] := hl
  refine lv_iload_n hx hb dJ1_charAt_3b067_0 rfl (lv_at hl 1 rfl) ?_
  refine lv_aload_n hx hb dJ1_charAt_3b067_1 rfl (lv_at hl 0 rfl) ?_
  refine va_tlen hx hb hT hS0 (v := nI q.2.toList.length) rfl dJ1_charAt_3b067_2 ?_
  refine va_callv (va_runS (As := [.int (nI j), .int (nI q.2.toList.length)]) (rest := []) ⟨hx, hb, hml, hown, hts⟩ (zso_chk l dC dI ks sz0 h0 qs cs hq (nI j) (nI q.2.toList.length) (nI_pos (by omega)) (nI_lt hj (by omega)) σ s.heap.size) (va_cwS 2 hts gJ1_charAt_3b067_J0_checkIndex_df160 rfl rfl rfl (by decide +kernel) ⟨Nat.le_of_ble_eq_true rfl, Nat.le_of_ble_eq_true rfl⟩) ⟨zPr_blind, fun U hU hW => zPr_at hP hK hD hS hA0 hz0 hE hU hW⟩ rfl rfl hl.1 rfl (lv_room (Nat.le_of_ble_eq_true rfl)) dJ1_charAt_3b067_3 ⟨Nat.le_of_ble_eq_true rfl, Nat.le_of_ble_eq_true rfl⟩) hS (fun q _ h => h) (fun q h => h) (fun u t H1 locs1 ht hvm hp hB hz1 hk1 hS1 => ?_)
  have hu9 : u = σ := hp
  subst hu9
  have hS9 : va_S (fun x => sz0 ≤ x) s.heap H1 locs1 := ⟨hS1.1, fun x h1 h2 => hS1.2.1 x h1 (fun h3 => h2 (hA0 x h3)), fun x h3 => hA0 _ (hS1.2.2 x h3)⟩
  refine lv_aload_n hx hb dJ1_charAt_3b067_6 rfl (lv_at hl 0 rfl) ?_
  refine lv_iload_n hx hb dJ1_charAt_3b067_7 rfl (lv_at hl 1 rfl) ?_
  refine va_tb hx hb hT hS9 (vp_in_nI hj (by omega)) (v := .int (zch q.2 j)) (by rw [nI_clamp (by omega)]) dJ1_charAt_3b067_8 ?_
  refine lv_sipush (v := 255) hx hb dJ1_charAt_3b067_9 (by decide) ?_
  refine lv_iand hx hb dJ1_charAt_3b067_12 ?_
  refine lv_i2c (v := zch q.2 j) hx hb dJ1_charAt_3b067_13 (zch_at hk hj).1 ?_
  exact W.zret (v := zch q.2 j) hx hb hr (zch_at hk hj).2 (fun t9 ht9 hW => ⟨⟨zch q.2 j, u, rfl, ⟨rfl, rfl⟩, ⟨by rw [ht9, ← ht]; exact hB.1, va_K.moved hW.alike hK, hD⟩⟩, hS1.F ht9⟩) hS1.2.2 dJ1_charAt_3b067_14
theorem zso_len (l : Launch) (dC : Nat → ClassId) (dI : Nat → Nat → Nat) (ks : Nat → Nat) (sz0 h0 : Nat) (qs : List Nat) (cs : List ClassId) (hq : qs.length = 122) (q : Nat × String) (hk : q ∈ zKm) (σ : zSt) (sz : Nat) : Met l yJ0_length_8abf5 wsJ0_length_8abf5 (zr5) (zPr dC dI ks sz0 h0 qs cs sz [.ref (ks q.1)] σ) (va_Qi (fun (r : Int32) (u : zSt) => r = nI q.2.toList.length ∧ u = σ) (zBw dC dI h0 qs cs (zAd h0 qs sz)) (zAd h0 qs sz)) 0 0 (zAd h0 qs sz) := by
  have h1000 : q.2.toList.length < 1000 := of_decide_eq_true (List.all_eq_true.mp zKm_short q hk)
  refine Met.ofW (cc := cJ0_length_8abf5) (maxL := 1) (ret := (some .int)) (by decide) rfl ?_
  intro p e s m args below meth c s₁ B hml hv
  obtain ⟨rfl, hsz, hP, hK, hD0, hz0, hE⟩ := hv
  subst hsz
  have hx := B.exec
  have hb := B.bytes
  have hr := B.returns
  have hts := atoms_spec (ws := wsJ0_length_8abf5) B.pre
  have hown : s.vm.findClass RJ0 = some m.cls := findClass_of_methodNamed B.named
  have hlocks := B.notSynchronized
  have hD := zAd_D (sz := s.heap.size) hq hD0
  have hS0 : va_S (fun x => sz0 ≤ x) s.heap s.heap [] := va_S.rf
  have hS : va_S (zAd h0 qs s.heap.size) s.heap s.heap [] := va_S.rf
  have hA0 : ∀ x, zAd h0 qs s.heap.size x → sz0 ≤ x := zA0 hq hD0 hz0
  have hl := lv_entry ([.ref (ks q.1)]) (n := 1) (Nat.le_of_ble_eq_true rfl)
  rw [lg_entry_eq]
  generalize (lg_sl ([.ref (ks q.1)]) ++ List.replicate (1 - (lg_sl ([.ref (ks q.1)])).length) Slot.unset).toArray = ls at hl ⊢
  have hl : lv_has ls 1 [(0, .ref (ks q.1))] := hl
  obtain ⟨vb, hO, hC, hV, hT⟩ := hE.2.1 q hk
  have hrecv : ∃ cellB : Cell, s.heap[ks q.1]? = some cellB ∧ cellB.vm.isStatics = false ∧ s.vm.findClass RJ0 = some cellB.cls := by
    obtain ⟨cell, g1, g2, g3, -⟩ := hO
    exact ⟨cell, g1, g2, g3⟩
  refine lv_aload_n hx hb dJ0_length_8abf5_0 rfl (lv_at hl 0 rfl) ?_
  refine vk_getf hx hb hV hS0 hown (hts (.fieldLink RJ0 9 "java/lang/String" "value" "[B") (by decide +kernel)) (fun _ h9 => h9) dJ0_length_8abf5_1 ?_
  refine va_tlen hx hb hT hS0 (v := nI q.2.toList.length) rfl dJ0_length_8abf5_4 ?_
  refine lv_aload_n hx hb dJ0_length_8abf5_5 rfl (lv_at hl 0 rfl) ?_
  refine va_calli (va_runV (As := []) (rest := [.int (nI q.2.toList.length)]) ⟨hx, hb, hml, hown, hts⟩ (zso_coder l dC dI ks sz0 h0 qs cs hq q hk σ s.heap.size) (cwV 0 hts gJ0_length_8abf5_J0_coder_7d493 rfl rfl rfl (by decide +kernel) ⟨Nat.le_of_ble_eq_true rfl, Nat.le_of_ble_eq_true rfl⟩) ⟨zPr_blind, hrecv, fun U hU hW => zPr_at hP hK hD hS hA0 hz0 hE hU hW⟩ rfl rfl hl.1 rfl (lv_room (Nat.le_of_ble_eq_true rfl)) dJ0_length_8abf5_6 ⟨Nat.le_of_ble_eq_true rfl, Nat.le_of_ble_eq_true rfl⟩) hS (fun q _ h => h) (fun q h => h) (fun r u t H1 locs1 ht hvm hp hB hz1 hk1 hS1 => ?_)
  obtain ⟨hr9, hu9⟩ := hp
  subst hr9; subst hu9
  refine lv_ishr hx hb dJ0_length_8abf5_9 ?_
  rw [sc_shr0 (by omega)]
  exact W.iret (v := nI q.2.toList.length) hx hb hr (fun t9 ht9 hW => ⟨⟨nI q.2.toList.length, u, rfl, ⟨rfl, rfl⟩, ⟨by rw [ht9, ← ht]; exact hB.1, va_K.moved hW.alike hK, hD⟩⟩, hS1.F ht9⟩) hS1.2.2 dJ0_length_8abf5_10
theorem zso_chr (l : Launch) (dC : Nat → ClassId) (dI : Nat → Nat → Nat) (ks : Nat → Nat) (sz0 h0 : Nat) (qs : List Nat) (cs : List ClassId) (hq : qs.length = 122) (q : Nat × String) (hk : q ∈ zKm) (j : Nat) (hj : j < q.2.toList.length) (σ : zSt) (sz : Nat) : Met l yJ0_charAt_5068e wsJ0_charAt_5068e (zr5) (zPr dC dI ks sz0 h0 qs cs sz [.ref (ks q.1), .int (nI j)] σ) (va_Qi (fun (r : Int32) (u : zSt) => r = zch q.2 j ∧ u = σ) (zBw dC dI h0 qs cs (zAd h0 qs sz)) (zAd h0 qs sz)) 0 0 (zAd h0 qs sz) := by
  refine Met.ofW (cc := cJ0_charAt_5068e) (maxL := 2) (ret := (some .char)) (by decide) rfl ?_
  intro p e s m args below meth c s₁ B hml hv
  obtain ⟨rfl, hsz, hP, hK, hD0, hz0, hE⟩ := hv
  subst hsz
  have hx := B.exec
  have hb := B.bytes
  have hr := B.returns
  have hts := atoms_spec (ws := wsJ0_charAt_5068e) B.pre
  have hown : s.vm.findClass RJ0 = some m.cls := findClass_of_methodNamed B.named
  have hlocks := B.notSynchronized
  have hD := zAd_D (sz := s.heap.size) hq hD0
  have hS0 : va_S (fun x => sz0 ≤ x) s.heap s.heap [] := va_S.rf
  have hS : va_S (zAd h0 qs s.heap.size) s.heap s.heap [] := va_S.rf
  have hA0 : ∀ x, zAd h0 qs s.heap.size x → sz0 ≤ x := zA0 hq hD0 hz0
  have hl := lv_entry ([.ref (ks q.1), .int (nI j)]) (n := 2) (Nat.le_of_ble_eq_true rfl)
  rw [lg_entry_eq]
  generalize (lg_sl ([.ref (ks q.1), .int (nI j)]) ++ List.replicate (2 - (lg_sl ([.ref (ks q.1), .int (nI j)])).length) Slot.unset).toArray = ls at hl ⊢
  have hl : lv_has ls 2 [(0, .ref (ks q.1)), (1, .int (nI j))] := hl
  obtain ⟨vb, hO, hC, hV, hT⟩ := hE.2.1 q hk
  have hrecv : ∃ cellB : Cell, s.heap[ks q.1]? = some cellB ∧ cellB.vm.isStatics = false ∧ s.vm.findClass RJ0 = some cellB.cls := by
    obtain ⟨cell, g1, g2, g3, -⟩ := hO
    exact ⟨cell, g1, g2, g3⟩
  refine lv_aload_n hx hb dJ0_charAt_5068e_0 rfl (lv_at hl 0 rfl) ?_
  refine va_calli (va_runV (As := []) (rest := []) ⟨hx, hb, hml, hown, hts⟩ (zso_latin l dC dI ks sz0 h0 qs cs hq q hk σ s.heap.size) (cwV 0 hts gJ0_charAt_5068e_J0_isLatin1_aae02 rfl rfl rfl (by decide +kernel) ⟨Nat.le_of_ble_eq_true rfl, Nat.le_of_ble_eq_true rfl⟩) ⟨zPr_blind, hrecv, fun U hU hW => zPr_at hP hK hD hS hA0 hz0 hE hU hW⟩ rfl rfl hl.1 rfl (lv_room (Nat.le_of_ble_eq_true rfl)) dJ0_charAt_5068e_1 ⟨Nat.le_of_ble_eq_true rfl, Nat.le_of_ble_eq_true rfl⟩) hS (fun q _ h => h) (fun q h => h) (fun r u t H1 locs1 ht hvm hp hB hz1 hk1 hS1 => ?_)
  obtain ⟨hr9, hu9⟩ := hp
  subst hr9; subst hu9
  have hP1 : va_P (dC, dI) vwCl (zwR h0 qs cs u) H1 := by rw [← ht]; exact hB.1
  have hS9 : va_S (fun x => sz0 ≤ x) s.heap H1 locs1 := ⟨hS1.1, fun x h1 h2 => hS1.2.1 x h1 (fun h3 => h2 (hA0 x h3)), fun x h3 => hA0 _ (hS1.2.2 x h3)⟩
  have hF : ∀ x, zAd h0 qs H1.size x → zAd h0 qs s.heap.size x := fun x h => by
    rcases h with h | h | h
    · exact Or.inl h
    · exact Or.inr (Or.inl h)
    · exact Or.inr (Or.inr (Nat.le_trans hS1.1 h))
  refine lv_if_eq (tgt := 16) hx hb dJ0_charAt_5068e_4 (by decide) (fun c9 => absurd c9 (by decide)) (fun _ => ?_)
  refine lv_aload_n hx hb dJ0_charAt_5068e_7 rfl (lv_at hl 0 rfl) ?_
  refine vk_getf hx hb hV hS9 hown (hts (.fieldLink RJ0 9 "java/lang/String" "value" "[B") (by decide +kernel)) (fun _ h9 => h9) dJ0_charAt_5068e_8 ?_
  refine lv_iload_n hx hb dJ0_charAt_5068e_11 rfl (lv_at hl 1 rfl) ?_
  refine va_calli (va_runS (As := [.ref vb, .int (nI j)]) (rest := []) ⟨hx, hb, hml, hown, hts⟩ (zso_l1 l dC dI ks sz0 h0 qs cs hq q hk vb j hj u H1.size) (va_cwS 2 hts gJ0_charAt_5068e_J1_charAt_3b067 rfl rfl rfl (by decide +kernel) ⟨Nat.le_of_ble_eq_true rfl, Nat.le_of_ble_eq_true rfl⟩) ⟨zPt_blind, fun U hU hW => ⟨zPr_at hP1 hK hD hS1 hA0 hz0 hE hU hW, (va_T.moved hW.alike hT).kept (fun x g1 g2 => by rw [hU]; exact hS9.2.1 x g1 g2)⟩⟩ rfl rfl hl.1 rfl (lv_room (Nat.le_of_ble_eq_true rfl)) dJ0_charAt_5068e_12 ⟨Nat.le_of_ble_eq_true rfl, Nat.le_of_ble_eq_true rfl⟩) hS1 (fun q _ h => hF q h) hF (fun r u2 t2 H2 locs2 ht2 hvm2 hp2 hB2 hz2 hk2 hS2 => ?_)
  obtain ⟨hr8, hu8⟩ := hp2
  subst hr8; subst hu8
  exact W.zret (v := zch q.2 j) hx hb hr (zch_at hk hj).2 (fun t9 ht9 hW => ⟨⟨zch q.2 j, u2, rfl, ⟨rfl, rfl⟩, ⟨by rw [ht9, ← ht2]; exact hB2.1, va_K.moved hW.alike hK, hD⟩⟩, hS2.F ht9⟩) hS2.2.2 dJ0_charAt_5068e_15
/-- the methods of String on the constants keep what the plain logic takes of them -/
theorem zSo_ok (l : Launch) (dC : Nat → ClassId) (dI : Nat → Nat → Nat) (ks : Nat → Nat) (sz0 h0 : Nat) (qs : List Nat) (cs : List ClassId) (hq : qs.length = 122) : zSo l dC dI ks sz0 h0 qs cs := by
  refine ⟨fun a v σ h sz => ?_, fun a j v σ h sz => ?_⟩
  · obtain ⟨q, hk, ha, hv⟩ := zslen_q h
    subst ha; subst hv
    exact zso_len l dC dI ks sz0 h0 qs cs hq q hk σ sz
  · obtain ⟨q, hk, ha, h1, h2, hv⟩ := zschr_q h
    subst ha; subst hv
    have e : j = nI j.toNatClampNeg := by
      obtain ⟨i, hi, e⟩ := vp_in_of (vp_in_iff.mpr ⟨h1, h2⟩) (by have := of_decide_eq_true (List.all_eq_true.mp zKm_short q hk); omega)
      have h1000 := of_decide_eq_true (List.all_eq_true.mp zKm_short q hk)
      rw [e, nI_clamp (by omega)]
    have hj : j.toNatClampNeg < q.2.toList.length := by
      have e2 : j.toInt = (j.toNatClampNeg : Int) := by
        show j.toInt = ((j.toInt.toNat : Nat) : Int)
        omega
      omega
    have h9 := zso_chr l dC dI ks sz0 h0 qs cs hq q hk j.toNatClampNeg hj σ sz
    rw [← e] at h9
    exact h9
