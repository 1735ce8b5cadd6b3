/-! what may be taken for granted of the addresses of the constants -/
theorem va_OF_one {o n d : String} {v v' : Value} {a : Nat} {A : Nat → Prop} {U : State} {H : Heap} (h : va_OF o n d v a A U H) (h' : va_OF o n d v' a A U H) : v = v' := by
  obtain ⟨cf, k, fi, f, cell, g1, g2, g3, g4, g5, -⟩ := h
  obtain ⟨cf', k', fi', f', cell', g1', g2', g3', g4', g5', -⟩ := h'
  cases g1.symm.trans g1'
  cases g3.symm.trans g3'
  exact Option.some.inj (g5.symm.trans g5')
theorem ofNat_inj32 {m n : Nat} (hm : m < 1000) (hn : n < 1000) (h : Int32.ofNat m = Int32.ofNat n) : m = n := (nI_eq (by omega) (by omega)).mp h
theorem va_T_one {ty : FieldType} {t N N' : Nat} {f f' : Nat → Value} {A : Nat → Prop} {U : State} {H : Heap} (hN : N < 1000) (hN' : N' < 1000) (h : va_T ty t N f A U H) (h' : va_T ty t N' f' A U H) : N = N' ∧ ∀ j, j < N → f j = f' j := by
  obtain ⟨cell, g1, g2, g3, g4, g5, g6, -⟩ := h
  obtain ⟨cell', g1', g2', g3', g4', g5', g6', -⟩ := h'
  cases g1.symm.trans g1'
  have e : N = N' := ofNat_inj32 hN hN' (g5.symm.trans g5')
  subst e
  exact ⟨rfl, fun j hj => Option.some.inj ((g6 j hj).symm.trans (g6' j hj))⟩
theorem zch_lt (c : Char) : c.toNat < 2 ^ 31 := by
  have h := c.valid
  have h2 : c.toNat = c.val.toNat := rfl
  rcases h with h | h
  · have : c.val.toNat < 0xd800 := h
    omega
  · have : c.val.toNat < 0x110000 := h.2
    omega
theorem zch_inj {s t : String} (hl : s.toList.length = t.toList.length) (h : ∀ j, j < s.toList.length → zch s j = zch t j) : s = t := by
  have h2 : s.toList = t.toList := by
    apply List.ext_getElem hl
    intro j h1 h3
    have h4 := h j h1
    unfold zch at h4
    rw [List.getD_eq_getElem?_getD, List.getD_eq_getElem?_getD, List.getElem?_eq_getElem h1, List.getElem?_eq_getElem h3] at h4
    have h5 : nI (s.toList[j]).toNat = nI (t.toList[j]).toNat := h4
    have b1 : (s.toList[j]).toNat < 2 ^ 31 := zch_lt _
    have b2 : (t.toList[j]).toNat < 2 ^ 31 := zch_lt _
    have h6 := (nI_eq b1 b2).mp h5
    exact Char.toNat_inj.mp h6
  exact String.toList_inj.mp h2
/-- what is known of the addresses: older than the cells, and one address has one text -/
def lFacts (κ : oKv) (ks : Nat → Nat) (sz : Nat) : Prop := (∀ i, i < 17 → κ.1 i < sz ∧ κ.2.1 i < sz) ∧ κ.2.2.1 < sz ∧ (∀ i j, i < 17 → j < 17 → κ.1 i = κ.1 j → κ.2.1 i = κ.2.1 j) ∧ (∀ i j, i < 17 → j < 17 → κ.2.1 i = κ.2.1 j → oktx i = oktx j) ∧ (∀ i, i < 17 → κ.2.1 i ≠ κ.2.2.1) ∧ ∀ q ∈ zKm, ∀ q' ∈ zKm, ks q.1 = ks q'.1 → q.2 = q'.2
theorem lFacts_of {κ : oKv} {ks : Nat → Nat} {s : State} (hE : oEv κ s.heap.size s) (hK : zKe ks s.heap.size s) : lFacts κ ks s.heap.size := by
  have hat : ∀ i, i < 17 → ∃ q, okt[i]? = some q := fun i hi => ⟨okt[i]'hi, List.getElem?_eq_getElem hi⟩
  have htx : ∀ i q, okt[i]? = some q → oktx i = q.2.2 := fun i q h => by simp only [oktx, h]
  refine ⟨fun i hi => ?_, ?_, fun i j hi hj h => ?_, fun i j hi hj h => ?_, fun i hi h => ?_, fun q hq q' hq' h => ?_⟩
  · obtain ⟨q, hq⟩ := hat i hi
    obtain ⟨-, h2, -, -, h5⟩ := hE.2.1 i q hq
    refine ⟨?_, Nat.not_le.mp h5.out⟩
    obtain ⟨cell, -, -, -, h6⟩ := h2
    exact Nat.not_le.mp h6
  · exact Nat.not_le.mp hE.2.2.2.2.1.out
  · obtain ⟨q, hq⟩ := hat i hi
    obtain ⟨q', hq'⟩ := hat j hj
    have h1 := (hE.2.1 i q hq).2.2.2.1
    have h2 := (hE.2.1 j q' hq').2.2.2.1
    rw [← h] at h2
    have h3 := va_OF_one h1 h2
    exact Value.ref.inj h3
  · obtain ⟨q, hq⟩ := hat i hi
    obtain ⟨q', hq'⟩ := hat j hj
    have h1 := (hE.2.1 i q hq).2.2.2.2
    have h2 := (hE.2.1 j q' hq').2.2.2.2
    rw [← h] at h2
    obtain ⟨h3, h4⟩ := va_T_one (okt_len q (List.mem_of_getElem? hq)) (okt_len q' (List.mem_of_getElem? hq')) h1 h2
    rw [htx i q hq, htx j q' hq']
    exact zch_inj h3 (fun k hk => Value.int.inj (h4 k hk))
  · obtain ⟨q, hq⟩ := hat i hi
    obtain ⟨cell, g1, g2, g3, g4, g5, g6, -⟩ := (hE.2.1 i q hq).2.2.2.2
    obtain ⟨cell', g1', g2', -⟩ := hE.2.2.2.2.1
    rw [h] at g1
    cases g1.symm.trans g1'
    obtain ⟨-, k, hk, c1, hc1⟩ := g2
    obtain ⟨-, k', hk', c1', hc1'⟩ := g2'
    cases hk.symm.trans hk'
    rw [hc1] at hc1'
    cases hc1'
  · have hm : (RX13, q.1, q.2) ∈ zKn := List.mem_map.mpr ⟨q, hq, rfl⟩
    have hm' : (RX13, q'.1, q'.2) ∈ zKn := List.mem_map.mpr ⟨q', hq', rfl⟩
    obtain ⟨vb, -, -, h3, h4⟩ := hK.2.1 q hq
    obtain ⟨vb', -, -, h3', h4'⟩ := hK.2.1 q' hq'
    rw [← h] at h3'
    have e9 := Value.ref.inj (va_OF_one h3 h3')
    rw [← e9] at h4'
    obtain ⟨h5, h6⟩ := va_T_one (zKn_len _ hm) (zKn_len _ hm') h4 h4'
    exact zch_inj h5 (fun k hk => Value.int.inj (h6 k hk))
