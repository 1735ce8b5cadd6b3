/-! the law from its entry, over plain states -/
/-- the reference as it is made -/
def zst0 : zSt := (fun k => if k = 69 then -1 else 0, fun _ => 0, fun i => match (zspf i).2 with
  | .inl f => f
  | _ => fun _ => 0, fun i => match (zspf i).2 with
  | .inr (.inl f) => f
  | _ => fun _ => 0)
def zkd (a : vp_A) : Nat := match a.2 with
  | .inl _ => 0
  | .inr (.inl _) => 1
  | _ => 2
theorem zst0_kd : ∀ i, i < 122 → zkd (zspf i) = if zlg i = true then 1 else 0 := by decide +kernel
theorem zst0_row {i : Nat} (hi : i < 122) : zrc zst0 i = zspf i := by
  have h := zst0_kd i hi
  show ((zspf i).1, if zlg i = true then (.inr (.inl (match (zspf i).2 with
    | .inr (.inl f) => f
    | _ => fun _ => 0))) else (.inl (match (zspf i).2 with
    | .inl f => f
    | _ => fun _ => 0))) = zspf i
  generalize zspf i = a at h ⊢
  obtain ⟨n, d⟩ := a
  by_cases hg : zlg i = true
  · rw [if_pos hg] at h ⊢
    rcases d with f | f | f
    · cases h
    · rfl
    · cases h
  · rw [if_neg hg] at h ⊢
    rcases d with f | f | f
    · rfl
    · cases h
    · cases h
theorem zkc_row : ∀ k, k < 196 → (zkc k).1 = 2 → (zkc k).2 < 122 ∧ zki (zkc k).2 = k := by decide +kernel
theorem zkc_oth : ∀ k, k < 196 → (zkc k).1 ≠ 2 → ∀ i ∈ List.range 122, zki i ≠ k := by decide +kernel
theorem zki_inj : ∀ i ∈ List.range 122, ∀ j ∈ List.range 122, zki j = zki i → j = i := by decide +kernel
theorem zst0_def : ∀ k, k < 196 → (zkc k).1 ≠ 2 → ((zdef tyX13 196).set 69 (.int (-1)))[k]? = some (if (zkc k).1 = 0 then .int (if k = 69 then -1 else 0) else .long 0) ∧ ((zkc k).1 = 0 ∨ (zkc k).1 = 1) := by decide +kernel
theorem zfold_len : ∀ (n : Nat) (f : List Value) (qs : List Nat), ((List.range n).foldl (fun f i => f.set (zki i) (.ref (qs.getD i 0))) f).length = f.length
  | 0, _, _ => rfl
  | n + 1, f, qs => by
    rw [List.range_succ, List.foldl_append, List.foldl_cons, List.foldl_nil, List.length_set]
    exact zfold_len n f qs
theorem zst0_fl {qs : List Nat} (hq : qs.length = 122) : zput ((zdef tyX13 196).set 69 (.int (-1))) qs = zfl qs zst0 := by
  have hlen : ((zdef tyX13 196).set 69 (.int (-1))).length = 196 := by rw [List.length_set, zdef_len]
  apply List.ext_getElem?
  intro k
  by_cases hk : k < 196
  · have hv : (zfl qs zst0)[k]? = some (zval qs zst0 k) := by simp [zfl, hk]
    rw [hv]
    by_cases h2 : (zkc k).1 = 2
    · obtain ⟨h3, h4⟩ := zkc_row k hk h2
      rw [zput_row hq (List.mem_range.mpr h3) h4 (fun j hj => zki_inj _ (List.mem_range.mpr h3) j hj) (by rw [hlen]; exact hk)]
      simp [zval, h2]
    · obtain ⟨h3, h4⟩ := zst0_def k hk h2
      refine zput_oth hq (zkc_oth k hk h2) ?_
      rw [h3]
      rcases h4 with h4 | h4
      · simp [zval, h4, zst0]
      · simp [zval, h4, zst0]
  · rw [List.getElem?_eq_none (by unfold zput; rw [zfold_len, hlen]; omega), List.getElem?_eq_none (by simp [zfl]; omega)]
theorem zst0_w {y : Nat} {qs : List Nat} {cs : List ClassId} (hq : qs.length = 122) : (y, .inr (15, zput ((zdef tyX13 196).set 69 (.int (-1))) qs)) :: zarr qs cs = zwR y qs cs zst0 := by
  have h : zarr qs cs = (List.range 122).map (zrw qs cs zst0) := by
    unfold zarr
    rw [hq]
    apply List.map_congr_left
    intro i hi
    unfold zrw
    rw [zst0_row (List.mem_range.mp hi)]
  rw [zst0_fl hq, h]
  rfl
/-- so many different numbers want so much room -/
theorem lpig : ∀ (n a : Nat) (l : List Nat), l.Nodup → (∀ q ∈ l, a ≤ q ∧ q < a + n) → l.length ≤ n
  | 0, a, l, _, h => by
    cases l with
    | nil => exact Nat.le_refl _
    | cons q l =>
      have := h q List.mem_cons_self
      omega
  | n + 1, a, l, hn, h => by
    have h1 := lpig n a (l.erase (a + n)) (hn.erase _) (fun q hq => by
      have h2 := h q (List.mem_of_mem_erase hq)
      have h3 : q ≠ a + n := fun e => by
        rw [e] at hq
        exact (List.Nodup.not_mem_erase hn) hq
      omega)
    have h2 : l.length ≤ (l.erase (a + n)).length + 1 := by
      rw [List.length_erase]
      split <;> omega
    omega
/-- the class's object before its start -/
def lS0 (sz : Nat) : oSt := (fun _ => none, sz, 0, 0)
def lS1 (sz : Nat) : oSt := onew (lS0 sz) (.inr (14, odef 14)) (oq 14).2.2
theorem lS1_a (sz : Nat) : (lS1 sz).2.1 = sz + 1 := rfl
theorem lS1_b (sz : Nat) : (lS1 sz).2.2.1 = 1 := rfl
theorem lS1_c (sz : Nat) : (lS1 sz).2.2.2 = 13 := by
  show 0 + (oq 14).2.2 = 13
  rw [Nat.zero_add]
  decide
theorem lS1_d {sz q : Nat} (h : ((lS1 sz).1 q).isSome = true) : q = sz := by
  have h9 : ((if q = sz then some (Sum.inr (14, odef 14) : oC) else none) : Option oC).isSome = true := h
  by_cases e : q = sz
  · exact e
  · rw [if_neg e] at h9; cases h9
theorem lS1_e (sz : Nat) : ((lS1 sz).1 sz).isSome = true := by
  show ((if sz = sz then some (Sum.inr (14, odef 14) : oC) else none) : Option oC).isSome = true
  rw [if_pos rfl]; rfl
theorem lM_init {κ : oKv} {l : Launch} {dC : Nat → ClassId} {dI : Nat → Nat → Nat} {sz0 n a : Nat} {σ u : oSt} (h : oTr κ n 173 [.ref a] σ (none, u)) : Met l yX12_init (ows (yX12_init, cX12_init, 1, 0, 2, none, RX12)) (orm n (u.2.2.1 - σ.2.2.1) (u.2.2.2 - σ.2.2.2)) (oPr dC dI κ sz0 [.ref a] σ) (va_Qv (fun w => ((none : Option Value), w) = (none, u)) (oBw dC dI σ) (oA σ)) (u.2.2.1 - σ.2.2.1) (u.2.2.2 - σ.2.2.2) (oA σ) := by
  have h9 := oTr_met (l := l) (dC := dC) (dI := dI) (sz0 := sz0) n 173 _ _ _ h _ oM_173
  have e9 : oQ none ((none : Option Value), u) (oBw dC dI σ) (oA σ) = va_Qv (fun w => ((none : Option Value), w) = (none, u)) (oBw dC dI σ) (oA σ) := oQ_v rfl
  rw [← e9]
  exact h9
/-- the class's state when the reference is made too -/
def lsh (u : oSt) : oSt := (u.1, u.2.1 + 123, u.2.2)
/-- what is asked of the plain functions: both are made, and answer alike to the end of the script, within the room -/
def lGoal (κ : oKv) (ks : Nat → Nat) (sz : Nat) (xs : Nat → Int32) (L : Nat) : Prop := ∃ (n n' : Nat) (F : oCl) (u : oSt), n ≤ 1900 ∧ n' ≤ 1900 ∧ (∀ j av σ w, F j av σ = some w → oTr κ n j av σ w) ∧ F 173 [.ref sz] (lS1 sz) = some (none, u) ∧ u.2.2.1 + 123 ≤ room_1.cells ∧ u.2.2.2 + 2262902 ≤ room_1.slots ∧ ∀ qs : List Nat, qs.length = 122 → qs.Nodup → (∀ q ∈ qs, u.2.1 + 1 ≤ q ∧ q < u.2.1 + 123) → ∃ (G : zCl) (σ' : oSt) (τ' : zSt), (∀ j av τ w, G j av τ = some w → zTr u.2.1 qs ks n' j av τ (fun r v => (r, v) = w)) ∧ lrun F G sz u.2.1 xs L L 0 (lsh u) zst0 = some (σ', τ') ∧ σ'.2.2.1 + 123 ≤ room_1.cells ∧ σ'.2.2.2 + 2262902 ≤ room_1.slots
set_option maxHeartbeats 8000000 in
set_option maxRecDepth 100000 in
/-- THE LAW out of a run of the plain functions -/
theorem law_start {p : Program} {e : Env} {s : State} {m : MethodId} {below : List Frame} {meth : Method} {c : Code} (l : Launch) {b L : Nat} {xs : Nat → Int32} (hL : L ≤ 3072) (C0 : lw_At p s m meth c b L xs) (HP : ∀ (κ : oKv) (ks : Nat → Nat), oEv κ s.heap.size s → zKe ks s.heap.size s → lGoal κ ks s.heap.size xs L) : W p l e room_1 s m #[Value.ref b] below meth c s.heap [] 0 0 (lw_Z below #[Value.ref b] s) (entryFrame m ([Value.ref b] : List Value).toArray 4) := by
  have C1 := C0
  obtain ⟨hx, hb, hr, hml, hown0, hts0, hX, hbl, hlocks, hgv⟩ := C0
  have hb : c.code = cL_law := hb
  have hown : s.vm.findClass RL = some m.cls := hown0
  have hts : ∀ w ∈ lw_tbl, w.before #[Value.ref b] s = true := hts0
  have S : CallFix p m c cL_law 4 s #[Value.ref b] lw_tbl RL := ⟨hx, hb, hml, hown, hts0⟩
  obtain ⟨κ, hEv⟩ := oEv_start hts0 hgv
  obtain ⟨ks, hKe⟩ := zKe_start hts0 hgv
  obtain ⟨n, n', F, u, hn, hn', hF, hFi, hu1, hu2, HQ⟩ := HP κ ks hEv hKe
  have hRf : room_1.frames = 2048 := rfl
  have hRl : room_1.locals = 84000 := rfl
  have hq14 : (oq 14).2.2 = 13 := by decide
  obtain ⟨c0, i0, k0⟩ := u_known (C := RJ0) (T := TJ0) (N := 4) (n := 4) hts zinJ0 (hts (.instantiable RJ0 4) (zw_in 2 19 rfl))
  obtain ⟨c1, i1, k1⟩ := u_known (C := RJx4a65c) (T := TJx4a65c) (N := 3) (n := 3) hts zinJx4a65c (hts (.instantiable RJx4a65c 3) (zw_in 1 37 rfl))
  obtain ⟨c2, i2, k2⟩ := u_known (C := RX0) (T := TX0) (N := 10) (n := 10) hts zinX0 (hts (.instantiable RX0 10) (zw_in 6 30 rfl))
  obtain ⟨c3, i3, k3⟩ := u_known (C := RX1) (T := TX1) (N := 10) (n := 10) hts zinX1 (hts (.instantiable RX1 10) (zw_in 1 64 rfl))
  obtain ⟨c4, i4, k4⟩ := u_known (C := RX2) (T := TX2) (N := 15) (n := 15) hts zinX2 (hts (.instantiable RX2 15) (zw_in 6 76 rfl))
  obtain ⟨c5, i5, k5⟩ := u_known (C := RX3) (T := TX3) (N := 18) (n := 18) hts zinX3 (hts (.instantiable RX3 18) (zw_in 1 130 rfl))
  obtain ⟨c6, i6, k6⟩ := u_known (C := RX4) (T := TX4) (N := 8) (n := 8) hts zinX4 (hts (.instantiable RX4 8) (zw_in 3 141 rfl))
  obtain ⟨c7, i7, k7⟩ := u_known (C := RX5) (T := TX5) (N := 21) (n := 21) hts zinX5 (hts (.instantiable RX5 21) (zw_in 4 72 rfl))
  obtain ⟨c8, i8, k8⟩ := u_known (C := RX6) (T := TX6) (N := 5) (n := 5) hts zinX6 (hts (.instantiable RX6 5) (zw_in 1 70 rfl))
  obtain ⟨c9, i9, k9⟩ := u_known (C := RX7) (T := TX7) (N := 18) (n := 18) hts zinX7 (hts (.instantiable RX7 18) (zw_in 3 10 rfl))
  obtain ⟨c10, i10, k10⟩ := u_known (C := RX8) (T := TX8) (N := 4) (n := 4) hts zinX8 (hts (.instantiable RX8 4) (zw_in 6 151 rfl))
  obtain ⟨c11, i11, k11⟩ := u_known (C := RX9) (T := TX9) (N := 4) (n := 4) hts zinX9 (hts (.instantiable RX9 4) (zw_in 5 12 rfl))
  obtain ⟨c12, i12, k12⟩ := u_known (C := RX10) (T := TX10) (N := 10) (n := 10) hts zinX10 (hts (.instantiable RX10 10) (zw_in 5 128 rfl))
  obtain ⟨c13, i13, k13⟩ := u_known (C := RX11) (T := TX11) (N := 6) (n := 6) hts zinX11 (hts (.instantiable RX11 6) (zw_in 2 17 rfl))
  obtain ⟨c14, i14, k14⟩ := u_known (C := RX12) (T := TX12) (N := 13) (n := 13) hts zinX12 (hts (.instantiable RX12 13) (zw_in 1 29 rfl))
  obtain ⟨c15, i15, k15⟩ := u_known (C := RX13) (T := TX13) (N := 196) (n := 196) hts zinX13 (hts (.instantiable RX13 196) (zw_in 8 178 rfl))
  obtain ⟨dC, dI, hKc⟩ : ∃ (dC : Nat → ClassId) (dI : Nat → Nat → Nat), ∀ (k : Nat) (q : vw_C), vwCl[k]? = some q → u_Kn s q.1 q.2.1 q.2.2 (dC k) (dI k) := by
    refine ⟨fun k => [c0, c1, c2, c3, c4, c5, c6, c7, c8, c9, c10, c11, c12, c13, c14, c15].getD k c0, fun k => [i0, i1, i2, i3, i4, i5, i6, i7, i8, i9, i10, i11, i12, i13, i14, i15].getD k i0, ?_⟩
    intro k q hq
    match k, hq with
    | 0, hq => cases hq; exact k0
    | 1, hq => cases hq; exact k1
    | 2, hq => cases hq; exact k2
    | 3, hq => cases hq; exact k3
    | 4, hq => cases hq; exact k4
    | 5, hq => cases hq; exact k5
    | 6, hq => cases hq; exact k6
    | 7, hq => cases hq; exact k7
    | 8, hq => cases hq; exact k8
    | 9, hq => cases hq; exact k9
    | 10, hq => cases hq; exact k10
    | 11, hq => cases hq; exact k11
    | 12, hq => cases hq; exact k12
    | 13, hq => cases hq; exact k13
    | 14, hq => cases hq; exact k14
    | 15, hq => cases hq; exact k15
    | k + 16, hq => simp [vwCl] at hq
  have hK0 : va_K (dC, dI) vwCl [] s := ⟨hKc, fun k q h => by simp at h⟩
  have hR0 : oR dC dI (oA (lS0 s.heap.size)) s (lS0 s.heap.size) s.heap := ⟨[], [], fun k q h => (by simp at h), ⟨fun i j p q h => (by simp at h), fun k q h => (by simp at h)⟩, hK0, ⟨fun a c h => (by cases h), fun k a e h => (by simp at h)⟩⟩
  have hA0 : ∀ q, oA (lS0 s.heap.size) q → s.heap.size ≤ q := fun q h => by
    rcases h with h | h
    · cases h
    · exact h
  have hl := lv_entry ([.ref b]) (n := 4) (Nat.le_of_ble_eq_true rfl)
  rw [lg_entry_eq]
  generalize (lg_sl ([.ref b]) ++ List.replicate (4 - (lg_sl ([.ref b])).length) Slot.unset).toArray = ls at hl ⊢
  have hl : lv_has ls 4 [(0, .ref b)] := hl
  refine oo_new (σ0 := lS0 s.heap.size) (σ := lS0 s.heap.size) (cells := 0) (slots := 0) (C := (oq 14).1) (T := (oq 14).2.1) (N := (oq 14).2.2) (ci := 14) (fs := odef 14) hx hb hts zinX12 (oty 14) (oty_ok (by decide)) hown (hts (.classLink RL 7 RX12) (zw_in 1 28 rfl)) (hts (.instantiable RX12 13) (zw_in 1 29 rfl)) (hts (.initialized RX12) (zw_in 1 1 rfl)) rfl hR0 va_S.rf (fun x hx => by cases hx) (Nat.le_refl _) (Nat.le_refl _) rfl (oq_at (by decide)) (fun j hj => by simp [vp_V, odef, hj]) (Nat.le_of_ble_eq_true rfl) (Nat.le_of_ble_eq_true rfl) dL_law_0 (fun H hR hS hLc hz => ?_)
  have hR : oR dC dI (oA (lS0 s.heap.size)) s (lS1 s.heap.size) H := hR
  have hS : va_S (fun q => s.heap.size ≤ q) s.heap H [] := ⟨hS.1, fun q h1 h2 => hS.2.1 q h1 (fun h => h2 (hA0 q h)), fun x hx => by cases hx⟩
  refine lv_dup hx hb dL_law_3 rfl ?_
  have hTr := hF _ _ _ _ hFi
  have hmo := oTr_mono _ _ _ _ _ hTr
  have la := lS1_a s.heap.size
  have lb := lS1_b s.heap.size
  have lc := lS1_c s.heap.size
  have hmo1 : (lS1 s.heap.size).2.2.1 ≤ u.2.2.1 := hmo.1
  have hmo2 : (lS1 s.heap.size).2.2.2 ≤ u.2.2.2 := hmo.2
  have hA1 : ∀ q, oA (lS1 s.heap.size) q → s.heap.size ≤ q := fun q h => by
    rcases h with h | h
    · rw [lS1_d h]; exact Nat.le_refl _
    · omega
  have hM := lM_init (l := l) (dC := dC) (dI := dI) (sz0 := s.heap.size) hTr
  have hpre : ∀ U : State, U.heap = H → s.WarmedH U.vm → oPr dC dI κ s.heap.size [.ref s.heap.size] (lS1 s.heap.size) ([.ref s.heap.size] : List Value).toArray U := fun U hU hW => ⟨rfl, by rw [hU, la]; exact hz.symm, by
    have h9 := (hR.moved hW.alike).weaken (B := oA (lS1 s.heap.size)) (fun a z hz => Or.inl (by rw [hz]; rfl))
    rw [← hU] at h9
    exact h9, hA1, hEv.call (fun q hq => hq) hS hU hW⟩
  have hok := omt_ok _ (List.mem_of_getElem? oM_173)
  refine va_callv (va_runI (As := []) (rest := [.ref s.heap.size]) S hM (cwI 0 hts (ogoodL (ows_in oM_173)) rfl rfl rfl (hts (.initialized RX12) (zw_in 1 1 rfl)) (hts (.methodLink RL 9 yX12_init) (zw_in 1 30 rfl)) (hts (.instanceMethod yX12_init) (zw_in 1 31 rfl)) rfl ⟨hok.2.2.2.2.1, hok.2.2.2.2.2, hok.2.1⟩ ⟨show n + 8 + 1 ≤ room_1.frames by omega, show 8 + (1 + 11) + (40 * n + 320) ≤ room_1.locals by omega⟩) ⟨oPr_blind, hpre⟩ rfl rfl hl.1 rfl (lv_room (Nat.le_of_ble_eq_true rfl)) dL_law_4 ⟨by omega, by omega⟩) hS (fun q _ h => hA1 q h) hA1 (fun u9 t H1 locs1 ht hvm hp hB hz1 hk1 hS1 => ?_)
  have hp9 : ((none : Option Value), u9) = (none, u) := hp
  cases hp9
  refine W.widen (k := u.2.2.1) (n := u.2.2.2) (by omega) (by omega) ?_
  obtain ⟨b1, b2, b3, b4, b5, b6, b7⟩ := hB
  rw [ht] at b1 b7
  have b6 : u.2.1 = (lS1 s.heap.size).2.1 + (u.2.2.1 - (lS1 s.heap.size).2.2.1) := b6
  have hRu : oR dC dI (fun q => s.heap.size ≤ q) s u H1 := (b1.moved hvm.symm).weaken (fun a c9 e9 => hA1 a (b1.in e9))
  have hdom : ∀ q, s.heap.size ≤ q → q < u.2.1 → (u.1 q).isSome = true := fun q h1 h2 => by
    by_cases h3 : q = s.heap.size
    · refine b2 q ?_
      rw [h3]
      exact lS1_e _
    · exact b3 q (by omega) h2
  refine lv_astore_n (lv' := [(1, .ref s.heap.size), (0, .ref b)]) hx hb dL_law_7 rfl hl (by decide) rfl (fun ls hl => ?_)
  refine oW_size (fun hup => ?_)
  have hnx : u.2.1 = H1.size := by omega
  have hLu : oLc u H1 locs1 := fun x9 hx9 => by
    have h1 := hS1.2.2 x9 hx9
    by_cases h2 : x9.base < u.2.1
    · exact Or.inl (hdom _ h1 h2)
    · exact Or.inr (by rw [← hnx]; exact Nat.not_lt.mp h2)
  obtain ⟨ws, tys, hP, hD, hK1, hrep⟩ := oB_D hRu
  refine va_new (ci := 15) (fs := zdef tyX13 196) (C := RX13) (T := TX13) (N := 196) hx hb hts zinX13 tyX13 tyX13_ok hown (hts (.classLink RL 10 RX13) (zw_in 8 177 rfl)) (hts (.instantiable RX13 196) (zw_in 8 178 rfl)) (hts (.initialized RX13) (zw_in 1 8 rfl)) hK1 hP hD (oB_S hLu) (fun q h => Or.inr h) rfl (fun j hj => zdef_V hj) (show u.2.2.1 + 1 ≤ room_1.cells by omega) (show u.2.2.2 + 196 ≤ room_1.slots by omega) dL_law_8 (fun y H2 hP2 hD2 hS2 => ?_)
  refine oW_size (fun hup2 => ?_)
  have hat : (ws ++ [(y, (.inr (15, zdef tyX13 196) : va_E))])[ws.length]? = some (y, .inr (15, zdef tyX13 196)) := by simp
  have hy1 : y < H2.size := (hP2 _ _ hat).lt
  have hy2 : H1.size ≤ y := by
    rcases hD2.2 ws.length _ hat with h | h
    · exfalso
      obtain ⟨d, hd⟩ := Option.isSome_iff_exists.mp h
      obtain ⟨i, e9, hi, -⟩ := hrep.1 y d hd
      have hil : i < ws.length := (List.getElem?_eq_some_iff.mp hi).1
      have := hD2.1 i ws.length (y, e9) _ (by rw [List.getElem?_append_left hil]; exact hi) hat rfl
      omega
    · exact h
  have hy : y = u.2.1 := by omega
  have hz2 : H2.size = H1.size + 1 := by omega
  subst hy
  have hS12 : va_S (fun q => s.heap.size ≤ q) s.heap H2 locs1 := ⟨by have := hS1.1; omega, fun q h1 h2 => by
    have h3 : q < H1.size := Nat.lt_of_lt_of_le h1 hS1.1
    rw [hS2.2.1 q h3 (fun h => by
      rcases h with h | h
      · obtain ⟨d, hd⟩ := Option.isSome_iff_exists.mp h
        exact h2 (hRu.in hd)
      · omega)]
    exact hS1.2.1 q h1 h2, hS1.2.2⟩
  have hRu2 : oR dC dI (fun q => s.heap.size ≤ q) s u H2 := by
    refine ⟨ws, tys, fun k q hk => hP2 k q (by rw [List.getElem?_append_left (List.getElem?_eq_some_iff.mp hk).1]; exact hk), ⟨hD.1, fun k q hk => ?_⟩, hK1, hrep⟩
    obtain ⟨c9, h6, -⟩ := hrep.2 k q.1 q.2 hk
    exact hRu.in h6
  refine lv_dup hx hb dL_law_11 rfl ?_
  have hPc : va_P (dC, dI) vwCl [(u.2.1, .inr (15, zdef tyX13 196))] H2 := hP2.sub [ws.length] (by simp)
  have hDc : va_D (fun q : Nat => s.heap.size ≤ q) [(u.2.1, .inr (15, zdef tyX13 196))] := ⟨fun i j p q h1 h2 _ => by
    have a1 := (List.getElem?_eq_some_iff.mp h1).1
    have a2 := (List.getElem?_eq_some_iff.mp h2).1
    simp at a1 a2
    omega, fun k q h => by
    have a1 := List.mem_of_getElem? h
    rw [List.mem_singleton.mp a1]
    show s.heap.size ≤ u.2.1
    omega⟩
  have hKc0 : va_K (dC, dI) vwCl [] s := hK0
  have hca : u.2.2.1 + 1 + 122 ≤ room_1.cells := by omega
  have hse : u.2.2.2 + 196 + 2262706 = u.2.2.2 + 2262902 := Nat.add_assoc _ 196 2262706
  have hsl : u.2.2.2 + 196 + 2262706 ≤ room_1.slots := by rw [hse]; exact hu2
  have hlow : ∀ q, va_A [(u.2.1, (.inr (15, zdef tyX13 196) : va_E))] H2.size q → s.heap.size ≤ q := fun q h => by
    rcases h with ⟨k, e9, hk⟩ | h
    · have a1 := List.mem_of_getElem? hk
      have a2 := List.mem_singleton.mp a1
      cases a2
      omega
    · omega
  refine va_callv (va_runI (As := []) (rest := [.ref u.2.1]) S (c_X13_init l dC dI H2.size u.2.1 (zdef tyX13 196) (zdef_len _ _)) (cwI 0 hts zg_X13_init rfl rfl rfl (hts (.initialized RX13) (zw_in 1 8 rfl)) (hts (.methodLink RL 12 yX13_init) (zw_in 8 179 rfl)) (hts (.instanceMethod yX13_init) (zw_in 8 180 rfl)) rfl (by decide +kernel) ⟨Nat.le_of_ble_eq_true rfl, Nat.le_of_ble_eq_true rfl⟩) ⟨zPc_blind, fun U hU hW => zPc_at hPc hKc0 hDc hU hW⟩ rfl rfl hl.1 rfl (lv_room (Nat.le_of_ble_eq_true rfl)) dL_law_12 ⟨hca, hsl⟩) hS12 (fun q _ h => hlow q h) hlow (fun um t2 H3 locs3 ht2 hvm2 hw hB2 hz3 hk3 hS3 => ?_)
  obtain ⟨qs, cs⟩ := um
  obtain ⟨hP3, hK3, hD3⟩ := hB2
  rw [ht2] at hP3
  have hq : qs.length = 122 := hw.1
  have hc : cs.length = 122 := hw.2
  have hP3 : va_P (dC, dI) vwCl (zwR u.2.1 qs cs zst0) H3 := by rw [← zst0_w hq]; exact hP3
  have hD3 : va_D (va_A [(u.2.1, (.inr (15, zdef tyX13 196) : va_E))] H2.size) (zwR u.2.1 qs cs zst0) := by rw [← zst0_w hq]; exact hD3
  have hK3 : va_K (dC, dI) vwCl (ztys cs) s := va_K.moved hvm2.symm hK3
  refine W.widen (k := u.2.2.1 + 123) (n := u.2.2.2 + 2262902) (Nat.le_of_eq (Nat.add_assoc _ 1 122)) (Nat.le_of_eq hse) ?_
  refine oW_size (fun hup3 => ?_)
  have hqat : ∀ i, i < 122 → (zwR u.2.1 qs cs zst0)[i + 1]? = some (qs.getD i 0, (zrw qs cs zst0 i).2) := fun i hi => zwR_at hi
  have hq1 : ∀ i, i < 122 → H2.size ≤ qs.getD i 0 ∧ qs.getD i 0 < H3.size := fun i hi => by
    refine ⟨?_, (hP3 _ _ (hqat i hi)).lt⟩
    rcases hD3.2 _ _ (hqat i hi) with ⟨k, e9, hk⟩ | h
    · exfalso
      have a2 := List.mem_singleton.mp (List.mem_of_getElem? hk)
      have a3 : qs.getD i 0 = u.2.1 := congrArg Prod.fst a2
      have := hD3.1 0 (i + 1) (u.2.1, .inr (15, zfl qs zst0)) _ rfl (hqat i hi) a3.symm
      omega
    · exact h
  have hqd : ∀ i j, i < 122 → j < 122 → qs.getD i 0 = qs.getD j 0 → i = j := fun i j hi hj h => by
    have := hD3.1 (i + 1) (j + 1) _ _ (hqat i hi) (hqat j hj) h
    omega
  have hgd : ∀ i, (h : i < qs.length) → qs.getD i 0 = qs[i] := fun i h => by rw [List.getD_eq_getElem?_getD, List.getElem?_eq_getElem h]; rfl
  have hnd : qs.Nodup := by
    rw [List.nodup_iff_pairwise_ne, List.pairwise_iff_getElem]
    intro i j hi hj hij h9
    have := hqd i j (by omega) (by omega) (by rw [hgd i hi, hgd j hj]; exact h9)
    omega
  have hqm : ∀ q ∈ qs, H2.size ≤ q ∧ q < H3.size := fun q h => by
    obtain ⟨i, hi, e9⟩ := List.getElem_of_mem h
    have h9 := hq1 i (by omega)
    rw [hgd i hi, e9] at h9
    exact h9
  have hpig := lpig (H3.size - H2.size) H2.size qs hnd (fun q h => by
    have := hqm q h
    omega)
  have hz3e : H3.size = u.2.1 + 123 := by omega
  obtain ⟨G, σ', τ', hG, hrun, hb1, hb2⟩ := HQ qs hq hnd (fun q h => by
    have := hqm q h
    omega)
  refine lv_astore_n (lv' := [(2, .ref u.2.1), (1, .ref s.heap.size), (0, .ref b)]) hx hb dL_law_15 rfl hl (by decide) rfl (fun ls hl => ?_)
  refine lv_iconst (v := nI 0) hx hb dL_law_16 (by decide) ?_
  refine lv_istore_n (lv' := [(3, .int (nI 0)), (2, .ref u.2.1), (1, .ref s.heap.size), (0, .ref b)]) hx hb dL_law_17 rfl hl (by decide) rfl (fun ls hl => ?_)
  have hIv : lInv dC dI s u.2.1 qs cs (lsh u) zst0 H3 locs3 ((lsh u).2.2.1 + 123) := by
    refine ⟨hRu2.kept (fun a ha => hk3 a ?_ ?_), hP3, hK3, ⟨hD3.1, fun k q hk => hlow _ (hD3.2 k q hk)⟩, fun q hq9 => ?_, ?_, ?_, hS3, hq, hc⟩
    · obtain ⟨d, hd⟩ := Option.isSome_iff_exists.mp ha
      exact hRu2.lt hd
    · intro h
      obtain ⟨d, hd⟩ := Option.isSome_iff_exists.mp ha
      have hlt1 : a < H1.size := hRu.lt hd
      rcases h with ⟨k, e9, hk⟩ | h
      · have a2 := List.mem_singleton.mp (List.mem_of_getElem? hk)
        cases a2
        omega
      · omega
    · cases h9 : u.1 q with
      | none => exact h9
      | some d =>
        exfalso
        have hlt1 : q < H1.size := hRu.lt h9
        rcases hq9 with h8 | h8
        · omega
        · have := hqm q h8
          omega
    · show u.2.1 + 123 = s.heap.size + (u.2.2.1 + 123)
      omega
    · show u.2.1 + 123 ≤ H3.size
      omega
  exact law_loop C1 hL hEv hKe (zSo_ok l dC dI ks s.heap.size u.2.1 qs cs hq) hn hn' hF hG hb1 hb2 L 0 (lsh u) zst0 H3 locs3 ls (Nat.zero_le _) hrun hIv hl
