/-! the law from its entry to the head of its loop: both objects are made -/
theorem zw_in (a i : Nat) {w : Cond} (h : (ztab a)[i]? = some w) : w ∈ lw_tbl := ztab_in a w (List.mem_of_getElem? h)
theorem zr_all (wx : va_W) (q : Nat × va_E) : (List.range wx.length).map (fun i => (wx ++ [q])[i]?) = wx.map some := by
  apply List.ext_getElem?
  intro i
  by_cases h : i < wx.length
  · simp [h, List.getElem?_append_left h]
  · simp [h]
theorem zr_nd_aux : ∀ (l : List Nat), l.Nodup → va_nd l = true := by
  intro l
  induction l with
  | nil => intro _; rfl
  | cons a l ih =>
    intro h
    rw [List.nodup_cons] at h
    simp [va_nd, h.1, ih h.2]
theorem zr_nd (n : Nat) : va_nd (List.range n) = true := zr_nd_aux _ List.nodup_range
/-- what holds of the machine at every call, at the law's start -/
theorem zE_start {b : Nat} {s : State} (hts : ∀ w ∈ lw_tbl, w.before #[Value.ref b] s = true) (hgv : (Jvm.Cond.and given_1 narrow_1).before #[Value.ref b] s = true) : ∃ e0 : Nat, zE s.heap.size e0 s ∧ va_T (.object "java/lang/Object") e0 0 (fun _ => .null) (fun q => s.heap.size ≤ q) s s.heap := by
  have hq := flat_of_before _ hgv
  have harr : (Cond.arrayOf (.static "java/util/ArrayList" "DEFAULTCAPACITY_EMPTY_ELEMENTDATA" "[Ljava/lang/Object;") (.object "java/lang/Object")).before #[Value.ref b] s = true := hq _ (by decide +kernel)
  have hlen : (Cond.eq (.length (.static "java/util/ArrayList" "DEFAULTCAPACITY_EMPTY_ELEMENTDATA" "[Ljava/lang/Object;")) (.int 0)).before #[Value.ref b] s = true := hq _ (by decide +kernel)
  have hA : ∀ a : Nat, a < s.heap.size → ¬ (fun q : Nat => s.heap.size ≤ q) a := fun a h q => absurd h (Nat.not_lt.mpr q)
  obtain ⟨e0, h1, h2⟩ := va_Tof (N := 0) (f := fun _ => .null) (A := fun q : Nat => s.heap.size ≤ q) (by decide) harr (va_eqt hlen) (fun j h => absurd h (Nat.not_lt_zero j)) hA
  refine ⟨e0, ⟨⟨va_Nw.of rfl (hts (.methodLinkNest RX12 32 yX1_init "LiquidTongue") (zw_in 1 65 rfl)), va_Nw.of rfl (hts (.methodLinkNest RX1 11 yX6_init "LiquidTongue") (zw_in 1 71 rfl)), va_Nw.of rfl (hts (.methodLinkNest RX12 39 yX3_init "LiquidTongue") (zw_in 1 131 rfl)), va_Nw.of rfl (hts (.methodLinkNest RX7 263 yX9_init "LiquidTongue") (zw_in 5 13 rfl)), va_Nw.of rfl (hts (.methodLinkNest RX0 179 yX9_init "LiquidTongue") (zw_in 7 43 rfl)), va_AO.of (hts (.arrayOver (.object RX4)) (zw_in 1 96 rfl)), va_AO.of (hts (.arrayOver (.object RX5)) (zw_in 1 94 rfl)), va_AO.of (hts (.arrayOver (.object RX9)) (zw_in 6 216 rfl)), va_AO.of (hts (.arrayOver (.object "java/lang/Object")) (zw_in 4 55 rfl)), hts (.arrayOver (.array .int)) (zw_in 1 136 rfl)⟩, ?_⟩, h2⟩
  exact va_Zref (hts (.laysStatic "java/util/ArrayList" "DEFAULTCAPACITY_EMPTY_ELEMENTDATA" "[Ljava/lang/Object;") (zw_in 1 49 rfl)) (hts (.initialized "java/util/ArrayList") (zw_in 1 4 rfl)) h1 hA
/-- the cells of both objects, as they are made: the class at x, the reference at y -/
abbrev zw_new (e0 x y : Nat) (ux : (Nat → Nat) × (Nat → ClassId)) (qs : List Nat) (cs : List ClassId) : va_W := zw_X12 e0 x (zdef tyX12 13) ux ++ ((y, .inr (15, zput ((zdef tyX13 196).set 69 (.int (-1))) qs)) :: zarr qs cs)
set_option maxHeartbeats 4000000 in
set_option maxRecDepth 100000 in
/-- THE LAW, from its entry to the head of its loop -/
theorem zlaw_enter {p : Program} {e : Env} {s : State} {m : MethodId} {below : List Frame} {meth : Method} {c : Code} (l : Launch) {b L : Nat} {xs : Nat → Int32} (C0 : lw_At p s m meth c b L xs)
    (KK : ∀ (dC : Nat → ClassId) (dI : Nat → Nat → Nat) (e0 x y : Nat) (ux : (Nat → Nat) × (Nat → ClassId)) (qs : List Nat) (cs : List ClassId) (H : Heap) (locs : List Loc) (ls : Array Slot), zE s.heap.size e0 s → va_T (.object "java/lang/Object") e0 0 (fun _ => .null) (fun q => s.heap.size ≤ q) s s.heap → qs.length = 122 → cs.length = 122 → va_K (dC, dI) vwCl (zt_X12 ux ++ ztys cs) s → va_P (dC, dI) vwCl (zw_new e0 x y ux qs cs) H → va_D (fun q : Nat => s.heap.size ≤ q) (zw_new e0 x y ux qs cs) → va_S (fun q : Nat => s.heap.size ≤ q) s.heap H locs → lv_has ls 4 [(3, .int 0), (2, .ref y), (1, .ref x), (0, .ref b)] →
      W p l e room_1 s m #[Value.ref b] below meth c H locs 142 2270492 (lw_Z below #[Value.ref b] s) (F0 m 18 ls [])) :
    W p l e room_1 s m #[Value.ref b] below meth c s.heap [] 0 0 (lw_Z below #[Value.ref b] s) (entryFrame m ([Value.ref b] : List Value).toArray 4) := by
  obtain ⟨hx, hb, hr, hml, hown0, hts0, hX, hbl, hlocks, hgv⟩ := C0
  have hb : c.code = cL_law := hb
  have hown : s.vm.findClass RL = some m.cls := hown0
  have hts : ∀ w ∈ lw_tbl, w.before #[Value.ref b] s = true := hts0
  obtain ⟨e0, hE, hT0⟩ := zE_start hts0 hgv
  have hA : ∀ q : Nat, s.heap.size ≤ q → (fun q : Nat => s.heap.size ≤ q) q := fun _ h => h
  have hA0 : ∀ q : Nat, (fun q : Nat => s.heap.size ≤ q) q → s.heap.size ≤ q := fun _ h => h
  have hz0 : s.heap.size ≤ s.heap.size := Nat.le_refl _
  obtain ⟨c0, i0, k0⟩ := u_known (C := RJ0) (T := TJ0) (N := 4) (n := 4) hts zinJ0 (hts (.instantiable RJ0 4) (zw_in 2 19 rfl))
  obtain ⟨c1, i1, k1⟩ := u_known (C := RJx4a65c) (T := TJx4a65c) (N := 3) (n := 3) hts zinJx4a65c (hts (.instantiable RJx4a65c 3) (zw_in 1 37 rfl))
  obtain ⟨c2, i2, k2⟩ := u_known (C := RX0) (T := TX0) (N := 10) (n := 10) hts zinX0 (hts (.instantiable RX0 10) (zw_in 6 30 rfl))
  obtain ⟨c3, i3, k3⟩ := u_known (C := RX1) (T := TX1) (N := 10) (n := 10) hts zinX1 (hts (.instantiable RX1 10) (zw_in 1 64 rfl))
  obtain ⟨c4, i4, k4⟩ := u_known (C := RX2) (T := TX2) (N := 15) (n := 15) hts zinX2 (hts (.instantiable RX2 15) (zw_in 6 76 rfl))
  obtain ⟨c5, i5, k5⟩ := u_known (C := RX3) (T := TX3) (N := 18) (n := 18) hts zinX3 (hts (.instantiable RX3 18) (zw_in 1 130 rfl))
  obtain ⟨c6, i6, k6⟩ := u_known (C := RX4) (T := TX4) (N := 8) (n := 8) hts zinX4 (hts (.instantiable RX4 8) (zw_in 3 141 rfl))
  obtain ⟨c7, i7, k7⟩ := u_known (C := RX5) (T := TX5) (N := 21) (n := 21) hts zinX5 (hts (.instantiable RX5 21) (zw_in 4 72 rfl))
  obtain ⟨c8, i8, k8⟩ := u_known (C := RX6) (T := TX6) (N := 5) (n := 5) hts zinX6 (hts (.instantiable RX6 5) (zw_in 1 70 rfl))
  obtain ⟨c9, i9, k9⟩ := u_known (C := RX7) (T := TX7) (N := 18) (n := 18) hts zinX7 (hts (.instantiable RX7 18) (zw_in 3 10 rfl))
  obtain ⟨c10, i10, k10⟩ := u_known (C := RX8) (T := TX8) (N := 4) (n := 4) hts zinX8 (hts (.instantiable RX8 4) (zw_in 6 151 rfl))
  obtain ⟨c11, i11, k11⟩ := u_known (C := RX9) (T := TX9) (N := 4) (n := 4) hts zinX9 (hts (.instantiable RX9 4) (zw_in 5 12 rfl))
  obtain ⟨c12, i12, k12⟩ := u_known (C := RX10) (T := TX10) (N := 10) (n := 10) hts zinX10 (hts (.instantiable RX10 10) (zw_in 5 128 rfl))
  obtain ⟨c13, i13, k13⟩ := u_known (C := RX11) (T := TX11) (N := 6) (n := 6) hts zinX11 (hts (.instantiable RX11 6) (zw_in 2 17 rfl))
  obtain ⟨c14, i14, k14⟩ := u_known (C := RX12) (T := TX12) (N := 13) (n := 13) hts zinX12 (hts (.instantiable RX12 13) (zw_in 1 29 rfl))
  obtain ⟨c15, i15, k15⟩ := u_known (C := RX13) (T := TX13) (N := 196) (n := 196) hts zinX13 (hts (.instantiable RX13 196) (zw_in 8 178 rfl))
  obtain ⟨dC, dI, hKc⟩ : ∃ (dC : Nat → ClassId) (dI : Nat → Nat → Nat), ∀ (k : Nat) (q : vw_C), vwCl[k]? = some q → u_Kn s q.1 q.2.1 q.2.2 (dC k) (dI k) := by
    refine ⟨fun k => [c0, c1, c2, c3, c4, c5, c6, c7, c8, c9, c10, c11, c12, c13, c14, c15].getD k c0, fun k => [i0, i1, i2, i3, i4, i5, i6, i7, i8, i9, i10, i11, i12, i13, i14, i15].getD k i0, ?_⟩
    intro k q hq
    match k, hq with
    | 0, hq => cases hq; exact k0
    | 1, hq => cases hq; exact k1
    | 2, hq => cases hq; exact k2
    | 3, hq => cases hq; exact k3
    | 4, hq => cases hq; exact k4
    | 5, hq => cases hq; exact k5
    | 6, hq => cases hq; exact k6
    | 7, hq => cases hq; exact k7
    | 8, hq => cases hq; exact k8
    | 9, hq => cases hq; exact k9
    | 10, hq => cases hq; exact k10
    | 11, hq => cases hq; exact k11
    | 12, hq => cases hq; exact k12
    | 13, hq => cases hq; exact k13
    | 14, hq => cases hq; exact k14
    | 15, hq => cases hq; exact k15
    | k + 16, hq => simp [vwCl] at hq
  have hS : va_S (fun q : Nat => s.heap.size ≤ q) s.heap s.heap [] := va_S.rf
  have hK : va_K (dC, dI) vwCl [] s := ⟨hKc, fun k q h => by simp at h⟩
  have hP : va_P (dC, dI) vwCl [] s.heap := fun k q h => by simp at h
  have hD : va_D (fun q : Nat => s.heap.size ≤ q) [] := ⟨fun i j p q h => by simp at h, fun k q h => by simp at h⟩
  have hl := lv_entry ([.ref b]) (n := 4) (Nat.le_of_ble_eq_true rfl)
  rw [lg_entry_eq]
  generalize (lg_sl ([.ref b]) ++ List.replicate (4 - (lg_sl ([.ref b])).length) Slot.unset).toArray = ls at hl ⊢
  have hl : lv_has ls 4 [(0, .ref b)] := hl
  refine va_new (ci := 14) (fs := zdef tyX12 13) (C := RX12) (T := TX12) (N := 13) hx hb hts zinX12 tyX12 tyX12_ok hown (hts (.classLink RL 7 RX12) (zw_in 1 28 rfl)) (hts (.instantiable RX12 13) (zw_in 1 29 rfl)) (hts (.initialized RX12) (zw_in 1 1 rfl)) hK hP hD hS hA rfl (fun j hj => zdef_V hj) (Nat.le_of_ble_eq_true rfl) (Nat.le_of_ble_eq_true rfl) dL_law_0 (fun x H hP hD hS => ?_)
  have hP : va_P (dC, dI) vwCl [(x, .inr (14, zdef tyX12 13))] H := hP
  have hD : va_D (fun q : Nat => s.heap.size ≤ q) [(x, .inr (14, zdef tyX12 13))] := hD
  refine W.widen (k := 1) (n := 13) (Nat.le_of_ble_eq_true rfl) (Nat.le_of_ble_eq_true rfl) ?_
  refine lv_dup hx hb dL_law_3 rfl ?_
  have hPc := hP.sub (ws' := [(x, .inr (14, zdef tyX12 13))]) [0] rfl
  have hDc := hD.sub (ws' := [(x, .inr (14, zdef tyX12 13))]) [0] (by decide) rfl
  have hKc := hK.sub (tys' := []) [] rfl
  have hFc := va_free (wc := [(x, .inr (14, zdef tyX12 13))]) hD hS hA [0] rfl
  refine va_callv (va_runI (As := []) (rest := [.ref x]) ⟨hx, hb, hml, hown, hts⟩ (c_X12_init l dC dI H.size s.heap.size e0 x (zdef tyX12 13) (zdef_len _ _)) (cwI 0 hts zg_X12_init rfl rfl rfl (hts (.initialized RX12) (zw_in 1 1 rfl)) (hts (.methodLink RL 9 yX12_init) (zw_in 1 30 rfl)) (hts (.instanceMethod yX12_init) (zw_in 1 31 rfl)) rfl (by decide +kernel) ⟨Nat.le_of_ble_eq_true rfl, Nat.le_of_ble_eq_true rfl⟩) ⟨zPe_blind, fun U hU hW => zPe_at hPc hKc hDc hS hA0 hz0 hE hU hW⟩ rfl rfl hl.1 rfl (lv_room (Nat.le_of_ble_eq_true rfl)) dL_law_4 ⟨Nat.le_of_ble_eq_true rfl, Nat.le_of_ble_eq_true rfl⟩) hS (fun q _ h => hFc q h) hFc (fun ux t H1 locs ht hvm hw hB hz1 hk1 hS => ?_)
  obtain ⟨hP1, hK1, hD1⟩ := hB
  rw [ht] at hP1
  have hK1 := va_K.moved hvm.symm hK1
  obtain ⟨hP, hD⟩ := va_join (wr := []) (w1 := zw_X12 e0 x (zdef tyX12 13) ux) hP hD [0] [] rfl rfl (by decide) (by decide) hk1 hFc hP1 hD1
  generalize H1 = H at hP hS ⊢
  have hP : va_P (dC, dI) vwCl (zw_X12 e0 x (zdef tyX12 13) ux) H := hP
  have hD : va_D (fun q : Nat => s.heap.size ≤ q) (zw_X12 e0 x (zdef tyX12 13) ux) := hD
  have hK : va_K (dC, dI) vwCl (zt_X12 ux) s := hK1
  refine W.widen (k := 19) (n := 7590) (Nat.le_of_ble_eq_true rfl) (Nat.le_of_ble_eq_true rfl) ?_
  refine lv_astore_n (lv' := [(1, .ref x), (0, .ref b)]) hx hb dL_law_7 rfl hl (by decide) rfl (fun ls hl => ?_)
  generalize hwx : zw_X12 e0 x (zdef tyX12 13) ux = wx at hP hD
  generalize htx : zt_X12 ux = tx at hK
  refine va_new (ci := 15) (fs := zdef tyX13 196) (C := RX13) (T := TX13) (N := 196) hx hb hts zinX13 tyX13 tyX13_ok hown (hts (.classLink RL 10 RX13) (zw_in 8 177 rfl)) (hts (.instantiable RX13 196) (zw_in 8 178 rfl)) (hts (.initialized RX13) (zw_in 1 8 rfl)) hK hP hD hS hA rfl (fun j hj => zdef_V hj) (Nat.le_of_ble_eq_true rfl) (Nat.le_of_ble_eq_true rfl) dL_law_8 (fun y H hP hD hS => ?_)
  refine W.widen (k := 20) (n := 7786) (Nat.le_of_ble_eq_true rfl) (Nat.le_of_ble_eq_true rfl) ?_
  refine lv_dup hx hb dL_law_11 rfl ?_
  have hgl : (wx ++ [(y, (.inr (15, zdef tyX13 196) : va_E))])[wx.length]? = some (y, .inr (15, zdef tyX13 196)) := by simp
  have hPc : va_P (dC, dI) vwCl [(y, .inr (15, zdef tyX13 196))] H := hP.sub [wx.length] (by simp)
  have hDc : va_D (fun q : Nat => s.heap.size ≤ q) [(y, .inr (15, zdef tyX13 196))] := hD.sub [wx.length] (by simp [va_nd]) (by simp)
  have hKc := hK.sub (tys' := []) [] rfl
  have hFc := va_free (wc := [(y, .inr (15, zdef tyX13 196))]) hD hS hA [wx.length] (by simp)
  refine va_callv (va_runI (As := []) (rest := [.ref y]) ⟨hx, hb, hml, hown, hts⟩ (c_X13_init l dC dI H.size y (zdef tyX13 196) (zdef_len _ _)) (cwI 0 hts zg_X13_init rfl rfl rfl (hts (.initialized RX13) (zw_in 1 8 rfl)) (hts (.methodLink RL 12 yX13_init) (zw_in 8 179 rfl)) (hts (.instanceMethod yX13_init) (zw_in 8 180 rfl)) rfl (by decide +kernel) ⟨Nat.le_of_ble_eq_true rfl, Nat.le_of_ble_eq_true rfl⟩) ⟨zPc_blind, fun U hU hW => zPc_at hPc hKc hDc hU hW⟩ rfl rfl hl.1 rfl (lv_room (Nat.le_of_ble_eq_true rfl)) dL_law_12 ⟨Nat.le_of_ble_eq_true rfl, Nat.le_of_ble_eq_true rfl⟩) hS (fun q _ h => hFc q h) hFc (fun um t H1 locs ht hvm hw hB hz1 hk1 hS => ?_)
  obtain ⟨qs, cs⟩ := um
  obtain ⟨hP1, hK1, hD1⟩ := hB
  rw [ht] at hP1
  have hK1 := va_K.moved hvm.symm hK1
  obtain ⟨hP, hD⟩ := va_join (wr := wx) (w1 := (y, .inr (15, zput ((zdef tyX13 196).set 69 (.int (-1))) qs)) :: zarr qs cs) hP hD [wx.length] (List.range wx.length) (by simp) (zr_all _ _) (zr_nd _) (fun i hi h => by simp at h; rw [List.mem_range] at hi; omega) hk1 hFc hP1 hD1
  have hK := hK.app hK1
  generalize H1 = H at hP hS ⊢
  subst hwx
  subst htx
  refine W.widen (k := 142) (n := 2270492) (Nat.le_of_ble_eq_true rfl) (Nat.le_of_ble_eq_true rfl) ?_
  refine lv_astore_n (lv' := [(2, .ref y), (1, .ref x), (0, .ref b)]) hx hb dL_law_15 rfl hl (by decide) rfl (fun ls hl => ?_)
  refine lv_iconst (v := 0) hx hb dL_law_16 (by decide) ?_
  refine lv_istore_n (lv' := [(3, .int 0), (2, .ref y), (1, .ref x), (0, .ref b)]) hx hb dL_law_17 rfl hl (by decide) rfl (fun ls hl => ?_)
  exact KK dC dI e0 x y ux qs cs _ _ ls hE hT0 hw.1 hw.2 hK hP hD hS hl
