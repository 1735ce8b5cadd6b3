/-! the loop of the law, over plain functions F of the class and G of the reference -/
def lcpI (A : oRs) (B : zRs) : Option (oSt × zSt) := match A, B with
  | some (some (.int r), u), some (some (.int r'), v) => if r = r' then some (u, v) else none
  | _, _ => none
theorem lcpI_e {A : oRs} {B : zRs} {w : oSt × zSt} (h : lcpI A B = some w) : ∃ r : Int32, A = some (some (.int r), w.1) ∧ B = some (some (.int r), w.2) := by
  unfold lcpI at h
  split at h
  next r u r' v =>
    split at h
    next e => subst e; cases h; exact ⟨r, rfl, rfl⟩
    next => cases h
  next => cases h
def lcpL (A : oRs) (B : zRs) : Option (oSt × zSt) := match A, B with
  | some (some (.long r), u), some (some (.long r'), v) => if r = r' then some (u, v) else none
  | _, _ => none
theorem lcpL_e {A : oRs} {B : zRs} {w : oSt × zSt} (h : lcpL A B = some w) : ∃ r : Int64, A = some (some (.long r), w.1) ∧ B = some (some (.long r), w.2) := by
  unfold lcpL at h
  split at h
  next r u r' v =>
    split at h
    next e => subst e; cases h; exact ⟨r, rfl, rfl⟩
    next => cases h
  next => cases h
/-- one step of the law: call number k with the numbers a behind it -/
def lst (F : oCl) (G : zCl) (x y : Nat) (a : Nat → Int32) (σ : oSt) (τ : zSt) : Nat → Option (oSt × zSt)
  | 0 => lcpI (F 175 [.ref x, .int (a 1), .int (a 2), .int (a 3), .int (a 4), .int (a 5)] σ) (G 0 [.ref y, .int (a 1), .int (a 2), .int (a 3), .int (a 4), .int (a 5)] τ)
  | 1 => lcpI (F 176 [.ref x, .int (a 1)] σ) (G 1 [.ref y, .int (a 1)] τ)
  | 2 => lcpI (F 178 [.ref x] σ) (G 65 [.ref y] τ)
  | 3 => lcpI (F 179 [.ref x] σ) (G 111 [.ref y] τ)
  | 4 => lcpI (F 180 [.ref x] σ) (G 66 [.ref y] τ)
  | 5 => lcpI (F 189 [.ref x, .int (a 1)] σ) (G 118 [.ref y, .int (a 1)] τ)
  | 6 => lcpI (F 190 [.ref x, .int (a 1)] σ) (G 2 [.ref y, .int (a 1)] τ)
  | 7 => lcpI (F 191 [.ref x, .int (a 1), .int (a 2)] σ) (G 119 [.ref y, .int (a 1), .int (a 2)] τ)
  | 8 => lcpI (F 192 [.ref x, .int (a 1), .int (a 2), .int (a 3)] σ) (G 120 [.ref y, .int (a 1), .int (a 2), .int (a 3)] τ)
  | 9 => lcpI (F 193 [.ref x, .int (a 1)] σ) (G 138 [.ref y, .int (a 1)] τ)
  | 10 => lcpL (F 194 [.ref x] σ) (G 139 [.ref y] τ)
  | 11 => lcpI (F 195 [.ref x] σ) (G 140 [.ref y] τ)
  | _ => some (σ, τ)
def lob (σ : oSt) (x : Nat) : Bool := (oob σ (some x) 14).isSome
theorem lob_e {σ : oSt} {x : Nat} (h : lob σ x = true) : ∃ fs, σ.1 x = some (.inr (14, fs)) := by
  obtain ⟨a, ha⟩ := Option.isSome_iff_exists.mp h
  obtain ⟨h1, fs, h2⟩ := oob_e ha
  cases h1
  exact ⟨fs, h2⟩
/-- the law's loop: what is left of the script xs of L ints, from place i on -/
def lrun (F : oCl) (G : zCl) (x y : Nat) (xs : Nat → Int32) (L : Nat) : Nat → Nat → oSt → zSt → Option (oSt × zSt)
  | 0, i, σ, τ => if i + 6 ≤ L then none else some (σ, τ)
  | m + 1, i, σ, τ => if i + 6 ≤ L then (if lob σ x = true then (match lst F G x y (fun k => xs (i + k)) σ τ (xs i &&& 15).toNatClampNeg with
    | some w => lrun F G x y xs L m (i + 6) w.1 w.2
    | none => none) else none) else some (σ, τ)
theorem lcpI_m {κ : oKv} {n j : Nat} {av : List Value} {F : oCl} (hF : ∀ j av σ w, F j av σ = some w → oTr κ n j av σ w) {σ : oSt} {B : zRs} {w : oSt × zSt} (h : lcpI (F j av σ) B = some w) : σ.2.2.1 ≤ w.1.2.2.1 ∧ σ.2.2.2 ≤ w.1.2.2.2 := by
  obtain ⟨r, h1, -⟩ := lcpI_e h
  exact oTr_mono _ _ _ _ _ (hF _ _ _ _ h1)
theorem lcpL_m {κ : oKv} {n j : Nat} {av : List Value} {F : oCl} (hF : ∀ j av σ w, F j av σ = some w → oTr κ n j av σ w) {σ : oSt} {B : zRs} {w : oSt × zSt} (h : lcpL (F j av σ) B = some w) : σ.2.2.1 ≤ w.1.2.2.1 ∧ σ.2.2.2 ≤ w.1.2.2.2 := by
  obtain ⟨r, h1, -⟩ := lcpL_e h
  exact oTr_mono _ _ _ _ _ (hF _ _ _ _ h1)
theorem lst_m {κ : oKv} {n : Nat} {F : oCl} {G : zCl} {x y : Nat} {a : Nat → Int32} (hF : ∀ j av σ w, F j av σ = some w → oTr κ n j av σ w) {σ : oSt} {τ : zSt} {w : oSt × zSt} : ∀ k, lst F G x y a σ τ k = some w → σ.2.2.1 ≤ w.1.2.2.1 ∧ σ.2.2.2 ≤ w.1.2.2.2
  | 0, h => lcpI_m hF h
  | 1, h => lcpI_m hF h
  | 2, h => lcpI_m hF h
  | 3, h => lcpI_m hF h
  | 4, h => lcpI_m hF h
  | 5, h => lcpI_m hF h
  | 6, h => lcpI_m hF h
  | 7, h => lcpI_m hF h
  | 8, h => lcpI_m hF h
  | 9, h => lcpI_m hF h
  | 10, h => lcpL_m hF h
  | 11, h => lcpI_m hF h
  | k + 12, h => by
    have h9 : (σ, τ) = w := Option.some.inj h
    rw [← h9]; exact ⟨Nat.le_refl _, Nat.le_refl _⟩
theorem lrun_m {κ : oKv} {n : Nat} {F : oCl} {G : zCl} {x y : Nat} {xs : Nat → Int32} {L : Nat} (hF : ∀ j av σ w, F j av σ = some w → oTr κ n j av σ w) : ∀ (m i : Nat) (σ : oSt) (τ : zSt) (w : oSt × zSt), lrun F G x y xs L m i σ τ = some w → σ.2.2.1 ≤ w.1.2.2.1 ∧ σ.2.2.2 ≤ w.1.2.2.2
  | 0, i, σ, τ, w, h => by
    unfold lrun at h
    split at h
    · cases h
    · cases h; exact ⟨Nat.le_refl _, Nat.le_refl _⟩
  | m + 1, i, σ, τ, w, h => by
    unfold lrun at h
    split at h
    · split at h
      · split at h
        next w1 h1 =>
          have h2 := lst_m hF _ h1
          have h3 := lrun_m hF m (i + 6) _ _ w h
          exact ⟨Nat.le_trans h2.1 h3.1, Nat.le_trans h2.2 h3.2⟩
        next => cases h
      · cases h
    · cases h; exact ⟨Nat.le_refl _, Nat.le_refl _⟩
theorem lgO {ix j : Nat} {en : oMt} (he : omt[j]? = some en) (hs : en.2.2.2.2.1 = 0) (hcl : en.2.2.2.2.2.2 = RX12) (hm : Cond.methodLink RL ix en.1 ∈ lw_tbl) : GoodIn lw_tbl (wsV RL ix RX12 en.1 (ows en)) := fun w hw => by
  rcases List.mem_append.mp hw with h1 | h1
  · simp only [List.mem_cons, List.not_mem_nil, or_false] at h1
    rcases h1 with h1 | h1 | h1 | h1
    · rw [h1]; exact ⟨hm, Or.inl (by simp [Cond.onTables, Cond.keeps, Cond.steady])⟩
    · rw [h1]; exact ogoodL (ws := [Cond.instanceMethod en.1]) (fun w hw => by rw [List.mem_singleton.mp hw]; exact Or.inl (wOm_inst he (by rw [hs]; decide))) _ List.mem_cons_self
    · rw [h1, ← hcl]; exact ogoodL (ws := [Cond.selects en.2.2.2.2.2.2 en.1 en.1]) (fun w hw => by rw [List.mem_singleton.mp hw]; exact Or.inl (wOm_sel he hs)) _ List.mem_cons_self
    · rw [h1, ← hcl]; exact ogoodL (ws := [Cond.initialized en.2.2.2.2.2.2]) (fun w hw => by rw [List.mem_singleton.mp hw]; exact Or.inl (wOm_ini he)) _ List.mem_cons_self
  · exact ogoodL (ows_in he) w h1
theorem lgZ {ix j : Nat} {en : zMt} (he : zmt[j]? = some en) (hs : en.2.2.2.2.1 = false) (hm : Cond.methodLink RL ix en.1 ∈ lw_tbl) : GoodIn lw_tbl (wsV RL ix RX13 en.1 (zws en)) := fun w hw => by
  rcases List.mem_append.mp hw with h1 | h1
  · simp only [List.mem_cons, List.not_mem_nil, or_false] at h1
    rcases h1 with h1 | h1 | h1 | h1
    · rw [h1]; exact ⟨hm, Or.inl (by simp [Cond.onTables, Cond.keeps, Cond.steady])⟩
    · rw [h1]; exact zgoodLw (ws := [Cond.instanceMethod en.1]) (fun w hw => by rw [List.mem_singleton.mp hw]; exact wRx_inst he hs) _ List.mem_cons_self
    · rw [h1]; exact zgoodLw (ws := [Cond.selects RX13 en.1 en.1]) (fun w hw => by rw [List.mem_singleton.mp hw]; exact wRx_sel he hs) _ List.mem_cons_self
    · rw [h1]; exact zgoodLw (ws := [Cond.initialized RX13]) (fun w hw => by rw [List.mem_singleton.mp hw]; exact List.mem_cons_self) _ List.mem_cons_self
  · exact zgoodLw (zws_in he) w h1
theorem lg_cmp_rf (r : Int64) : lg_cmp r r = 0 := by
  unfold lg_cmp
  rw [if_neg (by simp), if_pos rfl]
section LL
variable {p : Program} {l : Launch} {e : Env} {s : State} {m0 : MethodId} {args : Array Value} {below : List Frame} {meth : Method} {c : Code} {H : Heap} {locs : List Loc} {cells slots : Nat} {Q : State → Prop} {pc : Nat} {ls : Array Slot} {rest : List Value} {R : Room} {cc : ByteArray}
theorem lsld (hexec : p.tables.exec = Jvm.exec) (hb : c.code = cc) {b L : Nat} {xs : Nat → Int32} (hX : va_X b L xs s s.heap) (hbl : b < s.heap.size) (hS : va_S (fun q => s.heap.size ≤ q) s.heap H locs) {i k : Nat} {z : Int32} (hz : z = nI k) (hin : i + k < L) (hL : L ≤ 3072) (hdg : decode cc pc = .ok (.iaload, 1)) (kk : W p l e R s m0 args below meth c H locs cells slots Q (F0 m0 (pc + 1) ls (.int (xs (i + k)) :: rest))) : W p l e R s m0 args below meth c H locs cells slots Q (F0 m0 pc ls (.int (nI i + z) :: .ref b :: rest)) := by
  subst hz
  rw [nI_add]
  refine va_sld hexec hb hX hbl (fun h => absurd hbl (Nat.not_lt.mpr h)) hS (vp_in_nI hin (by omega)) hdg ?_
  rw [nI_clamp (by omega)]
  exact kk
theorem lsld0 (hexec : p.tables.exec = Jvm.exec) (hb : c.code = cc) {b L : Nat} {xs : Nat → Int32} (hX : va_X b L xs s s.heap) (hbl : b < s.heap.size) (hS : va_S (fun q => s.heap.size ≤ q) s.heap H locs) {i : Nat} (hin : i < L) (hL : L ≤ 3072) (hdg : decode cc pc = .ok (.iaload, 1)) (kk : W p l e R s m0 args below meth c H locs cells slots Q (F0 m0 (pc + 1) ls (.int (xs i) :: rest))) : W p l e R s m0 args below meth c H locs cells slots Q (F0 m0 pc ls (.int (nI i) :: .ref b :: rest)) := by
  refine va_sld hexec hb hX hbl (fun h => absurd hbl (Nat.not_lt.mpr h)) hS (vp_in_nI hin (by omega)) hdg ?_
  rw [nI_clamp (by omega)]
  exact kk
end LL
theorem lex_n {L : Nat} (hL : L ≤ 3072) : (nI L - 6).toInt = (L : Int) - 6 := by
  have h := pk_sub_toInt (a := L) (b := 6) (by omega) (by decide)
  exact h
theorem lex_in {i L : Nat} (hi : i ≤ L) (hL : L ≤ 3072) (h : ¬ i + 6 ≤ L) : Int32.ofNat L - 6 < nI i := by
  refine Int32.lt_iff_toInt_lt.mpr ?_
  rw [show (Int32.ofNat L - 6).toInt = (L : Int) - 6 from lex_n hL, nI_toInt (by omega)]
  omega
theorem lex_out {i L : Nat} (hL : L ≤ 3072) (h : i + 6 ≤ L) : ¬ Int32.ofNat L - 6 < nI i := fun h9 => by
  have h8 := Int32.lt_iff_toInt_lt.mp h9
  rw [show (Int32.ofNat L - 6).toInt = (L : Int) - 6 from lex_n hL, nI_toInt (by omega)] at h8
  omega
set_option maxHeartbeats 4000000 in
/-- THE LAW's loop: where the plain functions answer alike to the end of the script, the law answers 1 -/
theorem law_loop {p : Program} {l : Launch} {e : Env} {s : State} {m0 : MethodId} {below : List Frame} {meth : Method} {c : Code} {b L : Nat} {xs : Nat → Int32} (C0 : lw_At p s m0 meth c b L xs) (hL : L ≤ 3072) {dC : Nat → ClassId} {dI : Nat → Nat → Nat} {κ : oKv} {ks : Nat → Nat} {x y : Nat} {qs : List Nat} {cs : List ClassId} (hEv : oEv κ s.heap.size s) (hKe : zKe ks s.heap.size s) (hso : zSo l dC dI ks s.heap.size y qs cs) {F : oCl} {G : zCl} {n n' : Nat} (hn : n ≤ 1900) (hn' : n' ≤ 1900) (hF : ∀ j av σ w, F j av σ = some w → oTr κ n j av σ w) (hG : ∀ j av τ w, G j av τ = some w → zTr y qs ks n' j av τ (fun r u => (r, u) = w)) {σ' : oSt} {τ' : zSt} (hb1 : σ'.2.2.1 + 123 ≤ room_1.cells) (hb2 : σ'.2.2.2 + 2262902 ≤ room_1.slots) : ∀ (m i : Nat) (σ : oSt) (τ : zSt) (H : Heap) (locs : List Loc) (ls : Array Slot), i ≤ L → lrun F G x y xs L m i σ τ = some (σ', τ') → lInv dC dI s y qs cs σ τ H locs (σ.2.2.1 + 123) → lv_has ls 4 [(3, .int (nI i)), (2, .ref y), (1, .ref x), (0, .ref b)] → W p l e room_1 s m0 #[Value.ref b] below meth c H locs (σ.2.2.1 + 123) (σ.2.2.2 + 2262902) (lw_Z below #[Value.ref b] s) (F0 m0 18 ls []) := by
  obtain ⟨hx, hb, hr, hml, hown0, hts0, hX, hbl, hlocks, hgv⟩ := C0
  have hb : c.code = cL_law := hb
  have hown : s.vm.findClass RL = some m0.cls := hown0
  have S : CallFix p m0 c cL_law 4 s #[Value.ref b] lw_tbl RL := ⟨hx, hb, hml, hown, hts0⟩
  intro m
  induction m with
  | zero =>
    intro i σ τ H locs ls hi hrun hI hl
    have hS := hI.2.2.2.2.2.2.2.1
    have hex : ¬ i + 6 ≤ L := fun h => by
      rw [lrun, if_pos h] at hrun
      cases hrun
    rw [lrun, if_neg hex] at hrun
    cases hrun
    refine lv_iload_n hx hb dL_law_18 rfl (lv_at hl 0 rfl) ?_
    refine lv_aload_n hx hb dL_law_19 rfl (lv_at hl 3 rfl) ?_
    refine va_slen hx hb hX hbl (fun h => absurd hbl (Nat.not_lt.mpr h)) hS dL_law_20 ?_
    refine lv_bipush (v := 6) hx hb dL_law_21 (by decide) ?_
    refine lv_isub hx hb dL_law_23 ?_
    refine lv_icmp_gt (tgt := 399) hx hb dL_law_24 (by decide) (fun _ => ?_) (fun c_2 => absurd (lex_in hi hL hex) c_2)
    refine lv_iconst (v := 1) hx hb dL_law_399 (by decide) ?_
    refine va_forget (fun q hq => hS.2.2 q hq) ?_
    refine W.widen (k := room_1.cells) (n := room_1.slots) hb1 hb2 ?_
    exact lw_ret hx hb hr hlocks dL_law_400
  | succ m ih =>
    intro i σ τ H locs ls hi hrun hI hl
    have hS := hI.2.2.2.2.2.2.2.1
    refine lv_iload_n hx hb dL_law_18 rfl (lv_at hl 0 rfl) ?_
    refine lv_aload_n hx hb dL_law_19 rfl (lv_at hl 3 rfl) ?_
    refine va_slen hx hb hX hbl (fun h => absurd hbl (Nat.not_lt.mpr h)) hS dL_law_20 ?_
    refine lv_bipush (v := 6) hx hb dL_law_21 (by decide) ?_
    refine lv_isub hx hb dL_law_23 ?_
    by_cases hex : i + 6 ≤ L
    · rw [lrun, if_pos hex] at hrun
      refine lv_icmp_gt (tgt := 399) hx hb dL_law_24 (by decide) (fun c_2 => absurd c_2 (lex_out hL hex)) (fun _ => ?_)
      split at hrun
      next hob =>
        obtain ⟨fs, hx9⟩ := lob_e hob
        split at hrun
        next w hst =>
          obtain ⟨u, v⟩ := w
          have hmu := lst_m hF _ hst
          have hmr := lrun_m hF m (i + 6) u v _ hrun
          have hmu1 : σ.2.2.1 ≤ u.2.2.1 := hmu.1
          have hmu2 : σ.2.2.2 ≤ u.2.2.2 := hmu.2
          have hmr1 : u.2.2.1 ≤ σ'.2.2.1 := hmr.1
          have hmr2 : u.2.2.2 ≤ σ'.2.2.2 := hmr.2
          have e1 : σ.2.2.1 + 123 + (u.2.2.1 - σ.2.2.1) = u.2.2.1 + 123 := by omega
          have e2 : σ.2.2.2 + 2262902 + (u.2.2.2 - σ.2.2.2) = u.2.2.2 + 2262902 := by omega
          have tail : ∀ (H1 : Heap) (locs1 : List Loc), lInv dC dI s y qs cs u v H1 locs1 (u.2.2.1 + 123) → W p l e room_1 s m0 #[Value.ref b] below meth c H1 locs1 (u.2.2.1 + 123) (u.2.2.2 + 2262902) (lw_Z below #[Value.ref b] s) (F0 m0 393 ls []) := fun H1 locs1 hI1 => by
            refine lv_iinc (v := nI (i + 6)) (lv' := [(3, .int (nI (i + 6))), (2, .ref y), (1, .ref x), (0, .ref b)]) hx hb dL_law_393 hl (show ([(3, Value.int (nI i)), (2, .ref y), (1, .ref x), (0, .ref b)] : List (Nat × Value))[0]? = some (3, .int (nI i)) from rfl) (nI_add i 6) (by decide) rfl (fun ls hl => ?_)
            refine lv_goto (tgt := 18) hx hb dL_law_396 (by decide) ?_
            exact ih (i + 6) u v H1 locs1 ls hex hrun hI1 hl
          clear hrun ih
          refine lv_aload_n hx hb dL_law_27 rfl (lv_at hl 3 rfl) ?_
          refine lv_iload_n hx hb dL_law_28 rfl (lv_at hl 0 rfl) ?_
          refine lsld0 hx hb hX hbl hS (show i < L by omega) hL dL_law_29 ?_
          refine lv_bipush (v := 15) hx hb dL_law_30 (by decide) ?_
          refine lv_iand hx hb dL_law_32 ?_
          refine lv_topi (fun zo ezo => ?_)
          obtain ⟨j, hj, ej⟩ := pk_andE (xs i) (m := 15) 4 (by decide)
          have hj : j < 16 := hj
          have ezo := ezo.trans ej
          rw [ej, nI_clamp (by omega)] at hst
          rcases (show j = 0 ∨ j = 1 ∨ j = 2 ∨ j = 3 ∨ j = 4 ∨ j = 5 ∨ j = 6 ∨ j = 7 ∨ j = 8 ∨ j = 9 ∨ j = 10 ∨ j = 11 ∨ j = 12 ∨ j = 13 ∨ j = 14 ∨ j = 15 by omega) with rfl | rfl | rfl | rfl | rfl | rfl | rfl | rfl | rfl | rfl | rfl | rfl | rfl | rfl | rfl | rfl
          · have fzo : zo = 0 := ezo
            clear ezo
            subst fzo
            refine lv_tableIn (off := 63) (tgt := 96) hx hb dL_law_33 (by decide) (by decide) (by decide) (by decide) ?_
            obtain ⟨r, hA, hB⟩ := lcpI_e (show lcpI (F 175 [.ref x, .int (xs (i + 1)), .int (xs (i + 2)), .int (xs (i + 3)), .int (xs (i + 4)), .int (xs (i + 5))] σ) (G 0 [.ref y, .int (xs (i + 1)), .int (xs (i + 2)), .int (xs (i + 3)), .int (xs (i + 4)), .int (xs (i + 5))] τ) = some (u, v) from hst)
            dsimp only at hA hB
            refine lv_aload_n hx hb dL_law_96 rfl (lv_at hl 2 rfl) ?_
            refine lv_aload_n hx hb dL_law_97 rfl (lv_at hl 3 rfl) ?_
            refine lv_iload_n hx hb dL_law_98 rfl (lv_at hl 0 rfl) ?_
            refine lv_iconst (v := 1) hx hb dL_law_99 (by decide) ?_
            refine lv_iadd hx hb dL_law_100 ?_
            refine lsld (k := 1) hx hb hX hbl hS rfl (by omega) hL dL_law_101 ?_
            refine lv_aload_n hx hb dL_law_102 rfl (lv_at hl 3 rfl) ?_
            refine lv_iload_n hx hb dL_law_103 rfl (lv_at hl 0 rfl) ?_
            refine lv_iconst (v := 2) hx hb dL_law_104 (by decide) ?_
            refine lv_iadd hx hb dL_law_105 ?_
            refine lsld (k := 2) hx hb hX hbl hS rfl (by omega) hL dL_law_106 ?_
            refine lv_aload_n hx hb dL_law_107 rfl (lv_at hl 3 rfl) ?_
            refine lv_iload_n hx hb dL_law_108 rfl (lv_at hl 0 rfl) ?_
            refine lv_iconst (v := 3) hx hb dL_law_109 (by decide) ?_
            refine lv_iadd hx hb dL_law_110 ?_
            refine lsld (k := 3) hx hb hX hbl hS rfl (by omega) hL dL_law_111 ?_
            refine lv_aload_n hx hb dL_law_112 rfl (lv_at hl 3 rfl) ?_
            refine lv_iload_n hx hb dL_law_113 rfl (lv_at hl 0 rfl) ?_
            refine lv_iconst (v := 4) hx hb dL_law_114 (by decide) ?_
            refine lv_iadd hx hb dL_law_115 ?_
            refine lsld (k := 4) hx hb hX hbl hS rfl (by omega) hL dL_law_116 ?_
            refine lv_aload_n hx hb dL_law_117 rfl (lv_at hl 3 rfl) ?_
            refine lv_iload_n hx hb dL_law_118 rfl (lv_at hl 0 rfl) ?_
            refine lv_iconst (v := 5) hx hb dL_law_119 (by decide) ?_
            refine lv_iadd hx hb dL_law_120 ?_
            refine lsld (k := 5) hx hb hX hbl hS rfl (by omega) hL dL_law_121 ?_
            refine lc_Oi (x := x) (as := [.int (xs (i + 1)), .int (xs (i + 2)), .int (xs (i + 3)), .int (xs (i + 4)), .int (xs (i + 5))]) (rest := []) S hEv hI (oTr_met n 175 _ _ _ (hF _ _ _ _ hA) _ oM_175) (oTr_mono _ _ _ _ _ (hF _ _ _ _ hA)) oM_175 rfl rfl rfl rfl (lgO oM_175 rfl rfl (zw_in 1 236 rfl)) hx9 hn (by omega) (by omega) hl.1 (Nat.le_of_ble_eq_true rfl) dL_law_122 (fun H1 locs1 hI => ?_)
            rw [e1] at hI ⊢
            rw [e2]
            have hS := hI.2.2.2.2.2.2.2.1
            refine lv_aload_n hx hb dL_law_125 rfl (lv_at hl 1 rfl) ?_
            refine lv_aload_n hx hb dL_law_126 rfl (lv_at hl 3 rfl) ?_
            refine lv_iload_n hx hb dL_law_127 rfl (lv_at hl 0 rfl) ?_
            refine lv_iconst (v := 1) hx hb dL_law_128 (by decide) ?_
            refine lv_iadd hx hb dL_law_129 ?_
            refine lsld (k := 1) hx hb hX hbl hS rfl (by omega) hL dL_law_130 ?_
            refine lv_aload_n hx hb dL_law_131 rfl (lv_at hl 3 rfl) ?_
            refine lv_iload_n hx hb dL_law_132 rfl (lv_at hl 0 rfl) ?_
            refine lv_iconst (v := 2) hx hb dL_law_133 (by decide) ?_
            refine lv_iadd hx hb dL_law_134 ?_
            refine lsld (k := 2) hx hb hX hbl hS rfl (by omega) hL dL_law_135 ?_
            refine lv_aload_n hx hb dL_law_136 rfl (lv_at hl 3 rfl) ?_
            refine lv_iload_n hx hb dL_law_137 rfl (lv_at hl 0 rfl) ?_
            refine lv_iconst (v := 3) hx hb dL_law_138 (by decide) ?_
            refine lv_iadd hx hb dL_law_139 ?_
            refine lsld (k := 3) hx hb hX hbl hS rfl (by omega) hL dL_law_140 ?_
            refine lv_aload_n hx hb dL_law_141 rfl (lv_at hl 3 rfl) ?_
            refine lv_iload_n hx hb dL_law_142 rfl (lv_at hl 0 rfl) ?_
            refine lv_iconst (v := 4) hx hb dL_law_143 (by decide) ?_
            refine lv_iadd hx hb dL_law_144 ?_
            refine lsld (k := 4) hx hb hX hbl hS rfl (by omega) hL dL_law_145 ?_
            refine lv_aload_n hx hb dL_law_146 rfl (lv_at hl 3 rfl) ?_
            refine lv_iload_n hx hb dL_law_147 rfl (lv_at hl 0 rfl) ?_
            refine lv_iconst (v := 5) hx hb dL_law_148 (by decide) ?_
            refine lv_iadd hx hb dL_law_149 ?_
            refine lsld (k := 5) hx hb hX hbl hS rfl (by omega) hL dL_law_150 ?_
            refine lc_Zi (as := [.int (xs (i + 1)), .int (xs (i + 2)), .int (xs (i + 3)), .int (xs (i + 4)), .int (xs (i + 5))]) (rest := [.int r]) S hKe hI (zTr_met hso hI.2.2.2.2.2.2.2.2.1 hI.2.2.2.2.2.2.2.2.2 n' 0 _ _ _ (hG _ _ _ _ hB) _ zm_feed) zm_feed rfl rfl rfl (lgZ zm_feed rfl (zw_in 11 49 rfl)) hn' (by omega) (by omega) hl.1 (Nat.le_of_ble_eq_true rfl) dL_law_151 (fun H1 locs1 hI => ?_)
            refine lv_icmp_eq (tgt := 393) hx hb dL_law_154 (by decide) (fun _ => ?_) (fun c9 => absurd rfl c9)
            exact tail H1 locs1 hI
          · have fzo : zo = 1 := ezo
            clear ezo
            subst fzo
            refine lv_tableIn (off := 126) (tgt := 159) hx hb dL_law_33 (by decide) (by decide) (by decide) (by decide) ?_
            obtain ⟨r, hA, hB⟩ := lcpI_e (show lcpI (F 176 [.ref x, .int (xs (i + 1))] σ) (G 1 [.ref y, .int (xs (i + 1))] τ) = some (u, v) from hst)
            dsimp only at hA hB
            refine lv_aload_n hx hb dL_law_159 rfl (lv_at hl 2 rfl) ?_
            refine lv_aload_n hx hb dL_law_160 rfl (lv_at hl 3 rfl) ?_
            refine lv_iload_n hx hb dL_law_161 rfl (lv_at hl 0 rfl) ?_
            refine lv_iconst (v := 1) hx hb dL_law_162 (by decide) ?_
            refine lv_iadd hx hb dL_law_163 ?_
            refine lsld (k := 1) hx hb hX hbl hS rfl (by omega) hL dL_law_164 ?_
            refine lc_Oi (x := x) (as := [.int (xs (i + 1))]) (rest := []) S hEv hI (oTr_met n 176 _ _ _ (hF _ _ _ _ hA) _ oM_176) (oTr_mono _ _ _ _ _ (hF _ _ _ _ hA)) oM_176 rfl rfl rfl rfl (lgO oM_176 rfl rfl (zw_in 2 4 rfl)) hx9 hn (by omega) (by omega) hl.1 (Nat.le_of_ble_eq_true rfl) dL_law_165 (fun H1 locs1 hI => ?_)
            rw [e1] at hI ⊢
            rw [e2]
            have hS := hI.2.2.2.2.2.2.2.1
            refine lv_aload_n hx hb dL_law_168 rfl (lv_at hl 1 rfl) ?_
            refine lv_aload_n hx hb dL_law_169 rfl (lv_at hl 3 rfl) ?_
            refine lv_iload_n hx hb dL_law_170 rfl (lv_at hl 0 rfl) ?_
            refine lv_iconst (v := 1) hx hb dL_law_171 (by decide) ?_
            refine lv_iadd hx hb dL_law_172 ?_
            refine lsld (k := 1) hx hb hX hbl hS rfl (by omega) hL dL_law_173 ?_
            refine lc_Zi (as := [.int (xs (i + 1))]) (rest := [.int r]) S hKe hI (zTr_met hso hI.2.2.2.2.2.2.2.2.1 hI.2.2.2.2.2.2.2.2.2 n' 1 _ _ _ (hG _ _ _ _ hB) _ zm_end) zm_end rfl rfl rfl (lgZ zm_end rfl (zw_in 11 53 rfl)) hn' (by omega) (by omega) hl.1 (Nat.le_of_ble_eq_true rfl) dL_law_174 (fun H1 locs1 hI => ?_)
            refine lv_icmp_eq (tgt := 393) hx hb dL_law_177 (by decide) (fun _ => ?_) (fun c9 => absurd rfl c9)
            exact tail H1 locs1 hI
          · have fzo : zo = 2 := ezo
            clear ezo
            subst fzo
            refine lv_tableIn (off := 149) (tgt := 182) hx hb dL_law_33 (by decide) (by decide) (by decide) (by decide) ?_
            obtain ⟨r, hA, hB⟩ := lcpI_e (show lcpI (F 178 [.ref x] σ) (G 65 [.ref y] τ) = some (u, v) from hst)
            dsimp only at hA hB
            refine lv_aload_n hx hb dL_law_182 rfl (lv_at hl 2 rfl) ?_
            refine lc_Oi (x := x) (as := []) (rest := []) S hEv hI (oTr_met n 178 _ _ _ (hF _ _ _ _ hA) _ oM_178) (oTr_mono _ _ _ _ _ (hF _ _ _ _ hA)) oM_178 rfl rfl rfl rfl (lgO oM_178 rfl rfl (zw_in 2 8 rfl)) hx9 hn (by omega) (by omega) hl.1 (Nat.le_of_ble_eq_true rfl) dL_law_183 (fun H1 locs1 hI => ?_)
            rw [e1] at hI ⊢
            rw [e2]
            have hS := hI.2.2.2.2.2.2.2.1
            refine lv_aload_n hx hb dL_law_186 rfl (lv_at hl 1 rfl) ?_
            refine lc_Zi (as := []) (rest := [.int r]) S hKe hI (zTr_met hso hI.2.2.2.2.2.2.2.2.1 hI.2.2.2.2.2.2.2.2.2 n' 65 _ _ _ (hG _ _ _ _ hB) _ zm_compile) zm_compile rfl rfl rfl (lgZ zm_compile rfl (zw_in 11 61 rfl)) hn' (by omega) (by omega) hl.1 (Nat.le_of_ble_eq_true rfl) dL_law_187 (fun H1 locs1 hI => ?_)
            refine lv_icmp_eq (tgt := 393) hx hb dL_law_190 (by decide) (fun _ => ?_) (fun c9 => absurd rfl c9)
            exact tail H1 locs1 hI
          · have fzo : zo = 3 := ezo
            clear ezo
            subst fzo
            refine lv_tableIn (off := 162) (tgt := 195) hx hb dL_law_33 (by decide) (by decide) (by decide) (by decide) ?_
            obtain ⟨r, hA, hB⟩ := lcpI_e (show lcpI (F 179 [.ref x] σ) (G 111 [.ref y] τ) = some (u, v) from hst)
            dsimp only at hA hB
            refine lv_aload_n hx hb dL_law_195 rfl (lv_at hl 2 rfl) ?_
            refine lc_Oi (x := x) (as := []) (rest := []) S hEv hI (oTr_met n 179 _ _ _ (hF _ _ _ _ hA) _ oM_179) (oTr_mono _ _ _ _ _ (hF _ _ _ _ hA)) oM_179 rfl rfl rfl rfl (lgO oM_179 rfl rfl (zw_in 6 25 rfl)) hx9 hn (by omega) (by omega) hl.1 (Nat.le_of_ble_eq_true rfl) dL_law_196 (fun H1 locs1 hI => ?_)
            rw [e1] at hI ⊢
            rw [e2]
            have hS := hI.2.2.2.2.2.2.2.1
            refine lv_aload_n hx hb dL_law_199 rfl (lv_at hl 1 rfl) ?_
            refine lc_Zi (as := []) (rest := [.int r]) S hKe hI (zTr_met hso hI.2.2.2.2.2.2.2.2.1 hI.2.2.2.2.2.2.2.2.2 n' 111 _ _ _ (hG _ _ _ _ hB) _ zm_accepted) zm_accepted rfl rfl rfl (lgZ zm_accepted rfl (zw_in 12 124 rfl)) hn' (by omega) (by omega) hl.1 (Nat.le_of_ble_eq_true rfl) dL_law_200 (fun H1 locs1 hI => ?_)
            refine lv_icmp_eq (tgt := 393) hx hb dL_law_203 (by decide) (fun _ => ?_) (fun c9 => absurd rfl c9)
            exact tail H1 locs1 hI
          · have fzo : zo = 4 := ezo
            clear ezo
            subst fzo
            refine lv_tableIn (off := 175) (tgt := 208) hx hb dL_law_33 (by decide) (by decide) (by decide) (by decide) ?_
            obtain ⟨r, hA, hB⟩ := lcpI_e (show lcpI (F 180 [.ref x] σ) (G 66 [.ref y] τ) = some (u, v) from hst)
            dsimp only at hA hB
            refine lv_aload_n hx hb dL_law_208 rfl (lv_at hl 2 rfl) ?_
            refine lc_Oi (x := x) (as := []) (rest := []) S hEv hI (oTr_met n 180 _ _ _ (hF _ _ _ _ hA) _ oM_180) (oTr_mono _ _ _ _ _ (hF _ _ _ _ hA)) oM_180 rfl rfl rfl rfl (lgO oM_180 rfl rfl (zw_in 7 191 rfl)) hx9 hn (by omega) (by omega) hl.1 (Nat.le_of_ble_eq_true rfl) dL_law_209 (fun H1 locs1 hI => ?_)
            rw [e1] at hI ⊢
            rw [e2]
            have hS := hI.2.2.2.2.2.2.2.1
            refine lv_aload_n hx hb dL_law_212 rfl (lv_at hl 1 rfl) ?_
            refine lc_Zi (as := []) (rest := [.int r]) S hKe hI (zTr_met hso hI.2.2.2.2.2.2.2.2.1 hI.2.2.2.2.2.2.2.2.2 n' 66 _ _ _ (hG _ _ _ _ hB) _ zm_place) zm_place rfl rfl rfl (lgZ zm_place rfl (zw_in 12 120 rfl)) hn' (by omega) (by omega) hl.1 (Nat.le_of_ble_eq_true rfl) dL_law_213 (fun H1 locs1 hI => ?_)
            refine lv_icmp_eq (tgt := 393) hx hb dL_law_216 (by decide) (fun _ => ?_) (fun c9 => absurd rfl c9)
            exact tail H1 locs1 hI
          · have fzo : zo = 5 := ezo
            clear ezo
            subst fzo
            refine lv_tableIn (off := 188) (tgt := 221) hx hb dL_law_33 (by decide) (by decide) (by decide) (by decide) ?_
            obtain ⟨r, hA, hB⟩ := lcpI_e (show lcpI (F 189 [.ref x, .int (xs (i + 1))] σ) (G 118 [.ref y, .int (xs (i + 1))] τ) = some (u, v) from hst)
            dsimp only at hA hB
            refine lv_aload_n hx hb dL_law_221 rfl (lv_at hl 2 rfl) ?_
            refine lv_aload_n hx hb dL_law_222 rfl (lv_at hl 3 rfl) ?_
            refine lv_iload_n hx hb dL_law_223 rfl (lv_at hl 0 rfl) ?_
            refine lv_iconst (v := 1) hx hb dL_law_224 (by decide) ?_
            refine lv_iadd hx hb dL_law_225 ?_
            refine lsld (k := 1) hx hb hX hbl hS rfl (by omega) hL dL_law_226 ?_
            refine lc_Oi (x := x) (as := [.int (xs (i + 1))]) (rest := []) S hEv hI (oTr_met n 189 _ _ _ (hF _ _ _ _ hA) _ oM_189) (oTr_mono _ _ _ _ _ (hF _ _ _ _ hA)) oM_189 rfl rfl rfl rfl (lgO oM_189 rfl rfl (zw_in 7 195 rfl)) hx9 hn (by omega) (by omega) hl.1 (Nat.le_of_ble_eq_true rfl) dL_law_227 (fun H1 locs1 hI => ?_)
            rw [e1] at hI ⊢
            rw [e2]
            have hS := hI.2.2.2.2.2.2.2.1
            refine lv_aload_n hx hb dL_law_230 rfl (lv_at hl 1 rfl) ?_
            refine lv_aload_n hx hb dL_law_231 rfl (lv_at hl 3 rfl) ?_
            refine lv_iload_n hx hb dL_law_232 rfl (lv_at hl 0 rfl) ?_
            refine lv_iconst (v := 1) hx hb dL_law_233 (by decide) ?_
            refine lv_iadd hx hb dL_law_234 ?_
            refine lsld (k := 1) hx hb hX hbl hS rfl (by omega) hL dL_law_235 ?_
            refine lc_Zi (as := [.int (xs (i + 1))]) (rest := [.int r]) S hKe hI (zTr_met hso hI.2.2.2.2.2.2.2.2.1 hI.2.2.2.2.2.2.2.2.2 n' 118 _ _ _ (hG _ _ _ _ hB) _ zm_type) zm_type rfl rfl rfl (lgZ zm_type rfl (zw_in 13 65 rfl)) hn' (by omega) (by omega) hl.1 (Nat.le_of_ble_eq_true rfl) dL_law_236 (fun H1 locs1 hI => ?_)
            refine lv_icmp_eq (tgt := 393) hx hb dL_law_239 (by decide) (fun _ => ?_) (fun c9 => absurd rfl c9)
            exact tail H1 locs1 hI
          · have fzo : zo = 6 := ezo
            clear ezo
            subst fzo
            refine lv_tableIn (off := 211) (tgt := 244) hx hb dL_law_33 (by decide) (by decide) (by decide) (by decide) ?_
            obtain ⟨r, hA, hB⟩ := lcpI_e (show lcpI (F 190 [.ref x, .int (xs (i + 1))] σ) (G 2 [.ref y, .int (xs (i + 1))] τ) = some (u, v) from hst)
            dsimp only at hA hB
            refine lv_aload_n hx hb dL_law_244 rfl (lv_at hl 2 rfl) ?_
            refine lv_aload_n hx hb dL_law_245 rfl (lv_at hl 3 rfl) ?_
            refine lv_iload_n hx hb dL_law_246 rfl (lv_at hl 0 rfl) ?_
            refine lv_iconst (v := 1) hx hb dL_law_247 (by decide) ?_
            refine lv_iadd hx hb dL_law_248 ?_
            refine lsld (k := 1) hx hb hX hbl hS rfl (by omega) hL dL_law_249 ?_
            refine lc_Oi (x := x) (as := [.int (xs (i + 1))]) (rest := []) S hEv hI (oTr_met n 190 _ _ _ (hF _ _ _ _ hA) _ oM_190) (oTr_mono _ _ _ _ _ (hF _ _ _ _ hA)) oM_190 rfl rfl rfl rfl (lgO oM_190 rfl rfl (zw_in 8 25 rfl)) hx9 hn (by omega) (by omega) hl.1 (Nat.le_of_ble_eq_true rfl) dL_law_250 (fun H1 locs1 hI => ?_)
            rw [e1] at hI ⊢
            rw [e2]
            have hS := hI.2.2.2.2.2.2.2.1
            refine lv_aload_n hx hb dL_law_253 rfl (lv_at hl 1 rfl) ?_
            refine lv_aload_n hx hb dL_law_254 rfl (lv_at hl 3 rfl) ?_
            refine lv_iload_n hx hb dL_law_255 rfl (lv_at hl 0 rfl) ?_
            refine lv_iconst (v := 1) hx hb dL_law_256 (by decide) ?_
            refine lv_iadd hx hb dL_law_257 ?_
            refine lsld (k := 1) hx hb hX hbl hS rfl (by omega) hL dL_law_258 ?_
            refine lc_Zi (as := [.int (xs (i + 1))]) (rest := [.int r]) S hKe hI (zTr_met hso hI.2.2.2.2.2.2.2.2.1 hI.2.2.2.2.2.2.2.2.2 n' 2 _ _ _ (hG _ _ _ _ hB) _ zm_out) zm_out rfl rfl rfl (lgZ zm_out rfl (zw_in 11 57 rfl)) hn' (by omega) (by omega) hl.1 (Nat.le_of_ble_eq_true rfl) dL_law_259 (fun H1 locs1 hI => ?_)
            refine lv_icmp_eq (tgt := 393) hx hb dL_law_262 (by decide) (fun _ => ?_) (fun c9 => absurd rfl c9)
            exact tail H1 locs1 hI
          · have fzo : zo = 7 := ezo
            clear ezo
            subst fzo
            refine lv_tableIn (off := 234) (tgt := 267) hx hb dL_law_33 (by decide) (by decide) (by decide) (by decide) ?_
            obtain ⟨r, hA, hB⟩ := lcpI_e (show lcpI (F 191 [.ref x, .int (xs (i + 1)), .int (xs (i + 2))] σ) (G 119 [.ref y, .int (xs (i + 1)), .int (xs (i + 2))] τ) = some (u, v) from hst)
            dsimp only at hA hB
            refine lv_aload_n hx hb dL_law_267 rfl (lv_at hl 2 rfl) ?_
            refine lv_aload_n hx hb dL_law_268 rfl (lv_at hl 3 rfl) ?_
            refine lv_iload_n hx hb dL_law_269 rfl (lv_at hl 0 rfl) ?_
            refine lv_iconst (v := 1) hx hb dL_law_270 (by decide) ?_
            refine lv_iadd hx hb dL_law_271 ?_
            refine lsld (k := 1) hx hb hX hbl hS rfl (by omega) hL dL_law_272 ?_
            refine lv_aload_n hx hb dL_law_273 rfl (lv_at hl 3 rfl) ?_
            refine lv_iload_n hx hb dL_law_274 rfl (lv_at hl 0 rfl) ?_
            refine lv_iconst (v := 2) hx hb dL_law_275 (by decide) ?_
            refine lv_iadd hx hb dL_law_276 ?_
            refine lsld (k := 2) hx hb hX hbl hS rfl (by omega) hL dL_law_277 ?_
            refine lc_Oi (x := x) (as := [.int (xs (i + 1)), .int (xs (i + 2))]) (rest := []) S hEv hI (oTr_met n 191 _ _ _ (hF _ _ _ _ hA) _ oM_191) (oTr_mono _ _ _ _ _ (hF _ _ _ _ hA)) oM_191 rfl rfl rfl rfl (lgO oM_191 rfl rfl (zw_in 8 29 rfl)) hx9 hn (by omega) (by omega) hl.1 (Nat.le_of_ble_eq_true rfl) dL_law_278 (fun H1 locs1 hI => ?_)
            rw [e1] at hI ⊢
            rw [e2]
            have hS := hI.2.2.2.2.2.2.2.1
            refine lv_aload_n hx hb dL_law_281 rfl (lv_at hl 1 rfl) ?_
            refine lv_aload_n hx hb dL_law_282 rfl (lv_at hl 3 rfl) ?_
            refine lv_iload_n hx hb dL_law_283 rfl (lv_at hl 0 rfl) ?_
            refine lv_iconst (v := 1) hx hb dL_law_284 (by decide) ?_
            refine lv_iadd hx hb dL_law_285 ?_
            refine lsld (k := 1) hx hb hX hbl hS rfl (by omega) hL dL_law_286 ?_
            refine lv_aload_n hx hb dL_law_287 rfl (lv_at hl 3 rfl) ?_
            refine lv_iload_n hx hb dL_law_288 rfl (lv_at hl 0 rfl) ?_
            refine lv_iconst (v := 2) hx hb dL_law_289 (by decide) ?_
            refine lv_iadd hx hb dL_law_290 ?_
            refine lsld (k := 2) hx hb hX hbl hS rfl (by omega) hL dL_law_291 ?_
            refine lc_Zi (as := [.int (xs (i + 1)), .int (xs (i + 2))]) (rest := [.int r]) S hKe hI (zTr_met hso hI.2.2.2.2.2.2.2.2.1 hI.2.2.2.2.2.2.2.2.2 n' 119 _ _ _ (hG _ _ _ _ hB) _ zm_give) zm_give rfl rfl rfl (lgZ zm_give rfl (zw_in 13 98 rfl)) hn' (by omega) (by omega) hl.1 (Nat.le_of_ble_eq_true rfl) dL_law_292 (fun H1 locs1 hI => ?_)
            refine lv_icmp_eq (tgt := 393) hx hb dL_law_295 (by decide) (fun _ => ?_) (fun c9 => absurd rfl c9)
            exact tail H1 locs1 hI
          · have fzo : zo = 8 := ezo
            clear ezo
            subst fzo
            refine lv_tableIn (off := 267) (tgt := 300) hx hb dL_law_33 (by decide) (by decide) (by decide) (by decide) ?_
            obtain ⟨r, hA, hB⟩ := lcpI_e (show lcpI (F 192 [.ref x, .int (xs (i + 1)), .int (xs (i + 2)), .int (xs (i + 3))] σ) (G 120 [.ref y, .int (xs (i + 1)), .int (xs (i + 2)), .int (xs (i + 3))] τ) = some (u, v) from hst)
            dsimp only at hA hB
            refine lv_aload_n hx hb dL_law_300 rfl (lv_at hl 2 rfl) ?_
            refine lv_aload_n hx hb dL_law_301 rfl (lv_at hl 3 rfl) ?_
            refine lv_iload_n hx hb dL_law_302 rfl (lv_at hl 0 rfl) ?_
            refine lv_iconst (v := 1) hx hb dL_law_303 (by decide) ?_
            refine lv_iadd hx hb dL_law_304 ?_
            refine lsld (k := 1) hx hb hX hbl hS rfl (by omega) hL dL_law_305 ?_
            refine lv_aload_n hx hb dL_law_306 rfl (lv_at hl 3 rfl) ?_
            refine lv_iload_n hx hb dL_law_307 rfl (lv_at hl 0 rfl) ?_
            refine lv_iconst (v := 2) hx hb dL_law_308 (by decide) ?_
            refine lv_iadd hx hb dL_law_309 ?_
            refine lsld (k := 2) hx hb hX hbl hS rfl (by omega) hL dL_law_310 ?_
            refine lv_aload_n hx hb dL_law_311 rfl (lv_at hl 3 rfl) ?_
            refine lv_iload_n hx hb dL_law_312 rfl (lv_at hl 0 rfl) ?_
            refine lv_iconst (v := 3) hx hb dL_law_313 (by decide) ?_
            refine lv_iadd hx hb dL_law_314 ?_
            refine lsld (k := 3) hx hb hX hbl hS rfl (by omega) hL dL_law_315 ?_
            refine lc_Oi (x := x) (as := [.int (xs (i + 1)), .int (xs (i + 2)), .int (xs (i + 3))]) (rest := []) S hEv hI (oTr_met n 192 _ _ _ (hF _ _ _ _ hA) _ oM_192) (oTr_mono _ _ _ _ _ (hF _ _ _ _ hA)) oM_192 rfl rfl rfl rfl (lgO oM_192 rfl rfl (zw_in 8 38 rfl)) hx9 hn (by omega) (by omega) hl.1 (Nat.le_of_ble_eq_true rfl) dL_law_316 (fun H1 locs1 hI => ?_)
            rw [e1] at hI ⊢
            rw [e2]
            have hS := hI.2.2.2.2.2.2.2.1
            refine lv_aload_n hx hb dL_law_319 rfl (lv_at hl 1 rfl) ?_
            refine lv_aload_n hx hb dL_law_320 rfl (lv_at hl 3 rfl) ?_
            refine lv_iload_n hx hb dL_law_321 rfl (lv_at hl 0 rfl) ?_
            refine lv_iconst (v := 1) hx hb dL_law_322 (by decide) ?_
            refine lv_iadd hx hb dL_law_323 ?_
            refine lsld (k := 1) hx hb hX hbl hS rfl (by omega) hL dL_law_324 ?_
            refine lv_aload_n hx hb dL_law_325 rfl (lv_at hl 3 rfl) ?_
            refine lv_iload_n hx hb dL_law_326 rfl (lv_at hl 0 rfl) ?_
            refine lv_iconst (v := 2) hx hb dL_law_327 (by decide) ?_
            refine lv_iadd hx hb dL_law_328 ?_
            refine lsld (k := 2) hx hb hX hbl hS rfl (by omega) hL dL_law_329 ?_
            refine lv_aload_n hx hb dL_law_330 rfl (lv_at hl 3 rfl) ?_
            refine lv_iload_n hx hb dL_law_331 rfl (lv_at hl 0 rfl) ?_
            refine lv_iconst (v := 3) hx hb dL_law_332 (by decide) ?_
            refine lv_iadd hx hb dL_law_333 ?_
            refine lsld (k := 3) hx hb hX hbl hS rfl (by omega) hL dL_law_334 ?_
            refine lc_Zi (as := [.int (xs (i + 1)), .int (xs (i + 2)), .int (xs (i + 3))]) (rest := [.int r]) S hKe hI (zTr_met hso hI.2.2.2.2.2.2.2.2.1 hI.2.2.2.2.2.2.2.2.2 n' 120 _ _ _ (hG _ _ _ _ hB) _ zm_element) zm_element rfl rfl rfl (lgZ zm_element rfl (zw_in 13 102 rfl)) hn' (by omega) (by omega) hl.1 (Nat.le_of_ble_eq_true rfl) dL_law_335 (fun H1 locs1 hI => ?_)
            refine lv_icmp_eq (tgt := 393) hx hb dL_law_338 (by decide) (fun _ => ?_) (fun c9 => absurd rfl c9)
            exact tail H1 locs1 hI
          · have fzo : zo = 9 := ezo
            clear ezo
            subst fzo
            refine lv_tableIn (off := 310) (tgt := 343) hx hb dL_law_33 (by decide) (by decide) (by decide) (by decide) ?_
            obtain ⟨r, hA, hB⟩ := lcpI_e (show lcpI (F 193 [.ref x, .int (xs (i + 1))] σ) (G 138 [.ref y, .int (xs (i + 1))] τ) = some (u, v) from hst)
            dsimp only at hA hB
            refine lv_aload_n hx hb dL_law_343 rfl (lv_at hl 2 rfl) ?_
            refine lv_aload_n hx hb dL_law_344 rfl (lv_at hl 3 rfl) ?_
            refine lv_iload_n hx hb dL_law_345 rfl (lv_at hl 0 rfl) ?_
            refine lv_iconst (v := 1) hx hb dL_law_346 (by decide) ?_
            refine lv_iadd hx hb dL_law_347 ?_
            refine lsld (k := 1) hx hb hX hbl hS rfl (by omega) hL dL_law_348 ?_
            refine lc_Oi (x := x) (as := [.int (xs (i + 1))]) (rest := []) S hEv hI (oTr_met n 193 _ _ _ (hF _ _ _ _ hA) _ oM_193) (oTr_mono _ _ _ _ _ (hF _ _ _ _ hA)) oM_193 rfl rfl rfl rfl (lgO oM_193 rfl rfl (zw_in 8 46 rfl)) hx9 hn (by omega) (by omega) hl.1 (Nat.le_of_ble_eq_true rfl) dL_law_349 (fun H1 locs1 hI => ?_)
            rw [e1] at hI ⊢
            rw [e2]
            have hS := hI.2.2.2.2.2.2.2.1
            refine lv_aload_n hx hb dL_law_352 rfl (lv_at hl 1 rfl) ?_
            refine lv_aload_n hx hb dL_law_353 rfl (lv_at hl 3 rfl) ?_
            refine lv_iload_n hx hb dL_law_354 rfl (lv_at hl 0 rfl) ?_
            refine lv_iconst (v := 1) hx hb dL_law_355 (by decide) ?_
            refine lv_iadd hx hb dL_law_356 ?_
            refine lsld (k := 1) hx hb hX hbl hS rfl (by omega) hL dL_law_357 ?_
            refine lc_Zi (as := [.int (xs (i + 1))]) (rest := [.int r]) S hKe hI (zTr_met hso hI.2.2.2.2.2.2.2.2.1 hI.2.2.2.2.2.2.2.2.2 n' 138 _ _ _ (hG _ _ _ _ hB) _ zm_run) zm_run rfl rfl rfl (lgZ zm_run rfl (zw_in 13 106 rfl)) hn' (by omega) (by omega) hl.1 (Nat.le_of_ble_eq_true rfl) dL_law_358 (fun H1 locs1 hI => ?_)
            refine lv_icmp_eq (tgt := 393) hx hb dL_law_361 (by decide) (fun _ => ?_) (fun c9 => absurd rfl c9)
            exact tail H1 locs1 hI
          · have fzo : zo = 10 := ezo
            clear ezo
            subst fzo
            refine lv_tableIn (off := 333) (tgt := 366) hx hb dL_law_33 (by decide) (by decide) (by decide) (by decide) ?_
            obtain ⟨r, hA, hB⟩ := lcpL_e (show lcpL (F 194 [.ref x] σ) (G 139 [.ref y] τ) = some (u, v) from hst)
            dsimp only at hA hB
            refine lv_aload_n hx hb dL_law_366 rfl (lv_at hl 2 rfl) ?_
            refine lc_Ol (x := x) (as := []) (rest := []) S hEv hI (oTr_met n 194 _ _ _ (hF _ _ _ _ hA) _ oM_194) (oTr_mono _ _ _ _ _ (hF _ _ _ _ hA)) oM_194 rfl rfl rfl rfl (lgO oM_194 rfl rfl (zw_in 8 169 rfl)) hx9 hn (by omega) (by omega) hl.1 (Nat.le_of_ble_eq_true rfl) dL_law_367 (fun H1 locs1 hI => ?_)
            rw [e1] at hI ⊢
            rw [e2]
            have hS := hI.2.2.2.2.2.2.2.1
            refine lv_aload_n hx hb dL_law_370 rfl (lv_at hl 1 rfl) ?_
            refine lc_Zl (as := []) (rest := [.long r]) S hKe hI (zTr_met hso hI.2.2.2.2.2.2.2.2.1 hI.2.2.2.2.2.2.2.2.2 n' 139 _ _ _ (hG _ _ _ _ hB) _ zm_value) zm_value rfl rfl rfl (lgZ zm_value rfl (zw_in 13 184 rfl)) hn' (by omega) (by omega) hl.1 (Nat.le_of_ble_eq_true rfl) dL_law_371 (fun H1 locs1 hI => ?_)
            refine W.lcmp hx hb dL_law_374 ?_
            rw [lg_cmp_rf]
            refine lv_if_eq (tgt := 393) hx hb dL_law_375 (by decide) (fun _ => ?_) (fun c9 => absurd rfl c9)
            exact tail H1 locs1 hI
          · have fzo : zo = 11 := ezo
            clear ezo
            subst fzo
            refine lv_tableIn (off := 347) (tgt := 380) hx hb dL_law_33 (by decide) (by decide) (by decide) (by decide) ?_
            obtain ⟨r, hA, hB⟩ := lcpI_e (show lcpI (F 195 [.ref x] σ) (G 140 [.ref y] τ) = some (u, v) from hst)
            dsimp only at hA hB
            refine lv_aload_n hx hb dL_law_380 rfl (lv_at hl 2 rfl) ?_
            refine lc_Oi (x := x) (as := []) (rest := []) S hEv hI (oTr_met n 195 _ _ _ (hF _ _ _ _ hA) _ oM_195) (oTr_mono _ _ _ _ _ (hF _ _ _ _ hA)) oM_195 rfl rfl rfl rfl (lgO oM_195 rfl rfl (zw_in 8 173 rfl)) hx9 hn (by omega) (by omega) hl.1 (Nat.le_of_ble_eq_true rfl) dL_law_381 (fun H1 locs1 hI => ?_)
            rw [e1] at hI ⊢
            rw [e2]
            have hS := hI.2.2.2.2.2.2.2.1
            refine lv_aload_n hx hb dL_law_384 rfl (lv_at hl 1 rfl) ?_
            refine lc_Zi (as := []) (rest := [.int r]) S hKe hI (zTr_met hso hI.2.2.2.2.2.2.2.2.1 hI.2.2.2.2.2.2.2.2.2 n' 140 _ _ _ (hG _ _ _ _ hB) _ zm_fuel) zm_fuel rfl rfl rfl (lgZ zm_fuel rfl (zw_in 13 188 rfl)) hn' (by omega) (by omega) hl.1 (Nat.le_of_ble_eq_true rfl) dL_law_385 (fun H1 locs1 hI => ?_)
            refine lv_icmp_eq (tgt := 393) hx hb dL_law_388 (by decide) (fun _ => ?_) (fun c9 => absurd rfl c9)
            exact tail H1 locs1 hI
          · have fzo : zo = 12 := ezo
            clear ezo
            subst fzo
            refine lv_tableOut (tgt := 393) hx hb dL_law_33 (by decide) (by decide) ?_
            have h9 : (σ, τ) = (u, v) := Option.some.inj hst
            cases h9
            exact tail H locs hI
          · have fzo : zo = 13 := ezo
            clear ezo
            subst fzo
            refine lv_tableOut (tgt := 393) hx hb dL_law_33 (by decide) (by decide) ?_
            have h9 : (σ, τ) = (u, v) := Option.some.inj hst
            cases h9
            exact tail H locs hI
          · have fzo : zo = 14 := ezo
            clear ezo
            subst fzo
            refine lv_tableOut (tgt := 393) hx hb dL_law_33 (by decide) (by decide) ?_
            have h9 : (σ, τ) = (u, v) := Option.some.inj hst
            cases h9
            exact tail H locs hI
          · have fzo : zo = 15 := ezo
            clear ezo
            subst fzo
            refine lv_tableOut (tgt := 393) hx hb dL_law_33 (by decide) (by decide) ?_
            have h9 : (σ, τ) = (u, v) := Option.some.inj hst
            cases h9
            exact tail H locs hI
        next => cases hrun
      next => cases hrun
    · rw [lrun, if_neg hex] at hrun
      cases hrun
      refine lv_icmp_gt (tgt := 399) hx hb dL_law_24 (by decide) (fun _ => ?_) (fun c_2 => absurd (lex_in hi hL hex) c_2)
      refine lv_iconst (v := 1) hx hb dL_law_399 (by decide) ?_
      refine va_forget (fun q hq => hS.2.2 q hq) ?_
      refine W.widen (k := room_1.cells) (n := room_1.slots) hb1 hb2 ?_
      exact lw_ret hx hb hr hlocks dL_law_400
