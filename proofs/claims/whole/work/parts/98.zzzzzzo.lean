/-! what is known of a PROGRAM that was read; the class's findAll up to infer() -/
/-- what stands fast of INPUTS and E of a PROGRAM -/
def pG (kk pp : Nat → Int32) (cnt : Nat) (is : List (Nat × Nat)) (e : tT) : Prop := (is.length ≤ 6 ∧ ∀ x ∈ is, x.1 < cnt ∧ x.2 ≤ 2) ∧ tWf kk cnt e 0 ∧ (∃ i0, tRg e i0 cnt) ∧ (tO3 e ∧ tSn kk e ∧ tA3 pp e) ∧ (tC e ≤ 4 * cnt ∧ tM e ≤ 3 * cnt ∧ tKb 2000 e ∧ tDc e ≤ 255 ∧ tDr e ≤ 124 + tKs e ∧ 5 * (tA e + tKs e) ≤ 4 * cnt) ∧ (is.map Prod.fst ++ tEv e).Nodup ∧ (tEv e).length ≤ cnt
section PGX
variable {kk pp ee f : Nat → Int32} {T cnt : Nat}
theorem aNs_2 : ∀ (q i : Nat) (xs : List (Nat × Nat)) (j : Nat), aNs kk q i = .inr (xs, j) → ∀ x ∈ xs, x.2 ≤ 2
  | 0, i, xs, j, h => by
    unfold aNs at h
    split at h
    · cases h
    · injection h with h; injection h with h3 h4; subst h3
      intro x hx; cases hx
  | q + 1, i, xs, j, h => by
    unfold aNs at h
    split at h
    · obtain ⟨x, j1, h1, h⟩ := on_inr h
      obtain ⟨ys, j2, h2, h⟩ := on_inr h
      injection h with h; injection h with h3 h4; subst h3
      intro y hy
      rcases List.mem_cons.mp hy with e | hy
      · subst e
        unfold aNp at h1
        obtain ⟨_, i1, _, h1⟩ := on_inr h1
        obtain ⟨_, i2, _, h1⟩ := on_inr h1
        obtain ⟨b, i3, hb, h1⟩ := on_inr h1
        obtain ⟨_, i4, _, h1⟩ := on_inr h1
        injection h1 with h1; injection h1 with h1 _; rw [← h1]
        show b ≤ 2
        unfold aBs at hb
        split at hb
        · injection hb with hb; injection hb with hb _; omega
        · split at hb
          · injection hb with hb; injection hb with hb _; omega
          · split at hb
            · injection hb with hb; injection hb with hb _; omega
            · cases hb
      · exact aNs_2 q _ ys _ h2 y hy
    · injection h with h; injection h with h3 h4; subst h3
      intro x hx; cases hx
theorem pG.of {g : Nat → Nat} (hz : ∀ i, cnt ≤ i → kk i = 0) (hg : gW kk g) (hpp : ∀ a b, a < b → b < cnt → pp a ≠ pp b) {xs : List tQ} {is : List (Nat × Nat)} {e : tT} {j : Nat} (h : aPr kk T cnt = .inr ((xs, is, e), j)) (hc : cnt ≤ 2000) : pG kk pp cnt is e := by
  obtain ⟨-, rg, ⟨i6, ic⟩, wf, -, -, -⟩ := aPr_rd hz hg h
  unfold aPr at h
  obtain ⟨qs, j1, h1, h⟩ := on_inr h
  obtain ⟨is', j2, h2, h⟩ := on_inr h
  obtain ⟨t, j3, h3, h⟩ := on_inr h
  split at h
  · rename_i c
    injection h with h
    injection h with h4 h5
    injection h4 with h6 h7
    injection h7 with h8 h9
    subst h8 h9
    rw [c] at h3
    obtain ⟨b1, b2, b3, b4, b5⟩ := aE_fx (cnt := cnt) (pp := pp) hz hpp 31 _ _ _ h3
    obtain ⟨c1, c2, c3, c4, c5, c6⟩ := aE_rg (kk := kk) (T := T) 31 _ _ _ h3
    have ev := aE_ev (kk := kk) (T := T) 31 _ _ _ h3
    refine ⟨⟨i6, fun x hx => ⟨ic x hx, aNs_2 6 _ _ _ h2 x hx⟩⟩, wf, ⟨_, c1⟩, b2 (Nat.le_refl _), ⟨by omega, by omega, c4 2000 (by omega), by omega, by omega, by omega⟩, rg.2.1.imp (fun h => Nat.ne_of_lt h), ?_⟩
    have := rgL.len ev
    omega
  · cases h
end PGX
def mI0 : mS := ([], 0, fun _ => mB 0, fun _ => mB 0, mB 0)
/-- INPUTS have their types -/
def mIn : List (Nat × Nat) → mS → mS
  | [], s => s
  | x :: xs, s => mIn xs (mNt x.1 (mB x.2) s)
theorem mIn_1 : ∀ (xs : List (Nat × Nat)) (s : mS), (mIn xs s).1 = s.1 ∧ (mIn xs s).2.1 = s.2.1 ∧ (mIn xs s).2.2.2 = s.2.2.2
  | [], s => ⟨rfl, rfl, rfl⟩
  | x :: xs, s => mIn_1 xs (mNt x.1 (mB x.2) s)
section CFA
variable {κ : oKv} {Tt mo y cnt n p q0 d0 cap len : Nat} {A : Nat → Nat} {V σ : oSt} {nm gg : Nat → Option Nat} {U : List Nat} {pp : Nat → Int32} {mc : Int32} {ps : List Value} {is : List (Nat × Nat)}
theorem vR.n6 (h : vR V σ) {b k : Nat} {fs : List Value} (e : V.1 b = some (.inr (6, fs))) (hk : k ≠ 2) : ofd σ (some b) 6 k = fs[k]? := by
  obtain ⟨v, e', -⟩ := h.2.1 b fs e
  rw [ofd_at e', List.getElem?_set_ne (fun z => hk z.symm)]
theorem vR.p9 (h : vR V σ) {b k : Nat} {fs : List Value} (e : V.1 b = some (.inr (9, fs))) : ofd σ (some b) 9 k = fs[k]? := by
  rw [ofd_at ((h.2.2.1 b (h.lt e) (fun fs z => by rw [e] at z; cases z) (fun fs z => by rw [e] at z; cases z)).trans e)]
/-- the first loop of findAll -/
theorem c_faL (hH : wH κ Tt mo y cnt A V nm pp U) (e9 : V.1 p = some (.inr (9, ps))) (h2 : ps[2]? = some (.ref q0)) (h9 : ps[9]? = some (.int (nI is.length))) (l1 : cLs κ V q0 d0 cap len mc gg 6) (hgg : ∀ k x, is[k]? = some x → gg k = nm x.1) (hlen : is.length ≤ len) (hl2 : len ≤ 2000) (hci : ∀ x, x ∈ is → ∃ b fs, nm x.1 = some b ∧ V.1 b = some (.inr (6, fs)) ∧ 2 < fs.length ∧ fs[3]? = some (.int (iCd x.2))) (hs2 : ∀ x, x ∈ is → x.2 ≤ 2) (hU : ∀ x, x ∈ is → x.1 ∈ U) : ∀ (xs : List (Nat × Nat)) (k t : Nat) (env : List Nat) (σ : oSt) (s : mS) (g : gG) (T : Nat → mF), is.drop k = xs → k + xs.length = is.length → xs.length < t → cXE V y A mo nm env σ s g T → (∀ u, u ∈ env → u ∈ U) → (∀ x, x ∈ xs → x.1 ∉ env) → (xs.map Prod.fst).Nodup → ∃ σ', ol_X10_findAll_2 Tt (oF κ Tt (n + 3)) κ t (some y) (some p) (nI k) σ = oj_X10_findAll_58 Tt (oF κ Tt (n + 3)) κ (some y) (some p) σ' ∧ cXE V y A mo nm (env ++ xs.map Prod.fst) σ' (mIn xs s) g T ∧ ∀ i j, wF V nm pp σ σ' i j (xs.map Prod.fst)
  | [], k, t, env, σ, s, g, T, hd, hk, ht, h, _, _, _ => by
    obtain ⟨t, rfl⟩ : ∃ t', t = t' + 1 := ⟨t - 1, by omega⟩
    have hk : k = is.length := hk
    refine ⟨σ, ?_, by rw [List.map_nil, List.append_nil]; exact h, fun i j => wF.rf σ i j _⟩
    rw [ol_X10_findAll_2, h.1.1.p9 e9, h9, ovi_in, obn_at, if_pos (nI_le (by omega) (by omega))]
  | x :: xs, k, t, env, σ, s, g, T, hd, hk, ht, h, hE, hn, hnd => by
    rw [List.length_cons] at hk ht
    obtain ⟨t, rfl⟩ : ∃ t', t = t' + 1 := ⟨t - 1, by omega⟩
    have hx : is[k]? = some x := by
      have : (is.drop k)[0]? = some x := by rw [hd]; rfl
      rw [List.getElem?_drop, Nat.add_zero] at this
      exact this
    have hm := List.mem_of_getElem? hx
    obtain ⟨b, fs, e1, e2, e3, e4⟩ := hci x hm
    have gb : gg k = some b := (hgg k x hx).trans e1
    have ls := h.1.1.ls hH.1.2.2.2.1 l1
    have lg : oF κ Tt (n + 3) 234 [va_rf (some q0), .int (nI k)] σ = some (some (va_rf (some b)), σ) := by rw [← gb]; exact l_get (ls.o (by omega)) (by omega)
    obtain ⟨fb', eb'⟩ := h.1.1.oc e2
    have oc : ocs σ (some b) 6 = true := by simp only [ocs, eb']; rfl
    have bs : (if iCd x.2 = 202 then (1 : Int32) else if iCd x.2 = 200 then 2 else if iCd x.2 = 213 then 3 else 0) = nI x.2 := by
      have := hs2 x hm
      have : x.2 = 0 ∨ x.2 = 1 ∨ x.2 = 2 := by omega
      rcases this with z | z | z
      all_goals rw [z]; rfl
    obtain ⟨σ1, t1, t2, t3, -⟩ := h.tell (v := nI x.2) (ty := mB x.2) hH e1 e2 e3 (fun z => ⟨x.2, rfl, h.1.bas z (by have := hs2 x hm; omega)⟩) (hn x (List.mem_cons_self ..)) (hU x hm) hE
    have hnd' := List.nodup_cons.mp hnd
    obtain ⟨σ2, i1, i2, i3⟩ := c_faL hH e9 h2 h9 l1 hgg hlen hl2 hci hs2 hU xs (k + 1) t (env ++ [x.1]) σ1 _ g T (by rw [← List.drop_drop, hd]; rfl) (by omega) (by omega) t2 (fun u hu => (List.mem_append.mp hu).elim (hE u) (fun z => by rw [List.mem_singleton.mp z]; exact hU x hm)) (fun z hz w => (List.mem_append.mp w).elim (hn z (List.mem_cons_of_mem _ hz)) (fun w => hnd'.1 (by rw [← List.mem_singleton.mp w]; exact List.mem_map_of_mem hz))) hnd'.2
    refine ⟨σ2, ?_, ?_, fun i j => ?_⟩
    · rw [ol_X10_findAll_2, h.1.1.p9 e9, h9, ovi_in, obn_at, if_neg (nI_ge (by omega) (by omega)), h.1.1.p9 e9, h2, ovr_rf, obn_at, oob_at ls.1, obn_at, l_sz (n := n + 2) ls, oin_at, if_neg (nI_ge (by omega) (by omega)), h.1.1.p9 e9, h2, ovr_rf, obn_at, oob_at ls.1, obn_at, lg, orn_at, ogd_at oc, h.1.1.p9 e9, h2, ovr_rf, obn_at, oob_at ls.1, obn_at, lg, orn_at, ogd_at oc, h.1.1.n6 e2 (by decide), e4, ovi_in, obn_at, show n + 3 = (n + 2) + 1 from rfl, c_basic, oin_at, bs, t1, obn_at, nI_p1]
      exact i1
    · rw [List.map_cons, ← List.singleton_append, ← List.append_assoc]
      exact i2
    · exact ((t3 i j).wd (Nat.le_refl _) (Nat.le_refl _) (fun u hu => by rw [List.mem_singleton.mp hu]; exact List.mem_cons_self ..)).tr ((i3 i j).wd (Nat.le_refl _) (Nat.le_refl _) (fun u hu => List.mem_cons_of_mem _ hu))
end CFA
