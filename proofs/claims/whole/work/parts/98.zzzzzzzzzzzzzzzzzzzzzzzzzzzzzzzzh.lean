/-! run(), the class: a function takes ARGS -/
section HAP
variable {κ : oKv} {T n : Nat} {ma ha0 : Nat} {G : hG} {nb : tT → List Nat → Nat → Prop} {h : xmHp} {W : Nat → Prop} {σ0 : oSt} {fm0 : List Value}
theorem h_size {σ : oSt} {pa d w : Nat} {mc : Int32} (h1 : σ.1 pa = some (.inr (1, [.int mc, .ref d, .int (nI w)]))) : oF κ T (n + 1) 236 [va_rf (some pa)] σ = some (some (.int (nI w)), σ) := by
  have f2 : ofd σ (some pa) 1 2 = some (.int (nI w)) := by rw [ofd_at h1]; rfl
  rw [oE_Jx4a65c_size_8abf5]
  simp only [ob_Jx4a65c_size_8abf5, f2, ovi, obn]
/-- the loop of apply() -/
theorem h_ap46 {m pa d w : Nat} {mc : Int32} {fs : List Value} (hfr : ∀ q, σ0.2.1 ≤ q → σ0.1 q = none) (hm0 : ∃ fm, σ0.1 ma = some (.inr (5, fm))) (hh0 : ∃ k g, σ0.1 ha0 = some (.inl (.long, k, g))) (hml : ma < σ0.2.1) (hn : σ0.1 m = some (.inr (7, fs))) (hW : ¬ W m ∧ ¬ W pa) (h11 : fs[11]? = some (.ref pa)) (hl : σ0.1 pa = some (.inr (1, [.int mc, .ref d, .int (nI w)]))) (hw : w ≤ 4) : ∀ (rest : List xmV) (q f s a top : Nat) (l : List xmV) (σ : oSt) (ha hl : Nat) (hp : Nat → Int64) (fm : List Value), q ≤ w → w < f + q → hMa ma fm ha hl hp top σ → hKe W ma ha0 σ0 σ ha → hHp nb G top hp h → hSc G (hAr G.2.1 h.2.1) top hp rest s → hSc G (hAr G.2.1 h.2.1) top hp l a → top + 8 ≤ 332100 + 2 * q → ∃ σ' ha' hl' hp' gm a' s', ol_X3_apply_46 T (oF κ T (n + 3)) κ f (some ma) (some m) (nI a) (nI q) (nI s) σ = oj_X3_apply_96 T (oF κ T (n + 3)) κ (some ma) (some m) (nI a') (nI (q + min (w - q) rest.length)) (nI s') σ' ∧ hMa ma gm ha' hl' hp' (top + 2 * min (w - q) rest.length) σ' ∧ hFx [4, 5] fm gm ∧ (∀ i, i < top → hp' i = hp i) ∧ hHp nb G (top + 2 * min (w - q) rest.length) hp' h ∧ hSc G (hAr G.2.1 h.2.1) (top + 2 * min (w - q) rest.length) hp' (rest.drop (w - q)) s' ∧ hSc G (hAr G.2.1 h.2.1) (top + 2 * min (w - q) rest.length) hp' ((rest.take (w - q)).reverse ++ l) a' ∧ hKe W ma ha0 σ0 σ' ha' ∧ (σ'.2.2.2 + 2 * hl ≤ σ.2.2.2 + 2 * hl' ∧ 64 * σ'.2.2.1 + hl ≤ 64 * σ.2.2.1 + hl' ∧ (hl' = hl ∨ hl' ≤ 664200))
  | rest, q, f, s, a, top, l, σ, ha, hl', hp, fm, hq, hf, M, K, H, hr, hs, hk => by
    obtain ⟨f, rfl⟩ : ∃ v, f = v + 1 := ⟨f - 1, by omega⟩
    have hn' : σ.1 m = some (.inr (7, fs)) := K.at hfr hm0 hh0 hn (fun _ w => by cases w) (fun _ _ w => by cases w) hW.1
    have hl2 : σ.1 pa = some (.inr (1, [.int mc, .ref d, .int (nI w)])) := K.at hfr hm0 hh0 hl (fun _ w => by cases w) (fun _ _ w => by cases w) hW.2
    have e11 : ovr (ofd σ (some m) 7 11) = some (some pa) := by rw [ofd_at hn', h11]; rfl
    have t31 := M.2.2.2
    rw [ol_X3_apply_46, e11, obn_at, oob_at hl2, obn_at, h_size hl2, oin_at]
    by_cases c : w ≤ q
    · have e0 : w - q = 0 := by omega
      rw [if_pos (nI_le (by omega) (by omega)), e0, Nat.zero_min]
      exact ⟨σ, ha, hl', hp, fm, a, s, rfl, M, hFx.rf _ _, fun _ _ => rfl, H, hr, hs, K, by omega⟩
    · rw [if_neg (nI_ge (by omega) (by omega))]
      cases rest with
      | nil =>
        have s0 : s = 0 := hr
        rw [if_pos (show nI s = (0 : Int32) by rw [s0]; rfl), List.length_nil, Nat.min_zero]
        refine ⟨σ, ha, hl', hp, fm, a, s, rfl, M, hFx.rf _ _, fun _ _ => rfl, H, ?_, ?_, K, by omega⟩
        · rw [List.drop_nil]; exact hr
        · rw [List.take_nil]; exact hs
      | cons v rest =>
        obtain ⟨⟨r1, r2⟩, r3, s', r4, r5⟩ := id hr
        have n0 : ¬ nI s = (0 : Int32) := fun z => by have := nI_inj' (b := 0) (by have := r1.2.1; omega) (by omega) z; have := r1.1; omega
        have k5 := K.2.2.2.2.1
        obtain ⟨σ1, ha1, hl1, hp1, P1, P2, ⟨P3, P4, P5⟩, P6, P7, P8⟩ := h_pair (κ := κ) (T := T) (n := n) (x := hp s) (b := a) M (by omega) K.2.2.2.2.2.symm (by have := K.2.2.1; omega) k5 K.2.1
        have K1 := K.gr P6 P7 P8
        have H1 := H.up (top' := top + 2) (by omega) P3
        have S1 := hs.push H r3 P3 P4 P5
        have R1 : hSc G (hAr G.2.1 h.2.1) (top + 2) hp1 rest s' := r5.kp (hGe.rf G) (fun y hy => ⟨⟨hy.1, by have := hy.2.1; omega, hy.2.2⟩, P3 y hy.2.1⟩)
        have le := P6.le.2
        obtain ⟨σ2, ha2, hl2', hp2, gm, a', s2, B1, B2, B3, B4, B5, B6, B7, B8, B9⟩ := h_ap46 hfr hm0 hh0 hml hn hW h11 hl hw rest (q + 1) f s' top (top + 2) (v :: l) σ1 ha1 hl1 hp1 _ (by omega) (by omega) P2 K1 H1 R1 S1 (by omega)
        have ew : w - q = (w - (q + 1)) + 1 := by omega
        have em : min (w - q) (v :: rest).length = min (w - (q + 1)) rest.length + 1 := by rw [List.length_cons, ew]; omega
        rw [if_neg n0, M.hp4, obn_at, M.aj r1.2.1, obn_at, oob_at M.1.1, obn_at, P1, oin_at, P2.hp4, obn_at, nI_p1, P2.aj (by have := r2.2.1; omega), obn_at, P3 _ r2.2.1, r4, xmNi_32, nI_p1, B1, em]
        refine ⟨σ2, ha2, hl2', hp2, gm, a', s2, by rw [show q + 1 + min (w - (q + 1)) rest.length = q + (min (w - (q + 1)) rest.length + 1) by omega], ?_, fun k hk' => (B3 k hk').trans ?_, fun i hi => (B4 i (by omega)).trans (P3 i hi), ?_, ?_, ?_, B8, by omega⟩
        · rw [show top + 2 * (min (w - (q + 1)) rest.length + 1) = top + 2 + 2 * min (w - (q + 1)) rest.length by omega]; exact B2
        · exact (((hFx.rf [4, 5] fm).st (by decide)).st (by decide)) k hk'
        · rw [show top + 2 * (min (w - (q + 1)) rest.length + 1) = top + 2 + 2 * min (w - (q + 1)) rest.length by omega]; exact B5
        · rw [show top + 2 * (min (w - (q + 1)) rest.length + 1) = top + 2 + 2 * min (w - (q + 1)) rest.length by omega, ew, List.drop_succ_cons]; exact B6
        · rw [show top + 2 * (min (w - (q + 1)) rest.length + 1) = top + 2 + 2 * min (w - (q + 1)) rest.length by omega, ew, List.take_succ_cons, List.reverse_cons, List.append_assoc]; exact B7
  termination_by rest => rest.length
end HAP
