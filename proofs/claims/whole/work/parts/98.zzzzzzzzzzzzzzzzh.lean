/-! the reference: namesOfGone() -/
section NOG
variable {ks : Nat → Nat} {qs : List Nat} {T h0 len cnt lo N S P A c : Nat} {V : zSt} {L env ns : List Nat} {kk pp ee f : Nat → Int32} {B : Int} {cov : Nat → Prop}
theorem gFm.co {τ : zSt} (h : gFm V τ) (w : rCo V ns) : rCo τ ns := w.cg (h.1 131 (by decide)) (h.2.2.1 89 (by decide) (by decide)) (h.2.2.1 90 (by decide) (by decide))
theorem r_ngL {M : List (Nat × Int32)} {n : Nat} (hl : M.length ≤ 39) (hM : ∀ q, q ∈ M → ∃ k : Nat, ns[k]? = some q.1) : ∀ (d i t : Nat) (τ : zSt), i + d = M.length → d < t → rLn τ M → rCo τ ns → l_namesOfGone_124 T (zF h0 qs ks T (n + 1)) h0 qs ks t (nI i) τ = some (none, τ)
  | 0, i, t, τ, hi, ht, ⟨m1, m2⟩, w => by
    obtain ⟨t, rfl⟩ : ∃ t', t = t' + 1 := ⟨t - 1, by omega⟩
    rw [l_namesOfGone_124, m1, if_pos (nI_le (by omega) (by omega))]
  | d + 1, i, t, τ, hi, ht, ⟨m1, m2⟩, w => by
    obtain ⟨t, rfl⟩ : ∃ t', t = t' + 1 := ⟨t - 1, by omega⟩
    have hil : i < M.length := by omega
    have ei := List.getElem?_eq_getElem hil
    obtain ⟨k, ek⟩ := hM _ (List.mem_of_getElem? ei)
    rw [l_namesOfGone_124, m1, if_neg (nI_ge (by omega) (by omega)), zgd_at (zin_n (by omega) (by decide)), nI_clamp (by omega), (m2 i _ ei).1, r_clA w ek, zci_at, nI_p1]
    exact r_ngL hl hM d (i + 1) t τ (by omega) (by omega) ⟨m1, m2⟩ w
set_option maxHeartbeats 1000000 in
/-- **namesOfGone()** of a C: all have columns already -/
theorem r_nog (hN : N ≤ 2100) (H : rLh T len cnt S P L env V kk pp ee f) (hco : rCo V ns) (hcov : ∀ u, cov u → ∃ k : Nat, ns[k]? = some (nuO (V.2.2.1 32) u)) (t : tT) (m : Nat) (wf : cWf cnt t false) (hg : tGd kk cnt t) (hu : rWs f pp ee (V.2.2.1 32) L env (cEv t)) (hF : dFo T f pp ee env cov B t) (ht : rTr pp V lo N S P A t 0 0 m) : ∀ n τ, 4 + kD t ≤ n → gFm V τ → ∃ τ', zF h0 qs ks T n 106 [.ref h0, .int (nI m)] τ = some (none, τ') ∧ gFm V τ' := by
  have nn : ∀ m : Nat, m < 2100 → (0 : Int32) ≤ nI m := fun m hm => nI_le (a := 0) (b := m) (by omega) (by omega)
  refine (r_cw (α := Unit) (K := fun m D _ => ∀ n τ, D ≤ n → gFm V τ → ∃ τ', zF h0 qs ks T n 106 [.ref h0, .int (nI m)] τ = some (none, τ') ∧ gFm V τ') (X := fun t => (tGd kk cnt t ∧ dFo T f pp ee env cov B t) ∧ ∀ w, w ∈ cEv t → rUs f pp ee (V.2.2.1 32) L env w) (val := fun _ => ()) (cmb := fun _ _ _ => ()) (vl := fun _ _ _ => ()) (C := 4) (cnt := cnt) hN (fun m D D' F h hd n τ hn => h n τ (by omega)) ?_ (fun _ _ _ _ _ _ => rfl) (fun _ _ => rfl) (fun _ _ _ _ _ _ => rfl) ?_ ?_ ?_ ?_ ?_ t).1 m wf ⟨⟨hg, hF⟩, hu⟩ ht
  · rintro g d z a b ⟨⟨⟨-, -, ⟨h24, -⟩, ha, hb⟩, -, fa, fb⟩, hu⟩
    by_cases c24 : g = 24 ∨ g = 25
    · obtain ⟨rfl, rfl⟩ := h24 c24
      exact ⟨⟨⟨trivial, trivial⟩, fun w hw => by cases hw⟩, ⟨trivial, trivial⟩, fun w hw => by cases hw⟩
    · unfold cEv at hu
      rw [if_neg (fun z => c24 (Or.inl z)), if_neg (fun z => c24 (Or.inr z))] at hu
      exact ⟨⟨⟨ha, fa⟩, fun w hw => hu w (List.mem_append_left _ hw)⟩, ⟨hb, fb⟩, fun w hw => hu w (List.mem_append_right _ hw)⟩
  · intro gl m m0 mb D Da F Fa hgl hm e6 e9 e10 K0 Kb n τ hn fm
    obtain ⟨n, rfl⟩ : ∃ n', n = n' + 1 := ⟨n - 1, by omega⟩
    rw [zE_namesOfGone]
    unfold b_namesOfGone
    rw [if_pos (nn m hm), zgd_at (zin_n hm (by decide)), nI_clamp (show m < 2 ^ 31 by omega), fm.2.2.1 6 (by decide) (by decide), e6]
    have go : ∃ τ', j_namesOfGone_38 T (zF h0 qs ks T n) h0 qs ks (nI m) τ = some (none, τ') ∧ gFm V τ' := by
      unfold j_namesOfGone_38
      rw [zgd_at (zin_n hm (by decide)), nI_clamp (show m < 2 ^ 31 by omega), fm.2.2.1 9 (by decide) (by decide), e9]
      obtain ⟨τ1, a1, a2⟩ := K0 n τ (by omega) fm
      rw [a1, zcv_at, zgd_at (zin_n hm (by decide)), a2.2.2.1 10 (by decide) (by decide), e10]
      obtain ⟨τ2, b1, b2⟩ := Kb n τ1 (by omega) a2
      rw [b1, zcv_at]
      exact ⟨τ2, rfl, b2⟩
    rcases hgl with rfl | rfl
    · rw [if_pos (by decide)]; exact go
    · rw [if_neg (by decide), zgd_at (zin_n hm (by decide)), if_pos (by decide)]; exact go
  · intro d z a m x D hm e6 e9 K0 n τ hn fm
    obtain ⟨n, rfl⟩ : ∃ n', n = n' + 1 := ⟨n - 1, by omega⟩
    rw [zE_namesOfGone]
    unfold b_namesOfGone
    rw [if_pos (nn m hm), zgd_at (zin_n hm (by decide)), nI_clamp (show m < 2 ^ 31 by omega), fm.2.2.1 6 (by decide) (by decide), e6, if_neg (by decide), zgd_at (zin_n hm (by decide)), if_neg (by decide), zgd_at (zin_n hm (by decide)), if_pos (by decide), zgd_at (zin_n hm (by decide)), fm.2.2.1 9 (by decide) (by decide), e9]
    obtain ⟨τ1, a1, a2⟩ := K0 n τ (by omega) fm
    rw [a1, zcv_at]
    exact ⟨τ1, rfl, a2⟩
  · intro d z m hm ht n τ hn fm
    obtain ⟨n, rfl⟩ : ∃ n', n = n' + 1 := ⟨n - 1, by omega⟩
    have e6 : V.2.2.1 6 m = nI 23 := ht.1.2.1
    rw [zE_namesOfGone]
    unfold b_namesOfGone
    rw [if_pos (nn m hm), zgd_at (zin_n hm (by decide)), nI_clamp (show m < 2 ^ 31 by omega), fm.2.2.1 6 (by decide) (by decide), e6, if_neg (by decide), zgd_at (zin_n hm (by decide)), if_neg (by decide), zgd_at (zin_n hm (by decide)), if_neg (by decide), zgd_at (zin_n hm (by decide)), if_neg (by decide)]
    exact ⟨τ, rfl, fm⟩
  · intro d z a b m hm hd hx ht n τ hn fm
    obtain ⟨n, rfl⟩ : ∃ n', n = n' + 1 := ⟨n - 1, by omega⟩
    have e6 : V.2.2.1 6 m = nI 24 := ht.1.2.1
    rw [zE_namesOfGone]
    unfold b_namesOfGone
    rw [if_pos (nn m hm), zgd_at (zin_n hm (by decide)), nI_clamp (show m < 2 ^ 31 by omega), fm.2.2.1 6 (by decide) (by decide), e6, if_neg (by decide), zgd_at (zin_n hm (by decide)), if_neg (by decide), zgd_at (zin_n hm (by decide)), if_neg (by decide), zgd_at (zin_n hm (by decide)), if_neg (by decide)]
    exact ⟨τ, rfl, fm⟩
  · rintro d z a b m hm w1 w2 ⟨⟨⟨⟨g1, g2⟩, -, ⟨h24, -⟩, -, -⟩, hF, -, -⟩, hu⟩ ht n τ hn fm
    obtain ⟨rfl, rfl⟩ := h24 (Or.inr rfl)
    have hu : ∀ w, w ∈ sEv d.2.2.2.1.2 ++ sEv d.2.2.2.2.2 → rUs f pp ee (V.2.2.1 32) L env w := hu
    obtain ⟨t0, ⟨t8, t5⟩, x, y, ⟨t1, t2⟩, s1, s2⟩ := ht
    obtain ⟨f1, f2, f3, f4⟩ := hF rfl
    obtain ⟨n, rfl⟩ : ∃ n', n = n' + 3 := ⟨n - 3, by omega⟩
    have hE : ∀ w u, nFind f pp ee env w = some u → u ∈ env := fun w u e => by
      obtain ⟨j, -, ej⟩ := nFind_mem e
      exact List.mem_of_getElem? ej
    obtain ⟨k1, k2, k3, k4⟩ := sLs_ok (nFind f pp ee env) hE H.2.2.2.2 g1 g2
    obtain ⟨τ1, τ2, τ3, a1, a2, a3, a4, a5, a6, a7, a8⟩ := r_line2 (h0 := h0) (qs := qs) (ks := ks) (n := n) (τ := τ) H fm w1 w2 g1 g2 (fun w hw => hu w (List.mem_append_left _ hw)) (fun w hw => hu w (List.mem_append_right _ hw)) s1 s2
    have e6 : V.2.2.1 6 m = nI 25 := t0.2.1
    have t1 : V.2.2.1 9 m = nI x := t1
    have t2 : V.2.2.1 10 m = nI y := t2
    rw [show n + 3 = (n + 2) + 1 from rfl, zE_namesOfGone]
    unfold b_namesOfGone
    rw [if_pos (nn m hm), zgd_at (zin_n hm (by decide)), nI_clamp (show m < 2 ^ 31 by omega), fm.2.2.1 6 (by decide) (by decide), e6, if_neg (by decide), zgd_at (zin_n hm (by decide)), if_neg (by decide), zgd_at (zin_n hm (by decide)), if_neg (by decide), zgd_at (zin_n hm (by decide)), if_pos (by decide), a1, zcv_at, zgd_at (zin_n hm (by decide)), a2.2.2.1 9 (by decide) (by decide), t1, a3, zcv_at, zgd_at (zin_n hm (by decide)), a4.2.2.1 10 (by decide) (by decide), t2, a5, zcv_at]
    have e := r_ngL (h0 := h0) (qs := qs) (ks := ks) (T := T) (n := n + 1) (ns := ns) (M := rMp (nuO (V.2.2.1 32)) (sLs (nFind f pp ee env) (-1) d.2.2.2.2.2 (sLs (nFind f pp ee env) 1 d.2.2.2.1.2 []))) (by rw [rMp_len]; omega) (fun q hq => by
      obtain ⟨q0, hq0, rfl⟩ := List.mem_map.mp hq
      exact hcov _ (f4 q0 hq0)) _ 0 T τ3 (by rw [Nat.zero_add]) (by rw [rMp_len]; have := H.1.1; omega) a7 (a6.co hco)
    have e : l_namesOfGone_124 T (zF h0 qs ks T (n + 2)) h0 qs ks T 0 τ3 = some (none, τ3) := e
    rw [e]
    exact ⟨τ3, rfl, a6⟩
end NOG
