/-! run(), the reference: S's -/
/-- what run() leaves alone -/
def xFm (V τ : zSt) : Prop := (∀ k, k < 105 → τ.2.2.1 k = V.2.2.1 k) ∧ (∀ k, k ∉ [163, 164, 165, 171, 176, 180, 181, 188, 189, 190, 191, 192, 194, 195] → τ.1 k = V.1 k) ∧ (∀ k, k ≠ 193 → k ≠ 166 → τ.2.1 k = V.2.1 k) ∧ ∀ k, k < 105 → τ.2.2.2 k = V.2.2.2 k
theorem xFm.rf (V : zSt) : xFm V V := ⟨fun _ _ => rfl, fun _ _ => rfl, fun _ _ _ => rfl, fun _ _ => rfl⟩
theorem xFm.tr {a b c : zSt} (h : xFm a b) (g : xFm b c) : xFm a c := ⟨fun k x => (g.1 k x).trans (h.1 k x), fun k x => (g.2.1 k x).trans (h.2.1 k x), fun k x y => (g.2.2.1 k x y).trans (h.2.2.1 k x y), fun k x => (g.2.2.2 k x).trans (h.2.2.2 k x)⟩
theorem xFm.i (τ : zSt) {k : Nat} (v : Int32) (h : k ∈ [163, 164, 165, 171, 176, 180, 181, 188, 189, 190, 191, 192, 194, 195]) : xFm τ (zI τ k v) := ⟨fun _ _ => rfl, fun j hj => if_neg (fun e => hj (by rw [e]; exact h)), fun _ _ _ => rfl, fun _ _ => rfl⟩
theorem xFm.s (τ : zSt) (c : Nat) (x1 x2 x3 : Int32) (x4 : Int64) : xFm τ (slS τ c x1 x2 x3 x4) := by
  refine ⟨fun k hk => ?_, fun j hj => if_neg (fun e => hj (by rw [e]; decide)), fun _ _ _ => rfl, fun k hk => if_neg (by omega)⟩
  show (if k = 105 then _ else if k = 106 then _ else if k = 107 then _ else _) = _
  rw [if_neg (by omega), if_neg (by omega), if_neg (by omega)]
/-- arrays and lists in its rows -/
def rYl (τ : zSt) (h : xmHp) : Prop := (∀ i a, h.2.1[i]? = some a → (τ.2.2.1 113 i = nI ((h.2.1.take i).map List.length).sum ∧ τ.2.2.1 114 i = nI a.length) ∧ ∀ (k : Nat) (x : Int64), a[k]? = some x → τ.2.2.2 115 (((h.2.1.take i).map List.length).sum + k) = x) ∧ ∀ i c, h.2.2[i]? = some c → τ.2.2.2 119 i = c.1 ∧ τ.2.2.1 120 i = c.2.1.toInt32 ∧ τ.2.2.1 121 i = nI c.2.2
theorem xmNi_32 (n : Nat) : (xmNi n).toInt32 = nI n := by
  unfold xmNi
  exact Int32.toInt32_toInt64 _
theorem nd_inj {L : List Nat} {a b u : Nat} (hL : L.Nodup) (h1 : L[a]? = some u) (h2 : L[b]? = some u) : a = b := by
  have l1 := xget_lt h1
  have l2 := xget_lt h2
  rw [List.getElem?_eq_getElem l1] at h1
  rw [List.getElem?_eq_getElem l2] at h2
  injection h1 with h1
  injection h2 with h2
  have q := List.pairwise_iff_getElem.mp hL
  rcases Nat.lt_trichotomy a b with c | c | c
  · exact absurd (h1.trans h2.symm) (q a b l1 l2 c)
  · exact c
  · exact absurd (h2.trans h1.symm) (q b a l2 l1 c)
section XRV
variable {ks : Nat → Nat} {qs : List Nat} {T h0 n c len cnt S P : Nat} {V τ : zSt} {kk f pp ee : Nat → Int32} {tE tN : Nat → tY} {L : List Nat} {h : xmHp} {env : List Nat} {vs : List xmV} {k : Int32} {v : xmV}
/-- sizeOf() -/
theorem r_size (H : xmH cnt kk f pp ee tE tN (V.2.2.1 32) L h) (Y : rYl τ h) (hl : h.2.2.length ≤ 20000) (hv : v.2 = -1 ∨ xmIn h.2.2.length v.2) : zF h0 qs ks T (n + 1) 124 [.ref h0, .int v.2.toInt32] τ = some (some (.int (nI (xmSz h v.2))), τ) := by
  rw [zE_sizeOf]
  unfold b_sizeOf
  rcases hv with e | ⟨i, hi, e⟩
  · rw [e, if_neg (by decide)]
    have : xmSz h (-1) = 0 := if_pos (by decide)
    rw [this]
    rfl
  · obtain ⟨x, ex⟩ : ∃ x, h.2.2[i]? = some x := ⟨_, List.getElem?_eq_getElem hi⟩
    have e2 : xmSz h (xmNi i) = x.2.2 := by
      unfold xmSz
      rw [if_neg (by rw [Int64.lt_iff_toInt_lt, xmNi_int (by omega)]; show ¬ (i : Int) < 0; omega), xmNi_ix (by omega), List.getD_eq_getElem?_getD, ex]
      rfl
    rw [e, xmNi_32, e2, if_pos (by rw [Int32.le_iff_toInt_le, nI_toInt (by omega)]; show (0 : Int) ≤ i; omega), zgd_at (zin_n (by omega) (by decide)), nI_clamp (by omega), (Y.2 i x ex).2.2]
/-- a NAME in the chain -/
theorem r_get {w : Nat} (F : xFm V τ) (hc : c ≤ 260000) (E : rEc (V.2.2.1 32) τ c env vs k) (En : xmEn tE tN h env vs) (hn : env.Nodup) (hto : ∀ u, u ∈ env → rTo (V.2.2.1 32) L u) (hL : L.length < 2 ^ 31) (hLn : L.Nodup) (he : env.length < T) (hu : rUs f pp ee (V.2.2.1 32) L env w) : ∃ i, zF h0 qs ks T (n + 1) 122 [.ref h0, .int k, .int (V.2.2.1 32 w)] τ = some (some (.int (nI i)), τ) ∧ i < c ∧ τ.2.2.1 106 i = nI (xmGet f pp ee env vs w).1 ∧ τ.2.2.2 108 i = (xmGet f pp ee env vs w).2 := by
  obtain ⟨⟨g1, g2⟩, gm, -⟩ := En.get hu
  obtain ⟨l, E1, E2, E3⟩ := E
  obtain ⟨pre, post, e1, e2⟩ := E3 _ _ _ g1 g2
  have eR : V.2.2.1 32 w = V.2.2.1 32 (gNu f pp ee env w) := by
    obtain ⟨a, u, a1, a2, a3⟩ := hu
    have eu : gNu f pp ee env w = u := by unfold gNu; rw [a3]; rfl
    rw [eu] at gm ⊢
    obtain ⟨b, b1, b2⟩ := hto u gm
    rw [a1, b1, nd_inj hLn a2 b2]
  rw [eR]
  exact r_fnd hc e1 e2 E1 (by omega)
/-- all that stands fast -/
def rXs (T len cnt S P : Nat) (kk pp ee f : Nat → Int32) (L : List Nat) (V : zSt) : Prop := rW V T len cnt kk pp ee f ∧ (S ≤ 2000 ∧ P ≤ 2000) ∧ (L.length < 2 ^ 31 ∧ L.Nodup) ∧ 2110 ≤ T
/-- valueOf(), its loop -/
theorem r_valL (X : rXs T len cnt S P kk pp ee f L V) (F : xFm V τ) (hc : c ≤ 260000) (E : rEc (V.2.2.1 32) τ c env vs k) (H : xmH cnt kk f pp ee tE tN (V.2.2.1 32) L h) (En : xmEn tE tN h env vs) (Y : rYl τ h) (hl : h.2.2.length ≤ 20000) (hl2 : h.2.1.length ≤ 20006) (hn : env.Nodup) (hto : ∀ u, u ∈ env → rTo (V.2.2.1 32) L u) (he : env.length ≤ 100) {s l : Nat} (hs : s < 2100) (e14 : V.2.2.1 14 s = nI l) (hl3 : l ≤ 2000) : ∀ (ps : List tP) (t i : Nat) (x : Int64), i + ps.length = l → ps.length < t → (∀ q p, ps[q]? = some p → V.2.2.1 16 (i + q) = nI p.1 ∧ V.2.2.1 17 (i + q) = sg p.2.1 ∧ V.2.2.1 18 (i + q) = nI p.2.2) → (∀ p, p ∈ ps → p.1 ≤ 3 ∧ p.2.2 < cnt) → rWs f pp ee (V.2.2.1 32) L env (sEv ps) → gSo f pp ee tN env ps → l_valueOf_10 T (zF h0 qs ks T (n + 2)) h0 qs ks t (nI s) k x (nI i) τ = zcl' (zF h0 qs ks T (n + 2) 123 [.ref h0, .long (ps.foldl (fun x p => x + (sg p.2.1).toInt64 * xmPt T f pp ee h env vs p) x)] τ) fun r5 s3 => some (some (.long r5), s3)
  | [], t, i, x, hi, ht, _, _, _, _ => by
    obtain ⟨t, rfl⟩ : ∃ s, t = s + 1 := ⟨t - 1, by rw [List.length_nil] at ht; omega⟩
    have hi : i = l := hi
    rw [l_valueOf_10, zgd_at (zin_n hs (by decide)), nI_clamp (by omega), F.1 14 (by decide), e14, if_pos (by rw [hi]; exact Int32.le_refl _)]
    rfl
  | p :: ps, t, i, x, hi, ht, hr, hp, hw, hk => by
    rw [List.length_cons] at hi ht
    obtain ⟨t, rfl⟩ : ∃ s, t = s + 1 := ⟨t - 1, by omega⟩
    obtain ⟨r1, r2, r3⟩ := hr 0 p rfl
    rw [Nat.add_zero] at r1 r2 r3
    obtain ⟨hp3, hpc⟩ := hp p (List.mem_cons_self ..)
    have wps : rWs f pp ee (V.2.2.1 32) L env (sEv ps) := fun w q => hw w (by rw [sEv_cons]; exact List.mem_append_right _ q)
    have IH := r_valL X F hc E H En Y hl hl2 hn hto he hs e14 hl3 ps t (i + 1) (x + (sg p.2.1).toInt64 * xmPt T f pp ee h env vs p) (by omega) (by omega) (fun q p' e => by
      have := hr (q + 1) p' e
      rw [show i + 1 + q = i + (q + 1) by omega]
      exact this) (fun q hq => hp q (List.mem_cons_of_mem _ hq)) wps (fun q hq => hk q (List.mem_cons_of_mem _ hq))
    have zi : zin (nI i) 2100 = true := zin_n (by omega) (by decide)
    have ci : (nI i).toNatClampNeg = i := nI_clamp (by omega)
    have hw' := X.1
    rw [l_valueOf_10, zgd_at (zin_n hs (by decide)), nI_clamp (by omega), F.1 14 (by decide), e14, if_neg (nI_ge (show i < l by omega) (by omega)), zgd_at zi, ci, F.1 16 (by decide), r1]
    have fin : ∀ y, y = xmPt T f pp ee h env vs p → j_valueOf_131 T (zF h0 qs ks T (n + 2)) h0 qs ks (l_valueOf_10 T (zF h0 qs ks T (n + 2)) h0 qs ks t) (nI s) k x (nI i) y τ = zcl' (zF h0 qs ks T (n + 2) 123 [.ref h0, .long ((p :: ps).foldl (fun x p => x + (sg p.2.1).toInt64 * xmPt T f pp ee h env vs p) x)] τ) fun r5 s3 => some (some (.long r5), s3) := fun y hy => by
      unfold j_valueOf_131
      rw [zgd_at zi, ci, F.1 17 (by decide), r2, nI_p1, hy]
      exact IH
    by_cases c0 : p.1 = 0
    · rw [if_pos (show nI p.1 = (0 : Int32) by rw [c0]; rfl), zgd_at zi, F.1 18 (by decide), r3]
      obtain ⟨aa, ea, q1, q2, q3, q4⟩ := hw'.we hpc
      have hlen := hw'.2.2.2.2.2.2
      have nn := rn_num (h0 := h0) (qs := qs) (ks := ks) (T := T) (n := n + 1) (τ := τ) (c := p.2.2) (a := aa) (e := ea) (f := f) (by omega) (by rw [F.1 4 (by decide), hw'.pl (by omega)]; exact q1) (by rw [F.1 5 (by decide), hw'.en hpc]; exact q2) (by rw [F.1 1 (by decide)]; exact hw'.1) (by omega) (by omega) (by have := X.2.2.2; omega)
      have en : nVal f ea T aa 0 = nW T f pp ee p.2.2 := by unfold nW; rw [q1, q2, nI_clamp (by omega), nI_clamp (by omega)]
      rw [nn, zci_at, en]
      exact fin _ (by unfold xmPt; rw [if_pos c0])
    · have hlen := hw'.2.2.2.2.2.2
      rw [if_neg (show ¬ nI p.1 = (0 : Int32) from fun z => c0 (nI_inj' (b := 0) (by omega) (by omega) z)), zgd_at zi, F.1 18 (by decide), r3, zgd_at (zin_n (by omega) (by decide)), nI_clamp (by omega), F.1 32 (by decide)]
      have hu := hw p.2.2 (xsEv (List.mem_cons_self ..) c0)
      obtain ⟨j, g1, g2, g3, g4⟩ := r_get (n := n + 1) (h0 := h0) (qs := qs) (ks := ks) (T := T) F hc E En hn hto X.2.2.1.1 X.2.2.1.2 (by have := X.2.2.2; omega) hu
      have tv := (En.get hu).2.2
      rw [hk p (List.mem_cons_self ..) c0] at tv
      have zj : zin (nI j) 260000 = true := zin_n (by omega) (by decide)
      have cj : (nI j).toNatClampNeg = j := nI_clamp (by omega)
      rw [g1, zci_at, zgd_at zi, F.1 16 (by decide), r1]
      by_cases c1 : p.1 = 1
      · rw [if_pos (show nI p.1 = (1 : Int32) by rw [c1]; rfl), zgd_at zj, cj, g4]
        exact fin _ (by unfold xmPt; rw [if_neg c0, if_pos c1])
      · rw [if_neg (show ¬ nI p.1 = (1 : Int32) from fun z => c1 (nI_inj' (b := 1) (by omega) (by omega) z)), zgd_at zi]
        by_cases c2 : p.1 = 2
        · rw [if_pos (show nI p.1 = (2 : Int32) by rw [c2]; rfl), zgd_at zj, cj, g4]
          have hin : xmIn h.2.1.length (xmGet f pp ee env vs p.2.2).2 := by
            rw [c2] at tv
            rcases tv with ⟨w, -⟩ | ⟨w, -⟩ | ⟨-, -, w⟩ | ⟨w, -⟩ | ⟨w, -⟩
            · exact absurd w (by decide)
            · exact absurd w (by decide)
            · exact w
            · exact absurd w (by decide)
            · exact absurd w (by decide)
          obtain ⟨m, hm, em⟩ := hin
          obtain ⟨y, ey⟩ : ∃ y, h.2.1[m]? = some y := ⟨_, List.getElem?_eq_getElem hm⟩
          rw [em, xmNi_32, zgd_at (zin_n (by omega) (by decide)), nI_clamp (by omega), ((Y.1 m y ey).1).2]
          refine fin _ ?_
          unfold xmPt xmLn
          rw [if_neg c0, if_neg c1, if_pos c2, em, xmNi_ix (by omega), List.getD_eq_getElem?_getD, ey]
          rfl
        · rw [if_neg (show ¬ nI p.1 = (2 : Int32) from fun z => c2 (nI_inj' (b := 2) (by omega) (by omega) z)), zgd_at zj, cj, g4]
          have c3 : p.1 = 3 := by omega
          have hin : (xmGet f pp ee env vs p.2.2).2 = -1 ∨ xmIn h.2.2.length (xmGet f pp ee env vs p.2.2).2 := by
            rw [c3] at tv
            rcases tv with ⟨w, -⟩ | ⟨w, -⟩ | ⟨w, -⟩ | ⟨-, -, w⟩ | ⟨w, -⟩
            · exact absurd w (by decide)
            · exact absurd w (by decide)
            · exact absurd w (by decide)
            · exact w
            · exact absurd w (by decide)
          rw [r_size (n := n + 1) H Y hl hin, zci_at]
          refine fin _ ?_
          unfold xmPt
          rw [if_neg c0, if_neg c1, if_neg c2]
          rfl
/-- bounded() -/
theorem r_bou {x : Int64} (h191 : τ.1 191 = 0) : zF h0 qs ks T (n + 1) 123 [.ref h0, .long x] τ = some (some (.long x), if xmB x = true then τ else zI τ 191 2) := by
  rw [zE_bounded]
  unfold b_bounded
  have e1 : (0 < lg_cmp x 1099511627776) ↔ 1099511627776 < x.toInt := by rw [l_gt]; rfl
  have e2 : (0 ≤ lg_cmp x (-1099511627776)) ↔ -1099511627776 ≤ x.toInt := by rw [l_ge]; rfl
  have J : j_bounded_16 T (zF h0 qs ks T n) h0 qs ks x τ = some (some (.long x), zI τ 191 2) := by
    unfold j_bounded_16
    rw [if_pos h191]
    rfl
  by_cases c1 : 1099511627776 < x.toInt
  · rw [if_pos (e1.mpr c1), J, if_neg (fun z => by have := xmB_iff.mp z; omega)]
  · rw [if_neg (fun z => c1 (e1.mp z))]
    by_cases c2 : -1099511627776 ≤ x.toInt
    · rw [if_pos (e2.mpr c2), if_pos (xmB_iff.mpr ⟨c2, by omega⟩)]
    · rw [if_neg (fun z => c2 (e2.mp z)), J, if_neg (fun z => by have := xmB_iff.mp z; omega)]
/-- **valueOf()** -/
theorem r_val (X : rXs T len cnt S P kk pp ee f L V) (F : xFm V τ) (hc : c ≤ 260000) (E : rEc (V.2.2.1 32) τ c env vs k) (H : xmH cnt kk f pp ee tE tN (V.2.2.1 32) L h) (En : xmEn tE tN h env vs) (Y : rYl τ h) (hl : h.2.2.length ≤ 20000) (hl2 : h.2.1.length ≤ 20006) (hn : env.Nodup) (hto : ∀ u, u ∈ env → rTo (V.2.2.1 32) L u) (he : env.length ≤ 100) (h191 : τ.1 191 = 0) {s : Nat} {t : tS} (hs : rSm pp V S P s t) (h3 : pO3 t.2) (hg : sGd cnt t.2) (hw : rWs f pp ee (V.2.2.1 32) L env (sEv t.2)) (hk : gSo f pp ee tN env t.2) : zF h0 qs ks T (n + 3) 125 [.ref h0, .int (nI s), .int k] τ = some (some (.long (xmSm T f pp ee h env vs t.2)), if xmB (xmSm T f pp ee h env vs t.2) = true then τ else zI τ 191 2) := by
  obtain ⟨s1, -, a, s2, s3, s4, s5⟩ := hs
  have := X.2.1
  have := X.2.2.2
  rw [zE_valueOf]
  unfold b_valueOf
  rw [zgd_at (zin_n (by omega) (by decide)), nI_clamp (by omega), F.1 13 (by decide), s2, r_valL (n := n) (l := a + t.2.length) X F hc E H En Y hl hl2 hn hto he (by omega) s3 (by omega) t.2 T a 0 rfl (by omega) (fun q p e => s5 q p e) (fun p hp => ⟨h3 p hp, hg.1 p hp⟩) hw hk, r_bou h191]
  rfl
end XRV
