/-! the reference: decide(), its loop over what must be SO -/
/-- the least place where something is not so; -1 where all is -/
def plQ (pp : Nat → Int32) (so : gNd × Nat → Prop) (l : List (gNd × Nat)) (p : Int32) : Prop := (p = -1 ∧ ∀ x, x ∈ l → so x) ∨ ∃ x, x ∈ l ∧ ¬ so x ∧ p = pp x.1.2.1 ∧ ∀ y, y ∈ l → ¬ so y → pp x.1.2.1 ≤ pp y.1.2.1
/-- kinds of a need's rows -/
def kdQ (x : gNd × Nat) : Prop := (x.2 = 0 ∧ x.1.2.2.1 = 0) ∨ ((x.2 = 1 ∨ x.2 = 2 ∨ x.2 = 3) ∧ (x.2 = x.1.2.2.1 ∨ (x.1.2.2.1 = 3 ∧ x.2 = 2)))
section DCS
variable {ks : Nat → Nat} {qs : List Nat} {T n h0 len cnt lo N Ss P A : Nat} {Γ : uGm} {V0 τ τ' : zSt} {v v' : Nat → Nat} {CD : tT → Nat → Prop} {L : List Nat} {kk pp ee f R R6 : Nat → Int32} {B : Int} {l2 : List (gNd × Nat)} {al : gAl} {so : gNd × Nat → Prop} {tN : Nat → tY} {qq : Nat → gTy}
theorem uNr.q {i : Nat} {x : gNd × Nat} (h : uRq τ τ') (w : uNr CD pp V0 Ss P Γ v τ i x) : uNr CD pp V0 Ss P Γ v τ' i x := by
  obtain ⟨a, b, c, d, ⟨⟨ch, e1, e2, e3⟩, e4⟩, e5⟩ := w
  refine ⟨a, by rw [h.r]; exact b, by rw [h.r (k := 80)]; exact c, by rw [h.r]; exact d, ⟨⟨ch, e1, e2, ?_⟩, ?_⟩, by rw [h.r]; exact e5⟩
  · rw [h.r (k := 82)]; exact uEv.q h _ _ e3
  · rw [h.r (k := 83)]; exact uGo.q h _ _ e4
theorem uTd.q {env : List Nat} {q : Nat → gTy} (h : uTd Γ tN env v τ q) (r : uRq τ τ') (e : ∀ k, k = 66 ∨ k = 67 ∨ k = 74 → τ'.2.2.1 k = τ.2.2.1 k) : uTd Γ tN env v τ' q := ⟨fun u hu => by
  obtain ⟨t, a1, a2⟩ := h.1 u hu
  exact ⟨t, by rw [e 74 (by decide)]; exact a1, uTy.q r _ _ _ a2⟩, fun x hx hw => by
  unfold uIs
  rw [e 66 (by decide), e 67 (by decide)]
  exact h.2 x hx hw⟩
theorem plQ.nx {p : Int32} {x : gNd × Nat} {l : List (gNd × Nat)} (hp0 : ∀ w, 0 ≤ pp w) (h : plQ pp so l p) : (so x → plQ pp so (l ++ [x]) p) ∧ (p ≠ -1 → p ≤ pp x.1.2.1 → plQ pp so (l ++ [x]) p) ∧ (¬ so x → (p = -1 ∨ ¬ p ≤ pp x.1.2.1) → plQ pp so (l ++ [x]) (pp x.1.2.1)) := by
  refine ⟨fun hs => ?_, fun h1 h2 => ?_, fun hs hp => ?_⟩
  · rcases h with ⟨h1, h2⟩ | ⟨z, z1, z2, z3, z4⟩
    · refine Or.inl ⟨h1, fun y hy => ?_⟩
      rcases List.mem_append.mp hy with hy | hy
      · exact h2 y hy
      · rw [List.mem_singleton.mp hy]; exact hs
    · refine Or.inr ⟨z, List.mem_append_left _ z1, z2, z3, fun y hy hn => ?_⟩
      rcases List.mem_append.mp hy with hy | hy
      · exact z4 y hy hn
      · rw [List.mem_singleton.mp hy] at hn; exact absurd hs hn
  · rcases h with ⟨h3, -⟩ | ⟨z, z1, z2, z3, z4⟩
    · exact absurd h3 h1
    · refine Or.inr ⟨z, List.mem_append_left _ z1, z2, z3, fun y hy hn => ?_⟩
      rcases List.mem_append.mp hy with hy | hy
      · exact z4 y hy hn
      · rw [List.mem_singleton.mp hy, ← z3]; exact h2
  · refine Or.inr ⟨x, List.mem_append_right _ (List.mem_singleton_self _), hs, rfl, fun y hy hn => ?_⟩
    rcases List.mem_append.mp hy with hy | hy
    · rcases h with ⟨-, h2⟩ | ⟨z, z1, z2, z3, z4⟩
      · exact absurd (h2 y hy) hn
      · have q := z4 y hy hn
        rw [← z3] at q
        rcases hp with hp | hp
        · have := hp0 z.1.2.1
          rw [← z3, hp] at this
          exact absurd this m1_lt.1
        · rw [Int32.le_iff_toInt_le] at hp q ⊢
          omega
    · rw [List.mem_singleton.mp hy]; exact Int32.le_refl _
/-- what decide() leaves: longs, the Machine's rows -/
def zLg (V0 τ : zSt) : Prop := (∀ k, k ≠ 64 → k ≠ 140 → τ.2.1 k = V0.2.1 k) ∧ (∀ k, 101 ≤ k → τ.2.2.1 k = V0.2.2.1 k) ∧ ∀ k, 100 ≤ k → τ.2.2.2 k = V0.2.2.2 k
theorem zLg.tr {a b c : zSt} (h : zLg a b) (h' : zLg b c) : zLg a c := ⟨fun k h1 h2 => (h'.1 k h1 h2).trans (h.1 k h1 h2), fun k hk => (h'.2.1 k hk).trans (h.2.1 k hk), fun k hk => (h'.2.2 k hk).trans (h.2.2 k hk)⟩
theorem uFr.lg {v : Nat → Nat} {a b : zSt} (f : uFr v a b) : zLg a b := ⟨fun k h1 _ => f.2.1 k h1, fun k hk => funext fun i => f.n (by unfold uAy; omega) (by unfold uCo; repeat rw [if_neg (by omega)]), fun k hk => funext fun i => f.2.2.2 k i (fun c hc => by
  unfold uCl at hc
  rw [if_neg (by omega), if_neg (by omega)] at hc
  cases hc)⟩
theorem qF.lg {a b : zSt} (q : qF a b) : zLg a b := ⟨fun k h1 h2 => q.2.1 k (fun z => by simp only [List.mem_cons, List.not_mem_nil, or_false] at z; omega), fun k hk => q.2.2.1 k (fun z => by simp only [List.mem_cons, List.not_mem_nil, or_false] at z; omega), fun k hk => q.2.2.2 k (fun z => by simp only [List.mem_cons, List.not_mem_nil, or_false] at z; omega)⟩
theorem qF6.lg {a b : zSt} (q : qF6 a b) : zLg a b := ⟨fun k h1 h2 => q.2.1 k (fun z => by simp only [List.mem_cons, List.not_mem_nil, or_false] at z; omega), fun k hk => q.2.2.1 k (fun z => by simp only [List.mem_cons, List.not_mem_nil, or_false] at z; omega), fun k hk => q.2.2.2 k (fun z => by simp only [List.mem_cons, List.not_mem_nil, or_false] at z; omega)⟩
/-- what stands fast in the loop; v may grow -/
def sCx (T len cnt lo N Ss P A : Nat) (L : List Nat) (V0 τ : zSt) (kk pp ee f R R6 : Nat → Int32) (CD : tT → Nat → Prop) (Γ : uGm) (v : Nat → Nat) (B : Int) (qs : List Nat) (al : gAl) (l2 : List (gNd × Nat)) (tN : Nat → tY) (qq : Nat → gTy) : Prop := qCx T len cnt lo N Ss P A L τ kk pp ee f CD Γ v B qs ∧ uVn τ v ∧ (∃ ns, rCo τ ns) ∧ ((∀ i x, l2[i]? = some x → uNr CD pp V0 Ss P Γ v τ i x) ∧ uTd Γ tN [] v τ qq) ∧ ((∀ k, k < 40 → τ.2.2.1 k = V0.2.2.1 k) ∧ zLg V0 τ) ∧ (alV Γ τ = al ∧ τ.2.2.1 32 = R ∧ τ.2.2.1 66 = R6)
/-- one question -/
theorem r_so {j : Nat} {x : gNd × Nat} (C : sCx T len cnt lo N Ss P A L V0 τ kk pp ee f R R6 CD Γ v B qs al l2 tN qq) (hn : 1300 ≤ n) (hx : l2[j]? = some x) (hg : nGd T cnt kk pp ee f R L Γ B x.1) (hk : kdQ x) (h110 : v 110 < 12000) : ∃ τ' v' b, zF h0 qs ks T (n + 7) 109 [.ref h0, .int (nI j)] τ = some (some (.int (b01 b)), τ') ∧ sCx T len cnt lo N Ss P A L V0 τ' kk pp ee f R R6 CD Γ v' B qs al l2 tN qq ∧ (b = true ↔ nSo T f pp ee R R6 al Γ x) ∧ (v' 110 ≤ v 110 + 1 ∧ v' 123 = v 123) ∧ (∀ k, k ∉ [63, 110, 126, 131, 138, 139, 141, 144, 152, 153, 154, 155] → τ'.1 k = τ.1 k) ∧ ∀ k, 79 ≤ k → k ≤ 84 → ∀ i, i < v 123 → τ'.2.2.1 k i = τ.2.2.1 k i := by
  obtain ⟨X, hV, ⟨ns, hco⟩, ⟨hN, hTd⟩, ⟨h40, hlg⟩, eal, e32, e66⟩ := C
  have hxr := hN j x hx
  rw [← e32] at hg
  rcases hk with ⟨k1, k2⟩ | ⟨k1, k2⟩
  · obtain ⟨x, kd⟩ := x
    have k1 : kd = 0 := k1
    subst k1
    obtain ⟨τ1, τ', ns', b, a1, ⟨a2, a3, a4⟩, a5, a6, a7⟩ := r_so0 (h0 := h0) (qs := qs) (ks := ks) (n := n) X hn hV h110 hco hxr hg k2
    have hle := uUp_le v 110
    have q1 := a5.q
    have lo1 : ∀ k, k < 40 → τ'.2.2.1 k = τ.2.2.1 k := fun k hk => (a5.lo hk).trans (a4 k (by omega) (by omega) (by omega))
    have kr1 : uKr Γ τ τ1 := ⟨a4 74 (by decide) (by decide) (by decide), by rw [a4 66 (by decide) (by decide) (by decide)], fun x _ z => by
      unfold uIs at z ⊢
      rw [a4 66 (by decide) (by decide) (by decide), a4 67 (by decide) (by decide) (by decide)]
      exact z⟩
    have td1 : uTd Γ tN [] (uUp v 110) τ' qq := (hTd.up hle a3 kr1 (uUp_ne v (by decide))).q q1 (fun k hk => a5.2.2.1 k (fun z => by simp only [List.mem_cons, List.not_mem_nil, or_false] at z; omega))
    have r1 : ∀ k, k = 61 ∨ k = 65 ∨ k = 66 → τ'.2.2.1 k = τ.2.2.1 k := fun k hk => (a5.2.2.1 k (fun z => by simp only [List.mem_cons, List.not_mem_nil, or_false] at z; omega)).trans (a4 k (by omega) (by omega) (by omega))
    refine ⟨τ', uUp v 110, b, a1, ⟨⟨X.1.lo lo1, X.2.1.q (fun k _ z => lo1 k (by omega)), fun k => ?_, by rw [lo1 32 (by decide)]; exact X.2.2.2.1, X.2.2.2.2⟩, fun k hk => ?_, ⟨ns', a6⟩, ⟨fun i y hy => ((hN i y hy).up hle a3).q q1, td1⟩, ⟨fun k hk => (lo1 k hk).trans (h40 k hk), hlg.tr (a3.lg.tr a5.lg)⟩, ?_, (lo1 32 (by decide)).trans e32, (r1 66 (by decide)).trans e66⟩, ?_, ⟨by rw [uUp_at]; exact Nat.le_refl _, uUp_ne v (by decide)⟩, fun k hk => ?_, fun k hk1 hk2 i hi => ?_⟩
    · unfold uUp
      by_cases z : k = 110
      · rw [if_pos z, z]; show v 110 + 1 ≤ 12000; omega
      · rw [if_neg z]; exact X.2.2.1 k
    · obtain ⟨b1, b2⟩ := a2 k hk
      refine ⟨(a5.1 k (fun z => ?_)).trans b1, b2⟩
      simp only [List.mem_cons, List.not_mem_nil, or_false] at z
      unfold uCt at hk
      simp only [List.mem_cons, List.not_mem_nil, or_false] at hk
      omega
    · rw [← eal]
      funext kp i
      unfold alV
      rw [r1 65 (by decide), r1 61 (by decide)]
    · rw [a7, eal, e32, e66]
    · rw [a5.1 k (fun z => hk (by simp only [List.mem_cons, List.not_mem_nil, or_false] at z ⊢; omega))]
      simp only [List.mem_cons, List.not_mem_nil, or_false, not_or] at hk
      by_cases z : k ∈ uCt
      · obtain ⟨b1, -⟩ := a2 k z
        rw [b1, uUp_ne v (by omega)]
        exact ((hV k z).1).symm
      · exact a3.1 k z (by omega) (by omega)
    · rw [q1.1 k (by omega) hk2 (by omega) (by omega) (by omega) (by omega)]
      rw [a4 k (by omega) (by omega) (by omega)]
  · obtain ⟨τ', ns', b, a1, a2, a3, a4⟩ := r_soS (h0 := h0) (qs := qs) (ks := ks) (n := n) X hn h40 hco hxr hg k1 k2
    have q1 := a2.q
    refine ⟨τ', v, b, a1, ⟨X.ro (fun k hk => a2.lo hk), fun k hk => ?_, ⟨ns', a3⟩, ⟨fun i y hy => (hN i y hy).q q1, hTd.q q1 (fun k hk => a2.2.2.1 k (fun z => by simp only [List.mem_cons, List.not_mem_nil, or_false] at z; omega))⟩, ⟨fun k hk => (a2.lo hk).trans (h40 k hk), hlg.tr a2.lg⟩, ?_, (a2.lo (by decide)).trans e32, (a2.2.2.1 66 (by decide)).trans e66⟩, ?_, ⟨Nat.le_add_right _ _, rfl⟩, fun k hk => ?_, fun k hk1 hk2 i hi => ?_⟩
    · obtain ⟨b1, b2⟩ := hV k hk
      refine ⟨(a2.1 k (fun z => ?_)).trans b1, b2⟩
      simp only [List.mem_cons, List.not_mem_nil, or_false] at z
      unfold uCt at hk
      simp only [List.mem_cons, List.not_mem_nil, or_false] at hk
      omega
    · rw [← eal]
      exact alV.q q1 (a2.2.2.1 65 (by decide))
    · rw [a4, eal, e32, e66]
    · exact a2.1 k (fun z => hk (by simp only [List.mem_cons, List.not_mem_nil, or_false] at z ⊢; omega))
    · rw [q1.1 k (by omega) hk2 (by omega) (by omega) (by omega) (by omega)]
set_option maxHeartbeats 1000000 in
/-- **the least place where something is not SO** -/
theorem r_dc236 (hn : 1300 ≤ n) (hp0 : ∀ w, 0 ≤ pp w) (hl2 : l2.length ≤ 2100) (hg : ∀ x, x ∈ l2 → nGd T cnt kk pp ee f R L Γ B x.1 ∧ kdQ x) : ∀ (d j t : Nat) (v : Nat → Nat) (τ : zSt), j + d = l2.length → d < t → v 123 = l2.length → v 110 + d ≤ 12000 → sCx T len cnt lo N Ss P A L V0 τ kk pp ee f R R6 CD Γ v B qs al l2 tN qq → plQ pp (nSo T f pp ee R R6 al Γ) (l2.take j) (τ.1 69) → ∃ τ' v', l_decide_236 T (zF h0 qs ks T (n + 7)) h0 qs ks t (nI j) τ = some (none, zI τ' 68 (if 0 ≤ τ'.1 69 then 0 else 1)) ∧ sCx T len cnt lo N Ss P A L V0 τ' kk pp ee f R R6 CD Γ v' B qs al l2 tN qq ∧ plQ pp (nSo T f pp ee R R6 al Γ) l2 (τ'.1 69) ∧ ∀ k, k ∉ [63, 69, 110, 126, 131, 138, 139, 141, 144, 152, 153, 154, 155] → τ'.1 k = τ.1 k
  | 0, j, t, v, τ, hj, ht, hv, h110, C, hp => by
    obtain ⟨t, rfl⟩ : ∃ t', t = t' + 1 := ⟨t - 1, by omega⟩
    have e123 : τ.1 123 = nI l2.length := by rw [(C.2.1 123 (by decide)).1, hv]
    rw [l_decide_236, e123, if_pos (nI_le (by omega) (by omega))]
    refine ⟨τ, v, ?_, C, by rw [List.take_of_length_le (by omega)] at hp; exact hp, fun _ _ => rfl⟩
    by_cases z : 0 ≤ τ.1 69
    · rw [if_pos z, if_pos z]; rfl
    · rw [if_neg z, if_neg z]; rfl
  | d + 1, j, t, v, τ, hj, ht, hv, h110, C, hp => by
    obtain ⟨t, rfl⟩ : ∃ t', t = t' + 1 := ⟨t - 1, by omega⟩
    have hjl : j < l2.length := by omega
    have ej := List.getElem?_eq_getElem hjl
    have e123 : τ.1 123 = nI l2.length := by rw [(C.2.1 123 (by decide)).1, hv]
    have e84 : τ.2.2.1 84 j = pp l2[j].1.2.1 := (C.2.2.2.1.1 j _ ej).2.2.2.2.2
    obtain ⟨g1, g2⟩ := hg _ (List.mem_of_getElem? ej)
    have tk : l2.take (j + 1) = l2.take j ++ [l2[j]] := by rw [List.take_add_one, ej]; rfl
    obtain ⟨n1, n2, n3⟩ := plQ.nx (x := l2[j]) hp0 hp
    rw [l_decide_236, e123, if_neg (nI_ge (by omega) (by omega))]
    -- on with the next
    have next : ∀ (v1 : Nat → Nat) (τ1 : zSt), v1 123 = l2.length → v1 110 + d ≤ 12000 → sCx T len cnt lo N Ss P A L V0 τ1 kk pp ee f R R6 CD Γ v1 B qs al l2 tN qq → plQ pp (nSo T f pp ee R R6 al Γ) (l2.take j ++ [l2[j]]) (τ1.1 69) → (∀ k, k ∉ [63, 69, 110, 126, 131, 138, 139, 141, 144, 152, 153, 154, 155] → τ1.1 k = τ.1 k) → ∃ τ' v', j_decide_282 T (zF h0 qs ks T (n + 7)) h0 qs ks (l_decide_236 T (zF h0 qs ks T (n + 7)) h0 qs ks t) (nI j) τ1 = some (none, zI τ' 68 (if 0 ≤ τ'.1 69 then 0 else 1)) ∧ sCx T len cnt lo N Ss P A L V0 τ' kk pp ee f R R6 CD Γ v' B qs al l2 tN qq ∧ plQ pp (nSo T f pp ee R R6 al Γ) l2 (τ'.1 69) ∧ ∀ k, k ∉ [63, 69, 110, 126, 131, 138, 139, 141, 144, 152, 153, 154, 155] → τ'.1 k = τ.1 k := fun v1 τ1 c1 c2 c3 c4 c5 => by
      unfold j_decide_282
      rw [nI_p1]
      obtain ⟨τ', v', a1, a2, a3, a4⟩ := r_dc236 hn hp0 hl2 hg d (j + 1) t v1 τ1 (by omega) (by omega) c1 c2 c3 (by rw [tk]; exact c4)
      exact ⟨τ', v', a1, a2, a3, fun k hk => (a4 k hk).trans (c5 k hk)⟩
    -- the question
    have ask : (τ.1 69 = -1 ∨ ¬ τ.1 69 ≤ pp l2[j].1.2.1) → ∃ τ' v', j_decide_264 T (zF h0 qs ks T (n + 7)) h0 qs ks (l_decide_236 T (zF h0 qs ks T (n + 7)) h0 qs ks t) (nI j) τ = some (none, zI τ' 68 (if 0 ≤ τ'.1 69 then 0 else 1)) ∧ sCx T len cnt lo N Ss P A L V0 τ' kk pp ee f R R6 CD Γ v' B qs al l2 tN qq ∧ plQ pp (nSo T f pp ee R R6 al Γ) l2 (τ'.1 69) ∧ ∀ k, k ∉ [63, 69, 110, 126, 131, 138, 139, 141, 144, 152, 153, 154, 155] → τ'.1 k = τ.1 k := fun hpl => by
      obtain ⟨τ1, v1, b, a1, a2, a3, ⟨a4, a5⟩, a6, a7⟩ := r_so (h0 := h0) (n := n) C hn ej g1 g2 (by omega)
      unfold j_decide_264
      rw [a1, zci_at]
      have e69 : τ1.1 69 = τ.1 69 := a6 69 (by decide)
      have fr : ∀ k, k ∉ [63, 69, 110, 126, 131, 138, 139, 141, 144, 152, 153, 154, 155] → τ1.1 k = τ.1 k := fun k hk => a6 k (fun z => hk (by simp only [List.mem_cons, List.not_mem_nil, or_false] at z ⊢; omega))
      cases hb : b with
      | true =>
        rw [if_neg (show ¬ b01 true = 0 by decide)]
        exact next v1 τ1 (a5.trans hv) (by omega) a2 (by rw [e69]; exact n1 (a3.mp hb)) fr
      | false =>
        have ns : ¬ nSo T f pp ee R R6 al Γ l2[j] := fun z => by
          have := a3.mpr z
          rw [hb] at this
          cases this
        rw [if_pos (show b01 false = 0 from rfl), zgd_at (zin_n (show j < 2100 by omega) (by decide)), nI_clamp (show j < 2 ^ 31 by omega), a7 84 (by decide) (by decide) j (by omega), e84]
        simp only [zlet]
        refine next v1 (zI τ1 69 (pp l2[j].1.2.1)) (a5.trans hv) (by omega) ?_ (n3 ns hpl) (fun k hk => (if_neg (fun e => hk (by rw [e]; decide))).trans (fr k hk))
        obtain ⟨y1, y2, y3, y4, y5, y6⟩ := a2
        exact ⟨y1.ro (fun _ _ => rfl), fun k hk => ⟨(if_neg (fun e => by rw [e] at hk; exact absurd hk (by decide))).trans (y2 k hk).1, (y2 k hk).2⟩, y3.imp (fun ns w => w.cg rfl rfl rfl), ⟨fun i y hy => uNr.q (τ := τ1) (τ' := zI τ1 69 (pp l2[j].1.2.1)) ⟨fun _ _ _ _ _ _ _ => rfl, rfl, rfl⟩ (y4.1 i y hy), y4.2.q (τ := τ1) (τ' := zI τ1 69 (pp l2[j].1.2.1)) ⟨fun _ _ _ _ _ _ _ => rfl, rfl, rfl⟩ (fun _ _ => rfl)⟩, y5, y6⟩
    by_cases z : τ.1 69 < 0
    · rw [if_pos z]
      refine ask (Or.inl ?_)
      rcases hp with ⟨q, -⟩ | ⟨y, -, -, q, -⟩
      · exact q
      · rw [q] at z
        exact absurd z (fun w => by
          have := hp0 y.1.2.1
          rw [Int32.le_iff_toInt_le] at this
          rw [Int32.lt_iff_toInt_lt] at w
          omega)
    · rw [if_neg z, zgd_at (zin_n (show j < 2100 by omega) (by decide)), nI_clamp (show j < 2 ^ 31 by omega), e84]
      by_cases y : τ.1 69 ≤ pp l2[j].1.2.1
      · rw [if_pos y]
        exact next v τ hv (by omega) C (n2 (fun e => z (by rw [e]; exact m1_lt.2)) y) (fun _ _ => rfl)
      · rw [if_neg y]
        exact ask (Or.inr y)
end DCS
