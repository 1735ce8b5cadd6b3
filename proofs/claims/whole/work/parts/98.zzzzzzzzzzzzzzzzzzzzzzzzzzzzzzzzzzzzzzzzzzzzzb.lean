/-! ROOM: chains of calls -/
/-- calls side by side from the type U on (i steps); Y is left, with at most r steps -/
def chR : tY → Nat → List (tY × Nat × Nat × Nat) → tY → Nat → Prop
  | U, i, [], Y, r => U = Y ∧ r ≤ i
  | U, i, c :: T, Y, r => (c.1 = U ∧ 0 < c.2.1 ∧ c.2.2.1 ≤ i) ∧ chR (yRs c.2.1 U) (i + c.2.1) T Y r
theorem chR_ap (c : tY × Nat × Nat × Nat) (h0 : 0 < c.2.1) (r' : Nat) (hr : r' ≤ c.2.2.1 + c.2.1) : ∀ (T : List (tY × Nat × Nat × Nat)) (U : tY) (i : Nat), chR U i T c.1 c.2.2.1 → chR U i (T ++ [c]) (yRs c.2.1 c.1) r'
  | [], U, i, h => by
    obtain ⟨h1, h2⟩ : U = c.1 ∧ c.2.2.1 ≤ i := h
    exact ⟨⟨h1.symm, h0, h2⟩, by rw [h1], by omega⟩
  | d :: T, U, i, h => by
    obtain ⟨h1, h2⟩ := h
    exact ⟨h1, chR_ap c h0 r' hr T _ _ h2⟩
/-- nothing comes behind a leaf -/
theorem yRs_lq : ∀ n, yRs n (.leaf : tY) = .leaf
  | 0 => rfl
  | n + 1 => yRs_lq n
/-- what is left is smaller -/
theorem yZ_ls {Y : tY} {k : Nat} (h0 : 0 < k) (hk : Y ≠ .leaf) : yZ (yRs k Y) < yZ Y := by
  obtain ⟨k, rfl⟩ : ∃ k', k = k' + 1 := ⟨k - 1, by omega⟩
  have h1 := yZ_rs k (yR Y)
  show yZ (yRs k (yR Y)) < yZ Y
  cases Y with
  | leaf => exact absurd rfl hk
  | inner g u v a b =>
    have h1 : yZ (yRs k b) ≤ yZ b := h1
    show yZ (yRs k b) < yZ a + yZ b + 1
    omega
theorem yK_nl {Y : tY} (h : yK Y = 1) : Y ≠ .leaf := fun z => by rw [z] at h; exact absurd h (by decide)
theorem yZ_lt {Y : tY} {k : Nat} (h0 : 0 < k) (hk : yK (yRs k Y) = 1) : yZ (yRs k Y) < yZ Y := yZ_ls h0 (fun z => by
  rw [z, yRs_lq] at hk
  exact absurd hk (by decide))
section CHX
variable {tE tN : Nat → tY} {Ui : List ((Nat × Nat) × Nat)} {L : List (tY × Nat × Nat × Nat)}
/-- **a chain of calls from a unit's type to any called type** -/
theorem ch_ex {M : Nat} (hc : ∀ c, c ∈ L → 0 < c.2.1 → yK c.1 = 1 ∧ chE tE tN Ui L c.1 c.2.2.1) (hM : ∀ c, c ∈ L → yZ c.1 ≤ M) : ∀ (n : Nat) (Y : tY) (r : Nat), yK Y = 1 → M < yZ Y + n → chE tE tN Ui L Y r → ∃ x, x ∈ Ui ∧ ∃ T, (∀ c, c ∈ T → c ∈ L) ∧ chR (uY tE tN x.1) x.2 T Y r := by
  intro n
  induction n with
  | zero =>
    intro Y r hk hn h
    rcases h with ⟨x, h1, h2, h3⟩ | ⟨c, h1, h2, h3, h4⟩
    · exact ⟨x, h1, [], fun c hc => (by cases hc), h2.symm, h3⟩
    · rw [h3] at hk
      have := yZ_lt h2 hk
      have := hM c h1
      rw [h3] at hn
      omega
  | succ n ih =>
    intro Y r hk hn h
    rcases h with ⟨x, h1, h2, h3⟩ | ⟨c, h1, h2, h3, h4⟩
    · exact ⟨x, h1, [], fun c hc => (by cases hc), h2.symm, h3⟩
    · obtain ⟨k1, k2⟩ := hc c h1 h2
      rw [h3] at hk hn
      have := yZ_lt h2 hk
      obtain ⟨x, a1, T, a2, a3⟩ := ih c.1 c.2.2.1 k1 (by omega) k2
      refine ⟨x, a1, T ++ [c], fun c' hc' => (List.mem_append.mp hc').elim (a2 c') (fun z => by rw [List.mem_singleton.mp z]; exact h1), ?_⟩
      rw [h3]
      exact chR_ap c h2 r h4 T _ _ a3
end CHX
/-- how many ARGS a chain takes -/
def chN (T : List (tY × Nat × Nat × Nat)) : Nat := (T.map (fun c => c.2.1)).sum
theorem chN_cn (c : tY × Nat × Nat × Nat) (T : List (tY × Nat × Nat × Nat)) : chN (c :: T) = c.2.1 + chN T := by
  unfold chN
  rw [List.map_cons, List.sum_cons]
/-- what is left behind a chain, and its calls -/
theorem chR_to : ∀ (T : List (tY × Nat × Nat × Nat)) (U : tY) (i : Nat) (Y : tY) (r : Nat), chR U i T Y r → Y = yRs (chN T) U ∧ r ≤ i + chN T
  | [], U, i, Y, r, h => ⟨h.1.symm, h.2⟩
  | c :: T, U, i, Y, r, h => by
    obtain ⟨h1, h2⟩ := chR_to T _ _ _ _ h.2
    rw [chN_cn]
    refine ⟨by rw [h1, ← yRs_ad], by omega⟩
/-- calls of a chain are all different -/
theorem chR_nd : ∀ (T : List (tY × Nat × Nat × Nat)) (U : tY) (i : Nat) (Y : tY) (r : Nat), chR U i T Y r → Y ≠ .leaf → T.Nodup ∧ ∀ c, c ∈ T → yZ Y < yZ c.1 ∧ yZ c.1 ≤ yZ U
  | [], _, _, _, _, _, _ => ⟨List.nodup_nil, fun c hc => by cases hc⟩
  | c :: T, U, i, Y, r, h, hk => by
    obtain ⟨n1, n2⟩ := chR_nd T _ _ _ _ h.2 hk
    obtain ⟨e1, -⟩ := chR_to T _ _ _ _ h.2
    have u1 : yRs c.2.1 U ≠ .leaf := fun z => by rw [z, yRs_lq] at e1; exact hk e1
    have u0 : U ≠ .leaf := fun z => by rw [z, yRs_lq] at u1; exact u1 rfl
    have eY : Y = yRs (c.2.1 + chN T) U := by rw [yRs_ad]; exact e1
    have lt : yZ Y < yZ U := by
      rw [eY]
      exact yZ_ls (by have := h.1.2.1; omega) u0
    have l2 : ∀ d, d ∈ T → yZ d.1 < yZ U := fun d hd => Nat.lt_of_le_of_lt (n2 d hd).2 (yZ_ls h.1.2.1 u0)
    refine ⟨List.nodup_cons.mpr ⟨fun z => ?_, n1⟩, fun d hd => ?_⟩
    · have := l2 c z
      rw [h.1.1] at this
      omega
    · rcases List.mem_cons.mp hd with z | z
      · rw [z, h.1.1]; exact ⟨lt, Nat.le_refl _⟩
      · exact ⟨(n2 d z).1, Nat.le_of_lt (l2 d z)⟩
/-- a chain has a fourth as many calls as it takes ARGS -/
theorem chN_4 : ∀ T : List (tY × Nat × Nat × Nat), (∀ c, c ∈ T → c.2.1 ≤ 4) → chN T ≤ 4 * T.length
  | [], _ => Nat.le_refl _
  | c :: T, h => by
    have h1 := h c (List.mem_cons_self ..)
    have h2 := chN_4 T (fun d hd => h d (List.mem_cons_of_mem _ hd))
    rw [chN_cn, List.length_cons]
    omega
/-- what an ARG takes; a function at least what one that is told there counts -/
def kIm (wt : Nat) (y : tY) (p q : Nat) : Nat := if yK y = 1 then max (kIu wt y p q) 3352 else kIu wt y p q
theorem kIm_le (wt : Nat) (y : tY) (p q : Nat) : kIu wt y p q ≤ kIm wt y p q := by
  unfold kIm
  split
  · exact Nat.le_max_left _ _
  · exact Nat.le_refl _
theorem kIm_mo {wt : Nat} (y : tY) {p q p' q' : Nat} (hp : fCp y p q ≤ fCp y p' q') (hq : q ≤ q') : kIm wt y p q ≤ kIm wt y p' q' := by
  have := kIu_mo (wt := wt) y hp hq
  unfold kIm
  split <;> omega
/-- what k ARGS take, an ARG of type y no more than P y steps -/
def kB (wt : Nat) (P : tY → Nat) : Nat → tY → Nat → Nat
  | 0, _, _ => 0
  | k + 1, y, q => kIm wt (yL y) (P (yL y)) q + kB wt P k (yR y) (q + 1)
theorem kB_ad (wt : Nat) (P : tY → Nat) : ∀ (k l : Nat) (y : tY) (q : Nat), kB wt P (k + l) y q = kB wt P k y q + kB wt P l (yRs k y) (q + k)
  | 0, l, y, q => by
    rw [Nat.zero_add]
    show kB wt P l y q = 0 + kB wt P l y q
    omega
  | k + 1, l, y, q => by
    rw [show k + 1 + l = (k + l) + 1 by omega]
    show kIm wt (yL y) (P (yL y)) q + kB wt P (k + l) (yR y) (q + 1) = kIm wt (yL y) (P (yL y)) q + kB wt P k (yR y) (q + 1) + kB wt P l (yRs k (yR y)) (q + (k + 1))
    rw [kB_ad wt P k l (yR y) (q + 1), show q + 1 + k = q + (k + 1) by omega]
    omega
theorem kB_mo (wt : Nat) (P : tY → Nat) : ∀ (k : Nat) (y : tY) (q q' : Nat), q ≤ q' → kB wt P k y q ≤ kB wt P k y q'
  | 0, _, _, _, _ => Nat.le_refl _
  | k + 1, y, q, q', h => by
    have h1 := kIm_mo (wt := wt) (yL y) (fCp_mo (yL y) (P (yL y)) q (P (yL y)) q' (Nat.le_refl _) h) h
    have h2 := kB_mo wt P k (yR y) (q + 1) (q' + 1) (by omega)
    show kIm wt (yL y) (P (yL y)) q + kB wt P k (yR y) (q + 1) ≤ kIm wt (yL y) (P (yL y)) q' + kB wt P k (yR y) (q' + 1)
    omega
/-- **the calls of a chain take no more than the unit's parameters** -/
theorem chR_k {wt : Nat} {P : tY → Nat} : ∀ (T : List (tY × Nat × Nat × Nat)) (U : tY) (i : Nat) (Y : tY) (r : Nat), chR U i T Y r → (∀ c, c ∈ T → c.2.2.2 ≤ kB wt P c.2.1 c.1 c.2.2.1) → kSm T ≤ kB wt P (chN T) U i
  | [], _, _, _, _, _, _ => Nat.zero_le _
  | c :: T, U, i, Y, r, h, hk => by
    have h1 := chR_k T _ _ _ _ h.2 (fun d hd => hk d (List.mem_cons_of_mem _ hd))
    have h2 := hk c (List.mem_cons_self ..)
    have h3 := kB_mo wt P c.2.1 U c.2.2.1 i h.1.2.2
    rw [h.1.1] at h2
    rw [kSm_cn, chN_cn, kB_ad]
    omega
/-- **some calls, and the rest** -/
theorem kSm_sb {V : Nat} : ∀ (T L : List (tY × Nat × Nat × Nat)), T.Nodup → (∀ c, c ∈ T → c ∈ L) → (∀ c, c ∈ L → c.2.2.2 ≤ V) → T.length ≤ L.length ∧ kSm L ≤ kSm T + (L.length - T.length) * V
  | [], L, _, _, hV => by
    refine ⟨Nat.zero_le _, ?_⟩
    have aux : ∀ l : List (tY × Nat × Nat × Nat), (∀ c, c ∈ l → c.2.2.2 ≤ V) → kSm l ≤ l.length * V := fun l => by
      induction l with
      | nil => intro _; exact Nat.zero_le _
      | cons c l ih =>
        intro h
        have h1 := h c (List.mem_cons_self ..)
        have h2 := ih (fun d hd => h d (List.mem_cons_of_mem _ hd))
        rw [kSm_cn, List.length_cons, Nat.add_mul, Nat.one_mul]
        omega
    have := aux L hV
    show kSm L ≤ 0 + (L.length - 0) * V
    rw [Nat.sub_zero, Nat.zero_add]
    exact this
  | c :: T, L, hn, hs, hV => by
    obtain ⟨n1, n2⟩ := List.nodup_cons.mp hn
    obtain ⟨l1, l2, rfl⟩ := List.append_of_mem (hs c (List.mem_cons_self ..))
    have hs' : ∀ d, d ∈ T → d ∈ l1 ++ l2 := fun d hd => by
      have := hs d (List.mem_cons_of_mem _ hd)
      rcases List.mem_append.mp this with z | z
      · exact List.mem_append_left _ z
      · rcases List.mem_cons.mp z with z | z
        · rw [z] at hd; exact absurd hd n1
        · exact List.mem_append_right _ z
    obtain ⟨h1, h2⟩ := kSm_sb T (l1 ++ l2) n2 hs' (fun d hd => hV d (by
      rcases List.mem_append.mp hd with z | z
      · exact List.mem_append_left _ z
      · exact List.mem_append_right _ (List.mem_cons_of_mem _ z)))
    rw [List.length_append] at h1 h2
    rw [kSm_ap] at h2
    rw [kSm_ap, kSm_cn, kSm_cn, List.length_append, List.length_cons, List.length_cons]
    refine ⟨by omega, ?_⟩
    rw [show l1.length + (l2.length + 1) - (T.length + 1) = l1.length + l2.length - T.length by omega]
    omega
