/-! shortest ways: how long they can be -/
section BND
variable {A : Nat → Nat → Int → Prop}
/-- each limit is at least -B, and where there is one, B is one -/
def xBd (B : Int) (A : Nat → Nat → Int → Prop) : Prop := ∀ i j c, A i j c → -B ≤ c ∧ A i j B
/-- a way from i over l to j -/
def xW (A : Nat → Nat → Int → Prop) : Nat → List Nat → Nat → Int → Prop
  | i, [], j, c => A i j c
  | i, v :: l, j, c => ∃ a b, A i v a ∧ xW A v l j b ∧ a + b ≤ c
theorem xW.bd {B : Int} (h : xBd B A) : ∀ (l : List Nat) (i j : Nat) (c : Int), xW A i l j c → -((l.length : Int) * B + B) ≤ c ∧ xW A i l j ((l.length : Int) * B + B)
  | [], i, j, c, w => by
    have := h i j c w
    refine ⟨?_, ?_⟩
    · simp only [List.length_nil]; omega
    · show A i j _
      simp only [List.length_nil]
      rw [show ((0 : Nat) : Int) * B + B = B by omega]
      exact this.2
  | v :: l, i, j, c, ⟨a, b, w1, w2, w3⟩ => by
    have h1 := h i v a w1
    have h2 := xW.bd h l v j b w2
    have e : ((v :: l).length : Int) * B + B = B + ((l.length : Int) * B + B) := by
      rw [List.length_cons, Int.natCast_add, Int.add_mul]
      omega
    refine ⟨?_, B, (l.length : Int) * B + B, h1.2, h2.2, ?_⟩
    · rw [e]; omega
    · rw [e]; exact Int.le_refl _
theorem xW.fw (hu : xUp A) {K : Nat} (hn : ∀ k, k < K → ∀ c, xFW A k k k c → 0 ≤ c) : ∀ (l : List Nat) (i j : Nat) (c : Int), (∀ v ∈ l, v < K) → xW A i l j c → xFW A K i j c
  | [], i, j, c, _, w => xFW.le K i j c w
  | v :: l, i, j, c, hl, ⟨a, b, w1, w2, w3⟩ => by
    have ih := xW.fw hu hn l v j b (fun u hu => hl u (List.mem_cons_of_mem _ hu)) w2
    exact xFW.up hu K _ _ _ _ (xFW.thr hu K hn v (hl v (List.mem_cons_self ..)) i j a b (xFW.le K _ _ _ w1) ih) w3
theorem xW.split : ∀ (l1 : List Nat) (v : Nat) (l2 : List Nat) (i j : Nat) (c : Int), xW A i (l1 ++ v :: l2) j c → ∃ a b, xW A i l1 v a ∧ xW A v l2 j b ∧ a + b ≤ c
  | [], v, l2, i, j, c, h => h
  | w :: l1, v, l2, i, j, c, ⟨a, b, h1, h2, h3⟩ => by
    obtain ⟨a', b', g1, g2, g3⟩ := xW.split l1 v l2 w j b h2
    exact ⟨a + a', b', ⟨a, a', h1, g1, Int.le_refl _⟩, g2, by omega⟩
theorem xW.glue : ∀ (l1 : List Nat) (v : Nat) (l2 : List Nat) (i j : Nat) (a b c : Int), xW A i l1 v a → xW A v l2 j b → a + b ≤ c → xW A i (l1 ++ v :: l2) j c
  | [], v, l2, i, j, a, b, c, h1, h2, h3 => ⟨a, b, h1, h2, h3⟩
  | w :: l1, v, l2, i, j, a, b, c, ⟨a1, b1, g1, g2, g3⟩, h2, h3 => ⟨a1, b1 + b, g1, xW.glue l1 v l2 w j b1 b (b1 + b) g2 h2 (Int.le_refl _), by omega⟩
theorem nodup_lt : ∀ (K : Nat) (l : List Nat), l.Nodup → (∀ v ∈ l, v < K) → l.length ≤ K
  | 0, l, _, h => by
    cases l with
    | nil => exact Nat.le_refl _
    | cons v l => exact absurd (h v (List.mem_cons_self ..)) (Nat.not_lt_zero _)
  | K + 1, l, hd, h => by
    by_cases c : K ∈ l
    · have h1 := nodup_lt K (l.erase K) (hd.erase K) (fun v hv => by
        have := (List.Nodup.mem_erase_iff hd).mp hv
        have := h v this.2
        omega)
      rw [List.length_erase_of_mem c] at h1
      have : 0 < l.length := List.length_pos_of_mem c
      omega
    · have h1 := nodup_lt K l hd (fun v hv => by
        have := h v hv
        have : v ≠ K := fun e => c (e ▸ hv)
        omega)
      omega
theorem xFW.ge (K : Nat) : ∀ (d i j : Nat) (c : Int), xFW A K i j c → xFW A (K + d) i j c
  | 0, _, _, _, h => h
  | d + 1, i, j, c, h => Or.inl (xFW.ge K d i j c h)
/-- where no circle is below 0 every shortest way goes by each place once -/
theorem xFW.way (hu : xUp A) : ∀ K, (∀ v c, xFW A K v v c → 0 ≤ c) → ∀ i j c, xFW A K i j c → ∃ l : List Nat, l.Nodup ∧ (∀ v ∈ l, v < K) ∧ xW A i l j c
  | 0, _, i, j, c, h => ⟨[], List.nodup_nil, fun v hv => (by cases hv), h⟩
  | K + 1, hn, i, j, c, h => by
    have hn' : ∀ v c, xFW A K v v c → 0 ≤ c := fun v c h => hn v c (Or.inl h)
    have hk : ∀ k, k < K → ∀ c, xFW A k k k c → 0 ≤ c := fun k hk c h => hn' k c (by
      have := xFW.ge k (K - k) k k c h
      rw [show k + (K - k) = K by omega] at this
      exact this)
    have ih := xFW.way hu K hn'
    have old : xFW A K i j c → ∃ l : List Nat, l.Nodup ∧ (∀ v ∈ l, v < K + 1) ∧ xW A i l j c := fun h => by
      obtain ⟨l, l1, l2, l3⟩ := ih i j c h
      exact ⟨l, l1, fun v hv => Nat.lt_succ_of_lt (l2 v hv), l3⟩
    rcases h with h | ⟨a, b, h1, h2, h3⟩
    · exact old h
    · obtain ⟨l1, d1, b1, w1⟩ := ih i K a h1
      obtain ⟨l2, d2, b2, w2⟩ := ih K j b h2
      by_cases z : ∃ v, v ∈ l1 ∧ v ∈ l2
      · obtain ⟨v, v1, v2⟩ := z
        obtain ⟨p1, q1, e1⟩ := List.append_of_mem v1
        obtain ⟨p2, q2, e2⟩ := List.append_of_mem v2
        subst e1 e2
        obtain ⟨a1, a2, x1, x2, x3⟩ := xW.split p1 v q1 i K a w1
        obtain ⟨c1, c2, y1, y2, y3⟩ := xW.split p2 v q2 K j b w2
        have f1 := xW.fw hu hk p1 i v a1 (fun u hu => b1 u (List.mem_append_left _ hu)) x1
        have f2 := xW.fw hu hk q1 v K a2 (fun u hu => b1 u (List.mem_append_right _ (List.mem_cons_of_mem _ hu))) x2
        have f3 := xW.fw hu hk p2 K v c1 (fun u hu => b2 u (List.mem_append_left _ hu)) y1
        have f4 := xW.fw hu hk q2 v j c2 (fun u hu => b2 u (List.mem_append_right _ (List.mem_cons_of_mem _ hu))) y2
        have cy := hn v (a2 + c1) (Or.inr ⟨a2, c1, f2, f3, Int.le_refl _⟩)
        have fin := xFW.thr hu K hk v (b1 v v1) i j a1 c2 f1 f4
        exact old (xFW.up hu K _ _ _ _ fin (by omega))
      · refine ⟨l1 ++ K :: l2, ?_, fun v hv => ?_, xW.glue l1 K l2 i j a b c w1 w2 h3⟩
        · rw [List.nodup_append]
          refine ⟨d1, List.nodup_cons.mpr ⟨fun h => absurd (b2 K h) (Nat.lt_irrefl _), d2⟩, fun u hu w hw e => ?_⟩
          subst e
          rcases List.mem_cons.mp hw with e | hw
          · exact absurd (b1 u hu) (by omega)
          · exact z ⟨u, hu, hw⟩
        · rcases List.mem_append.mp hv with hv | hv
          · exact Nat.lt_succ_of_lt (b1 v hv)
          · rcases List.mem_cons.mp hv with e | hv
            · omega
            · exact Nat.lt_succ_of_lt (b2 v hv)
/-- **how long** -/
theorem xFW.bd {B : Int} (hB : 0 ≤ B) (hu : xUp A) (h : xBd B A) (K : Nat) (hn : ∀ v c, xFW A K v v c → 0 ≤ c) : xBd ((K : Int) * B + B) (xFW A K) := fun i j c w => by
  obtain ⟨l, l1, l2, l3⟩ := xFW.way hu K hn i j c w
  have hl := nodup_lt K l l1 l2
  have hk : ∀ k, k < K → ∀ c, xFW A k k k c → 0 ≤ c := fun k hk c h => hn k c (by
    have := xFW.ge k (K - k) k k c h
    rw [show k + (K - k) = K by omega] at this
    exact this)
  obtain ⟨b1, b2⟩ := xW.bd h l i j c l3
  have hm : (l.length : Int) * B ≤ (K : Int) * B := Int.mul_le_mul_of_nonneg_right (by omega) hB
  exact ⟨by omega, xFW.up hu K _ _ _ _ (xW.fw hu hk l i j _ l2 b2) (by omega)⟩
end BND
/-! tables -/
section TAB
/-- a table of limits: from N on there is none -/
def tbA (N : Int) (W : Nat) (f : Nat → Nat → Int) (i j : Nat) (c : Int) : Prop := (i < W ∧ j < W ∧ f i j < N ∧ f i j ≤ c) ∨ (i = j ∧ 0 ≤ c)
variable {N : Int} {W : Nat} {f g : Nat → Nat → Int}
theorem tbA.up : xUp (tbA N W f) := fun i j c c' h hc => by
  rcases h with ⟨h1, h2, h3, h4⟩ | ⟨h1, h2⟩
  · exact Or.inl ⟨h1, h2, h3, by omega⟩
  · exact Or.inr ⟨h1, by omega⟩
theorem tbA.z (p : Nat) : tbA N W f p p 0 := Or.inr ⟨rfl, Int.le_refl _⟩
theorem tbA.n0 : xN0 W (tbA N W f) := fun i j c h => by
  rcases h with ⟨h1, h2, h3, h4⟩ | ⟨h1, h2⟩
  · exact Or.inl ⟨h1, h2⟩
  · exact Or.inr ⟨h1, h2⟩
/-- a cell -/
theorem tbA.at (hN : 0 < N) (hd : ∀ i, i < W → f i i ≤ 0) {i j : Nat} (hi : i < W) (hj : j < W) {c : Int} : tbA N W f i j c ↔ f i j < N ∧ f i j ≤ c := by
  refine ⟨fun h => ?_, fun h => Or.inl ⟨hi, hj, h.1, h.2⟩⟩
  rcases h with ⟨h1, h2, h3, h4⟩ | ⟨h1, h2⟩
  · exact ⟨h3, h4⟩
  · subst h1
    have := hd i hi
    exact ⟨by omega, by omega⟩
theorem tbA.out {i j : Nat} (h : ¬ (i < W ∧ j < W)) {c : Int} : tbA N W f i j c ↔ i = j ∧ 0 ≤ c := by
  refine ⟨fun w => ?_, fun w => Or.inr w⟩
  rcases w with ⟨h1, h2, -⟩ | w
  · exact absurd ⟨h1, h2⟩ h
  · exact w
/-- one step of all shortest ways, in a table -/
def fSt (N : Int) (k : Nat) (f : Nat → Nat → Int) (i j : Nat) : Int := if f i k < N ∧ f k j < N ∧ f i k + f k j < f i j then f i k + f k j else f i j
theorem tbA.st (hN : 0 < N) {k : Nat} (hk : k < W) (hd : ∀ i, i < W → f i i ≤ 0) (hs : ∀ i j, i < W → j < W → f i k < N → f k j < N → N ≤ f i j → f i k + f k j < N) (hg : ∀ i j, i < W → j < W → g i j = fSt N k f i j) (i j : Nat) (c : Int) : tbA N W g i j c ↔ xF k (tbA N W f) i j c := by
  by_cases hij : i < W ∧ j < W
  · obtain ⟨hi, hj⟩ := hij
    have hgd : ∀ i, i < W → g i i ≤ 0 := fun i hi => by
      rw [hg i i hi hi]
      unfold fSt
      have := hd i hi
      split <;> omega
    rw [tbA.at hN hgd hi hj, hg i j hi hj]
    unfold xF
    have e1 := fun c => tbA.at (c := c) hN hd hi hj
    have e2 := fun c => tbA.at (c := c) hN hd hi hk
    have e3 := fun c => tbA.at (c := c) hN hd hk hj
    unfold fSt
    constructor
    · intro h
      by_cases z : f i k < N ∧ f k j < N ∧ f i k + f k j < f i j
      · rw [if_pos z] at h
        exact Or.inr ⟨f i k, f k j, (e2 _).mpr ⟨z.1, Int.le_refl _⟩, (e3 _).mpr ⟨z.2.1, Int.le_refl _⟩, h.2⟩
      · rw [if_neg z] at h
        exact Or.inl ((e1 _).mpr h)
    · intro h
      rcases h with h | ⟨a, b, h1, h2, h3⟩
      · have := (e1 c).mp h
        split
        · omega
        · exact this
      · have q1 := (e2 a).mp h1
        have q2 := (e3 b).mp h2
        have q3 := hs i j hi hj q1.1 q2.1
        split
        · rename_i z
          refine ⟨?_, by omega⟩
          by_cases y : N ≤ f i j
          · exact q3 y
          · omega
        · rename_i z
          have : ¬ f i k + f k j < f i j := fun w => z ⟨q1.1, q2.1, w⟩
          refine ⟨?_, by omega⟩
          by_cases y : N ≤ f i j
          · have := q3 y; omega
          · omega
  · rw [tbA.out hij]
    unfold xF
    constructor
    · intro h
      exact Or.inl (Or.inr h)
    · intro h
      rcases h with h | ⟨a, b, h1, h2, h3⟩
      · exact (tbA.out hij).mp h
      · rcases h1 with ⟨h1, h1', -⟩ | ⟨h1, h1'⟩
        · rcases h2 with ⟨h2, h2', -⟩ | ⟨h2, h2'⟩
          · exact absurd ⟨h1, h2'⟩ hij
          · subst h2
            exact absurd ⟨h1, hk⟩ hij
        · subst h1
          rcases h2 with ⟨h2, h2', -⟩ | ⟨h2, h2'⟩
          · exact absurd ⟨hk, h2'⟩ hij
          · subst h2
            exact absurd ⟨hk, hk⟩ hij
end TAB
