/-! leaf()'s questions of INSTANCES -/
/-- an INSTANCE of the CASE that is asked: its relation r, its term t times the column b (0: none) and a number -/
def iOk (V : zSt) (c : Nat) (Rs : List oPu) (i r b : Nat) (t : Int32) (nu : Int64) : Prop := i < 8000 ∧ (iQ V i < 6 ∧ V.2.2.1 63 i = nI (iQ V i)) ∧ (V.2.2.1 23 (iQ V i) = nI r ∧ r ≤ 4) ∧ (pIn Rs (iU V i)).2.1 = t ∧ (pIn Rs (iU V i)).2.2.1 = nu ∧ (-1 ≤ t.toInt ∧ t.toInt ≤ 1) ∧ (-281474976710656 ≤ nu.toInt ∧ nu.toInt ≤ 281474976710656) ∧ b < c ∧ (t = 0 → b = 0) ∧ (t ≠ 0 → ∃ d, (pIn Rs (iU V i)).1 = nI d ∧ d < 1501 ∧ V.2.2.1 89 d = nI b)
/-- it follows of the limits -/
def iSy (r b : Nat) (t : Int) (nu : Int) (L : List oLm) : Prop := (r < 3 → lSy L (aM 0 1 b (-t) (nu - if r = 1 then 1 else 0))) ∧ (r = 0 ∨ 2 < r → lSy L (aM 0 (-1) b t (-nu - if r = 3 then 1 else 0)))
theorem rJs.u {V τ τ' : zSt} {Sk : List (Int32 × Bool)} {Ws : List oWy} {Ts : List (Nat × Bool)} (J : rJs V τ Sk Ws Ts) (g : uFm τ τ') : rJs V τ' Sk Ws Ts := by
  obtain ⟨j1, ⟨a1, a2, a3⟩, ⟨b1, b2, b3⟩, ⟨c1, c2, c3⟩⟩ := J
  obtain ⟨g1, g2, g3⟩ := g
  refine ⟨⟨fun k hk => (g1 k (fun e => hk (by rw [e]; decide)) (fun e => hk (by rw [e]; decide)) (fun e => hk (by rw [e]; decide))).trans (j1.1 k hk), fun k hk => (g2 k (fun e => hk (by rw [e]; decide))).trans (j1.2.1 k hk), fun k hk => by rw [g3]; exact j1.2.2.1 k hk, fun k hk => by rw [g3]; exact j1.2.2.2 k hk⟩, ⟨(g1 144 (by decide) (by decide) (by decide)).trans a1, a2, fun k x e => by rw [g3]; exact a3 k x e⟩, ⟨(g1 152 (by decide) (by decide) (by decide)).trans b1, b2, fun k x e => by rw [g3]; exact b3 k x e⟩, ⟨(g1 153 (by decide) (by decide) (by decide)).trans c1.1, by rw [g1 154 (by decide) (by decide) (by decide)]; exact c1.2⟩, c2, fun k x e => by rw [g3]; exact c3 k x e⟩
section LQI
variable {ks : Nat → Nat} {qs : List Nat} {T n h0 c : Nat} {V : zSt} {L : List oLm} {Ws : List oWy} {Ts : List (Nat × Bool)} {Rs : List oPu}
theorem nar01 (v : Int32) (h : v = 0 ∨ v = 1) : vp_nar .boolean v = v := by rcases h with rfl | rfl <;> rfl
/-- one of them -/
theorem r_lq1 {k153 : Int32 → Int32 → zSt → zRs} {x2 : Int32} {i r b : Nat} {t : Int32} {nu : Int64} {σ : zSt} (hc : 0 < c ∧ c ≤ 60) (hi : iOk V c Rs i r b t nu) (J : rJs V σ [] Ws Ts) (hS : rSay (2 * c) L (σ.2.2.2 88)) (u1 : σ.1 139 = t) (u2 : σ.2.1 140 = nu) : ∃ v : Int32, j_leaf_239 T (zF h0 qs ks T (n + 2)) h0 qs ks k153 x2 (nI i) (nI r) (nI 0) (nI b) σ = k153 x2 (nI (i + 1)) (zA σ 100 (upd (σ.2.2.1 100) i v)) ∧ ((v = 0 ∧ iSy r b t.toInt nu.toInt L) ∨ (v = 1 ∧ ¬ iSy r b t.toInt nu.toInt L)) := by
  obtain ⟨i1, i2, i3, i4, i5, i6, i7, i8, i9, i10⟩ := hi
  have en : (-nu).toInt = -nu.toInt := j_neg (by omega)
  have e1 : (1 : Int64).toInt = 1 := by decide
  have e0 : (0 : Int64).toInt = 0 := by decide
  have tn : (-t).toInt = -t.toInt := by
    rw [Int32.toInt_neg, Int.bmod_eq_of_le (by omega) (by omega)]
  -- both questions
  have q1 : ∀ mo : Int64, (mo = 0 ∨ mo = 1) → ∃ v : Int32, zF h0 qs ks T (n + 2) 90 [.ref h0, .int (nI 0), .int 1, .int (nI b), .int (-t), .long (-nu + mo)] σ = some (some (.int v), σ) ∧ ((v = 1 ∧ lSy L (aM 0 1 b (-t.toInt) (nu.toInt - mo.toInt))) ∨ (v = 0 ∧ ¬ lSy L (aM 0 1 b (-t.toInt) (nu.toInt - mo.toInt)))) := fun mo hm => by
    have b2 : mo.toInt = 0 ∨ mo.toInt = 1 := by
      rcases hm with rfl | rfl
      · exact Or.inl rfl
      · exact Or.inr rfl
    have ea : (-nu + mo).toInt = -nu.toInt + mo.toInt := by rw [j_add, en] <;> rw [en] <;> omega
    have := r_says (ks := ks) (qs := qs) (T := T) (n := n) (h0 := h0) (c := c) (L := L) (τ := σ) (a := 0) (b := b) (ta := 1) (tb := -t) (num := -nu + mo) hc.2 hS hc.1 i8 (by decide) (by rw [tn]; omega) (by rw [ea]; omega)
    rw [tn, ea, show (1 : Int32).toInt = 1 from rfl, show -(-nu.toInt + mo.toInt) = nu.toInt - mo.toInt by omega] at this
    exact this
  have q2 : ∀ mo : Int64, (mo = 0 ∨ mo = 1) → ∃ v : Int32, zF h0 qs ks T (n + 2) 90 [.ref h0, .int (nI 0), .int (-1), .int (nI b), .int t, .long (nu + mo)] σ = some (some (.int v), σ) ∧ ((v = 1 ∧ lSy L (aM 0 (-1) b t.toInt (-nu.toInt - mo.toInt))) ∨ (v = 0 ∧ ¬ lSy L (aM 0 (-1) b t.toInt (-nu.toInt - mo.toInt)))) := fun mo hm => by
    have b2 : mo.toInt = 0 ∨ mo.toInt = 1 := by
      rcases hm with rfl | rfl
      · exact Or.inl rfl
      · exact Or.inr rfl
    have ea : (nu + mo).toInt = nu.toInt + mo.toInt := by rw [j_add] <;> omega
    have := r_says (ks := ks) (qs := qs) (T := T) (n := n) (h0 := h0) (c := c) (L := L) (τ := σ) (a := 0) (b := b) (ta := -1) (tb := t) (num := nu + mo) hc.2 hS hc.1 i8 (by decide) (by omega) (by rw [ea]; omega)
    rw [ea, show (-1 : Int32).toInt = -1 from rfl, show -(nu.toInt + mo.toInt) = -nu.toInt - mo.toInt by omega] at this
    exact this
  have put : ∀ x7 : Int32, (x7 = 0 ∨ x7 = 1) → ∃ v : Int32, j_leaf_338 T (zF h0 qs ks T (n + 2)) h0 qs ks k153 x2 (nI i) x7 σ = k153 x2 (nI (i + 1)) (zA σ 100 (upd (σ.2.2.1 100) i v)) ∧ ((x7 = 1 ∧ v = 0) ∨ (x7 = 0 ∧ v = 1)) := fun x7 h7 => by
    unfold j_leaf_338 j_leaf_353 j_leaf_354
    simp only [zgd, zin_n i1 (by decide), if_true, nI_clamp (show i < 2 ^ 31 by omega), zlet, nI_p1, nar01 1 (Or.inr rfl), nar01 0 (Or.inl rfl)]
    rcases h7 with rfl | rfl
    · rw [if_pos rfl]; exact ⟨1, rfl, Or.inr ⟨rfl, rfl⟩⟩
    · rw [if_neg (by decide)]; exact ⟨0, rfl, Or.inl ⟨rfl, rfl⟩⟩
  have second : ∀ (x7 : Int32) (mo : Int64) (P : Prop), (mo = 0 ∨ mo = 1) → ((x7 = 1 ∧ P) ∨ (x7 = 0 ∧ ¬ P)) → ∃ v : Int32, j_leaf_319 T (zF h0 qs ks T (n + 2)) h0 qs ks k153 x2 (nI i) x7 (nI 0) (-1) (nI b) t nu mo σ = k153 x2 (nI (i + 1)) (zA σ 100 (upd (σ.2.2.1 100) i v)) ∧ ((v = 0 ∧ P ∧ lSy L (aM 0 (-1) b t.toInt (-nu.toInt - mo.toInt))) ∨ (v = 1 ∧ ¬ (P ∧ lSy L (aM 0 (-1) b t.toInt (-nu.toInt - mo.toInt))))) := fun x7 mo P hm h7 => by
    obtain ⟨w, a1, a2⟩ := q2 mo hm
    obtain ⟨v1, p1, p1'⟩ := put 1 (Or.inr rfl)
    obtain ⟨v0, p0, p0'⟩ := put 0 (Or.inl rfl)
    have ev1 : v1 = 0 := by rcases p1' with k | k; exact k.2; exact absurd k.1 (by decide)
    have ev0 : v0 = 1 := by rcases p0' with k | k; exact absurd k.1 (by decide); exact k.2
    unfold j_leaf_319 j_leaf_335 j_leaf_336
    rw [a1]
    simp only [zci]
    rcases a2 with ⟨rfl, a2⟩ | ⟨rfl, a2⟩
    · rw [if_neg (by decide)]
      rcases h7 with ⟨rfl, h7⟩ | ⟨rfl, h7⟩
      · rw [if_neg (by decide)]
        exact ⟨v1, p1, Or.inl ⟨ev1, h7, a2⟩⟩
      · rw [if_pos rfl]
        exact ⟨v0, p0, Or.inr ⟨ev0, fun k => h7 k.1⟩⟩
    · rw [if_pos rfl]
      exact ⟨v0, p0, Or.inr ⟨ev0, fun k => a2 k.2⟩⟩
  obtain ⟨i3, i3'⟩ := i3
  unfold j_leaf_239 j_leaf_277 j_leaf_283 j_leaf_294
  rw [u1, u2]
  match r, i3', i3 with
  | 0, _, _ =>
    rw [if_neg (show ¬ (3 : Int32) ≤ nI 0 by decide), if_neg (show ¬ nI 0 = 1 by decide)]
    obtain ⟨w, a1, a2⟩ := q1 0 (Or.inl rfl)
    rw [a1]
    simp only [zci]
    rw [if_pos (show nI 0 = 0 from rfl), if_neg (show ¬ nI 0 = 3 by decide), u1, u2]
    obtain ⟨v, b1, b2⟩ := second w 0 _ (Or.inl rfl) a2
    refine ⟨v, b1, ?_⟩
    have hS : iSy 0 b t.toInt nu.toInt L ↔ lSy L (aM 0 1 b (-t.toInt) (nu.toInt - 0)) ∧ lSy L (aM 0 (-1) b t.toInt (-nu.toInt - 0)) := ⟨fun k => ⟨k.1 (by decide), k.2 (Or.inl rfl)⟩, fun k => ⟨fun _ => k.1, fun _ => k.2⟩⟩
    rw [hS]
    exact b2
  | 1, _, _ =>
    rw [if_neg (show ¬ (3 : Int32) ≤ nI 1 by decide), if_pos (show nI 1 = 1 from rfl)]
    obtain ⟨w, a1, a2⟩ := q1 1 (Or.inr rfl)
    rw [a1]
    simp only [zci]
    rw [if_neg (show ¬ nI 1 = 0 by decide), if_pos (show nI 1 ≤ 2 by decide)]
    have hS : iSy 1 b t.toInt nu.toInt L ↔ lSy L (aM 0 1 b (-t.toInt) (nu.toInt - 1)) := ⟨fun k => k.1 (by decide), fun k => ⟨fun _ => k, fun k' => by omega⟩⟩
    rw [hS]
    obtain ⟨v, b1, b2⟩ := put w (by rcases a2 with a2 | a2; exact Or.inr a2.1; exact Or.inl a2.1)
    refine ⟨v, b1, ?_⟩
    rcases a2 with ⟨rfl, a2⟩ | ⟨rfl, a2⟩
    · rcases b2 with b2 | b2
      · exact Or.inl ⟨b2.2, a2⟩
      · exact absurd b2.1 (by decide)
    · rcases b2 with b2 | b2
      · exact absurd b2.1 (by decide)
      · exact Or.inr ⟨b2.2, a2⟩
  | 2, _, _ =>
    rw [if_neg (show ¬ (3 : Int32) ≤ nI 2 by decide), if_neg (show ¬ nI 2 = 1 by decide)]
    obtain ⟨w, a1, a2⟩ := q1 0 (Or.inl rfl)
    rw [a1]
    simp only [zci]
    rw [if_neg (show ¬ nI 2 = 0 by decide), if_pos (show nI 2 ≤ 2 by decide)]
    have hS : iSy 2 b t.toInt nu.toInt L ↔ lSy L (aM 0 1 b (-t.toInt) (nu.toInt - 0)) := ⟨fun k => k.1 (by decide), fun k => ⟨fun _ => k, fun k' => by omega⟩⟩
    rw [hS]
    obtain ⟨v, b1, b2⟩ := put w (by rcases a2 with a2 | a2; exact Or.inr a2.1; exact Or.inl a2.1)
    refine ⟨v, b1, ?_⟩
    rcases a2 with ⟨rfl, a2⟩ | ⟨rfl, a2⟩
    · rcases b2 with b2 | b2
      · exact Or.inl ⟨b2.2, a2⟩
      · exact absurd b2.1 (by decide)
    · rcases b2 with b2 | b2
      · exact absurd b2.1 (by decide)
      · exact Or.inr ⟨b2.2, a2⟩
  | 3, _, _ =>
    rw [if_pos (show (3 : Int32) ≤ nI 3 by decide), if_neg (show ¬ nI 3 = 0 by decide), if_neg (show ¬ nI 3 ≤ 2 by decide), if_pos (show nI 3 = 3 from rfl)]
    obtain ⟨v, b1, b2⟩ := second 1 1 True (Or.inr rfl) (Or.inl ⟨rfl, trivial⟩)
    refine ⟨v, b1, ?_⟩
    have hS : iSy 3 b t.toInt nu.toInt L ↔ True ∧ lSy L (aM 0 (-1) b t.toInt (-nu.toInt - 1)) := ⟨fun k => ⟨trivial, k.2 (Or.inr (by decide))⟩, fun k => ⟨fun k' => by omega, fun _ => k.2⟩⟩
    rw [hS]
    exact b2
  | 4, _, _ =>
    rw [if_pos (show (3 : Int32) ≤ nI 4 by decide), if_neg (show ¬ nI 4 = 0 by decide), if_neg (show ¬ nI 4 ≤ 2 by decide), if_neg (show ¬ nI 4 = 3 by decide)]
    obtain ⟨v, b1, b2⟩ := second 1 0 True (Or.inl rfl) (Or.inl ⟨rfl, trivial⟩)
    refine ⟨v, b1, ?_⟩
    have hS : iSy 4 b t.toInt nu.toInt L ↔ True ∧ lSy L (aM 0 (-1) b t.toInt (-nu.toInt - 0)) := ⟨fun k => ⟨trivial, k.2 (Or.inr (by decide))⟩, fun k => ⟨fun k' => by omega, fun _ => k.2⟩⟩
    rw [hS]
    exact b2
  | k + 5, h, _ => omega
end LQI
