/-! the reference's types as a graph: newType, real, isIn -/
/-- its kinds -/
def rKd (k : Nat) : Int32 := if k = 0 then 0 else if k = 1 then 4 else if k = 2 then 1 else if k = 3 then 2 else if k = 4 then 3 else 5
theorem rKd_inj {j k : Nat} (hj : j ≤ 5) (hk : k ≤ 5) (h : rKd j = rKd k) : j = k := by
  have d : ∀ a, a ≤ 5 → ∀ b, b ≤ 5 → rKd a = rKd b → a = b := by decide
  exact d j hj k hk h
def rG (τ : zSt) (g : gG) (k : Nat) : Prop := (τ.1 59 = nI g.n ∧ g.n ≤ 9000) ∧ (τ.1 60 = nI k ∧ k < 2 ^ 30) ∧ ∀ t, t < g.n → (g.K t ≤ 5 ∧ τ.2.2.1 34 t = rKd (g.K t)) ∧ (g.K t = 1 → τ.2.2.1 35 t = nI (g.L t) ∧ τ.2.2.1 36 t = nI (g.R t)) ∧ τ.2.2.1 37 t = (if g.S t = t then -1 else nI (g.S t)) ∧ ∃ s, s ≤ k ∧ τ.2.2.1 38 t = nI s
/-- all but what types are is as it was -/
def jFm (τ τ' : zSt) : Prop := (∀ k, k ≠ 59 → k ≠ 60 → τ'.1 k = τ.1 k) ∧ τ'.2.1 = τ.2.1 ∧ (∀ k, ¬ (34 ≤ k ∧ k ≤ 38) → τ'.2.2.1 k = τ.2.2.1 k) ∧ τ'.2.2.2 = τ.2.2.2
theorem jFm.rf (τ : zSt) : jFm τ τ := ⟨fun _ _ _ => rfl, rfl, fun _ _ => rfl, rfl⟩
theorem jFm.tr {τ τ' τ'' : zSt} (h : jFm τ τ') (g : jFm τ' τ'') : jFm τ τ'' := ⟨fun k a b => (g.1 k a b).trans (h.1 k a b), g.2.1.trans h.2.1, fun k a => (g.2.2.1 k a).trans (h.2.2.1 k a), g.2.2.2.trans h.2.2.2⟩
/-- all but links and marks -/
def jFj (τ τ' : zSt) : Prop := (∀ k, k ≠ 60 → τ'.1 k = τ.1 k) ∧ τ'.2.1 = τ.2.1 ∧ (∀ k, k ≠ 37 → k ≠ 38 → τ'.2.2.1 k = τ.2.2.1 k) ∧ τ'.2.2.2 = τ.2.2.2
theorem jFj.rf (τ : zSt) : jFj τ τ := ⟨fun _ _ => rfl, rfl, fun _ _ _ => rfl, rfl⟩
theorem jFj.tr {τ τ' τ'' : zSt} (h : jFj τ τ') (g : jFj τ' τ'') : jFj τ τ'' := ⟨fun k a => (g.1 k a).trans (h.1 k a), g.2.1.trans h.2.1, fun k a b => (g.2.2.1 k a b).trans (h.2.2.1 k a b), g.2.2.2.trans h.2.2.2⟩
theorem jFj.m {τ τ' : zSt} (h : jFj τ τ') : jFm τ τ' := ⟨fun k _ b => h.1 k b, h.2.1, fun k a => h.2.2.1 k (by omega) (by omega), h.2.2.2⟩
section RTY
variable {ks : Nat → Nat} {qs : List Nat} {T n h0 : Nat} {τ : zSt} {g : gG} {k : Nat}
theorem nI_neg1 {a : Nat} (h : a < 2 ^ 31) : ¬ nI a < 0 := nI_pos h
/-- newType(k, l, r) -/
theorem r_new {c l r : Nat} {x2 x3 : Int32} (h : rG τ g k) (hn : g.n < 9000) (hc : c ≤ 5) (hl : c = 1 → x2 = nI l ∧ x3 = nI r) : ∃ τ', zF h0 qs ks T (n + 1) 40 [.ref h0, .int (rKd c), .int x2, .int x3] τ = some (some (.int (nI g.n)), τ') ∧ rG τ' (gNw g c l r) k ∧ jFm τ τ' := by
  obtain ⟨⟨h1, h2⟩, ⟨h3, h4⟩, h5⟩ := h
  have pl : nI g.n + 1 = nI (g.n + 1) := nI_add g.n 1 ▸ rfl
  rw [zE_newType]
  unfold b_newType
  have z59 : ∀ (υ : zSt) (i : Nat) (r : Nat → Int32), (zA υ i r).1 = υ.1 := fun _ _ _ => rfl
  simp only [zgd, zlet, z59, h1, zin_n hn (by decide), if_true, nI_clamp (show g.n < 2 ^ 31 by omega)]
  refine ⟨zI (zA (zA (zA (zA (zA τ 34 (upd (τ.2.2.1 34) g.n (rKd c))) 35 (upd (τ.2.2.1 35) g.n x2)) 36 (upd (τ.2.2.1 36) g.n x3)) 37 (upd (τ.2.2.1 37) g.n (-1))) 38 (upd (τ.2.2.1 38) g.n 0)) 59 (nI g.n + 1), ?_, ⟨⟨pl, by show g.n + 1 ≤ 9000; omega⟩, ⟨h3, h4⟩, fun t ht => ?_⟩, ⟨fun q a b => zIn _ _ a, rfl, fun q a => ?_, rfl⟩⟩
  · show some (some (Value.int ((nI g.n + 1) - 1)), _) = some (some (Value.int (nI g.n)), _)
    rw [pl, nI_s1]
    rfl
  · have ht : t < g.n + 1 := ht
    show (un g.K g.n c t ≤ 5 ∧ upd (τ.2.2.1 34) g.n (rKd c) t = rKd (un g.K g.n c t)) ∧ (un g.K g.n c t = 1 → upd (τ.2.2.1 35) g.n x2 t = nI (un g.L g.n l t) ∧ upd (τ.2.2.1 36) g.n x3 t = nI (un g.R g.n r t)) ∧ upd (τ.2.2.1 37) g.n (-1) t = (if un g.S g.n g.n t = t then -1 else nI (un g.S g.n g.n t)) ∧ ∃ s, s ≤ k ∧ upd (τ.2.2.1 38) g.n 0 t = nI s
    by_cases e : t = g.n
    · subst e
      simp only [upd_at, un_at, if_true]
      exact ⟨⟨hc, trivial⟩, hl, trivial, 0, Nat.zero_le _, rfl⟩
    · rw [un_ne _ _ e, upd_ne _ _ e, upd_ne _ _ e, upd_ne _ _ e, upd_ne _ _ e, upd_ne _ _ e, un_ne _ _ e, un_ne _ _ e, un_ne _ _ e]
      exact h5 t (by omega)
  · show (if q = 38 then _ else if q = 37 then _ else if q = 36 then _ else if q = 35 then _ else if q = 34 then _ else τ.2.2.1 q) = τ.2.2.1 q
    rw [if_neg (by omega), if_neg (by omega), if_neg (by omega), if_neg (by omega), if_neg (by omega)]
/-- real(t) -/
theorem r_realL {call : zCl} (h : rG τ g k) {d : Nat → Nat} (hd : ∀ t, t < g.n → g.S t < g.n ∧ (g.S t = t ∨ d (g.S t) < d t)) : ∀ (j t f : Nat), t < g.n → d t ≤ j → d t < f → l_real_2 T call h0 qs ks f (nI t) τ = some (some (.int (nI (gRt g.S j t))), τ)
  | j, t, 0, _, _, hf => by omega
  | j, t, f + 1, ht, hj, hf => by
    have h2 := h.1.2
    obtain ⟨-, -, h37, -⟩ := h.2.2 t ht
    obtain ⟨p1, p2⟩ := hd t ht
    rw [l_real_2]
    simp only [zgd, zin_n (show t < 9000 by omega) (by decide), if_true, nI_clamp (show t < 2 ^ 31 by omega), h37]
    by_cases c : g.S t = t
    · rw [if_pos (by rw [if_pos c]; decide), gRt_fix c]
    · rw [if_neg (by rw [if_neg c]; exact nI_pos (by omega)), if_neg c]
      have e : d (g.S t) < d t := by rcases p2 with e | e; exact absurd e c; exact e
      obtain ⟨j, rfl⟩ : ∃ j', j = j' + 1 := ⟨j - 1, by omega⟩
      have e2 : gRt g.S (j + 1) t = gRt g.S j (g.S t) := by show (if g.S t = t then t else gRt g.S j (g.S t)) = _; rw [if_neg c]
      rw [e2]
      exact r_realL h hd j (g.S t) f p1 (by omega) (by omega)
theorem r_real {t : Nat} (hT : 9010 ≤ T) (h : rG τ g k) (hF : gF g) (ht : t < g.n) : zF h0 qs ks T (n + 1) 42 [.ref h0, .int (nI t)] τ = some (some (.int (nI (gR g t))), τ) := by
  obtain ⟨d, hd⟩ := hF
  have h2 := h.1.2
  rw [zE_real]
  have := (hd t ht).2.2
  exact r_realL h (fun t ht => ⟨(hd t ht).1, (hd t ht).2.1⟩) g.n t T ht (by omega) (by omega)
/-- marked as looked at -/
def rMk (τ : zSt) (k m : Nat) : Prop := τ.2.2.1 38 m = nI k
/-- what lies below m is no v, and is marked -/
def rMc (g : gG) (τ : zSt) (k v m : Nat) : Prop := (gR g (g.L m) ≠ v ∧ (g.K (gR g (g.L m)) = 1 → rMk τ k (gR g (g.L m)))) ∧ (gR g (g.R m) ≠ v ∧ (g.K (gR g (g.R m)) = 1 → rMk τ k (gR g (g.R m))))
theorem rG.mk (h : rG τ g k) (r : Nat) : rG (zA τ 38 (upd (τ.2.2.1 38) r (τ.1 60))) g k := by
  refine ⟨h.1, h.2.1, fun t ht => ?_⟩
  obtain ⟨a, b, c, s, d, e⟩ := h.2.2 t ht
  refine ⟨a, b, c, ?_⟩
  show ∃ s, s ≤ k ∧ upd (τ.2.2.1 38) r (τ.1 60) t = nI s
  by_cases q : t = r
  · rw [q, upd_at]
    exact ⟨k, Nat.le_refl _, h.2.1.1⟩
  · rw [upd_ne _ _ q]
    exact ⟨s, d, e⟩
/-- isIn(v, t) -/
theorem r_isIn {ρ0 : Nat → tY} {v : Nat} (hT : 9010 ≤ T) (hK : gK g) (hs : gS g ρ0) (hv : v < g.n) : ∀ (F t : Nat) (τ : zSt), rG τ g k → t < g.n → yH (ρ0 t) ≤ F → ∃ (b : Bool) (τ' : zSt), zF h0 qs ks T (F + 2) 43 [.ref h0, .int (nI v), .int (nI t)] τ = some (some (.int (b01 b)), τ') ∧ rG τ' g k ∧ jFj τ τ' ∧ (b = true → ∀ ρ, gS g ρ → yH (ρ v) ≤ yH (ρ t) ∧ (gR g t ≠ v → yH (ρ v) < yH (ρ t))) ∧ (b = false → (∀ m, rMk τ k m → rMk τ' k m) ∧ (gR g t ≠ v ∧ (g.K (gR g t) = 1 → rMk τ' k (gR g t))) ∧ ∀ m, m < g.n → rMk τ' k m → ¬ rMk τ k m → rMc g τ' k v m) := by
  intro F
  induction F with
  | zero =>
    intro t τ h ht hF
    have h2 := h.1.2
    have hr := gR_lt hK.1 ht
    rw [zE_isIn]
    unfold b_isIn
    rw [r_real (n := 0) hT h hK.1 ht]
    simp only [zci]
    by_cases c : gR g t = v
    · rw [if_pos (by rw [c])]
      refine ⟨true, τ, rfl, h, jFj.rf τ, fun _ ρ hρ => ⟨?_, fun z => absurd c z⟩, fun z => by cases z⟩
      rw [← c, gR_eq hK.1 ht hρ]
      exact Nat.le_refl _
    · rw [if_neg (fun z => c (nI_inj' (by omega) (by omega) z))]
      have hk : g.K (gR g t) ≠ 1 := fun z => by have := (gCh hK hs ht z).2.1; omega
      obtain ⟨⟨k5, e34⟩, -⟩ := h.2.2 _ hr
      simp only [zgd, zin_n (show gR g t < 9000 by omega) (by decide), if_true, nI_clamp (show gR g t < 2 ^ 31 by omega), e34]
      rw [if_neg (show ¬ rKd (g.K (gR g t)) = 4 from fun z => hk (rKd_inj (k := 1) k5 (by omega) z))]
      exact ⟨false, τ, rfl, h, jFj.rf τ, fun z => (by cases z), fun _ => ⟨fun _ z => z, ⟨c, fun z => absurd z hk⟩, fun m _ z z' => absurd z z'⟩⟩
  | succ F IH =>
    intro t τ h ht hF
    have h2 := h.1.2
    have hr := gR_lt hK.1 ht
    rw [zE_isIn]
    unfold b_isIn
    rw [r_real (n := F + 1) hT h hK.1 ht]
    simp only [zci]
    by_cases c : gR g t = v
    · rw [if_pos (by rw [c])]
      refine ⟨true, τ, rfl, h, jFj.rf τ, fun _ ρ hρ => ⟨?_, fun z => absurd c z⟩, fun z => by cases z⟩
      rw [← c, gR_eq hK.1 ht hρ]
      exact Nat.le_refl _
    · rw [if_neg (fun z => c (nI_inj' (by omega) (by omega) z))]
      obtain ⟨⟨k5, e34⟩, e35, -, s, s1, s2⟩ := h.2.2 _ hr
      simp only [zgd, zin_n (show gR g t < 9000 by omega) (by decide), if_true, nI_clamp (show gR g t < 2 ^ 31 by omega), e34]
      by_cases hk : g.K (gR g t) = 1
      · obtain ⟨⟨l1, l2⟩, l3, l4⟩ := gCh hK hs ht hk
        obtain ⟨e35, e36⟩ := e35 hk
        have lt2 : ∀ ρ, gS g ρ → yH (ρ (g.L (gR g t))) < yH (ρ t) ∧ yH (ρ (g.R (gR g t))) < yH (ρ t) := fun ρ hρ => (gCh hK hρ ht hk).2
        rw [if_pos (by rw [hk]; rfl)]
        by_cases c2 : τ.2.2.1 38 (gR g t) = τ.1 60
        · rw [if_pos c2]
          exact ⟨false, τ, rfl, h, jFj.rf τ, fun z => (by cases z), fun _ => ⟨fun _ z => z, ⟨c, fun _ => c2.trans h.2.1.1⟩, fun m _ z z' => absurd z z'⟩⟩
        · rw [if_neg c2]
          simp only [zlet]
          obtain ⟨τ1, hτ1⟩ : ∃ x, x = zA τ 38 (upd (τ.2.2.1 38) (gR g t) (τ.1 60)) := ⟨_, rfl⟩
          have h1 : rG τ1 g k := by rw [hτ1]; exact h.mk _
          have f1 : jFj τ τ1 := by rw [hτ1]; exact ⟨fun _ _ => rfl, rfl, fun q a b => if_neg b, rfl⟩
          have m1 : ∀ m, rMk τ1 k m ↔ (m = gR g t ∨ rMk τ k m) := fun m => by
            rw [hτ1]
            show upd (τ.2.2.1 38) (gR g t) (τ.1 60) m = nI k ↔ _
            by_cases q : m = gR g t
            · rw [q, upd_at]; exact ⟨fun _ => Or.inl rfl, fun _ => h.2.1.1⟩
            · rw [upd_ne _ _ q]; exact ⟨fun z => Or.inr z, fun z => by rcases z with z | z; exact absurd z q; exact z⟩
          have e35' : τ1.2.2.1 35 (gR g t) = nI (g.L (gR g t)) := by rw [hτ1]; exact e35
          rw [← hτ1, e35']
          obtain ⟨b, τ2, i1, i2, i3, i4, i5⟩ := IH (g.L (gR g t)) τ1 h1 l1 (by omega)
          rw [i1]
          simp only [zci]
          cases b with
          | true =>
            rw [if_neg (show ¬ b01 true = 0 by decide)]
            refine ⟨true, τ2, rfl, i2, f1.tr i3, fun _ ρ hρ => ?_, fun z => by cases z⟩
            have := (i4 rfl ρ hρ).1
            have := (lt2 ρ hρ).1
            omega
          | false =>
            rw [if_pos (show b01 false = 0 from rfl)]
            obtain ⟨j1, ⟨j2, j3⟩, j4⟩ := i5 rfl
            have e36' : τ2.2.2.1 36 (gR g t) = nI (g.R (gR g t)) := ((i2.2.2 _ hr).2.1 hk).2
            rw [e36']
            obtain ⟨b', τ3, q1, q2, q3, q4, q5⟩ := IH (g.R (gR g t)) τ2 i2 l2 (by omega)
            rw [q1]
            simp only [zci]
            cases b' with
            | true =>
              rw [if_neg (show ¬ b01 true = 0 by decide)]
              refine ⟨true, τ3, rfl, q2, (f1.tr i3).tr q3, fun _ ρ hρ => ?_, fun z => by cases z⟩
              have := (q4 rfl ρ hρ).1
              have := (lt2 ρ hρ).2
              omega
            | false =>
              rw [if_pos (show b01 false = 0 from rfl)]
              obtain ⟨p1, ⟨p2, p3⟩, p4⟩ := q5 rfl
              have up : ∀ m, rMc g τ2 k v m → rMc g τ3 k v m := fun m z => ⟨⟨z.1.1, fun y => p1 _ (z.1.2 y)⟩, ⟨z.2.1, fun y => p1 _ (z.2.2 y)⟩⟩
              refine ⟨false, τ3, rfl, q2, (f1.tr i3).tr q3, fun z => (by cases z), fun _ => ⟨fun m z => p1 m (j1 m ((m1 m).mpr (Or.inr z))), ⟨c, fun _ => p1 _ (j1 _ ((m1 _).mpr (Or.inl rfl)))⟩, fun m hm z z' => ?_⟩⟩
              by_cases y : rMk τ2 k m
              · by_cases y1 : rMk τ1 k m
                · rcases (m1 m).mp y1 with y2 | y2
                  · rw [y2]
                    exact ⟨⟨j2, fun w => p1 _ (j3 w)⟩, ⟨p2, p3⟩⟩
                  · exact absurd y2 z'
                · exact up m (j4 m hm y y1)
              · exact p4 m hm z y
      · rw [if_neg (show ¬ rKd (g.K (gR g t)) = 4 from fun z => hk (rKd_inj (k := 1) k5 (by omega) z))]
        exact ⟨false, τ, rfl, h, jFj.rf τ, fun z => (by cases z), fun _ => ⟨fun _ z => z, ⟨c, fun z => absurd z hk⟩, fun m _ z z' => absurd z z'⟩⟩
end RTY
