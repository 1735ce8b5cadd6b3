/-! the reference's words are the class's -/
/-- the rows hold the words -/
def rRow (K P E kk pp ee : Nat → Int32) (cnt : Nat) : Prop := ∀ j, j < cnt → K j = kMap (kk j) ∧ P j = pp j ∧ E j = ee j
theorem rRow.add {K P E kk pp ee : Nat → Int32} {cnt : Nat} {k v p e : Int32} (h : rRow K P E kk pp ee cnt) (hk : k = kMap v) : rRow (upd K cnt k) (upd P cnt p) (upd E cnt e) (upd kk cnt v) (upd pp cnt p) (upd ee cnt e) (cnt + 1) := fun j hj => by
  by_cases c : j = cnt
  · subst c
    simp [upd, hk]
  · have := h j (by omega)
    simp [upd, c, this]
/-- what the reference's state is behind its words -/
def rFin (τ : zSt) (ba : Int32) (len : Nat) (R : wRes) (σ : zSt) : Prop := ∃ (K P E : Nat → Int32) (c : Nat), σ = zI (rSt τ K P E c (if R.2.2.2.2 = -1 then 0 else 1) (if R.2.2.2.2 = -1 then ba else R.2.2.2.2)) 10 0 ∧ (R.2.2.2.2 = -1 → c = R.2.2.2.1 + 1 ∧ rRow K P E R.1 R.2.1 R.2.2.1 R.2.2.2.1 ∧ K R.2.2.2.1 = 0 ∧ P R.2.2.2.1 = nI len ∧ E R.2.2.2.1 = nI len)
theorem upd_at (K : Nat → Int32) (c : Nat) (v : Int32) : upd K c v c = v := by simp [upd]
theorem upd_upd (K : Nat → Int32) (c : Nat) (v w : Int32) : upd (upd K c v) c w = upd K c w := by
  funext j
  simp only [upd]
  split <;> rfl
theorem nI_nm1 {i : Nat} (h : i < 2 ^ 31) : ¬ nI i = -1 := fun e => by
  have := nI_pos' h
  rw [e] at this
  exact absurd this (by decide)
theorem rRow.low {K P E kk pp ee : Nat → Int32} {cnt : Nat} {k p e : Int32} (h : rRow K P E kk pp ee cnt) : rRow (upd K cnt k) (upd P cnt p) (upd E cnt e) kk pp ee cnt := fun j hj => by
  have c : ¬ j = cnt := by omega
  have := h j hj
  simp [upd, c, this]
theorem sB_S2 : ∀ k, k < 256 → bS (nI k) = true → kMap (nI k) = 3 := by decide +kernel
theorem kMap_S {b : Int32} (h : bS (b &&& 255) = true) : kMap (b &&& 255) = 3 := by
  obtain ⟨k, hk, ek⟩ := pk_andE b (m := 255) 8 (by decide)
  rw [ek] at h ⊢
  exact sB_S2 k hk h
theorem kMap_D {len i : Nat} {g : Nat → Int32} (h : dSg len g i ≠ 0) : kMap (dSg len g i) = 3 := by
  revert h
  unfold dSg
  repeat' split
  all_goals first | (intro _; decide) | (intro h; exact absurd rfl h)
theorem kMap_K {g : Nat → Int32} {a l : Nat} (s : Nat) : ∀ (m k i : Nat), 200 ≤ k → k + (120 - i) < 400 → kMap (kKind g a l m k s i) = if kKind g a l m k s i ≠ 1 then 3 else 1 := fun m k i hk hk2 => by
  have key : ∀ (m k s i : Nat), 200 ≤ k → k + (120 - i) < 400 → kKind g a l m k s i ≠ 2 := by
    intro m
    induction m with
    | zero => intro k s i _ _; rw [kKind]; decide
    | succ m ih =>
      intro k s i h1 h2
      rw [kKind]
      split
      · split
        · split
          · intro h
            have : (nI k).toInt = 2 := by rw [h]; rfl
            rw [nI_toInt (by omega)] at this
            omega
          · exact ih _ _ _ (by omega) (by omega)
        · exact ih _ _ _ (by omega) (by omega)
      · decide
  have := key m k s i hk hk2
  unfold kMap
  by_cases c : kKind g a l m k s i = 1
  · rw [if_pos c, if_neg (fun h => h c)]
  · rw [if_neg c, if_neg this, if_pos c]
section ORC
variable {ks : Nat → Nat} {qs : List Nat} {T n h0 len : Nat} {τ : zSt} {f : Nat → Int32} {ba : Int32}
set_option maxHeartbeats 2000000 in
theorem r_loop (hl : τ.1 4 = nI len) (hx : τ.2.2.1 1 = f) (hlen : len ≤ 2000) (hT : 2010 ≤ T) (hb : ∀ j, j < len → sB (f j)) : ∀ (t i : Nat) (K P E kk pp ee : Nat → Int32) (cnt : Nat), cnt ≤ i → i ≤ len → len + 1 < i + t → rRow K P E kk pp ee cnt → ∃ σ, l_readWords_7 T (zF h0 qs ks T (n + 1)) h0 qs ks t (nI i) (rSt τ K P E cnt 0 ba) = some (none, σ) ∧ rFin τ ba len (wLex T len (fun j => f j &&& 255) t i kk pp ee cnt) σ
  | 0, i, K, P, E, kk, pp, ee, cnt, _, _, ht, _ => by omega
  | t + 1, i, K, P, E, kk, pp, ee, cnt, hci, hi, ht, hr => by
    have e1 : ∀ (K P E : Nat → Int32) (cnt : Nat) (bad ba : Int32), (rSt τ K P E cnt bad ba).1 4 = nI len := fun _ _ _ _ _ _ => hl
    have e2 : ∀ (K P E : Nat → Int32) (cnt : Nat) (bad ba : Int32), (rSt τ K P E cnt bad ba).2.2.1 1 = f := fun _ _ _ _ _ _ => hx
    have e3 : ∀ (K P E : Nat → Int32) (cnt : Nat) (bad ba : Int32), (rSt τ K P E cnt bad ba).1 9 = nI cnt := fun _ _ _ _ _ _ => rfl
    have e4 : ∀ (K P E : Nat → Int32) (cnt : Nat) (bad ba : Int32), (rSt τ K P E cnt bad ba).2.2.1 4 = P := fun _ _ _ _ _ _ => rfl
    have e5 : ∀ (K P E : Nat → Int32) (cnt : Nat) (bad ba : Int32), (rSt τ K P E cnt bad ba).2.2.1 5 = E := fun _ _ _ _ _ _ => rfl
    -- a word that is none: the reference adds one all the same, and stops
    have stop : ∀ (x : Int32) (K P E : Nat → Int32) (c : Nat), c < 2010 → ∃ σ, l_readWords_7 T (zF h0 qs ks T (n + 1)) h0 qs ks t x (rSt τ K P E c 1 (nI i)) = some (none, σ) ∧ rFin τ ba len (kk, pp, ee, cnt, nI i) σ := fun x K P E c hc => by
      obtain ⟨t', rfl⟩ : ∃ t', t = t' + 1 := ⟨t - 1, by omega⟩
      refine ⟨_, (r_stop t').trans (r_fin hl hc), upd K c 0, upd P c (nI len), upd E c (nI len), c + 1, ?_, fun h => absurd h (nI_nm1 (by omega))⟩
      simp only [if_neg (nI_nm1 (show i < 2 ^ 31 by omega))]
    rw [l_readWords_7, wLex, e1]
    by_cases c1 : i < len
    · have z1 : zin (nI i) 2000 = true := decide_eq_true ⟨by rw [nI_toInt (by omega)]; omega, by rw [nI_toInt (by omega)]; omega⟩
      have hbi := hb i c1
      have q1 := sB_eq hbi (c := 32) (by decide) (by decide)
      have q2 := sB_eq hbi (c := 10) (by decide) (by decide)
      rw [if_neg (nI_ge c1 (by omega)), if_pos c1, if_pos (show (rSt τ K P E cnt 0 ba).1 11 = 0 from rfl)]
      simp only [zgd, z1, if_true, nI_clamp (show i < 2 ^ 31 by omega), e2, j_readWords_43, nI_1]
      by_cases c2 : f i = 32
      · rw [if_pos c2, if_pos (q1.mp c2)]
        exact r_loop hl hx hlen hT hb t (i + 1) K P E kk pp ee cnt (by omega) (by omega) (by omega) hr
      · rw [if_neg c2, if_neg (fun h => c2 (q1.mpr h))]
        by_cases c3 : f i = 10
        · rw [if_pos c3, if_pos (q2.mp c3)]
          exact r_loop hl hx hlen hT hb t (i + 1) K P E kk pp ee cnt (by omega) (by omega) (by omega) hr
        · rw [if_neg c3, if_neg (fun h => c3 (q2.mpr h))]
          simp only [r_isLow, r_isDigit, zci, b01_0, sB_bL hbi, sB_bD hbi]
          have sub : ∀ e, i ≤ e → e ≤ len → nI e - nI i = nI (e - i) := fun e h1 h2 => by
            obtain ⟨d, rfl⟩ : ∃ d, e = i + d := ⟨e - i, by omega⟩
            rw [← nI_add, Nat.add_sub_cancel_left, Int32.add_comm, Int32.add_sub_cancel]
          cases g1 : bL (f i &&& 255) with
          | true =>
            rw [if_neg (show ¬ true = false by decide)]
            rw [r_name hl hx hlen hb T i (by omega) (by omega)]
            have hrun : wRun len (fun j => f j &&& 255) true T i = wRun len (fun j => f j &&& 255) true len (i + 1) := by
              obtain ⟨T', rfl⟩ : ∃ T', T = T' + 1 := ⟨T - 1, by omega⟩
              rw [wRun, if_pos c1, if_pos (show bC (f i &&& 255) true = true by simp [bC, g1])]
              exact wRun_fuel T' len (i + 1) (by omega) (by omega)
            rw [hrun]
            have w1 := wRun_ge len (fun j => f j &&& 255) true len (i + 1)
            have w2 := wRun_le len (fun j => f j &&& 255) true len (i + 1) (by omega)
            have hwe : wEnd len (fun j => f j &&& 255) i = if wRun len (fun j => f j &&& 255) true len (i + 1) - i ≤ 10 then wRun len (fun j => f j &&& 255) true len (i + 1) else i := by
              unfold wEnd
              rw [if_pos g1]
            rw [hwe]
            generalize wRun len (fun j => f j &&& 255) true len (i + 1) = e at w1 w2 ⊢
            have zc : zin (nI cnt) 2010 = true := decide_eq_true ⟨by rw [nI_toInt (by omega)]; omega, by rw [nI_toInt (by omega)]; omega⟩
            -- what j_119 does
            have step : ∀ (bad b : Int32), j_readWords_119 T (zF h0 qs ks T (n + 1)) h0 qs ks (l_readWords_7 T (zF h0 qs ks T (n + 1)) h0 qs ks t) (nI i) (nI e) (rSt τ K P E cnt bad b) = l_readWords_7 T (zF h0 qs ks T (n + 1)) h0 qs ks t (nI e) (rSt τ (upd K cnt (kMap (kKind (fun j => f j &&& 255) i (e - i) T 200 0 0))) (upd P cnt (nI i)) (upd E cnt (nI e)) (cnt + 1) bad b) := fun bad b => by
              unfold j_readWords_119 j_readWords_438
              rw [r_word (show cnt < 2010 by omega)]
              simp only [zcv, e3, nI_pred]
              rw [r_key (n := n) (c := cnt) (a := i) (e := e) (len := len) (by omega) (e2 _ _ _ _ _ _) (by rw [e4, upd_at]) (by rw [e5, upd_at]) (by omega) w2 hlen hT hb]
              simp only [zci, b01_0, e3, nI_pred, zgd, zc, if_true, zlet, nI_clamp (show cnt < 2 ^ 31 by omega)]
              rw [r_kind 3 (show cnt < 2010 by omega), upd_upd, kMap_K 0 T 200 0 (by omega) (by omega)]
              by_cases k1 : kKind (fun j => f j &&& 255) i (e - i) T 200 0 0 = 1
              · rw [if_pos (by simp [k1]), if_neg (by simp [k1])]
              · rw [if_neg (by simp [k1]), if_pos k1]
            unfold j_readWords_105
            rw [sub e (by omega) w2]
            by_cases c5 : e - i ≤ 10
            · rw [if_pos (show nI (e - i) ≤ 10 from nI_le (b := 10) c5 (by omega)), step]
              simp only [if_pos c5]
              rw [if_neg (show ¬ e ≤ i by omega)]
              have hk : wKind T len (fun j => f j &&& 255) i e = kKind (fun j => f j &&& 255) i (e - i) T 200 0 0 := by
                unfold wKind
                rw [if_pos g1]
              rw [hk]
              exact r_loop hl hx hlen hT hb t e _ _ _ _ _ _ (cnt + 1) (by omega) w2 (by omega) (hr.add rfl)
            · rw [if_neg (show ¬ nI (e - i) ≤ 10 from nI_ge (a := 10) (by omega) (by omega)), r_fault]
              simp only [zcv, step, if_neg c5]
              rw [if_pos (Nat.le_refl _)]
              exact stop _ _ _ _ _ (by omega)
          | false =>
            rw [if_pos rfl]
            cases g2 : bD (f i &&& 255) with
            | true =>
              rw [if_neg (show ¬ true = false by decide)]
              rw [r_num hl hx hlen hb T i (by omega) (by omega)]
              have hrun : wRun len (fun j => f j &&& 255) false T i = wRun len (fun j => f j &&& 255) false len (i + 1) := by
                obtain ⟨T', rfl⟩ : ∃ T', T = T' + 1 := ⟨T - 1, by omega⟩
                rw [wRun, if_pos c1, if_pos (show bC (f i &&& 255) false = true by simp [bC, g2])]
                exact wRun_fuel T' len (i + 1) (by omega) (by omega)
              rw [hrun]
              have w1 := wRun_ge len (fun j => f j &&& 255) false len (i + 1)
              have w2 := wRun_le len (fun j => f j &&& 255) false len (i + 1) (by omega)
              have hwe : wEnd len (fun j => f j &&& 255) i = if wRun len (fun j => f j &&& 255) false len (i + 1) - i ≤ 4 then wRun len (fun j => f j &&& 255) false len (i + 1) else i := by
                unfold wEnd
                rw [if_neg (by rw [g1]; decide), if_pos g2]
              rw [hwe]
              generalize wRun len (fun j => f j &&& 255) false len (i + 1) = e at w1 w2 ⊢
              have step : ∀ (bad b : Int32), j_readWords_200 T (zF h0 qs ks T (n + 1)) h0 qs ks (l_readWords_7 T (zF h0 qs ks T (n + 1)) h0 qs ks t) (nI i) (nI e) (rSt τ K P E cnt bad b) = l_readWords_7 T (zF h0 qs ks T (n + 1)) h0 qs ks t (nI e) (rSt τ (upd K cnt 2) (upd P cnt (nI i)) (upd E cnt (nI e)) (cnt + 1) bad b) := fun bad b => by
                unfold j_readWords_200 j_readWords_438
                rw [r_word (show cnt < 2010 by omega)]
                simp only [zcv]
              unfold j_readWords_187
              rw [sub e (by omega) w2]
              by_cases c5 : e - i ≤ 4
              · rw [if_pos (show nI (e - i) ≤ 4 from nI_le (b := 4) c5 (by omega)), step]
                simp only [if_pos c5]
                rw [if_neg (show ¬ e ≤ i by omega)]
                have hk : wKind T len (fun j => f j &&& 255) i e = 2 := by
                  unfold wKind
                  rw [if_neg (by rw [g1]; decide), if_pos g2]
                rw [hk]
                exact r_loop hl hx hlen hT hb t e _ _ _ _ _ _ (cnt + 1) (by omega) w2 (by omega) (hr.add (by decide))
              · rw [if_neg (show ¬ nI (e - i) ≤ 4 from nI_ge (a := 4) (by omega) (by omega)), r_fault]
                simp only [zcv, step, if_neg c5]
                rw [if_pos (Nat.le_refl _)]
                exact stop _ _ _ _ _ (by omega)
            | false =>
              rw [if_pos rfl, e1]
              have hwe : wEnd len (fun j => f j &&& 255) i = if dSg len (fun j => f j &&& 255) i = 0 then (if bS (f i &&& 255) = true then i + 1 else i) else i + 2 := by
                unfold wEnd
                rw [if_neg (by rw [g1]; decide), if_neg (by rw [g2]; decide)]
              have hkd : ∀ e, wKind T len (fun j => f j &&& 255) i e = if e - i = 2 then dSg len (fun j => f j &&& 255) i else f i &&& 255 := fun e => by
                unfold wKind
                rw [if_neg (by rw [g1]; decide), if_neg (by rw [g2]; decide)]
              rw [hwe]
              -- what j_429 does
              have step : ∀ (d : Nat) (dd bad b : Int32), dd = nI d → j_readWords_429 T (zF h0 qs ks T (n + 1)) h0 qs ks (l_readWords_7 T (zF h0 qs ks T (n + 1)) h0 qs ks t) (nI i) (nI i) dd (rSt τ K P E cnt bad b) = l_readWords_7 T (zF h0 qs ks T (n + 1)) h0 qs ks t (nI (i + d)) (rSt τ (upd K cnt 3) (upd P cnt (nI i)) (upd E cnt (nI (i + d))) (cnt + 1) bad b) := fun d dd bad b hd => by
                unfold j_readWords_429 j_readWords_438
                rw [hd, nI_add, r_word (show cnt < 2010 by omega)]
                simp only [zcv]
              -- the two ways to the sign are one
              have both : ∀ (y : Int32), (dBl (f i) y ↔ ¬ dSg len (fun j => f j &&& 255) i = 0) → ∃ σ, j_readWords_232 T (zF h0 qs ks T (n + 1)) h0 qs ks (l_readWords_7 T (zF h0 qs ks T (n + 1)) h0 qs ks t) (nI i) (f i) y (rSt τ K P E cnt 0 ba) = some (none, σ) ∧ rFin τ ba len (if (if dSg len (fun j => f j &&& 255) i = 0 then (if bS (f i &&& 255) = true then i + 1 else i) else i + 2) ≤ i then (kk, pp, ee, cnt, nI i) else wLex T len (fun j => f j &&& 255) t (if dSg len (fun j => f j &&& 255) i = 0 then (if bS (f i &&& 255) = true then i + 1 else i) else i + 2) (upd kk cnt (wKind T len (fun j => f j &&& 255) i (if dSg len (fun j => f j &&& 255) i = 0 then (if bS (f i &&& 255) = true then i + 1 else i) else i + 2))) (upd pp cnt (nI i)) (upd ee cnt (nI (if dSg len (fun j => f j &&& 255) i = 0 then (if bS (f i &&& 255) = true then i + 1 else i) else i + 2))) (cnt + 1)) σ := fun y hy => by
                rw [r_sign]
                by_cases d1 : dSg len (fun j => f j &&& 255) i = 0
                · rw [if_neg (fun h => hy.mp h d1)]
                  simp only [if_pos d1, sB_bS hbi]
                  by_cases d2 : bS (f i &&& 255) = true
                  · simp only [if_pos d2]
                    rw [step 1 1 0 ba rfl, if_neg (show ¬ i + 1 ≤ i by omega), hkd, if_neg (show ¬ i + 1 - i = 2 by omega)]
                    exact r_loop hl hx hlen hT hb t (i + 1) _ _ _ _ _ _ (cnt + 1) (by omega) (by omega) (by omega) (hr.add (kMap_S d2).symm)
                  · simp only [if_neg d2]
                    rw [r_fault, if_pos (Nat.le_refl _)]
                    simp only [zcv]
                    rw [step 1 1 1 (nI i) rfl]
                    exact stop _ _ _ _ _ (by omega)
                · rw [if_pos (hy.mpr d1)]
                  simp only [if_neg d1]
                  have c8 : i + 1 < len := by
                    have := mt dSg_0.mpr d1
                    exact (Classical.not_not.mp this).1
                  rw [step 2 2 0 ba rfl, if_neg (show ¬ i + 2 ≤ i by omega), hkd, if_pos (show i + 2 - i = 2 by omega)]
                  exact r_loop hl hx hlen hT hb t (i + 2) _ _ _ _ _ _ (cnt + 1) (by omega) (by omega) (by omega) (hr.add (kMap_D d1).symm)
              by_cases c6 : i + 1 < len
              · have z2 : zin (nI (i + 1)) 2000 = true := decide_eq_true ⟨by rw [nI_toInt (by omega)]; omega, by rw [nI_toInt (by omega)]; omega⟩
                rw [if_neg (nI_ge c6 (by omega)), if_pos z2, nI_clamp (show i + 1 < 2 ^ 31 by omega)]
                refine both _ ?_
                rw [e2, sB_dBl hbi (hb (i + 1) c6), dSg_0, Classical.not_not]
                exact ⟨fun h => ⟨c6, h⟩, fun h => h.2⟩
              · rw [if_pos (nI_le (by omega) (by omega))]
                refine both _ ?_
                rw [dSg_0, Classical.not_not]
                refine ⟨fun h => absurd h ?_, fun h => absurd h.1 c6⟩
                unfold dBl
                rintro (⟨-, h⟩ | ⟨-, h⟩ | ⟨-, h⟩ | ⟨-, h⟩) <;> exact absurd h (by decide)
    · rw [if_pos (nI_le (by omega) (by omega)), if_neg c1, r_fin hl (show cnt < 2010 by omega)]
      refine ⟨_, rfl, upd K cnt 0, upd P cnt (nI len), upd E cnt (nI len), cnt + 1, rfl, fun _ => ⟨rfl, hr.low, upd_at _ _ _, upd_at _ _ _, upd_at _ _ _⟩⟩
/-- the reference reads its words: they are wLex's -/
theorem r_words {kk pp ee : Nat → Int32} (hl : τ.1 4 = nI len) (hx : τ.2.2.1 1 = f) (h11 : τ.1 11 = 0) (hlen : len ≤ 2000) (hT : 2010 ≤ T) (hb : ∀ j, j < len → sB (f j)) : ∃ σ, zF h0 qs ks T (n + 2) 9 [.ref h0] τ = some (none, σ) ∧ rFin τ (τ.1 12) len (wLex T len (fun j => f j &&& 255) T 0 kk pp ee 0) σ := by
  have e0 : zI τ 9 0 = rSt τ (τ.2.2.1 3) (τ.2.2.1 4) (τ.2.2.1 5) 0 0 (τ.1 12) := by
    refine Prod.ext (funext fun j => ?_) (Prod.ext rfl (Prod.ext (funext fun j => ?_) rfl))
    · simp only [rSt, zI, zA]
      by_cases h1 : j = 12
      · simp [h1]
      · by_cases h2 : j = 11
        · simp [h2, h11]
        · simp [h1, h2]
          rfl
    · simp only [rSt, zI, zA]
      by_cases h1 : j = 5
      · simp [h1]
      · by_cases h2 : j = 4
        · simp [h2]
        · by_cases h3 : j = 3
          · simp [h3]
          · simp [h1, h2, h3]
  obtain ⟨σ, h1, h2⟩ := r_loop (h0 := h0) (qs := qs) (ks := ks) (n := n) (ba := τ.1 12) hl hx hlen hT hb T 0 (τ.2.2.1 3) (τ.2.2.1 4) (τ.2.2.1 5) kk pp ee 0 (Nat.le_refl _) (Nat.zero_le _) (by omega) (fun j hj => by omega)
  refine ⟨σ, ?_, h2⟩
  rw [zE_readWords]
  unfold b_readWords
  rw [e0]
  exact h1
end ORC
