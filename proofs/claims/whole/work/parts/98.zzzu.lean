/-! NAMES over a tree as the reference goes -/
/-- those that count are l again -/
def kBk (l : List Nat) (q : kSt) : kSt := (l, q.2)
/-- told and counted -/
def kTc (f pp ee : Nat → Int32) (w : Nat) (q : kSt) : kSt := kCnt f pp ee q.2.1.length (kTell w q)
def kPar (f pp ee : Nat → Int32) : Nat → Nat → kSt → kSt
  | 0, _, q => q
  | n + 1, w, q => kPar f pp ee n (w + 1) (kTc f pp ee w q)
def kT (f pp ee : Nat → Int32) : tT → kSt → kSt
  | .leaf, q => q
  | .inner g d _ a b, q =>
    if g = 1 then kBk q.1 (kT f pp ee b (kCnt f pp ee q.2.1.length (kT f pp ee a (kTell (d.1 + 1) q))))
    else if g = 2 then kBk q.1 (kT f pp ee b (kBk (q.1 ++ [q.2.1.length]) (kT f pp ee a (kPar f pp ee d.2.1 (d.1 + 3) (kTc f pp ee (d.1 + 2) q)))))
    else if g = 3 then kBk q.1 (kT f pp ee a (kTc f pp ee (d.1 + 1) q))
    else if g = 4 ∨ g = 5 then kT f pp ee b (kCt f pp ee a q)
    else if g = 6 then kT f pp ee a (kPs f pp ee d.2.2.2.2.2 (kPs f pp ee d.2.2.2.1.2 (kUse f pp ee (d.1 + 1) q)))
    else if g = 14 then kPs f pp ee d.2.2.2.1.2 (kUse f pp ee d.1 q)
    else if g = 15 then kT f pp ee a (kUse f pp ee d.1 q)
    else if g = 18 then kUse f pp ee d.2.1 (kPs f pp ee d.2.2.2.1.2 q)
    else if g = 19 then kBk q.1 (kT f pp ee b (kTc f pp ee (d.2.1 + 1) (kTc f pp ee d.2.1 (kT f pp ee a (kUse f pp ee (d.1 + 1) q)))))
    else kT f pp ee b (kT f pp ee a (kPs f pp ee d.2.2.2.2.2 (kPs f pp ee d.2.2.2.1.2 q)))
/-- an E (0), two of them (1), ARGS (2): words in range, and nothing that has no place -/
def tWf (kk : Nat → Int32) (cnt : Nat) : tT → Nat → Prop
  | .leaf, l => l = 2
  | .inner g d _ a b, l =>
    (l = 1 ∧ g = 31 ∧ (d.2.2.2.1.2 = [] ∧ d.2.2.2.2.2 = []) ∧ tWf kk cnt a 0 ∧ tWf kk cnt b 0) ∨
    (l = 2 ∧ d.2.2.2.2.2 = [] ∧ tWf kk cnt b 2 ∧ ((g = 33 ∧ pOk cnt d.2.2.2.1.2 ∧ a = .leaf) ∨ (g = 34 ∧ d.2.2.2.1.2 = [] ∧ tWf kk cnt a 0) ∨ (g = 35 ∧ d.2.2.2.1.2 = [] ∧ a = .leaf ∧ d.2.1 ≤ 1))) ∨
    (l = 0 ∧ (
      (g = 1 ∧ d.1 + 1 < cnt ∧ tWf kk cnt a 0 ∧ tWf kk cnt b 0) ∨
      (g = 2 ∧ (d.2.1 ≤ 4 ∧ d.1 + 3 + d.2.1 ≤ cnt ∧ (∀ i, i < d.2.1 → aIs kk 1 (d.1 + 3 + i) = true) ∧ aIs kk 1 (d.1 + 3 + d.2.1) = false) ∧ tWf kk cnt a 0 ∧ tWf kk cnt b 0) ∨
      (g = 3 ∧ d.1 + 1 < cnt ∧ tWf kk cnt a 0) ∨
      (g = 4 ∧ cWf cnt a false ∧ tWf kk cnt b 1) ∨
      (g = 5 ∧ cWf cnt a false ∧ tWf kk cnt b 0) ∨
      (g = 6 ∧ d.1 + 1 < cnt ∧ (pOk cnt d.2.2.2.1.2 ∧ pOk cnt d.2.2.2.2.2) ∧ tWf kk cnt a 0) ∨
      ((g = 7 ∨ g = 10) ∧ pOk cnt d.2.2.2.1.2 ∧ d.2.2.2.2.2 = [] ∧ a = .leaf ∧ b = .leaf) ∨
      ((g = 8 ∨ g = 9 ∨ g = 17) ∧ (d.2.2.2.1.2 = [] ∧ d.2.2.2.2.2 = []) ∧ a = .leaf ∧ b = .leaf) ∨
      ((g = 11 ∨ g = 12 ∨ g = 13) ∧ (pOk cnt d.2.2.2.1.2 ∧ pOk cnt d.2.2.2.2.2) ∧ a = .leaf ∧ b = .leaf) ∨
      (g = 14 ∧ d.1 < cnt ∧ pOk cnt d.2.2.2.1.2) ∨
      (g = 15 ∧ d.1 < cnt ∧ tWf kk cnt a 2) ∨
      (g = 16 ∧ (d.2.2.2.1.2 = [] ∧ d.2.2.2.2.2 = []) ∧ tWf kk cnt a 0 ∧ b = .leaf) ∨
      (g = 18 ∧ d.2.1 < cnt ∧ pOk cnt d.2.2.2.1.2) ∨
      (g = 19 ∧ (d.1 + 1 < cnt ∧ d.2.1 + 1 < cnt) ∧ tWf kk cnt a 0 ∧ tWf kk cnt b 0)))
/-- how many levels of E -/
def tH : tT → Nat
  | .leaf => 0
  | .inner g _ _ a b => if g = 31 ∨ g = 33 ∨ g = 34 ∨ g = 35 then max (tH a) (tH b) else if g = 4 ∨ g = 5 then tH b + 1 else max (tH a) (tH b) + 1
/-- how deep the reference goes within -/
def tD : tT → Nat
  | .leaf => 0
  | .inner g _ _ a b => if g = 4 ∨ g = 5 then max (kD a) (tD b) + 1 else max (tD a) (tD b) + 1
section KTT
variable {f pp ee : Nat → Int32}
theorem kBad_12 (w : Nat) (q : kSt) : (kBad pp w q).1 = q.1 ∧ (kBad pp w q).2.1 = q.2.1 := ⟨rfl, rfl⟩
theorem kEnd_12 (d : Nat) (q : kSt) : (kEnd pp d q).1 = q.1 ++ [d] ∧ (kEnd pp d q).2.1 = q.2.1 := by
  unfold kEnd
  refine ⟨rfl, ?_⟩
  show (if q.1.length < 12 then q else kBad pp (kW q.2.1 d) q).2.1 = q.2.1
  split <;> rfl
theorem kCnt_12 (d : Nat) (q : kSt) : (kCnt f pp ee d q).1 = q.1 ++ [d] ∧ (kCnt f pp ee d q).2.1 = q.2.1 := by
  unfold kCnt
  have h : ∀ (c : Prop) [Decidable c], (kEnd pp d (if c then kBad pp (kW q.2.1 d) q else q)).1 = q.1 ++ [d] ∧ (kEnd pp d (if c then kBad pp (kW q.2.1 d) q else q)).2.1 = q.2.1 := fun c _ => by
    split
    · exact kEnd_12 d (kBad pp (kW q.2.1 d) q)
    · exact kEnd_12 d q
  exact h _
theorem kTc_12 (w : Nat) (q : kSt) : (kTc f pp ee w q).1 = q.1 ++ [q.2.1.length] ∧ (kTc f pp ee w q).2.1 = q.2.1 ++ [w] := kCnt_12 q.2.1.length (kTell w q)
theorem kPar_12 : ∀ (n w : Nat) (q : kSt), (kPar f pp ee n w q).1 = q.1 ++ List.range' q.2.1.length n ∧ (kPar f pp ee n w q).2.1 = q.2.1 ++ List.range' w n
  | 0, w, q => ⟨(List.append_nil _).symm, (List.append_nil _).symm⟩
  | n + 1, w, q => by
    have h := kPar_12 n (w + 1) (kTc f pp ee w q)
    have g := kTc_12 (f := f) (pp := pp) (ee := ee) w q
    rw [g.1, g.2, List.length_append, List.append_assoc, List.append_assoc] at h
    rw [List.range'_succ, List.range'_succ]
    exact h
theorem kT_12 : ∀ (t : tT) (q : kSt), (kT f pp ee t q).1 = q.1 ∧ (kT f pp ee t q).2.1 = q.2.1 ++ tW t
  | .leaf, q => ⟨rfl, (List.append_nil _).symm⟩
  | .inner g d _ a b, q => by
    have Ia := kT_12 a
    have Ib := kT_12 b
    unfold kT tW
    by_cases c1 : g = 1
    · rw [if_pos c1, if_pos c1]
      refine ⟨rfl, ?_⟩
      show (kT f pp ee b _).2.1 = _
      rw [(Ib _).2, (kCnt_12 _ _).2, (Ia _).2]
      show ((q.2.1 ++ [d.1 + 1]) ++ tW a) ++ tW b = _
      simp
    rw [if_neg c1, if_neg c1]
    by_cases c2 : g = 2
    · rw [if_pos c2, if_pos c2]
      refine ⟨rfl, ?_⟩
      show (kT f pp ee b _).2.1 = _
      rw [(Ib _).2]
      show (kT f pp ee a _).2.1 ++ tW b = _
      rw [(Ia _).2, (kPar_12 _ _ _).2, (kTc_12 _ _).2]
      simp
    rw [if_neg c2, if_neg c2]
    by_cases c3 : g = 3
    · rw [if_pos c3, if_pos c3]
      refine ⟨rfl, ?_⟩
      show (kT f pp ee a _).2.1 = _
      rw [(Ia _).2, (kTc_12 _ _).2]
      simp
    rw [if_neg c3, if_neg c3]
    by_cases c4 : g = 4 ∨ g = 5
    · rw [if_pos c4, if_pos c4, (Ib _).1, (Ib _).2, (kCt_12 _ _).1, (kCt_12 _ _).2]
      exact ⟨rfl, rfl⟩
    rw [if_neg c4, if_neg c4]
    by_cases c6 : g = 6
    · rw [if_pos c6, if_pos (Or.inl c6), (Ia _).1, (Ia _).2, (kPs_12 _ _).1, (kPs_12 _ _).2, (kPs_12 _ _).1, (kPs_12 _ _).2, (kUse_12 _ _).1, (kUse_12 _ _).2]
      exact ⟨rfl, rfl⟩
    rw [if_neg c6]
    by_cases c14 : g = 14
    · rw [if_pos c14, if_neg (by omega), if_pos (Or.inl c14), (kPs_12 _ _).1, (kPs_12 _ _).2, (kUse_12 _ _).1, (kUse_12 _ _).2]
      exact ⟨rfl, (List.append_nil _).symm⟩
    rw [if_neg c14]
    by_cases c15 : g = 15
    · rw [if_pos c15, if_pos (Or.inr c15), (Ia _).1, (Ia _).2, (kUse_12 _ _).1, (kUse_12 _ _).2]
      exact ⟨rfl, rfl⟩
    rw [if_neg c15, if_neg (show ¬ (g = 6 ∨ g = 15) by omega)]
    by_cases c18 : g = 18
    · rw [if_pos c18, if_pos (Or.inr c18), (kUse_12 _ _).1, (kUse_12 _ _).2, (kPs_12 _ _).1, (kPs_12 _ _).2]
      exact ⟨rfl, (List.append_nil _).symm⟩
    rw [if_neg c18, if_neg (show ¬ (g = 14 ∨ g = 18) by omega)]
    by_cases c19 : g = 19
    · rw [if_pos c19, if_pos c19]
      refine ⟨rfl, ?_⟩
      show (kT f pp ee b _).2.1 = _
      rw [(Ib _).2, (kTc_12 _ _).2, (kTc_12 _ _).2, (Ia _).2, (kUse_12 _ _).2]
      simp
    rw [if_neg c19, if_neg c19, (Ib _).1, (Ib _).2, (Ia _).1, (Ia _).2, (kPs_12 _ _).1, (kPs_12 _ _).2, (kPs_12 _ _).1, (kPs_12 _ _).2]
    exact ⟨rfl, by simp⟩
theorem tWf_tW {kk : Nat → Int32} {cnt : Nat} : ∀ (t : tT) (l : Nat), tWf kk cnt t l → ∀ w ∈ tW t, w < cnt
  | .leaf, _, _, w, hw => by cases hw
  | .inner g d z a b, l, h, w, hw => by
    have Ia := tWf_tW (kk := kk) (cnt := cnt) a
    have Ib := tWf_tW (kk := kk) (cnt := cnt) b
    have nl : ∀ {x : Nat}, x ∈ tW tZ → False := fun h => by cases h
    rcases h with ⟨-, rfl, -, ha, hb⟩ | ⟨-, -, hb, h⟩ | ⟨-, h⟩
    · rcases List.mem_append.mp hw with h | h
      · exact Ia _ ha w h
      · exact Ib _ hb w h
    · rcases h with ⟨rfl, -, rfl⟩ | ⟨rfl, -, ha⟩ | ⟨rfl, -, rfl, -⟩
      · exact Ib _ hb w hw
      · rcases List.mem_append.mp hw with h | h
        · exact Ia _ ha w h
        · exact Ib _ hb w h
      · exact Ib _ hb w hw
    · rcases h with ⟨rfl, h1, ha, hb⟩ | ⟨rfl, ⟨-, h1, -, -⟩, ha, hb⟩ | ⟨rfl, h1, ha⟩ | ⟨rfl, -, hb⟩ | ⟨rfl, -, hb⟩ | ⟨rfl, -, -, ha⟩ | ⟨hg, -, -, rfl, rfl⟩ | ⟨hg, -, rfl, rfl⟩ | ⟨hg, -, rfl, rfl⟩ | ⟨rfl, -, -⟩ | ⟨rfl, -, ha⟩ | ⟨rfl, -, ha, rfl⟩ | ⟨rfl, -, -⟩ | ⟨rfl, ⟨h1, h2⟩, ha, hb⟩
      · rcases List.mem_cons.mp hw with h | h
        · omega
        rcases List.mem_append.mp h with h | h
        · exact Ia _ ha w h
        · exact Ib _ hb w h
      · rcases List.mem_cons.mp hw with h | h
        · omega
        rcases List.mem_append.mp h with h | h
        · rw [List.mem_range'_1] at h; omega
        rcases List.mem_append.mp h with h | h
        · exact Ia _ ha w h
        · exact Ib _ hb w h
      · rcases List.mem_cons.mp hw with h | h
        · omega
        exact Ia _ ha w h
      · exact Ib _ hb w hw
      · exact Ib _ hb w hw
      · exact Ia _ ha w hw
      · rcases hg with rfl | rfl <;> cases hw
      · rcases hg with rfl | rfl | rfl <;> cases hw
      · rcases hg with rfl | rfl | rfl <;> cases hw
      · cases hw
      · exact Ia _ ha w hw
      · rcases List.mem_append.mp hw with h | h
        · exact Ia _ ha w h
        · cases h
      · cases hw
      · rcases List.mem_append.mp hw with h | h
        · exact Ia _ ha w h
        rcases List.mem_append.mp h with h | h
        · rcases List.mem_cons.mp h with h | h
          · omega
          rw [List.mem_singleton] at h
          omega
        · exact Ib _ hb w h
end KTT
