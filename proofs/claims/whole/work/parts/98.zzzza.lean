/-! the least wrong place -/
/-- as the reference looks a NAME up -/
def kFd (f pp ee : Nat → Int32) (env : List Nat) (w : Nat) : Bool := env.any (fun u => wEq f pp ee u w)
/-- the words that count -/
def kEnv (q : kSt) : List Nat := q.1.map (kW q.2.1)
def kK (q : kSt) : Prop := ∀ d ∈ q.1, d < q.2.1.length
/-- r is the least place among l, or -1 -/
def isL (pp : Nat → Int32) (r : Int32) (l : List Nat) : Prop := (r = -1 ∧ ∀ w, w ∉ l) ∨ ∃ w, w ∈ l ∧ r = pp w ∧ ∀ u, u ∈ l → pp w ≤ pp u
section LST
variable {f pp ee : Nat → Int32}
theorem kFd_c {env : List Nat} {w : Nat} (h : env.length ≤ 12) : kFd f pp ee env w = cFd f pp ee env w := by
  unfold kFd cFd nFind
  rw [List.take_of_length_le h]
  induction env with
  | nil => rfl
  | cons x xs IH =>
    rw [List.any_cons, List.find?_cons]
    cases e : wEq f pp ee x w with
    | true => rfl
    | false => rw [Bool.false_or]; exact IH (by rw [List.length_cons] at h; omega)
theorem isL.cg {r : Int32} {l l' : List Nat} (h : isL pp r l) (e : ∀ w, w ∈ l ↔ w ∈ l') : isL pp r l' := by
  rcases h with ⟨h1, h2⟩ | ⟨w, h1, h2, h3⟩
  · exact Or.inl ⟨h1, fun w hw => h2 w ((e w).mpr hw)⟩
  · exact Or.inr ⟨w, (e w).mp h1, h2, fun u hu => h3 u ((e u).mpr hu)⟩
theorem isL.bad (hp : ∀ w, 0 ≤ pp w) {r : Int32} {l : List Nat} (h : isL pp r l) (w : Nat) : isL pp (if r < 0 then pp w else if r ≤ pp w then r else pp w) (l ++ [w]) := by
  rcases h with ⟨h1, h2⟩ | ⟨v, h1, h2, h3⟩
  · rw [h1, if_pos (by decide)]
    refine Or.inr ⟨w, List.mem_append_right _ (List.mem_singleton_self _), rfl, fun u hu => ?_⟩
    rcases List.mem_append.mp hu with z | z
    · exact absurd z (h2 u)
    · rw [List.mem_singleton.mp z]; exact Int32.le_refl _
  · have h0 : ¬ r < 0 := by
      rw [h2]
      intro z
      have := hp v
      rw [Int32.le_iff_toInt_le] at this
      rw [Int32.lt_iff_toInt_lt] at z
      omega
    rw [if_neg h0]
    by_cases c : r ≤ pp w
    · rw [if_pos c]
      refine Or.inr ⟨v, List.mem_append_left _ h1, h2, fun u hu => ?_⟩
      rcases List.mem_append.mp hu with z | z
      · exact h3 u z
      · rw [List.mem_singleton.mp z, ← h2]; exact c
    · rw [if_neg c]
      refine Or.inr ⟨w, List.mem_append_right _ (List.mem_singleton_self _), rfl, fun u hu => ?_⟩
      rcases List.mem_append.mp hu with z | z
      · have := h3 u z
        rw [← h2] at this
        rw [Int32.le_iff_toInt_le] at this c ⊢
        omega
      · rw [List.mem_singleton.mp z]; exact Int32.le_refl _
theorem kEnv_eq {q q' : kSt} {l : List Nat} (hk : kK q) (h1 : q'.1 = q.1) (h2 : q'.2.1 = q.2.1 ++ l) : kEnv q' = kEnv q := by
  unfold kEnv
  rw [h1, h2]
  refine List.map_congr_left (fun d hd => ?_)
  unfold kW
  rw [List.getD_eq_getElem?_getD, List.getD_eq_getElem?_getD, List.getElem?_append_left (hk d hd)]
theorem kEnv_same {q q' : kSt} (h : q'.1 = q.1 ∧ q'.2.1 = q.2.1) : kEnv q' = kEnv q := by
  unfold kEnv
  rw [h.1, h.2]
theorem kEnv_Ps (ps : List tP) (q : kSt) : kEnv (kPs f pp ee ps q) = kEnv q := kEnv_same (kPs_12 _ _)
theorem kEnv_Use (w : Nat) (q : kSt) : kEnv (kUse f pp ee w q) = kEnv q := kEnv_same (kUse_12 _ _)
theorem kK.same {q q' : kSt} (hk : kK q) (h : q'.1 = q.1 ∧ q'.2.1 = q.2.1) : kK q' := by
  unfold kK
  rw [h.1, h.2]
  exact hk
theorem kSee_fd (w : Nat) (q : kSt) : (kSee f pp ee q.2.1 q.1 w).isSome = kFd f pp ee (kEnv q) w := by
  have e : ∀ l : List Nat, (l.find? (fun u => wEq f pp ee (kW q.2.1 u) w)).isSome = l.any (fun u => wEq f pp ee (kW q.2.1 u) w) := fun l => by
    induction l with
    | nil => rfl
    | cons x xs IH =>
      rw [List.find?_cons, List.any_cons]
      cases wEq f pp ee (kW q.2.1 x) w with
      | true => rfl
      | false => rw [Bool.false_or]; exact IH
  unfold kSee kFd kEnv
  rw [e, List.any_reverse, List.any_map]
  rfl
theorem kUse_4 (hp : ∀ w, 0 ≤ pp w) {l : List Nat} (w : Nat) (q : kSt) (h : isL pp q.2.2.2 l) : isL pp (kUse f pp ee w q).2.2.2 (l ++ usW (kFd f pp ee) w (kEnv q)) := by
  have e := kSee_fd (f := f) (pp := pp) (ee := ee) w q
  unfold kUse usW
  rw [← e]
  cases kSee f pp ee q.2.1 q.1 w with
  | some u =>
    show isL pp q.2.2.2 (l ++ [])
    rw [List.append_nil]; exact h
  | none => rw [if_neg (by decide)]; exact h.bad hp w
theorem kPs_4 (hp : ∀ w, 0 ≤ pp w) : ∀ (ps : List tP) (q : kSt) (l : List Nat), isL pp q.2.2.2 l → isL pp (kPs f pp ee ps q).2.2.2 (l ++ plW (kFd f pp ee) (kEnv q) (sEv ps))
  | [], q, l, h => by
    show isL pp q.2.2.2 (l ++ [])
    rw [List.append_nil]; exact h
  | p :: ps, q, l, h => by
    have e : isL pp (kPt f pp ee p q).2.2.2 (l ++ plW (kFd f pp ee) (kEnv q) (sEv [p])) := by
      unfold kPt sEv sNm
      by_cases c : p.1 = 0
      · rw [if_pos c, List.filter_cons_of_neg (by simp [c])]
        show isL pp q.2.2.2 (l ++ [])
        rw [List.append_nil]; exact h
      · rw [if_neg c, List.filter_cons_of_pos (by simp; omega)]
        show isL pp _ (l ++ (usW (kFd f pp ee) p.2.2 (kEnv q) ++ []))
        rw [List.append_nil]
        exact kUse_4 hp _ _ h
    have IH := kPs_4 hp ps (kPt f pp ee p q) _ e
    rw [kEnv_same (kPt_12 p q), List.append_assoc] at IH
    rw [sEv_cons]
    show isL pp (kPs f pp ee ps (kPt f pp ee p q)).2.2.2 _
    unfold plW at IH ⊢
    rw [List.flatMap_append]
    exact IH
theorem kCt_4 (hp : ∀ w, 0 ≤ pp w) : ∀ (t : tT) (q : kSt) (l : List Nat), isL pp q.2.2.2 l → isL pp (kCt f pp ee t q).2.2.2 (l ++ plW (kFd f pp ee) (kEnv q) (cEv t))
  | .leaf, q, l, h => by
    show isL pp q.2.2.2 (l ++ [])
    rw [List.append_nil]; exact h
  | .inner g d _ a b, q, l, h => by
    unfold kCt cEv
    by_cases c : g = 24
    · rw [if_pos c, if_pos c]
      show isL pp _ (l ++ (usW (kFd f pp ee) d.1 (kEnv q) ++ []))
      rw [List.append_nil]
      exact kUse_4 hp _ _ h
    rw [if_neg c, if_neg c]
    by_cases c2 : g = 25
    · rw [if_pos c2, if_pos c2]
      have h1 := kPs_4 (f := f) (ee := ee) hp d.2.2.2.1.2 q l h
      have h2 := kPs_4 (f := f) (ee := ee) hp d.2.2.2.2.2 _ _ h1
      rw [kEnv_same (kPs_12 _ _), List.append_assoc] at h2
      unfold plW at h2 ⊢
      rw [List.flatMap_append]
      exact h2
    · rw [if_neg c2, if_neg c2]
      have h1 := kCt_4 hp a q l h
      have h2 := kCt_4 hp b _ _ h1
      rw [kEnv_same (kCt_12 _ _), List.append_assoc] at h2
      unfold plW at h2 ⊢
      rw [List.flatMap_append]
      exact h2
theorem isL.two {r : Int32} {l : List Nat} {w : Nat} (h : isL pp r ((l ++ [w]) ++ [w])) : isL pp r (l ++ [w]) := h.cg (fun u => by simp)
theorem kCnt_4 (hp : ∀ w, 0 ≤ pp w) {l : List Nat} {n : Nat} {q : kSt} (h : isL pp q.2.2.2 l) : isL pp (kCnt f pp ee n q).2.2.2 (l ++ tlW (kFd f pp ee) (kW q.2.1 n) (kEnv q)) := by
  have e : kAny f pp ee q.2.1 q.1 (kW q.2.1 n) = kFd f pp ee (kEnv q) (kW q.2.1 n) := by
    unfold kAny kFd kEnv
    rw [List.any_map]
    rfl
  have hl : (kEnv q).length = q.1.length := List.length_map ..
  unfold kCnt tlW
  rw [e, hl]
  have fin : ∀ (q1 : kSt) (l1 : List Nat), q1.1 = q.1 → q1.2.1 = q.2.1 → isL pp q1.2.2.2 l1 → (q.1.length < 12 → isL pp (kEnd pp n q1).2.2.2 l1) ∧ (12 ≤ q.1.length → isL pp (kEnd pp n q1).2.2.2 (l1 ++ [kW q.2.1 n])) := fun q1 l1 e1 e2 h1 => by
    unfold kEnd
    refine ⟨fun c => ?_, fun c => ?_⟩
    · show isL pp (if q1.1.length < 12 then q1 else kBad pp (kW q1.2.1 n) q1).2.2.2 l1
      rw [if_pos (by rw [e1]; exact c)]; exact h1
    · show isL pp (if q1.1.length < 12 then q1 else kBad pp (kW q1.2.1 n) q1).2.2.2 _
      rw [if_neg (by rw [e1]; omega), e2]
      exact h1.bad hp _
  by_cases c : kFd f pp ee (kEnv q) (kW q.2.1 n) = true
  · rw [if_pos c, if_pos (Or.inr c)]
    have h1 : isL pp (kBad pp (kW q.2.1 n) q).2.2.2 (l ++ [kW q.2.1 n]) := h.bad hp _
    have F := fin (kBad pp (kW q.2.1 n) q) _ rfl rfl h1
    by_cases c2 : q.1.length < 12
    · exact F.1 c2
    · exact (F.2 (by omega)).two
  · rw [if_neg c]
    have F := fin q l rfl rfl h
    by_cases c2 : q.1.length < 12
    · rw [if_neg (fun z => by rcases z with z | z; omega; exact c z), List.append_nil]
      exact F.1 c2
    · rw [if_pos (Or.inl (by omega))]
      exact F.2 (by omega)
theorem kW_last (L : List Nat) (w : Nat) (M : List Nat) : kW ((L ++ [w]) ++ M) L.length = w := by
  unfold kW
  rw [List.getD_eq_getElem?_getD, List.append_assoc, List.getElem?_append_right (Nat.le_refl _), Nat.sub_self]
  rfl
theorem kTell_env (w : Nat) {q : kSt} (hk : kK q) : kEnv (kTell w q) = kEnv q ∧ kK (kTell w q) := by
  refine ⟨kEnv_eq hk rfl rfl, fun d hd => ?_⟩
  show d < (q.2.1 ++ [w]).length
  have := hk d hd
  rw [List.length_append]; omega
theorem kCnt_env {n w : Nat} {q : kSt} (hk : kK q) (hn : n < q.2.1.length) (hw : kW q.2.1 n = w) : kEnv (kCnt f pp ee n q) = kEnv q ++ [w] ∧ kK (kCnt f pp ee n q) := by
  have e := kCnt_12 (f := f) (pp := pp) (ee := ee) n q
  refine ⟨?_, fun d hd => ?_⟩
  · unfold kEnv
    rw [e.1, e.2, List.map_append, ← hw]
    rfl
  · rw [e.1] at hd
    rw [e.2]
    rcases List.mem_append.mp hd with z | z
    · exact hk d z
    · rw [List.mem_singleton.mp z]; exact hn
theorem kTc_4 (hp : ∀ w, 0 ≤ pp w) {l : List Nat} (w : Nat) {q : kSt} (hk : kK q) (h : isL pp q.2.2.2 l) : isL pp (kTc f pp ee w q).2.2.2 (l ++ tlW (kFd f pp ee) w (kEnv q)) ∧ kEnv (kTc f pp ee w q) = kEnv q ++ [w] ∧ kK (kTc f pp ee w q) := by
  obtain ⟨e1, e2⟩ := kTell_env w hk
  have e3 : kW (kTell w q).2.1 q.2.1.length = w := by
    have := kW_last q.2.1 w []
    rw [List.append_nil] at this
    exact this
  have h1 : isL pp (kTell w q).2.2.2 l := h
  have h2 := kCnt_4 (f := f) (ee := ee) hp (n := q.2.1.length) h1
  rw [e3, e1] at h2
  have h3 := kCnt_env (f := f) (pp := pp) (ee := ee) (n := q.2.1.length) e2 (by show _ < (q.2.1 ++ [w]).length; rw [List.length_append]; simp) e3
  rw [e1] at h3
  exact ⟨h2, h3⟩
theorem kPar_4 (hp : ∀ w, 0 ≤ pp w) : ∀ (n w : Nat) (q : kSt) (l : List Nat), kK q → isL pp q.2.2.2 l → isL pp (kPar f pp ee n w q).2.2.2 (l ++ paW (kFd f pp ee) n w (kEnv q)) ∧ kEnv (kPar f pp ee n w q) = kEnv q ++ List.range' w n ∧ kK (kPar f pp ee n w q)
  | 0, w, q, l, hk, h => by
    refine ⟨?_, (List.append_nil _).symm, hk⟩
    show isL pp q.2.2.2 (l ++ [])
    rw [List.append_nil]; exact h
  | n + 1, w, q, l, hk, h => by
    obtain ⟨a1, a2, a3⟩ := kTc_4 (f := f) (ee := ee) hp w hk h
    obtain ⟨b1, b2, b3⟩ := kPar_4 hp n (w + 1) (kTc f pp ee w q) _ a3 a1
    rw [a2] at b1 b2
    refine ⟨?_, ?_, b3⟩
    · show isL pp (kPar f pp ee n (w + 1) (kTc f pp ee w q)).2.2.2 (l ++ (tlW (kFd f pp ee) w (kEnv q) ++ paW (kFd f pp ee) n (w + 1) (kEnv q ++ [w])))
      rw [← List.append_assoc]
      exact b1
    · show kEnv (kPar f pp ee n (w + 1) (kTc f pp ee w q)) = _
      rw [b2, List.range'_succ, List.append_assoc]
      rfl
theorem kT_env (t : tT) {q : kSt} (hk : kK q) : kEnv (kT f pp ee t q) = kEnv q ∧ kK (kT f pp ee t q) := by
  have e := kT_12 (f := f) (pp := pp) (ee := ee) t q
  refine ⟨kEnv_eq hk e.1 e.2, fun d hd => ?_⟩
  rw [e.1] at hd
  rw [e.2, List.length_append]
  have := hk d hd
  omega
theorem kT_4 (hp : ∀ w, 0 ≤ pp w) : ∀ (t : tT) (q : kSt) (l : List Nat), kK q → isL pp q.2.2.2 l → isL pp (kT f pp ee t q).2.2.2 (l ++ tWr (kFd f pp ee) t (kEnv q))
  | .leaf, q, l, hk, h => by
    show isL pp q.2.2.2 (l ++ [])
    rw [List.append_nil]; exact h
  | .inner g d _ a b, q, l, hk, h => by
    have Ia := kT_4 hp a
    have Ib := kT_4 hp b
    unfold kT tWr
    by_cases c1 : g = 1
    · rw [if_pos c1, if_pos c1]
      obtain ⟨e1, e2⟩ := kTell_env (d.1 + 1) hk
      have h1 : isL pp (kTell (d.1 + 1) q).2.2.2 l := h
      have h2 := Ia _ _ e2 h1
      obtain ⟨e3, e4⟩ := kT_env (f := f) (pp := pp) (ee := ee) a e2
      have e5 : kW (kT f pp ee a (kTell (d.1 + 1) q)).2.1 q.2.1.length = d.1 + 1 := by
        rw [(kT_12 _ _).2]
        exact kW_last q.2.1 (d.1 + 1) (tW a)
      have h3 := kCnt_4 (f := f) (ee := ee) hp (n := q.2.1.length) h2
      have e6 := kCnt_env (f := f) (pp := pp) (ee := ee) (n := q.2.1.length) e4 (by rw [(kT_12 _ _).2]; show _ < ((q.2.1 ++ [d.1 + 1]) ++ tW a).length; simp) e5
      rw [e5, e3, e1] at h3
      rw [e3, e1] at e6
      have h4 := Ib _ _ e6.2 h3
      rw [e6.1] at h4
      exact h4.cg (fun u => by simp only [List.mem_append]; grind)
    rw [if_neg c1, if_neg c1]
    by_cases c2 : g = 2
    · rw [if_pos c2, if_pos c2]
      obtain ⟨a1, a2, a3⟩ := kTc_4 (f := f) (ee := ee) hp (d.1 + 2) hk h
      obtain ⟨b1, b2, b3⟩ := kPar_4 (f := f) (ee := ee) hp d.2.1 (d.1 + 3) _ _ a3 a1
      have p12 := kPar_12 (f := f) (pp := pp) (ee := ee) d.2.1 (d.1 + 3) (kTc f pp ee (d.1 + 2) q)
      have c12 := kTc_12 (f := f) (pp := pp) (ee := ee) (d.1 + 2) q
      have h2 := Ia _ _ b3 b1
      have e2 := kT_env (f := f) (pp := pp) (ee := ee) a b3
      have t12 := kT_12 (f := f) (pp := pp) (ee := ee) a (kPar f pp ee d.2.1 (d.1 + 3) (kTc f pp ee (d.1 + 2) q))
      obtain ⟨q5, hq5⟩ : ∃ x, x = kT f pp ee a (kPar f pp ee d.2.1 (d.1 + 3) (kTc f pp ee (d.1 + 2) q)) := ⟨_, rfl⟩
      rw [← hq5] at h2 e2 t12
      rw [b2, a2] at h2
      have K6 : kK (kBk (q.1 ++ [q.2.1.length]) q5) := fun x hx => e2.2 x (by rw [t12.1, p12.1, c12.1]; exact List.mem_append_left _ hx)
      have E6 : kEnv (kBk (q.1 ++ [q.2.1.length]) q5) = kEnv q ++ [d.1 + 2] := by
        have e : q5.2.1 = q.2.1 ++ (([d.1 + 2] ++ List.range' (d.1 + 3) d.2.1) ++ tW a) := by rw [t12.2, p12.2, c12.2]; simp
        unfold kEnv
        show (q.1 ++ [q.2.1.length]).map (kW q5.2.1) = _
        rw [List.map_append]
        congr 1
        · refine List.map_congr_left (fun x hx => ?_)
          unfold kW
          rw [e, List.getD_eq_getElem?_getD, List.getD_eq_getElem?_getD, List.getElem?_append_left (hk x hx)]
        · show [kW q5.2.1 q.2.1.length] = _
          rw [e, show q.2.1 ++ (([d.1 + 2] ++ List.range' (d.1 + 3) d.2.1) ++ tW a) = (q.2.1 ++ [d.1 + 2]) ++ (List.range' (d.1 + 3) d.2.1 ++ tW a) by simp, kW_last]
      have h3 := Ib (kBk (q.1 ++ [q.2.1.length]) q5) _ K6 h2
      rw [E6] at h3
      rw [← hq5]
      rw [List.append_assoc (kEnv q) [d.1 + 2]] at h3
      exact h3.cg (fun u => by simp only [List.mem_append]; grind)
    rw [if_neg c2, if_neg c2]
    by_cases c3 : g = 3
    · rw [if_pos c3, if_pos c3]
      obtain ⟨a1, a2, a3⟩ := kTc_4 (f := f) (ee := ee) hp (d.1 + 1) hk h
      have h2 := Ia _ _ a3 a1
      rw [a2, List.append_assoc] at h2
      exact h2
    rw [if_neg c3, if_neg c3]
    by_cases c4 : g = 4 ∨ g = 5
    · rw [if_pos c4, if_pos c4]
      have h1 := kCt_4 (f := f) (ee := ee) hp a q l h
      have h2 := Ib _ _ (hk.same (kCt_12 _ _)) h1
      rw [kEnv_same (kCt_12 _ _), List.append_assoc] at h2
      exact h2
    rw [if_neg c4, if_neg c4]
    by_cases c6 : g = 6
    · rw [if_pos c6, if_pos c6]
      have h1 := kUse_4 (f := f) (ee := ee) hp (d.1 + 1) q h
      have h2 := kPs_4 (f := f) (ee := ee) hp d.2.2.2.1.2 _ _ h1
      have h3 := kPs_4 (f := f) (ee := ee) hp d.2.2.2.2.2 _ _ h2
      have h4 := Ia _ _ (((hk.same (kUse_12 _ _)).same (kPs_12 _ _)).same (kPs_12 _ _)) h3
      simp only [kEnv_Ps, kEnv_Use, List.append_assoc] at h4
      exact h4
    rw [if_neg c6, if_neg c6]
    by_cases c14 : g = 14
    · rw [if_pos c14, if_pos c14]
      have h1 := kUse_4 (f := f) (ee := ee) hp d.1 q h
      have h2 := kPs_4 (f := f) (ee := ee) hp d.2.2.2.1.2 _ _ h1
      rw [kEnv_same (kUse_12 _ _), List.append_assoc] at h2
      exact h2
    rw [if_neg c14, if_neg c14]
    by_cases c15 : g = 15
    · rw [if_pos c15, if_pos c15]
      have h1 := kUse_4 (f := f) (ee := ee) hp d.1 q h
      have h2 := Ia _ _ (hk.same (kUse_12 _ _)) h1
      rw [kEnv_same (kUse_12 _ _), List.append_assoc] at h2
      exact h2
    rw [if_neg c15, if_neg c15]
    by_cases c18 : g = 18
    · rw [if_pos c18, if_pos c18]
      have h1 := kPs_4 (f := f) (ee := ee) hp d.2.2.2.1.2 q l h
      have h2 := kUse_4 (f := f) (ee := ee) hp d.2.1 _ h1
      rw [kEnv_same (kPs_12 _ _), List.append_assoc] at h2
      exact h2
    rw [if_neg c18, if_neg c18]
    by_cases c19 : g = 19
    · rw [if_pos c19, if_pos c19]
      have h1 := kUse_4 (f := f) (ee := ee) hp (d.1 + 1) q h
      have k1 := hk.same (kUse_12 (f := f) (pp := pp) (ee := ee) (d.1 + 1) q)
      have h2 := Ia _ _ k1 h1
      obtain ⟨e3, e4⟩ := kT_env (f := f) (pp := pp) (ee := ee) a k1
      rw [kEnv_same (kUse_12 _ _)] at h2 e3
      obtain ⟨a1, a2, a3⟩ := kTc_4 (f := f) (ee := ee) hp d.2.1 e4 h2
      obtain ⟨b1, b2, b3⟩ := kTc_4 (f := f) (ee := ee) hp (d.2.1 + 1) a3 a1
      have h3 := Ib _ _ b3 b1
      rw [b2, a2, e3] at h3
      have e5 : paW (kFd f pp ee) 2 d.2.1 (kEnv q) = tlW (kFd f pp ee) d.2.1 (kEnv q) ++ (tlW (kFd f pp ee) (d.2.1 + 1) (kEnv q ++ [d.2.1]) ++ []) := rfl
      rw [e5]
      simp only [List.append_assoc, List.append_nil] at h3 ⊢
      exact h3
    rw [if_neg c19, if_neg c19]
    have h1 := kPs_4 (f := f) (ee := ee) hp d.2.2.2.1.2 q l h
    have h2 := kPs_4 (f := f) (ee := ee) hp d.2.2.2.2.2 _ _ h1
    have k2 := (hk.same (kPs_12 (f := f) (pp := pp) (ee := ee) d.2.2.2.1.2 q)).same (kPs_12 (f := f) (pp := pp) (ee := ee) d.2.2.2.2.2 _)
    have h3 := Ia _ _ k2 h2
    obtain ⟨e3, e4⟩ := kT_env (f := f) (pp := pp) (ee := ee) a k2
    have h4 := Ib _ _ e4 h3
    rw [e3] at h4
    simp only [kEnv_Ps, List.append_assoc] at h4
    exact h4
/-- the first of a list in order is the least -/
theorem isL.hd {r : Int32} {l : List Nat} (h : isL pp r l) (hs : l.Pairwise (fun a b => pp a < pp b)) : (l = [] → r = -1) ∧ ∀ w, l.head? = some w → r = pp w := by
  refine ⟨fun e => ?_, fun w e => ?_⟩
  · rcases h with ⟨h1, -⟩ | ⟨w, h1, -⟩
    · exact h1
    · rw [e] at h1; cases h1
  · cases l with
    | nil => cases e
    | cons x xs =>
      injection e with e
      subst e
      rcases h with ⟨-, h1⟩ | ⟨v, h1, h2, h3⟩
      · exact absurd (List.mem_cons_self ..) (h1 x)
      · rcases List.mem_cons.mp h1 with z | z
        · rw [h2, z]
        · have l1 := (List.pairwise_cons.mp hs).1 v z
          have l2 := h3 x (List.mem_cons_self ..)
          rw [Int32.lt_iff_toInt_lt] at l1
          rw [Int32.le_iff_toInt_le] at l2
          omega
end LST
