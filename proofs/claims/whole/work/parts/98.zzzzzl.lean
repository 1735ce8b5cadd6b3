/-! the reference: which NAME each word means -/
section WHO
variable (f pp ee : Nat → Int32) (R : Nat → Int32) (L : List Nat)
/-- the word w tells a NAME -/
def rTo (w : Nat) : Prop := ∃ n, R w = nI n ∧ L[n]? = some w
/-- the word w means a NAME of env -/
def rUs (env : List Nat) (w : Nat) : Prop := ∃ n u, R w = nI n ∧ L[n]? = some u ∧ nFind f pp ee env w = some u
def rWs (env : List Nat) (l : List Nat) : Prop := ∀ w, w ∈ l → rUs f pp ee R L env w
def rWo : tT → List Nat → Prop
  | .leaf, _ => True
  | .inner g d _ a b, env =>
    if g = 1 then rTo R L (d.1 + 1) ∧ rWo a env ∧ rWo b (env ++ [d.1 + 1])
    else if g = 2 then (rTo R L (d.1 + 2) ∧ ∀ x, x < d.2.1 → rTo R L (d.1 + 3 + x)) ∧ rWo a (env ++ ([d.1 + 2] ++ List.range' (d.1 + 3) d.2.1)) ∧ rWo b (env ++ [d.1 + 2])
    else if g = 3 then rTo R L (d.1 + 1) ∧ rWo a (env ++ [d.1 + 1])
    else if g = 4 ∨ g = 5 then rWs f pp ee R L env (cEv a) ∧ rWo b env
    else if g = 6 then rUs f pp ee R L env (d.1 + 1) ∧ rWs f pp ee R L env (sEv d.2.2.2.1.2) ∧ rWs f pp ee R L env (sEv d.2.2.2.2.2) ∧ rWo a env
    else if g = 14 then rUs f pp ee R L env d.1 ∧ rWs f pp ee R L env (sEv d.2.2.2.1.2)
    else if g = 15 then rUs f pp ee R L env d.1 ∧ rWo a env
    else if g = 18 then rWs f pp ee R L env (sEv d.2.2.2.1.2) ∧ rUs f pp ee R L env d.2.1
    else if g = 19 then rUs f pp ee R L env (d.1 + 1) ∧ rWo a env ∧ (rTo R L d.2.1 ∧ rTo R L (d.2.1 + 1)) ∧ rWo b (env ++ [d.2.1, d.2.1 + 1])
    else rWs f pp ee R L env (sEv d.2.2.2.1.2) ∧ rWs f pp ee R L env (sEv d.2.2.2.2.2) ∧ rWo a env ∧ rWo b env
end WHO
/-- no two of them are the same text; at most 12 -/
def eD (f pp ee : Nat → Int32) (env : List Nat) : Prop := env.length ≤ 12 ∧ ∀ u, u ∈ env → ∀ v, v ∈ env → wEq f pp ee u v = true → u = v
section WHP
variable {f pp ee : Nat → Int32} {env : List Nat} {q : kSt}
theorem wEq_iff {u w : Nat} : wEq f pp ee u w = true ↔ wL pp ee u = wL pp ee w ∧ ∀ j, j < wL pp ee u → f (wA pp u + j) = f (wA pp w + j) := by
  unfold wEq tEq
  exact decide_eq_true_iff
theorem wEq_tr {u v w : Nat} (h : wEq f pp ee u w = true) (h' : wEq f pp ee v w = true) : wEq f pp ee u v = true := by
  rw [wEq_iff] at h h' ⊢
  exact ⟨h.1.trans h'.1.symm, fun j hj => (h.2 j hj).trans (h'.2 j (by rw [h'.1, ← h.1]; exact hj)).symm⟩
theorem wEq_sy {u v : Nat} (h : wEq f pp ee u v = true) : wEq f pp ee v u = true := by
  rw [wEq_iff] at h ⊢
  exact ⟨h.1.symm, fun j hj => (h.2 j (by rw [h.1]; exact hj)).symm⟩
theorem eD.ap {w : Nat} (h : eD f pp ee env) (ht : tlW (kFd f pp ee) w env = []) : eD f pp ee (env ++ [w]) ∧ env.length < 12 := by
  have l := tlW_nil ht
  have nf : ¬ kFd f pp ee env w = true := fun z => by
    unfold tlW at ht
    rw [if_pos (Or.inr z)] at ht
    cases ht
  have nn : ∀ u, u ∈ env → ¬ wEq f pp ee u w = true := fun u hu z => nf (List.any_eq_true.mpr ⟨u, hu, z⟩)
  refine ⟨⟨by rw [List.length_append]; show env.length + 1 ≤ 12; omega, fun u hu v hv e => ?_⟩, l⟩
  rcases List.mem_append.mp hu with z | z
  · rcases List.mem_append.mp hv with y | y
    · exact h.2 u z v y e
    · rw [List.mem_singleton.mp y] at e; exact absurd e (nn u z)
  · rcases List.mem_append.mp hv with y | y
    · rw [List.mem_singleton.mp z] at e; exact absurd (wEq_sy e) (nn v y)
    · rw [List.mem_singleton.mp z, List.mem_singleton.mp y]
theorem eD.pa : ∀ (n w : Nat) (env : List Nat), eD f pp ee env → paW (kFd f pp ee) n w env = [] → eD f pp ee (env ++ List.range' w n)
  | 0, w, env, h, _ => by rw [List.range'_zero, List.append_nil]; exact h
  | n + 1, w, env, h, hp => by
    obtain ⟨h1, h2⟩ := List.append_eq_nil_iff.mp (show tlW (kFd f pp ee) w env ++ paW (kFd f pp ee) n (w + 1) (env ++ [w]) = [] from hp)
    have := eD.pa n (w + 1) (env ++ [w]) (h.ap h1).1 h2
    rw [List.append_assoc] at this
    rw [List.range'_succ]
    exact this
/-- rows behind what is told and used -/
theorem kBad_3 (w : Nat) (q : kSt) : (kBad pp w q).2.2.1 = q.2.2.1 := rfl
theorem kEnd_3 (d : Nat) (q : kSt) : (kEnd pp d q).2.2.1 = q.2.2.1 := by
  show (if q.1.length < 12 then q else kBad pp (kW q.2.1 d) q).2.2.1 = q.2.2.1
  split <;> rfl
theorem kCnt_3 (d : Nat) (q : kSt) : (kCnt f pp ee d q).2.2.1 = q.2.2.1 := by
  unfold kCnt
  rw [kEnd_3]
  split <;> rfl
theorem kUse_3 (w : Nat) (q : kSt) {u : Nat} (hu : u ≠ w) : (kUse f pp ee w q).2.2.1 u = q.2.2.1 u := by
  unfold kUse kUsO
  cases kSee f pp ee q.2.1 q.1 w with
  | some v => exact upd_ne _ _ hu
  | none => exact upd_ne _ _ hu
theorem kPs_3 : ∀ (ps : List tP) (q : kSt) {u : Nat}, u ∉ sEv ps → (kPs f pp ee ps q).2.2.1 u = q.2.2.1 u
  | [], q, u, _ => rfl
  | p :: ps, q, u, h => by
    rw [sEv_cons] at h
    have h1 : u ∉ sEv ps := fun z => h (List.mem_append_right _ z)
    show (kPs f pp ee ps (kPt f pp ee p q)).2.2.1 u = _
    rw [kPs_3 ps _ h1]
    unfold kPt
    by_cases c : p.1 = 0
    · rw [if_pos c]
    · rw [if_neg c]
      refine kUse_3 _ _ (fun e => h (List.mem_append_left _ ?_))
      unfold sEv sNm
      rw [List.filter_cons_of_pos (by simp; omega), e]
      exact List.mem_singleton_self _
theorem kCt_3 : ∀ (t : tT) (q : kSt) {u : Nat}, u ∉ cEv t → (kCt f pp ee t q).2.2.1 u = q.2.2.1 u
  | .leaf, q, u, _ => rfl
  | .inner g d _ a b, q, u, h => by
    unfold kCt
    unfold cEv at h
    by_cases c : g = 24
    · rw [if_pos c] at h ⊢
      exact kUse_3 _ _ (fun e => h (by rw [e]; exact List.mem_singleton_self _))
    rw [if_neg c] at h ⊢
    by_cases c2 : g = 25
    · rw [if_pos c2] at h ⊢
      rw [kPs_3 _ _ (fun z => h (List.mem_append_right _ z)), kPs_3 _ _ (fun z => h (List.mem_append_left _ z))]
    · rw [if_neg c2] at h ⊢
      rw [kCt_3 b _ (fun z => h (List.mem_append_right _ z)), kCt_3 a _ (fun z => h (List.mem_append_left _ z))]
theorem kTc_3 (w : Nat) (q : kSt) {u : Nat} (hu : u ≠ w) : (kTc f pp ee w q).2.2.1 u = q.2.2.1 u := by
  unfold kTc
  rw [kCnt_3]
  exact upd_ne _ _ hu
theorem kPar_3 : ∀ (n w : Nat) (q : kSt) {u : Nat}, u ∉ List.range' w n → (kPar f pp ee n w q).2.2.1 u = q.2.2.1 u
  | 0, _, _, _, _ => rfl
  | n + 1, w, q, u, h => by
    rw [List.range'_succ] at h
    show (kPar f pp ee n (w + 1) (kTc f pp ee w q)).2.2.1 u = _
    rw [kPar_3 n (w + 1) _ (fun z => h (List.mem_cons_of_mem _ z)), kTc_3 w q (fun e => h (by rw [e]; exact List.mem_cons_self ..))]
theorem kT_3 : ∀ (t : tT) (q : kSt) {u : Nat}, u ∉ tEv t → (kT f pp ee t q).2.2.1 u = q.2.2.1 u
  | .leaf, q, u, _ => rfl
  | .inner g d _ a b, q, u, h => by
    have Ia := kT_3 a
    have Ib := kT_3 b
    unfold kT
    unfold tEv at h
    by_cases c1 : g = 1
    · rw [if_pos c1] at h ⊢
      simp only [List.mem_append, not_or] at h
      show (kT f pp ee b _).2.2.1 u = _
      rw [Ib _ h.2.2, kCnt_3, Ia _ h.2.1]
      exact upd_ne _ _ (fun e => h.1 (by rw [e]; exact List.mem_singleton_self _))
    rw [if_neg c1] at h ⊢
    by_cases c2 : g = 2
    · rw [if_pos c2] at h ⊢
      simp only [List.mem_append, not_or] at h
      show (kT f pp ee b _).2.2.1 u = _
      rw [Ib _ h.2.2]
      show (kT f pp ee a _).2.2.1 u = _
      rw [Ia _ h.2.1, kPar_3 _ _ _ h.1.2, kTc_3 _ _ (fun e => h.1.1 (by rw [e]; exact List.mem_singleton_self _))]
    rw [if_neg c2] at h ⊢
    by_cases c3 : g = 3
    · rw [if_pos c3] at h ⊢
      simp only [List.mem_append, not_or] at h
      show (kT f pp ee a _).2.2.1 u = _
      rw [Ia _ h.2, kTc_3 _ _ (fun e => h.1 (by rw [e]; exact List.mem_singleton_self _))]
    rw [if_neg c3] at h ⊢
    by_cases c4 : g = 4 ∨ g = 5
    · rw [if_pos c4] at h ⊢
      simp only [List.mem_append, not_or] at h
      rw [Ib _ h.2, kCt_3 _ _ h.1]
    rw [if_neg c4] at h ⊢
    by_cases c6 : g = 6
    · rw [if_pos c6] at h ⊢
      simp only [List.mem_append, not_or] at h
      rw [Ia _ h.2.2.2, kPs_3 _ _ h.2.2.1, kPs_3 _ _ h.2.1, kUse_3 _ _ (fun e => h.1 (by rw [e]; exact List.mem_singleton_self _))]
    rw [if_neg c6] at h ⊢
    by_cases c14 : g = 14
    · rw [if_pos c14] at h ⊢
      simp only [List.mem_append, not_or] at h
      rw [kPs_3 _ _ h.2, kUse_3 _ _ (fun e => h.1 (by rw [e]; exact List.mem_singleton_self _))]
    rw [if_neg c14] at h ⊢
    by_cases c15 : g = 15
    · rw [if_pos c15] at h ⊢
      simp only [List.mem_append, not_or] at h
      rw [Ia _ h.2, kUse_3 _ _ (fun e => h.1 (by rw [e]; exact List.mem_singleton_self _))]
    rw [if_neg c15] at h ⊢
    by_cases c18 : g = 18
    · rw [if_pos c18] at h ⊢
      simp only [List.mem_append, not_or] at h
      rw [kUse_3 _ _ (fun e => h.2 (by rw [e]; exact List.mem_singleton_self _)), kPs_3 _ _ h.1]
    rw [if_neg c18] at h ⊢
    by_cases c19 : g = 19
    · rw [if_pos c19] at h ⊢
      simp only [List.mem_append, not_or] at h
      show (kT f pp ee b _).2.2.1 u = _
      rw [Ib _ h.2.2.2, kTc_3 _ _ (fun e => h.2.2.1 (by rw [e]; exact List.mem_cons_of_mem _ (List.mem_cons_self ..))), kTc_3 _ _ (fun e => h.2.2.1 (by rw [e]; exact List.mem_cons_self ..)), Ia _ h.2.1, kUse_3 _ _ (fun e => h.1 (by rw [e]; exact List.mem_singleton_self _))]
    rw [if_neg c19] at h ⊢
    simp only [List.mem_append, not_or] at h
    rw [Ib _ h.2.2.2, Ia _ h.2.2.1, kPs_3 _ _ h.2.1, kPs_3 _ _ h.1]
end WHP
