/-! the nodes of an E in the reference's rows, and their first words -/
def nE (V : zSt) : tT → Nat → Nat → List (Nat × Nat)
  | .leaf, _, _ => []
  | .inner g d _ a b, m0, m =>
    if g = 31 then nE V a 0 m0 ++ nE V b 0 m
    else if g = 33 ∨ g = 35 then nE V b (m0 + 1) 0
    else if g = 34 then nE V a 0 (V.2.2.1 20 m0).toNatClampNeg ++ nE V b (m0 + 1) 0
    else (m, d.1) :: (if g = 4 then nE V b (V.2.2.1 11 m).toNatClampNeg (V.2.2.1 12 m).toNatClampNeg
      else if g = 5 then nE V b 0 (V.2.2.1 11 m).toNatClampNeg
      else if g = 6 then nE V a 0 (V.2.2.1 12 m).toNatClampNeg
      else if g = 15 then nE V a (V.2.2.1 10 m).toNatClampNeg 0
      else if g = 3 ∨ g = 16 then nE V a 0 (V.2.2.1 11 m).toNatClampNeg
      else if 7 ≤ g ∧ g ≤ 18 then []
      else nE V a 0 (V.2.2.1 11 m).toNatClampNeg ++ nE V b 0 (V.2.2.1 12 m).toNatClampNeg)
/-- no node and no word twice -/
def nPw (l : List (Nat × Nat)) : Prop := l.Pairwise (fun p q => p.1 ≠ q.1 ∧ p.2 ≠ q.2)
theorem nPw1 {A : List (Nat × Nat)} {q : Nat × Nat} (h : nPw (q :: A)) : nPw A ∧ ∀ p, p ∈ A → p.1 ≠ q.1 ∧ p.2 ≠ q.2 := by
  obtain ⟨h1, h2⟩ := List.pairwise_cons.mp h
  exact ⟨h2, fun p hp => ⟨fun e => (h1 p hp).1 e.symm, fun e => (h1 p hp).2 e.symm⟩⟩
theorem nPwa {A B : List (Nat × Nat)} (h : nPw (A ++ B)) : nPw A ∧ nPw B ∧ ∀ p, p ∈ A → ∀ r, r ∈ B → p.1 ≠ r.1 ∧ p.2 ≠ r.2 := List.pairwise_append.mp h
section MTN
variable {f pp ee kk : Nat → Int32} {cnt lo N S P A : Nat} {V : zSt}
theorem mE_tb (V : zSt) : ∀ (t : tT) (m0 m : Nat) (env : List Nat) (s : mS) (u : Nat), (∀ p, p ∈ nE V t m0 m → p.2 ≠ u) → (mE f pp ee t env s).1.2.2.2.1 u = s.2.2.2.1 u
  | .leaf, _, _, _, _, _, _ => rfl
  | .inner g d _ a b, m0, m, env, s, u, hu => by
    have Ia := fun x y env s => mE_tb V a x y env s u
    have Ib := fun x y env s => mE_tb V b x y env s u
    by_cases c31 : g = 31
    · subst c31
      have hu : ∀ p, p ∈ nE V a 0 m0 ++ nE V b 0 m → p.2 ≠ u := hu
      show (mE f pp ee b env (mE f pp ee a env s).1).1.2.2.2.1 u = _
      rw [Ib 0 m _ _ (fun p hp => hu p (List.mem_append_right _ hp)), Ia 0 m0 _ _ (fun p hp => hu p (List.mem_append_left _ hp))]
    by_cases c33 : g = 33
    · subst c33
      have hu : ∀ p, p ∈ nE V b (m0 + 1) 0 → p.2 ≠ u := hu
      show (mE f pp ee b _ _).1.2.2.2.1 u = _
      rw [Ib (m0 + 1) 0 _ _ hu]
      show (if d.2.1 = 1 then (mPs f pp ee env d.2.2.2.1.2 s, mB 0) else mSu f pp ee env d.2.2.2.1.2 s).1.2.2.2.1 u = _
      split
      · show (mPs f pp ee env d.2.2.2.1.2 s).2.2.2.1 u = _
        rw [mPs_tab]
      · rw [mSu_tab]
    by_cases c34 : g = 34
    · subst c34
      have hu : ∀ p, p ∈ nE V a 0 (V.2.2.1 20 m0).toNatClampNeg ++ nE V b (m0 + 1) 0 → p.2 ≠ u := hu
      show (mE f pp ee b _ _).1.2.2.2.1 u = _
      rw [Ib (m0 + 1) 0 _ _ (fun p hp => hu p (List.mem_append_right _ hp))]
      exact Ia 0 _ _ _ (fun p hp => hu p (List.mem_append_left _ hp))
    by_cases c35 : g = 35
    · subst c35
      have hu : ∀ p, p ∈ nE V b (m0 + 1) 0 → p.2 ≠ u := hu
      show (mE f pp ee b _ _).1.2.2.2.1 u = _
      rw [Ib (m0 + 1) 0 _ _ hu]
      rfl
    have c35' : ¬ (g = 33 ∨ g = 35) := fun h => h.elim c33 c35
    unfold nE at hu
    rw [if_neg c31, if_neg c35', if_neg c34] at hu
    have ne : u ≠ d.1 := fun e => hu (m, d.1) (List.mem_cons_self ..) e.symm
    have hu := fun p hp => hu p (List.mem_cons_of_mem _ hp)
    have et : ∀ (t : mF) (s : mS), (mEt d.1 t s).2.2.2.1 u = s.2.2.2.1 u := fun t s => mUp_ne _ _ ne
    by_cases c4 : g = 4 ∨ g = 5
    · have e : mE f pp ee (.inner g d () a b) env s = (mEt d.1 (mE f pp ee b env (mCt f pp ee env a s)).2 (mE f pp ee b env (mCt f pp ee env a s)).1, (mE f pp ee b env (mCt f pp ee env a s)).2) := by rcases c4 with rfl | rfl <;> rfl
      rw [e]
      show (mEt d.1 _ _).2.2.2.1 u = _
      rw [et]
      rcases c4 with rfl | rfl
      · rw [if_pos rfl] at hu
        rw [Ib _ _ _ _ hu, mCt_tab]
      · rw [if_neg (by decide), if_pos rfl] at hu
        rw [Ib _ _ _ _ hu, mCt_tab]
    rw [if_neg (fun z => c4 (Or.inl z)), if_neg (fun z => c4 (Or.inr z))] at hu
    by_cases c6 : g = 6
    · subst c6
      rw [if_pos rfl] at hu
      show (mEt d.1 _ _).2.2.2.1 u = _
      rw [et, Ia _ _ _ _ hu, mPs_tab, mPs_tab]
      rfl
    rw [if_neg c6] at hu
    by_cases c15 : g = 15
    · subst c15
      rw [if_pos rfl] at hu
      show (mEt d.1 _ _).2.2.2.1 u = _
      rw [et, Ia _ _ _ _ hu]
      show (mOp (pp d.1) (tQn a) _ s).2.2.2.1 u = _
      rw [mOp_tab]
    rw [if_neg c15] at hu
    by_cases c3 : g = 3
    · subst c3
      rw [if_pos (Or.inl rfl)] at hu
      show (mEt d.1 _ _).2.2.2.1 u = _
      rw [et, Ia _ _ _ _ hu]
      rfl
    by_cases c16 : g = 16
    · subst c16
      rw [if_pos (Or.inr rfl)] at hu
      show (mEt d.1 _ _).2.2.2.1 u = _
      rw [et, Ia _ _ _ _ hu]
    rw [if_neg (fun z => z.elim c3 c16)] at hu
    by_cases c7 : g = 7
    · subst c7
      show (mEt d.1 _ _).2.2.2.1 u = _
      rw [et, mPs_tab]
    by_cases c8 : g = 8 ∨ g = 9
    · rcases c8 with rfl | rfl <;> exact et _ _
    by_cases c10 : g = 10
    · subst c10
      show (mEt d.1 _ _).2.2.2.1 u = _
      rw [et, mSu_tab]
    by_cases c11 : g = 11 ∨ g = 12 ∨ g = 13
    · have e : mE f pp ee (.inner g d () a b) env s = (mEt d.1 (mB 0) (mPs f pp ee env d.2.2.2.2.2 (mPs f pp ee env d.2.2.2.1.2 s)), mB 0) := by rcases c11 with rfl | rfl | rfl <;> rfl
      rw [e]
      show (mEt d.1 _ _).2.2.2.1 u = _
      rw [et, mPs_tab, mPs_tab]
    by_cases c14 : g = 14
    · subst c14
      show (mEt d.1 _ _).2.2.2.1 u = _
      rw [et, mPs_tab]
      rfl
    by_cases c17 : g = 17
    · subst c17; exact et _ _
    by_cases c18 : g = 18
    · subst c18
      show (mEt d.1 _ _).2.2.2.1 u = _
      rw [et]
      show (mPs f pp ee env d.2.2.2.1.2 s).2.2.2.1 u = _
      rw [mPs_tab]
    rw [if_neg (show ¬ (7 ≤ g ∧ g ≤ 18) by omega)] at hu
    have Ja : ∀ env s, (mE f pp ee a env s).1.2.2.2.1 u = s.2.2.2.1 u := fun env s => Ia _ _ _ _ (fun p hp => hu p (List.mem_append_left _ hp))
    have Jb : ∀ env s, (mE f pp ee b env s).1.2.2.2.1 u = s.2.2.2.1 u := fun env s => Ib _ _ _ _ (fun p hp => hu p (List.mem_append_right _ hp))
    by_cases c1 : g = 1
    · subst c1
      show (mEt d.1 _ _).2.2.2.1 u = _
      rw [et, Jb]
      exact Ja _ _
    by_cases c2 : g = 2
    · subst c2
      show (mEt d.1 _ _).2.2.2.1 u = _
      rw [et, Jb]
      show (mE f pp ee a _ _).1.2.2.2.1 u = _
      rw [Ja]
      show (mPa d.2.1 (d.1 + 3) s.2.1 s).2.2.2.1 u = _
      rw [mPa_tab]
    by_cases c19 : g = 19
    · subst c19
      show (mEt d.1 _ _).2.2.2.1 u = _
      rw [et]
      show (mE f pp ee b _ _).1.2.2.2.1 u = _
      rw [Jb]
      show (mE f pp ee a _ _).1.2.2.2.1 u = _
      rw [Ja]
      rfl
    rw [mE, if_neg c1, if_neg c2, if_neg c3, if_neg c4, if_neg c6, if_neg c7, if_neg c8, if_neg c10, if_neg c11, if_neg c14, if_neg c15, if_neg c16, if_neg c17, if_neg c18, if_neg c19, if_neg c31, if_neg c33, if_neg c34, Jb]
    rfl
theorem rTr_fw {a : tT} {m : Nat} (ht : rTr pp V lo N S P A a 0 0 m) (wf : tWf kk cnt a 0) : m < N ∧ V.2.2.1 7 m = pp (tFw a) := by
  cases a with
  | leaf => cases wf
  | inner g d z a b =>
    have key : ∀ g', rNd pp V lo N m g' d.1 → m < N ∧ V.2.2.1 7 m = pp d.1 := fun g' h => ⟨h.1.2, h.2.2⟩
    show m < N ∧ V.2.2.1 7 m = pp d.1
    rcases wf with ⟨h, _⟩ | ⟨h, _⟩ | ⟨_, h⟩
    · cases h
    · cases h
    · rcases h with ⟨rfl, _⟩ | ⟨rfl, _⟩ | ⟨rfl, _⟩ | ⟨rfl, _⟩ | ⟨rfl, _⟩ | ⟨rfl, _⟩ | ⟨rfl | rfl, _⟩ | ⟨rfl | rfl | rfl, _⟩ | ⟨rfl | rfl | rfl, _⟩ | ⟨rfl, _⟩ | ⟨rfl, _⟩ | ⟨rfl, _⟩ | ⟨rfl, _⟩ | ⟨rfl, _⟩
      all_goals first | exact key _ ht.1 | exact key _ ht
theorem nE_cons {a : tT} (wf : tWf kk cnt a 0) (m0 m : Nat) : nE V a m0 m = (m, tFw a) :: (nE V a m0 m).tail := by
  cases a with
  | leaf => cases wf
  | inner g d z a b =>
    rcases wf with ⟨h, _⟩ | ⟨h, _⟩ | ⟨_, h⟩
    · cases h
    · cases h
    · rcases h with ⟨rfl, _⟩ | ⟨rfl, _⟩ | ⟨rfl, _⟩ | ⟨rfl, _⟩ | ⟨rfl, _⟩ | ⟨rfl, _⟩ | ⟨rfl | rfl, _⟩ | ⟨rfl | rfl | rfl, _⟩ | ⟨rfl | rfl | rfl, _⟩ | ⟨rfl, _⟩ | ⟨rfl, _⟩ | ⟨rfl, _⟩ | ⟨rfl, _⟩ | ⟨rfl, _⟩
      all_goals rfl
theorem mE_et {a : tT} (wf : tWf kk cnt a 0) (env : List Nat) (s : mS) : (mE f pp ee a env s).1.2.2.2.1 (tFw a) = (mE f pp ee a env s).2 := by
  cases a with
  | leaf => cases wf
  | inner g d z a b =>
    rcases wf with ⟨h, _⟩ | ⟨h, _⟩ | ⟨_, h⟩
    · cases h
    · cases h
    · rcases h with ⟨rfl, _⟩ | ⟨rfl, _⟩ | ⟨rfl, _⟩ | ⟨rfl, _⟩ | ⟨rfl, _⟩ | ⟨rfl, _⟩ | ⟨rfl | rfl, _⟩ | ⟨rfl | rfl | rfl, _⟩ | ⟨rfl | rfl | rfl, _⟩ | ⟨rfl, _⟩ | ⟨rfl, _⟩ | ⟨rfl, _⟩ | ⟨rfl, _⟩ | ⟨rfl, _⟩
      all_goals exact mUp_at _ _ _
end MTN
/-- the type of the node p.1 is told: that of the E at p.2 -/
def ndY (τ : zSt) (g : gG) (T : Nat → mF) (s : mS) (p : Nat × Nat) : Prop := mSat s.1 → ∃ c, τ.2.2.1 39 p.1 = nI c ∧ gY g T s c (s.2.2.2.1 p.2)
def nZ (Z : List (Nat × Nat)) (τ0 τ : zSt) (g : gG) (T : Nat → mF) (s : mS) : Prop := (∀ p, p ∈ Z → ndY τ g T s p) ∧ ∀ m, (∀ p, p ∈ Z → p.1 ≠ m) → τ.2.2.1 39 m = τ0.2.2.1 39 m
section NZS
variable {Z : List (Nat × Nat)} {τ0 τ τ' : zSt} {g g' : gG} {T T' : Nat → mF} {s s' : mS} {W : List Nat}
theorem nZ.nil (τ : zSt) (g : gG) (T : Nat → mF) (s : mS) : nZ [] τ τ g T s := ⟨fun p hp => (by cases hp), fun _ _ => rfl⟩
theorem nZ.no (hs : ¬ mSat s.1) : nZ Z τ τ g T s := ⟨fun p _ z => absurd z hs, fun _ _ => rfl⟩
theorem nZ.ns (h : nZ Z τ0 τ g T s) (hs : ¬ mSat s'.1) : nZ Z τ0 τ g' T' s' := ⟨fun p _ z => absurd z hs, h.2⟩
theorem nZ.go (h : nZ Z τ0 τ g T s) (e : τ'.2.2.1 39 = τ.2.2.1 39) (x : xE g T g' T') (hl : mLe W s s') (ht : ∀ p, p ∈ Z → s'.2.2.2.1 p.2 = s.2.2.2.1 p.2) : nZ Z τ0 τ' g' T' s' := by
  refine ⟨fun p hp z => ?_, fun m hm => by rw [e]; exact h.2 m hm⟩
  obtain ⟨c, c1, c2⟩ := h.1 p hp (hl.sat z)
  exact ⟨c, by rw [e]; exact c1, by rw [ht p hp]; exact c2.up x hl⟩
end NZS
