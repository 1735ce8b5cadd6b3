/-! types of both: what they need of NAMES -/
section MCG
variable {f fc pp ee : Nat → Int32}
theorem mNm_cg (h : nFind fc pp ee = nFind f pp ee) : mNm fc pp ee = mNm f pp ee := by
  funext env w s
  unfold mNm
  rw [h]
theorem mPs_cg (h : nFind fc pp ee = nFind f pp ee) : mPs fc pp ee = mPs f pp ee := by
  funext env ps s
  unfold mPs
  have e : (fun s p => mPt fc pp ee env p s) = (fun s p => mPt f pp ee env p s) := by
    funext s p
    unfold mPt
    rw [mNm_cg h]
  rw [e]
theorem mCt_cg (h : nFind fc pp ee = nFind f pp ee) (env : List Nat) : ∀ (t : tT) (s : mS), mCt fc pp ee env t s = mCt f pp ee env t s
  | .leaf, s => rfl
  | .inner g d _ a b, s => by
    unfold mCt
    rw [mNm_cg h, mPs_cg h, mCt_cg h env a, mCt_cg h env b]
theorem mE_cg (h : nFind fc pp ee = nFind f pp ee) : ∀ (t : tT) (env : List Nat) (s : mS), mE fc pp ee t env s = mE f pp ee t env s
  | .leaf, _, _ => rfl
  | .inner g d _ a b, env, s => by
    have Ia := mE_cg h a
    have Ib := mE_cg h b
    have Ia' : mE fc pp ee a = mE f pp ee a := funext fun env => funext fun s => Ia env s
    have Ib' : mE fc pp ee b = mE f pp ee b := funext fun env => funext fun s => Ib env s
    have hs : mSu fc pp ee = mSu f pp ee := by
      funext env ps s
      unfold mSu
      rw [mNm_cg h, mPs_cg h]
    have hc : ∀ env s, mCt fc pp ee env a s = mCt f pp ee env a s := fun env s => mCt_cg h env a s
    unfold mE
    simp only [mNm_cg h, mPs_cg h, hs, hc, Ia', Ib']
end MCG
section CTN
variable {κ : oKv} {T : Nat} {kk pp ee f : Nat → Int32} {A : Nat → Nat} {D : cDt} {V : oSt} {nm : Nat → Option Nat}
/-- the object of a NAME -/
def cNo (V : oSt) (nm : Nat → Option Nat) (u : Nat) : Prop := ∃ b q k, nm u = some b ∧ V.1 b = some (.inr (6, (cNa q).set 1 (.int (nI k))))
theorem cNx.o {lo u k b : Nat} (h : cNx A D lo V nm u k b) : cNo V nm u := by
  obtain ⟨h1, -, q, h3⟩ := h
  exact ⟨b, q, k, h1, h3⟩
theorem cNl.o {lo pa w q k : Nat} (h : cNl κ A D lo V nm pa w q k) {x : Nat} (hx : x < q) : cNo V nm (w + x) := by
  obtain ⟨d, cap, mc, g, -, -, -, h⟩ := h
  obtain ⟨b, -, h⟩ := h x hx
  exact h.o
theorem cTr_nm {cnt : Nat} : ∀ (t : tT) (l lo : Nat) (env : List Nat) (fk : Nat) (g : Nat → Option Nat) (k m : Nat), tWf kk cnt t l → cTr κ T kk pp ee f A D lo V nm t env fk g k m → ∀ u, u ∈ tW t → cNo V nm u
  | .leaf, _, _, _, _, _, _, _, _, _, u, hu => by cases hu
  | .inner n d z a b, l, lo, env, fk, g, k, m, wf, h, u, hu => by
    have Ia := fun l lo env fk g k m w h => cTr_nm (cnt := cnt) a l lo env fk g k m w h u
    have Ib := fun l lo env fk g k m w h => cTr_nm (cnt := cnt) b l lo env fk g k m w h u
    rcases wf with ⟨rfl, rfl, _, wa, wb⟩ | ⟨rfl, _, wb, hg⟩ | ⟨rfl, hh⟩
    · obtain ⟨x, -, h2, h3⟩ := h
      exact (List.mem_append.mp (show u ∈ tW a ++ tW b from hu)).elim (Ia _ _ _ _ _ _ _ wa h2) (Ib _ _ _ _ _ _ _ wb h3)
    · rcases hg with ⟨rfl, _, rfl⟩ | ⟨rfl, _, wa⟩ | ⟨rfl, _, rfl, _⟩
      · obtain ⟨x, su, -, -, h3⟩ := h
        exact Ib _ _ _ _ _ _ _ wb h3 hu
      · obtain ⟨x, fs, -, -, h3, h4⟩ := h
        exact (List.mem_append.mp (show u ∈ tW a ++ tW b from hu)).elim (Ia _ _ _ _ _ _ _ wa h3) (Ib _ _ _ _ _ _ _ wb h4)
      · obtain ⟨x, -, -, h3⟩ := h
        exact Ib _ _ _ _ _ _ _ wb h3 hu
    · rcases hh with ⟨rfl, _, wa, wb⟩ | ⟨rfl, _, wa, wb⟩ | ⟨rfl, _, wa⟩ | ⟨rfl, _, wb⟩ | ⟨rfl, _, wb⟩ | ⟨rfl, _, _, wa⟩ | ⟨rfl | rfl, _, _, rfl, rfl⟩ | ⟨rfl | rfl | rfl, _, rfl, rfl⟩ | ⟨rfl | rfl | rfl, _, rfl, rfl⟩ | ⟨rfl, _⟩ | ⟨rfl, _, wa⟩ | ⟨rfl, _, wa, rfl⟩ | ⟨rfl, _⟩ | ⟨rfl, _, wa, wb⟩
      · obtain ⟨-, x, y, w, -, h3, h4, h5⟩ := h
        have hu : u ∈ (d.1 + 1) :: (tW a ++ tW b) := hu
        rcases List.mem_cons.mp hu with e | hu
        · rw [e]; exact h3.o
        · exact (List.mem_append.mp hu).elim (Ia _ _ _ _ _ _ _ wa h4) (Ib _ _ _ _ _ _ _ wb h5)
      · obtain ⟨-, x, y, w, q, -, -, h3, h4, h5, h6⟩ := h
        have hu : u ∈ (d.1 + 2) :: (List.range' (d.1 + 3) d.2.1 ++ (tW a ++ tW b)) := hu
        rcases List.mem_cons.mp hu with e | hu
        · rw [e]; exact h3.o
        · rcases List.mem_append.mp hu with hu | hu
          · have := List.mem_range'_1.mp hu
            have := h4.o (x := u - (d.1 + 3)) (by omega)
            rwa [show d.1 + 3 + (u - (d.1 + 3)) = u by omega] at this
          · exact (List.mem_append.mp hu).elim (Ia _ _ _ _ _ _ _ wa h5) (Ib _ _ _ _ _ _ _ wb h6)
      · obtain ⟨-, x, q, mk, -, -, h3, h4⟩ := h
        have hu : u ∈ (d.1 + 1) :: tW a := hu
        rcases List.mem_cons.mp hu with e | hu
        · rw [e]; exact h3.o (x := 0) (by omega)
        · exact Ia _ _ _ _ _ _ _ wa h4 hu
      · obtain ⟨-, c, x, y, -, -, h4⟩ := h
        exact Ib _ _ _ _ _ _ _ wb h4 hu
      · obtain ⟨-, c, x, -, -, h4⟩ := h
        exact Ib _ _ _ _ _ _ _ wb h4 hu
      · obtain ⟨-, x, l, r, nd, su, su', -, -, -, -, h5⟩ := h
        exact Ia _ _ _ _ _ _ _ wa h5 hu
      · cases hu
      · cases hu
      · cases hu
      · cases hu
      · cases hu
      · cases hu
      · cases hu
      · cases hu
      · cases hu
      · obtain ⟨-, pa, q, g', -, -, h4⟩ := h
        exact Ia _ _ _ _ _ _ _ wa h4 hu
      · obtain ⟨-, x, -, h3⟩ := h
        have hu : u ∈ tW a ++ [] := hu
        rw [List.append_nil] at hu
        exact Ia _ _ _ _ _ _ _ wa h3 hu
      · cases hu
      · obtain ⟨-, x, y, c, q, su, na, ta, -, -, -, h5, h6, h7⟩ := h
        have hu : u ∈ tW a ++ ([d.2.1, d.2.1 + 1] ++ tW b) := hu
        rcases List.mem_append.mp hu with hu | hu
        · exact Ia _ _ _ _ _ _ _ wa h6 hu
        · rcases List.mem_append.mp hu with hu | hu
          · rcases List.mem_cons.mp hu with e | hu
            · rw [e]; exact h5.o (x := 0) (by omega)
            · rw [List.mem_singleton.mp hu]; exact h5.o (x := 1) (by omega)
          · exact Ib _ _ _ _ _ _ _ wb h7 hu
theorem cIs_nm {lo : Nat} : ∀ (xs : List (Nat × Nat)) (k : Nat), cIs A D lo V nm xs k → ∀ x, x ∈ xs → ∃ b q k, nm x.1 = some b ∧ V.1 b = some (.inr (6, ((cNa q).set 3 (.int (iCd x.2))).set 1 (.int (nI k))))
  | [], _, _, x, hx => by cases hx
  | y :: ys, k, h, x, hx => by
    obtain ⟨⟨b, q, h1, -, h3⟩, h4⟩ := h
    rcases List.mem_cons.mp hx with e | hx
    · rw [e]; exact ⟨b, q, k, h1, h3⟩
    · exact cIs_nm ys (k + 1) h4 x hx
end CTN
section KIN
variable {f pp ee : Nat → Int32}
/-- INPUTS tell their NAMES with their numbers -/
theorem kIn_3 : ∀ (is : List (Nat × Nat)) (q : kSt), (is.map Prod.fst).Nodup → ∀ u, u ∉ is.map Prod.fst → (kIn f pp ee is q).2.2.1 u = q.2.2.1 u
  | [], _, _, _, _ => rfl
  | x :: xs, q, hn, u, hu => by
    have hn' := List.nodup_cons.mp hn
    show (kIn f pp ee xs (kTc f pp ee x.1 q)).2.2.1 u = _
    rw [kIn_3 xs _ hn'.2 u (fun z => hu (List.mem_cons_of_mem _ z)), kTc_3 x.1 q (fun e => hu (by rw [e]; exact List.mem_cons_self ..))]
theorem kIn_num : ∀ (is : List (Nat × Nat)) (q : kSt), (is.map Prod.fst).Nodup → ∀ k x, is[k]? = some x → (kIn f pp ee is q).2.2.1 x.1 = nI (q.2.1.length + k)
  | [], _, _, k, x, h => by cases h
  | y :: ys, q, hn, k, x, h => by
    have hn' := List.nodup_cons.mp hn
    show (kIn f pp ee ys (kTc f pp ee y.1 q)).2.2.1 x.1 = _
    cases k with
    | zero =>
      have h : some y = some x := h
      injection h with h
      subst h
      rw [kIn_3 ys _ hn'.2 y.1 hn'.1, kTc_3s, Nat.add_zero]
    | succ k =>
      have e : (kTc f pp ee y.1 q).2.1 = q.2.1 ++ [y.1] := (kIn_12 (f := f) (pp := pp) (ee := ee) [y] q).2
      rw [kIn_num ys _ hn'.2 k x h, e, List.length_append]
      show nI (q.2.1.length + 1 + k) = _
      congr 1
      omega
theorem eD_in : ∀ (is : List (Nat × Nat)) (env : List Nat), eD f pp ee env → inW (kFd f pp ee) is env = [] → eD f pp ee (env ++ is.map Prod.fst)
  | [], env, h, _ => by rw [List.map_nil, List.append_nil]; exact h
  | x :: xs, env, h, hw => by
    obtain ⟨h1, h2⟩ := List.append_eq_nil_iff.mp (show tlW (kFd f pp ee) x.1 env ++ inW (kFd f pp ee) xs (env ++ [x.1]) = [] from hw)
    rw [List.map_cons, ← List.singleton_append, ← List.append_assoc]
    exact eD_in xs _ (h.ap h1).1 h2
end KIN
