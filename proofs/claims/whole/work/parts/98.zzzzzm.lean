/-! the reference: which NAME each word means -/
/-- M stands at the beginning of L -/
def pfx (L M : List Nat) : Prop := ∃ l, L = M ++ l
section WHQ
variable {f pp ee : Nat → Int32} {R : Nat → Int32} {L M : List Nat} {q : kSt}
theorem pfx.get (h : pfx L M) {n x : Nat} (e : M[n]? = some x) : L[n]? = some x := by
  obtain ⟨l, rfl⟩ := h
  have hn : n < M.length := by
    by_cases c : n < M.length
    · exact c
    · rw [List.getElem?_eq_none (by omega)] at e; cases e
  rw [List.getElem?_append_left hn]
  exact e
theorem pfx.of {M' : List Nat} (h : pfx L M) (e : ∃ l, M = M' ++ l) : pfx L M' := by
  obtain ⟨l, rfl⟩ := h
  obtain ⟨l', rfl⟩ := e
  exact ⟨l' ++ l, by rw [List.append_assoc]⟩
theorem kUse_wo {w : Nat} (hk : kK q) (he : eD f pp ee (kEnv q)) (hu : usW (kFd f pp ee) w (kEnv q) = []) (hR : R w = (kUse f pp ee w q).2.2.1 w) (hL : pfx L q.2.1) : rUs f pp ee R L (kEnv q) w := by
  have e1 : kFd f pp ee (kEnv q) w = true := by
    unfold usW at hu
    split at hu
    · assumption
    · cases hu
  have e2 := kSee_fd (f := f) (pp := pp) (ee := ee) w q
  rw [e1] at e2
  obtain ⟨n, en⟩ := Option.isSome_iff_exists.mp e2
  have hn : n ∈ q.1 := by
    have := List.mem_of_find?_eq_some (show q.1.reverse.find? _ = some n from en)
    exact List.mem_reverse.mp this
  have hw : wEq f pp ee (kW q.2.1 n) w = true := List.find?_some (p := fun u => wEq f pp ee (kW q.2.1 u) w) (show q.1.reverse.find? (fun u => wEq f pp ee (kW q.2.1 u) w) = some n from en)
  have hlt := hk n hn
  have gn : q.2.1[n]? = some (kW q.2.1 n) := by
    unfold kW
    rw [List.getD_eq_getElem?_getD, List.getElem?_eq_getElem hlt]
    rfl
  have me : kW q.2.1 n ∈ kEnv q := List.mem_map.mpr ⟨n, hn, rfl⟩
  refine ⟨n, kW q.2.1 n, ?_, hL.get gn, ?_⟩
  · rw [hR]
    unfold kUse
    rw [en]
    exact upd_at _ _ _
  · unfold nFind
    rw [List.take_of_length_le he.1]
    cases ef : (kEnv q).find? (fun u => wEq f pp ee u w) with
    | none => exact absurd hw (List.find?_eq_none.mp ef _ me)
    | some u =>
      have h1 := List.mem_of_find?_eq_some ef
      have h2 : wEq f pp ee u w = true := List.find?_some (p := fun u => wEq f pp ee u w) ef
      rw [he.2 u h1 _ me (wEq_tr h2 hw)]
theorem kPs_wo : ∀ (ps : List tP) (q : kSt), kK q → eD f pp ee (kEnv q) → plW (kFd f pp ee) (kEnv q) (sEv ps) = [] → (sEv ps).Nodup → (∀ w, w ∈ sEv ps → R w = (kPs f pp ee ps q).2.2.1 w) → pfx L q.2.1 → rWs f pp ee R L (kEnv q) (sEv ps)
  | [], q, _, _, _, _, _, _ => fun w hw => by cases hw
  | p :: ps, q, hk, he, hp, hn, hR, hL => by
    rw [sEv_cons] at hp hn hR ⊢
    have hp2 : plW (kFd f pp ee) (kEnv q) (sEv [p]) = [] ∧ plW (kFd f pp ee) (kEnv q) (sEv ps) = [] := by
      unfold plW at hp ⊢
      rw [List.flatMap_append] at hp
      exact List.append_eq_nil_iff.mp hp
    obtain ⟨-, n2, n3⟩ := List.nodup_append.mp hn
    have k12 := kPt_12 (f := f) (pp := pp) (ee := ee) p q
    have ke := kEnv_same k12
    have IH := kPs_wo ps (kPt f pp ee p q) (hk.same k12) (by rw [ke]; exact he) (by rw [ke]; exact hp2.2) n2 (fun w hw => hR w (List.mem_append_right _ hw)) (by rw [k12.2]; exact hL)
    rw [ke] at IH
    intro w hw
    rcases List.mem_append.mp hw with z | z
    · by_cases c : p.1 = 0
      · unfold sEv sNm at z
        rw [List.filter_cons_of_neg (by simp [c])] at z
        cases z
      · have e1 : sEv [p] = [p.2.2] := by
          unfold sEv sNm
          rw [List.filter_cons_of_pos (by simp; omega)]
          rfl
        rw [e1] at z hp2
        have hu : usW (kFd f pp ee) p.2.2 (kEnv q) = [] := by
          have : usW (kFd f pp ee) p.2.2 (kEnv q) ++ [] = [] := hp2.1
          rw [List.append_nil] at this
          exact this
        rw [List.mem_singleton.mp z]
        refine kUse_wo hk he hu ?_ hL
        rw [hR p.2.2 (List.mem_append_left _ (by rw [e1]; exact List.mem_singleton_self _))]
        show (kPs f pp ee ps (kPt f pp ee p q)).2.2.1 p.2.2 = _
        rw [kPs_3 ps _ (fun y => n3 p.2.2 (by rw [e1]; exact List.mem_singleton_self _) p.2.2 y rfl)]
        unfold kPt
        rw [if_neg c]
    · exact IH w z
theorem kCt_wo : ∀ (t : tT) (q : kSt), kK q → eD f pp ee (kEnv q) → plW (kFd f pp ee) (kEnv q) (cEv t) = [] → (cEv t).Nodup → (∀ w, w ∈ cEv t → R w = (kCt f pp ee t q).2.2.1 w) → pfx L q.2.1 → rWs f pp ee R L (kEnv q) (cEv t)
  | .leaf, q, _, _, _, _, _, _ => fun w hw => by cases hw
  | .inner g d _ a b, q, hk, he, hp, hn, hR, hL => by
    unfold cEv at hp hn hR ⊢
    unfold kCt at hR
    by_cases c : g = 24
    · rw [if_pos c] at hp hn hR ⊢
      rw [if_pos c] at hR
      intro w hw
      rw [List.mem_singleton.mp hw]
      have hu : usW (kFd f pp ee) d.1 (kEnv q) = [] := by
        have : usW (kFd f pp ee) d.1 (kEnv q) ++ [] = [] := hp
        rw [List.append_nil] at this
        exact this
      exact kUse_wo hk he hu (hR d.1 (List.mem_singleton_self _)) hL
    rw [if_neg c] at hp hn hR ⊢
    rw [if_neg c] at hR
    by_cases c2 : g = 25
    · rw [if_pos c2] at hp hn hR ⊢
      rw [if_pos c2] at hR
      have hp2 : plW (kFd f pp ee) (kEnv q) (sEv d.2.2.2.1.2) = [] ∧ plW (kFd f pp ee) (kEnv q) (sEv d.2.2.2.2.2) = [] := by
        unfold plW at hp ⊢
        rw [List.flatMap_append] at hp
        exact List.append_eq_nil_iff.mp hp
      obtain ⟨n1, n2, n3⟩ := List.nodup_append.mp hn
      have k12 := kPs_12 (f := f) (pp := pp) (ee := ee) d.2.2.2.1.2 q
      have ke := kEnv_same k12
      have A1 := kPs_wo (R := R) (L := L) d.2.2.2.1.2 q hk he hp2.1 n1 (fun w hw => by rw [hR w (List.mem_append_left _ hw), kPs_3 _ _ (fun y => n3 w hw w y rfl)]) hL
      have A2 := kPs_wo (R := R) (L := L) d.2.2.2.2.2 _ (hk.same k12) (by rw [ke]; exact he) (by rw [ke]; exact hp2.2) n2 (fun w hw => hR w (List.mem_append_right _ hw)) (by rw [k12.2]; exact hL)
      rw [ke] at A2
      intro w hw
      rcases List.mem_append.mp hw with z | z
      · exact A1 w z
      · exact A2 w z
    · rw [if_neg c2] at hp hn hR ⊢
      rw [if_neg c2] at hR
      have hp2 : plW (kFd f pp ee) (kEnv q) (cEv a) = [] ∧ plW (kFd f pp ee) (kEnv q) (cEv b) = [] := by
        unfold plW at hp ⊢
        rw [List.flatMap_append] at hp
        exact List.append_eq_nil_iff.mp hp
      obtain ⟨n1, n2, n3⟩ := List.nodup_append.mp hn
      have k12 := kCt_12 (f := f) (pp := pp) (ee := ee) a q
      have ke := kEnv_same k12
      have A1 := kCt_wo a q hk he hp2.1 n1 (fun w hw => by rw [hR w (List.mem_append_left _ hw), kCt_3 _ _ (fun y => n3 w hw w y rfl)]) hL
      have A2 := kCt_wo b _ (hk.same k12) (by rw [ke]; exact he) (by rw [ke]; exact hp2.2) n2 (fun w hw => hR w (List.mem_append_right _ hw)) (by rw [k12.2]; exact hL)
      rw [ke] at A2
      intro w hw
      rcases List.mem_append.mp hw with z | z
      · exact A1 w z
      · exact A2 w z
/-- told -/
theorem kTell_wo {w : Nat} {l : List Nat} (hR : R w = nI q.2.1.length) (hL : pfx L (q.2.1 ++ [w] ++ l)) : rTo R L w := ⟨q.2.1.length, hR, hL.get (by rw [List.append_assoc, List.getElem?_append_right (Nat.le_refl _), Nat.sub_self]; rfl)⟩
theorem kTc_3s (w : Nat) (q : kSt) : (kTc f pp ee w q).2.2.1 w = nI q.2.1.length := by
  unfold kTc
  rw [kCnt_3]
  exact upd_at _ _ _
theorem kPar_wo : ∀ (n w : Nat) (q : kSt), (∀ x, x < n → R (w + x) = (kPar f pp ee n w q).2.2.1 (w + x)) → pfx L (kPar f pp ee n w q).2.1 → ∀ x, x < n → rTo R L (w + x)
  | 0, w, q, _, _, x, hx => by omega
  | n + 1, w, q, hR, hL, x, hx => by
    have p12 := (kPar_12 (f := f) (pp := pp) (ee := ee) (n + 1) w q).2
    cases x with
    | zero =>
      refine kTell_wo (q := q) (l := List.range' (w + 1) n) ?_ ?_
      · rw [hR 0 (by omega)]
        show (kPar f pp ee n (w + 1) (kTc f pp ee w q)).2.2.1 w = _
        rw [kPar_3 _ _ _ (fun z => by rw [List.mem_range'_1] at z; omega), kTc_3s]
      · rw [p12, List.range'_succ] at hL
        rw [Nat.add_zero, List.append_assoc]
        exact hL
    | succ x =>
      have := kPar_wo n (w + 1) (kTc f pp ee w q) (fun y hy => by
        have := hR (y + 1) (by omega)
        rw [show w + (y + 1) = w + 1 + y by omega] at this
        exact this) hL x (by omega)
      rw [show w + (x + 1) = w + 1 + x by omega]
      exact this
end WHQ
