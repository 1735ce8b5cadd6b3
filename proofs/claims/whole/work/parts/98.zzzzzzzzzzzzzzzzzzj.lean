/-! what gWk makes of a PROGRAM can be asked -/
section DGW
variable {T cnt : Nat} {kk f pp ee R : Nat → Int32} {tE tN : Nat → tY} {L : List Nat} {Γ : uGm} {C B : Int} {rt : Nat → gTm}
/-- INPUTS are told -/
theorem gIs_w : ∀ (r : List (Nat × Nat)) (env : List Nat) (sc : List gEn) (s : gSt), eW Γ C B rt tN env sc s.1 → (∀ y, y ∈ r → tN y.1 = yB y.2 ∧ uNm Γ (.inl y.1)) → (env ++ r.map Prod.fst).Nodup → eW Γ C B rt tN (env ++ r.map Prod.fst) (gIs r sc s).1 (gIs r sc s).2.1 ∧ scC (gIs r sc s).1 = scC sc ∧ (gIs r sc s).2.2 = s.2
  | [], env, sc, s, h, _, _ => by
    rw [List.map_nil, List.append_nil]
    exact ⟨h, rfl, rfl⟩
  | y :: r, env, sc, s, h, hy, hn => by
    rw [List.map_cons] at hn ⊢
    obtain ⟨h1, h2⟩ := hy y (List.mem_cons_self ..)
    have n1 : y.1 ∉ env := fun z => by
      obtain ⟨_, _, h3⟩ := List.nodup_append.mp hn
      exact h3 _ z _ (List.mem_cons_self ..) rfl
    have e := h.tel n1 h2 (gPl_w (C := C) (B := B) (rt := rt) (S := nmS sc) (y := yB y.2) (by show y.2 + 1 + 1 ≠ 1; omega)) h1.symm
    obtain ⟨a1, a2, a3⟩ := gIs_w r (env ++ [y.1]) (gNm (.inl y.1) (gPl (yB y.2)) sc) (gTn y.1 (gPl (yB y.2)) s) e (fun z hz => hy z (List.mem_cons_of_mem _ hz)) (by rw [List.append_assoc]; exact hn)
    rw [List.append_assoc] at a1
    exact ⟨a1, a2.trans (scC_nm _ _ _), a3⟩
theorem tLe_nd {t : tT} {env : List Nat} {i j : Nat} (h : tRg t i j) : ((tLe tE tN t env).map Prod.fst).Nodup := by
  have h1 := (tLs_nd (tE := tE) (tN := tN) t i j h).2
  rw [← (tLe_3 (tE := tE) (tN := tN) t env).1, List.map_map] at h1
  exact h1
/-- **what decide() asks of a PROGRAM can be asked**, given how large its types are (gMx) and its conditions and S's (gHb) -/
theorem dGd_gWk {is : List (Nat × Nat)} {t : tT} {i j : Nat} {y : tY} {A0 : gTy} {q0 : Nat → gTy} {sc : List gEn} {s0 : gSt} {W : gSt × gTy} {OT : gTy → Prop} (hO : ∀ X, OT X → ∃ S, wfT Γ C B rt S X) (hrt : rt = rtO (tLe tE tN t (is.map Prod.fst))) (hQ : rtQ Γ rt) (hI : rtI Γ rt) (hq : qlW Γ C B) (hB : 4 ≤ B) (hu : ∀ w, w ∈ L → uNm Γ (.inl w)) (hi : ∀ y, y ∈ is → tN y.1 = yB y.2 ∧ uNm Γ (.inl y.1)) (hin : (is.map Prod.fst).Nodup) (wf : tWf kk cnt t 0) (rg : tRg t i j) (wo : rWo f pp ee R L t (is.map Prod.fst)) (nd : (tW t).Nodup) (nw : ∀ w, w ∈ tW t → w ∉ is.map Prod.fst) (ok : gOk f pp ee tE tN t (is.map Prod.fst) y) (mx : gMx f pp ee tE tN 59 t (is.map Prod.fst)) (hb : gHb T f pp ee tN Γ C B rt (cbS T cnt kk pp ee f R L B tN) (nbS T cnt kk pp ee f R L B tN) t (is.map Prod.fst) []) (hs : gIs is [] (q0, [], []) = (sc, s0)) (hW : gWk T f pp ee tE tN t (is.map Prod.fst) sc A0 s0 = W) : dGd T cnt kk pp ee f R L Γ B (fkO Γ rt W.1.2.1 W.1.2.2 OT) W.1.2.1 W.1.2.2 OT := by
  have E := gIs_w (Γ := Γ) (C := C) (B := B) (rt := rt) (tN := tN) is [] [] (q0, [], []) ⟨rfl, trivial, fun u hu => (by cases hu)⟩ hi (by rw [List.nil_append]; exact hin)
  rw [hs, List.nil_append] at E
  obtain ⟨e1, e2, e3⟩ := E
  have e2 : scC sc = [] := e2
  have e3 : s0.2 = ([], []) := e3
  have hr : ∀ m, m ∈ tLe tE tN t (is.map Prod.fst) → rt m.1 = m := fun m hm => by rw [hrt]; exact rtO_me _ (tLe_nd rg) m hm
  have hq' := gHq_of (T := T) (kk := kk) (cnt := cnt) (C := C) (B := B) (M := 59) (CB := cbS T cnt kk pp ee f R L B tN) (NB := nbS T cnt kk pp ee f R L B tN) (tE := tE) (tN := tN) (rt := rt) hu t 0 (is.map Prod.fst) [] wf wo nd nw hr mx hb
  have O := gWk_w hQ hq.2.2.2 hB t (is.map Prod.fst) sc A0 s0 y (by rw [e2]; exact hq') ok e1 (aH.e wf.e)
  rw [hW] at O
  obtain ⟨-, -, o2, o3⟩ := O
  refine dGd_of (tN := tN) hq hI (fun x hx => ?_) (fun x hx => ?_) hO
  · rcases o2 x hx with z | z
    · rw [e3] at z; cases z
    · exact z
  · rcases o3 x hx with z | z
    · rw [e3] at z; cases z
    · exact z
end DGW
