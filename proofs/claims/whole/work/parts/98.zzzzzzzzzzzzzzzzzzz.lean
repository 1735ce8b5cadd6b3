/-! an S whose type can be said -/
section SUO
variable {f kk pp ee R : Nat → Int32} {T len cnt : Nat} {V : zSt} {Γ : uGm} {C B : Int} {tN : Nat → tY} {env L : List Nat}
theorem isN_ev {ps : List tP} (h : isN ps = true) : (ps.headD (0, false, 0)).2.2 ∈ sEv ps := by
  obtain ⟨h1, h2, -⟩ := of_decide_eq_true h
  match ps, h1, h2 with
  | [p], _, h2 =>
    have h2 : p.1 = 1 := h2
    unfold sEv sNm
    rw [List.filter_cons_of_pos (by simp [h2])]
    exact List.mem_cons_self ..
theorem suW_of {ps : List tP} (hu : ∀ u, u ∈ env → uNm Γ (.inl u)) (hT : 2010 ≤ T) (h : rW V T len cnt kk pp ee f) (hg : sGd cnt ps) (hk : sKn kk ps) (hw : rWs f pp ee R L env (sEv ps)) (hs : isN ps = false → gSo f pp ee tN env ps) (hC : 10010000 ≤ C) (hB : 20020002 ≤ B) : suW T f pp ee Γ C B tN env ps := ⟨fun e => (hw _ (isN_ev e)).m, fun e ht => tmW_of hu hT h hg hk (hs e) ht hC hB⟩
/-- a type of * / % can be said where the product is not too large -/
theorem gSg_w {rt : Nat → gTm} {S : List gN} {g : Nat} {p1 p2 : List tP} (hT : 2010 ≤ T) (h : rW V T len cnt kk pp ee f) (g2 : sGd cnt p2) (k2 : sKn kk p2) (hB : 20020002 ≤ B) (hm : g = 11 → gTb B (none, (sPl T f pp ee p1).toInt * (sPl T f pp ee p2).toInt)) : wfT Γ C B rt S (gSg T f pp ee g env p1 p2) := by
  obtain ⟨b1, b2⟩ := sPl_sm hT h g2 k2
  unfold gSg
  split
  · refine ⟨⟨rfl, (show yK (yB 0) ≠ 1 by decide), Nat.le_refl _⟩, fun c hc => ?_⟩
    rcases List.mem_cons.mp (show c ∈ [(4, (none, 0)), (1, (none, (sPl T f pp ee p2).toInt))] from hc) with e | e
    · rw [e]
      exact ⟨Nat.le_refl _, fun x e w => (by cases w), gTb_0 (by omega) _, fun s e w => (by cases w)⟩
    · rw [List.mem_singleton.mp e]
      refine ⟨by show 1 ≤ 4; omega, fun x e w => (by cases w), ?_, fun s e w => (by cases w)⟩
      unfold gTb
      dsimp only
      omega
  · split
    · rename_i c
      exact gEq_w (by decide) (fun x e w => (by cases w)) (hm c.1) (fun s e w => (by cases w))
    · exact gPl_w (by decide)
end SUO
