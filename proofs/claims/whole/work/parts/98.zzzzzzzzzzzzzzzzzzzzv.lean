/-! the class's gather(): a TEMPLATE that is being made stays -/
/-- all places of a TEMPLATE -/
def kTp (P : Nat → Prop) (Ψ : kGh) : tY → gTm → Prop
  | .leaf, m => P (Ψ.2.1 (m.1, m.2.1))
  | .inner k _ _ a b, m => P (Ψ.2.1 (m.1, m.2.1)) ∧ (k = 0 → kTp P Ψ a (mTk m) ∧ kTp P Ψ b (mAn m))
/-- ghosts agree from a place on -/
def agB (Ψ Ψ' : kGh) (m : gTm) : Prop := (∀ r, Ψ'.2.1 (m.1, m.2.1 ++ r) = Ψ.2.1 (m.1, m.2.1 ++ r)) ∧ (∀ r, Ψ'.1 (.inr (m.1, m.2.1 ++ r)) = Ψ.1 (.inr (m.1, m.2.1 ++ r))) ∧ (∀ w, Ψ'.1 (.inl w) = Ψ.1 (.inl w)) ∧ ∀ s, s ∈ m.2.2.2.2 → Ψ'.1 s = Ψ.1 s
section KTB
variable {st : Nat} {l : Nat → Nat} {b0 : Nat} {nq : tQ → Int} {xs : List tQ} {Q : Nat → Prop} {Ψ Ψ' : kGh} {σ σ' : oSt} {W : Nat → Prop} {P P' : Nat → Prop} {y : Nat} {cc : oC}
theorem kTp.mo (h : ∀ x, P x → P' x) : ∀ (t : tY) (m : gTm), kTp P Ψ t m → kTp P' Ψ t m
  | .leaf, _, h1 => h _ h1
  | .inner k _ _ a b, m, h1 => ⟨h _ h1.1, fun z => ⟨kTp.mo h a _ (h1.2 z).1, kTp.mo h b _ (h1.2 z).2⟩⟩
theorem agB.hd {m : gTm} (h : agB Ψ Ψ' m) : Ψ'.2.1 (m.1, m.2.1) = Ψ.2.1 (m.1, m.2.1) ∧ Ψ'.1 (mPn m) = Ψ.1 (mPn m) ∧ Ψ'.2.1 (m.1, m.2.1 ++ [false]) = Ψ.2.1 (m.1, m.2.1 ++ [false]) ∧ Ψ'.2.1 (m.1, m.2.1 ++ [true]) = Ψ.2.1 (m.1, m.2.1 ++ [true]) := by
  refine ⟨by have := h.1 []; rw [List.append_nil] at this; exact this, ?_, h.1 _, h.1 _⟩
  unfold mPn
  split
  · have := h.2.1 []; rw [List.append_nil] at this; exact this
  · exact h.2.2.1 _
theorem agB.tk {m : gTm} (h : agB Ψ Ψ' m) : agB Ψ Ψ' (mTk m) := ⟨fun r => by show Ψ'.2.1 (m.1, m.2.1 ++ [false] ++ r) = _; rw [List.append_assoc]; exact (h.1 _).trans (by show _ = Ψ.2.1 (m.1, m.2.1 ++ [false] ++ r); rw [List.append_assoc]), fun r => by show Ψ'.1 (.inr (m.1, m.2.1 ++ [false] ++ r)) = _; rw [List.append_assoc]; exact (h.2.1 _).trans (by show _ = Ψ.1 (.inr (m.1, m.2.1 ++ [false] ++ r)); rw [List.append_assoc]), h.2.2.1, h.2.2.2⟩
theorem agB.an {m : gTm} (h : agB Ψ Ψ' m) : agB Ψ Ψ' (mAn m) := ⟨fun r => by show Ψ'.2.1 (m.1, m.2.1 ++ [true] ++ r) = _; rw [List.append_assoc]; exact (h.1 _).trans (by show _ = Ψ.2.1 (m.1, m.2.1 ++ [true] ++ r); rw [List.append_assoc]), fun r => by show Ψ'.1 (.inr (m.1, m.2.1 ++ [true] ++ r)) = _; rw [List.append_assoc]; exact (h.2.1 _).trans (by show _ = Ψ.1 (.inr (m.1, m.2.1 ++ [true] ++ r)); rw [List.append_assoc]), h.2.2.1, fun s hs => by
  have hs : s ∈ (if gMs (yL m.2.2.1) = true then m.2.2.2.2 ++ [mPn m] else m.2.2.2.2) := hs
  split at hs
  · rcases List.mem_append.mp hs with z | z
    · exact h.2.2.2 s z
    · rw [List.mem_singleton.mp z]; exact h.hd.2.1
  · exact h.2.2.2 s hs⟩
theorem kTp.ag : ∀ (t : tY) (m : gTm), agB Ψ Ψ' m → kTp P Ψ t m → kTp P Ψ' t m
  | .leaf, m, h, h1 => by
    show P _
    rw [h.hd.1]; exact h1
  | .inner k _ _ a b, m, h, h1 => ⟨by rw [h.hd.1]; exact h1.1, fun z => ⟨kTp.ag a _ h.tk (h1.2 z).1, kTp.ag b _ h.an (h1.2 z).2⟩⟩
/-- over a frame, ghosts agreeing from the place on -/
theorem kTo.sr (kk : gKp st l b0 W σ σ') (hQ : ∀ x, x < σ.2.1 → (Ψ'.2.2.1 x ↔ Ψ.2.2.1 x)) (hfr : ∀ q, σ.2.1 ≤ q → σ.1 q = none) : ∀ (t : tY) (m : gTm), agB Ψ Ψ' m → kTo st l b0 nq xs Ψ σ t m → kTo st l b0 nq xs Ψ' σ' t m
  | .leaf, m, ag, ⟨h1, h2⟩ => by
    unfold kTo
    rw [ag.hd.1]
    exact ⟨h1.sp kk hQ hfr, h2.sp kk hQ hfr⟩
  | .inner k _ _ a b, m, ag, ⟨h1, h2⟩ => by
    obtain ⟨g1', gp, gf, gt⟩ := ag.hd
    unfold kTo
    rw [g1']
    refine ⟨h1.sp kk hQ hfr, ?_⟩
    by_cases c : k = 0
    · rw [if_pos c] at h2 ⊢
      obtain ⟨⟨⟨fs, gs, g1, g2, g3, g4, g5⟩, g6⟩, ha, hb⟩ := h2
      obtain ⟨gs', n1, n2, n3⟩ := kk.2.1 _ _ g3
      refine ⟨⟨⟨fs, gs', kk.ob g1 (by decide) (by decide) (by decide) (by decide), ?_, ?_, n2.trans g4, (n3 3 (by decide) (fun z => absurd z (by decide))).trans g5.1, fun z => (n3 0 (by decide) (fun z => absurd z (by decide))).trans (g5.2 z)⟩, fun s h => ?_⟩, kTo.sr kk hQ hfr a (mTk m) ag.tk ha, kTo.sr kk hQ hfr b (mAn m) ag.an hb⟩
      · rw [gp, gf, gt]; exact g2
      · rw [gp]; exact n1
      · rw [gp, ag.2.2.2 s h]; exact g6 s h
    · rw [if_neg c] at h2 ⊢
      have eF : (if k = 2 then [] else gIn nq xs (.inner k () () a b) m.2.2.2.2).map (fun c => (c.1, kTm Ψ'.1 c.2)) = (if k = 2 then [] else gIn nq xs (.inner k () () a b) m.2.2.2.2).map (fun c => (c.1, kTm Ψ.1 c.2)) := by
        refine List.map_congr_left (fun c hc => ?_)
        split at hc
        · cases hc
        · rw [kTm_ag (fun s e w => ag.2.2.2 s (gIn_nm hc s e w).1)]
      rw [eF]
      refine ⟨h2.1.sp kk hQ hfr, (hQ _ ?_).mpr h2.2⟩
      obtain ⟨fs, -, -, k1, -⟩ := h1
      exact Nat.lt_of_not_le (fun z => by rw [hfr _ z] at k1; cases k1)
theorem kGq.pw {k w : Nat} {kd : Int32} (h : prW st σ y cc) (hn : k ≠ y) (g : kGq st l b0 Q σ k w kd []) : kGq st l b0 Q (oput σ y cc) k w kd [] := by
  obtain ⟨fs, gn, ins, h1, h2, h0, h3, h4, h5, h6, h7⟩ := g
  refine ⟨fs, gn, ins, by rw [oput_ne hn]; exact h1, h2, h0, h3, h4, h5, h6, ?_⟩
  rcases h7 with h7 | ⟨x, y', g, g', z1, z2, a1, a2, a3, ⟨q1, q2, q3⟩, a4⟩
  · exact Or.inl h7
  · exact Or.inr ⟨x, y', g, g', z1, z2, a1, by rw [oput_ne (h.ne.2 _ a2 q1.1)]; exact a2, by rw [oput_ne (h.ne.2 _ a3 q2.1)]; exact a3, ⟨h.qa q1, h.qa q2, q3⟩, fun i z e => by cases e⟩
theorem kOq.pw {w : Nat} {F : List kFc} (h : prW st σ y cc) (hn : w ≠ y) (g : kOq st l b0 Q σ w F) : kOq st l b0 Q (oput σ y cc) w F := by
  obtain ⟨fs, h1, h2, h3, h4, h5⟩ := g
  refine ⟨fs, by rw [oput_ne hn]; exact h1, h2, h3, h4, ?_⟩
  rcases h5 with h5 | ⟨ra, sa, cap, hr, gs, a1, a2, a3, a4, a5, ⟨q1, q2⟩, a6⟩
  · exact Or.inl h5
  · exact Or.inr ⟨ra, sa, cap, hr, gs, a1, a2, by rw [oput_ne (h.ne.2 _ a3 q1.1)]; exact a3, by rw [oput_ne (h.ne.2 _ a4 q2.1)]; exact a4, a5, ⟨h.qa q1, h.qa q2⟩, fun i x e => ⟨(a6 i x e).1, (a6 i x e).2.1, (a6 i x e).2.2.imp fun su z => ⟨z.1, h.ct z.2⟩⟩⟩
/-- over a single write elsewhere -/
theorem kTo.pw (h : prW st σ y cc) : ∀ (t : tY) (m : gTm), kTp (fun x => x ≠ y) Ψ t m → kTo st l b0 nq xs Ψ σ t m → kTo st l b0 nq xs Ψ (oput σ y cc) t m
  | .leaf, m, hp, ⟨h1, h2⟩ => ⟨h1.pw h hp, h2.pw h hp⟩
  | .inner k _ _ a b, m, hp, ⟨h1, h2⟩ => by
    unfold kTo
    refine ⟨h1.pw h hp.1, ?_⟩
    by_cases c : k = 0
    · rw [if_pos c] at h2 ⊢
      obtain ⟨⟨⟨fs, gs, g1, g2, g3, g4, g5⟩, g6⟩, ha, hb⟩ := h2
      obtain ⟨gs', n1, n2, n3⟩ := h.nm.1 _ _ g3
      exact ⟨⟨⟨fs, gs', by rw [oput_ne hp.1]; exact g1, g2, n1, n2.trans g4, (n3 3 (by decide)).trans g5.1, fun z => (n3 0 (by decide)).trans (g5.2 z)⟩, g6⟩, kTo.pw h a (mTk m) (hp.2 c).1 ha, kTo.pw h b (mAn m) (hp.2 c).2 hb⟩
    · rw [if_neg c] at h2 ⊢
      exact ⟨h2.1.pw h hp.1, h2.2⟩
end KTB
