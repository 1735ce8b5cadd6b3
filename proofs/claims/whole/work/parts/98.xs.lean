/-! behind the words both sides hold the same -/
theorem upd_ne (K : Nat → Int32) {c j : Nat} (v : Int32) (h : j ≠ c) : upd K c v j = K j := by simp [upd, h]
/-- the reference behind its words, where every letter was well -/
theorem rFin_rW {τ σ : zSt} {T len : Nat} {f : Nat → Int32} {ba : Int32} (hx : τ.2.2.1 1 = f) (hb : ∀ j, j < len → sB (f j)) (hlen : len ≤ 2000) (hbad : (wLex T len (fun j => f j &&& 255) T 0 (fun _ => 0) (fun _ => 0) (fun _ => 0) 0).2.2.2.2 = -1) (h : rFin τ ba len (wLex T len (fun j => f j &&& 255) T 0 (fun _ => 0) (fun _ => 0) (fun _ => 0) 0) σ) : rW σ T len (wLex T len (fun j => f j &&& 255) T 0 (fun _ => 0) (fun _ => 0) (fun _ => 0) 0).2.2.2.1 (wLex T len (fun j => f j &&& 255) T 0 (fun _ => 0) (fun _ => 0) (fun _ => 0) 0).1 (upd (wLex T len (fun j => f j &&& 255) T 0 (fun _ => 0) (fun _ => 0) (fun _ => 0) 0).2.1 (wLex T len (fun j => f j &&& 255) T 0 (fun _ => 0) (fun _ => 0) (fun _ => 0) 0).2.2.2.1 (nI len)) (upd (wLex T len (fun j => f j &&& 255) T 0 (fun _ => 0) (fun _ => 0) (fun _ => 0) 0).2.2.1 (wLex T len (fun j => f j &&& 255) T 0 (fun _ => 0) (fun _ => 0) (fun _ => 0) 0).2.2.2.1 (nI len)) f ∧ σ.1 10 = 0 ∧ σ.1 11 = 0 := by
  have hw := wLex_words T len (fun j => f j &&& 255) (fun _ => 0) (fun _ => 0) (fun _ => 0)
  have ho := (wLex_out T len (fun j => f j &&& 255) T 0 (fun _ => 0) (fun _ => 0) (fun _ => 0) 0).2
  generalize wLex T len (fun j => f j &&& 255) T 0 (fun _ => 0) (fun _ => 0) (fun _ => 0) 0 = R at hbad h hw ho ⊢
  obtain ⟨K, P, E, c, rfl, hc⟩ := h
  obtain ⟨c1, c2, c3, c4, c5⟩ := hc hbad
  refine ⟨⟨hx, hb, fun j hj => ?_, ⟨c3, c4, c5⟩, fun j hj => ?_, ⟨ho _ (Nat.le_refl _), upd_at _ _ _⟩, hw.2, hlen⟩, rfl, ?_⟩
  · rw [upd_ne _ _ (by omega), upd_ne _ _ (by omega)]
    exact c2 j hj
  · rw [upd_ne _ _ (by omega), upd_ne _ _ (by omega)]
    exact hw.1 j hj
  · show (if R.2.2.2.2 = -1 then (0 : Int32) else 1) = 0
    rw [if_pos hbad]
/-- the class behind its words, where every letter was well -/
theorem wFin_pWd {σ : oSt} {w ka pa ea r v len : Nat} {R : wRes} (hap : wAp w ka pa ea r v) (hbad : R.2.2.2.2 = -1) (hc : R.2.2.2.1 ≤ len) (hlen : len ≤ 2000) : pWd (wFin σ w ka pa ea r len R) w (len + 1) R.2.2.2.1 R.1 (upd R.2.1 R.2.2.2.1 (nI len)) (upd R.2.2.1 R.2.2.2.1 (nI len)) := by
  unfold wFin
  rw [hbad]
  exact ⟨r, ka, pa, ea, wSt_w, wSt_k hap, wSt_p hap, wSt_e hap, by omega, by omega⟩
