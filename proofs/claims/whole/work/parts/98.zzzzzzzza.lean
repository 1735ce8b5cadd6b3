/-! cells of a tree lie behind the parser -/
section CTG
variable {κ : oKv} {T : Nat} {kk pp ee f : Nat → Int32} {A : Nat → Nat} {D : cDt} {σ : oSt} {nm : Nat → Option Nat} {X X' : Nat → Nat → Prop}
theorem cTX.imo {lo0 : Nat} : ∀ (t : tT) (lo : Nat) (env : List Nat) (fk : Nat) (g : Nat → Option Nat) (k m : Nat), lo0 ≤ lo → (∀ m u fs, lo0 ≤ m → σ.1 m = some (.inr (7, fs)) → X m u → X' m u) → cTX κ T kk pp ee f A D X lo σ nm t env fk g k m → cTX κ T kk pp ee f A D X' lo σ nm t env fk g k m
  | .leaf, _, _, _, _, _, _, _, _, h => h
  | .inner n d _ a b, lo, env, fk, g, k, m, hl, hX, h => by
    have Ja := fun lo env fk g k m hl => cTX.imo (lo0 := lo0) a lo env fk g k m hl hX
    have Jb := fun env fk g k m => cTX.imo (lo0 := lo0) b lo env fk g k m hl hX
    unfold cTX at h ⊢
    split at h
    · obtain ⟨h0, h1, x, y, w, h2, h3, h4, h5⟩ := h
      exact ⟨hX _ _ _ (Nat.le_trans hl h1.1) h2 h0, h1, x, y, w, h2, h3, Ja _ _ _ _ _ _ hl h4, Jb _ _ _ _ _ h5⟩
    · obtain ⟨h0, h1, x, y, w, q, h2, h3, h4, h5, h6, h7⟩ := h
      exact ⟨hX _ _ _ (Nat.le_trans hl h1.1) h2 h0, h1, x, y, w, q, h2, h3, h4, h5, Ja _ _ _ _ _ _ hl h6, Jb _ _ _ _ _ h7⟩
    · obtain ⟨h0, h1, x, q, mk, h2, h3, h4, h5⟩ := h
      exact ⟨hX _ _ _ (Nat.le_trans hl h1.1) h2 h0, h1, x, q, mk, h2, h3, h4, Ja _ _ _ _ _ _ (by have := h1.1; omega) h5⟩
    · obtain ⟨h0, h1, c, x, y, h2, h3, h4⟩ := h
      exact ⟨hX _ _ _ (Nat.le_trans hl h1.1) h2 h0, h1, c, x, y, h2, h3, Jb _ _ _ _ _ h4⟩
    · obtain ⟨h1, c, x, h2, h3, h4⟩ := h
      exact ⟨h1, c, x, h2, h3, Jb _ _ _ _ _ h4⟩
    · obtain ⟨h1, x, l, r, nd, su, su', h2, h3, h4, h5, h6⟩ := h
      exact ⟨h1, x, l, r, nd, su, su', h2, h3, h4, h5, Ja _ _ _ _ _ _ hl h6⟩
    · exact h
    · exact h
    · exact h
    · exact h
    · exact h
    · exact h
    · exact h
    · exact h
    · obtain ⟨h1, pa, q, g', h2, h3, h4⟩ := h
      exact ⟨h1, pa, q, g', h2, h3, Ja _ _ _ _ _ _ hl h4⟩
    · obtain ⟨h1, x, h2, h3⟩ := h
      exact ⟨h1, x, h2, Ja _ _ _ _ _ _ hl h3⟩
    · exact h
    · exact h
    · obtain ⟨h0, h1, x, y, c, q, su, na, ta, h2, h3, h4, h5, h6, h7⟩ := h
      exact ⟨hX _ _ _ (Nat.le_trans hl h1.1) h2 h0, h1, x, y, c, q, su, na, ta, h2, h3, h4, h5, Ja _ _ _ _ _ _ hl h6, Jb _ _ _ _ _ h7⟩
    · obtain ⟨x, h1, h2, h3⟩ := h
      exact ⟨x, h1, Ja _ _ _ _ _ _ hl h2, Jb _ _ _ _ _ h3⟩
    · obtain ⟨x, su, h1, h2, h3⟩ := h
      exact ⟨x, su, h1, h2, Jb _ _ _ _ _ h3⟩
    · obtain ⟨x, fs, h1, h2, h3, h4⟩ := h
      exact ⟨x, fs, h1, h2, Ja _ _ _ _ _ _ hl h3, Jb _ _ _ _ _ h4⟩
    · obtain ⟨x, h1, h2, h3⟩ := h
      exact ⟨x, h1, h2, Jb _ _ _ _ _ h3⟩
    · exact h.elim
theorem cNx.nb {lo lo0 u k b : Nat} (h : cNx A D lo σ nm u k b) (hl : lo0 ≤ lo) : ∃ b, nm u = some b ∧ lo0 ≤ b := ⟨b, h.1, Nat.le_trans hl h.2.1.1⟩
theorem cNl.nb {lo lo0 pa w q k : Nat} (h : cNl κ A D lo σ nm pa w q k) (hl : lo0 ≤ lo) {x : Nat} (hx : x < q) : ∃ b, nm (w + x) = some b ∧ lo0 ≤ b := by
  obtain ⟨d, cap, mc, g, -, -, -, h⟩ := h
  obtain ⟨b, -, h⟩ := h x hx
  exact h.nb hl
theorem cTX_nb {cnt lo0 : Nat} : ∀ (t : tT) (l lo : Nat) (env : List Nat) (fk : Nat) (g : Nat → Option Nat) (k m : Nat), lo0 ≤ lo → tWf kk cnt t l → cTX κ T kk pp ee f A D X lo σ nm t env fk g k m → ∀ u, u ∈ tW t → ∃ b, nm u = some b ∧ lo0 ≤ b
  | .leaf, _, _, _, _, _, _, _, _, _, _, u, hu => by cases hu
  | .inner n d z a b, l, lo, env, fk, g, k, m, hl, wf, h, u, hu => by
    have Ia := fun l lo env fk g k m hl w h => cTX_nb (cnt := cnt) (lo0 := lo0) a l lo env fk g k m hl w h u
    have Ib := fun l env fk g k m w h => cTX_nb (cnt := cnt) (lo0 := lo0) b l lo env fk g k m hl w h u
    rcases wf with ⟨rfl, rfl, _, wa, wb⟩ | ⟨rfl, _, wb, hg⟩ | ⟨rfl, hh⟩
    · obtain ⟨x, -, h2, h3⟩ := h
      exact (List.mem_append.mp (show u ∈ tW a ++ tW b from hu)).elim (Ia _ _ _ _ _ _ _ hl wa h2) (Ib _ _ _ _ _ _ wb h3)
    · rcases hg with ⟨rfl, _, rfl⟩ | ⟨rfl, _, wa⟩ | ⟨rfl, _, rfl, _⟩
      · obtain ⟨x, su, -, -, h3⟩ := h
        exact Ib _ _ _ _ _ _ wb h3 hu
      · obtain ⟨x, fs, -, -, h3, h4⟩ := h
        exact (List.mem_append.mp (show u ∈ tW a ++ tW b from hu)).elim (Ia _ _ _ _ _ _ _ hl wa h3) (Ib _ _ _ _ _ _ wb h4)
      · obtain ⟨x, -, -, h3⟩ := h
        exact Ib _ _ _ _ _ _ wb h3 hu
    · rcases hh with ⟨rfl, _, wa, wb⟩ | ⟨rfl, _, wa, wb⟩ | ⟨rfl, _, wa⟩ | ⟨rfl, _, wb⟩ | ⟨rfl, _, wb⟩ | ⟨rfl, _, _, wa⟩ | ⟨rfl | rfl, _, _, rfl, rfl⟩ | ⟨rfl | rfl | rfl, _, rfl, rfl⟩ | ⟨rfl | rfl | rfl, _, rfl, rfl⟩ | ⟨rfl, _⟩ | ⟨rfl, _, wa⟩ | ⟨rfl, _, wa, rfl⟩ | ⟨rfl, _⟩ | ⟨rfl, _, wa, wb⟩
      · obtain ⟨-, -, x, y, w, -, h3, h4, h5⟩ := h
        have hu : u ∈ (d.1 + 1) :: (tW a ++ tW b) := hu
        rcases List.mem_cons.mp hu with e | hu
        · rw [e]; exact h3.nb hl
        · exact (List.mem_append.mp hu).elim (Ia _ _ _ _ _ _ _ hl wa h4) (Ib _ _ _ _ _ _ wb h5)
      · obtain ⟨-, -, x, y, w, q, -, -, h3, h4, h5, h6⟩ := h
        have hu : u ∈ (d.1 + 2) :: (List.range' (d.1 + 3) d.2.1 ++ (tW a ++ tW b)) := hu
        rcases List.mem_cons.mp hu with e | hu
        · rw [e]; exact h3.nb hl
        · rcases List.mem_append.mp hu with hu | hu
          · have := List.mem_range'_1.mp hu
            have := h4.nb hl (x := u - (d.1 + 3)) (by omega)
            rwa [show d.1 + 3 + (u - (d.1 + 3)) = u by omega] at this
          · exact (List.mem_append.mp hu).elim (Ia _ _ _ _ _ _ _ hl wa h5) (Ib _ _ _ _ _ _ wb h6)
      · obtain ⟨-, h1, x, q, mk, -, -, h3, h4⟩ := h
        have hm : lo0 ≤ m + 1 := by have := h1.1; omega
        have hu : u ∈ (d.1 + 1) :: tW a := hu
        rcases List.mem_cons.mp hu with e | hu
        · rw [e]; exact h3.nb hm (x := 0) (by omega)
        · exact Ia _ _ _ _ _ _ _ hm wa h4 hu
      · obtain ⟨-, -, c, x, y, -, -, h4⟩ := h
        exact Ib _ _ _ _ _ _ wb h4 hu
      · obtain ⟨-, c, x, -, -, h4⟩ := h
        exact Ib _ _ _ _ _ _ wb h4 hu
      · obtain ⟨-, x, l, r, nd, su, su', -, -, -, -, h5⟩ := h
        exact Ia _ _ _ _ _ _ _ hl wa h5 hu
      · cases hu
      · cases hu
      · cases hu
      · cases hu
      · cases hu
      · cases hu
      · cases hu
      · cases hu
      · cases hu
      · obtain ⟨-, pa, q, g', -, -, h4⟩ := h
        exact Ia _ _ _ _ _ _ _ hl wa h4 hu
      · obtain ⟨-, x, -, h3⟩ := h
        have hu : u ∈ tW a ++ [] := hu
        rw [List.append_nil] at hu
        exact Ia _ _ _ _ _ _ _ hl wa h3 hu
      · cases hu
      · obtain ⟨-, -, x, y, c, q, su, na, ta, -, -, -, h5, h6, h7⟩ := h
        have hu : u ∈ tW a ++ ([d.2.1, d.2.1 + 1] ++ tW b) := hu
        rcases List.mem_append.mp hu with hu | hu
        · exact Ia _ _ _ _ _ _ _ hl wa h6 hu
        · rcases List.mem_append.mp hu with hu | hu
          · rcases List.mem_cons.mp hu with e | hu
            · rw [e]; exact h5.nb hl (x := 0) (by omega)
            · rw [List.mem_singleton.mp hu]; exact h5.nb hl (x := 1) (by omega)
          · exact Ib _ _ _ _ _ _ wb h7 hu
theorem cIs_nb {lo : Nat} : ∀ (is : List (Nat × Nat)) (k : Nat), cIs A D lo σ nm is k → ∀ x, x ∈ is → ∃ b, nm x.1 = some b ∧ lo ≤ b
  | [], _, _, x, hx => by cases hx
  | y :: ys, k, h, x, hx => by
    obtain ⟨⟨b, q, h1, h2, -⟩, h3⟩ := h
    rcases List.mem_cons.mp hx with rfl | hx
    · exact ⟨b, h1, h2.1⟩
    · exact cIs_nb ys (k + 1) h3 x hx
theorem cTX_ge {cnt lo : Nat} {env : List Nat} {fk m : Nat} : ∀ {t : tT}, tWf kk cnt t 0 → cTX κ T kk pp ee f A D X lo σ nm t env fk (fun _ => none) 0 m → lo ≤ m
  | .leaf, wf, _ => by cases wf
  | .inner g d z a b, wf, h => by
    rcases wf with ⟨c, _⟩ | ⟨c, _⟩ | ⟨-, wf⟩
    · cases c
    · cases c
    · rcases wf with ⟨rfl, -⟩ | ⟨rfl, -⟩ | ⟨rfl, -⟩ | ⟨rfl, -⟩ | ⟨rfl, -⟩ | ⟨rfl, -⟩ | ⟨rfl | rfl, -⟩ | ⟨rfl | rfl | rfl, -⟩ | ⟨rfl | rfl | rfl, -⟩ | ⟨rfl, -⟩ | ⟨rfl, -⟩ | ⟨rfl, -⟩ | ⟨rfl, -⟩ | ⟨rfl, -⟩
      · exact h.2.1.1
      · exact h.2.1.1
      · exact h.2.1.1
      · exact h.2.1.1
      · exact h.1.1
      · exact h.1.1
      · exact h.1.1
      · obtain ⟨su, pa, na, ta, cap, pc, -, -, -, h5, -⟩ := h
        exact h5.1
      · exact h.1.1
      · exact h.1.1
      · exact h.1.1
      · exact h.1.1
      · exact h.1.1
      · exact h.1.1
      · exact h.1.1
      · exact h.1.1
      · exact h.1.1
      · exact h.1.1
      · exact h.2.1.1
end CTG
