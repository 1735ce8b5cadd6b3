/-! signs of two letters -/
theorem dSg_k {len a : Nat} {g : Nat → Int32} : (dSg len g a = 300 ↔ a + 1 < len ∧ g a = 60 ∧ g (a + 1) = 61) ∧ (dSg len g a = 301 ↔ a + 1 < len ∧ g a = 62 ∧ g (a + 1) = 61) ∧ (dSg len g a = 302 ↔ a + 1 < len ∧ g a = 38 ∧ g (a + 1) = 38) ∧ (dSg len g a = 303 ↔ a + 1 < len ∧ g a = 124 ∧ g (a + 1) = 124) ∧ (dSg len g a = 304 ↔ a + 1 < len ∧ g a = 45 ∧ g (a + 1) = 62) := by
  unfold dSg
  by_cases h0 : a + 1 < len
  · simp only [if_pos h0, h0, true_and]
    by_cases h1 : g a = 38
    · by_cases k1 : g (a + 1) = 38 <;> simp [h1, k1]
    · by_cases h2 : g a = 45
      · by_cases k1 : g (a + 1) = 62 <;> simp [h2, k1]
      · by_cases h3 : g a = 60
        · by_cases k1 : g (a + 1) = 61 <;> simp [h3, k1]
        · by_cases h4 : g a = 62
          · by_cases k1 : g (a + 1) = 61 <;> simp [h4, k1]
          · by_cases h5 : g a = 124
            · by_cases k1 : g (a + 1) = 124 <;> simp [h5, k1]
            · simp [h1, h2, h3, h4, h5]
  · simp [h0]
section OID
variable {T len a : Nat} {f : Nat → Int32} {tx : String}
theorem isT_dbl {c d k : Nat} (hT : 2010 ≤ T) (hb : ∀ j, j < len → sB (f j)) (ha : a < len) (hwe : a < wEnd len (fun j => f j &&& 255) a) (hle : wEnd len (fun j => f j &&& 255) a ≤ len) (htl : tx.toList.length = 2) (ht0 : zch tx 0 = nI c) (ht1 : zch tx 1 = nI d) (hc : c < 128) (hd : d < 128) (hk : 300 ≤ k ∧ k < 400) (hcS : bL (nI c) = false ∧ bD (nI c) = false) (hD : dSg len (fun j => f j &&& 255) a = nI k ↔ a + 1 < len ∧ f a &&& 255 = nI c ∧ f (a + 1) &&& 255 = nI d) : isT tx f (kMap (wKind T len (fun j => f j &&& 255) a (wEnd len (fun j => f j &&& 255) a))) a (wEnd len (fun j => f j &&& 255) a) = decide (wKind T len (fun j => f j &&& 255) a (wEnd len (fun j => f j &&& 255) a) = nI k) := by
  rw [Bool.eq_iff_iff, isT_iff (by omega), decide_eq_true_iff, htl]
  have lo : ∀ q, q < 128 → (0 : Int32) ≤ nI q ∧ nI q < 128 := fun q hq => ⟨nI_pos' (by omega), Int32.not_le.mp (nI_ge (a := q) (b := 128) hq (by decide))⟩
  have eq0 : f a = nI c ↔ f a &&& 255 = nI c := sB_eq (hb a ha) (lo c hc).1 (lo c hc).2
  have al : ∀ (h2 : a + 1 < len), (∀ j, j < 2 → f (a + j) = zch tx j) ↔ (f a &&& 255 = nI c ∧ f (a + 1) &&& 255 = nI d) := fun h2 => by
    rw [← eq0, ← sB_eq (hb (a + 1) h2) (lo d hd).1 (lo d hd).2]
    refine ⟨fun h => ⟨(h 0 (by decide)).trans ht0, (h 1 (by decide)).trans ht1⟩, fun h j hj => ?_⟩
    by_cases c0 : j = 0
    · rw [c0, ht0]; exact h.1
    · have c1 : j = 1 := by omega
      rw [c1, ht1]; exact h.2
  rcases w_cases (T := T) hwe with ⟨b1, b2⟩ | ⟨b1, b2, b3⟩ | ⟨b1, b2, b3, b4, b5, b6⟩ | ⟨b1, b2, b3, b5, b6⟩
  · refine ⟨fun h => ?_, fun h => ?_⟩
    · have h3 := ((al (by omega)).mp h.2).1
      simp only [h3, hcS.1] at b1
      cases b1
    · rw [b2] at h
      rcases kKind_val (g := fun j => f j &&& 255) (a := a) (l := wEnd len (fun j => f j &&& 255) a - a) hT with h9 | ⟨j, j1, j2⟩
      · rw [h9] at h
        have := nI_inj' (a := 1) (by omega) (by omega) h
        omega
      · rw [j2] at h
        have := nI_inj' (by omega) (by omega) h
        omega
  · refine ⟨fun h => ?_, fun h => ?_⟩
    · have h3 := ((al (by omega)).mp h.2).1
      simp only [h3, hcS.2] at b2
      cases b2
    · rw [b3] at h
      have := nI_inj' (a := 2) (by omega) (by omega) h
      omega
  · rw [b6, b5]
    refine ⟨fun h => by omega, fun h => ?_⟩
    obtain ⟨q, k1, k2, k3⟩ := bS_val b4
    simp only [k3] at h
    have := nI_inj' (by omega) (by omega) h
    omega
  · rw [b6, hD, b5]
    refine ⟨fun h => ?_, fun h => ⟨by omega, (al h.1).mpr h.2⟩⟩
    have h1 : a + 1 < len := by omega
    exact ⟨h1, (al h1).mp h.2⟩
end OID
