/-! countTemplates() of the class: c_cnt -/
section CCX
variable {κ : oKv} {T T0 mo y cnt : Nat} {A B : Nat → Nat} {D : cDt} {V σ0 : oSt} {nm : Nat → Option Nat} {kk pp ee f : Nat → Int32} {L : List Nat} {g : gG} {ρ tE tN : Nat → tY} {d : Nat × Nat × Nat × tS × tS} {z : Unit} {a b : tT}
theorem cc_1 (H : cHw κ T mo y cnt A V nm pp L g ρ tN σ0) (Ia : cCw κ T T0 mo y cnt A B D V nm kk pp ee f L g ρ tE tN σ0 a) (Ib : cCw κ T T0 mo y cnt A B D V nm kk pp ee f L g ρ tE tN σ0 b) (wa : tWf kk cnt a 0) (wb : tWf kk cnt b 0) : cCw κ T T0 mo y cnt A B D V nm kk pp ee f L g ρ tE tN σ0 (.inner 1 d z a b) := fun env fk lo m i j n hX wf hg hr hj hW hn σ q l hl hb h hF => by
  have hT := H.1
  have hy := H.2.1.1.2.1
  have hA := H.2.1.1.2.2.1
  have hp0 := H.2.1.1.2.2.2.2
  have hv := H.2.2.1
  obtain ⟨⟨r1, r2, -⟩, k, ⟨r3, -⟩, ra, rb⟩ := (show (i ≤ d.1 ∧ d.1 < j ∧ _) ∧ ∃ k, (d.1 + 1 ≤ k ∧ _) ∧ tRg a (d.1 + 1) k ∧ tRg b k j from hr)
  obtain ⟨hx, -, x, y', w, e, -, ta, tb⟩ := hX
  have hn : max (tH a) (tH b) + 1 + 5 ≤ n := hn
  have hW : ∀ u, u ∈ (d.1 + 1) :: (tW a ++ tW b) → u ∈ L := hW
  obtain ⟨n, rfl⟩ : ∃ n', n = n' + 3 := ⟨n - 3, by omega⟩
  have Ka := Ia env fk lo x (d.1 + 1) k (n + 2) ta wa hg.2.2.2.1 ra (by have := tRg.le b _ _ rb; omega) (fun u hu => hW u (List.mem_cons_of_mem _ (List.mem_append_left _ hu))) (by omega)
  have Kb := Ib (env ++ [d.1 + 1]) (fk + nF a) lo y' k j (n + 2) tb wb hg.2.2.2.2 rb hj (fun u hu => hW u (List.mem_cons_of_mem _ (List.mem_append_right _ hu))) (by omega)
  obtain ⟨σ1, o1, o2, o3, o4⟩ := c_own (κ := κ) (n := n) (pl := pp d.1) hT hy hA hv e rfl (by decide) hx hl h hF
  rw [o1]
  have R := c_two (fa := tOv pp tE tN a) (fb := tOv pp tE tN b) hT hy hA hv e rfl (by decide) rfl (hp0 d.1) rfl rfl (fun q hq => by rw [tOv_hi hq, tOv_hi hq]) Ka Kb (by have := tRg.le a _ _ ra; have := tRg.le b _ _ rb; omega) hj o2 (by omega) o3 o4
  exact R
theorem cc_19 (H : cHw κ T mo y cnt A V nm pp L g ρ tN σ0) (Ia : cCw κ T T0 mo y cnt A B D V nm kk pp ee f L g ρ tE tN σ0 a) (Ib : cCw κ T T0 mo y cnt A B D V nm kk pp ee f L g ρ tE tN σ0 b) (wa : tWf kk cnt a 0) (wb : tWf kk cnt b 0) : cCw κ T T0 mo y cnt A B D V nm kk pp ee f L g ρ tE tN σ0 (.inner 19 d z a b) := fun env fk lo m i j n hX wf hg hr hj hW hn σ q l hl hb h hF => by
  have hT := H.1
  have hy := H.2.1.1.2.1
  have hA := H.2.1.1.2.2.1
  have hp0 := H.2.1.1.2.2.2.2
  have hv := H.2.2.1
  obtain ⟨⟨r1, r2, -⟩, k, ⟨r3, -⟩, ra, rb⟩ := (show (i ≤ d.1 ∧ d.1 < j ∧ _) ∧ ∃ k, (d.1 + 1 ≤ k ∧ _) ∧ tRg a (d.1 + 1) k ∧ tRg b k j from hr)
  obtain ⟨hx, -, x, y', c, q0, su, na, ta0, e, -, -, -, ta, tb⟩ := hX
  have hn : max (tH a) (tH b) + 1 + 5 ≤ n := hn
  have hW : ∀ u, u ∈ tW a ++ (List.range' d.2.1 2 ++ tW b) → u ∈ L := hW
  obtain ⟨n, rfl⟩ : ∃ n', n = n' + 3 := ⟨n - 3, by omega⟩
  have Ka := Ia env fk lo x (d.1 + 1) k (n + 2) ta wa hg.2.2.2.1 ra (by have := tRg.le b _ _ rb; omega) (fun u hu => hW u (List.mem_append_left _ hu)) (by omega)
  have Kb := Ib (env ++ [d.2.1, d.2.1 + 1]) (fk + nF a) lo y' k j (n + 2) tb wb hg.2.2.2.2 rb hj (fun u hu => hW u (List.mem_append_right _ (List.mem_append_right _ hu))) (by omega)
  obtain ⟨σ1, o1, o2, o3, o4⟩ := c_own (κ := κ) (n := n) (pl := pp d.1) hT hy hA hv e rfl (by decide) hx hl h hF
  rw [o1]
  have R := c_two (fa := tOv pp tE tN a) (fb := tOv pp tE tN b) hT hy hA hv e rfl (by decide) rfl (hp0 d.1) rfl rfl (fun q hq => by rw [tOv_hi hq, tOv_hi hq]) Ka Kb (by have := tRg.le a _ _ ra; have := tRg.le b _ _ rb; omega) hj o2 (by omega) o3 o4
  exact R
theorem cc_2 (H : cHw κ T mo y cnt A V nm pp L g ρ tN σ0) (Ia : cCw κ T T0 mo y cnt A B D V nm kk pp ee f L g ρ tE tN σ0 a) (Ib : cCw κ T T0 mo y cnt A B D V nm kk pp ee f L g ρ tE tN σ0 b) (wa : tWf kk cnt a 0) (wb : tWf kk cnt b 0) : cCw κ T T0 mo y cnt A B D V nm kk pp ee f L g ρ tE tN σ0 (.inner 2 d z a b) := fun env fk lo m i j n hX wf hg hr hj hW hn σ q l hl hb h hF => by
  have hT := H.1
  have hy := H.2.1.1.2.1
  have hA := H.2.1.1.2.2.1
  have hp0 := H.2.1.1.2.2.2.2
  have hv := H.2.2.1
  obtain ⟨⟨r1, r2, -⟩, k, ⟨r3, -⟩, ra, rb⟩ := (show (i ≤ d.1 ∧ d.1 < j ∧ _) ∧ ∃ k, (d.1 + 1 ≤ k ∧ _) ∧ tRg a (d.1 + 1) k ∧ tRg b k j from hr)
  obtain ⟨hx, -, x, y', w, q0, e, -, ⟨hw, -⟩, -, ta, tb⟩ := hX
  have hn : max (tH a) (tH b) + 1 + 5 ≤ n := hn
  have hW : ∀ u, u ∈ (d.1 + 2) :: (List.range' (d.1 + 3) d.2.1 ++ (tW a ++ tW b)) → u ∈ L := hW
  obtain ⟨n, rfl⟩ : ∃ n', n = n' + 3 := ⟨n - 3, by omega⟩
  have Ka := Ia (env ++ ([d.1 + 2] ++ List.range' (d.1 + 3) d.2.1)) (fk + 1) lo x (d.1 + 1) k (n + 2) ta wa hg.2.2.2.1 ra (by have := tRg.le b _ _ rb; omega) (fun u hu => hW u (List.mem_cons_of_mem _ (List.mem_append_right _ (List.mem_append_left _ hu)))) (by omega)
  have Kb := Ib (env ++ [d.1 + 2]) (fk + 1 + nF a) lo y' k j (n + 2) tb wb hg.2.2.2.2 rb hj (fun u hu => hW u (List.mem_cons_of_mem _ (List.mem_append_right _ (List.mem_append_right _ hu)))) (by omega)
  obtain ⟨σ1, o1, o2, o3, o4⟩ := c_own2 (n := n) (pl := pp d.1) H e rfl rfl hw (hW _ (List.mem_cons_self ..)) hx hl h hF
  rw [o1]
  have R := c_two (fa := tOv pp tE tN a) (fb := tOv pp tE tN b) hT hy hA hv e rfl (by decide) rfl (hp0 d.1) rfl rfl (fun q hq => by rw [tOv_hi hq, tOv_hi hq]) Ka Kb (by have := tRg.le a _ _ ra; have := tRg.le b _ _ rb; omega) hj o2 (by omega) o3 o4
  exact R
theorem cc_3 (H : cHw κ T mo y cnt A V nm pp L g ρ tN σ0) (Ia : cCw κ T T0 mo y cnt A B D V nm kk pp ee f L g ρ tE tN σ0 a) (wa : tWf kk cnt a 0) : cCw κ T T0 mo y cnt A B D V nm kk pp ee f L g ρ tE tN σ0 (.inner 3 d z a b) := fun env fk lo m i j n hX wf hg hr hj hW hn σ q l hl hb h hF => by
  have hT := H.1
  have hy := H.2.1.1.2.1
  have hA := H.2.1.1.2.2.1
  have hp0 := H.2.1.1.2.2.2.2
  have hv := H.2.2.1
  obtain ⟨⟨r1, r2, -⟩, k, ⟨r3, -⟩, ra, rb⟩ := (show (i ≤ d.1 ∧ d.1 < j ∧ _) ∧ ∃ k, (d.1 + 1 ≤ k ∧ _) ∧ tRg a (d.1 + 1) k ∧ tRg b k j from hr)
  obtain ⟨hx, -, x, q0, mk, e, -, -, ta⟩ := hX
  have hn : max (tH a) (tH b) + 1 + 5 ≤ n := hn
  have hW : ∀ u, u ∈ (d.1 + 1) :: tW a → u ∈ L := hW
  obtain ⟨n, rfl⟩ : ∃ n', n = n' + 3 := ⟨n - 3, by omega⟩
  have Ka := Ia (env ++ [d.1 + 1]) (fk + 1) (m + 1) x (d.1 + 1) k (n + 2) ta wa hg.2.2.2.1 ra (by have := tRg.le b _ _ rb; omega) (fun u hu => hW u (List.mem_cons_of_mem _ hu)) (by omega)
  have hkj := tRg.le b _ _ rb
  have Ka : cKw κ T y mo A g ρ σ0 (n + 2) x (tOv pp tE tN a) (d.1 + 1) j := fun σ q l h1 h2 h3 h4 => by
    obtain ⟨σ', l', i1, i2, i3, i4, i5⟩ := Ka σ q l h1 h2 h3 h4
    exact ⟨σ', l', i1, i2, i3, i4, by omega⟩
  obtain ⟨σ1, o1, o2, o3, o4⟩ := c_own (κ := κ) (n := n) (pl := pp d.1) hT hy hA hv e rfl (by decide) hx hl h hF
  rw [o1]
  have R := c_one (fa := tOv pp tE tN a) hT hy hA hv e rfl (by decide) rfl (hp0 d.1) rfl rfl (fun q hq => tOv_hi hq a) Ka (by have := tRg.le a _ _ ra; omega) hj o2 (by omega) o3 o4
  exact R
theorem cc_4 {d' : Nat × Nat × Nat × tS × tS} {z' : Unit} {b1 b2 : tT} (H : cHw κ T mo y cnt A V nm pp L g ρ tN σ0) (I1 : cCw κ T T0 mo y cnt A B D V nm kk pp ee f L g ρ tE tN σ0 b1) (I2 : cCw κ T T0 mo y cnt A B D V nm kk pp ee f L g ρ tE tN σ0 b2) (w1 : tWf kk cnt b1 0) (w2 : tWf kk cnt b2 0) : cCw κ T T0 mo y cnt A B D V nm kk pp ee f L g ρ tE tN σ0 (.inner 4 d z a (.inner 31 d' z' b1 b2)) := fun env fk lo m i j n hX wf hg hr hj hW hn σ q l hl hb h hF => by
  have hT := H.1
  have hy := H.2.1.1.2.1
  have hA := H.2.1.1.2.2.1
  have hp0 := H.2.1.1.2.2.2.2
  have hv := H.2.2.1
  obtain ⟨⟨r1, r2, -⟩, k0, ⟨r3, -⟩, -, k, ra, rb⟩ := (show (i ≤ d.1 ∧ d.1 < j ∧ _) ∧ ∃ k0, (d.1 + 1 ≤ k0 ∧ _) ∧ True ∧ ∃ k, tRg b1 k0 k ∧ tRg b2 k j from hr)
  obtain ⟨hx, -, c, x, y', e, -, tt⟩ := hX
  obtain ⟨x', ex, ta, tb⟩ := tt
  have ex : x = x' := by injection ex
  subst ex
  have hn : max (tH b1) (tH b2) + 1 + 5 ≤ n := hn
  have hW : ∀ u, u ∈ tW b1 ++ tW b2 → u ∈ L := hW
  have gb := hg.2.2.2.2
  obtain ⟨n, rfl⟩ : ∃ n', n = n' + 3 := ⟨n - 3, by omega⟩
  have Ka := I1 env fk lo x k0 k (n + 2) ta w1 gb.2.2.2.1 ra (by have := tRg.le b2 _ _ rb; omega) (fun u hu => hW u (List.mem_append_left _ hu)) (by omega)
  have Kb := I2 env (fk + nF b1) lo y' k j (n + 2) tb w2 gb.2.2.2.2 rb hj (fun u hu => hW u (List.mem_append_right _ hu)) (by omega)
  obtain ⟨σ1, o1, o2, o3, o4⟩ := c_own (κ := κ) (n := n) (pl := pp d.1) hT hy hA hv e rfl (by decide) hx hl h hF
  rw [o1]
  have R := c_two (fa := tOv pp tE tN b1) (fb := tOv pp tE tN b2) hT hy hA hv e rfl (by decide) rfl (hp0 d.1) rfl rfl (fun q hq => by rw [tOv_hi hq, tOv_hi hq]) Ka Kb (by have := tRg.le b1 _ _ ra; have := tRg.le b2 _ _ rb; omega) hj o2 (by omega) o3 o4
  exact R
theorem cc_5 (H : cHw κ T mo y cnt A V nm pp L g ρ tN σ0) (Ib : cCw κ T T0 mo y cnt A B D V nm kk pp ee f L g ρ tE tN σ0 b) (wb : tWf kk cnt b 0) : cCw κ T T0 mo y cnt A B D V nm kk pp ee f L g ρ tE tN σ0 (.inner 5 d z a b) := fun env fk lo m i j n hX wf hg hr hj hW hn σ q l hl hb h hF => by
  have hT := H.1
  have hy := H.2.1.1.2.1
  have hA := H.2.1.1.2.2.1
  have hp0 := H.2.1.1.2.2.2.2
  have hv := H.2.2.1
  obtain ⟨⟨r1, r2, -⟩, k, ⟨r3, -⟩, -, rb⟩ := (show (i ≤ d.1 ∧ d.1 < j ∧ _) ∧ ∃ k, (d.1 + 1 ≤ k ∧ _) ∧ True ∧ tRg b k j from hr)
  obtain ⟨-, c, x, e, -, ta⟩ := hX
  have hn : tH b + 1 + 5 ≤ n := hn
  have hW : ∀ u, u ∈ tW b → u ∈ L := hW
  obtain ⟨n, rfl⟩ : ∃ n', n = n' + 3 := ⟨n - 3, by omega⟩
  have Ka := Ib env fk lo x k j (n + 2) ta wb hg.2.2.2.2 rb hj hW (by omega)
  rw [show n + 3 = (n + 2) + 1 from rfl, c_own0 H e rfl (by decide) hF]
  exact c_one hT hy hA hv e rfl (by decide) rfl (hp0 d.1) rfl rfl (fun q hq => tOv_hi hq b) Ka (by have := tRg.le b _ _ rb; omega) hj hl.r (by omega) h hF
theorem cc_6 (H : cHw κ T mo y cnt A V nm pp L g ρ tN σ0) (Ia : cCw κ T T0 mo y cnt A B D V nm kk pp ee f L g ρ tE tN σ0 a) (wa : tWf kk cnt a 0) : cCw κ T T0 mo y cnt A B D V nm kk pp ee f L g ρ tE tN σ0 (.inner 6 d z a b) := fun env fk lo m i j n hX wf hg hr hj hW hn σ q l hl hb h hF => by
  have hT := H.1
  have hy := H.2.1.1.2.1
  have hA := H.2.1.1.2.2.1
  have hp0 := H.2.1.1.2.2.2.2
  have hv := H.2.2.1
  obtain rfl : b = .leaf := hg.2.2.1.2.2 (Or.inr (Or.inl rfl))
  obtain ⟨⟨r1, r2, -⟩, k, ⟨r3, -⟩, ra, rb⟩ := (show (i ≤ d.1 ∧ d.1 < j ∧ _) ∧ ∃ k, (d.1 + 1 ≤ k ∧ _) ∧ tRg a (d.1 + 1) k ∧ tRg .leaf k j from hr)
  obtain ⟨-, x, l0, r0, nd, su, su', e, -, -, -, ta⟩ := hX
  have hn : max (tH a) (tH .leaf) + 1 + 5 ≤ n := hn
  have hW : ∀ u, u ∈ tW a → u ∈ L := hW
  have hkj : k ≤ j := rb
  obtain ⟨n, rfl⟩ : ∃ n', n = n' + 3 := ⟨n - 3, by omega⟩
  have Ka := Ia env fk lo x (d.1 + 1) k (n + 2) ta wa hg.2.2.2.1 ra (by omega) hW (by omega)
  have Ka : cKw κ T y mo A g ρ σ0 (n + 2) x (tOv pp tE tN a) (d.1 + 1) j := fun σ q l h1 h2 h3 h4 => by
    obtain ⟨σ', l', i1, i2, i3, i4, i5⟩ := Ka σ q l h1 h2 h3 h4
    exact ⟨σ', l', i1, i2, i3, i4, by omega⟩
  rw [show n + 3 = (n + 2) + 1 from rfl, c_own0 H e rfl (by decide) hF]
  exact c_one hT hy hA hv e rfl (by decide) rfl (hp0 d.1) rfl rfl (fun q hq => tOv_hi hq a) Ka (by have := tRg.le a _ _ ra; omega) hj hl.r (by omega) h hF
theorem cc_16 (H : cHw κ T mo y cnt A V nm pp L g ρ tN σ0) (Ia : cCw κ T T0 mo y cnt A B D V nm kk pp ee f L g ρ tE tN σ0 a) (wa : tWf kk cnt a 0) (hb0 : b = .leaf) : cCw κ T T0 mo y cnt A B D V nm kk pp ee f L g ρ tE tN σ0 (.inner 16 d z a b) := fun env fk lo m i j n hX wf hg hr hj hW hn σ q l hl hb h hF => by
  have hT := H.1
  have hy := H.2.1.1.2.1
  have hA := H.2.1.1.2.2.1
  have hp0 := H.2.1.1.2.2.2.2
  have hv := H.2.2.1
  subst hb0
  obtain ⟨⟨r1, r2, -⟩, k, ⟨r3, -⟩, ra, rb⟩ := (show (i ≤ d.1 ∧ d.1 < j ∧ _) ∧ ∃ k, (d.1 + 1 ≤ k ∧ _) ∧ tRg a (d.1 + 1) k ∧ tRg .leaf k j from hr)
  obtain ⟨-, x, e, ta⟩ := hX
  have hn : max (tH a) (tH .leaf) + 1 + 5 ≤ n := hn
  have hW : ∀ u, u ∈ tW a ++ [] → u ∈ L := hW
  have hkj : k ≤ j := rb
  obtain ⟨n, rfl⟩ : ∃ n', n = n' + 3 := ⟨n - 3, by omega⟩
  have Ka := Ia env fk lo x (d.1 + 1) k (n + 2) ta wa hg.2.2.2.1 ra (by omega) (fun u hu => hW u (List.mem_append_left _ hu)) (by omega)
  have Ka : cKw κ T y mo A g ρ σ0 (n + 2) x (tOv pp tE tN a) (d.1 + 1) j := fun σ q l h1 h2 h3 h4 => by
    obtain ⟨σ', l', i1, i2, i3, i4, i5⟩ := Ka σ q l h1 h2 h3 h4
    exact ⟨σ', l', i1, i2, i3, i4, by omega⟩
  rw [show n + 3 = (n + 2) + 1 from rfl, c_own0 H e rfl (by decide) hF]
  exact c_one hT hy hA hv e rfl (by decide) rfl (hp0 d.1) rfl rfl (fun q hq => tOv_hi hq a) Ka (by have := tRg.le a _ _ ra; omega) hj hl.r (by omega) h hF
theorem cc_15 (H : cHw κ T mo y cnt A V nm pp L g ρ tN σ0) (h15 : tQn a ≤ 4) (Ia : cCa κ T T0 mo y cnt A B D V nm kk pp ee f L g ρ tE tN σ0 a) (wa : tWf kk cnt a 2) : cCw κ T T0 mo y cnt A B D V nm kk pp ee f L g ρ tE tN σ0 (.inner 15 d z a b) := fun env fk lo m i j n hX wf hg hr hj hW hn σ q l hl hb h hF => by
  have hT := H.1
  have hy := H.2.1.1.2.1
  have hA := H.2.1.1.2.2.1
  have hp0 := H.2.1.1.2.2.2.2
  have hv := H.2.2.1
  obtain rfl : b = .leaf := hg.2.2.1.2.2 (Or.inr (Or.inr rfl))
  obtain ⟨⟨r1, r2, -⟩, k, ⟨r3, -⟩, ra, rb⟩ := (show (i ≤ d.1 ∧ d.1 < j ∧ _) ∧ ∃ k, (d.1 + 1 ≤ k ∧ _) ∧ tRg a (d.1 + 1) k ∧ tRg .leaf k j from hr)
  obtain ⟨-, pa, u, g', e, ⟨dd, cap, mc, hls, -⟩, ta⟩ := hX
  have hn : max (tH a) (tH .leaf) + 1 + 5 ≤ n := hn
  have hW : ∀ u, u ∈ tW a → u ∈ L := hW
  have hkj : k ≤ j := rb
  have hqn := cTX_qn a env fk lo g' 0 u wa ta
  obtain ⟨n, rfl⟩ : ∃ n', n = n' + 3 := ⟨n - 3, by omega⟩
  have Ka := Ia env fk lo g' 0 u m pa dd cap mc _ (d.1 + 1) k (n + 2) T e rfl rfl hls (by omega) ta wa hg.2.2.2.1 ra (by omega) hW (by omega) (by omega)
  have rd : ∀ k, k ≠ 8 → ofd σ (some m) 7 k = _ := fun k hk => (hv.yF hy hA hF).nd e hk
  have hka := tRg.le a _ _ ra
  rw [show n + 3 = (n + 2) + 1 from rfl, c_own0 H e rfl (by decide) hF]
  obtain ⟨c1, c2⟩ := c_97 (κ := κ) (T := T) (n := n + 2) (hl.r (pl := pp d.1)) (by omega) h (rd 1 (by decide))
  by_cases c6 : q.1 ≤ 60
  · obtain ⟨e1, e2⟩ := c2 c6
    obtain ⟨σ2, l2, a1, a2, a3, a4, a5⟩ := Ka σ q l hl (by omega) h hF
    refine ⟨σ2, l2, ?_, a2, a3, a4, by omega⟩
    rw [e2, rd 12 (by decide), show ovr ((cEn 401 (pp d.1) (nI env.length) (pp d.1) (pp d.1) 0 (va_rf (nR f pp ee nm env d.1)) .null .null .null .null .null .null .null .null (.ref pa))[12]?) = some none from rfl, obn_at, if_pos rfl]
    unfold oj_X10_countTemplates_144
    rw [rd 13 (by decide), show ovr ((cEn 401 (pp d.1) (nI env.length) (pp d.1) (pp d.1) 0 (va_rf (nR f pp ee nm env d.1)) .null .null .null .null .null .null .null .null (.ref pa))[13]?) = some none from rfl, obn_at, if_pos rfl]
    exact a1
  · obtain ⟨σ2, a1, a2, a3⟩ := c1 (by omega)
    have : tOv pp tE tN (.inner 15 d z a .leaf) q = q := tOv_hi (by omega) _
    rw [this]
    exact ⟨σ2, l, a1, a2, hF.tr a3, hl, by omega⟩
/-- nothing within -/
theorem cc_0 {tg : Nat} (h7 : tg = 7 ∨ tg = 8 ∨ tg = 9 ∨ tg = 10 ∨ tg = 11 ∨ tg = 12 ∨ tg = 13 ∨ tg = 14 ∨ tg = 17 ∨ tg = 18) (H : cHw κ T mo y cnt A V nm pp L g ρ tN σ0) (hab : a = .leaf ∧ b = .leaf) : cCw κ T T0 mo y cnt A B D V nm kk pp ee f L g ρ tE tN σ0 (.inner tg d z a b) := fun env fk lo m i j n hX wf hg hr hj hW hn => by
  have hT := H.1
  have hy := H.2.1.1.2.1
  have hA := H.2.1.1.2.2.1
  have hp0 := H.2.1.1.2.2.2.2
  have hv := H.2.2.1
  obtain ⟨rfl, rfl⟩ := hab
  obtain ⟨n, rfl⟩ : ∃ n', n = n' + 1 := ⟨n - 1, by omega⟩
  have hij := tRg.le _ _ _ hr
  rcases h7 with rfl | rfl | rfl | rfl | rfl | rfl | rfl | rfl | rfl | rfl
  · obtain ⟨-, l, c, su, e, -⟩ := hX
    exact c_nil hT hy hA hv e rfl (by decide) rfl (hp0 d.1) rfl rfl hij hj
  · obtain ⟨-, e⟩ := hX
    exact c_nil hT hy hA hv e rfl (by decide) rfl (hp0 d.1) rfl rfl hij hj
  · obtain ⟨-, e⟩ := hX
    exact c_nil hT hy hA hv e rfl (by decide) rfl (hp0 d.1) rfl rfl hij hj
  · obtain ⟨su, pa, na, ta, cap, pc, e, -⟩ := hX
    exact c_nil hT hy hA hv e rfl (by decide) rfl (hp0 d.2.2.2.1.1) rfl rfl hij hj
  · obtain ⟨-, l, r, su, su', e, -⟩ := hX
    exact c_nil hT hy hA hv e rfl (by decide) rfl (hp0 d.1) rfl rfl hij hj
  · obtain ⟨-, l, r, c, su, su', e, -⟩ := hX
    exact c_nil hT hy hA hv e rfl (by decide) rfl (hp0 d.1) rfl rfl hij hj
  · obtain ⟨-, l, r, c, su, su', e, -⟩ := hX
    exact c_nil hT hy hA hv e rfl (by decide) rfl (hp0 d.1) rfl rfl hij hj
  · obtain ⟨-, l, nd, su, e, -⟩ := hX
    exact c_nil hT hy hA hv e rfl (by decide) rfl (hp0 d.1) rfl rfl hij hj
  · obtain ⟨-, e⟩ := hX
    exact c_nil hT hy hA hv e rfl (by decide) rfl (hp0 d.1) rfl rfl hij hj
  · obtain ⟨-, l, su, e, -⟩ := hX
    exact c_nil hT hy hA hv e rfl (by decide) rfl (hp0 d.1) rfl rfl hij hj
theorem ca_all (H : cHw κ T mo y cnt A V nm pp L g ρ tN σ0) (Ia : cCw κ T T0 mo y cnt A B D V nm kk pp ee f L g ρ tE tN σ0 a) (Ib : cCa κ T T0 mo y cnt A B D V nm kk pp ee f L g ρ tE tN σ0 b) {tg : Nat} : cCa κ T T0 mo y cnt A B D V nm kk pp ee f L g ρ tE tN σ0 (.inner tg d z a b) := fun env fk lo gq k u m pa dd cap mc fs i j n fu hm h0 h18 hls hu hX wf hg hr hj hW hn hf => by
  have hT := H.1
  have hy := H.2.1.1.2.1
  have hA := H.2.1.1.2.2.1
  have hp0 := H.2.1.1.2.2.2.2
  have hv := H.2.2.1
  have hqn : u = k + (tQn b + 1) := cTX_qn _ env fk lo gq k u wf hX
  have hf : tQn b + 1 < fu := hf
  obtain ⟨fu, rfl⟩ : ∃ f', fu = f' + 1 := ⟨fu - 1, by omega⟩
  obtain ⟨n, rfl⟩ : ∃ n', n = n' + 3 := ⟨n - 3, by omega⟩
  rcases wf with ⟨c, _⟩ | ⟨_, _, wb, hk⟩ | ⟨c, _⟩
  · cases c
  · rcases hk with ⟨rfl, hp, rfl⟩ | ⟨rfl, _, wa⟩ | ⟨rfl, _, rfl, hd⟩
    · have hn : max (tH .leaf) (tH b) + 5 ≤ n + 3 := hn
      have hW : ∀ u, u ∈ [] ++ tW b → u ∈ L := hW
      obtain ⟨⟨r1, r2, -⟩, k', ⟨r3, -⟩, ra, rb⟩ := (show (i ≤ d.1 ∧ d.1 < j ∧ _) ∧ ∃ k', (d.1 + 1 ≤ k' ∧ _) ∧ tRg .leaf (d.1 + 1) k' ∧ tRg b k' j from hr)
      obtain ⟨x, su, hx, ⟨pa', na, ta, cap', pc, e, -⟩, tb⟩ := hX
      have hkj := tRg.le b _ _ rb
      refine ca_1 H hm h0 h18 hls hu (by omega) hx (c_nil (i := i) (j := k') hT hy hA hv e rfl (by decide) rfl (hp0 d.2.2.2.1.1) rfl rfl (by omega) (by omega)) (Ib env fk lo gq (k + 1) u m pa dd cap mc fs k' j (n + 3) fu hm h0 h18 hls hu tb wb hg.2.2.2.2 rb hj (fun u hu => hW u (List.mem_append_right _ hu)) (by omega) (by omega))
    · have hn : max (tH a) (tH b) + 5 ≤ n + 3 := hn
      have hW : ∀ u, u ∈ tW a ++ tW b → u ∈ L := hW
      obtain ⟨⟨r1, r2, -⟩, k', ⟨r3, -⟩, ra, rb⟩ := (show (i ≤ d.1 ∧ d.1 < j ∧ _) ∧ ∃ k', (d.1 + 1 ≤ k' ∧ _) ∧ tRg a (d.1 + 1) k' ∧ tRg b k' j from hr)
      obtain ⟨x, fs', hx, -, ta, tb⟩ := hX
      have hkj := tRg.le b _ _ rb
      have Ka := Ia env fk lo x (d.1 + 1) k' (n + 3) ta wa hg.2.2.2.1 ra (by omega) (fun u hu => hW u (List.mem_append_left _ hu)) (by omega)
      have Ka : cKw κ T y mo A g ρ σ0 (n + 3) x (tOv pp tE tN a) i k' := fun σ q l h1 h2 h3 h4 => Ka σ q l h1 (by omega) h3 h4
      have R := ca_1 (fa := tOv pp tE tN a) (fb := tOv pp tE tN b) H hm h0 h18 hls hu (by omega) hx Ka (Ib env (fk + nF a) lo gq (k + 1) u m pa dd cap mc fs k' j (n + 3) fu hm h0 h18 hls hu tb wb hg.2.2.2.2 rb hj (fun u hu => hW u (List.mem_append_right _ hu)) (by omega) (by omega))
      exact R
    · have hn : max (tH .leaf) (tH b) + 5 ≤ n + 3 := hn
      have hW : ∀ u, u ∈ [] ++ tW b → u ∈ L := hW
      obtain ⟨⟨r1, r2, -⟩, k', ⟨r3, -⟩, ra, rb⟩ := (show (i ≤ d.1 ∧ d.1 < j ∧ _) ∧ ∃ k', (d.1 + 1 ≤ k' ∧ _) ∧ tRg .leaf (d.1 + 1) k' ∧ tRg b k' j from hr)
      obtain ⟨x, hx, ⟨-, e⟩, tb⟩ := hX
      have hkj := tRg.le b _ _ rb
      have hkd : (if d.2.1 = 1 then (223 : Int32) else 205) ≠ 401 ∧ (if d.2.1 = 1 then (223 : Int32) else 205) ≠ 219 ∧ (if d.2.1 = 1 then (223 : Int32) else 205) ≠ 212 ∧ (if d.2.1 = 1 then (223 : Int32) else 205) ≠ 206 ∧ (if d.2.1 = 1 then (223 : Int32) else 205) ≠ 207 ∧ (if d.2.1 = 1 then (223 : Int32) else 205) ≠ 214 := by
        split <;> decide
      refine ca_1 H hm h0 h18 hls hu (by omega) hx (c_nil (i := i) (j := k') hT hy hA hv e rfl hkd rfl (hp0 d.1) rfl rfl (by omega) (by omega)) (Ib env fk lo gq (k + 1) u m pa dd cap mc fs k' j (n + 3) fu hm h0 h18 hls hu tb wb hg.2.2.2.2 rb hj (fun u hu => hW u (List.mem_append_right _ hu)) (by omega) (by omega))
  · cases c
/-- **countTemplates()** -/
theorem c_cnt (H : cHw κ T mo y cnt A V nm pp L g ρ tN σ0) : ∀ (t : tT), tA3 pp t → tGd kk cnt t → cCw κ T T0 mo y cnt A B D V nm kk pp ee f L g ρ tE tN σ0 t ∧ cCa κ T T0 mo y cnt A B D V nm kk pp ee f L g ρ tE tN σ0 t ∧ ∀ tg d z a b, t = .inner tg d z a b → tg = 31 → cCw κ T T0 mo y cnt A B D V nm kk pp ee f L g ρ tE tN σ0 a ∧ cCw κ T T0 mo y cnt A B D V nm kk pp ee f L g ρ tE tN σ0 b
  | .leaf, _, _ => ⟨fun env fk lo m i j n hX wf => (by cases wf), ca_0 H, fun _ _ _ _ _ e => (by cases e)⟩
  | .inner g' d z a b, h3, hG => by
    obtain ⟨-, h15, ha, hb⟩ := h3
    obtain ⟨-, -, ⟨-, g14, -⟩, ga, gb⟩ := id hG
    have Ib := c_cnt H b hb gb
    have Ia : ¬ (g' = 4 ∨ g' = 5) → cCw κ T T0 mo y cnt A B D V nm kk pp ee f L g ρ tE tN σ0 a ∧ cCa κ T T0 mo y cnt A B D V nm kk pp ee f L g ρ tE tN σ0 a ∧ _ := fun c => c_cnt H a (by rw [if_neg c] at ha; exact ha) ga
    refine ⟨fun env fk lo m i j n hX wf => ?_, fun env fk lo gq k u m pa dd cap mc fs i j n fu hm h0 h18 hls hu hX wf => ?_, fun tg d' z' a' b' e h31 => ?_⟩
    · rcases id wf with ⟨h, _⟩ | ⟨h, _⟩ | ⟨_, h⟩
      · cases h
      · cases h
      · rcases h with ⟨rfl, _, wa, wb⟩ | ⟨rfl, _, wa, wb⟩ | ⟨rfl, _, wa⟩ | ⟨rfl, wc, wb⟩ | ⟨rfl, wc, wb⟩ | ⟨rfl, _, _, wa⟩ | ⟨h7, _, _, hab⟩ | ⟨h7, _, hab⟩ | ⟨h7, _, hab⟩ | ⟨rfl, _⟩ | ⟨rfl, _, wa⟩ | ⟨rfl, _, wa, hb⟩ | ⟨rfl, _⟩ | ⟨rfl, _, wa, wb⟩
        · exact cc_1 H (Ia (by decide)).1 Ib.1 wa wb env fk lo m i j n hX wf
        · exact cc_2 H (Ia (by decide)).1 Ib.1 wa wb env fk lo m i j n hX wf
        · exact cc_3 H (Ia (by decide)).1 wa env fk lo m i j n hX wf
        · match b, wb, Ib, hX, wf with
          | .leaf, wb, _, _, _ => cases wb
          | .inner g' d' z' b1 b2, wb, Ib, hX, wf =>
            rcases wb with ⟨_, rfl, _, w1, w2⟩ | ⟨h, _⟩ | ⟨h, _⟩
            · have I2 := Ib.2.2 31 d' z' b1 b2 rfl rfl
              exact cc_4 H I2.1 I2.2 w1 w2 env fk lo m i j n hX wf
            · cases h
            · cases h
        · exact cc_5 H Ib.1 wb env fk lo m i j n hX wf
        · exact cc_6 H (Ia (by decide)).1 wa env fk lo m i j n hX wf
        · exact cc_0 (by omega) H hab env fk lo m i j n hX wf
        · exact cc_0 (by omega) H hab env fk lo m i j n hX wf
        · exact cc_0 (by omega) H hab env fk lo m i j n hX wf
        · exact cc_0 (by omega) H (g14 (Or.inl rfl)) env fk lo m i j n hX wf
        · exact cc_15 H (h15 rfl) (Ia (by decide)).2.1 wa env fk lo m i j n hX wf
        · exact cc_16 H (Ia (by decide)).1 wa hb env fk lo m i j n hX wf
        · exact cc_0 (by omega) H (g14 (Or.inr rfl)) env fk lo m i j n hX wf
        · exact cc_19 H (Ia (by decide)).1 Ib.1 wa wb env fk lo m i j n hX wf
    · rcases id wf with ⟨h, _⟩ | ⟨_, _, _, h⟩ | ⟨h, _⟩
      · cases h
      · have : ¬ (g' = 4 ∨ g' = 5) := by rcases h with ⟨rfl, _⟩ | ⟨rfl, _⟩ | ⟨rfl, _⟩ <;> decide
        exact ca_all H (Ia this).1 Ib.2.1 env fk lo gq k u m pa dd cap mc fs i j n fu hm h0 h18 hls hu hX wf
      · cases h
    · cases e
      subst h31
      exact ⟨(Ia (by decide)).1, Ib.1⟩
end CCX
