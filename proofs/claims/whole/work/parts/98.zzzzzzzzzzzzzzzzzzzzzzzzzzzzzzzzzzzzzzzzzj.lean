/-! CAPACITIES: what must FIT is no more than its row holds -/
section RLF
variable {ks : Nat → Nat} {qs : List Nat} {T n h0 len cnt lo N S P A : Nat} {Γ : uGm} {τ τ1 : zSt} {v : Nat → Nat} {CD : tT → Nat → Prop} {L : List Nat} {kk pp ee f : Nat → Int32} {B : Int} {FK : Nat × List Bool → List gFc} {Fs : List gFit} {Ns : List gNd} {g : gG} {ρ tE tN : Nat → tY} {is : List (Nat × Nat)} {OT : gTy → Prop}
set_option maxHeartbeats 1000000 in
theorem r_l116 {t : tT} {m : Nat} {y yc : tY} {q0 : Nat → gTy} {A0 : gTy} (hq0 : ∀ u, q0 u = gNtd) (E : dEm τ1) (H : dHy ks qs T n h0 len cnt lo N S P A L τ1 kk pp ee f g ρ tE tN Γ CD B is t m y yc (gIs is [] (q0, [], [])).1) : (gWk T f pp ee tE tN t (is.map Prod.fst) (gIs is [] (q0, [], [])).1 A0 (gIs is [] (q0, [], [])).2).1.2.1.length ≤ 12000 := by
  obtain ⟨⟨uh, ut, uq⟩, ⟨hB, hqs, hT, hcn, hn, hnt⟩, ⟨hil, h42, hi⟩, ⟨t1, t2, t3, t4, t5⟩, ⟨h43, tr, wf⟩, ⟨rft, gok, gcp, gnb⟩, hc, hc0⟩ := H
  obtain ⟨e1, e2, e3, e4⟩ := E
  obtain ⟨τ2, v2, e', a1, a2, a3, a4, a5, ⟨a6, a7, a8, a9⟩, a10, a11⟩ := r_dc108 (h0 := h0) (qs := qs) (ks := ks) (T := T) (n := n + 5) (S := S) (P := P) (V := τ1) (Γ := Γ) (CD := CD) (pp := pp) uh.2.1 hil h42 hi is 0 T 0 (-1) [] [] (q0, [], []) (fun _ => 0) τ1 (Nat.zero_add _) (fun k => by rw [Nat.zero_add]) (by omega) (Nat.zero_le _) (fun w hw => by cases hw) ⟨e1, uTf.rf τ1, ⟨fun u hu => (by rcases hu with hu | hu; cases hu; exact absurd (hq0 u) hu.2), fun x _ hw => (by rcases hw with ⟨u, -, hu⟩ | ⟨w1, w2⟩; exact absurd (hq0 u) hu; exact absurd w2 (by show ¬ Γ.1 x < 700 + 0; omega))⟩, ⟨rfl, fun i x hx => (by cases hx)⟩, ⟨rfl, fun i x hx => (by cases hx)⟩⟩ ⟨⟨[], rfl, Nat.le_refl _, rfl⟩, rfl⟩ (fun x hx => by cases hx) e3 (Nat.le_refl _) (Nat.le_refl _) (Nat.le_refl _)
  rw [List.nil_append] at a2
  generalize hsc : (gIs is [] (q0, [], [])).1 = sc at a3 a4 gcp hc hc0 ⊢
  generalize hs0 : (gIs is [] (q0, [], [])).2 = s0 at a2 ⊢
  have hv0 : v2 98 = 0 ∧ v2 100 = 0 := ⟨a9 98 (by decide) (by decide) (by decide), a9 100 (by decide) (by decide) (by decide)⟩
  have hv2 : ∀ k, v2 k ≤ if k = 75 ∨ k = 79 ∨ k = 109 then 6 else 0 := fun k => by
    by_cases z : k = 75 ∨ k = 79 ∨ k = 109
    · rw [if_pos z]; rcases z with z | z | z <;> rw [z] <;> assumption
    · rw [if_neg z, a9 k (fun w => z (Or.inl w)) (fun w => z (Or.inr (Or.inl w))) (fun w => z (Or.inr (Or.inr w)))]
      exact Nat.le_refl _
  obtain ⟨t', τ3, v3, b1, b2, b3, b4, b5, b6, -⟩ := (r_rch (h0 := h0) (qs := qs) (ks := ks) (tE := tE) uh hcn t t1 t2 t3 t4 t5).1 (is.map Prod.fst) m sc s0 A0 e' (-1) (n + 7) v2 τ2 y yc tr wf ⟨rft, gok, gcp, by rw [hv0.1, hv0.2]; exact gnb, a2, ⟨by rw [List.length_map]; exact a3, a4⟩, fun k _ => by have := hv2 k; have := hc k; omega⟩ (by omega)
  generalize hW : gWk T f pp ee tE tN t (is.map Prod.fst) sc A0 s0 = W at b6 ⊢
  obtain ⟨al1, al2, al3, al4, al5⟩ := b6
  have hv3 : ∀ k, v3 k ≤ uLm k := fun k => by have := (b2 k).2; have := hv2 k; have := hc k; omega
  rw [← al4.1]
  exact hv3 116
end RLF
section TXF
variable {kk pp ee f fc : Nat → Int32} {T len cnt j N S P A x0 : Nat} {xs : List tQ} {is : List (Nat × Nat)} {e : tT} {α : Nat → tY} {τ : zSt} {g' : gG} {ρ' : Nat → tY} {q0 : Nat → gTy} {A0 : gTy} {yc : tY}
/-- **what must FIT in a PROGRAM** -/
theorem tx_fln (hq0 : ∀ u, q0 u = gNtd) (hT : 12400 ≤ T) (hp : pgT T len cnt j kk pp ee f fc xs is e α) (hR : pgR T len cnt kk pp ee f xs is e α N S P A x0 g' ρ' τ) (tc : ∀ k, (if k = 75 ∨ k = 79 ∨ k = 109 then 6 else 0) + gTc f pp ee (pTE f pp ee is e α) (pTN f pp ee is e α) xs e (is.map Prod.fst) yc (gSs (gIs is [] (q0, [], [])).1).length k ≤ uLm k) (tc1 : gTc f pp ee (pTE f pp ee is e α) (pTN f pp ee is e α) xs e (is.map Prod.fst) yc (gSs (gIs is [] (q0, [], [])).1).length 110 + 2100 ≤ 12000) : (pWk T f pp ee is e α q0 A0).1.2.1.length ≤ 12000 := by
  obtain ⟨inv, hi⟩ := tx_2 (by omega) hp hR
  have hi : pGi T f pp ee xs is e α (τ.2.2.1 32) inv := hi
  obtain ⟨-, cp⟩ := tx_mx (by omega) hp hR q0
  obtain ⟨τ1, -, a2, a3⟩ := r_dcB (h0 := 0) (qs := List.range 200) (ks := fun _ => 0) (n := 1300) (τ := τ) (T := T) (by omega)
  have D := tx_7 (ks := fun _ => 0) (qs := List.range 200) (h0 := 0) (n := 1300) (yc := yc) (q0 := q0) hT (Nat.le_refl _) (by decide) hp hR hi cp tc tc1 a2
  have R := r_l116 (A0 := A0) hq0 a3 D
  unfold pWk
  exact R
end TXF
