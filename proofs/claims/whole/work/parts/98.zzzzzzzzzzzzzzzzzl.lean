/-! the reference: decide() as a whole, given that its questions can be asked -/
/-- a type and what it is made of -/
def sbT : tY → gTy → gTy → Prop
  | .leaf, _, _ => False
  | .inner k _ _ a b, A, X => X = A ∨ (k = 0 ∧ (sbT a (gTk A) X ∨ sbT b (gAn A) X))
/-- INSTANCES by place are those of types that are there; places have numbers of their own -/
def fkQ (Γ : uGm) (FK : Nat × List Bool → List gFc) (Fs : List gFit) (Ns : List gNd) (OT : gTy → Prop) : Prop := (∀ kp, 0 < (FK kp).length → ∃ X m, ((∃ x, x ∈ Fs ∧ (X = x.2.1 ∨ X = x.2.2 ∨ ∃ u, (u, X) ∈ scN x.1)) ∨ (∃ y, y ∈ Ns ∧ ∃ u, (u, X) ∈ scN y.1) ∨ OT X) ∧ X.1 = .inr m ∧ (m.1, m.2.1) = kp ∧ gIn Γ.2.2.1 Γ.2.2.2.1 m.2.2.1 m.2.2.2.2 = FK kp) ∧ ∀ kp kp', 0 < (FK kp).length → 0 < (FK kp').length → Γ.2.1 kp = Γ.2.1 kp' → kp = kp'
section DCW
variable {ks : Nat → Nat} {qs : List Nat} {T n h0 len cnt lo N S P A : Nat} {Γ : uGm} {τ τ1 : zSt} {v : Nat → Nat} {CD : tT → Nat → Prop} {L : List Nat} {kk pp ee f : Nat → Int32} {B : Int} {FK : Nat × List Bool → List gFc} {Fs : List gFit} {Ns : List gNd} {g : gG} {ρ tE tN : Nat → tY} {is : List (Nat × Nat)} {OT : gTy → Prop}
theorem gIn_mz {nq : tQ → Int} {xs : List tQ} {y : tY} {l : List gN} (h : 0 < (gIn nq xs y l).length) : gMs y = true := by
  obtain ⟨x, hx⟩ := List.exists_mem_of_length_pos h
  unfold gIn at hx
  obtain ⟨q, -, hx⟩ := List.mem_flatMap.mp hx
  split at hx
  · rename_i c
    unfold gMs
    rcases c with ⟨-, c⟩ | ⟨-, c⟩ | ⟨-, c⟩ <;> rw [c] <;> rfl
  · cases hx
theorem uTy.sb : ∀ (y : tY) (t : Nat) (A X : gTy), uTy Γ v τ y t A → sbT y A X → ∃ t', uTy Γ v τ (gSy X) t' X
  | .leaf, _, _, _, h, _ => h.elim
  | .inner k _ _ a b, t, A, X, h, s => by
    rcases s with e | ⟨c, s⟩
    · rw [e]
      exact ⟨t, by rw [h.2.1]; exact h⟩
    · have h3 := h.2.2
      rw [if_pos c] at h3
      obtain ⟨-, -, -, tl, tr, -, -, h4, h5⟩ := h3
      rcases s with s | s
      · exact uTy.sb a tl _ X h4 s
      · exact uTy.sb b tr _ X h5 s
theorem uEv.ty : ∀ (ch : List (Option (gN × gTy))) (e : Int32), uEv Γ v τ ch e → ∀ x, x ∈ ch.filterMap id → gMs (gSy x.2) = true ∧ ∃ t, uTy Γ v τ (gSy x.2) t x.2
  | [], _, _, x, hx => by cases hx
  | o :: ch, e, ⟨i, t, _, _, g5, g6⟩, x, hx => by
    cases o with
    | none => exact uEv.ty ch _ g6 x hx
    | some y =>
      rcases List.mem_cons.mp (show x ∈ y :: ch.filterMap id from hx) with z | z
      · rw [z]; exact ⟨g5.2.1, t, g5.2.2⟩
      · exact uEv.ty ch _ g6 x z
theorem uSc.ty {M : Nat} {sc : List gEn} {e h : Int32} (w : uSc M CD Γ v τ sc e h) {x : gN × gTy} (hx : x ∈ scN sc) : gMs (gSy x.2) = true ∧ ∃ t, uTy Γ v τ (gSy x.2) t x.2 := by
  obtain ⟨⟨ch, e1, _, e2⟩, _⟩ := w
  exact uEv.ty ch _ e2 x (by rw [e1]; exact hx)
theorem uTy.cs {X : gTy} {m : gTm} {t : Nat} (h : uTy Γ v τ (gSy X) t X) (hm : gMs (gSy X) = true) (e : X.1 = .inr m) : uCs Γ v τ (Γ.2.1 (m.1, m.2.1)) (gIn Γ.2.2.1 Γ.2.2.2.1 m.2.2.1 m.2.2.2.2) := by
  obtain ⟨s, k, -, -, -, -, ⟨-, -, w⟩, -⟩ := h.sd hm
  rw [e] at w
  exact w.2.2
theorem fkQ.cs (h : fkQ Γ FK Fs Ns OT) (hF : uFl CD Γ v τ Fs) (hN : uNl CD pp τ1 S P Γ v τ Ns) (hO : ∀ X, OT X → ∃ t, uTy Γ v τ (gSy X) t X) {kp : Nat × List Bool} (h0 : 0 < (FK kp).length) : uCs Γ v τ (Γ.2.1 kp) (FK kp) := by
  obtain ⟨X, m, c, e1, e2, e3⟩ := h.1 kp h0
  subst e2
  rw [← e3]
  rcases c with ⟨x, hx, c⟩ | ⟨y, hy, u, hu⟩ | hX
  · obtain ⟨i, hi⟩ := List.getElem?_of_mem hx
    obtain ⟨-, a, b, -, -, w1, w2, w3, w4, w5⟩ := (hF.2 i x hi).1
    rcases c with c | c | ⟨u, hu⟩
    · exact uTy.cs (by rw [c]; exact w1) (by rw [c]; exact w4) e1
    · exact uTy.cs (by rw [c]; exact w2) (by rw [c, ← w3]; exact w4) e1
    · obtain ⟨q1, t, q2⟩ := w5.ty hu
      exact uTy.cs q2 q1 e1
  · have : ∃ k, (y, k) ∈ Ns.flatMap gN2 := by
      refine ⟨y.2.2.1, List.mem_flatMap.mpr ⟨y, hy, ?_⟩⟩
      unfold gN2
      split
      · rename_i z; rw [z]; exact List.mem_cons_of_mem _ (List.mem_singleton_self _)
      · exact List.mem_singleton_self _
    obtain ⟨k, hk⟩ := this
    obtain ⟨i, hi⟩ := List.getElem?_of_mem hk
    obtain ⟨q1, t, q2⟩ := (hN.2 i _ hi).1.2.2.2.2.1.ty hu
    exact uTy.cs q2 q1 e1
  · obtain ⟨t, q⟩ := hO X hX
    rw [← e3] at h0
    exact uTy.cs q (by unfold gSy; rw [e1]; exact gIn_mz h0) e1
theorem iI.at (I : iI τ) (hV : uVn τ v) {c : Nat} {F : List gFc} (h : uCs Γ v τ c F) : ∃ a, τ.2.2.1 61 c = nI a ∧ a + F.length ≤ 8000 ∧ (∀ j, j < a + F.length → ¬ τ.2.2.1 65 j = 0) ∧ ∀ c' a' F', c < c' → uCs Γ v τ c' F' → τ.2.2.1 61 c' = nI a' → a' ≤ 8000 → a + F.length ≤ a' := by
  obtain ⟨cc, e, fa, fb, ⟨i1, i2⟩, ⟨i3, i4⟩, i5, i6⟩ := I
  have v98 : v 98 ≤ 64 := (hV 98 (by decide)).2
  have v99 : v 99 ≤ 8000 := (hV 99 (by decide)).2
  have ec : cc = v 98 := nI_inj' (by omega) (by omega) (i1.symm.trans (hV 98 (by decide)).1)
  have ee : e = v 99 := nI_inj' (by omega) (by omega) (i3.symm.trans (hV 99 (by decide)).1)
  obtain ⟨h1, a, h2, h3, h4, -⟩ := h
  obtain ⟨j1, j2, j3, j4, j5⟩ := i5 c (by omega)
  have ea : fa c = a := nI_inj' (by omega) (by omega) (j1.symm.trans h2)
  have eb : fb c = a + F.length := nI_inj' (by omega) (by omega) (j2.symm.trans h3)
  refine ⟨a, h2, by omega, fun j hj => i6 j (by omega), fun c' a' F' hc w e' ha => ?_⟩
  have hc' := w.1
  have q := j5 c' hc (by omega)
  obtain ⟨k1, k2, k3, k4, -⟩ := i5 c' (by omega)
  have : fa c' = a' := nI_inj' (by omega) (by omega) (k1.symm.trans e')
  omega
theorem iI.dj (I : iI τ) (hV : uVn τ v) (h : fkQ Γ FK Fs Ns OT) (hF : uFl CD Γ v τ Fs) (hN : uNl CD pp τ1 S P Γ v τ Ns) (hO : ∀ X, OT X → ∃ t, uTy Γ v τ (gSy X) t X) : iDj Γ FK τ := by
  intro kp kp' k k' hk hk' e
  have c := h.cs hF hN hO (kp := kp) (by omega)
  have c' := h.cs hF hN hO (kp := kp') (by omega)
  obtain ⟨a, a1, a2, -, a4⟩ := I.at hV c
  obtain ⟨b, b1, b2, -, b4⟩ := I.at hV c'
  unfold iSt at e
  rw [a1, b1, nI_clamp (by omega), nI_clamp (by omega)] at e
  refine h.2 kp kp' (by omega) (by omega) ?_
  rcases Nat.lt_trichotomy (Γ.2.1 kp) (Γ.2.1 kp') with z | z | z
  · have := a4 _ b _ z c' b1 (by omega); omega
  · exact z
  · have := b4 _ a _ z c a1 (by omega); omega
theorem iI.all (I : iI τ) (hV : uVn τ v) (h : fkQ Γ FK Fs Ns OT) (hF : uFl CD Γ v τ Fs) (hN : uNl CD pp τ1 S P Γ v τ Ns) (hO : ∀ X, OT X → ∃ t, uTy Γ v τ (gSy X) t X) (al : gAl) : fLe FK al (alV Γ τ) := by
  intro kp k hk _
  obtain ⟨a, a1, a2, a3, -⟩ := I.at hV (h.cs hF hN hO (kp := kp) (by omega))
  unfold alV
  rw [a1, nI_clamp (by omega)]
  exact decide_eq_true (a3 _ (by omega))
theorem gN2_k {x : gNd} (h : x.2.2.1 ≤ 3) : ∀ z, z ∈ gN2 x → z.1 = x ∧ kdQ z := by
  intro z hz
  unfold gN2 at hz
  by_cases c : x.2.2.1 = 3
  · rw [if_pos c] at hz
    rcases List.mem_cons.mp hz with e | e
    · rw [e]; exact ⟨rfl, Or.inr ⟨Or.inr (Or.inl rfl), Or.inr ⟨c, rfl⟩⟩⟩
    · rw [List.mem_singleton.mp e]; exact ⟨rfl, Or.inr ⟨Or.inr (Or.inr rfl), Or.inl c.symm⟩⟩
  · rw [if_neg c] at hz
    rw [List.mem_singleton.mp hz]
    refine ⟨rfl, ?_⟩
    by_cases c0 : x.2.2.1 = 0
    · exact Or.inl ⟨c0, c0⟩
    · exact Or.inr ⟨by show x.2.2.1 = 1 ∨ x.2.2.1 = 2 ∨ x.2.2.1 = 3; omega, Or.inl rfl⟩
/-- what decide() begins with, at the emptied state -/
def dHy (ks : Nat → Nat) (qs : List Nat) (T n h0 len cnt lo N S P A : Nat) (L : List Nat) (V : zSt) (kk pp ee f : Nat → Int32) (g : gG) (ρ tE tN : Nat → tY) (Γ : uGm) (CD : tT → Nat → Prop) (B : Int) (is : List (Nat × Nat)) (t : tT) (m : Nat) (y yc : tY) (sc : List gEn) : Prop :=
  (uH T len cnt lo N S P A L V kk pp ee f g ρ tN Γ CD ∧ uTr T len cnt lo N S P A L V kk pp ee f CD ∧ uQr Γ V) ∧ ((2 ≤ B ∧ 121 * B < 1125899906842624) ∧ qs.getD 88 0 ≠ qs.getD 87 0 ∧ 12400 ≤ T ∧ cnt ≤ 2000 ∧ 1300 ≤ n ∧ 220 + tDq t ≤ n) ∧ (is.length ≤ 6 ∧ V.1 42 = nI is.length ∧ ∀ b y, is[b]? = some y → V.2.2.1 28 b = nI y.2 ∧ y.2 ≤ 2 ∧ y.1 ∈ L ∧ tN y.1 = yB y.2 ∧ Γ.1 (.inl y.1) = b) ∧ (tA3 pp t ∧ tGd kk cnt t ∧ tO3 t ∧ tF3 t ∧ tKn kk t) ∧ (V.1 43 = nI m ∧ rTr pp V lo N S P A t 0 0 m ∧ tWf kk cnt t 0) ∧ (rFu cnt L V kk pp ee f g ρ tE t (is.map Prod.fst) 0 m ∧ gOk f pp ee tE tN t (is.map Prod.fst) y ∧ gCp tE tN t (gSs sc).length ∧ gNb tE tN Γ t 0 0) ∧ (∀ k, (if k = 75 ∨ k = 79 ∨ k = 109 then 6 else 0) + gTc f pp ee tE tN Γ.2.2.2.1 t (is.map Prod.fst) yc (gSs sc).length k ≤ uLm k) ∧ gTc f pp ee tE tN Γ.2.2.2.1 t (is.map Prod.fst) yc (gSs sc).length 110 + 2100 ≤ 12000
/-- what it asks can be asked -/
def dGd (T cnt : Nat) (kk pp ee f R : Nat → Int32) (L : List Nat) (Γ : uGm) (B : Int) (FK : Nat × List Bool → List gFc) (Fs : List gFit) (Ns : List gNd) (OT : gTy → Prop) : Prop := (∀ x, x ∈ Fs → fGd T cnt kk pp ee f R L Γ B FK x) ∧ (∀ x, x ∈ Ns → nGd T cnt kk pp ee f R L Γ B x ∧ x.2.2.1 ≤ 3) ∧ fkQ Γ FK Fs Ns OT
/-- kinds of NAMES as decide() finds them -/
def dR6 (Γ : uGm) (Fs : List gFit) (Ns : List gNd) (R6 : Nat → Int32) : Prop := R6 1500 = 0 ∧ (∀ x, x ∈ Fs → ∀ y, y ∈ scN x.1 → R6 (Γ.1 y.1) = b01 (gLn (Γ.2.2.2.2.1 y.1))) ∧ ∀ x, x ∈ Ns → ∀ y, y ∈ scN x.1 → R6 (Γ.1 y.1) = b01 (gLn (Γ.2.2.2.2.1 y.1))
/-- behind decide(): told NAMES have their types -/
def dTd (Γ : uGm) (tN : Nat → tY) (G : Nat) (τ : zSt) (q : Nat → gTy) : Prop := ∃ v, ((∀ k, v k ≤ uLm k) ∧ v 100 = G) ∧ uQr Γ τ ∧ uTd Γ tN [] v τ q
theorem dTd.cg {Γ : uGm} {tN : Nat → tY} {G : Nat} {τ τ' : zSt} {q : Nat → gTy} (h : dTd Γ tN G τ q) (e : τ'.2 = τ.2) : dTd Γ tN G τ' q := by
  obtain ⟨v, h1, h2, h3⟩ := h
  exact ⟨v, h1, by unfold uQr; rw [e]; exact h2, h3.q ⟨fun k _ _ _ _ _ _ => by rw [e], by rw [e], by rw [e]⟩ (fun k _ => by rw [e])⟩
set_option maxHeartbeats 1000000 in
/-- **decide(): the greatest set that FITS, and the least place that is not SO** -/
theorem r_decA {t : tT} {m : Nat} {y yc : tY} {q0 : Nat → gTy} {A0 : gTy} (hq0 : ∀ u, q0 u = gNtd) (E : dEm τ1) (H : dHy ks qs T n h0 len cnt lo N S P A L τ1 kk pp ee f g ρ tE tN Γ CD B is t m y yc (gIs is [] (q0, [], [])).1) (G : dGd T cnt kk pp ee f (τ1.2.2.1 32) L Γ B FK (gWk T f pp ee tE tN t (is.map Prod.fst) (gIs is [] (q0, [], [])).1 A0 (gIs is [] (q0, [], [])).2).1.2.1 (gWk T f pp ee tE tN t (is.map Prod.fst) (gIs is [] (q0, [], [])).1 A0 (gIs is [] (q0, [], [])).2).1.2.2 OT) (hO : ∀ X, OT X → ∃ u, uNm Γ (.inl u) ∧ (gWk T f pp ee tE tN t (is.map Prod.fst) (gIs is [] (q0, [], [])).1 A0 (gIs is [] (q0, [], [])).2).1.1 u ≠ gNtd ∧ sbT (tN u) ((gWk T f pp ee tE tN t (is.map Prod.fst) (gIs is [] (q0, [], [])).1 A0 (gIs is [] (q0, [], [])).2).1.1 u) X) : ∃ τ' R6, l_decide_108 T (zF h0 qs ks T (n + 7)) h0 qs ks T (-1) 0 τ1 = some (none, zI τ' 68 (if 0 ≤ τ'.1 69 then 0 else 1)) ∧ dR6 Γ (gWk T f pp ee tE tN t (is.map Prod.fst) (gIs is [] (q0, [], [])).1 A0 (gIs is [] (q0, [], [])).2).1.2.1 (gWk T f pp ee tE tN t (is.map Prod.fst) (gIs is [] (q0, [], [])).1 A0 (gIs is [] (q0, [], [])).2).1.2.2 R6 ∧ gGr T f pp ee (τ1.2.2.1 32) R6 Γ FK (gWk T f pp ee tE tN t (is.map Prod.fst) (gIs is [] (q0, [], [])).1 A0 (gIs is [] (q0, [], [])).2).1.2.1 (alV Γ τ') ∧ plQ pp (nSo T f pp ee (τ1.2.2.1 32) R6 (alV Γ τ') Γ) ((gWk T f pp ee tE tN t (is.map Prod.fst) (gIs is [] (q0, [], [])).1 A0 (gIs is [] (q0, [], [])).2).1.2.2.flatMap gN2) (τ'.1 69) ∧ (∀ k, k < 40 → τ'.2.2.1 k = τ1.2.2.1 k) ∧ zLg τ1 τ' ∧ (∀ k, k ∉ uCt → k ∉ [63, 69, 126, 131, 138, 139, 141, 144, 152, 153, 154, 155] → τ'.1 k = τ1.1 k) ∧ dTd Γ tN (g100 tE tN t) τ' (gWk T f pp ee tE tN t (is.map Prod.fst) (gIs is [] (q0, [], [])).1 A0 (gIs is [] (q0, [], [])).2).1.1 := by
  obtain ⟨⟨uh, ut, uq⟩, ⟨hB, hqs, hT, hcn, hn, hnt⟩, ⟨hil, h42, hi⟩, ⟨t1, t2, t3, t4, t5⟩, ⟨h43, tr, wf⟩, ⟨rft, gok, gcp, gnb⟩, hc, hc0⟩ := H
  obtain ⟨e1, e2, e3, e4⟩ := E
  obtain ⟨τ2, v2, e', a1, a2, a3, a4, a5, ⟨a6, a7, a8, a9⟩, a10, a11⟩ := r_dc108 (h0 := h0) (qs := qs) (ks := ks) (T := T) (n := n + 5) (S := S) (P := P) (V := τ1) (Γ := Γ) (CD := CD) (pp := pp) uh.2.1 hil h42 hi is 0 T 0 (-1) [] [] (q0, [], []) (fun _ => 0) τ1 (Nat.zero_add _) (fun k => by rw [Nat.zero_add]) (by omega) (Nat.zero_le _) (fun w hw => by cases hw) ⟨e1, uTf.rf τ1, ⟨fun u hu => (by rcases hu with hu | hu; cases hu; exact absurd (hq0 u) hu.2), fun x _ hw => (by rcases hw with ⟨u, -, hu⟩ | ⟨w1, w2⟩; exact absurd (hq0 u) hu; exact absurd w2 (by show ¬ Γ.1 x < 700 + 0; omega))⟩, ⟨rfl, fun i x hx => (by cases hx)⟩, ⟨rfl, fun i x hx => (by cases hx)⟩⟩ ⟨⟨[], rfl, Nat.le_refl _, rfl⟩, rfl⟩ (fun x hx => by cases hx) e3 (Nat.le_refl _) (Nat.le_refl _) (Nat.le_refl _)
  rw [List.nil_append] at a2
  generalize hsc : (gIs is [] (q0, [], [])).1 = sc at a3 a4 gcp hc hc0 G hO ⊢
  generalize hs0 : (gIs is [] (q0, [], [])).2 = s0 at a2 G hO ⊢
  have hv0 : v2 98 = 0 ∧ v2 100 = 0 := ⟨a9 98 (by decide) (by decide) (by decide), a9 100 (by decide) (by decide) (by decide)⟩
  have hv2 : ∀ k, v2 k ≤ if k = 75 ∨ k = 79 ∨ k = 109 then 6 else 0 := fun k => by
    by_cases z : k = 75 ∨ k = 79 ∨ k = 109
    · rw [if_pos z]; rcases z with z | z | z <;> rw [z] <;> assumption
    · rw [if_neg z, a9 k (fun w => z (Or.inl w)) (fun w => z (Or.inr (Or.inl w))) (fun w => z (Or.inr (Or.inr w)))]
      exact Nat.le_refl _
  obtain ⟨t', τ3, v3, b1, b2, b3, b4, b5, b6, -⟩ := (r_rch (h0 := h0) (qs := qs) (ks := ks) (tE := tE) uh hcn t t1 t2 t3 t4 t5).1 (is.map Prod.fst) m sc s0 A0 e' (-1) (n + 7) v2 τ2 y yc tr wf ⟨rft, gok, gcp, by rw [hv0.1, hv0.2]; exact gnb, a2, ⟨by rw [List.length_map]; exact a3, a4⟩, fun k _ => by have := hv2 k; have := hc k; omega⟩ (by omega)
  have e43 : τ2.1 43 = nI m := (a2.2.1.1 43 (by decide) (by decide) (by decide)).trans h43
  have I3 : iI τ3 := cQi.c83 (cQi_zF T (n + 7)) _ _ _ _ a5 _ b1
  generalize hW : gWk T f pp ee tE tN t (is.map Prod.fst) sc A0 s0 = W at b6 G hO ⊢
  obtain ⟨G1, G2, G3⟩ := G
  obtain ⟨al1, al2, al3, al4, al5⟩ := b6
  have hO' : ∀ X, OT X → ∃ t, uTy Γ v3 τ3 (gSy X) t X := fun X hX => by
    obtain ⟨u, u1, u2, u3⟩ := hO X hX
    obtain ⟨t, -, ht⟩ := al3.1 u (Or.inr ⟨u1, u2⟩)
    exact uTy.sb _ _ _ _ ht u3
  have r40 : ∀ k, k < 40 → τ3.2.2.1 k = τ1.2.2.1 k := fun k hk => al2.2.2 k (by omega)
  have hv3 : ∀ k, v3 k ≤ uLm k := fun k => by have := (b2 k).2; have := hv2 k; have := hc k; omega
  have X : qCx T len cnt lo N S P A L τ3 kk pp ee f CD Γ v3 B qs := ⟨ut.lo r40, uq.q (fun k _ z => r40 k (by omega)), hv3, fun u hu => by rw [r40 32 (by decide)]; exact (uh.2.1.1 u hu).1, hB, hqs, by omega⟩
  have l116 : W.1.2.1.length ≤ 12000 := by rw [← al4.1]; exact hv3 116
  have l123 : (W.1.2.2.flatMap gN2).length ≤ 2100 := by rw [← al5.1]; exact hv3 123
  have D : dCx T len cnt lo N S P A L τ3 kk pp ee f CD Γ v3 B qs FK W.1.2.1 := ⟨X, I3.dj al1 G3 al4 al5 hO', ⟨by rw [(al1 116 (by decide)).1, al4.1], l116⟩, fun i x hx => ⟨(al4.2 i x hx).1, by rw [r40 32 (by decide)]; exact G1 x (List.mem_of_getElem? hx)⟩⟩
  have c0 : rCo τ3 [] := e2.cg (al2.1 131 (by decide) (by decide) (by decide)) (funext fun i => (b4.n (by unfold uAy; omega) (by decide)).trans (a10.n (by unfold uAy; omega) (by decide))) (funext fun i => (b4.n (by unfold uAy; omega) (by decide)).trans (a10.n (by unfold uAy; omega) (by decide)))
  have k65 : cn65 (τ3.2.2.1 65) ≤ 8000 := by
    unfold cn65
    refine Nat.le_trans List.countP_le_length ?_
    rw [List.length_range]
    exact Nat.le_refl _
  obtain ⟨τ4, d1, d2, d3⟩ := r_dc186 (h0 := h0) (qs := qs) (ks := ks) (n := n) D hT hn T τ3 (by omega) ⟨qF6.rf τ3, [], c0⟩ (fun al _ => I3.all al1 G3 al4 al5 hO' al)
  obtain ⟨q4, ns, c4⟩ := d2
  rw [r40 32 (by decide)] at d3
  have r4 : ∀ k, k < 40 → τ4.2.2.1 k = τ1.2.2.1 k := fun k hk => (q4.lo hk).trans (r40 k hk)
  have uq4 : uRq τ3 (zI τ4 69 (-1)) := q4.q
  have td4 : uTd Γ tN [] v3 (zI τ4 69 (-1)) W.1.1 := (show uTd Γ tN [] v3 τ3 W.1.1 from ⟨fun u hu => al3.1 u (hu.imp_left (fun z => by cases z)), al3.2⟩).q uq4 (fun k hk => q4.2.2.1 k (fun z => by simp only [List.mem_cons, List.not_mem_nil, or_false] at z; omega))
  have C : sCx T len cnt lo N S P A L τ1 (zI τ4 69 (-1)) kk pp ee f (τ1.2.2.1 32) (τ3.2.2.1 66) CD Γ v3 B qs (alV Γ τ4) (W.1.2.2.flatMap gN2) tN W.1.1 := ⟨X.ro (fun k hk => q4.lo hk), fun k hk => ⟨(if_neg (fun e => by rw [e] at hk; exact absurd hk (by decide))).trans ((q4.1 k (fun z => by
      unfold uCt at hk
      simp only [List.mem_cons, List.not_mem_nil, or_false] at z hk
      omega)).trans (al1 k hk).1), (al1 k hk).2⟩, ⟨ns, c4.cg rfl rfl rfl⟩, ⟨fun i x hx => (al5.2 i x hx).1.q uq4, td4⟩, ⟨r4, a10.lg.tr (b4.lg.tr q4.lg)⟩, rfl, r4 32 (by decide), q4.2.2.1 66 (by decide)⟩
  obtain ⟨τ', v', f1, f2, f3, f4⟩ := r_dc236 (h0 := h0) (qs := qs) (ks := ks) (n := n) hn uh.1.2.2.2.1 l123 (fun x hx => by
    obtain ⟨w, hw, hx⟩ := List.mem_flatMap.mp hx
    obtain ⟨q1, q2⟩ := gN2_k (G2 w hw).2 x hx
    exact ⟨by rw [q1]; exact (G2 w hw).1, q2⟩) (W.1.2.2.flatMap gN2).length 0 T v3 (zI τ4 69 (-1)) (Nat.zero_add _) (by omega) al5.1 (by have := (b2 110).2; have : v2 110 = 0 := a9 110 (by decide) (by decide) (by decide); omega) C (by rw [List.take_zero]; exact Or.inl ⟨rfl, fun x hx => by cases hx⟩)
  have f1 : l_decide_236 T (zF h0 qs ks T (n + 7)) h0 qs ks T 0 (zI τ4 69 (-1)) = _ := f1
  have i66 : ∀ x : gN, uIs Γ τ3 x → τ3.2.2.1 66 (Γ.1 x) = b01 (gLn (Γ.2.2.2.2.1 x)) := fun x h => h.1
  refine ⟨τ', τ3.2.2.1 66, ?_, ⟨b5.1.trans (a11.1.trans (e4 1500 (by decide))), fun x hx w hw => ?_, fun x hx w hw => ?_⟩, by rw [f2.2.2.2.2.2.1]; exact d3, by rw [f2.2.2.2.2.2.1]; exact f3, f2.2.2.2.2.1.1, f2.2.2.2.2.1.2, fun k h1 h2 => ?_, v', ⟨f2.1.2.2.1, ?_⟩, f2.1.2.1, f2.2.2.2.1.2⟩
  · have a1 : l_decide_108 T (zF h0 qs ks T (n + 7)) h0 qs ks T (-1) 0 τ1 = _ := a1
    rw [a1, e43, b1, zci_at, d1, f1]
  · obtain ⟨i, hi⟩ := List.getElem?_of_mem hx
    exact i66 _ ((al4.2 i x hi).2 w hw).2
  · have : ∃ k, (x, k) ∈ W.1.2.2.flatMap gN2 := by
      refine ⟨x.2.2.1, List.mem_flatMap.mpr ⟨x, hx, ?_⟩⟩
      unfold gN2
      split
      · rename_i z; rw [z]; exact List.mem_cons_of_mem _ (List.mem_singleton_self _)
      · exact List.mem_singleton_self _
    obtain ⟨k, hk⟩ := this
    obtain ⟨i, hi⟩ := List.getElem?_of_mem hk
    exact i66 _ ((al5.2 i _ hi).2 w hw).2
  · have h3 : ∀ l : List Nat, (∀ z, z ∈ l → z ∈ [63, 69, 110, 126, 131, 138, 139, 141, 144, 152, 153, 154, 155]) → k ∉ l := fun l hl z => by
      have z := hl k z
      simp only [List.mem_cons, List.not_mem_nil, or_false, not_or] at z h2
      unfold uCt at h1
      simp only [List.mem_cons, List.not_mem_nil, or_false, not_or] at h1
      omega
    rw [f4 k (h3 _ (fun z hz => hz))]
    have h69 : k ≠ 69 := fun e => h2 (by rw [e]; decide)
    refine (if_neg h69).trans ((q4.1 k (h3 _ (by decide))).trans (al2.1 k h1 (fun e => h2 (by rw [e]; decide)) (fun e => h2 (by rw [e]; decide))))
  · obtain ⟨p1, p2⟩ := f2.2.1 100 (by decide)
    obtain ⟨p3, p4⟩ := C.2.1 100 (by decide)
    rw [f4 100 (by decide), p3] at p1
    have p2 : v' 100 ≤ 800 := p2
    have p4 : v3 100 ≤ 800 := p4
    have := nI_inj' (a := v3 100) (b := v' 100) (by omega) (by omega) p1
    have := b3.2
    have := hv0.2
    omega
/-- the same from where decide() is called -/
theorem r_decide {t : tT} {m : Nat} {y yc : tY} {q0 : Nat → gTy} {A0 : gTy} {sc : List gEn} {s0 : gSt} {W : gSt × gTy} (hq0 : ∀ u, q0 u = gNtd) (hT : 1600 ≤ T) (hs : gIs is [] (q0, [], []) = (sc, s0)) (hW : gWk T f pp ee tE tN t (is.map Prod.fst) sc A0 s0 = W) (H : ∀ τ1, dF1 τ τ1 → dHy ks qs T n h0 len cnt lo N S P A L τ1 kk pp ee f g ρ tE tN Γ CD B is t m y yc sc) (G : dGd T cnt kk pp ee f (τ.2.2.1 32) L Γ B FK W.1.2.1 W.1.2.2 OT) (hO : ∀ X, OT X → ∃ u, uNm Γ (.inl u) ∧ W.1.1 u ≠ gNtd ∧ sbT (tN u) (W.1.1 u) X) : ∃ τ' R6, zF h0 qs ks T (n + 8) 110 [.ref h0] τ = some (none, zI τ' 68 (if 0 ≤ τ'.1 69 then 0 else 1)) ∧ dR6 Γ W.1.2.1 W.1.2.2 R6 ∧ gGr T f pp ee (τ.2.2.1 32) R6 Γ FK W.1.2.1 (alV Γ τ') ∧ plQ pp (nSo T f pp ee (τ.2.2.1 32) R6 (alV Γ τ') Γ) (W.1.2.2.flatMap gN2) (τ'.1 69) ∧ (∀ k, k < 40 → τ'.2.2.1 k = τ.2.2.1 k) ∧ zLg τ τ' ∧ (∀ k, k ∉ uCt → k ∉ [63, 69, 126, 131, 138, 139, 141, 144, 152, 153, 154, 155] → τ'.1 k = τ.1 k) ∧ dTd Γ tN (g100 tE tN t) τ' W.1.1 := by
  obtain ⟨τ1, a1, a2, a3⟩ := r_dcB (ks := ks) (qs := qs) (T := T) (n := n + 7) (h0 := h0) (τ := τ) hT
  have r : ∀ k, k < 40 → τ1.2.2.1 k = τ.2.2.1 k := fun k hk => a2.2.2.1 k (by omega) (by omega)
  have hsc : (gIs is [] (q0, [], [])).1 = sc := by rw [hs]
  have hs0 : (gIs is [] (q0, [], [])).2 = s0 := by rw [hs]
  obtain ⟨τ', R6, b1, b2, b3, b4, b5, b7, b6, b8⟩ := r_decA (q0 := q0) (A0 := A0) (FK := FK) (n := n) hq0 a3 (by rw [hsc]; exact H τ1 a2) (by rw [hsc, hs0, hW, r 32 (by decide)]; exact G) (by rw [hsc, hs0, hW]; exact hO)
  rw [hsc, hs0, hW] at b2 b3 b4 b8
  rw [r 32 (by decide)] at b3 b4
  have a1 : zF h0 qs ks T (n + 8) 110 [.ref h0] τ = _ := a1
  exact ⟨τ', R6, a1.trans b1, b2, b3, b4, fun k hk => (b5 k hk).trans (r k hk), zLg.tr ⟨fun k _ _ => by rw [a2.2.1], fun k hk => a2.2.2.1 k (by omega) (by omega), fun k _ => by rw [a2.2.2.2]⟩ b7, fun k h1 h2 => (b6 k h1 h2).trans (a2.1 k h1 (fun e => h2 (by rw [e]; decide))), b8⟩
end DCW
