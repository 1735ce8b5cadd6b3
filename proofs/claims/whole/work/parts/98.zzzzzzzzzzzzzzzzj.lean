/-! the reference: under() up to its table -/
/-- the term and the line at hand, the table -/
def nFr (V τ : zSt) : Prop := (∀ k, k ≠ 63 → k ≠ 138 → k ≠ 139 → k ≠ 141 → τ.1 k = V.1 k) ∧ (∀ k, k ≠ 64 → k ≠ 140 → τ.2.1 k = V.2.1 k) ∧ (∀ k, k ≠ 40 → k ≠ 41 → τ.2.2.1 k = V.2.2.1 k) ∧ ∀ k, k ≠ 87 → τ.2.2.2 k = V.2.2.2 k
theorem nFr.rf (τ : zSt) : nFr τ τ := ⟨fun _ _ _ _ _ => rfl, fun _ _ _ => rfl, fun _ _ _ => rfl, fun _ _ => rfl⟩
theorem nFr.tr {a b c : zSt} (h : nFr a b) (g : nFr b c) : nFr a c := ⟨fun k x y z w => (g.1 k x y z w).trans (h.1 k x y z w), fun k x y => (g.2.1 k x y).trans (h.2.1 k x y), fun k x y => (g.2.2.1 k x y).trans (h.2.2.1 k x y), fun k x => (g.2.2.2 k x).trans (h.2.2.2 k x)⟩
theorem sF.n {a b : zSt} (h : sF a b) : nFr a b := ⟨fun k _ y z w => h.1 k y z w, fun k _ y => h.2.1 k y, fun k _ _ => by rw [h.2.2.1], h.2.2.2⟩
theorem gFm.n {a b : zSt} (h : gFm a b) : nFr a b := ⟨fun k x _ _ _ => h.1 k x, fun k x _ => h.2.1 k x, h.2.2.1, fun k _ => by rw [h.2.2.2]⟩
theorem nFr.q {a b : zSt} (h : nFr a b) : uRq a b := ⟨fun k x _ _ _ _ _ => h.2.2.1 k (by omega) (by omega), h.2.2.2 54 (by decide), h.2.2.2 59 (by decide)⟩
theorem nFr.co {a b : zSt} {ns : List Nat} (h : nFr a b) (w : rCo a ns) : rCo b ns := w.cg (h.1 131 (by decide) (by decide) (by decide) (by decide)) (h.2.2.1 89 (by decide) (by decide)) (h.2.2.1 90 (by decide) (by decide))
theorem nFr.qr {a b : zSt} {Γ : uGm} (h : nFr a b) (w : uQr Γ a) : uQr Γ b := w.q (fun k x y => h.2.2.1 k (by omega) (by omega))
theorem nFr.sq {a b : zSt} {Γ : uGm} {v : Nat → Nat} {S : List gN} {sl : gN → Nat} {ns : List Nat} {c : Nat} {B : Int} (h : nFr a b) (w : sQ Γ a v S sl ns c B) : sQ Γ b v S sl ns c B := ⟨w.1, h.co w.2.1, w.2.2.1, w.2.2.2.1, h.qr w.2.2.2.2.1, w.2.2.2.2.2⟩
/-- columns alone -/
def cFm (V τ : zSt) : Prop := (∀ k, k ≠ 131 → τ.1 k = V.1 k) ∧ τ.2.1 = V.2.1 ∧ (∀ k, k ≠ 89 → k ≠ 90 → τ.2.2.1 k = V.2.2.1 k) ∧ τ.2.2.2 = V.2.2.2
theorem cFm.rf (τ : zSt) : cFm τ τ := ⟨fun _ _ => rfl, rfl, fun _ _ _ => rfl, rfl⟩
theorem cFm.tr {a b c : zSt} (h : cFm a b) (g : cFm b c) : cFm a c := ⟨fun k x => (g.1 k x).trans (h.1 k x), g.2.1.trans h.2.1, fun k x y => (g.2.2.1 k x y).trans (h.2.2.1 k x y), g.2.2.2.trans h.2.2.2⟩
theorem cFm.q {a b : zSt} (h : cFm a b) : uRq a b := ⟨fun k _ x _ _ _ _ => h.2.2.1 k (by omega) (by omega), by rw [h.2.2.2], by rw [h.2.2.2]⟩
/-- what NAMES say in turn speaks of those further out -/
def eCl (Γ : uGm) (B : Int) : List (gN × gTy) → Prop
  | [] => True
  | x :: r => gAq Γ (r.map Prod.fst) B x.2 ∧ eCl Γ B r
def gSl (S : List gN) (y : gN) : Nat := S.findIdx (fun z => decide (z = y)) + 1
section UND
variable {ks : Nat → Nat} {qs : List Nat} {T n h0 : Nat} {Γ : uGm} {V : zSt} {v : Nat → Nat}
theorem uMs_k {y : tY} {t : Nat} {A : gTy} {τ : zSt} (h : uTy Γ v τ y t A) (hm : gMs y = true) : (τ.2.2.1 42 t == 1 || τ.2.2.1 42 t == 3 || τ.2.2.1 42 t == 5) = true := by
  obtain ⟨s, k, -, t2, t3, -⟩ := h.sd hm
  rw [t2]
  rcases t3 with rfl | rfl | rfl <;> rfl
/-- measured NAMES get columns, from the innermost on -/
theorem r_unA {x1 x2 x3 : Int32} (hv : ∀ k, v k ≤ uLm k) : ∀ (ch : List (Option (gN × gTy))) (e : Int32) (t : Nat) (τ : zSt) (ns : List Nat), uEv Γ v V ch e → ch.length < t → cFm V τ → rCo τ ns → (ns ++ (ch.filterMap id).map (fun x => Γ.1 x.1)).Nodup → (∀ x, x ∈ ch.filterMap id → uNm Γ x.1) → ns.length + (ch.filterMap id).length ≤ 100 → ∃ τ', l_under_15 T (zF h0 qs ks T (n + 1)) h0 qs ks t x1 x2 x3 e τ = (zcv (zF h0 qs ks T (n + 1) 105 [.ref h0, .int x3] τ') fun s2 => l_under_70 T (zF h0 qs ks T (n + 1)) h0 qs ks T x1 x2 x3 x1 s2) ∧ cFm V τ' ∧ rCo τ' (ns ++ (ch.filterMap id).map (fun x => Γ.1 x.1))
  | [], e, t, τ, ns, h, ht, f, w, _, _, _ => by
    obtain ⟨t, rfl⟩ : ∃ t', t = t' + 1 := ⟨t - 1, by omega⟩
    have h : e = -1 := h
    rw [l_under_15, h, if_pos m1_lt.2]
    exact ⟨τ, rfl, f, by rw [List.filterMap_nil, List.map_nil, List.append_nil]; exact w⟩
  | o :: ch, e, t, τ, ns, ⟨i, ty, ⟨h1, h2⟩, ⟨h3, h4⟩, h5, h6⟩, ht, f, w, hd, hu, hl => by
    obtain ⟨t, rfl⟩ : ∃ t', t = t' + 1 := ⟨t - 1, by omega⟩
    have i12 : i < 12000 := by have : v 109 ≤ 12000 := hv 109; omega
    have t40 : ty < 40000 := by have : v 75 ≤ 40000 := hv 75; omega
    have hti : ch.length < t := by have : ch.length + 1 < t + 1 := ht; omega
    have r : ∀ k, 42 ≤ k → k ≤ 84 → τ.2.2.1 k = V.2.2.1 k := fun k a b => f.2.2.1 k (by omega) (by omega)
    rw [l_under_15, h1, if_neg (nI_nn (by omega)), zgd_at (zin_n i12 (by decide)), nI_clamp (show i < 2 ^ 31 by omega), r 69 (by decide) (by decide), h3, zgd_at (zin_n t40 (by decide)), nI_clamp (show ty < 2 ^ 31 by omega), r 42 (by decide) (by decide), r_isSaid, zci_at]
    cases o with
    | none =>
      have h5 : V.2.2.1 42 ty = 2 ∨ V.2.2.1 42 ty = 4 := h5
      rw [show (V.2.2.1 42 ty == 1 || V.2.2.1 42 ty == 3 || V.2.2.1 42 ty == 5) = false by rcases h5 with e | e <;> rw [e] <;> rfl, if_pos (show b01 false = 0 from rfl)]
      unfold j_under_50
      rw [zgd_at (zin_n i12 (by decide)), nI_clamp (show i < 2 ^ 31 by omega), r 70 (by decide) (by decide)]
      exact r_unA hv ch _ t τ ns h6 hti f w hd hu hl
    | some x =>
      obtain ⟨a1, a2, a3⟩ : V.2.2.1 68 i = nI (Γ.1 x.1) ∧ gMs (gSy x.2) = true ∧ uTy Γ v V (gSy x.2) ty x.2 := h5
      have hx : uNm Γ x.1 := hu x (by show x ∈ x :: ch.filterMap id; exact List.mem_cons_self ..)
      have hd : (ns ++ Γ.1 x.1 :: (ch.filterMap id).map (fun x => Γ.1 x.1)).Nodup := hd
      have hl : ns.length + ((ch.filterMap id).length + 1) ≤ 100 := hl
      rw [uMs_k a3 a2, if_neg (show ¬ b01 true = 0 by decide), zgd_at (zin_n i12 (by decide)), r 68 (by decide) (by decide), a1]
      have nin : Γ.1 x.1 ∉ ns := fun z => by
        have := (List.nodup_append.mp hd).2.2 _ z _ (List.mem_cons_self ..)
        exact this rfl
      obtain ⟨τ1, b1, b2, b3, b4, b5, b6⟩ := r_clN (h0 := h0) (qs := qs) (ks := ks) (T := T) (n := n) w (by have := hx.1; omega) nin (by omega)
      rw [b1, zci_at]
      have f1 : cFm V τ1 := f.tr ⟨b3, b4, b5, b6⟩
      unfold j_under_50
      rw [zgd_at (zin_n i12 (by decide)), nI_clamp (show i < 2 ^ 31 by omega), f1.2.2.1 70 (by decide) (by decide)]
      obtain ⟨τ', c1, c2, c3⟩ := r_unA hv ch _ t τ1 (ns ++ [Γ.1 x.1]) h6 hti f1 b2 (by rw [List.append_assoc]; exact hd) (fun y hy => hu y (by show y ∈ x :: ch.filterMap id; exact List.mem_cons_of_mem _ hy)) (by rw [List.length_append]; show ns.length + 1 + _ ≤ 100; omega)
      refine ⟨τ', c1, c2, ?_⟩
      rw [List.append_assoc] at c3
      exact c3
theorem eCl.at {B : Int} : ∀ (l : List (gN × gTy)) (x : gN × gTy), x ∈ l → eCl Γ B l → ∀ S : List gN, (∀ y, y ∈ l.map Prod.fst → y ∈ S) → gAq Γ S B x.2
  | [], _, h, _, _, _ => by cases h
  | z :: l, x, h, ⟨w1, w2⟩, S, hS => by
    rcases List.mem_cons.mp h with e | h
    · subst e
      obtain ⟨a, b⟩ := w1
      exact ⟨fun y hy => ⟨(a y hy).1, (a y hy).2.1, fun u e q => hS u (List.mem_cons_of_mem _ ((a y hy).2.2.1 u e q)), (a y hy).2.2.2⟩, b⟩
    · exact eCl.at l x h w2 S (fun y hy => hS y (List.mem_cons_of_mem _ hy))
/-- namesIn() over the chain -/
theorem r_unC {x1 x2 x3 : Int32} {S : List gN} {sl : gN → Nat} {ns : List Nat} {c : Nat} {B : Int} (hT : 8400 ≤ T) (hn : 203 ≤ n) (H : sQ Γ V v S sl ns c B) : ∀ (ch : List (Option (gN × gTy))) (e : Int32) (t : Nat) (τ : zSt), uEv Γ v V ch e → ch.length < t → nFr V τ → (∀ x, x ∈ ch.filterMap id → gAq Γ S B x.2) → ∃ τ', l_under_70 T (zF h0 qs ks T (n + 3)) h0 qs ks t x1 x2 x3 e τ = l_under_101 T (zF h0 qs ks T (n + 3)) h0 qs ks T x1 x2 x3 x2 τ' ∧ nFr V τ'
  | [], e, t, τ, h, ht, f, _ => by
    obtain ⟨t, rfl⟩ : ∃ t', t = t' + 1 := ⟨t - 1, by omega⟩
    have h : e = -1 := h
    rw [l_under_70, h, if_pos m1_lt.2]
    exact ⟨τ, rfl, f⟩
  | o :: ch, e, t, τ, ⟨i, ty, ⟨h1, h2⟩, ⟨h3, h4⟩, h5, h6⟩, ht, f, hA => by
    obtain ⟨t, rfl⟩ : ∃ t', t = t' + 1 := ⟨t - 1, by omega⟩
    have H6 := H.2.2.2.2.2.1
    have i12 : i < 12000 := by have : v 109 ≤ 12000 := H6 109; omega
    have t40 : ty < 40000 := by have : v 75 ≤ 40000 := H6 75; omega
    have hti : ch.length < t := by have : ch.length + 1 < t + 1 := ht; omega
    rw [l_under_70, h1, if_neg (nI_nn (by omega)), zgd_at (zin_n i12 (by decide)), nI_clamp (show i < 2 ^ 31 by omega), f.q.r (k := 69), h3]
    have step : ∃ τ1, zF h0 qs ks T (n + 3) 105 [.ref h0, .int (nI ty)] τ = some (none, τ1) ∧ nFr V τ1 ∧ ∀ x, x ∈ ch.filterMap id → gAq Γ S B x.2 := by
      cases o with
      | none =>
        have h5 : V.2.2.1 42 ty = 2 ∨ V.2.2.1 42 ty = 4 := h5
        refine ⟨τ, ?_, f, hA⟩
        rw [show n + 3 = (n + 2) + 1 from rfl, zE_namesIn]
        unfold b_namesIn
        rw [if_neg (nI_nn (by omega)), zgd_at (zin_n t40 (by decide)), nI_clamp (show ty < 2 ^ 31 by omega), f.q.r (k := 42), r_isSaid, zci_at, show (V.2.2.1 42 ty == 1 || V.2.2.1 42 ty == 3 || V.2.2.1 42 ty == 5) = false by rcases h5 with e | e <;> rw [e] <;> rfl, if_pos (show b01 false = 0 from rfl)]
      | some x =>
        obtain ⟨a1, a2, a3⟩ : V.2.2.1 68 i = nI (Γ.1 x.1) ∧ gMs (gSy x.2) = true ∧ uTy Γ v V (gSy x.2) ty x.2 := h5
        obtain ⟨τ1, b1, b2, -⟩ := r_nmI (h0 := h0) (qs := qs) (ks := ks) (T := T) (n := n) (f.sq H) hT (hA x (by show x ∈ x :: ch.filterMap id; exact List.mem_cons_self ..)) (uTy.q f.q _ _ _ a3) a2 hn (sF.rf τ)
        exact ⟨τ1, b1, f.tr b2.n, fun y hy => hA y (by show y ∈ x :: ch.filterMap id; exact List.mem_cons_of_mem _ hy)⟩
    obtain ⟨τ1, b1, b2, b3⟩ := step
    rw [b1, zcv_at, zgd_at (zin_n i12 (by decide)), b2.q.r (k := 70)]
    exact r_unC hT hn H ch _ t τ1 h6 hti b2 b3
end UND
