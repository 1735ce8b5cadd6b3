/-! the class's gather(): template() -/
/-- all that holds where no TEMPLATE is being made -/
def tpB (st : Nat) (l : Nat → Nat) (b0 : Nat) (nq : tQ → Int) (xs : List tQ) (Q : Nat → Prop) (pg ch ty : Nat) (cf : List Value) (At : Nat → Nat) (mo : Nat) (g : gG) (ρ : Nat → tY) (lv ov : Int32) (Ls : List Nat) (σ : oSt) : Prop := gIv st l b0 Q σ ∧ ntI st l b0 nq xs Q σ ∧ qRw st l b0 nq xs Q pg σ ∧ (∃ v, σ.1 ch = some (.inr (2, cf.set 8 (.int v)))) ∧ (∃ f, σ.1 st = some (.inl (.object "LiquidTongue$Name", 73, .inr (.inr (.inr (.inr f)))))) ∧ lsO b0 Ls σ ∧ yTf ty At mo g ρ lv ov σ
section TMP
variable {κ : oKv} {T n : Nat} {st : Nat} {l : Nat → Nat} {b0 : Nat} {nq : tQ → Int} {xs : List tQ} {Q : Nat → Prop} {σ : oSt} {pg ch ty : Nat} {cf : List Value} {At : Nat → Nat} {mo : Nat} {g : gG} {ρ : Nat → tY} {lv ov : Int32} {na : gN → Nat} {S : List gN} {Ls : List Nat} {nl : Option Nat} {x1 : Int32} {CN : Nat → gCd → Prop} {Ψ : kGh}
theorem tpS.b (h : tpS st l b0 nq xs Q pg ch ty cf At mo g ρ lv ov na S Ls σ) : tpB st l b0 nq xs Q pg ch ty cf At mo g ρ lv ov Ls σ := by
  obtain ⟨h1, h2, h3, h4, ⟨f, h5, -⟩, h6, h7⟩ := h
  exact ⟨h1, h2, h3, ⟨_, h4⟩, ⟨f, h5⟩, h6, h7⟩
/-- measured NAMES are counted -/
theorem c_tp6 {s0 : Option Nat} : ∀ (Sc : List sEn) (s : Option Nat) (sc : List gEn) (Es : List (gN × Nat)) (k t : Nat), scR st l b0 nq xs Ψ σ CN Sc s sc Es → Sc.length < t → ol_X0_template_6 T (oF κ T (n + 1)) κ t (some ch) x1 nl s0 (nI k) s σ = obn (opf σ (some ch) 2 8 (.int (nI (k + Es.length)))) fun s2 => ol_X0_template_59 T (oF κ T (n + 1)) κ T (some ch) x1 nl (nI (k + Es.length)) s0 s2
  | [], s, sc, Es, k, t, ⟨h1, h2, h3⟩, ht => by
    obtain ⟨t, rfl⟩ : ∃ t', t = t' + 1 := ⟨t - 1, by omega⟩
    rw [ol_X0_template_6, if_pos h1, h3]
    rfl
  | .inl a :: r, s, sc, Es, k, t, ⟨q, ou, fs, bs, ⟨h1, h2⟩, ⟨h3, h4, h5⟩, h6⟩, ht => by
    obtain ⟨t, rfl⟩ : ∃ t', t = t' + 1 := ⟨t - 1, by omega⟩
    have ht : r.length + 1 < t + 1 := ht
    subst h1
    have f0 : ofd σ (some q) 10 0 = some (.ref a) := (ofd_at h2).trans rfl
    have f3 : ofd σ (some q) 10 3 = some (va_rf ou) := (ofd_at h2).trans rfl
    have vo : ovr (some (va_rf ou)) = some ou := by cases ou <;> rfl
    rw [ol_X0_template_6, if_neg (by intro z; cases z), f0, ovr_rf, obn_at, if_neg (by intro z; cases z), obn_at, oob_at h3, obn_at, c_meas (n := n) h3 h5, oin_at]
    rcases h6 with ⟨h6, -, h7⟩ | ⟨h6, x, A, kn, sc', Es', ⟨h7, h7', -⟩, h8, h9, h10, h11⟩
    · rw [h6, if_pos (show b01 false = 0 by decide)]
      unfold oj_X0_template_36 oj_X0_template_37
      rw [f3, vo, obn_at, show nI k + 0 = nI k from nI_add k 0]
      exact c_tp6 r ou sc Es k t h7 (by omega)
    · rw [h6, if_neg (show ¬ b01 true = 0 by decide)]
      unfold oj_X0_template_37
      rw [f3, vo, obn_at, nI_1, c_tp6 r ou sc' Es' (k + 1) t h11 (by omega), h7', List.length_cons, show k + 1 + Es'.length = k + (Es'.length + 1) by omega]
  | .inr (m, h) :: r, s, sc, Es, k, t, ⟨q, ou, c, sc', ⟨h1, h2⟩, h3, h4, h5⟩, ht => by
    obtain ⟨t, rfl⟩ : ∃ t', t = t' + 1 := ⟨t - 1, by omega⟩
    have ht : r.length + 1 < t + 1 := ht
    subst h1
    have f0 : ofd σ (some q) 10 0 = some (va_rf none) := (ofd_at h2).trans rfl
    have f3 : ofd σ (some q) 10 3 = some (va_rf ou) := (ofd_at h2).trans rfl
    have vo : ovr (some (va_rf ou)) = some ou := by cases ou <;> rfl
    rw [ol_X0_template_6, if_neg (by intro z; cases z), f0, show ovr (some (va_rf none)) = some none from rfl, obn_at, if_pos rfl]
    unfold oj_X0_template_36 oj_X0_template_37
    rw [f3, vo, obn_at, show nI k + 0 = nI k from nI_add k 0]
    exact c_tp6 r ou sc' Es k t h5 (by omega)
/-- what comes after the second loop -/
def tpK (κ : oKv) (T n ch : Nat) (x1 : Int32) (nl : Option Nat) (σ : oSt) : oRs := obn (oob σ (some ch) 2) fun _ => orn (oF κ T (n + 1) 27 [va_rf (some ch), .int x1, va_rf nl, .int 0] σ) fun r s => some (some (va_rf r), s)
/-- they are what * may be -/
theorem c_tp59 {v8 : Value} (c7 : cf[7]? = some (.ref st)) : ∀ (Sc : List sEn) (s : Option Nat) (sc : List gEn) (Es : List (gN × Nat)) (t : Nat) (f : Nat → Option Nat) (σ : oSt), gIv st l b0 Q σ → σ.1 ch = some (.inr (2, cf.set 8 v8)) → σ.1 st = some (.inl (.object "LiquidTongue$Name", 73, .inr (.inr (.inr (.inr f))))) → scR st l b0 nq xs Ψ σ CN Sc s sc Es → Sc.length < t → Es.length ≤ 73 → ∃ f', ol_X0_template_59 T (oF κ T (n + 1)) κ t (some ch) x1 nl (nI Es.length) s σ = tpK κ T n ch x1 nl (oput σ st (.inl (.object "LiquidTongue$Name", 73, .inr (.inr (.inr (.inr f')))))) ∧ (∀ (j : Nat) (p : gN × Nat), Es[j]? = some p → f' (Es.length - 1 - j) = some p.2) ∧ ∀ j, Es.length ≤ j → f' j = f j
  | [], s, sc, Es, t, f, σ, iv, hc, hf, ⟨h1, h2, h3⟩, ht, hE => by
    obtain ⟨t, rfl⟩ : ∃ t', t = t' + 1 := ⟨t - 1, by omega⟩
    refine ⟨f, ?_, fun j p e => (by rw [h3] at e; cases e), fun _ _ => rfl⟩
    rw [ol_X0_template_59, if_pos h1, oput_same hf]
    rfl
  | .inl a :: r, s, sc, Es, t, f, σ, iv, hc, hf, ⟨q, ou, fs, bs, ⟨h1, h2⟩, ⟨h3, h4, h5⟩, h6⟩, ht, hE => by
    obtain ⟨t, rfl⟩ : ∃ t', t = t' + 1 := ⟨t - 1, by omega⟩
    have ht : r.length + 1 < t + 1 := ht
    subst h1
    have f0 : ofd σ (some q) 10 0 = some (.ref a) := (ofd_at h2).trans rfl
    have f3 : ofd σ (some q) 10 3 = some (va_rf ou) := (ofd_at h2).trans rfl
    have f7 : ofd σ (some ch) 2 7 = some (.ref st) := (ofd_at hc).trans (by rw [List.getElem?_set_ne (by decide)]; exact c7)
    have vo : ovr (some (va_rf ou)) = some ou := by cases ou <;> rfl
    rw [ol_X0_template_59, if_neg (by intro z; cases z), f0, ovr_rf, obn_at, if_neg (by intro z; cases z), obn_at, oob_at h3, obn_at, c_meas (n := n) h3 h5, oin_at]
    rcases h6 with ⟨h6, -, h7⟩ | ⟨h6, x, A, kn, sc', Es', ⟨h7, h7', -⟩, h8, h9, h10, h11⟩
    · rw [h6, if_pos (show b01 false = 0 by decide)]
      unfold oj_X0_template_103
      rw [f3, vo, obn_at]
      exact c_tp59 c7 r ou sc Es t f σ iv hc hf h7 (by omega) hE
    · subst h7'
      have hE : Es'.length + 1 ≤ 73 := hE
      have es1 : osr σ (some st) (nI Es'.length) (some a) = some (oput σ st (.inl (.object "LiquidTongue$Name", 73, .inr (.inr (.inr (.inr (va_up f Es'.length (some a)))))))) := by
        simp only [osr, hf, zin_n (show Es'.length < 73 by omega) (show 73 < 2 ^ 31 by decide), if_true, h3, ofits_n, nI_clamp (show Es'.length < 2 ^ 31 by omega)]
      have w : prW st σ st (.inl (.object "LiquidTongue$Name", 73, .inr (.inr (.inr (.inr (va_up f Es'.length (some a))))))) := Or.inr (Or.inr (Or.inl ⟨rfl, _, _, hf, rfl⟩))
      have kp : gKp st l b0 (fun _ => False) σ (oput σ st (.inl (.object "LiquidTongue$Name", 73, .inr (.inr (.inr (.inr (va_up f Es'.length (some a)))))))) := w.kp (fun f z => by rw [hf] at z; cases z) (fun f z => by rw [hf] at z; cases z)
      have nle : ¬ nI (Es'.length + 1) ≤ (0 : Int32) := fun z => by
        have := nI_lt (a := 0) (b := Es'.length + 1) (by omega) (by omega)
        exact absurd z (Int32.not_le.mpr this)
      have f3' : ofd (oput σ st (.inl (.object "LiquidTongue$Name", 73, .inr (.inr (.inr (.inr (va_up f Es'.length (some a)))))))) (some q) 10 3 = some (va_rf ou) := (ofd_at ((oput_ne (fun z => by rw [z, hf] at h2; cases h2)).trans h2)).trans rfl
      rw [h6, if_neg (show ¬ b01 true = 0 by decide), List.length_cons, if_neg nle, f7, ovr_rf, obn_at, f0, ovr_rf, obn_at, nI_mi, es1, obn_at]
      unfold oj_X0_template_103
      rw [f3', vo, obn_at]
      obtain ⟨f', g1, g2, g3⟩ := c_tp59 c7 r ou sc' Es' t (va_up f Es'.length (some a)) (oput σ st (.inl (.object "LiquidTongue$Name", 73, .inr (.inr (.inr (.inr (va_up f Es'.length (some a)))))))) (w.iv iv) (by rw [oput_ne (fun z => by rw [z, hf] at hc; cases hc)]; exact hc) (oput_eq _ _ _) (h11.sp kp (gAg.rf _ _) iv.1 r ou sc' Es' (fun _ _ z => z)) (by omega) (by omega)
      rw [oput_oput] at g1
      refine ⟨f', g1, fun j p e => ?_, fun j hj => ?_⟩
      · cases j with
        | zero =>
          injection e with e
          rw [← e, show Es'.length + 1 - 1 - 0 = Es'.length by omega, g3 _ (Nat.le_refl _)]
          exact if_pos rfl
        | succ j =>
          have := g2 j p e
          rw [show Es'.length + 1 - 1 - (j + 1) = Es'.length - 1 - j by omega]
          exact this
      · rw [g3 j (by omega)]
        exact if_neg (by omega)
  | .inr (m, h) :: r, s, sc, Es, t, f, σ, iv, hc, hf, ⟨q, ou, c, sc', ⟨h1, h2⟩, h3, h4, h5⟩, ht, hE => by
    obtain ⟨t, rfl⟩ : ∃ t', t = t' + 1 := ⟨t - 1, by omega⟩
    have ht : r.length + 1 < t + 1 := ht
    subst h1
    have f0 : ofd σ (some q) 10 0 = some (va_rf none) := (ofd_at h2).trans rfl
    have f3 : ofd σ (some q) 10 3 = some (va_rf ou) := (ofd_at h2).trans rfl
    have vo : ovr (some (va_rf ou)) = some ou := by cases ou <;> rfl
    rw [ol_X0_template_59, if_neg (by intro z; cases z), f0, show ovr (some (va_rf none)) = some none from rfl, obn_at, if_pos rfl]
    unfold oj_X0_template_103
    rw [f3, vo, obn_at]
    exact c_tp59 c7 r ou sc' Es t f σ iv hc hf h5 (by omega) hE
end TMP
