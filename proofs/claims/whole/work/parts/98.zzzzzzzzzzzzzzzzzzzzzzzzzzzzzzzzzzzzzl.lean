/-! type(): both sides print the same bytes -/
theorem tTx_sh (f : Nat → Int32) (a : Nat) : ∀ m i, tTx (fun j => f (a + j)) m i = tTx f m (a + i)
  | 0, _ => rfl
  | m + 1, i => by
    show f (a + i) :: tTx (fun j => f (a + j)) m (i + 1) = f (a + i) :: tTx f m (a + i + 1)
    rw [tTx_sh f a m (i + 1)]
    rfl
/-- a NAME's letters -/
theorem ty_wd {pp ee f fc : Nat → Int32} {len : Nat} (hc : ∀ i, i < len → fc i = f i) (hs : ∀ j, j < len → sB (f j)) (he : ∀ w, (ee w).toNatClampNeg ≤ len) (w : Nat) : (tyV pp ee fc w).map tBt = (tyW pp ee f w).map tBt := by
  unfold tyV tyW
  have e := tTx_sh f (wA pp w) (wL pp ee w) 0
  rw [Nat.add_zero] at e
  rw [← e]
  refine tTx_bt _ _ (fun j _ hj => ?_)
  have h1 := he w
  have h2 : wA pp w + j < len := by
    unfold wL wA at *
    omega
  rw [hc _ h2, tBt_255 (hs _ h2)]
/-- **both sides print the same** -/
theorem ty_al {pp ee f fc : Nat → Int32} {len : Nat} {bk : gN → Nat} {sy sy' : gTy → List gFc} {y : tY} {A : gTy} (hc : ∀ i, i < len → fc i = f i) (hs : ∀ j, j < len → sB (f j)) (he : ∀ w, (ee w).toNatClampNeg ≤ len) (hy : yW y) (h : ∀ X, sbT y A X → sy X = sy' X) : tEb (tTy (tyV pp ee fc) bk sy y A ([], [])) (tTy (tyW pp ee f) bk sy' y A ([], [])) := by
  rw [tTy_sy y A ([], []) h (fun z => by rw [z] at hy; exact hy) hy]
  exact tEb.ty (fun w => ty_wd hc hs he w) y A ⟨rfl, rfl⟩
