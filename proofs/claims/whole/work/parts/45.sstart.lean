/-! String's own "" and its static at the law's start -/
theorem zS_start {b : Nat} {s : State} {cJ : ClassId} (hts : ∀ w ∈ lw_tbl, w.before #[Value.ref b] s = true) (hgv : (Jvm.Cond.and given_1 narrow_1).before #[Value.ref b] s = true) (hfc : s.vm.findClass RJ0 = some cJ) : ∃ k0 v0 : Nat, zS s.heap.size k0 v0 s := by
  have hq := flat_of_before _ hgv
  have hco : (Cond.eq (.field (.string "java/lang/String" 7) "java/lang/String" "coder" "B") (.int 0)).before #[Value.ref b] s = true := hq _ (by decide +kernel)
  have har : (Cond.arrayOf (.field (.string "java/lang/String" 7) "java/lang/String" "value" "[B") .byte).before #[Value.ref b] s = true := hq _ (by decide +kernel)
  have hle : (Cond.eq (.length (.field (.string "java/lang/String" 7) "java/lang/String" "value" "[B")) (.int 0)).before #[Value.ref b] s = true := hq _ (by decide +kernel)
  have hcs : (Cond.eq (.static "java/lang/String" "COMPACT_STRINGS" "Z") (.int 1)).before #[Value.ref b] s = true := hq _ (by decide +kernel)
  have hA : ∀ a : Nat, a < s.heap.size → ¬ (fun q : Nat => s.heap.size ≤ q) a := fun a h q => absurd h (Nat.not_lt.mpr q)
  have h1 : (Cond.stringRef RJ0 7 "").before #[Value.ref b] s = true := hts _ (zw_in 2 27 rfl)
  obtain ⟨k, cf, i, k0, -, -, -, -, -, hev⟩ := Cond.stringRef_spec hfc h1
  have hev : (Term.string "java/lang/String" 7).eval #[Value.ref b] s none [] s = some (.ref k0) := hev
  obtain ⟨v0, hv, hT⟩ := va_Tof (N := 0) (f := fun _ => .int 0) (A := fun q : Nat => s.heap.size ≤ q) (by decide) har (va_eqt hle) (fun j h => absurd h (Nat.not_lt_zero j)) hA
  refine ⟨k0, v0, vk_R.of h1 hev, vk_OFof hev hv hA, vk_OFof hev (va_eqt hco) hA, hT, ?_⟩
  exact va_Zof (hts (.laysStatic "java/lang/String" "COMPACT_STRINGS" "Z") (zw_in 2 29 rfl)) (hts (.initialized "java/lang/String") (zw_in 1 10 rfl)) (va_eqi hcs) hA
