/-! the String constants at the law's start -/
theorem zKl_in : ∀ w ∈ zKl.map (fun q => Cond.stringRef RX13 q.1 q.2), w ∈ lw_tbl := zmem _ [(11, 94), (11, 107), (11, 108), (11, 109), (11, 110), (11, 119), (11, 124), (11, 125), (11, 126), (11, 127), (11, 128), (11, 129), (11, 130), (11, 131), (11, 132), (11, 141), (11, 142), (11, 147), (11, 152), (11, 153), (11, 162), (11, 163), (11, 164), (11, 165), (11, 178), (11, 179), (11, 180), (11, 181), (11, 182), (11, 191), (11, 192), (11, 193), (11, 194), (11, 195), (11, 196), (11, 197), (11, 198), (11, 199), (11, 200), (11, 201), (11, 202), (11, 203), (11, 204), (11, 209), (11, 222), (11, 223), (13, 96), (13, 97)] (by decide +kernel)
theorem zK_start {b : Nat} {s : State} {cM : ClassId} (hts : ∀ w ∈ lw_tbl, w.before #[Value.ref b] s = true) (hfc : s.vm.findClass RX13 = some cM) : ∃ ks : Nat → Nat, zK ks s := by
  refine ⟨fun i => match (Term.string RX13 i).eval #[] s none [] s with | some (.ref a) => a | _ => 0, fun q hq => ?_⟩
  have h1 : (Cond.stringRef RX13 q.1 q.2).before #[Value.ref b] s = true := hts _ (zKl_in _ (List.mem_map.mpr ⟨q, hq, rfl⟩))
  obtain ⟨k, cf, i, a', -, -, -, -, -, hev⟩ := Cond.stringRef_spec hfc h1
  have hev2 : (Term.string RX13 q.1).eval #[] s none [] s = some (.ref a') := by
    rw [← hev]
    first | rfl | exact (Term.string_eval_of_vm (args := #[]) rfl) | exact (Term.string_eval_of_vm (args := #[]) rfl).symm
  have hks : (match (Term.string RX13 q.1).eval #[] s none [] s with | some (.ref a) => a | _ => 0) = a' := by rw [hev2]
  refine ⟨h1, ?_⟩
  rw [hev2]
  exact congrArg (fun z => some (Value.ref z)) hks.symm
