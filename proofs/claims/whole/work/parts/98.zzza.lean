/-! the class's parser: expression, at every depth -/
section CRL
variable {κ : oKv} {sz T n m len cnt : Nat} {kk pp ee f : Nat → Int32} {A : Nat → Nat} {nq ni : Int32} {rt : Value}
theorem sv_new (kk : Nat → Int32) (T i : Nat) : svR ((aSm kk T (i + 1)).on fun s i1 => .inr (tN 7 i 0 0 s s0 tZ tZ, i1)) = 0 := by
  cases aSm kk T (i + 1) <;> rfl
theorem sv_cons (kk : Nat → Int32) (T i : Nat) : svR ((aSm kk T (i + 1)).on fun s i1 => (aMs kk 1 i1).on fun _ i2 => .inr (tN 18 i i1 0 s s0 tZ tZ, i2)) = 0 := by
  cases aSm kk T (i + 1) with
  | inl k => rfl
  | inr p =>
    show svR ((aMs kk 1 p.2).on _) = 0
    cases aMs kk 1 p.2 <;> rfl
set_option maxRecDepth 20000 in
set_option maxHeartbeats 8000000 in
theorem c_exp1 {k dp : Nat} (hk : k + 1 + dp = 31) (hT : 2010 ≤ T) (hwl : ∀ j, j < cnt → wL pp ee j ≤ 10) (hm : 24 ≤ m) (HAs : cRc κ sz T len cnt kk pp ee f A nq ni rt 136 dp m 201 (aAt kk T (aE kk T k) (aSi kk T (k + 1)))) (HFn : cRc κ sz T len cnt kk pp ee f A nq ni rt 138 dp m 206 (aFn kk (aE kk T k))) (HIf : cRc κ sz T len cnt kk pp ee f A nq ni rt 139 dp m 207 (aIf kk T (aE kk T k) (aSi kk T (k + 1)))) (HLt : cRc κ sz T len cnt kk pp ee f A nq ni rt 140 dp m 212 (fun i => if aIs kk 219 (i + 1) = true then aRc kk (aE kk T k) i else (aMs kk 1 (i + 1)).on fun _ i1 => aLt kk (aE kk T k) (tN 1 i 0 0 s0 s0) i1)) (HMt : cRc κ sz T len cnt kk pp ee f A nq ni rt 141 dp m 214 (aMt kk (aE kk T k))) (HSe : cRc κ sz T len cnt kk pp ee f A nq ni rt 144 dp m 220 (aSe kk T (aE kk T k))) (HE : cEc κ sz T len cnt kk pp ee f A nq ni rt 135 (dp + 1) m (aE kk T k)) (HO : cOc κ sz T len cnt kk pp ee f A nq ni rt 142 dp m (aOp kk T (aE kk T k))) : cEc κ sz T len cnt kk pp ee f A nq ni rt 135 dp (m + 1) (aE kk T (k + 1)) := by
    intro σ D at' cd cn am bd nf ff s nm ν h ho hcd hq
    rw [oE_X7_expression]
    unfold ob_X7_expression
    obtain ⟨d1, v1, r1⟩ := c_node (κ := κ) (T := T) (n := m) (k := cK kk s) h (by omega)
    rw [oob_at h.2.1, obn_at, c_kind (n := m) h ho (by omega), oin_at, oob_at h.2.1, obn_at, d1, orn_at]
    have n1 : (onew σ (.inr (7, cNd (cK kk s) (pp at') (nI cd))) 21).1 σ.2.1 = some (.inr (7, cNd (cK kk s) (pp at') (nI cd))) := onew_eq _ _ _
    have z1 : (onew σ (.inr (7, cNd (cK kk s) (pp at') (nI cd))) 21).2 = (σ.2.1 + 1, σ.2.2.1 + 1, σ.2.2.2 + 21) := rfl
    generalize onew σ (.inr (7, cNd (cK kk s) (pp at') (nI cd))) 21 = σ1 at v1 r1 n1 z1 ⊢
    have z11 : σ1.2.1 = σ.2.1 + 1 := by rw [z1]
    rw [if_pos (show nI dp ≤ 30 from show nI dp ≤ nI 30 from nI_le (by omega) (by decide)), oob_at v1.2.1, obn_at, c_kind (n := m) v1 ho (by omega), oin_at]
    by_cases c40 : cK kk s = 40
    · obtain ⟨i, hs, hk⟩ := cK_c (c := 40) c40 (by decide) (by decide)
      subst hs
      have hat := (ho.at rfl).1
      subst hat
      have hlt := kk_lt h ho.2.2 hk (by decide) (by decide)
      have hq0 := hq _ rfl
      have n1' : σ1.1 σ.2.1 = some (.inr (7, cNd 40 (pp at') (nI cd))) := by rw [n1]; rw [show cK kk (.inr at') = kk at' from rfl, hk]; rfl
      have eE := aE_40 (T := T) (k := k) hk
      rw [if_pos c40, oob_at v1.2.1, obn_at]
      obtain ⟨σ', D', at2, am2, bd2, nf2, ff2, nm', e, fs, b1, b2, b3, b4, b5, b6, b7⟩ := c_par (m := m) (by omega) HE hcd h v1 r1 n1' z1 ho hlt hq0
      refine ⟨σ', D', at2, am2, bd2, nf2, ff2, nm', e, fs, b1, b2, by rw [aTo_ok, eE]; exact b3, b4, b5, by rw [aTo_ok, svA_ok, eE]; exact b6, fun i t j hi ht => ?_⟩
      injection hi with hi
      subst hi
      rw [eE] at ht
      exact b7 t j ht
    rw [if_neg c40]
    by_cases c201 : cK kk s = 201
    · obtain ⟨i, hs, hk⟩ := cK_c (c := 201) c201 (by decide) (by decide)
      subst hs
      have hat := (ho.at rfl).1
      subst hat
      have hlt := kk_lt h ho.2.2 hk (by decide) (by decide)
      have hq0 := hq _ rfl
      have n1' : σ1.1 σ.2.1 = some (.inr (7, cNd 201 (pp at') (nI cd))) := by rw [n1]; rw [show cK kk (.inr at') = kk at' from rfl, hk]; rfl
      have eE := aE_201 (T := T) (k := k) hk
      rw [if_pos c201, oob_at v1.2.1, obn_at]
      obtain ⟨σ', D', at2, am2, bd2, nf2, ff2, nm', e, fs, b1, b2, b3, b4, b5, b6, b7⟩ := c_viaR HAs h v1 r1 n1' z1 ho hlt hcd hq0
      refine ⟨σ', D', at2, am2, bd2, nf2, ff2, nm', e, fs, b1, b2, by rw [aTo_ok, eE]; exact b3, b4, b5, by rw [aTo_ok, svA_ok, eE]; exact b6, fun i t j hi ht => ?_⟩
      injection hi with hi
      subst hi
      rw [eE] at ht
      exact b7 t j ht
    rw [if_neg c201]
    by_cases c203 : cK kk s = 203
    · obtain ⟨i, hs, hk⟩ := cK_c (c := 203) c203 (by decide) (by decide)
      subst hs
      have hat := (ho.at rfl).1
      subst hat
      have hlt := kk_lt h ho.2.2 hk (by decide) (by decide)
      have hq0 := hq _ rfl
      have n1' : σ1.1 σ.2.1 = some (.inr (7, cNd 203 (pp at') (nI cd))) := by rw [n1]; rw [show cK kk (.inr at') = kk at' from rfl, hk]; rfl
      have eE := aE_203 (T := T) (k := k) hk
      rw [if_pos c203, oob_at v1.2.1, obn_at]
      obtain ⟨σ', D', at2, am2, bd2, nf2, ff2, nm', e, fs, b1, b2, b3, b4, b5, b6, b7⟩ := c_cons (m := m) (by omega) hT hwl h v1 r1 n1' z1 ho hlt hq0
      refine ⟨σ', D', at2, am2, bd2, nf2, ff2, nm', e, fs, b1, b2, by rw [aTo_ok, eE]; exact b3, b4, b5, by rw [aTo_ok, svA_ok, eE, sv_cons]; exact b6, fun i t j hi ht => ?_⟩
      injection hi with hi
      subst hi
      rw [eE] at ht
      exact b7 t j ht
    rw [if_neg c203]
    by_cases c205 : cK kk s = 205
    · obtain ⟨i, hs, hk⟩ := cK_c (c := 205) c205 (by decide) (by decide)
      subst hs
      have hat := (ho.at rfl).1
      subst hat
      have hlt := kk_lt h ho.2.2 hk (by decide) (by decide)
      have hq0 := hq _ rfl
      have n1' : σ1.1 σ.2.1 = some (.inr (7, cNd 205 (pp at') (nI cd))) := by rw [n1]; rw [show cK kk (.inr at') = kk at' from rfl, hk]; rfl
      have eE := aE_205 (T := T) (k := k) hk
      rw [if_pos c205, oob_at v1.2.1, obn_at]
      obtain ⟨σ', D', at2, am2, bd2, nf2, ff2, nm', e, fs, b1, b2, b3, b4, b5, b6, b7⟩ := c_cst (T := T) (kk := kk) (ff := ff) (g := 9) (m := m) (by omega) (Or.inr (Or.inl ⟨rfl, rfl⟩)) h v1 r1 n1' z1 ho hlt hq0
      have st : aTo (.inr at') (aE kk T (k + 1)) = .inr (at' + 1) := by rw [aTo_ok, eE]; rfl
      refine ⟨σ', D', at2, am2, bd2, nf2, ff2, nm', e, fs, b1, b2, by rw [st]; exact b3, b4, b5, by rw [st, svA_ok, eE]; exact b6, fun i t j hi ht => ?_⟩
      injection hi with hi
      subst hi
      rw [eE] at ht
      injection ht with ht
      injection ht with ht1 ht2
      subst ht1
      subst ht2
      exact b7
    rw [if_neg c205]
    by_cases c206 : cK kk s = 206
    · obtain ⟨i, hs, hk⟩ := cK_c (c := 206) c206 (by decide) (by decide)
      subst hs
      have hat := (ho.at rfl).1
      subst hat
      have hlt := kk_lt h ho.2.2 hk (by decide) (by decide)
      have hq0 := hq _ rfl
      have n1' : σ1.1 σ.2.1 = some (.inr (7, cNd 206 (pp at') (nI cd))) := by rw [n1]; rw [show cK kk (.inr at') = kk at' from rfl, hk]; rfl
      have eE := aE_206 (T := T) (k := k) hk
      rw [if_pos c206, oob_at v1.2.1, obn_at]
      obtain ⟨σ', D', at2, am2, bd2, nf2, ff2, nm', e, fs, b1, b2, b3, b4, b5, b6, b7⟩ := c_viaR HFn h v1 r1 n1' z1 ho hlt hcd hq0
      refine ⟨σ', D', at2, am2, bd2, nf2, ff2, nm', e, fs, b1, b2, by rw [aTo_ok, eE]; exact b3, b4, b5, by rw [aTo_ok, svA_ok, eE]; exact b6, fun i t j hi ht => ?_⟩
      injection hi with hi
      subst hi
      rw [eE] at ht
      exact b7 t j ht
    rw [if_neg c206]
    by_cases c207 : cK kk s = 207
    · obtain ⟨i, hs, hk⟩ := cK_c (c := 207) c207 (by decide) (by decide)
      subst hs
      have hat := (ho.at rfl).1
      subst hat
      have hlt := kk_lt h ho.2.2 hk (by decide) (by decide)
      have hq0 := hq _ rfl
      have n1' : σ1.1 σ.2.1 = some (.inr (7, cNd 207 (pp at') (nI cd))) := by rw [n1]; rw [show cK kk (.inr at') = kk at' from rfl, hk]; rfl
      have eE := aE_207 (T := T) (k := k) hk
      rw [if_pos c207, oob_at v1.2.1, obn_at]
      obtain ⟨σ', D', at2, am2, bd2, nf2, ff2, nm', e, fs, b1, b2, b3, b4, b5, b6, b7⟩ := c_viaR HIf h v1 r1 n1' z1 ho hlt hcd hq0
      refine ⟨σ', D', at2, am2, bd2, nf2, ff2, nm', e, fs, b1, b2, by rw [aTo_ok, eE]; exact b3, b4, b5, by rw [aTo_ok, svA_ok, eE]; exact b6, fun i t j hi ht => ?_⟩
      injection hi with hi
      subst hi
      rw [eE] at ht
      exact b7 t j ht
    rw [if_neg c207]
    by_cases c212 : cK kk s = 212
    · obtain ⟨i, hs, hk⟩ := cK_c (c := 212) c212 (by decide) (by decide)
      subst hs
      have hat := (ho.at rfl).1
      subst hat
      have hlt := kk_lt h ho.2.2 hk (by decide) (by decide)
      have hq0 := hq _ rfl
      have n1' : σ1.1 σ.2.1 = some (.inr (7, cNd 212 (pp at') (nI cd))) := by rw [n1]; rw [show cK kk (.inr at') = kk at' from rfl, hk]; rfl
      have eE := aE_212 (T := T) (k := k) hk
      rw [if_pos c212, oob_at v1.2.1, obn_at]
      obtain ⟨σ', D', at2, am2, bd2, nf2, ff2, nm', e, fs, b1, b2, b3, b4, b5, b6, b7⟩ := c_viaR HLt h v1 r1 n1' z1 ho hlt hcd hq0
      refine ⟨σ', D', at2, am2, bd2, nf2, ff2, nm', e, fs, b1, b2, by rw [aTo_ok, eE]; exact b3, b4, b5, by rw [aTo_ok, svA_ok, eE]; exact b6, fun i t j hi ht => ?_⟩
      injection hi with hi
      subst hi
      rw [eE] at ht
      exact b7 t j ht
    rw [if_neg c212]
    by_cases c214 : cK kk s = 214
    · obtain ⟨i, hs, hk⟩ := cK_c (c := 214) c214 (by decide) (by decide)
      subst hs
      have hat := (ho.at rfl).1
      subst hat
      have hlt := kk_lt h ho.2.2 hk (by decide) (by decide)
      have hq0 := hq _ rfl
      have n1' : σ1.1 σ.2.1 = some (.inr (7, cNd 214 (pp at') (nI cd))) := by rw [n1]; rw [show cK kk (.inr at') = kk at' from rfl, hk]; rfl
      have eE := aE_214 (T := T) (k := k) hk
      rw [if_pos c214, oob_at v1.2.1, obn_at]
      obtain ⟨σ', D', at2, am2, bd2, nf2, ff2, nm', e, fs, b1, b2, b3, b4, b5, b6, b7⟩ := c_viaR HMt h v1 r1 n1' z1 ho hlt hcd hq0
      refine ⟨σ', D', at2, am2, bd2, nf2, ff2, nm', e, fs, b1, b2, by rw [aTo_ok, eE]; exact b3, b4, b5, by rw [aTo_ok, svA_ok, eE]; exact b6, fun i t j hi ht => ?_⟩
      injection hi with hi
      subst hi
      rw [eE] at ht
      exact b7 t j ht
    rw [if_neg c214]
    by_cases c215 : cK kk s = 215
    · obtain ⟨i, hs, hk⟩ := cK_c (c := 215) c215 (by decide) (by decide)
      subst hs
      have hat := (ho.at rfl).1
      subst hat
      have hlt := kk_lt h ho.2.2 hk (by decide) (by decide)
      have hq0 := hq _ rfl
      have n1' : σ1.1 σ.2.1 = some (.inr (7, cNd 215 (pp at') (nI cd))) := by rw [n1]; rw [show cK kk (.inr at') = kk at' from rfl, hk]; rfl
      have eE := aE_215 (T := T) (k := k) hk
      rw [if_pos c215, oob_at v1.2.1, obn_at]
      obtain ⟨σ', D', at2, am2, bd2, nf2, ff2, nm', e, fs, b1, b2, b3, b4, b5, b6, b7⟩ := c_new (m := m) (by omega) hT hwl h v1 r1 n1' z1 ho hlt hq0
      refine ⟨σ', D', at2, am2, bd2, nf2, ff2, nm', e, fs, b1, b2, by rw [aTo_ok, eE]; exact b3, b4, b5, by rw [aTo_ok, svA_ok, eE, sv_new]; exact b6, fun i t j hi ht => ?_⟩
      injection hi with hi
      subst hi
      rw [eE] at ht
      exact b7 t j ht
    rw [if_neg c215]
    by_cases c216 : cK kk s = 216
    · obtain ⟨i, hs, hk⟩ := cK_c (c := 216) c216 (by decide) (by decide)
      subst hs
      have hat := (ho.at rfl).1
      subst hat
      have hlt := kk_lt h ho.2.2 hk (by decide) (by decide)
      have hq0 := hq _ rfl
      have n1' : σ1.1 σ.2.1 = some (.inr (7, cNd 216 (pp at') (nI cd))) := by rw [n1]; rw [show cK kk (.inr at') = kk at' from rfl, hk]; rfl
      have eE := aE_216 (T := T) (k := k) hk
      rw [if_pos c216, oob_at v1.2.1, obn_at]
      obtain ⟨σ', D', at2, am2, bd2, nf2, ff2, nm', e, fs, b1, b2, b3, b4, b5, b6, b7⟩ := c_cst (T := T) (kk := kk) (ff := ff) (g := 17) (m := m) (by omega) (Or.inr (Or.inr ⟨rfl, rfl⟩)) h v1 r1 n1' z1 ho hlt hq0
      have st : aTo (.inr at') (aE kk T (k + 1)) = .inr (at' + 1) := by rw [aTo_ok, eE]; rfl
      refine ⟨σ', D', at2, am2, bd2, nf2, ff2, nm', e, fs, b1, b2, by rw [st]; exact b3, b4, b5, by rw [st, svA_ok, eE]; exact b6, fun i t j hi ht => ?_⟩
      injection hi with hi
      subst hi
      rw [eE] at ht
      injection ht with ht
      injection ht with ht1 ht2
      subst ht1
      subst ht2
      exact b7
    rw [if_neg c216]
    by_cases c220 : cK kk s = 220
    · obtain ⟨i, hs, hk⟩ := cK_c (c := 220) c220 (by decide) (by decide)
      subst hs
      have hat := (ho.at rfl).1
      subst hat
      have hlt := kk_lt h ho.2.2 hk (by decide) (by decide)
      have hq0 := hq _ rfl
      have n1' : σ1.1 σ.2.1 = some (.inr (7, cNd 220 (pp at') (nI cd))) := by rw [n1]; rw [show cK kk (.inr at') = kk at' from rfl, hk]; rfl
      have eE := aE_220 (T := T) (k := k) hk
      rw [if_pos c220, oob_at v1.2.1, obn_at]
      obtain ⟨σ', D', at2, am2, bd2, nf2, ff2, nm', e, fs, b1, b2, b3, b4, b5, b6, b7⟩ := c_viaR HSe h v1 r1 n1' z1 ho hlt hcd hq0
      refine ⟨σ', D', at2, am2, bd2, nf2, ff2, nm', e, fs, b1, b2, by rw [aTo_ok, eE]; exact b3, b4, b5, by rw [aTo_ok, svA_ok, eE]; exact b6, fun i t j hi ht => ?_⟩
      injection hi with hi
      subst hi
      rw [eE] at ht
      exact b7 t j ht
    rw [if_neg c220]
    by_cases c223 : cK kk s = 223
    · obtain ⟨i, hs, hk⟩ := cK_c (c := 223) c223 (by decide) (by decide)
      subst hs
      have hat := (ho.at rfl).1
      subst hat
      have hlt := kk_lt h ho.2.2 hk (by decide) (by decide)
      have hq0 := hq _ rfl
      have n1' : σ1.1 σ.2.1 = some (.inr (7, cNd 223 (pp at') (nI cd))) := by rw [n1]; rw [show cK kk (.inr at') = kk at' from rfl, hk]; rfl
      have eE := aE_223 (T := T) (k := k) hk
      rw [if_pos c223, oob_at v1.2.1, obn_at]
      obtain ⟨σ', D', at2, am2, bd2, nf2, ff2, nm', e, fs, b1, b2, b3, b4, b5, b6, b7⟩ := c_cst (T := T) (kk := kk) (ff := ff) (g := 8) (m := m) (by omega) (Or.inl ⟨rfl, rfl⟩) h v1 r1 n1' z1 ho hlt hq0
      have st : aTo (.inr at') (aE kk T (k + 1)) = .inr (at' + 1) := by rw [aTo_ok, eE]; rfl
      refine ⟨σ', D', at2, am2, bd2, nf2, ff2, nm', e, fs, b1, b2, by rw [st]; exact b3, b4, b5, by rw [st, svA_ok, eE]; exact b6, fun i t j hi ht => ?_⟩
      injection hi with hi
      subst hi
      rw [eE] at ht
      injection ht with ht
      injection ht with ht1 ht2
      subst ht1
      subst ht2
      exact b7
    rw [if_neg c223]
    rw [oob_at v1.2.1, obn_at]
    obtain ⟨σ', D', at2, am2, bd2, nf2, ff2, nm', e, fs, b1, b2, b3, b4, ⟨b5, b5b, b5c⟩, b6, b7⟩ := HO σ1 D at' cd cn am bd nf ff s nm ν v1 ho hcd (fun i hi => (hq i hi).kf h r1)
    have eE : ∀ i, s = .inr i → aE kk T (k + 1) i = aOp kk T (aE kk T k) i := fun i hi => aE_no (fun z => c212 (by rw [hi]; exact z)) (fun z => c206 (by rw [hi]; exact z)) (fun z => c207 (by rw [hi]; exact z)) (fun z => c201 (by rw [hi]; exact z)) (fun z => c220 (by rw [hi]; exact z)) (fun z => c215 (by rw [hi]; exact z)) (fun z => c216 (by rw [hi]; exact z)) (fun z => c203 (by rw [hi]; exact z)) (fun z => c214 (by rw [hi]; exact z)) (fun z => c223 (by rw [hi]; exact z)) (fun z => c205 (by rw [hi]; exact z)) (fun z => c40 (by rw [hi]; exact z))
    have st : aTo s (aE kk T (k + 1)) = aTo s (aOp kk T (aE kk T k)) := by
      cases s with
      | inl j => rfl
      | inr i => rw [aTo_ok, aTo_ok, eE i rfl]
    rw [b1, orn_at]
    refine ⟨σ', D', at2, am2, bd2, nf2, ff2, nm', e, fs, rfl, b2, by rw [st]; exact b3, r1.tr b4, ⟨by omega, b5b, b5c⟩, ?_, fun i t j hi ht => ?_⟩
    · have sa : svA s (aE kk T (k + 1)) = svA s (aOp kk T (aE kk T k)) := by
        cases s with
        | inl j => rfl
        | inr i => rw [svA_ok, svA_ok, eE i rfl]
      rw [st, sa]
      unfold cEx at b6 ⊢
      have w1 : σ1.2.2.1 = σ.2.2.1 + 1 := by rw [z1]
      have w2 : σ1.2.2.2 = σ.2.2.2 + 21 := by rw [z1]
      omega
    · rw [eE i hi] at ht
      obtain ⟨t1, t2, t3, t4, t5, t6⟩ := b7 i t j hi ht
      exact ⟨t1.lw b2.low (by omega), t2, t3, t4, t5, t6⟩
/-- an E that is too deep -/
theorem c_exp0 (hm : 3 ≤ m) : cEc κ sz T len cnt kk pp ee f A nq ni rt 135 31 (m + 1) (aE kk T 0) := by
  intro σ D at' cd cn am bd nf ff s nm ν h ho hcd hq
  rw [oE_X7_expression]
  unfold ob_X7_expression
  obtain ⟨d1, v1, r1⟩ := c_node (κ := κ) (T := T) (n := m) (k := cK kk s) h (by omega)
  rw [oob_at h.2.1, obn_at, c_kind (n := m) h ho (by omega), oin_at, oob_at h.2.1, obn_at, d1, orn_at]
  have n1 : (onew σ (.inr (7, cNd (cK kk s) (pp at') (nI cd))) 21).1 σ.2.1 = some (.inr (7, cNd (cK kk s) (pp at') (nI cd))) := onew_eq _ _ _
  have z1 : (onew σ (.inr (7, cNd (cK kk s) (pp at') (nI cd))) 21).2 = (σ.2.1 + 1, σ.2.2.1 + 1, σ.2.2.2 + 21) := rfl
  generalize onew σ (.inr (7, cNd (cK kk s) (pp at') (nI cd))) 21 = σ1 at v1 r1 n1 z1 ⊢
  obtain ⟨σ2, bd2, f1, v2, o2, r2, z2, k2⟩ := c_fail (κ := κ) (T := T) (n := m) v1 ho (by omega)
  rw [if_neg (show ¬ nI 31 ≤ 30 by decide), oob_at v1.2.1, obn_at, f1, ocv_at]
  have n2 := v1.kd r2 n1 (by omega)
  have st : aTo s (aE kk T 0) = .inl (aWr s) := by
    cases s with
    | inl j => rfl
    | inr i => rfl
  refine ⟨σ2, D, at', am, bd2, nf, ff, nm, σ.2.1, _, rfl, v2, by rw [st]; exact Or.inl o2, r1.tr r2, ⟨Nat.le_refl _, n2, rfl⟩, ?_, fun i t j hi ht => ?_⟩
  · have S : svA s (aE kk T 0) = 0 := svA_0 (fun i t j hi ht => by unfold aE at ht; cases ht)
    rw [st]
    unfold cEx
    have w1 : σ2.2.2.1 = σ.2.2.1 + 1 := by rw [z2, z1]
    have w2 : σ2.2.2.2 = σ.2.2.2 + 21 := by rw [z2, z1]
    have w3 := fl_le s
    rw [show fl (.inl (aWr s)) = 1 from rfl]
    omega
  · unfold aE at ht; cases ht
/-- **expression(depth)** -/
theorem c_expr (hT : 2010 ≤ T) (hwl : ∀ j, j < cnt → wL pp ee j ≤ 10) : ∀ (k dp m : Nat), k + dp = 31 → 40 + 5 * k ≤ m → cEc κ sz T len cnt kk pp ee f A nq ni rt 135 dp m (aE kk T k)
  | 0, dp, m, h1, h2 => by
    obtain ⟨m', rfl⟩ : ∃ m', m = m' + 1 := ⟨m - 1, by omega⟩
    have : dp = 31 := by omega
    subst this
    exact c_exp0 (by omega)
  | k + 1, dp, m, h1, h2 => by
    obtain ⟨m', rfl⟩ : ∃ m', m = m' + 5 := ⟨m - 5, by omega⟩
    have IH : ∀ m2, 40 + 5 * k ≤ m2 → cEc κ sz T len cnt kk pp ee f A nq ni rt 135 (dp + 1) m2 (aE kk T k) := fun m2 hm2 => c_expr hT hwl k (dp + 1) m2 (by omega) hm2
    have HC : ∀ D cd cn nm, cCc κ sz T len cnt kk pp ee f A nq ni rt D cd cn nm 127 dp (m' + 2) (aEi kk T (aSi kk T (k + 1))) 22 190 := fun D cd cn nm => c_cnd hT hwl h1 (by omega)
    have HA : cAc κ sz T len cnt kk pp ee f A nq ni rt dp (m' + 2) (aE kk T k) := c_arg (m := m' + 1) (by omega) hT hwl (IH _ (by omega)) aE_f3
    refine c_exp1 (m := m' + 4) h1 hT hwl (by omega) ?_ ?_ ?_ ?_ ?_ ?_ ?_ ?_
    · exact c_assert (m := m' + 2) (by omega) HC (IH _ (by omega))
    · exact c_fun (m := m' + 2) (by omega) (by omega) hT hwl (IH _ (by omega))
    · exact c_if (m := m' + 2) (by omega) HC (IH _ (by omega))
    · exact c_let (m := m' + 3) (by omega) (by omega) hT hwl (c_rec (m := m' + 1) (by omega) (by omega) hT hwl (IH _ (by omega))) (IH _ (by omega))
    · exact c_match (m := m' + 2) (by omega) (by omega) hT hwl (IH _ (by omega))
    · exact c_set (m := m' + 3) (by omega) hT hwl (IH _ (by omega))
    · exact IH _ (by omega)
    · exact c_open (m := m' + 2) (by omega) hT hwl HA
end CRL
