/-! the class's gather(): fitBody()'s loop -/
/-- a list of the PROGRAM, over what is made -/
theorem toNx {κ : oKv} {st : Nat} {l : Nat → Nat} {b0 : Nat} {W : Nat → Prop} {σ σ' : oSt} {x d cap len : Nat} {mc : Int32} {gl : Nat → Option Nat} (hs : ∃ f, σ.1 st = some (.inl (.object "LiquidTongue$Name", 73, f))) (h : cLs κ σ x d cap len mc gl 6) (s : shX st σ σ') (k : gKp st l b0 W σ σ') (hl : 0 < len) : cLs κ σ' x d cap len mc gl 6 := by
  obtain ⟨c1, c2, c3⟩ := h
  refine ⟨s.1 _ _ _ c1 (by decide) (by decide), Or.inr ?_, fun j hj => ?_⟩
  · rcases c2 with ⟨z, -⟩ | ⟨z, z2⟩
    · omega
    · refine ⟨s.2.1 _ _ z (by show FieldType.object "java/lang/Object" ≠ _; decide) (fun q => ?_), z2⟩
      obtain ⟨f, e⟩ := hs
      rw [q, e] at z
      injection z with z
      injection z with z
      injection z with z _
      exact absurd z (by decide)
  · obtain ⟨b, fs, z1, z2⟩ := c3 j hj
    obtain ⟨fs', z3⟩ := k.n6 z2
    exact ⟨b, fs', z1, z3⟩
section GFB
variable {κ : oKv} {T n : Nat} {st : Nat} {l : Nat → Nat} {b0 : Nat} {nq : tQ → Int} {xs : List tQ} {pg ch ty : Nat} {cf : List Value} {At : Nat → Nat} {mo : Nat} {g : gG} {ρ : Nat → tY} {lv ov : Int32} {CN : Nat → gCd → Prop} {NR : Nat → (Nat × Nat × tT × List tP × List Nat × Nat) → Prop} {pp : Nat → Int32} {V : oSt} {lo g0 : Nat} {nm : Nat → Option Nat} {tN : Nat → tY} {φ : Nat → Nat} {Us : List Nat} {i cnt : Nat} {tl : List Nat} {Ψ : kGh} {Ls : List Nat} {ln : Nat → Nat} {ct : Nat → Nat → Option Nat} {cs : Nat} {r : tY} {e pa d cap : Nat} {mc : Int32} {gl : Nat → Option Nat}
set_option maxHeartbeats 1000000 in
/-- **fitBody()'s loop**: parameters come into scope -/
theorem c_fbL (hT : 9010 ≤ T) (hpp : ∀ u v, u < v → v < cnt → pp u < pp v) (hi : i ≤ cnt) (htl : ∀ u, u ∈ tl → u ∈ Us) : ∀ (q idx w t : Nat) (A : gTy) (m : gTm) (k : Nat) (env : List Nat) (sc : List gEn) (Sc : List sEn) (os : Option Nat) (Es : List (gN × Nat)) (s : gSt) (σ : oSt) (ge : List Value), A.1 = .inr m → A.2 = [] → m.2.2.2.1 = List.range' w q → m.2.2.1 = gFn tN q w r → (∀ x, x ∈ m.2.2.2.2 → (x, Ψ.1 x) ∈ Es) → kRl st l b0 nq xs Ψ σ (fun y b => (y, b) ∈ Es) k A → toK Ψ σ m.2.2.1 m → gwS κ st l b0 nq xs pg ch ty cf At mo g ρ lv ov CN NR pp V lo g0 nm tN φ Us i tl Ψ Ls σ ln ct cs s → gwE st l b0 nq xs Ψ σ CN (dnO g0 φ tl) nm tN lo Ls env sc Sc os Es s.1 → (∀ x, x ∈ List.range' w q → x ∈ tl ∧ x ∉ env) → (∀ u, u ∈ env → u ∈ Us) → σ.1 e = some (.inr (7, ge)) → ge[11]? = some (.ref pa) → cLs κ σ pa d cap (idx + q) mc gl 6 → 0 < idx + q → idx + q ≤ 2000 → (∀ j, j < q → gl (idx + j) = some (φ (w + j))) → q < t → ∃ σ' k' Sc' os' Es', ol_X0_fitBody_9 T (oF κ T (n + 3)) κ t (some ch) (some e) os (some k) (nI idx) σ = ol_X0_fitBody_9 T (oF κ T (n + 3)) κ (t - q) (some ch) (some e) os' (some k') (nI (idx + q)) σ' ∧ kRl st l b0 nq xs Ψ σ' (fun y b => (y, b) ∈ Es') k' (gPa q w A sc s).2.1 ∧ gwS κ st l b0 nq xs pg ch ty cf At mo g ρ lv ov CN NR pp V lo g0 nm tN φ Us i tl Ψ Ls σ' ln ct cs (gPa q w A sc s).2.2 ∧ gwE st l b0 nq xs Ψ σ' CN (dnO g0 φ tl) nm tN lo Ls (env ++ List.range' w q) (gPa q w A sc s).1 Sc' os' Es' (gPa q w A sc s).2.2.1 ∧ (gKp st l b0 (fun _ => False) σ σ' ∧ shX st σ σ') ∧ (Sc'.length = Sc.length + q ∧ cLs κ σ' pa d cap (idx + q) mc gl 6) ∧ gwC xs.length Ls Ls cs cs σ σ' (4 * q) (19 * q) := by
  intro q
  induction q with
  | zero =>
    intro idx w t A m k env sc Sc os Es s σ ge hA hA2 hns hy hS kA hK h hE hw hen he h11 hc h0 h20 hg ht
    refine ⟨σ, k, Sc, os, Es, rfl, kA, h, ?_, ⟨gKp.rf, shX.rf⟩, ⟨rfl, hc⟩, Nat.le_refl _, by omega, by omega⟩
    rw [show List.range' w 0 = [] from rfl, List.append_nil]
    exact hE
  | succ q ih =>
    intro idx w t A m k env sc Sc os Es s σ ge hA hA2 hns hy hS kA hK h hE hw hen he h11 hc h0 h20 hg ht
    obtain ⟨t, rfl⟩ : ∃ t', t = t' + 1 := ⟨t - 1, by omega⟩
    have hy : m.2.2.1 = .inner 0 () () (tN w) (gFn tN q (w + 1) r) := hy
    have hns : m.2.2.2.1 = w :: List.range' (w + 1) q := hns
    have hfr := h.2.1.1.1
    have hφ := h.2.2.2.2.2.2.1
    obtain ⟨N1, N2⟩ := h.2.2.2.2.2.1
    have wm : w ∈ List.range' w (q + 1) := by rw [List.range'_succ]; exact List.mem_cons_self ..
    obtain ⟨wtl, wen⟩ := hw w wm
    have wU := htl w wtl
    obtain ⟨a1, ⟨a2, a2'⟩, a3, fs, c, f0, f2, cn, ρc, f3⟩ := N1 w wU
    have yw : yW (tN w) := by
      have := h.2.1.2.2.2.2.2.2.w _ c (Nat.le_refl _) cn
      rw [ρc] at this
      exact this
    rw [hy] at hK
    obtain ⟨hK1, hK2⟩ := hK rfl
    obtain ⟨fs', f0', f4⟩ := hK1 w (by rw [hns]; rfl)
    rw [hφ w, f0] at f0'
    injection f0' with f0'
    injection f0' with f0'
    injection f0' with _ f0'
    subst f0'
    have f8 : fs.length = 8 := (h.2.1.2.1.1 _ _ (h.2.1.2.2.2.2.2.1.2 _ a3).1 f0).1
    have kT := kRl.tkp hA hy (fun x hx => ⟨by rw [hA2]; rfl, hS x hx⟩) kA
    have gTA : gSy (gTk A) = tN w := by
      unfold gTk gSy
      rw [hA]
      show yL m.2.2.1 = _
      rw [hy]; rfl
    have E1 := hE.tel (w := w) (A := gTk A) (k := Ψ.2.1 (m.1, m.2.1 ++ [false])) (fs := fs) h.2.1.1 wen yw gTA (Or.inr ⟨w, wtl, hφ w⟩) (by rw [hφ w]; exact a3) (by rw [hφ w]; exact ⟨a1, a2⟩) (fun u hu z => by
      rw [hφ u, hφ w] at z
      have := N2 u w (hen u hu) wU z
      subst this
      exact wen hu) (by rw [hφ w]; exact f0) f8 f3 f4 kT
    rw [hφ w] at E1
    have o1 : oNl σ (onew σ (.inr (10, [.ref (φ w), va_rf none, .int 0, va_rf os])) 4) 1 4 := oNl.new hfr
    obtain ⟨G1, ⟨k1, s1⟩, c1⟩ := h.nw o1 (o10_n6 hfr) hpp hi
    have he1 := s1.1 _ _ _ he (by decide) (by decide)
    have hc0 : cLs κ (onew σ (.inr (10, odef 10)) (oq 10).2.2) pa d cap (idx + (q + 1)) mc gl 6 := hc.on h0 hfr
    have hc1 : cLs κ (onew σ (.inr (10, [.ref (φ w), va_rf none, .int 0, va_rf os])) 4) pa d cap (idx + (q + 1)) mc gl 6 := hc.on h0 hfr
    have sub : ∀ (y : gN) (b : Nat), (y, b) ∈ Es → (y, b) ∈ (if gMs (tN w) = true then (.inl w, φ w) :: Es else Es) := fun y b z => by
      split
      · exact List.mem_cons_of_mem _ z
      · exact z
    have kA1 := (kA.sp k1 (gAg.rf _ _) hfr).mo (E' := fun y b => (y, b) ∈ (if gMs (tN w) = true then (.inl w, φ w) :: Es else Es)) sub
    have eP : mPn m = .inl w := by unfold mPn; rw [hns]
    have st1 := c_an0 (κ := κ) (T := T) (n := n + 1) hA hy kA1 (fun z => ⟨by rw [eP, hφ w, if_pos z]; exact List.mem_cons_self .., by rw [hA2]; rfl⟩) G1.2.1.1
    obtain ⟨σ2, k2, R2, K2, G2, ⟨kp2, sh2⟩, c2⟩ := G1.stp st1 hpp hi
    have ne : ∀ {x cc}, σ.1 x = some cc → x ≠ σ.2.1 := fun e z => by rw [z, hfr _ (Nat.le_refl _)] at e; cases e
    have gw : gl idx = some (φ w) := hg 0 (by omega)
    have oc : ocs (onew σ (.inr (10, odef 10)) (oq 10).2.2) (some (φ w)) 6 = true := by
      simp only [ocs, onew_ne (ne f0), f0]; rfl
    have lg : oF κ T (n + 3) 234 [va_rf (some pa), .int (nI idx)] (onew σ (.inr (10, odef 10)) (oq 10).2.2) = some (some (va_rf (some (φ w))), onew σ (.inr (10, odef 10)) (oq 10).2.2) := by
      rw [l_get (hc0.o (by omega)) (by omega), gw]
    have e0 : ofd (onew σ (.inr (10, odef 10)) (oq 10).2.2) (some e) 7 11 = some (.ref pa) := (ofd_at ((onew_ne (ne he)).trans he)).trans h11
    have ok1 : oob (onew σ (.inr (10, [.ref (φ w), va_rf none, .int 0, va_rf os])) 4) (some k) 4 = some k := by
      obtain ⟨w1, GG, q1⟩ := kA1.kd
      obtain ⟨f1, g1, i1, q2, -⟩ := q1.f
      exact oob_at q2
    have eA1 : (gAn A).1 = .inr (mAn m) ∧ (gAn A).2 = [] := by unfold gAn; rw [hA]; exact ⟨rfl, hA2⟩
    have eYR : (mAn m).2.2.1 = gFn tN q (w + 1) r := by show yR m.2.2.1 = _; rw [hy]; rfl
    have eNS : (mAn m).2.2.2.1 = List.range' (w + 1) q := by show m.2.2.2.1.tail = _; rw [hns]; rfl
    have E2 := E1.sp (Dn' := dnO g0 φ tl) (Ls' := Ls) (q' := (gTn w (gTk A) s).1) kp2 (gAg.rf _ _) G1.2.1.1.1 (fun _ _ z => z) (fun _ z => z) (fun _ z => z) (fun _ _ => rfl)
    have G3 := G2.tt (u := w) (A := gTk A) wtl wU (by
      have := E2.t0 hφ (List.mem_append_right env (List.mem_singleton.mpr rfl) : w ∈ env ++ [w])
      rw [show (gTn w (gTk A) s).1 w = gTk A from if_pos rfl] at this
      exact this)
    obtain ⟨σ', k', Sc', os', Es', r1, r2, r3, r4, ⟨r5, r6⟩, ⟨r7, r7'⟩, r8⟩ := ih (idx + 1) (w + 1) t (gAn A) (mAn m) k2 (env ++ [w]) (gNm (.inl w) (gTk A) sc) (.inl (φ w) :: Sc) (some σ.2.1) (if gMs (tN w) = true then (.inl w, φ w) :: Es else Es) (gTn w (gTk A) s) σ2 ge eA1.1 eA1.2 eNS eYR (fun x hx => by
      have hx : x ∈ (if gMs (yL m.2.2.1) = true then m.2.2.2.2 ++ [mPn m] else m.2.2.2.2) := hx
      rw [hy] at hx
      have hx : x ∈ (if gMs (tN w) = true then m.2.2.2.2 ++ [mPn m] else m.2.2.2.2) := hx
      split at hx
      · rename_i z
        rw [if_pos z]
        rcases List.mem_append.mp hx with z | z
        · exact List.mem_cons_of_mem _ (hS x z)
        · rw [List.mem_singleton.mp z, eP, hφ w]; exact List.mem_cons_self ..
      · rename_i z
        rw [if_neg z]
        exact hS x hx) K2 (by
      rw [eYR]
      exact toK.sp (k1.tr kp2) _ (mAn m) (fun _ _ z => z) (agB.rf Ψ _) hK2) G3 E2 (fun x hx => by
      have hx' := hw x (by rw [List.range'_succ]; exact List.mem_cons_of_mem _ hx)
      refine ⟨hx'.1, fun z => ?_⟩
      rcases List.mem_append.mp z with z | z
      · exact hx'.2 z
      · rw [List.mem_singleton.mp z] at hx
        have := (List.mem_range'_1.mp hx).1
        omega) (fun u hu => by
      rcases List.mem_append.mp hu with z | z
      · exact hen u z
      · rw [List.mem_singleton.mp z]; exact wU) (sh2.1 _ _ _ he1 (by decide) (by decide)) h11 (by
      have := toNx (hs := ⟨_, G1.2.1.2.2.2.2.1.choose_spec⟩) hc1 sh2 kp2 (by omega)
      rw [show idx + 1 + q = idx + (q + 1) by omega]
      exact this) (by omega) (by omega) (fun j hj => by
      have := hg (j + 1) (by omega)
      rw [show idx + 1 + j = idx + (j + 1) by omega, show w + 1 + j = w + (j + 1) by omega]
      exact this) (by omega)
    refine ⟨σ', k', Sc', os', Es', ?_, r2, r3, ?_, ⟨(k1.tr kp2).tr r5, (s1.tr sh2).tr r6⟩, ⟨by rw [r7]; show Sc.length + 1 + q = _; omega, by rw [show idx + (q + 1) = idx + 1 + q by omega]; exact r7'⟩, ?_⟩
    · have nle : ¬ nI (idx + (q + 1)) ≤ nI idx := fun z => absurd z (Int32.not_le.mpr (nI_lt (a := idx) (b := idx + (q + 1)) (by omega) (by omega)))
      rw [ol_X0_fitBody_9, ofd_at he, h11, ovr_rf, obn_at, oob_at hc.1, obn_at, l_sz hc, oin_at, if_neg nle, olet_at, e0, ovr_rf, obn_at, oob_at hc0.1, obn_at, lg, orn_at, ogd_at oc, obn_at, c_sc2 (n := n + 2), ocv_at, ok1, obn_at]
      have R2 : oF κ T (n + 3) 4 [va_rf (some k), va_rf none] (onew σ (.inr (10, [.ref (φ w), va_rf none, .int 0, va_rf os])) 4) = some (some (va_rf (some k2)), σ2) := R2
      rw [R2, orn_at, nI_1, r1, show t + 1 - (q + 1) = t - q by omega, show idx + 1 + q = idx + (q + 1) by omega]
    · rw [List.range'_succ, ← List.append_cons] at *
      exact r4
    · obtain ⟨x1, x2, x3⟩ := (c1.tr c2).tr r8
      have c15 := t15_le (m.2.1.count true)
      exact ⟨x1, by omega, by omega⟩
end GFB
