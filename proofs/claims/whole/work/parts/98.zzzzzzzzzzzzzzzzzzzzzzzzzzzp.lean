/-! the state in which gather() begins -/
/-- nothing is made yet -/
def gw0P (φ : Nat → Nat) : kGh := (fun n => match n with | .inl u => φ u | .inr _ => 0, fun _ => 0, fun _ => False, fun _ => False)
section GW0
variable {κ : oKv} {T sz len cnt : Nat} {kk pp ee f fc : Nat → Int32} {xs : List tQ} {is : List (Nat × Nat)} {e : tT} {α : Nat → tY} {lo p : Nat} {B : Nat → Nat} {V : oSt} {D : cDt} {at2 cd' : Nat} {am2 : Int32} {nm : Nat → Option Nat} {e0 : Nat} {fb fr fz fn : Nat → Int32} {g : gG} {ρ : Nat → tY} {lv : Int32} {σ σ1 : oSt} {x j : Nat} {q0 : Nat → gTy} {CN : Nat → gCd → Prop} {NR : Nat → (Nat × Nat × tT × List tP × List Nat × Nat) → Prop} {nq : tQ → Int}
set_option maxHeartbeats 1000000 in
/-- **the state in which gather() begins** -/
theorem gw_0 (hq0 : ∀ u, q0 u = gNtd) (hS : pgS κ T lo cnt kk pp ee f fc is e α B p V D nm e0 g ρ lv σ) (hV : pgV κ T sz len cnt kk pp ee fc xs is e B p V D at2 cd' am2 nm e0 fb fr fz fn) (hB : ∃ w r v ka pa ea, B = pA w r v ka pa ea p) (hsz : sz ≤ lo) (n5 : n5I lo σ) (hR : oRm sz σ) (hκ : κ.2.2.1 < sz) (hVσ : V.2.1 ≤ σ.2.1) (hq : ∀ q, q ∈ xs → q.1 ≤ 2 ∧ q.2.1 ≤ 4 ∧ (zNu T fc pp ee q.2.2.2.2).toInt = nq q) (hx6 : xs.length ≤ 6) (hnd : (is.map Prod.fst ++ tW e).Nodup) (hx : ∃ fs, σ.1 x = some (.inr (14, fs))) (hxl : x < lo) (h1 : ∀ a, a < σ.2.1 → a ≠ x → σ1.1 a = σ.1 a) (hx1 : ∃ fs, σ1.1 x = some (.inr (14, fs))) (h2 : σ1.1 σ.2.1 = some (.inr (2, [.ref p, .ref V.2.1, .ref j, .ref (σ.2.1 + 1), .ref (σ.2.1 + 2), .ref (σ.2.1 + 3), .ref (σ.2.1 + 4), .ref (σ.2.1 + 5), .int 0, .int (-1)]))) (h3 : ∀ i, i < 4 → σ1.1 (σ.2.1 + 1 + i) = some (.inr (1, [.int 0, .ref κ.2.2.1, .int 0]))) (h4 : σ1.1 (σ.2.1 + 5) = some (.inl (.object "LiquidTongue$Name", 73, .inr (.inr (.inr (.inr (fun _ => none))))))) (h5 : ∀ q, σ1.2.1 ≤ q → σ1.1 q = none) (h6 : σ1.2.1 = σ.2.1 + 6) : gwS κ (σ.2.1 + 5) (fun i => σ.2.1 + 1 + i) lo nq xs p σ.2.1 V.2.1 [.ref p, .ref V.2.1, .ref j, .ref (σ.2.1 + 1), .ref (σ.2.1 + 2), .ref (σ.2.1 + 3), .ref (σ.2.1 + 4), .ref (σ.2.1 + 5), .int 0, .int (-1)] (fun i => V.2.1 + 1 + i) (4 * cnt + 8) g ρ lv (-1) CN NR pp V lo (σ.2.1 + 6) nm (fun u => (mEnd f pp ee is e).2.2.1 u α) (fun u => (nm u).getD 0) (is.map Prod.fst ++ tW e) 0 [] (gw0P (fun u => (nm u).getD 0)) ((is.map Prod.fst ++ tW e).map (fun u => (nm u).getD 0)) σ1 (fun _ => 0) (fun _ _ => none) 0 (q0, [], []) := by
  obtain ⟨w0, r0, v0, ka, pa, ea, rfl⟩ := hB
  obtain ⟨⟨l1, l2, l3, l4⟩, s2, s3, s4, s5, ⟨s6, s6'⟩, s7⟩ := hS
  obtain ⟨v1, v2, ⟨⟨⟨c1, c2, c3, c4⟩, -⟩, v3⟩, v4, v5, v6, v7, v8⟩ := hV
  have vcell := v1.2.1
  have vls := v1.1.2.2.2.1.1
  have hfr := hR.2.1
  have lt : ∀ {a : Nat} {c : oC}, σ.1 a = some c → a < σ.2.1 := fun {a c} e => Nat.lt_of_not_le (fun z => by rw [hfr a z] at e; cases e)
  have ne : ∀ {a : Nat} {c : oC}, σ.1 a = some c → (∀ fs, c ≠ .inr (14, fs)) → a ≠ x := fun {a c} e n z => by
    obtain ⟨fs, hx⟩ := hx
    rw [z, hx] at e
    injection e with e
    exact n fs e.symm
  have up : ∀ {a : Nat} {c : oC}, σ.1 a = some c → (∀ fs, c ≠ .inr (14, fs)) → σ1.1 a = some c := fun {a c} e n => by rw [h1 a (lt e) (ne e n)]; exact e
  have Vlt : ∀ {a : Nat} {c : oC}, V.1 a = some c → a < V.2.1 := fun {a c} e => Nat.lt_of_not_le (fun z => by rw [l4 a z] at e; cases e)
  -- cells beyond are new
  have six : ∀ (a : Nat) (fs : List Value), lo ≤ a → σ1.1 a = some (.inr (6, fs)) → σ.1 a = some (.inr (6, fs)) := fun a fs ha e => by
    by_cases c : a < σ.2.1
    · by_cases cx : a = x
      · obtain ⟨gs, hx1⟩ := hx1
        rw [cx, hx1] at e
        injection e with e; injection e with e; injection e with e _
        exact absurd e (by decide)
      · rw [h1 a c cx] at e; exact e
    · exfalso
      have : a = σ.2.1 ∨ a = σ.2.1 + 1 + 0 ∨ a = σ.2.1 + 1 + 1 ∨ a = σ.2.1 + 1 + 2 ∨ a = σ.2.1 + 1 + 3 ∨ a = σ.2.1 + 5 ∨ σ.2.1 + 6 ≤ a := by omega
      rcases this with z | z | z | z | z | z | z
      · rw [z, h2] at e; injection e with e; injection e with e; injection e with e _; exact absurd e (by decide)
      · rw [z, h3 0 (by decide)] at e; injection e with e; injection e with e; injection e with e _; exact absurd e (by decide)
      · rw [z, h3 1 (by decide)] at e; injection e with e; injection e with e; injection e with e _; exact absurd e (by decide)
      · rw [z, h3 2 (by decide)] at e; injection e with e; injection e with e; injection e with e _; exact absurd e (by decide)
      · rw [z, h3 3 (by decide)] at e; injection e with e; injection e with e; injection e with e _; exact absurd e (by decide)
      · rw [z, h4] at e; cases e
      · rw [h5 a (by omega)] at e; cases e
  have noT : ∀ y, ¬ tmS lo σ1 y := fun y ⟨a, fs, ha, e1, e2⟩ => by
    have := (n5 a fs ha (six a fs ha e1)).2
    rw [this] at e2; cases e2
  have ldd : ∀ y, ldS (fun i => σ.2.1 + 1 + i) σ1 y → y = κ.2.2.1 := fun y ⟨i, mc, n, hi, e1⟩ => by
    rw [h3 i hi] at e1
    injection e1 with e1; injection e1 with e1; injection e1 with _ e1
    injection e1 with _ e1; injection e1 with e1 _; injection e1 with e1
    exact e1.symm
  have kn : σ1.1 κ.2.2.1 = none := by
    have : κ.2.2.1 ≠ x := fun z => by
      obtain ⟨fs, hx⟩ := hx
      rw [← z, hR.1 _ hκ] at hx; cases hx
    rw [h1 _ (by have := hR.2.2; omega) this]
    exact hR.1 _ hκ
  have k6 : κ.2.2.1 < σ1.2.1 := by have := hR.2.2; omega
  have iv : gIv (σ.2.1 + 5) (fun i => σ.2.1 + 1 + i) lo (gw0P (fun u => (nm u).getD 0)).2.2.1 σ1 := ⟨h5, fun i hi => (by show σ.2.1 + 1 + i < σ1.2.1; omega), ⟨(by have := Vlt (show V.1 p = some _ from vcell); omega), by omega⟩, fun y hy => hy.elim, fun y hy => absurd hy (noT y), fun y hy => by rw [ldd y hy]; exact k6⟩
  have chs : ∃ v, σ1.1 σ.2.1 = some (.inr (2, ([.ref p, .ref V.2.1, .ref j, .ref (σ.2.1 + 1), .ref (σ.2.1 + 2), .ref (σ.2.1 + 3), .ref (σ.2.1 + 4), .ref (σ.2.1 + 5), .int 0, .int (-1)] : List Value).set 8 (.int v))) := ⟨0, h2⟩
  have vm : vM lo V σ1 := by
    refine ⟨fun a fs ha e => ?_, fun a fs ha e => ?_, fun a cc ha e n7 n6 n2 n8 => ?_⟩
    · obtain ⟨v, w, q⟩ := l1 a fs ha e
      exact ⟨v, w, up q (fun fs z => by injection z with z; injection z with z; exact absurd z (by decide))⟩
    · obtain ⟨gs, q, q'⟩ := l2 a fs ha e
      exact ⟨gs, up q (fun fs z => by injection z with z; injection z with z; exact absurd z (by decide)), q'⟩
    · have q := l3 a cc ha e n7 n6 n2 n8
      rw [h1 a (lt q) (by omega)]
      exact q
  have low : ∀ {a : Nat} {c : oC}, V.1 a = some c → a ≠ κ.2.2.1 := fun {a c} e z => by
    rw [z, v1.1.1.2.1 _ hκ] at e; cases e
  have qa : ∀ {a : Nat} {c : oC}, V.1 a = some c → qA (σ.2.1 + 5) (fun i => σ.2.1 + 1 + i) lo σ1 a := fun {a c} e => ⟨by have := Vlt e; omega, fun z => low e (ldd a z), noT a⟩
  have pq : pgQ lo V (σ.2.1 + 5) (fun i => σ.2.1 + 1 + i) lo σ1 := fun a cc ha e n7 n6 n2 _ => by
    cases cc with
    | inl y => exact qa e
    | inr o =>
      obtain ⟨k, fs⟩ := o
      refine ⟨⟨fun z => ?_, fun z => ?_, fun z => ?_⟩, fun _ i hi => ?_⟩
      · have z : k = 2 := z
        exact n2 k fs rfl (by rw [z]; decide)
      · have z : k = 6 := z
        exact n6 fs (by rw [z])
      · have z : k = 7 := z
        exact n7 fs (by rw [z])
      · have := Vlt e
        show a ≠ σ.2.1 + 1 + i
        omega
  have row : ∀ {a : Nat} {y}, lo ≤ a → V.1 a = some (.inl (.int, y)) → σ1.1 a = some (.inl (.int, y)) := fun {a y} ha e => vm.2.2 a _ ha e (fun f z => by cases z) (fun f z => by cases z) (fun _ f z => by cases z) (fun f z => by cases z)
  have plo : ∀ k, lo ≤ p + k := fun k => by omega
  have gn : gwN nm (fun u => (mEnd f pp ee is e).2.2.1 u α) g ρ lo (σ.2.1 + 6) (fun u => (nm u).getD 0) (is.map Prod.fst ++ tW e) ((is.map Prod.fst ++ tW e).map (fun u => (nm u).getD 0)) σ1 := by
    refine ⟨fun u hu => ?_, fun u v hu hv e => ?_⟩
    · obtain ⟨b, fs, c, gs, q1, q2, q3, q4, q5, q6, q7, q8⟩ := s4 u hu
      have eb : (fun u => (nm u).getD 0) u = b := by
        show (nm u).getD 0 = b
        rw [q1]; rfl
      refine ⟨by rw [eb]; exact q1, ⟨by rw [eb]; omega, by rw [eb]; have := lt q4; omega⟩, List.mem_map.mpr ⟨u, hu, rfl⟩, gs, c, ?_, q5, q6, q7, q8⟩
      rw [eb]
      exact up q4 (fun fs z => by injection z with z; injection z with z; exact absurd z (by decide))
    · obtain ⟨b, fs, c, gs, q1, -⟩ := s4 u hu
      obtain ⟨b', fs', c', gs', q1', -⟩ := s4 v hv
      have e : (nm u).getD 0 = (nm v).getD 0 := e
      rw [q1, q1'] at e
      have e : b = b' := e
      exact v8.2.2.2 u hu v hv (by rw [q1, q1', e])
  refine ⟨⟨0, iv, ⟨kn, k6⟩, ⟨fun _ => κ.2.2.1, fun _ => 0, fun _ => 0, fun i hi => ⟨⟨h3 i hi, Or.inl ⟨rfl, rfl, rfl, kn⟩, fun j hj => absurd hj (Nat.not_lt_zero _)⟩, Nat.zero_le _⟩, fun i j hi hj hij => ⟨by show σ.2.1 + 1 + i ≠ σ.2.1 + 1 + j; omega, fun _ => rfl⟩, fun _ => 0, fun _ _ => Nat.zero_le _, rfl⟩, ⟨h2, rfl, rfl, rfl, rfl⟩, ⟨⟨rfl, rfl, rfl⟩, fun i x z => (by cases z), fun x z => (by cases z)⟩⟩, ⟨iv, ⟨fun a fs ha e => ?_, fun a a' fs fs' t ha ha' e e' q q' => ?_⟩, ?_, chs, ⟨_, h4⟩, ⟨?_, fun a ha => ?_⟩, ?_⟩, ⟨vm, pq⟩, ⟨fun y hy => hy.elim, by omega, fun k p hk => hk.elim, fun k p k' p' hk => hk.elim⟩, ⟨rfl, fun k x z => (by cases z)⟩, gn, fun u => rfl, fun u hu => absurd (hq0 u) hu⟩
  · obtain ⟨q1, q2⟩ := n5 a fs ha (six a fs ha e)
    exact ⟨q1, Or.inl q2⟩
  · have := (n5 a fs ha (six a fs ha e)).2
    rw [this] at q; cases q
  · refine ⟨_, p + 4, p + 5, p + 6, p + 7, fb, fr, fz, fn, vm.2.2 p _ (plo 0) vcell (fun f z => by injection z with z; injection z with z; exact absurd z (by decide)) (fun f z => by injection z with z; injection z with z; exact absurd z (by decide)) (fun _ _ z => by cases z <;> decide) (fun f z => by cases z), ⟨rfl, rfl, rfl, rfl, rfl⟩, ⟨row (plo 4) c1, row (plo 5) c2, row (plo 6) c3, row (plo 7) c4⟩, ⟨⟨qa c1, qa c2, qa c3, qa c4⟩, fun z => z, fun z => z, fun z => z, fun z => z⟩, hx6, fun k q hk => ?_⟩
    obtain ⟨a1, a2, a3, a4⟩ := v3 k q hk
    obtain ⟨b1, b2, b3⟩ := hq q (List.mem_of_getElem? hk)
    refine ⟨a1, ?_, b2, a3, by rw [a4]; exact b3, b1⟩
    rw [a2]
    have : q.2.1 = 0 ∨ q.2.1 = 1 ∨ q.2.1 = 2 ∨ q.2.1 = 3 ∨ q.2.1 = 4 := by omega
    rcases this with z | z | z | z | z <;> rw [z] <;> rfl
  · refine List.pairwise_map.mpr (List.Pairwise.imp_of_mem (fun {a b} ha hb n z => n ?_) hnd)
    exact gn.2 a b ha hb z
  · obtain ⟨u, hu, rfl⟩ := List.mem_map.mp ha
    obtain ⟨-, ⟨q1, -⟩, -, fs, c, q2, -⟩ := gn.1 u hu
    exact ⟨q1, fs, q2⟩
  · obtain ⟨F, ⟨y1, y2, y3, y4⟩, y5⟩ := s3
    exact ⟨F, ⟨up y1 (fun fs z => by injection z with z; injection z with z; exact absurd z (by decide)), fun i hi => up (y2 i hi) (fun fs z => by cases z), y3, y4⟩, y5⟩
end GW0
