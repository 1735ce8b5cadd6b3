/-! the class's gather() -/
section GAT
variable {κ : oKv} {T T0 n : Nat} {st : Nat} {l : Nat → Nat} {b0 : Nat} {nq : tQ → Int} {xs : List tQ} {pg ch ty : Nat} {cf : List Value} {At : Nat → Nat} {mo : Nat} {g : gG} {ρ : Nat → tY} {lv ov : Int32} {V : oSt} {lo g0 : Nat} {nm : Nat → Option Nat} {tE tN : Nat → tY} {φ : Nat → Nat} {Us : List Nat} {kk pp ee f fc : Nat → Int32} {B : Nat → Nat} {D : cDt} {Γ : uGm} {C Bd : Int} {rt : Nat → gTm} {M : Nat} {CB : List Nat → List (gCd × Bool) → Prop} {NB : List Nat → List (gCd × Bool) → (Nat × Nat × tT × List tP × List Nat × Nat) → Prop} {cnt : Nat} {pf : List Value} {tp dl cap len : Nat} {mc : Int32} {gl : Nat → Option Nat} {is : List (Nat × Nat)} {ln : Nat → Nat} {ct : Nat → Nat → Option Nat} {cs : Nat} {Ls : List Nat} {e : tT} {s0 : gSt} {Ψ : kGh} {σ : oSt} {A : gTy} {y : tY} {i j fk e0 lo1 : Nat}
theorem gwE.nil {Ψ : kGh} {σ : oSt} {CN : Nat → gCd → Prop} {Dn : Nat → Prop} {Ls : List Nat} {q : Nat → gTy} : gwE st l b0 nq xs Ψ σ CN Dn nm tN lo Ls [] [] [] none [] q := ⟨⟨rfl, rfl, rfl⟩, fun _ h => (by cases h), fun _ h => (by cases h), ⟨fun _ h => (by cases h), fun _ _ h => (by cases h)⟩, fun _ h => (by cases h)⟩
set_option maxHeartbeats 1000000 in
/-- **gather()** -/
theorem c_gather (hT : 9010 ≤ T) (hnq : ∀ x, x ∈ xs → -1125899906842624 ≤ nq x ∧ nq x ≤ 1125899906842624) (hcf : cfO pg ty st cf) (hc6 : cf[6]? = some (.ref (l 3))) (hpp : ∀ u v, u < v → v < cnt → pp u < pp v) (hQ : rtQ Γ rt) (hC : 0 ≤ C) (hB : 4 ≤ Bd) (hyd : ∀ key y ns env, rtC rt tN M key y ns env → yDp y ≤ 60 ∧ yLs y ≤ 60) (hyN : ∀ u, u ∈ Us → yDp (tN u) ≤ 60 ∧ yLs (tN u) ≤ 60) (hfc : ∀ env w, nFind fc pp ee env w = nFind f pp ee env w) (hsp : ∀ ps, sPl T0 (fun j => fc j &&& 255) pp ee ps = sPl T f pp ee ps) (hb : b0 ≤ lo) (hV : V.2.1 ≤ g0) (hcnt : cnt ≤ 2000) (hp : lo ≤ pg ∧ V.1 pg = some (.inr (9, pf)) ∧ pf[9]? = some (.int (nI is.length)) ∧ pf[2]? = some (.ref tp)) (hp10 : pf[10]? = some (.ref e0)) (hL : cLs κ V tp dl cap len mc gl 6) (hlo : lo ≤ tp ∧ (0 < len → lo ≤ dl)) (hg : ∀ j b, j < len → gl j = some b → lo ≤ b) (hlen : is.length ≤ len) (h6 : is.length ≤ 6 ∧ len < 2 ^ 31) (hgl : ∀ k y, is[k]? = some y → gl k = some (φ y.1)) (nd : (is.map Prod.fst ++ wW e).Nodup) (hU : ∀ u, u ∈ is.map Prod.fst ++ wW e → u ∈ Us) (hty : ∀ y, y ∈ is → tN y.1 = yB y.2) (h : gwS κ st l b0 nq xs pg ch ty cf At mo g ρ lv ov (nCl κ T T0 kk pp ee f fc B D V nm lo) (nRl κ T T0 kk pp ee f fc B D V nm lo) pp V lo g0 nm tN φ Us 0 [] Ψ Ls σ ln ct cs s0) (hk : ∀ k, ¬ Ψ.2.2.2 k) (hE : eT e) (hRm : tRm kk e) (a1 : gHq T f pp ee tE tN Γ C Bd rt M CB NB e (is.map Prod.fst) (scC (gIs is [] s0).1)) (a2 : gOk f pp ee tE tN e (is.map Prod.fst) y) (a3 : eW Γ C Bd rt tN (is.map Prod.fst) (gIs is [] s0).1 (gIs is [] s0).2.1) (a4 : tSn kk e) (a5 : wTx T f pp ee e (is.map Prod.fst)) (h2 : tRg e i j ∧ j ≤ cnt) (h3 : lo ≤ lo1) (h3' : cTX κ T0 kk pp ee fc B D (fun m u => eXw σ g ρ tE m u) lo1 V nm e (is.map Prod.fst) fk (fun _ => none) 0 e0) (hH : tH e ≤ 75) (h10 : (gWk T f pp ee tE tN e (is.map Prod.fst) (gIs is [] s0).1 A (gIs is [] s0).2).1.2.1.length ≤ 12000) (h11 : (gWk T f pp ee tE tN e (is.map Prod.fst) (gIs is [] s0).1 A (gIs is [] s0).2).1.2.2.length ≤ 12000) (hN : 75 + 4 * tH e ≤ n + 4) : ∃ σ' Ψ' Ls' ln' ct' cs', oF κ T (n + 5) 37 [va_rf (some ch)] σ = some (none, σ') ∧ gwS κ st l b0 nq xs pg ch ty cf At mo g ρ lv ov (nCl κ T T0 kk pp ee f fc B D V nm lo) (nRl κ T T0 kk pp ee f fc B D V nm lo) pp V lo g0 nm tN φ Us j (is.map Prod.fst ++ wW e) Ψ' Ls' σ' ln' ct' cs' (gWk T f pp ee tE tN e (is.map Prod.fst) (gIs is [] s0).1 A (gIs is [] s0).2).1 ∧ gAg σ Ψ Ψ' ∧ gKp st l b0 (fun x => ∃ u, u ∈ is.map Prod.fst ++ wW e ∧ x = φ u) σ σ' ∧ (∀ z, z ∈ Ls → z ∈ Ls') ∧ gwC Ls Ls' cs cs' σ σ' (2 * is.length + (wCo T f pp ee tE tN xs e (is.map Prod.fst) (gIs is [] s0).1 A (gIs is [] s0).2).1) (19 * is.length + (wCo T f pp ee tE tN xs e (is.map Prod.fst) (gIs is [] s0).1 A (gIs is [] s0).2).2) := by
  obtain ⟨nd1, nd2, nd3⟩ := List.nodup_append.mp nd
  have hfr := h.2.1.1.1
  obtain ⟨σ1, Ψ1, Sc1, os1, Es1, R1, r2, r3, ⟨r4, r4'⟩, ⟨r5, r6⟩, r7, r8⟩ := c_gaI (n := n) hcf hpp hp hL hlo hg hlen h6 is 0 T [] [] [] [] none [] s0 Ψ σ h gwE.nil (fun _ z => by cases z) (fun _ z => by cases z) nd1 (fun y hy => ⟨hU _ (List.mem_append_left _ (List.mem_map_of_mem hy)), fun z => (by cases z), hty y hy⟩) (fun k y hk => by rw [Nat.zero_add]; exact hgl k y hk) (by omega) (by omega)
  rw [List.nil_append] at r2 r3
  have r7 : Sc1.length = 0 + is.length := r7
  have hU1 : ∀ u, u ∈ is.map Prod.fst → u ∈ Us := fun u hu => hU u (List.mem_append_left _ hu)
  obtain ⟨W, -, -⟩ := wk_all (κ := κ) (T := T) (T0 := T0) (CB := CB) (NB := NB) (M := M) (Γ := Γ) (rt := rt) (C := C) (Bd := Bd) (tE := tE) (tN := tN) (φ := φ) (Us := Us) (nm := nm) (V := V) (lo := lo) (g0 := g0) (ch := ch) (At := At) (mo := mo) (g := g) (ρ := ρ) (lv := lv) (ov := ov) (b0 := b0) (B := B) (D := D) hT hnq hcf hc6 hpp hQ hC hB hyd hyN hfc hsp hb hV hcnt e hRm
  have W1 := W (is.map Prod.fst) (gIs is [] s0).1 Sc1 os1 Es1 A (gIs is [] s0).2 Ψ1 Ls σ1 ln ct cs i j e0 fk (is.map Prod.fst) y (n + 4) hE ⟨⟨a1, a2, a3, a4, a5⟩, h2, ⟨lo1, h3, cTX.kp r5 h3'⟩, ⟨fun u hu => ⟨hU u (List.mem_append_right _ hu), fun w => nd3 u w u hu rfl⟩, nd2⟩, ⟨fun _ z => z, hU1⟩, fun k _ _ z => by rw [r4'] at z; exact hk k z, r2.ix (Nat.zero_le _), r3, by omega, h10, h11⟩ hN
  obtain ⟨σ2, k2, Ψ2, Ls2, ln2, ct2, cs2, w1, w2, w3, ⟨w4, w4'⟩, ⟨w5, w6⟩, w7, w8⟩ := W1
  refine ⟨σ2, Ψ2, Ls2, ln2, ct2, cs2, ?_, w3, r4.tr w4 r5.2.2.2, (r5.mo (fun x ⟨u, u1, u2⟩ => ⟨u, List.mem_append_left _ u1, u2⟩)).tr (w5.mo (fun x ⟨u, u1, _, u3⟩ => ⟨u, u1, u3⟩)), w7, ?_⟩
  · obtain ⟨v, hv⟩ := r2.2.1.2.2.2.1
    have hp1 := hp.1
    have hp2 := hp.2.1
    have hp9 := hp.2.2.1
    have sp := r2.2.2.1.1.2.2 pg _ hp1 hp2 (fun fs z => by cases z) (fun fs z => by cases z) (fun fs z => by cases z)
    obtain ⟨t, ht⟩ : ∃ t, T - is.length = t + 1 := ⟨T - is.length - 1, by omega⟩
    have fc0 : ofd σ1 (some ch) 2 0 = some (.ref pg) := (ofd_at hv).trans (by rw [List.getElem?_set_ne (by decide)]; exact hcf.2.1)
    have fp9 : ofd σ1 (some pg) 9 9 = some (.int (nI is.length)) := (ofd_at sp).trans hp9
    have fpA : ofd σ1 (some pg) 9 10 = some (.ref e0) := (ofd_at sp).trans hp10
    have R2 := R1
    rw [show n + 5 = (n + 4) + 1 from rfl, oE_X0_gather]
    unfold ob_X0_gather
    rw [show (0 : Int32) = nI 0 from rfl, R1, ht, ol_X0_gather_4, fc0, ovr_rf, obn_at, fp9, ovi_i, obn_at, if_pos (Int32.le_refl _), obn_at, fpA, ovr_rf, obn_at, oob_at hv, obn_at, w1, orn_at]
  · obtain ⟨x1, x2, x3⟩ := r8.tr w8
    exact ⟨x1, x2, x3⟩
end GAT
