/-! type(): a type that speaks of its scope can be printed -/
/-- NAMES of functions may be printed -/
def tAq (Nm : gN → Prop) : tY → gTm → Prop
  | .leaf, _ => True
  | .inner k _ _ a b, m => k = 0 → Nm (mPn m) ∧ tAq Nm a (mTk m) ∧ tAq Nm b (mAn m)
theorem gIn_le (nq : tQ → Int) (y : tY) (S : List gN) : ∀ xs : List tQ, (gIn nq xs y S).length ≤ xs.length * (S.length + 1)
  | [] => Nat.zero_le _
  | q :: xs => by
    have I := gIn_le nq y S xs
    unfold gIn at I ⊢
    rw [List.flatMap_cons, List.length_append, List.length_cons, Nat.succ_mul]
    have h : (if (q.1 = 0 ∧ yK y = 2) ∨ (q.1 = 1 ∧ yK y = 4) ∨ (q.1 = 2 ∧ yK y = 5) then (if q.2.2.2.1 = true then S.map (fun s => (q.2.1, ((some (s, if q.2.2.1 = true then -1 else 1) : Option (gN × Int)), nq q))) else [(q.2.1, (none, nq q))]) else []).length ≤ S.length + 1 := by
      split
      · split
        · rw [List.length_map]; omega
        · show 1 ≤ _; omega
      · exact Nat.zero_le _
    omega
section VTW
variable {Γ : uGm} {C B : Int} {rt : Nat → gTm} {Nm : gN → Prop}
theorem vOk_in {A2 : List (gN × gTe)} {S : List gN} {r : Nat} {s : gN} {e n Cq : Int} (hr : r ≤ 4) (he : e = 1 ∨ e = -1) (hs : uNm Γ s) (hi : gIt A2 S s) (hS : ∀ x, x ∈ S → Nm x) (hA : ∀ p, p ∈ A2 → gTw Γ p.2 ∧ -C ≤ p.2.2 ∧ p.2.2 ≤ C) (hn : -Cq ≤ n ∧ n ≤ Cq) (hB : 2 * (C + Cq) + 2 ≤ B ∧ B < 1125899906842624 ∧ 0 ≤ C) : vOk Γ Nm A2 (r, (some (s, e), n)) := by
  refine ⟨hr, fun x e' w => ?_, ?_⟩
  · injection w with w; injection w with w1 w2
    rw [← w1, ← w2]
    exact ⟨hs, he⟩
  · unfold gIt at hi
    unfold gRs
    dsimp only
    cases hg : gTf A2 s with
    | none =>
      rw [hg] at hi
      refine ⟨⟨?_, ?_⟩, fun a e' w => ?_⟩
      · show -1125899906842624 ≤ n; omega
      · show n ≤ 1125899906842624; omega
      · injection w with w; injection w with w1 w2
        rw [← w1, ← w2]
        exact ⟨hS s hi, he⟩
    | some u =>
      rw [hg] at hi
      obtain ⟨p, p1, p2⟩ := gTf_mem hg
      obtain ⟨a1, a2, a3⟩ := hA p p1
      rw [p2] at a1 a2 a3
      refine ⟨?_, fun a e' w => ?_⟩
      · show -1125899906842624 ≤ n + e * u.2 ∧ n + e * u.2 ≤ 1125899906842624
        rcases he with rfl | rfl <;> constructor <;> omega
      · have w : u.1.map (fun x => (x.1, e * x.2)) = some (a, e') := w
        cases hu : u.1 with
        | none => rw [hu] at w; cases w
        | some q =>
          rw [hu] at w
          injection w with w; injection w with w1 w2
          have q1 := a1 q.1 q.2 hu
          refine ⟨by rw [← w1]; exact hS _ (hi q.1 q.2 hu), ?_⟩
          rw [← w2]
          rcases he with rfl | rfl <;> rcases q1.2 with z | z <;> rw [z] <;> decide
/-- **a type that speaks of its scope can be printed** -/
theorem vTy_w (hQ : rtQ Γ rt) (hq : qlW Γ C B) : ∀ (y : tY) (A : gTy) (S : List gN), gSy A = y → yW y → wfT Γ C B rt S A → (∀ s, s ∈ S → Nm s) → nbL A → (∀ m, A.1 = .inr m → tAq Nm y m) → vTy Γ Nm y A
  | .leaf, A, S, _, hw, _, _, _, _ => hw.elim
  | .inner k x v a b, A, S, hy, hw, hf, hS, hn, hm => by
    unfold vTy
    unfold yW at hw
    by_cases c : k = 0
    · rw [if_pos c] at hw ⊢
      have k1 : yK (gSy A) = 1 := by rw [hy, c]; rfl
      obtain ⟨m, em, -⟩ := hf.fn k1
      have sy := gSy_tk em
      rw [hy] at sy
      obtain ⟨n1, n2, n3⟩ := hm m em c
      have ep : gPn A = mPn m := by unfold gPn; rw [em]
      have et : (gTk A).1 = .inr (mTk m) := by unfold gTk; rw [em]
      have ea : (gAn A).1 = .inr (mAn m) := by unfold gAn; rw [em]
      refine ⟨by rw [ep]; exact n1, vTy_w hQ hq a (gTk A) S sy.1 hw.1 (hf.tk k1) hS hn.tk (fun m' e => ?_), vTy_w hQ hq b (gAn A) (gPn A :: S) sy.2 hw.2 (hf.an hQ k1 (fun x hx => List.mem_cons_of_mem _ hx) (fun _ => List.mem_cons_self ..)) (fun s hs => ?_) hn.an (fun m' e => ?_)⟩
      · rw [et] at e
        injection e with e
        rw [← e]; exact n2
      · rcases List.mem_cons.mp hs with z | z
        · rw [z, ep]; exact n1
        · exact hS s z
      · rw [ea] at e
        injection e with e
        rw [← e]; exact n3
    · rw [if_neg c] at hw ⊢
      obtain ⟨⟨Cq, q1, q2⟩, q3, q4, q5⟩ := hq
      obtain ⟨A1, A2⟩ := A
      match A1, hy, hf, hn with
      | .inl x, hy, ⟨⟨h1, h2, h3⟩, h4⟩, hn =>
        have h1 : A2 = [] := h1
        subst h1
        refine ⟨fun c' hc => ?_, by show x.2.length ≤ 900; omega, fun k2 => hn x rfl (by
          have hy : x.1 = _ := hy
          rw [hy, k2]; rfl)⟩
        obtain ⟨a1, a2, a3, a4⟩ := h4 c' hc
        refine ⟨a1, a2, ?_, fun a' e' w => ?_⟩
        · rw [gRs_nl]; exact a3.1
        · rw [gRs_nl] at w
          exact ⟨hS _ (a4 a' e' w), (a2 a' e' w).2⟩
      | .inr m, hy, ⟨⟨h1, h2, h3, h4, h5⟩, ⟨h6, h7⟩, h8⟩, _ =>
        have hy : m.2.2.1 = _ := hy
        refine ⟨fun c' hc => ?_, ?_, fun k2 => ?_⟩
        · have hc : c' ∈ gIn Γ.2.2.1 Γ.2.2.2.1 m.2.2.1 m.2.2.2.2 := hc
          unfold gIn at hc
          obtain ⟨q, hq', hc⟩ := List.mem_flatMap.mp hc
          obtain ⟨b1, b2⟩ := q1 q hq'
          split at hc
          · split at hc
            · obtain ⟨s, hs, rfl⟩ := List.mem_map.mp hc
              refine vOk_in b1 ?_ (h5 s hs) (h8 s hs) hS (fun p hp => (h7 p hp).2) b2 ⟨q2, q4, q5⟩
              split
              · exact Or.inr rfl
              · exact Or.inl rfl
            · rw [List.mem_singleton.mp hc]
              refine ⟨b1, fun x e' w => (by cases w), ⟨?_, ?_⟩, fun a' e' w => (by cases w)⟩
              · show -1125899906842624 ≤ Γ.2.2.1 q; omega
              · show Γ.2.2.1 q ≤ 1125899906842624; omega
          · cases hc
        · have l1 := gIn_le Γ.2.2.1 m.2.2.1 m.2.2.2.2 Γ.2.2.2.1
          show (gIn Γ.2.2.1 Γ.2.2.2.1 m.2.2.1 m.2.2.2.2).length ≤ 900
          have l2 : Γ.2.2.2.1.length * (m.2.2.2.2.length + 1) ≤ 6 * 61 := Nat.mul_le_mul q3 (by omega)
          omega
        · show gIn Γ.2.2.1 Γ.2.2.2.1 m.2.2.1 m.2.2.2.2 = []
          have y3 : yK m.2.2.1 = 3 := by rw [hy, k2]; rfl
          unfold gIn
          rw [y3]
          refine List.flatMap_eq_nil_iff.mpr (fun q _ => if_neg (fun z => ?_))
          rcases z with ⟨-, z⟩ | ⟨-, z⟩ | ⟨-, z⟩ <;> cases z
end VTW
