/-! accepted(): capacities are there, room is left -/
/-- room, where accepted() is asked the first time -/
def lAr (κ : oKv) (T x n jd : Nat) (q0 : pgQt) (σ : oSt) : Prop := match q0 with
  | (_, _, _, _, _, _, _, _, _, _, _, _, _, p, _, V, _, _, _, _, _, _, _, _, _, _, _, _, _, _, _, _, _, _, _, _) => ∀ σ1 σ2, jS1 κ x p V.2.1 jd σ σ1 → oF κ T (n + 5) 37 [va_rf (some σ.2.1)] σ1 = some (none, σ2) → σ2.2.1 + 26 < T
/-- **capacities of every PROGRAM** -/
theorem lAk_of {κ : oKv} {T sz x n jd : Nat} {q0 : pgQt} {σ : oSt} {τ : zSt} (hT : 12400 ≤ T) (h : pgB κ T sz x q0 σ τ) (hr : lAr κ T x n jd q0 σ) : lAk κ T x n jd q0 σ := by
  obtain ⟨len, cnt, j, kk, pp, ee, f, fc, xs, is, e, α, lo, p, B, V, D, at2, cd', am2, nm, e0, fb, fr, fz, fn, g, ρ, lv, N, S, Pq, A, x0, g', ρ'⟩ := q0
  obtain ⟨hp, hV, -, hS, hX, hRf, -⟩ := id h
  exact ⟨⟨gPl (yB 0), yB 0, fun y e _ => by injection e with e; rw [← e], tx_cap (fun _ => rfl) hT hp hRf⟩, hr⟩
