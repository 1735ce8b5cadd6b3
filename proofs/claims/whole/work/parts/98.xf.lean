/-! the reference's compile() up to its words -/
/-- what compile() does behind its text -/
def rC (T : Nat) (call : zCl) (h0 : Nat) (qs : List Nat) (ks : Nat → Nat) (σ : zSt) : zRs :=
  zlet (zI σ 66 0) fun s2 =>
  zlet (zI s2 67 0) fun s4 =>
  zlet (zI s4 69 (-1)) fun s6 =>
  zlet (zI s6 163 0) fun s8 =>
  zlet (zI s8 11 0) fun s10 =>
  zcv (call 9 [.ref h0] s10) fun s12 =>
  if (s12.1 11) = 0 then
    zcv (call 30 [.ref h0] s12) fun s15 =>
    j_compile_81 T call h0 qs ks s15
  else
    j_compile_81 T call h0 qs ks s12
theorem zA_zA (σ : zSt) (i : Nat) (f g : Nat → Int32) : zA (zA σ i f) i g = zA σ i g := by
  refine Prod.ext rfl (Prod.ext rfl (Prod.ext (funext fun j => ?_) rfl))
  simp only [zA]
  split <;> rfl
theorem zA_self (σ : zSt) (i : Nat) : zA σ i (σ.2.2.1 i) = σ := by
  refine Prod.ext rfl (Prod.ext rfl (Prod.ext (funext fun j => ?_) rfl))
  simp only [zA]
  split
  next h => rw [h]
  next => rfl
section ORD
variable {ks : Nat → Nat} {qs : List Nat} {T n h0 len : Nat} {call : zCl}
theorem r_copy (hlen : len ≤ 2000) : ∀ (t i : Nat) (σ : zSt), σ.1 4 = nI len → i ≤ len → len < i + t → l_compile_15 T call h0 qs ks t (nI i) σ = rC T call h0 qs ks (zA σ 1 (sCp (σ.2.2.1 0) (σ.2.2.1 1) len i))
  | 0, i, σ, _, _, ht => by omega
  | t + 1, i, σ, h4, hi, ht => by
    rw [l_compile_15, h4]
    by_cases c1 : i < len
    · have z1 : zin (nI i) 2000 = true := decide_eq_true ⟨by rw [nI_toInt (by omega)]; omega, by rw [nI_toInt (by omega)]; omega⟩
      rw [if_neg (nI_ge c1 (by omega))]
      simp only [zgd, z1, if_true, zlet, nI_clamp (show i < 2 ^ 31 by omega), nI_1]
      refine (r_copy hlen t (i + 1) _ (show (zA σ 1 _).1 4 = nI len from h4) (by omega) (by omega)).trans ?_
      rw [zA_zA]
      have e1 : (zA σ 1 (upd (σ.2.2.1 1) i (vp_nar .byte (σ.2.2.1 0 i)))).2.2.1 0 = σ.2.2.1 0 := rfl
      have e2 : (zA σ 1 (upd (σ.2.2.1 1) i (vp_nar .byte (σ.2.2.1 0 i)))).2.2.1 1 = upd (σ.2.2.1 1) i (σ.2.2.1 0 i).toInt8.toInt32 := rfl
      rw [e1, e2, sCp_step c1]
    · have e : i = len := by omega
      subst e
      rw [if_pos (nI_le (Nat.le_refl _) (by omega)), sCp_end, zA_self]
      rfl
/-- the reference's state when its words are read -/
def rT (τ : zSt) (len : Nat) : zSt := zI (zI (zI (zI (zI (zA (zI (zI τ 4 (nI len)) 3 0) 1 (sCp (τ.2.2.1 0) (τ.2.2.1 1) len 0)) 66 0) 67 0) 69 (-1)) 163 0) 11 0
theorem r_compile {τ : zSt} (h3 : τ.1 3 = nI len) (hlen : len ≤ 2000) (hT : 2010 ≤ T) : zF h0 qs ks T (n + 1) 65 [.ref h0] τ = rC T (zF h0 qs ks T n) h0 qs ks (zA (zI (zI τ 4 (nI len)) 3 0) 1 (sCp (τ.2.2.1 0) (τ.2.2.1 1) len 0)) := by
  rw [zE_compile]
  unfold b_compile
  simp only [zlet, h3]
  exact r_copy hlen T 0 _ rfl (Nat.zero_le _) (by omega)
/-- the letters of the reference's text are signed bytes -/
theorem rT_sB {τ : zSt} : ∀ j, j < len → sB ((rT τ len).2.2.1 1 j) := fun j hj => by
  have : (rT τ len).2.2.1 1 j = (τ.2.2.1 0 j).toInt8.toInt32 := by
    show sCp (τ.2.2.1 0) (τ.2.2.1 1) len 0 j = _
    unfold sCp
    rw [if_pos ⟨Nat.zero_le _, hj⟩]
  rw [this]
  unfold sB
  rw [Int8.toInt8_toInt32]
/-- compile() where some letter begins no word: 1, and its place -/
theorem r_bad {τ : zSt} {kk pp ee : Nat → Int32} (h3 : τ.1 3 = nI len) (hlen : len ≤ 2000) (hT : 2010 ≤ T) (hbad : (wLex T len (fun j => (rT τ len).2.2.1 1 j &&& 255) T 0 kk pp ee 0).2.2.2.2 ≠ -1) : ∃ σ, zF h0 qs ks T (n + 3) 65 [.ref h0] τ = some (some (.int 1), zI σ 69 (wLex T len (fun j => (rT τ len).2.2.1 1 j &&& 255) T 0 kk pp ee 0).2.2.2.2) ∧ rFin (rT τ len) (τ.1 12) len (wLex T len (fun j => (rT τ len).2.2.1 1 j &&& 255) T 0 kk pp ee 0) σ := by
  obtain ⟨σ, h1, h2⟩ := r_words (h0 := h0) (qs := qs) (ks := ks) (T := T) (n := n) (τ := rT τ len) (len := len) (f := (rT τ len).2.2.1 1) (kk := kk) (pp := pp) (ee := ee) rfl rfl rfl hlen hT rT_sB
  have h12 : (rT τ len).1 12 = τ.1 12 := rfl
  rw [h12] at h2
  refine ⟨σ, ?_, h2⟩
  rw [r_compile h3 hlen hT]
  unfold rC
  simp only [zlet]
  have h1' := h1
  unfold rT at h1'
  rw [h1']
  simp only [zcv]
  obtain ⟨K, P, E, c, rfl, -⟩ := h2
  have e11 : ∀ (b a : Int32), (zI (rSt (rT τ len) K P E c b a) 10 0).1 11 = b := fun _ _ => rfl
  have e12 : ∀ (b a : Int32), (zI (rSt (rT τ len) K P E c b a) 10 0).1 12 = a := fun _ _ => rfl
  simp only [if_neg hbad]
  rw [if_neg (by rw [e11]; decide)]
  unfold j_compile_81 j_compile_92
  simp only [e11, e12, if_neg (show ¬ (1 : Int32) = 0 by decide), zlet]
  rfl
end ORD
