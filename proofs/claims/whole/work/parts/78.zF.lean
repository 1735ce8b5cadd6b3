/-! the reference as ONE plain function: zF n j av σ is what method j answers, and the state behind it; the rules give it -/
abbrev zDf : Type := Nat → zCl → Nat → List Nat → (Nat → Nat) → List Value → zSt → zRs
def zOk (j : Nat) (f : zDf) : Prop := ∀ (h0 : Nat) (qs : List Nat) (ks : Nat → Nat) (T n : Nat) (call : zCl), (∀ j' av s w, call j' av s = some w → zTr h0 qs ks n j' av s (fun r u => (r, u) = w)) → ∀ (av : List Value) (σ : zSt) (v : Option Value × zSt), f T call h0 qs ks av σ = some v → zTr h0 qs ks (n + 1) j av σ (fun r u => (r, u) = v)
def zd_feed (n : Nat) (call : zCl) (h0 : Nat) (qs : List Nat) (ks : Nat → Nat) (av : List Value) (σ : zSt) : zRs := match av with
  | [.ref a, .int x1, .int x2, .int x3, .int x4, .int x5] => if a = h0 then b_feed n call h0 qs ks x1 x2 x3 x4 x5 σ else none
  | _ => none
set_option maxHeartbeats 1000000 in
theorem zd_feed_ok : zOk 0 zd_feed := fun h0 qs ks T n call hc av σ v h => by
  unfold zd_feed at h
  split at h
  next a x1 x2 x3 x4 x5 =>
    by_cases e : a = h0
    · rw [if_pos e] at h
      subst e
      exact ⟨_, zm_feed, Nat.le_of_ble_eq_true rfl, fun X hX => pb_feed hX hc h⟩
    · rw [if_neg e] at h; cases h
  next => cases h
def zd_end (n : Nat) (call : zCl) (h0 : Nat) (qs : List Nat) (ks : Nat → Nat) (av : List Value) (σ : zSt) : zRs := match av with
  | [.ref a, .int x1] => if a = h0 then b_end n call h0 qs ks x1 σ else none
  | _ => none
set_option maxHeartbeats 1000000 in
theorem zd_end_ok : zOk 1 zd_end := fun h0 qs ks T n call hc av σ v h => by
  unfold zd_end at h
  split at h
  next a x1 =>
    by_cases e : a = h0
    · rw [if_pos e] at h
      subst e
      exact ⟨_, zm_end, Nat.le_of_ble_eq_true rfl, fun X hX => pb_end hX hc h⟩
    · rw [if_neg e] at h; cases h
  next => cases h
def zd_out (n : Nat) (call : zCl) (h0 : Nat) (qs : List Nat) (ks : Nat → Nat) (av : List Value) (σ : zSt) : zRs := match av with
  | [.ref a, .int x1] => if a = h0 then b_out n call h0 qs ks x1 σ else none
  | _ => none
set_option maxHeartbeats 1000000 in
theorem zd_out_ok : zOk 2 zd_out := fun h0 qs ks T n call hc av σ v h => by
  unfold zd_out at h
  split at h
  next a x1 =>
    by_cases e : a = h0
    · rw [if_pos e] at h
      subst e
      exact ⟨_, zm_out, Nat.le_of_ble_eq_true rfl, fun X hX => pb_out hX hc h⟩
    · rw [if_neg e] at h; cases h
  next => cases h
def zd_fault (n : Nat) (call : zCl) (h0 : Nat) (qs : List Nat) (ks : Nat → Nat) (av : List Value) (σ : zSt) : zRs := match av with
  | [.ref a, .int x1, .int x2] => if a = h0 then b_fault n call h0 qs ks x1 x2 σ else none
  | _ => none
set_option maxHeartbeats 1000000 in
theorem zd_fault_ok : zOk 3 zd_fault := fun h0 qs ks T n call hc av σ v h => by
  unfold zd_fault at h
  split at h
  next a x1 x2 =>
    by_cases e : a = h0
    · rw [if_pos e] at h
      subst e
      exact ⟨_, zm_fault, Nat.le_of_ble_eq_true rfl, fun X hX => pb_fault hX hc h⟩
    · rw [if_neg e] at h; cases h
  next => cases h
def zd_isLow (n : Nat) (call : zCl) (h0 : Nat) (qs : List Nat) (ks : Nat → Nat) (av : List Value) (σ : zSt) : zRs := match av with
  | [.int x0] => b_isLow n call h0 qs ks x0 σ
  | _ => none
set_option maxHeartbeats 1000000 in
theorem zd_isLow_ok : zOk 4 zd_isLow := fun h0 qs ks T n call hc av σ v h => by
  unfold zd_isLow at h
  split at h
  next x0 =>
    exact ⟨_, zm_isLow, Nat.le_of_ble_eq_true rfl, fun X hX => pb_isLow hX hc h⟩
  next => cases h
def zd_isDigit (n : Nat) (call : zCl) (h0 : Nat) (qs : List Nat) (ks : Nat → Nat) (av : List Value) (σ : zSt) : zRs := match av with
  | [.int x0] => b_isDigit n call h0 qs ks x0 σ
  | _ => none
set_option maxHeartbeats 1000000 in
theorem zd_isDigit_ok : zOk 5 zd_isDigit := fun h0 qs ks T n call hc av σ v h => by
  unfold zd_isDigit at h
  split at h
  next x0 =>
    exact ⟨_, zm_isDigit, Nat.le_of_ble_eq_true rfl, fun X hX => pb_isDigit hX hc h⟩
  next => cases h
def zd_word (n : Nat) (call : zCl) (h0 : Nat) (qs : List Nat) (ks : Nat → Nat) (av : List Value) (σ : zSt) : zRs := match av with
  | [.ref a, .int x1, .int x2, .int x3] => if a = h0 then b_word n call h0 qs ks x1 x2 x3 σ else none
  | _ => none
set_option maxHeartbeats 1000000 in
theorem zd_word_ok : zOk 6 zd_word := fun h0 qs ks T n call hc av σ v h => by
  unfold zd_word at h
  split at h
  next a x1 x2 x3 =>
    by_cases e : a = h0
    · rw [if_pos e] at h
      subst e
      exact ⟨_, zm_word, Nat.le_of_ble_eq_true rfl, fun X hX => pb_word hX hc h⟩
    · rw [if_neg e] at h; cases h
  next => cases h
def zd_isText (n : Nat) (call : zCl) (h0 : Nat) (qs : List Nat) (ks : Nat → Nat) (av : List Value) (σ : zSt) : zRs := match av with
  | [.ref a, .int x1, .ref x2] => if a = h0 then b_isText n call h0 qs ks x1 x2 σ else none
  | _ => none
set_option maxHeartbeats 1000000 in
theorem zd_isText_ok : zOk 7 zd_isText := fun h0 qs ks T n call hc av σ v h => by
  unfold zd_isText at h
  split at h
  next a x1 x2 =>
    by_cases e : a = h0
    · rw [if_pos e] at h
      subst e
      exact ⟨_, zm_isText, Nat.le_of_ble_eq_true rfl, fun X hX => pb_isText hX hc h⟩
    · rw [if_neg e] at h; cases h
  next => cases h
def zd_isKey (n : Nat) (call : zCl) (h0 : Nat) (qs : List Nat) (ks : Nat → Nat) (av : List Value) (σ : zSt) : zRs := match av with
  | [.ref a, .int x1] => if a = h0 then b_isKey n call h0 qs ks x1 σ else none
  | _ => none
set_option maxHeartbeats 1000000 in
theorem zd_isKey_ok : zOk 8 zd_isKey := fun h0 qs ks T n call hc av σ v h => by
  unfold zd_isKey at h
  split at h
  next a x1 =>
    by_cases e : a = h0
    · rw [if_pos e] at h
      subst e
      exact ⟨_, zm_isKey, Nat.le_of_ble_eq_true rfl, fun X hX => pb_isKey hX hc h⟩
    · rw [if_neg e] at h; cases h
  next => cases h
def zd_readWords (n : Nat) (call : zCl) (h0 : Nat) (qs : List Nat) (ks : Nat → Nat) (av : List Value) (σ : zSt) : zRs := match av with
  | [.ref a] => if a = h0 then b_readWords n call h0 qs ks σ else none
  | _ => none
set_option maxHeartbeats 1000000 in
theorem zd_readWords_ok : zOk 9 zd_readWords := fun h0 qs ks T n call hc av σ v h => by
  unfold zd_readWords at h
  split at h
  next a =>
    by_cases e : a = h0
    · rw [if_pos e] at h
      subst e
      exact ⟨_, zm_readWords, Nat.le_of_ble_eq_true rfl, fun X hX => pb_readWords hX hc h⟩
    · rw [if_neg e] at h; cases h
  next => cases h
def zd_node (n : Nat) (call : zCl) (h0 : Nat) (qs : List Nat) (ks : Nat → Nat) (av : List Value) (σ : zSt) : zRs := match av with
  | [.ref a, .int x1, .int x2] => if a = h0 then b_node n call h0 qs ks x1 x2 σ else none
  | _ => none
set_option maxHeartbeats 1000000 in
theorem zd_node_ok : zOk 10 zd_node := fun h0 qs ks T n call hc av σ v h => by
  unfold zd_node at h
  split at h
  next a x1 x2 =>
    by_cases e : a = h0
    · rw [if_pos e] at h
      subst e
      exact ⟨_, zm_node, Nat.le_of_ble_eq_true rfl, fun X hX => pb_node hX hc h⟩
    · rw [if_neg e] at h; cases h
  next => cases h
def zd_here (n : Nat) (call : zCl) (h0 : Nat) (qs : List Nat) (ks : Nat → Nat) (av : List Value) (σ : zSt) : zRs := match av with
  | [.ref a, .ref x1] => if a = h0 then b_here n call h0 qs ks x1 σ else none
  | _ => none
set_option maxHeartbeats 1000000 in
theorem zd_here_ok : zOk 11 zd_here := fun h0 qs ks T n call hc av σ v h => by
  unfold zd_here at h
  split at h
  next a x1 =>
    by_cases e : a = h0
    · rw [if_pos e] at h
      subst e
      exact ⟨_, zm_here, Nat.le_of_ble_eq_true rfl, fun X hX => pb_here hX hc h⟩
    · rw [if_neg e] at h; cases h
  next => cases h
def zd_skip (n : Nat) (call : zCl) (h0 : Nat) (qs : List Nat) (ks : Nat → Nat) (av : List Value) (σ : zSt) : zRs := match av with
  | [.ref a, .ref x1] => if a = h0 then b_skip n call h0 qs ks x1 σ else none
  | _ => none
set_option maxHeartbeats 1000000 in
theorem zd_skip_ok : zOk 12 zd_skip := fun h0 qs ks T n call hc av σ v h => by
  unfold zd_skip at h
  split at h
  next a x1 =>
    by_cases e : a = h0
    · rw [if_pos e] at h
      subst e
      exact ⟨_, zm_skip, Nat.le_of_ble_eq_true rfl, fun X hX => pb_skip hX hc h⟩
    · rw [if_neg e] at h; cases h
  next => cases h
def zd_form (n : Nat) (call : zCl) (h0 : Nat) (qs : List Nat) (ks : Nat → Nat) (av : List Value) (σ : zSt) : zRs := match av with
  | [.ref a] => if a = h0 then b_form n call h0 qs ks σ else none
  | _ => none
set_option maxHeartbeats 1000000 in
theorem zd_form_ok : zOk 13 zd_form := fun h0 qs ks T n call hc av σ v h => by
  unfold zd_form at h
  split at h
  next a =>
    by_cases e : a = h0
    · rw [if_pos e] at h
      subst e
      exact ⟨_, zm_form, Nat.le_of_ble_eq_true rfl, fun X hX => pb_form hX hc h⟩
    · rw [if_neg e] at h; cases h
  next => cases h
def zd_must (n : Nat) (call : zCl) (h0 : Nat) (qs : List Nat) (ks : Nat → Nat) (av : List Value) (σ : zSt) : zRs := match av with
  | [.ref a, .ref x1] => if a = h0 then b_must n call h0 qs ks x1 σ else none
  | _ => none
set_option maxHeartbeats 1000000 in
theorem zd_must_ok : zOk 14 zd_must := fun h0 qs ks T n call hc av σ v h => by
  unfold zd_must at h
  split at h
  next a x1 =>
    by_cases e : a = h0
    · rw [if_pos e] at h
      subst e
      exact ⟨_, zm_must, Nat.le_of_ble_eq_true rfl, fun X hX => pb_must hX hc h⟩
    · rw [if_neg e] at h; cases h
  next => cases h
def zd_name (n : Nat) (call : zCl) (h0 : Nat) (qs : List Nat) (ks : Nat → Nat) (av : List Value) (σ : zSt) : zRs := match av with
  | [.ref a] => if a = h0 then b_name n call h0 qs ks σ else none
  | _ => none
set_option maxHeartbeats 1000000 in
theorem zd_name_ok : zOk 15 zd_name := fun h0 qs ks T n call hc av σ v h => by
  unfold zd_name at h
  split at h
  next a =>
    by_cases e : a = h0
    · rw [if_pos e] at h
      subst e
      exact ⟨_, zm_name, Nat.le_of_ble_eq_true rfl, fun X hX => pb_name hX hc h⟩
    · rw [if_neg e] at h; cases h
  next => cases h
def zd_numberOf (n : Nat) (call : zCl) (h0 : Nat) (qs : List Nat) (ks : Nat → Nat) (av : List Value) (σ : zSt) : zRs := match av with
  | [.ref a, .int x1] => if a = h0 then b_numberOf n call h0 qs ks x1 σ else none
  | _ => none
set_option maxHeartbeats 1000000 in
theorem zd_numberOf_ok : zOk 16 zd_numberOf := fun h0 qs ks T n call hc av σ v h => by
  unfold zd_numberOf at h
  split at h
  next a x1 =>
    by_cases e : a = h0
    · rw [if_pos e] at h
      subst e
      exact ⟨_, zm_numberOf, Nat.le_of_ble_eq_true rfl, fun X hX => pb_numberOf hX hc h⟩
    · rw [if_neg e] at h; cases h
  next => cases h
def zd_number (n : Nat) (call : zCl) (h0 : Nat) (qs : List Nat) (ks : Nat → Nat) (av : List Value) (σ : zSt) : zRs := match av with
  | [.ref a] => if a = h0 then b_number n call h0 qs ks σ else none
  | _ => none
set_option maxHeartbeats 1000000 in
theorem zd_number_ok : zOk 17 zd_number := fun h0 qs ks T n call hc av σ v h => by
  unfold zd_number at h
  split at h
  next a =>
    by_cases e : a = h0
    · rw [if_pos e] at h
      subst e
      exact ⟨_, zm_number, Nat.le_of_ble_eq_true rfl, fun X hX => pb_number hX hc h⟩
    · rw [if_neg e] at h; cases h
  next => cases h
def zd_relation (n : Nat) (call : zCl) (h0 : Nat) (qs : List Nat) (ks : Nat → Nat) (av : List Value) (σ : zSt) : zRs := match av with
  | [.ref a] => if a = h0 then b_relation n call h0 qs ks σ else none
  | _ => none
set_option maxHeartbeats 1000000 in
theorem zd_relation_ok : zOk 18 zd_relation := fun h0 qs ks T n call hc av σ v h => by
  unfold zd_relation at h
  split at h
  next a =>
    by_cases e : a = h0
    · rw [if_pos e] at h
      subst e
      exact ⟨_, zm_relation, Nat.le_of_ble_eq_true rfl, fun X hX => pb_relation hX hc h⟩
    · rw [if_neg e] at h; cases h
  next => cases h
def zd_isArgument (n : Nat) (call : zCl) (h0 : Nat) (qs : List Nat) (ks : Nat → Nat) (av : List Value) (σ : zSt) : zRs := match av with
  | [.ref a] => if a = h0 then b_isArgument n call h0 qs ks σ else none
  | _ => none
set_option maxHeartbeats 1000000 in
theorem zd_isArgument_ok : zOk 19 zd_isArgument := fun h0 qs ks T n call hc av σ v h => by
  unfold zd_isArgument at h
  split at h
  next a =>
    by_cases e : a = h0
    · rw [if_pos e] at h
      subst e
      exact ⟨_, zm_isArgument, Nat.le_of_ble_eq_true rfl, fun X hX => pb_isArgument hX hc h⟩
    · rw [if_neg e] at h; cases h
  next => cases h
def zd_part (n : Nat) (call : zCl) (h0 : Nat) (qs : List Nat) (ks : Nat → Nat) (av : List Value) (σ : zSt) : zRs := match av with
  | [.ref a, .int x1] => if a = h0 then b_part n call h0 qs ks x1 σ else none
  | _ => none
set_option maxHeartbeats 1000000 in
theorem zd_part_ok : zOk 20 zd_part := fun h0 qs ks T n call hc av σ v h => by
  unfold zd_part at h
  split at h
  next a x1 =>
    by_cases e : a = h0
    · rw [if_pos e] at h
      subst e
      exact ⟨_, zm_part, Nat.le_of_ble_eq_true rfl, fun X hX => pb_part hX hc h⟩
    · rw [if_neg e] at h; cases h
  next => cases h
def zd_sum (n : Nat) (call : zCl) (h0 : Nat) (qs : List Nat) (ks : Nat → Nat) (av : List Value) (σ : zSt) : zRs := match av with
  | [.ref a] => if a = h0 then b_sum n call h0 qs ks σ else none
  | _ => none
set_option maxHeartbeats 1000000 in
theorem zd_sum_ok : zOk 21 zd_sum := fun h0 qs ks T n call hc av σ v h => by
  unfold zd_sum at h
  split at h
  next a =>
    by_cases e : a = h0
    · rw [if_pos e] at h
      subst e
      exact ⟨_, zm_sum, Nat.le_of_ble_eq_true rfl, fun X hX => pb_sum hX hc h⟩
    · rw [if_neg e] at h; cases h
  next => cases h
def zd_both (n : Nat) (call : zCl) (h0 : Nat) (qs : List Nat) (ks : Nat → Nat) (av : List Value) (σ : zSt) : zRs := match av with
  | [.ref a] => if a = h0 then b_both n call h0 qs ks σ else none
  | _ => none
set_option maxHeartbeats 1000000 in
theorem zd_both_ok : zOk 22 zd_both := fun h0 qs ks T n call hc av σ v h => by
  unfold zd_both at h
  split at h
  next a =>
    by_cases e : a = h0
    · rw [if_pos e] at h
      subst e
      exact ⟨_, zm_both, Nat.le_of_ble_eq_true rfl, fun X hX => pb_both hX hc h⟩
    · rw [if_neg e] at h; cases h
  next => cases h
def zd_condition (n : Nat) (call : zCl) (h0 : Nat) (qs : List Nat) (ks : Nat → Nat) (av : List Value) (σ : zSt) : zRs := match av with
  | [.ref a] => if a = h0 then b_condition n call h0 qs ks σ else none
  | _ => none
set_option maxHeartbeats 1000000 in
theorem zd_condition_ok : zOk 23 zd_condition := fun h0 qs ks T n call hc av σ v h => by
  unfold zd_condition at h
  split at h
  next a =>
    by_cases e : a = h0
    · rw [if_pos e] at h
      subst e
      exact ⟨_, zm_condition, Nat.le_of_ble_eq_true rfl, fun X hX => pb_condition hX hc h⟩
    · rw [if_neg e] at h; cases h
  next => cases h
def zd_single (n : Nat) (call : zCl) (h0 : Nat) (qs : List Nat) (ks : Nat → Nat) (av : List Value) (σ : zSt) : zRs := match av with
  | [.ref a] => if a = h0 then b_single n call h0 qs ks σ else none
  | _ => none
set_option maxHeartbeats 1000000 in
theorem zd_single_ok : zOk 24 zd_single := fun h0 qs ks T n call hc av σ v h => by
  unfold zd_single at h
  split at h
  next a =>
    by_cases e : a = h0
    · rw [if_pos e] at h
      subst e
      exact ⟨_, zm_single, Nat.le_of_ble_eq_true rfl, fun X hX => pb_single hX hc h⟩
    · rw [if_neg e] at h; cases h
  next => cases h
def zd_call (n : Nat) (call : zCl) (h0 : Nat) (qs : List Nat) (ks : Nat → Nat) (av : List Value) (σ : zSt) : zRs := match av with
  | [.ref a, .int x1] => if a = h0 then b_call n call h0 qs ks x1 σ else none
  | _ => none
set_option maxHeartbeats 1000000 in
theorem zd_call_ok : zOk 25 zd_call := fun h0 qs ks T n call hc av σ v h => by
  unfold zd_call at h
  split at h
  next a x1 =>
    by_cases e : a = h0
    · rw [if_pos e] at h
      subst e
      exact ⟨_, zm_call, Nat.le_of_ble_eq_true rfl, fun X hX => pb_call hX hc h⟩
    · rw [if_neg e] at h; cases h
  next => cases h
def zd_expression (n : Nat) (call : zCl) (h0 : Nat) (qs : List Nat) (ks : Nat → Nat) (av : List Value) (σ : zSt) : zRs := match av with
  | [.ref a] => if a = h0 then b_expression n call h0 qs ks σ else none
  | _ => none
set_option maxHeartbeats 1000000 in
theorem zd_expression_ok : zOk 26 zd_expression := fun h0 qs ks T n call hc av σ v h => by
  unfold zd_expression at h
  split at h
  next a =>
    by_cases e : a = h0
    · rw [if_pos e] at h
      subst e
      exact ⟨_, zm_expression, Nat.le_of_ble_eq_true rfl, fun X hX => pb_expression hX hc h⟩
    · rw [if_neg e] at h; cases h
  next => cases h
def zd_matching (n : Nat) (call : zCl) (h0 : Nat) (qs : List Nat) (ks : Nat → Nat) (av : List Value) (σ : zSt) : zRs := match av with
  | [.ref a, .int x1] => if a = h0 then b_matching n call h0 qs ks x1 σ else none
  | _ => none
set_option maxHeartbeats 1000000 in
theorem zd_matching_ok : zOk 27 zd_matching := fun h0 qs ks T n call hc av σ v h => by
  unfold zd_matching at h
  split at h
  next a x1 =>
    by_cases e : a = h0
    · rw [if_pos e] at h
      subst e
      exact ⟨_, zm_matching, Nat.le_of_ble_eq_true rfl, fun X hX => pb_matching hX hc h⟩
    · rw [if_neg e] at h; cases h
  next => cases h
def zd_simple (n : Nat) (call : zCl) (h0 : Nat) (qs : List Nat) (ks : Nat → Nat) (av : List Value) (σ : zSt) : zRs := match av with
  | [.ref a, .int x1] => if a = h0 then b_simple n call h0 qs ks x1 σ else none
  | _ => none
set_option maxHeartbeats 1000000 in
theorem zd_simple_ok : zOk 28 zd_simple := fun h0 qs ks T n call hc av σ v h => by
  unfold zd_simple at h
  split at h
  next a x1 =>
    by_cases e : a = h0
    · rw [if_pos e] at h
      subst e
      exact ⟨_, zm_simple, Nat.le_of_ble_eq_true rfl, fun X hX => pb_simple hX hc h⟩
    · rw [if_neg e] at h; cases h
  next => cases h
def zd_within (n : Nat) (call : zCl) (h0 : Nat) (qs : List Nat) (ks : Nat → Nat) (av : List Value) (σ : zSt) : zRs := match av with
  | [.ref a] => if a = h0 then b_within n call h0 qs ks σ else none
  | _ => none
set_option maxHeartbeats 1000000 in
theorem zd_within_ok : zOk 29 zd_within := fun h0 qs ks T n call hc av σ v h => by
  unfold zd_within at h
  split at h
  next a =>
    by_cases e : a = h0
    · rw [if_pos e] at h
      subst e
      exact ⟨_, zm_within, Nat.le_of_ble_eq_true rfl, fun X hX => pb_within hX hc h⟩
    · rw [if_neg e] at h; cases h
  next => cases h
def zd_program (n : Nat) (call : zCl) (h0 : Nat) (qs : List Nat) (ks : Nat → Nat) (av : List Value) (σ : zSt) : zRs := match av with
  | [.ref a] => if a = h0 then b_program n call h0 qs ks σ else none
  | _ => none
set_option maxHeartbeats 1000000 in
theorem zd_program_ok : zOk 30 zd_program := fun h0 qs ks T n call hc av σ v h => by
  unfold zd_program at h
  split at h
  next a =>
    by_cases e : a = h0
    · rw [if_pos e] at h
      subst e
      exact ⟨_, zm_program, Nat.le_of_ble_eq_true rfl, fun X hX => pb_program hX hc h⟩
    · rw [if_neg e] at h; cases h
  next => cases h
def zd_sameWord (n : Nat) (call : zCl) (h0 : Nat) (qs : List Nat) (ks : Nat → Nat) (av : List Value) (σ : zSt) : zRs := match av with
  | [.ref a, .int x1, .int x2] => if a = h0 then b_sameWord n call h0 qs ks x1 x2 σ else none
  | _ => none
set_option maxHeartbeats 1000000 in
theorem zd_sameWord_ok : zOk 31 zd_sameWord := fun h0 qs ks T n call hc av σ v h => by
  unfold zd_sameWord at h
  split at h
  next a x1 x2 =>
    by_cases e : a = h0
    · rw [if_pos e] at h
      subst e
      exact ⟨_, zm_sameWord, Nat.le_of_ble_eq_true rfl, fun X hX => pb_sameWord hX hc h⟩
    · rw [if_neg e] at h; cases h
  next => cases h
def zd_wrongName (n : Nat) (call : zCl) (h0 : Nat) (qs : List Nat) (ks : Nat → Nat) (av : List Value) (σ : zSt) : zRs := match av with
  | [.ref a, .int x1] => if a = h0 then b_wrongName n call h0 qs ks x1 σ else none
  | _ => none
set_option maxHeartbeats 1000000 in
theorem zd_wrongName_ok : zOk 32 zd_wrongName := fun h0 qs ks T n call hc av σ v h => by
  unfold zd_wrongName at h
  split at h
  next a x1 =>
    by_cases e : a = h0
    · rw [if_pos e] at h
      subst e
      exact ⟨_, zm_wrongName, Nat.le_of_ble_eq_true rfl, fun X hX => pb_wrongName hX hc h⟩
    · rw [if_neg e] at h; cases h
  next => cases h
def zd_tell (n : Nat) (call : zCl) (h0 : Nat) (qs : List Nat) (ks : Nat → Nat) (av : List Value) (σ : zSt) : zRs := match av with
  | [.ref a, .int x1] => if a = h0 then b_tell n call h0 qs ks x1 σ else none
  | _ => none
set_option maxHeartbeats 1000000 in
theorem zd_tell_ok : zOk 33 zd_tell := fun h0 qs ks T n call hc av σ v h => by
  unfold zd_tell at h
  split at h
  next a x1 =>
    by_cases e : a = h0
    · rw [if_pos e] at h
      subst e
      exact ⟨_, zm_tell, Nat.le_of_ble_eq_true rfl, fun X hX => pb_tell hX hc h⟩
    · rw [if_neg e] at h; cases h
  next => cases h
def zd_counts (n : Nat) (call : zCl) (h0 : Nat) (qs : List Nat) (ks : Nat → Nat) (av : List Value) (σ : zSt) : zRs := match av with
  | [.ref a, .int x1] => if a = h0 then b_counts n call h0 qs ks x1 σ else none
  | _ => none
set_option maxHeartbeats 1000000 in
theorem zd_counts_ok : zOk 34 zd_counts := fun h0 qs ks T n call hc av σ v h => by
  unfold zd_counts at h
  split at h
  next a x1 =>
    by_cases e : a = h0
    · rw [if_pos e] at h
      subst e
      exact ⟨_, zm_counts, Nat.le_of_ble_eq_true rfl, fun X hX => pb_counts hX hc h⟩
    · rw [if_neg e] at h; cases h
  next => cases h
def zd_uses (n : Nat) (call : zCl) (h0 : Nat) (qs : List Nat) (ks : Nat → Nat) (av : List Value) (σ : zSt) : zRs := match av with
  | [.ref a, .int x1] => if a = h0 then b_uses n call h0 qs ks x1 σ else none
  | _ => none
set_option maxHeartbeats 1000000 in
theorem zd_uses_ok : zOk 35 zd_uses := fun h0 qs ks T n call hc av σ v h => by
  unfold zd_uses at h
  split at h
  next a x1 =>
    by_cases e : a = h0
    · rw [if_pos e] at h
      subst e
      exact ⟨_, zm_uses, Nat.le_of_ble_eq_true rfl, fun X hX => pb_uses hX hc h⟩
    · rw [if_neg e] at h; cases h
  next => cases h
def zd_namesOfSum (n : Nat) (call : zCl) (h0 : Nat) (qs : List Nat) (ks : Nat → Nat) (av : List Value) (σ : zSt) : zRs := match av with
  | [.ref a, .int x1] => if a = h0 then b_namesOfSum n call h0 qs ks x1 σ else none
  | _ => none
set_option maxHeartbeats 1000000 in
theorem zd_namesOfSum_ok : zOk 36 zd_namesOfSum := fun h0 qs ks T n call hc av σ v h => by
  unfold zd_namesOfSum at h
  split at h
  next a x1 =>
    by_cases e : a = h0
    · rw [if_pos e] at h
      subst e
      exact ⟨_, zm_namesOfSum, Nat.le_of_ble_eq_true rfl, fun X hX => pb_namesOfSum hX hc h⟩
    · rw [if_neg e] at h; cases h
  next => cases h
def zd_namesOfCondition (n : Nat) (call : zCl) (h0 : Nat) (qs : List Nat) (ks : Nat → Nat) (av : List Value) (σ : zSt) : zRs := match av with
  | [.ref a, .int x1] => if a = h0 then b_namesOfCondition n call h0 qs ks x1 σ else none
  | _ => none
set_option maxHeartbeats 1000000 in
theorem zd_namesOfCondition_ok : zOk 37 zd_namesOfCondition := fun h0 qs ks T n call hc av σ v h => by
  unfold zd_namesOfCondition at h
  split at h
  next a x1 =>
    by_cases e : a = h0
    · rw [if_pos e] at h
      subst e
      exact ⟨_, zm_namesOfCondition, Nat.le_of_ble_eq_true rfl, fun X hX => pb_namesOfCondition hX hc h⟩
    · rw [if_neg e] at h; cases h
  next => cases h
def zd_parameters (n : Nat) (call : zCl) (h0 : Nat) (qs : List Nat) (ks : Nat → Nat) (av : List Value) (σ : zSt) : zRs := match av with
  | [.ref a, .int x1] => if a = h0 then b_parameters n call h0 qs ks x1 σ else none
  | _ => none
set_option maxHeartbeats 1000000 in
theorem zd_parameters_ok : zOk 38 zd_parameters := fun h0 qs ks T n call hc av σ v h => by
  unfold zd_parameters at h
  split at h
  next a x1 =>
    by_cases e : a = h0
    · rw [if_pos e] at h
      subst e
      exact ⟨_, zm_parameters, Nat.le_of_ble_eq_true rfl, fun X hX => pb_parameters hX hc h⟩
    · rw [if_neg e] at h; cases h
  next => cases h
def zd_namesOf (n : Nat) (call : zCl) (h0 : Nat) (qs : List Nat) (ks : Nat → Nat) (av : List Value) (σ : zSt) : zRs := match av with
  | [.ref a, .int x1] => if a = h0 then b_namesOf n call h0 qs ks x1 σ else none
  | _ => none
set_option maxHeartbeats 1000000 in
theorem zd_namesOf_ok : zOk 39 zd_namesOf := fun h0 qs ks T n call hc av σ v h => by
  unfold zd_namesOf at h
  split at h
  next a x1 =>
    by_cases e : a = h0
    · rw [if_pos e] at h
      subst e
      exact ⟨_, zm_namesOf, Nat.le_of_ble_eq_true rfl, fun X hX => pb_namesOf hX hc h⟩
    · rw [if_neg e] at h; cases h
  next => cases h
def zd_newType (n : Nat) (call : zCl) (h0 : Nat) (qs : List Nat) (ks : Nat → Nat) (av : List Value) (σ : zSt) : zRs := match av with
  | [.ref a, .int x1, .int x2, .int x3] => if a = h0 then b_newType n call h0 qs ks x1 x2 x3 σ else none
  | _ => none
set_option maxHeartbeats 1000000 in
theorem zd_newType_ok : zOk 40 zd_newType := fun h0 qs ks T n call hc av σ v h => by
  unfold zd_newType at h
  split at h
  next a x1 x2 x3 =>
    by_cases e : a = h0
    · rw [if_pos e] at h
      subst e
      exact ⟨_, zm_newType, Nat.le_of_ble_eq_true rfl, fun X hX => pb_newType hX hc h⟩
    · rw [if_neg e] at h; cases h
  next => cases h
def zd_openType (n : Nat) (call : zCl) (h0 : Nat) (qs : List Nat) (ks : Nat → Nat) (av : List Value) (σ : zSt) : zRs := match av with
  | [.ref a] => if a = h0 then b_openType n call h0 qs ks σ else none
  | _ => none
set_option maxHeartbeats 1000000 in
theorem zd_openType_ok : zOk 41 zd_openType := fun h0 qs ks T n call hc av σ v h => by
  unfold zd_openType at h
  split at h
  next a =>
    by_cases e : a = h0
    · rw [if_pos e] at h
      subst e
      exact ⟨_, zm_openType, Nat.le_of_ble_eq_true rfl, fun X hX => pb_openType hX hc h⟩
    · rw [if_neg e] at h; cases h
  next => cases h
def zd_real (n : Nat) (call : zCl) (h0 : Nat) (qs : List Nat) (ks : Nat → Nat) (av : List Value) (σ : zSt) : zRs := match av with
  | [.ref a, .int x1] => if a = h0 then b_real n call h0 qs ks x1 σ else none
  | _ => none
set_option maxHeartbeats 1000000 in
theorem zd_real_ok : zOk 42 zd_real := fun h0 qs ks T n call hc av σ v h => by
  unfold zd_real at h
  split at h
  next a x1 =>
    by_cases e : a = h0
    · rw [if_pos e] at h
      subst e
      exact ⟨_, zm_real, Nat.le_of_ble_eq_true rfl, fun X hX => pb_real hX hc h⟩
    · rw [if_neg e] at h; cases h
  next => cases h
def zd_isIn (n : Nat) (call : zCl) (h0 : Nat) (qs : List Nat) (ks : Nat → Nat) (av : List Value) (σ : zSt) : zRs := match av with
  | [.ref a, .int x1, .int x2] => if a = h0 then b_isIn n call h0 qs ks x1 x2 σ else none
  | _ => none
set_option maxHeartbeats 1000000 in
theorem zd_isIn_ok : zOk 43 zd_isIn := fun h0 qs ks T n call hc av σ v h => by
  unfold zd_isIn at h
  split at h
  next a x1 x2 =>
    by_cases e : a = h0
    · rw [if_pos e] at h
      subst e
      exact ⟨_, zm_isIn, Nat.le_of_ble_eq_true rfl, fun X hX => pb_isIn hX hc h⟩
    · rw [if_neg e] at h; cases h
  next => cases h
def zd_join (n : Nat) (call : zCl) (h0 : Nat) (qs : List Nat) (ks : Nat → Nat) (av : List Value) (σ : zSt) : zRs := match av with
  | [.ref a, .int x1, .int x2] => if a = h0 then b_join n call h0 qs ks x1 x2 σ else none
  | _ => none
set_option maxHeartbeats 1000000 in
theorem zd_join_ok : zOk 44 zd_join := fun h0 qs ks T n call hc av σ v h => by
  unfold zd_join at h
  split at h
  next a x1 x2 =>
    by_cases e : a = h0
    · rw [if_pos e] at h
      subst e
      exact ⟨_, zm_join, Nat.le_of_ble_eq_true rfl, fun X hX => pb_join hX hc h⟩
    · rw [if_neg e] at h; cases h
  next => cases h
def zd_mustBe (n : Nat) (call : zCl) (h0 : Nat) (qs : List Nat) (ks : Nat → Nat) (av : List Value) (σ : zSt) : zRs := match av with
  | [.ref a, .int x1, .int x2, .int x3] => if a = h0 then b_mustBe n call h0 qs ks x1 x2 x3 σ else none
  | _ => none
set_option maxHeartbeats 1000000 in
theorem zd_mustBe_ok : zOk 45 zd_mustBe := fun h0 qs ks T n call hc av σ v h => by
  unfold zd_mustBe at h
  split at h
  next a x1 x2 x3 =>
    by_cases e : a = h0
    · rw [if_pos e] at h
      subst e
      exact ⟨_, zm_mustBe, Nat.le_of_ble_eq_true rfl, fun X hX => pb_mustBe hX hc h⟩
    · rw [if_neg e] at h; cases h
  next => cases h
def zd_typesOfSum (n : Nat) (call : zCl) (h0 : Nat) (qs : List Nat) (ks : Nat → Nat) (av : List Value) (σ : zSt) : zRs := match av with
  | [.ref a, .int x1] => if a = h0 then b_typesOfSum n call h0 qs ks x1 σ else none
  | _ => none
set_option maxHeartbeats 1000000 in
theorem zd_typesOfSum_ok : zOk 46 zd_typesOfSum := fun h0 qs ks T n call hc av σ v h => by
  unfold zd_typesOfSum at h
  split at h
  next a x1 =>
    by_cases e : a = h0
    · rw [if_pos e] at h
      subst e
      exact ⟨_, zm_typesOfSum, Nat.le_of_ble_eq_true rfl, fun X hX => pb_typesOfSum hX hc h⟩
    · rw [if_neg e] at h; cases h
  next => cases h
def zd_typesOfCondition (n : Nat) (call : zCl) (h0 : Nat) (qs : List Nat) (ks : Nat → Nat) (av : List Value) (σ : zSt) : zRs := match av with
  | [.ref a, .int x1] => if a = h0 then b_typesOfCondition n call h0 qs ks x1 σ else none
  | _ => none
set_option maxHeartbeats 1000000 in
theorem zd_typesOfCondition_ok : zOk 47 zd_typesOfCondition := fun h0 qs ks T n call hc av σ v h => by
  unfold zd_typesOfCondition at h
  split at h
  next a x1 =>
    by_cases e : a = h0
    · rw [if_pos e] at h
      subst e
      exact ⟨_, zm_typesOfCondition, Nat.le_of_ble_eq_true rfl, fun X hX => pb_typesOfCondition hX hc h⟩
    · rw [if_neg e] at h; cases h
  next => cases h
def zd_isName (n : Nat) (call : zCl) (h0 : Nat) (qs : List Nat) (ks : Nat → Nat) (av : List Value) (σ : zSt) : zRs := match av with
  | [.ref a, .int x1] => if a = h0 then b_isName n call h0 qs ks x1 σ else none
  | _ => none
set_option maxHeartbeats 1000000 in
theorem zd_isName_ok : zOk 48 zd_isName := fun h0 qs ks T n call hc av σ v h => by
  unfold zd_isName at h
  split at h
  next a x1 =>
    by_cases e : a = h0
    · rw [if_pos e] at h
      subst e
      exact ⟨_, zm_isName, Nat.le_of_ble_eq_true rfl, fun X hX => pb_isName hX hc h⟩
    · rw [if_neg e] at h; cases h
  next => cases h
def zd_typeOf (n : Nat) (call : zCl) (h0 : Nat) (qs : List Nat) (ks : Nat → Nat) (av : List Value) (σ : zSt) : zRs := match av with
  | [.ref a, .int x1] => if a = h0 then b_typeOf n call h0 qs ks x1 σ else none
  | _ => none
set_option maxHeartbeats 1000000 in
theorem zd_typeOf_ok : zOk 49 zd_typeOf := fun h0 qs ks T n call hc av σ v h => by
  unfold zd_typeOf at h
  split at h
  next a x1 =>
    by_cases e : a = h0
    · rw [if_pos e] at h
      subst e
      exact ⟨_, zm_typeOf, Nat.le_of_ble_eq_true rfl, fun X hX => pb_typeOf hX hc h⟩
    · rw [if_neg e] at h; cases h
  next => cases h
def zd_typeOfCall (n : Nat) (call : zCl) (h0 : Nat) (qs : List Nat) (ks : Nat → Nat) (av : List Value) (σ : zSt) : zRs := match av with
  | [.ref a, .int x1] => if a = h0 then b_typeOfCall n call h0 qs ks x1 σ else none
  | _ => none
set_option maxHeartbeats 1000000 in
theorem zd_typeOfCall_ok : zOk 50 zd_typeOfCall := fun h0 qs ks T n call hc av σ v h => by
  unfold zd_typeOfCall at h
  split at h
  next a x1 =>
    by_cases e : a = h0
    · rw [if_pos e] at h
      subst e
      exact ⟨_, zm_typeOfCall, Nat.le_of_ble_eq_true rfl, fun X hX => pb_typeOfCall hX hc h⟩
    · rw [if_neg e] at h; cases h
  next => cases h
def zd_typed (n : Nat) (call : zCl) (h0 : Nat) (qs : List Nat) (ks : Nat → Nat) (av : List Value) (σ : zSt) : zRs := match av with
  | [.ref a, .int x1] => if a = h0 then b_typed n call h0 qs ks x1 σ else none
  | _ => none
set_option maxHeartbeats 1000000 in
theorem zd_typed_ok : zOk 51 zd_typed := fun h0 qs ks T n call hc av σ v h => by
  unfold zd_typed at h
  split at h
  next a x1 =>
    by_cases e : a = h0
    · rw [if_pos e] at h
      subst e
      exact ⟨_, zm_typed, Nat.le_of_ble_eq_true rfl, fun X hX => pb_typed hX hc h⟩
    · rw [if_neg e] at h; cases h
  next => cases h
def zd_sort (n : Nat) (call : zCl) (h0 : Nat) (qs : List Nat) (ks : Nat → Nat) (av : List Value) (σ : zSt) : zRs := match av with
  | [.ref a, .int x1] => if a = h0 then b_sort n call h0 qs ks x1 σ else none
  | _ => none
set_option maxHeartbeats 1000000 in
theorem zd_sort_ok : zOk 52 zd_sort := fun h0 qs ks T n call hc av σ v h => by
  unfold zd_sort at h
  split at h
  next a x1 =>
    by_cases e : a = h0
    · rw [if_pos e] at h
      subst e
      exact ⟨_, zm_sort, Nat.le_of_ble_eq_true rfl, fun X hX => pb_sort hX hc h⟩
    · rw [if_neg e] at h; cases h
  next => cases h
def zd_clearLine (n : Nat) (call : zCl) (h0 : Nat) (qs : List Nat) (ks : Nat → Nat) (av : List Value) (σ : zSt) : zRs := match av with
  | [.ref a] => if a = h0 then b_clearLine n call h0 qs ks σ else none
  | _ => none
set_option maxHeartbeats 1000000 in
theorem zd_clearLine_ok : zOk 53 zd_clearLine := fun h0 qs ks T n call hc av σ v h => by
  unfold zd_clearLine at h
  split at h
  next a =>
    by_cases e : a = h0
    · rw [if_pos e] at h
      subst e
      exact ⟨_, zm_clearLine, Nat.le_of_ble_eq_true rfl, fun X hX => pb_clearLine hX hc h⟩
    · rw [if_neg e] at h; cases h
  next => cases h
def zd_addName (n : Nat) (call : zCl) (h0 : Nat) (qs : List Nat) (ks : Nat → Nat) (av : List Value) (σ : zSt) : zRs := match av with
  | [.ref a, .int x1, .int x2] => if a = h0 then b_addName n call h0 qs ks x1 x2 σ else none
  | _ => none
set_option maxHeartbeats 1000000 in
theorem zd_addName_ok : zOk 54 zd_addName := fun h0 qs ks T n call hc av σ v h => by
  unfold zd_addName at h
  split at h
  next a x1 x2 =>
    by_cases e : a = h0
    · rw [if_pos e] at h
      subst e
      exact ⟨_, zm_addName, Nat.le_of_ble_eq_true rfl, fun X hX => pb_addName hX hc h⟩
    · rw [if_neg e] at h; cases h
  next => cases h
def zd_addSum (n : Nat) (call : zCl) (h0 : Nat) (qs : List Nat) (ks : Nat → Nat) (av : List Value) (σ : zSt) : zRs := match av with
  | [.ref a, .int x1, .int x2] => if a = h0 then b_addSum n call h0 qs ks x1 x2 σ else none
  | _ => none
set_option maxHeartbeats 1000000 in
theorem zd_addSum_ok : zOk 55 zd_addSum := fun h0 qs ks T n call hc av σ v h => by
  unfold zd_addSum at h
  split at h
  next a x1 x2 =>
    by_cases e : a = h0
    · rw [if_pos e] at h
      subst e
      exact ⟨_, zm_addSum, Nat.le_of_ble_eq_true rfl, fun X hX => pb_addSum hX hc h⟩
    · rw [if_neg e] at h; cases h
  next => cases h
def zd_isForm (n : Nat) (call : zCl) (h0 : Nat) (qs : List Nat) (ks : Nat → Nat) (av : List Value) (σ : zSt) : zRs := match av with
  | [.ref a] => if a = h0 then b_isForm n call h0 qs ks σ else none
  | _ => none
set_option maxHeartbeats 1000000 in
theorem zd_isForm_ok : zOk 56 zd_isForm := fun h0 qs ks T n call hc av σ v h => by
  unfold zd_isForm at h
  split at h
  next a =>
    by_cases e : a = h0
    · rw [if_pos e] at h
      subst e
      exact ⟨_, zm_isForm, Nat.le_of_ble_eq_true rfl, fun X hX => pb_isForm hX hc h⟩
    · rw [if_neg e] at h; cases h
  next => cases h
def zd_isTerm (n : Nat) (call : zCl) (h0 : Nat) (qs : List Nat) (ks : Nat → Nat) (av : List Value) (σ : zSt) : zRs := match av with
  | [.ref a, .int x1] => if a = h0 then b_isTerm n call h0 qs ks x1 σ else none
  | _ => none
set_option maxHeartbeats 1000000 in
theorem zd_isTerm_ok : zOk 57 zd_isTerm := fun h0 qs ks T n call hc av σ v h => by
  unfold zd_isTerm at h
  split at h
  next a x1 =>
    by_cases e : a = h0
    · rw [if_pos e] at h
      subst e
      exact ⟨_, zm_isTerm, Nat.le_of_ble_eq_true rfl, fun X hX => pb_isTerm hX hc h⟩
    · rw [if_neg e] at h; cases h
  next => cases h
def zd_wrongForm (n : Nat) (call : zCl) (h0 : Nat) (qs : List Nat) (ks : Nat → Nat) (av : List Value) (σ : zSt) : zRs := match av with
  | [.ref a, .int x1] => if a = h0 then b_wrongForm n call h0 qs ks x1 σ else none
  | _ => none
set_option maxHeartbeats 1000000 in
theorem zd_wrongForm_ok : zOk 58 zd_wrongForm := fun h0 qs ks T n call hc av σ v h => by
  unfold zd_wrongForm at h
  split at h
  next a x1 =>
    by_cases e : a = h0
    · rw [if_pos e] at h
      subst e
      exact ⟨_, zm_wrongForm, Nat.le_of_ble_eq_true rfl, fun X hX => pb_wrongForm hX hc h⟩
    · rw [if_neg e] at h; cases h
  next => cases h
def zd_count (n : Nat) (call : zCl) (h0 : Nat) (qs : List Nat) (ks : Nat → Nat) (av : List Value) (σ : zSt) : zRs := match av with
  | [.ref a, .int x1] => if a = h0 then b_count n call h0 qs ks x1 σ else none
  | _ => none
set_option maxHeartbeats 1000000 in
theorem zd_count_ok : zOk 59 zd_count := fun h0 qs ks T n call hc av σ v h => by
  unfold zd_count at h
  split at h
  next a x1 =>
    by_cases e : a = h0
    · rw [if_pos e] at h
      subst e
      exact ⟨_, zm_count, Nat.le_of_ble_eq_true rfl, fun X hX => pb_count hX hc h⟩
    · rw [if_neg e] at h; cases h
  next => cases h
def zd_formsOfCondition (n : Nat) (call : zCl) (h0 : Nat) (qs : List Nat) (ks : Nat → Nat) (av : List Value) (σ : zSt) : zRs := match av with
  | [.ref a, .int x1] => if a = h0 then b_formsOfCondition n call h0 qs ks x1 σ else none
  | _ => none
set_option maxHeartbeats 1000000 in
theorem zd_formsOfCondition_ok : zOk 60 zd_formsOfCondition := fun h0 qs ks T n call hc av σ v h => by
  unfold zd_formsOfCondition at h
  split at h
  next a x1 =>
    by_cases e : a = h0
    · rw [if_pos e] at h
      subst e
      exact ⟨_, zm_formsOfCondition, Nat.le_of_ble_eq_true rfl, fun X hX => pb_formsOfCondition hX hc h⟩
    · rw [if_neg e] at h; cases h
  next => cases h
def zd_leaves (n : Nat) (call : zCl) (h0 : Nat) (qs : List Nat) (ks : Nat → Nat) (av : List Value) (σ : zSt) : zRs := match av with
  | [.ref a, .int x1, .int x2] => if a = h0 then b_leaves n call h0 qs ks x1 x2 σ else none
  | _ => none
set_option maxHeartbeats 1000000 in
theorem zd_leaves_ok : zOk 61 zd_leaves := fun h0 qs ks T n call hc av σ v h => by
  unfold zd_leaves at h
  split at h
  next a x1 x2 =>
    by_cases e : a = h0
    · rw [if_pos e] at h
      subst e
      exact ⟨_, zm_leaves, Nat.le_of_ble_eq_true rfl, fun X hX => pb_leaves hX hc h⟩
    · rw [if_neg e] at h; cases h
  next => cases h
def zd_wants (n : Nat) (call : zCl) (h0 : Nat) (qs : List Nat) (ks : Nat → Nat) (av : List Value) (σ : zSt) : zRs := match av with
  | [.ref a, .int x1, .int x2] => if a = h0 then b_wants n call h0 qs ks x1 x2 σ else none
  | _ => none
set_option maxHeartbeats 1000000 in
theorem zd_wants_ok : zOk 62 zd_wants := fun h0 qs ks T n call hc av σ v h => by
  unfold zd_wants at h
  split at h
  next a x1 x2 =>
    by_cases e : a = h0
    · rw [if_pos e] at h
      subst e
      exact ⟨_, zm_wants, Nat.le_of_ble_eq_true rfl, fun X hX => pb_wants hX hc h⟩
    · rw [if_neg e] at h; cases h
  next => cases h
def zd_formsOf (n : Nat) (call : zCl) (h0 : Nat) (qs : List Nat) (ks : Nat → Nat) (av : List Value) (σ : zSt) : zRs := match av with
  | [.ref a, .int x1, .int x2] => if a = h0 then b_formsOf n call h0 qs ks x1 x2 σ else none
  | _ => none
set_option maxHeartbeats 1000000 in
theorem zd_formsOf_ok : zOk 63 zd_formsOf := fun h0 qs ks T n call hc av σ v h => by
  unfold zd_formsOf at h
  split at h
  next a x1 x2 =>
    by_cases e : a = h0
    · rw [if_pos e] at h
      subst e
      exact ⟨_, zm_formsOf, Nat.le_of_ble_eq_true rfl, fun X hX => pb_formsOf hX hc h⟩
    · rw [if_neg e] at h; cases h
  next => cases h
def zd_check (n : Nat) (call : zCl) (h0 : Nat) (qs : List Nat) (ks : Nat → Nat) (av : List Value) (σ : zSt) : zRs := match av with
  | [.ref a] => if a = h0 then b_check n call h0 qs ks σ else none
  | _ => none
set_option maxHeartbeats 1000000 in
theorem zd_check_ok : zOk 64 zd_check := fun h0 qs ks T n call hc av σ v h => by
  unfold zd_check at h
  split at h
  next a =>
    by_cases e : a = h0
    · rw [if_pos e] at h
      subst e
      exact ⟨_, zm_check, Nat.le_of_ble_eq_true rfl, fun X hX => pb_check hX hc h⟩
    · rw [if_neg e] at h; cases h
  next => cases h
def zd_compile (n : Nat) (call : zCl) (h0 : Nat) (qs : List Nat) (ks : Nat → Nat) (av : List Value) (σ : zSt) : zRs := match av with
  | [.ref a] => if a = h0 then b_compile n call h0 qs ks σ else none
  | _ => none
set_option maxHeartbeats 1000000 in
theorem zd_compile_ok : zOk 65 zd_compile := fun h0 qs ks T n call hc av σ v h => by
  unfold zd_compile at h
  split at h
  next a =>
    by_cases e : a = h0
    · rw [if_pos e] at h
      subst e
      exact ⟨_, zm_compile, Nat.le_of_ble_eq_true rfl, fun X hX => pb_compile hX hc h⟩
    · rw [if_neg e] at h; cases h
  next => cases h
def zd_place (n : Nat) (call : zCl) (h0 : Nat) (qs : List Nat) (ks : Nat → Nat) (av : List Value) (σ : zSt) : zRs := match av with
  | [.ref a] => if a = h0 then b_place n call h0 qs ks σ else none
  | _ => none
set_option maxHeartbeats 1000000 in
theorem zd_place_ok : zOk 66 zd_place := fun h0 qs ks T n call hc av σ v h => by
  unfold zd_place at h
  split at h
  next a =>
    by_cases e : a = h0
    · rw [if_pos e] at h
      subst e
      exact ⟨_, zm_place, Nat.le_of_ble_eq_true rfl, fun X hX => pb_place hX hc h⟩
    · rw [if_neg e] at h; cases h
  next => cases h
def zd_rich (n : Nat) (call : zCl) (h0 : Nat) (qs : List Nat) (ks : Nat → Nat) (av : List Value) (σ : zSt) : zRs := match av with
  | [.ref a, .int x1, .int x2, .int x3, .int x4, .int x5] => if a = h0 then b_rich n call h0 qs ks x1 x2 x3 x4 x5 σ else none
  | _ => none
set_option maxHeartbeats 1000000 in
theorem zd_rich_ok : zOk 67 zd_rich := fun h0 qs ks T n call hc av σ v h => by
  unfold zd_rich at h
  split at h
  next a x1 x2 x3 x4 x5 =>
    by_cases e : a = h0
    · rw [if_pos e] at h
      subst e
      exact ⟨_, zm_rich, Nat.le_of_ble_eq_true rfl, fun X hX => pb_rich hX hc h⟩
    · rw [if_neg e] at h; cases h
  next => cases h
def zd_said (n : Nat) (call : zCl) (h0 : Nat) (qs : List Nat) (ks : Nat → Nat) (av : List Value) (σ : zSt) : zRs := match av with
  | [.ref a, .int x1, .int x2, .int x3] => if a = h0 then b_said n call h0 qs ks x1 x2 x3 σ else none
  | _ => none
set_option maxHeartbeats 1000000 in
theorem zd_said_ok : zOk 68 zd_said := fun h0 qs ks T n call hc av σ v h => by
  unfold zd_said at h
  split at h
  next a x1 x2 x3 =>
    by_cases e : a = h0
    · rw [if_pos e] at h
      subst e
      exact ⟨_, zm_said, Nat.le_of_ble_eq_true rfl, fun X hX => pb_said hX hc h⟩
    · rw [if_neg e] at h; cases h
  next => cases h
def zd_fact (n : Nat) (call : zCl) (h0 : Nat) (qs : List Nat) (ks : Nat → Nat) (av : List Value) (σ : zSt) : zRs := match av with
  | [.ref a, .int x1, .int x2, .int x3, .long x4, .int x6] => if a = h0 then b_fact n call h0 qs ks x1 x2 x3 x4 x6 σ else none
  | _ => none
set_option maxHeartbeats 1000000 in
theorem zd_fact_ok : zOk 69 zd_fact := fun h0 qs ks T n call hc av σ v h => by
  unfold zd_fact at h
  split at h
  next a x1 x2 x3 x4 x6 =>
    by_cases e : a = h0
    · rw [if_pos e] at h
      subst e
      exact ⟨_, zm_fact, Nat.le_of_ble_eq_true rfl, fun X hX => pb_fact hX hc h⟩
    · rw [if_neg e] at h; cases h
  next => cases h
def zd_isSum (n : Nat) (call : zCl) (h0 : Nat) (qs : List Nat) (ks : Nat → Nat) (av : List Value) (σ : zSt) : zRs := match av with
  | [.ref a, .int x1] => if a = h0 then b_isSum n call h0 qs ks x1 σ else none
  | _ => none
set_option maxHeartbeats 1000000 in
theorem zd_isSum_ok : zOk 70 zd_isSum := fun h0 qs ks T n call hc av σ v h => by
  unfold zd_isSum at h
  split at h
  next a x1 =>
    by_cases e : a = h0
    · rw [if_pos e] at h
      subst e
      exact ⟨_, zm_isSum, Nat.le_of_ble_eq_true rfl, fun X hX => pb_isSum hX hc h⟩
    · rw [if_neg e] at h; cases h
  next => cases h
def zd_isSaid (n : Nat) (call : zCl) (h0 : Nat) (qs : List Nat) (ks : Nat → Nat) (av : List Value) (σ : zSt) : zRs := match av with
  | [.int x0] => b_isSaid n call h0 qs ks x0 σ
  | _ => none
set_option maxHeartbeats 1000000 in
theorem zd_isSaid_ok : zOk 71 zd_isSaid := fun h0 qs ks T n call hc av σ v h => by
  unfold zd_isSaid at h
  split at h
  next x0 =>
    exact ⟨_, zm_isSaid, Nat.le_of_ble_eq_true rfl, fun X hX => pb_isSaid hX hc h⟩
  next => cases h
def zd_plainType (n : Nat) (call : zCl) (h0 : Nat) (qs : List Nat) (ks : Nat → Nat) (av : List Value) (σ : zSt) : zRs := match av with
  | [.ref a, .int x1] => if a = h0 then b_plainType n call h0 qs ks x1 σ else none
  | _ => none
set_option maxHeartbeats 1000000 in
theorem zd_plainType_ok : zOk 72 zd_plainType := fun h0 qs ks T n call hc av σ v h => by
  unfold zd_plainType at h
  split at h
  next a x1 =>
    by_cases e : a = h0
    · rw [if_pos e] at h
      subst e
      exact ⟨_, zm_plainType, Nat.le_of_ble_eq_true rfl, fun X hX => pb_plainType hX hc h⟩
    · rw [if_neg e] at h; cases h
  next => cases h
def zd_knows (n : Nat) (call : zCl) (h0 : Nat) (qs : List Nat) (ks : Nat → Nat) (av : List Value) (σ : zSt) : zRs := match av with
  | [.ref a, .int x1, .int x2, .int x3] => if a = h0 then b_knows n call h0 qs ks x1 x2 x3 σ else none
  | _ => none
set_option maxHeartbeats 1000000 in
theorem zd_knows_ok : zOk 73 zd_knows := fun h0 qs ks T n call hc av σ v h => by
  unfold zd_knows at h
  split at h
  next a x1 x2 x3 =>
    by_cases e : a = h0
    · rw [if_pos e] at h
      subst e
      exact ⟨_, zm_knows, Nat.le_of_ble_eq_true rfl, fun X hX => pb_knows hX hc h⟩
    · rw [if_neg e] at h; cases h
  next => cases h
def zd_gone (n : Nat) (call : zCl) (h0 : Nat) (qs : List Nat) (ks : Nat → Nat) (av : List Value) (σ : zSt) : zRs := match av with
  | [.ref a, .int x1, .int x2, .int x3] => if a = h0 then b_gone n call h0 qs ks x1 x2 x3 σ else none
  | _ => none
set_option maxHeartbeats 1000000 in
theorem zd_gone_ok : zOk 74 zd_gone := fun h0 qs ks T n call hc av σ v h => by
  unfold zd_gone at h
  split at h
  next a x1 x2 x3 =>
    by_cases e : a = h0
    · rw [if_pos e] at h
      subst e
      exact ⟨_, zm_gone, Nat.le_of_ble_eq_true rfl, fun X hX => pb_gone hX hc h⟩
    · rw [if_neg e] at h; cases h
  next => cases h
def zd_namesAt (n : Nat) (call : zCl) (h0 : Nat) (qs : List Nat) (ks : Nat → Nat) (av : List Value) (σ : zSt) : zRs := match av with
  | [.ref a, .int x1] => if a = h0 then b_namesAt n call h0 qs ks x1 σ else none
  | _ => none
set_option maxHeartbeats 1000000 in
theorem zd_namesAt_ok : zOk 75 zd_namesAt := fun h0 qs ks T n call hc av σ v h => by
  unfold zd_namesAt at h
  split at h
  next a x1 =>
    by_cases e : a = h0
    · rw [if_pos e] at h
      subst e
      exact ⟨_, zm_namesAt, Nat.le_of_ble_eq_true rfl, fun X hX => pb_namesAt hX hc h⟩
    · rw [if_neg e] at h; cases h
  next => cases h
def zd_template (n : Nat) (call : zCl) (h0 : Nat) (qs : List Nat) (ks : Nat → Nat) (av : List Value) (σ : zSt) : zRs := match av with
  | [.ref a, .int x1, .int x2, .int x3] => if a = h0 then b_template n call h0 qs ks x1 x2 x3 σ else none
  | _ => none
set_option maxHeartbeats 1000000 in
theorem zd_template_ok : zOk 76 zd_template := fun h0 qs ks T n call hc av σ v h => by
  unfold zd_template at h
  split at h
  next a x1 x2 x3 =>
    by_cases e : a = h0
    · rw [if_pos e] at h
      subst e
      exact ⟨_, zm_template, Nat.le_of_ble_eq_true rfl, fun X hX => pb_template hX hc h⟩
    · rw [if_neg e] at h; cases h
  next => cases h
def zd_put (n : Nat) (call : zCl) (h0 : Nat) (qs : List Nat) (ks : Nat → Nat) (av : List Value) (σ : zSt) : zRs := match av with
  | [.ref a, .int x1, .int x2, .int x3, .int x4, .long x5] => if a = h0 then b_put n call h0 qs ks x1 x2 x3 x4 x5 σ else none
  | _ => none
set_option maxHeartbeats 1000000 in
theorem zd_put_ok : zOk 77 zd_put := fun h0 qs ks T n call hc av σ v h => by
  unfold zd_put at h
  split at h
  next a x1 x2 x3 x4 x5 =>
    by_cases e : a = h0
    · rw [if_pos e] at h
      subst e
      exact ⟨_, zm_put, Nat.le_of_ble_eq_true rfl, fun X hX => pb_put hX hc h⟩
    · rw [if_neg e] at h; cases h
  next => cases h
def zd_mustFit (n : Nat) (call : zCl) (h0 : Nat) (qs : List Nat) (ks : Nat → Nat) (av : List Value) (σ : zSt) : zRs := match av with
  | [.ref a, .int x1, .int x2, .int x3, .int x4] => if a = h0 then b_mustFit n call h0 qs ks x1 x2 x3 x4 σ else none
  | _ => none
set_option maxHeartbeats 1000000 in
theorem zd_mustFit_ok : zOk 78 zd_mustFit := fun h0 qs ks T n call hc av σ v h => by
  unfold zd_mustFit at h
  split at h
  next a x1 x2 x3 x4 =>
    by_cases e : a = h0
    · rw [if_pos e] at h
      subst e
      exact ⟨_, zm_mustFit, Nat.le_of_ble_eq_true rfl, fun X hX => pb_mustFit hX hc h⟩
    · rw [if_neg e] at h; cases h
  next => cases h
def zd_mustBeSo (n : Nat) (call : zCl) (h0 : Nat) (qs : List Nat) (ks : Nat → Nat) (av : List Value) (σ : zSt) : zRs := match av with
  | [.ref a, .int x1, .int x2, .int x3, .int x4, .int x5, .int x6] => if a = h0 then b_mustBeSo n call h0 qs ks x1 x2 x3 x4 x5 x6 σ else none
  | _ => none
set_option maxHeartbeats 1000000 in
theorem zd_mustBeSo_ok : zOk 79 zd_mustBeSo := fun h0 qs ks T n call hc av σ v h => by
  unfold zd_mustBeSo at h
  split at h
  next a x1 x2 x3 x4 x5 x6 =>
    by_cases e : a = h0
    · rw [if_pos e] at h
      subst e
      exact ⟨_, zm_mustBeSo, Nat.le_of_ble_eq_true rfl, fun X hX => pb_mustBeSo hX hc h⟩
    · rw [if_neg e] at h; cases h
  next => cases h
def zd_ofName (n : Nat) (call : zCl) (h0 : Nat) (qs : List Nat) (ks : Nat → Nat) (av : List Value) (σ : zSt) : zRs := match av with
  | [.ref a, .int x1] => if a = h0 then b_ofName n call h0 qs ks x1 σ else none
  | _ => none
set_option maxHeartbeats 1000000 in
theorem zd_ofName_ok : zOk 80 zd_ofName := fun h0 qs ks T n call hc av σ v h => by
  unfold zd_ofName at h
  split at h
  next a x1 =>
    by_cases e : a = h0
    · rw [if_pos e] at h
      subst e
      exact ⟨_, zm_ofName, Nat.le_of_ble_eq_true rfl, fun X hX => pb_ofName hX hc h⟩
    · rw [if_neg e] at h; cases h
  next => cases h
def zd_ofSign (n : Nat) (call : zCl) (h0 : Nat) (qs : List Nat) (ks : Nat → Nat) (av : List Value) (σ : zSt) : zRs := match av with
  | [.ref a, .int x1, .int x2, .int x3] => if a = h0 then b_ofSign n call h0 qs ks x1 x2 x3 σ else none
  | _ => none
set_option maxHeartbeats 1000000 in
theorem zd_ofSign_ok : zOk 81 zd_ofSign := fun h0 qs ks T n call hc av σ v h => by
  unfold zd_ofSign at h
  split at h
  next a x1 x2 x3 =>
    by_cases e : a = h0
    · rw [if_pos e] at h
      subst e
      exact ⟨_, zm_ofSign, Nat.le_of_ble_eq_true rfl, fun X hX => pb_ofSign hX hc h⟩
    · rw [if_neg e] at h; cases h
  next => cases h
def zd_ofCall (n : Nat) (call : zCl) (h0 : Nat) (qs : List Nat) (ks : Nat → Nat) (av : List Value) (σ : zSt) : zRs := match av with
  | [.ref a, .int x1, .int x2, .int x3] => if a = h0 then b_ofCall n call h0 qs ks x1 x2 x3 σ else none
  | _ => none
set_option maxHeartbeats 1000000 in
theorem zd_ofCall_ok : zOk 82 zd_ofCall := fun h0 qs ks T n call hc av σ v h => by
  unfold zd_ofCall at h
  split at h
  next a x1 x2 x3 =>
    by_cases e : a = h0
    · rw [if_pos e] at h
      subst e
      exact ⟨_, zm_ofCall, Nat.le_of_ble_eq_true rfl, fun X hX => pb_ofCall hX hc h⟩
    · rw [if_neg e] at h; cases h
  next => cases h
def zd_richOf (n : Nat) (call : zCl) (h0 : Nat) (qs : List Nat) (ks : Nat → Nat) (av : List Value) (σ : zSt) : zRs := match av with
  | [.ref a, .int x1, .int x2, .int x3] => if a = h0 then b_richOf n call h0 qs ks x1 x2 x3 σ else none
  | _ => none
set_option maxHeartbeats 1000000 in
theorem zd_richOf_ok : zOk 83 zd_richOf := fun h0 qs ks T n call hc av σ v h => by
  unfold zd_richOf at h
  split at h
  next a x1 x2 x3 =>
    by_cases e : a = h0
    · rw [if_pos e] at h
      subst e
      exact ⟨_, zm_richOf, Nat.le_of_ble_eq_true rfl, fun X hX => pb_richOf hX hc h⟩
    · rw [if_neg e] at h; cases h
  next => cases h
def zd_beginBounds (n : Nat) (call : zCl) (h0 : Nat) (qs : List Nat) (ks : Nat → Nat) (av : List Value) (σ : zSt) : zRs := match av with
  | [.ref a] => if a = h0 then b_beginBounds n call h0 qs ks σ else none
  | _ => none
set_option maxHeartbeats 1000000 in
theorem zd_beginBounds_ok : zOk 84 zd_beginBounds := fun h0 qs ks T n call hc av σ v h => by
  unfold zd_beginBounds at h
  split at h
  next a =>
    by_cases e : a = h0
    · rw [if_pos e] at h
      subst e
      exact ⟨_, zm_beginBounds, Nat.le_of_ble_eq_true rfl, fun X hX => pb_beginBounds hX hc h⟩
    · rw [if_neg e] at h; cases h
  next => cases h
def zd_columnOf (n : Nat) (call : zCl) (h0 : Nat) (qs : List Nat) (ks : Nat → Nat) (av : List Value) (σ : zSt) : zRs := match av with
  | [.ref a, .int x1] => if a = h0 then b_columnOf n call h0 qs ks x1 σ else none
  | _ => none
set_option maxHeartbeats 1000000 in
theorem zd_columnOf_ok : zOk 85 zd_columnOf := fun h0 qs ks T n call hc av σ v h => by
  unfold zd_columnOf at h
  split at h
  next a x1 =>
    by_cases e : a = h0
    · rw [if_pos e] at h
      subst e
      exact ⟨_, zm_columnOf, Nat.le_of_ble_eq_true rfl, fun X hX => pb_columnOf hX hc h⟩
    · rw [if_neg e] at h; cases h
  next => cases h
def zd_downwards (n : Nat) (call : zCl) (h0 : Nat) (qs : List Nat) (ks : Nat → Nat) (av : List Value) (σ : zSt) : zRs := match av with
  | [.long x0, .long x2] => b_downwards n call h0 qs ks x0 x2 σ
  | _ => none
set_option maxHeartbeats 1000000 in
theorem zd_downwards_ok : zOk 86 zd_downwards := fun h0 qs ks T n call hc av σ v h => by
  unfold zd_downwards at h
  split at h
  next x0 x2 =>
    exact ⟨_, zm_downwards, Nat.le_of_ble_eq_true rfl, fun X hX => pb_downwards hX hc h⟩
  next => cases h
def zd_lower (n : Nat) (call : zCl) (h0 : Nat) (qs : List Nat) (ks : Nat → Nat) (av : List Value) (σ : zSt) : zRs := match av with
  | [.ref a, .ref x1, .int x2, .int x3, .long x4] => if a = h0 then (if x1 = qs.getD 87 0 then b_lower_base n call h0 qs ks x2 x3 x4 σ else if x1 = qs.getD 88 0 then b_lower_bound n call h0 qs ks x2 x3 x4 σ else none) else none
  | _ => none
set_option maxHeartbeats 1000000 in
theorem zd_lower_ok : zOk 87 zd_lower := fun h0 qs ks T n call hc av σ v h => by
  unfold zd_lower at h
  split at h
  next a x1 x2 x3 x4 =>
    by_cases e : a = h0
    · rw [if_pos e] at h
      subst e
      by_cases e1 : x1 = qs.getD 87 0
      · rw [if_pos e1] at h
        subst e1
        exact ⟨_, zm_lower, Nat.le_of_ble_eq_true rfl, fun X hX => pb_lower_base hX hc h⟩
      · rw [if_neg e1] at h
        by_cases e2 : x1 = qs.getD 88 0
        · rw [if_pos e2] at h
          subst e2
          exact ⟨_, zm_lower, Nat.le_of_ble_eq_true rfl, fun X hX => pb_lower_bound hX hc h⟩
        · rw [if_neg e2] at h; cases h
    · rw [if_neg e] at h; cases h
  next => cases h
def zd_atMost (n : Nat) (call : zCl) (h0 : Nat) (qs : List Nat) (ks : Nat → Nat) (av : List Value) (σ : zSt) : zRs := match av with
  | [.ref a, .ref x1, .int x2, .int x3, .int x4, .int x5, .long x6] => if a = h0 then (if x1 = qs.getD 87 0 then b_atMost_base n call h0 qs ks x2 x3 x4 x5 x6 σ else if x1 = qs.getD 88 0 then b_atMost_bound n call h0 qs ks x2 x3 x4 x5 x6 σ else none) else none
  | _ => none
set_option maxHeartbeats 1000000 in
theorem zd_atMost_ok : zOk 88 zd_atMost := fun h0 qs ks T n call hc av σ v h => by
  unfold zd_atMost at h
  split at h
  next a x1 x2 x3 x4 x5 x6 =>
    by_cases e : a = h0
    · rw [if_pos e] at h
      subst e
      by_cases e1 : x1 = qs.getD 87 0
      · rw [if_pos e1] at h
        subst e1
        exact ⟨_, zm_atMost, Nat.le_of_ble_eq_true rfl, fun X hX => pb_atMost_base hX hc h⟩
      · rw [if_neg e1] at h
        by_cases e2 : x1 = qs.getD 88 0
        · rw [if_pos e2] at h
          subst e2
          exact ⟨_, zm_atMost, Nat.le_of_ble_eq_true rfl, fun X hX => pb_atMost_bound hX hc h⟩
        · rw [if_neg e2] at h; cases h
    · rw [if_neg e] at h; cases h
  next => cases h
def zd_closes (n : Nat) (call : zCl) (h0 : Nat) (qs : List Nat) (ks : Nat → Nat) (av : List Value) (σ : zSt) : zRs := match av with
  | [.ref a] => if a = h0 then b_closes n call h0 qs ks σ else none
  | _ => none
set_option maxHeartbeats 1000000 in
theorem zd_closes_ok : zOk 89 zd_closes := fun h0 qs ks T n call hc av σ v h => by
  unfold zd_closes at h
  split at h
  next a =>
    by_cases e : a = h0
    · rw [if_pos e] at h
      subst e
      exact ⟨_, zm_closes, Nat.le_of_ble_eq_true rfl, fun X hX => pb_closes hX hc h⟩
    · rw [if_neg e] at h; cases h
  next => cases h
def zd_says (n : Nat) (call : zCl) (h0 : Nat) (qs : List Nat) (ks : Nat → Nat) (av : List Value) (σ : zSt) : zRs := match av with
  | [.ref a, .int x1, .int x2, .int x3, .int x4, .long x5] => if a = h0 then b_says n call h0 qs ks x1 x2 x3 x4 x5 σ else none
  | _ => none
set_option maxHeartbeats 1000000 in
theorem zd_says_ok : zOk 90 zd_says := fun h0 qs ks T n call hc av σ v h => by
  unfold zd_says at h
  split at h
  next a x1 x2 x3 x4 x5 =>
    by_cases e : a = h0
    · rw [if_pos e] at h
      subst e
      exact ⟨_, zm_says, Nat.le_of_ble_eq_true rfl, fun X hX => pb_says hX hc h⟩
    · rw [if_neg e] at h; cases h
  next => cases h
def zd_putIn (n : Nat) (call : zCl) (h0 : Nat) (qs : List Nat) (ks : Nat → Nat) (av : List Value) (σ : zSt) : zRs := match av with
  | [.ref a, .int x1] => if a = h0 then b_putIn n call h0 qs ks x1 σ else none
  | _ => none
set_option maxHeartbeats 1000000 in
theorem zd_putIn_ok : zOk 91 zd_putIn := fun h0 qs ks T n call hc av σ v h => by
  unfold zd_putIn at h
  split at h
  next a x1 =>
    by_cases e : a = h0
    · rw [if_pos e] at h
      subst e
      exact ⟨_, zm_putIn, Nat.le_of_ble_eq_true rfl, fun X hX => pb_putIn hX hc h⟩
    · rw [if_neg e] at h; cases h
  next => cases h
def zd_termOf (n : Nat) (call : zCl) (h0 : Nat) (qs : List Nat) (ks : Nat → Nat) (av : List Value) (σ : zSt) : zRs := match av with
  | [.ref a, .int x1, .int x2, .long x3, .int x5] => if a = h0 then b_termOf n call h0 qs ks x1 x2 x3 x5 σ else none
  | _ => none
set_option maxHeartbeats 1000000 in
theorem zd_termOf_ok : zOk 92 zd_termOf := fun h0 qs ks T n call hc av σ v h => by
  unfold zd_termOf at h
  split at h
  next a x1 x2 x3 x5 =>
    by_cases e : a = h0
    · rw [if_pos e] at h
      subst e
      exact ⟨_, zm_termOf, Nat.le_of_ble_eq_true rfl, fun X hX => pb_termOf hX hc h⟩
    · rw [if_neg e] at h; cases h
  next => cases h
def zd_instanceTerm (n : Nat) (call : zCl) (h0 : Nat) (qs : List Nat) (ks : Nat → Nat) (av : List Value) (σ : zSt) : zRs := match av with
  | [.ref a, .int x1, .int x2] => if a = h0 then b_instanceTerm n call h0 qs ks x1 x2 σ else none
  | _ => none
set_option maxHeartbeats 1000000 in
theorem zd_instanceTerm_ok : zOk 93 zd_instanceTerm := fun h0 qs ks T n call hc av σ v h => by
  unfold zd_instanceTerm at h
  split at h
  next a x1 x2 =>
    by_cases e : a = h0
    · rw [if_pos e] at h
      subst e
      exact ⟨_, zm_instanceTerm, Nat.le_of_ble_eq_true rfl, fun X hX => pb_instanceTerm hX hc h⟩
    · rw [if_neg e] at h; cases h
  next => cases h
def zd_relates (n : Nat) (call : zCl) (h0 : Nat) (qs : List Nat) (ks : Nat → Nat) (av : List Value) (σ : zSt) : zRs := match av with
  | [.ref a, .int x1, .int x2] => if a = h0 then b_relates n call h0 qs ks x1 x2 σ else none
  | _ => none
set_option maxHeartbeats 1000000 in
theorem zd_relates_ok : zOk 94 zd_relates := fun h0 qs ks T n call hc av σ v h => by
  unfold zd_relates at h
  split at h
  next a x1 x2 =>
    by_cases e : a = h0
    · rw [if_pos e] at h
      subst e
      exact ⟨_, zm_relates, Nat.le_of_ble_eq_true rfl, fun X hX => pb_relates hX hc h⟩
    · rw [if_neg e] at h; cases h
  next => cases h
def zd_saysOf (n : Nat) (call : zCl) (h0 : Nat) (qs : List Nat) (ks : Nat → Nat) (av : List Value) (σ : zSt) : zRs := match av with
  | [.ref a, .int x1, .int x2] => if a = h0 then b_saysOf n call h0 qs ks x1 x2 σ else none
  | _ => none
set_option maxHeartbeats 1000000 in
theorem zd_saysOf_ok : zOk 95 zd_saysOf := fun h0 qs ks T n call hc av σ v h => by
  unfold zd_saysOf at h
  split at h
  next a x1 x2 =>
    by_cases e : a = h0
    · rw [if_pos e] at h
      subst e
      exact ⟨_, zm_saysOf, Nat.le_of_ble_eq_true rfl, fun X hX => pb_saysOf hX hc h⟩
    · rw [if_neg e] at h; cases h
  next => cases h
def zd_way (n : Nat) (call : zCl) (h0 : Nat) (qs : List Nat) (ks : Nat → Nat) (av : List Value) (σ : zSt) : zRs := match av with
  | [.ref a, .int x1, .int x2, .int x3, .int x4, .long x5] => if a = h0 then b_way n call h0 qs ks x1 x2 x3 x4 x5 σ else none
  | _ => none
set_option maxHeartbeats 1000000 in
theorem zd_way_ok : zOk 96 zd_way := fun h0 qs ks T n call hc av σ v h => by
  unfold zd_way at h
  split at h
  next a x1 x2 x3 x4 x5 =>
    by_cases e : a = h0
    · rw [if_pos e] at h
      subst e
      exact ⟨_, zm_way, Nat.le_of_ble_eq_true rfl, fun X hX => pb_way hX hc h⟩
    · rw [if_neg e] at h; cases h
  next => cases h
def zd_lineWay (n : Nat) (call : zCl) (h0 : Nat) (qs : List Nat) (ks : Nat → Nat) (av : List Value) (σ : zSt) : zRs := match av with
  | [.ref a, .int x1, .long x2] => if a = h0 then b_lineWay n call h0 qs ks x1 x2 σ else none
  | _ => none
set_option maxHeartbeats 1000000 in
theorem zd_lineWay_ok : zOk 97 zd_lineWay := fun h0 qs ks T n call hc av σ v h => by
  unfold zd_lineWay at h
  split at h
  next a x1 x2 =>
    by_cases e : a = h0
    · rw [if_pos e] at h
      subst e
      exact ⟨_, zm_lineWay, Nat.le_of_ble_eq_true rfl, fun X hX => pb_lineWay hX hc h⟩
    · rw [if_neg e] at h; cases h
  next => cases h
def zd_leaf (n : Nat) (call : zCl) (h0 : Nat) (qs : List Nat) (ks : Nat → Nat) (av : List Value) (σ : zSt) : zRs := match av with
  | [.ref a] => if a = h0 then b_leaf n call h0 qs ks σ else none
  | _ => none
set_option maxHeartbeats 1000000 in
theorem zd_leaf_ok : zOk 98 zd_leaf := fun h0 qs ks T n call hc av σ v h => by
  unfold zd_leaf at h
  split at h
  next a =>
    by_cases e : a = h0
    · rw [if_pos e] at h
      subst e
      exact ⟨_, zm_leaf, Nat.le_of_ble_eq_true rfl, fun X hX => pb_leaf hX hc h⟩
    · rw [if_neg e] at h; cases h
  next => cases h
def zd_open (n : Nat) (call : zCl) (h0 : Nat) (qs : List Nat) (ks : Nat → Nat) (av : List Value) (σ : zSt) : zRs := match av with
  | [.ref a, .int x1, .int x2] => if a = h0 then b_open n call h0 qs ks x1 x2 σ else none
  | _ => none
set_option maxHeartbeats 1000000 in
theorem zd_open_ok : zOk 99 zd_open := fun h0 qs ks T n call hc av σ v h => by
  unfold zd_open at h
  split at h
  next a x1 x2 =>
    by_cases e : a = h0
    · rw [if_pos e] at h
      subst e
      exact ⟨_, zm_open, Nat.le_of_ble_eq_true rfl, fun X hX => pb_open hX hc h⟩
    · rw [if_neg e] at h; cases h
  next => cases h
def zd_compares (n : Nat) (call : zCl) (h0 : Nat) (qs : List Nat) (ks : Nat → Nat) (av : List Value) (σ : zSt) : zRs := match av with
  | [.ref a, .int x1, .int x2] => if a = h0 then b_compares n call h0 qs ks x1 x2 σ else none
  | _ => none
set_option maxHeartbeats 1000000 in
theorem zd_compares_ok : zOk 100 zd_compares := fun h0 qs ks T n call hc av σ v h => by
  unfold zd_compares at h
  split at h
  next a x1 x2 =>
    by_cases e : a = h0
    · rw [if_pos e] at h
      subst e
      exact ⟨_, zm_compares, Nat.le_of_ble_eq_true rfl, fun X hX => pb_compares hX hc h⟩
    · rw [if_neg e] at h; cases h
  next => cases h
def zd_go (n : Nat) (call : zCl) (h0 : Nat) (qs : List Nat) (ks : Nat → Nat) (av : List Value) (σ : zSt) : zRs := match av with
  | [.ref a] => if a = h0 then b_go n call h0 qs ks σ else none
  | _ => none
set_option maxHeartbeats 1000000 in
theorem zd_go_ok : zOk 101 zd_go := fun h0 qs ks T n call hc av σ v h => by
  unfold zd_go at h
  split at h
  next a =>
    by_cases e : a = h0
    · rw [if_pos e] at h
      subst e
      exact ⟨_, zm_go, Nat.le_of_ble_eq_true rfl, fun X hX => pb_go hX hc h⟩
    · rw [if_neg e] at h; cases h
  next => cases h
def zd_sized (n : Nat) (call : zCl) (h0 : Nat) (qs : List Nat) (ks : Nat → Nat) (av : List Value) (σ : zSt) : zRs := match av with
  | [.ref a, .int x1, .int x2] => if a = h0 then b_sized n call h0 qs ks x1 x2 σ else none
  | _ => none
set_option maxHeartbeats 1000000 in
theorem zd_sized_ok : zOk 102 zd_sized := fun h0 qs ks T n call hc av σ v h => by
  unfold zd_sized at h
  split at h
  next a x1 x2 =>
    by_cases e : a = h0
    · rw [if_pos e] at h
      subst e
      exact ⟨_, zm_sized, Nat.le_of_ble_eq_true rfl, fun X hX => pb_sized hX hc h⟩
    · rw [if_neg e] at h; cases h
  next => cases h
def zd_truth (n : Nat) (call : zCl) (h0 : Nat) (qs : List Nat) (ks : Nat → Nat) (av : List Value) (σ : zSt) : zRs := match av with
  | [.ref a, .int x1, .int x2] => if a = h0 then b_truth n call h0 qs ks x1 x2 σ else none
  | _ => none
set_option maxHeartbeats 1000000 in
theorem zd_truth_ok : zOk 103 zd_truth := fun h0 qs ks T n call hc av σ v h => by
  unfold zd_truth at h
  split at h
  next a x1 x2 =>
    by_cases e : a = h0
    · rw [if_pos e] at h
      subst e
      exact ⟨_, zm_truth, Nat.le_of_ble_eq_true rfl, fun X hX => pb_truth hX hc h⟩
    · rw [if_neg e] at h; cases h
  next => cases h
def zd_namesSaid (n : Nat) (call : zCl) (h0 : Nat) (qs : List Nat) (ks : Nat → Nat) (av : List Value) (σ : zSt) : zRs := match av with
  | [.ref a, .int x1] => if a = h0 then b_namesSaid n call h0 qs ks x1 σ else none
  | _ => none
set_option maxHeartbeats 1000000 in
theorem zd_namesSaid_ok : zOk 104 zd_namesSaid := fun h0 qs ks T n call hc av σ v h => by
  unfold zd_namesSaid at h
  split at h
  next a x1 =>
    by_cases e : a = h0
    · rw [if_pos e] at h
      subst e
      exact ⟨_, zm_namesSaid, Nat.le_of_ble_eq_true rfl, fun X hX => pb_namesSaid hX hc h⟩
    · rw [if_neg e] at h; cases h
  next => cases h
def zd_namesIn (n : Nat) (call : zCl) (h0 : Nat) (qs : List Nat) (ks : Nat → Nat) (av : List Value) (σ : zSt) : zRs := match av with
  | [.ref a, .int x1] => if a = h0 then b_namesIn n call h0 qs ks x1 σ else none
  | _ => none
set_option maxHeartbeats 1000000 in
theorem zd_namesIn_ok : zOk 105 zd_namesIn := fun h0 qs ks T n call hc av σ v h => by
  unfold zd_namesIn at h
  split at h
  next a x1 =>
    by_cases e : a = h0
    · rw [if_pos e] at h
      subst e
      exact ⟨_, zm_namesIn, Nat.le_of_ble_eq_true rfl, fun X hX => pb_namesIn hX hc h⟩
    · rw [if_neg e] at h; cases h
  next => cases h
def zd_namesOfGone (n : Nat) (call : zCl) (h0 : Nat) (qs : List Nat) (ks : Nat → Nat) (av : List Value) (σ : zSt) : zRs := match av with
  | [.ref a, .int x1] => if a = h0 then b_namesOfGone n call h0 qs ks x1 σ else none
  | _ => none
set_option maxHeartbeats 1000000 in
theorem zd_namesOfGone_ok : zOk 106 zd_namesOfGone := fun h0 qs ks T n call hc av σ v h => by
  unfold zd_namesOfGone at h
  split at h
  next a x1 =>
    by_cases e : a = h0
    · rw [if_pos e] at h
      subst e
      exact ⟨_, zm_namesOfGone, Nat.le_of_ble_eq_true rfl, fun X hX => pb_namesOfGone hX hc h⟩
    · rw [if_neg e] at h; cases h
  next => cases h
def zd_under (n : Nat) (call : zCl) (h0 : Nat) (qs : List Nat) (ks : Nat → Nat) (av : List Value) (σ : zSt) : zRs := match av with
  | [.ref a, .int x1, .int x2, .int x3] => if a = h0 then b_under n call h0 qs ks x1 x2 x3 σ else none
  | _ => none
set_option maxHeartbeats 1000000 in
theorem zd_under_ok : zOk 107 zd_under := fun h0 qs ks T n call hc av σ v h => by
  unfold zd_under at h
  split at h
  next a x1 x2 x3 =>
    by_cases e : a = h0
    · rw [if_pos e] at h
      subst e
      exact ⟨_, zm_under, Nat.le_of_ble_eq_true rfl, fun X hX => pb_under hX hc h⟩
    · rw [if_neg e] at h; cases h
  next => cases h
def zd_fit (n : Nat) (call : zCl) (h0 : Nat) (qs : List Nat) (ks : Nat → Nat) (av : List Value) (σ : zSt) : zRs := match av with
  | [.ref a, .int x1] => if a = h0 then b_fit n call h0 qs ks x1 σ else none
  | _ => none
set_option maxHeartbeats 1000000 in
theorem zd_fit_ok : zOk 108 zd_fit := fun h0 qs ks T n call hc av σ v h => by
  unfold zd_fit at h
  split at h
  next a x1 =>
    by_cases e : a = h0
    · rw [if_pos e] at h
      subst e
      exact ⟨_, zm_fit, Nat.le_of_ble_eq_true rfl, fun X hX => pb_fit hX hc h⟩
    · rw [if_neg e] at h; cases h
  next => cases h
def zd_isSo (n : Nat) (call : zCl) (h0 : Nat) (qs : List Nat) (ks : Nat → Nat) (av : List Value) (σ : zSt) : zRs := match av with
  | [.ref a, .int x1] => if a = h0 then b_isSo n call h0 qs ks x1 σ else none
  | _ => none
set_option maxHeartbeats 1000000 in
theorem zd_isSo_ok : zOk 109 zd_isSo := fun h0 qs ks T n call hc av σ v h => by
  unfold zd_isSo at h
  split at h
  next a x1 =>
    by_cases e : a = h0
    · rw [if_pos e] at h
      subst e
      exact ⟨_, zm_isSo, Nat.le_of_ble_eq_true rfl, fun X hX => pb_isSo hX hc h⟩
    · rw [if_neg e] at h; cases h
  next => cases h
def zd_decide (n : Nat) (call : zCl) (h0 : Nat) (qs : List Nat) (ks : Nat → Nat) (av : List Value) (σ : zSt) : zRs := match av with
  | [.ref a] => if a = h0 then b_decide n call h0 qs ks σ else none
  | _ => none
set_option maxHeartbeats 1000000 in
theorem zd_decide_ok : zOk 110 zd_decide := fun h0 qs ks T n call hc av σ v h => by
  unfold zd_decide at h
  split at h
  next a =>
    by_cases e : a = h0
    · rw [if_pos e] at h
      subst e
      exact ⟨_, zm_decide, Nat.le_of_ble_eq_true rfl, fun X hX => pb_decide hX hc h⟩
    · rw [if_neg e] at h; cases h
  next => cases h
def zd_accepted (n : Nat) (call : zCl) (h0 : Nat) (qs : List Nat) (ks : Nat → Nat) (av : List Value) (σ : zSt) : zRs := match av with
  | [.ref a] => if a = h0 then b_accepted n call h0 qs ks σ else none
  | _ => none
set_option maxHeartbeats 1000000 in
theorem zd_accepted_ok : zOk 111 zd_accepted := fun h0 qs ks T n call hc av σ v h => by
  unfold zd_accepted at h
  split at h
  next a =>
    by_cases e : a = h0
    · rw [if_pos e] at h
      subst e
      exact ⟨_, zm_accepted, Nat.le_of_ble_eq_true rfl, fun X hX => pb_accepted hX hc h⟩
    · rw [if_neg e] at h; cases h
  next => cases h
def zd_say (n : Nat) (call : zCl) (h0 : Nat) (qs : List Nat) (ks : Nat → Nat) (av : List Value) (σ : zSt) : zRs := match av with
  | [.ref a, .int x1] => if a = h0 then b_say n call h0 qs ks x1 σ else none
  | _ => none
set_option maxHeartbeats 1000000 in
theorem zd_say_ok : zOk 112 zd_say := fun h0 qs ks T n call hc av σ v h => by
  unfold zd_say at h
  split at h
  next a x1 =>
    by_cases e : a = h0
    · rw [if_pos e] at h
      subst e
      exact ⟨_, zm_say, Nat.le_of_ble_eq_true rfl, fun X hX => pb_say hX hc h⟩
    · rw [if_neg e] at h; cases h
  next => cases h
def zd_sayWord (n : Nat) (call : zCl) (h0 : Nat) (qs : List Nat) (ks : Nat → Nat) (av : List Value) (σ : zSt) : zRs := match av with
  | [.ref a, .ref x1] => if a = h0 then b_sayWord n call h0 qs ks x1 σ else none
  | _ => none
set_option maxHeartbeats 1000000 in
theorem zd_sayWord_ok : zOk 113 zd_sayWord := fun h0 qs ks T n call hc av σ v h => by
  unfold zd_sayWord at h
  split at h
  next a x1 =>
    by_cases e : a = h0
    · rw [if_pos e] at h
      subst e
      exact ⟨_, zm_sayWord, Nat.le_of_ble_eq_true rfl, fun X hX => pb_sayWord hX hc h⟩
    · rw [if_neg e] at h; cases h
  next => cases h
def zd_sayNumber (n : Nat) (call : zCl) (h0 : Nat) (qs : List Nat) (ks : Nat → Nat) (av : List Value) (σ : zSt) : zRs := match av with
  | [.ref a, .long x1] => if a = h0 then b_sayNumber n call h0 qs ks x1 σ else none
  | _ => none
set_option maxHeartbeats 1000000 in
theorem zd_sayNumber_ok : zOk 114 zd_sayNumber := fun h0 qs ks T n call hc av σ v h => by
  unfold zd_sayNumber at h
  split at h
  next a x1 =>
    by_cases e : a = h0
    · rw [if_pos e] at h
      subst e
      exact ⟨_, zm_sayNumber, Nat.le_of_ble_eq_true rfl, fun X hX => pb_sayNumber hX hc h⟩
    · rw [if_neg e] at h; cases h
  next => cases h
def zd_sayName (n : Nat) (call : zCl) (h0 : Nat) (qs : List Nat) (ks : Nat → Nat) (av : List Value) (σ : zSt) : zRs := match av with
  | [.ref a, .int x1] => if a = h0 then b_sayName n call h0 qs ks x1 σ else none
  | _ => none
set_option maxHeartbeats 1000000 in
theorem zd_sayName_ok : zOk 115 zd_sayName := fun h0 qs ks T n call hc av σ v h => by
  unfold zd_sayName at h
  split at h
  next a x1 =>
    by_cases e : a = h0
    · rw [if_pos e] at h
      subst e
      exact ⟨_, zm_sayName, Nat.le_of_ble_eq_true rfl, fun X hX => pb_sayName hX hc h⟩
    · rw [if_neg e] at h; cases h
  next => cases h
def zd_sayFact (n : Nat) (call : zCl) (h0 : Nat) (qs : List Nat) (ks : Nat → Nat) (av : List Value) (σ : zSt) : zRs := match av with
  | [.ref a, .int x1, .int x2] => if a = h0 then b_sayFact n call h0 qs ks x1 x2 σ else none
  | _ => none
set_option maxHeartbeats 1000000 in
theorem zd_sayFact_ok : zOk 116 zd_sayFact := fun h0 qs ks T n call hc av σ v h => by
  unfold zd_sayFact at h
  split at h
  next a x1 x2 =>
    by_cases e : a = h0
    · rw [if_pos e] at h
      subst e
      exact ⟨_, zm_sayFact, Nat.le_of_ble_eq_true rfl, fun X hX => pb_sayFact hX hc h⟩
    · rw [if_neg e] at h; cases h
  next => cases h
def zd_sayType (n : Nat) (call : zCl) (h0 : Nat) (qs : List Nat) (ks : Nat → Nat) (av : List Value) (σ : zSt) : zRs := match av with
  | [.ref a, .int x1] => if a = h0 then b_sayType n call h0 qs ks x1 σ else none
  | _ => none
set_option maxHeartbeats 1000000 in
theorem zd_sayType_ok : zOk 117 zd_sayType := fun h0 qs ks T n call hc av σ v h => by
  unfold zd_sayType at h
  split at h
  next a x1 =>
    by_cases e : a = h0
    · rw [if_pos e] at h
      subst e
      exact ⟨_, zm_sayType, Nat.le_of_ble_eq_true rfl, fun X hX => pb_sayType hX hc h⟩
    · rw [if_neg e] at h; cases h
  next => cases h
def zd_type (n : Nat) (call : zCl) (h0 : Nat) (qs : List Nat) (ks : Nat → Nat) (av : List Value) (σ : zSt) : zRs := match av with
  | [.ref a, .int x1] => if a = h0 then b_type n call h0 qs ks x1 σ else none
  | _ => none
set_option maxHeartbeats 1000000 in
theorem zd_type_ok : zOk 118 zd_type := fun h0 qs ks T n call hc av σ v h => by
  unfold zd_type at h
  split at h
  next a x1 =>
    by_cases e : a = h0
    · rw [if_pos e] at h
      subst e
      exact ⟨_, zm_type, Nat.le_of_ble_eq_true rfl, fun X hX => pb_type hX hc h⟩
    · rw [if_neg e] at h; cases h
  next => cases h
def zd_give (n : Nat) (call : zCl) (h0 : Nat) (qs : List Nat) (ks : Nat → Nat) (av : List Value) (σ : zSt) : zRs := match av with
  | [.ref a, .int x1, .int x2] => if a = h0 then b_give n call h0 qs ks x1 x2 σ else none
  | _ => none
set_option maxHeartbeats 1000000 in
theorem zd_give_ok : zOk 119 zd_give := fun h0 qs ks T n call hc av σ v h => by
  unfold zd_give at h
  split at h
  next a x1 x2 =>
    by_cases e : a = h0
    · rw [if_pos e] at h
      subst e
      exact ⟨_, zm_give, Nat.le_of_ble_eq_true rfl, fun X hX => pb_give hX hc h⟩
    · rw [if_neg e] at h; cases h
  next => cases h
def zd_element (n : Nat) (call : zCl) (h0 : Nat) (qs : List Nat) (ks : Nat → Nat) (av : List Value) (σ : zSt) : zRs := match av with
  | [.ref a, .int x1, .int x2, .int x3] => if a = h0 then b_element n call h0 qs ks x1 x2 x3 σ else none
  | _ => none
set_option maxHeartbeats 1000000 in
theorem zd_element_ok : zOk 120 zd_element := fun h0 qs ks T n call hc av σ v h => by
  unfold zd_element at h
  split at h
  next a x1 x2 x3 =>
    by_cases e : a = h0
    · rw [if_pos e] at h
      subst e
      exact ⟨_, zm_element, Nat.le_of_ble_eq_true rfl, fun X hX => pb_element hX hc h⟩
    · rw [if_neg e] at h; cases h
  next => cases h
def zd_slot (n : Nat) (call : zCl) (h0 : Nat) (qs : List Nat) (ks : Nat → Nat) (av : List Value) (σ : zSt) : zRs := match av with
  | [.ref a, .int x1, .int x2, .int x3, .long x4] => if a = h0 then b_slot n call h0 qs ks x1 x2 x3 x4 σ else none
  | _ => none
set_option maxHeartbeats 1000000 in
theorem zd_slot_ok : zOk 121 zd_slot := fun h0 qs ks T n call hc av σ v h => by
  unfold zd_slot at h
  split at h
  next a x1 x2 x3 x4 =>
    by_cases e : a = h0
    · rw [if_pos e] at h
      subst e
      exact ⟨_, zm_slot, Nat.le_of_ble_eq_true rfl, fun X hX => pb_slot hX hc h⟩
    · rw [if_neg e] at h; cases h
  next => cases h
def zd_find (n : Nat) (call : zCl) (h0 : Nat) (qs : List Nat) (ks : Nat → Nat) (av : List Value) (σ : zSt) : zRs := match av with
  | [.ref a, .int x1, .int x2] => if a = h0 then b_find n call h0 qs ks x1 x2 σ else none
  | _ => none
set_option maxHeartbeats 1000000 in
theorem zd_find_ok : zOk 122 zd_find := fun h0 qs ks T n call hc av σ v h => by
  unfold zd_find at h
  split at h
  next a x1 x2 =>
    by_cases e : a = h0
    · rw [if_pos e] at h
      subst e
      exact ⟨_, zm_find, Nat.le_of_ble_eq_true rfl, fun X hX => pb_find hX hc h⟩
    · rw [if_neg e] at h; cases h
  next => cases h
def zd_bounded (n : Nat) (call : zCl) (h0 : Nat) (qs : List Nat) (ks : Nat → Nat) (av : List Value) (σ : zSt) : zRs := match av with
  | [.ref a, .long x1] => if a = h0 then b_bounded n call h0 qs ks x1 σ else none
  | _ => none
set_option maxHeartbeats 1000000 in
theorem zd_bounded_ok : zOk 123 zd_bounded := fun h0 qs ks T n call hc av σ v h => by
  unfold zd_bounded at h
  split at h
  next a x1 =>
    by_cases e : a = h0
    · rw [if_pos e] at h
      subst e
      exact ⟨_, zm_bounded, Nat.le_of_ble_eq_true rfl, fun X hX => pb_bounded hX hc h⟩
    · rw [if_neg e] at h; cases h
  next => cases h
def zd_sizeOf (n : Nat) (call : zCl) (h0 : Nat) (qs : List Nat) (ks : Nat → Nat) (av : List Value) (σ : zSt) : zRs := match av with
  | [.ref a, .int x1] => if a = h0 then b_sizeOf n call h0 qs ks x1 σ else none
  | _ => none
set_option maxHeartbeats 1000000 in
theorem zd_sizeOf_ok : zOk 124 zd_sizeOf := fun h0 qs ks T n call hc av σ v h => by
  unfold zd_sizeOf at h
  split at h
  next a x1 =>
    by_cases e : a = h0
    · rw [if_pos e] at h
      subst e
      exact ⟨_, zm_sizeOf, Nat.le_of_ble_eq_true rfl, fun X hX => pb_sizeOf hX hc h⟩
    · rw [if_neg e] at h; cases h
  next => cases h
def zd_valueOf (n : Nat) (call : zCl) (h0 : Nat) (qs : List Nat) (ks : Nat → Nat) (av : List Value) (σ : zSt) : zRs := match av with
  | [.ref a, .int x1, .int x2] => if a = h0 then b_valueOf n call h0 qs ks x1 x2 σ else none
  | _ => none
set_option maxHeartbeats 1000000 in
theorem zd_valueOf_ok : zOk 125 zd_valueOf := fun h0 qs ks T n call hc av σ v h => by
  unfold zd_valueOf at h
  split at h
  next a x1 x2 =>
    by_cases e : a = h0
    · rw [if_pos e] at h
      subst e
      exact ⟨_, zm_valueOf, Nat.le_of_ble_eq_true rfl, fun X hX => pb_valueOf hX hc h⟩
    · rw [if_neg e] at h; cases h
  next => cases h
def zd_holds (n : Nat) (call : zCl) (h0 : Nat) (qs : List Nat) (ks : Nat → Nat) (av : List Value) (σ : zSt) : zRs := match av with
  | [.ref a, .int x1, .int x2] => if a = h0 then b_holds n call h0 qs ks x1 x2 σ else none
  | _ => none
set_option maxHeartbeats 1000000 in
theorem zd_holds_ok : zOk 126 zd_holds := fun h0 qs ks T n call hc av σ v h => by
  unfold zd_holds at h
  split at h
  next a x1 x2 =>
    by_cases e : a = h0
    · rw [if_pos e] at h
      subst e
      exact ⟨_, zm_holds, Nat.le_of_ble_eq_true rfl, fun X hX => pb_holds hX hc h⟩
    · rw [if_neg e] at h; cases h
  next => cases h
def zd_newArray (n : Nat) (call : zCl) (h0 : Nat) (qs : List Nat) (ks : Nat → Nat) (av : List Value) (σ : zSt) : zRs := match av with
  | [.ref a, .long x1] => if a = h0 then b_newArray n call h0 qs ks x1 σ else none
  | _ => none
set_option maxHeartbeats 1000000 in
theorem zd_newArray_ok : zOk 127 zd_newArray := fun h0 qs ks T n call hc av σ v h => by
  unfold zd_newArray at h
  split at h
  next a x1 =>
    by_cases e : a = h0
    · rw [if_pos e] at h
      subst e
      exact ⟨_, zm_newArray, Nat.le_of_ble_eq_true rfl, fun X hX => pb_newArray hX hc h⟩
    · rw [if_neg e] at h; cases h
  next => cases h
def zd_is (n : Nat) (call : zCl) (h0 : Nat) (qs : List Nat) (ks : Nat → Nat) (av : List Value) (σ : zSt) : zRs := match av with
  | [.ref a, .int x1, .long x2] => if a = h0 then b_is n call h0 qs ks x1 x2 σ else none
  | _ => none
set_option maxHeartbeats 1000000 in
theorem zd_is_ok : zOk 128 zd_is := fun h0 qs ks T n call hc av σ v h => by
  unfold zd_is at h
  split at h
  next a x1 x2 =>
    by_cases e : a = h0
    · rw [if_pos e] at h
      subst e
      exact ⟨_, zm_is, Nat.le_of_ble_eq_true rfl, fun X hX => pb_is hX hc h⟩
    · rw [if_neg e] at h; cases h
  next => cases h
def zd_function (n : Nat) (call : zCl) (h0 : Nat) (qs : List Nat) (ks : Nat → Nat) (av : List Value) (σ : zSt) : zRs := match av with
  | [.ref a, .int x1, .int x2] => if a = h0 then b_function n call h0 qs ks x1 x2 σ else none
  | _ => none
set_option maxHeartbeats 1000000 in
theorem zd_function_ok : zOk 129 zd_function := fun h0 qs ks T n call hc av σ v h => by
  unfold zd_function at h
  split at h
  next a x1 x2 =>
    by_cases e : a = h0
    · rw [if_pos e] at h
      subst e
      exact ⟨_, zm_function, Nat.le_of_ble_eq_true rfl, fun X hX => pb_function hX hc h⟩
    · rw [if_neg e] at h; cases h
  next => cases h
def zd_todo (n : Nat) (call : zCl) (h0 : Nat) (qs : List Nat) (ks : Nat → Nat) (av : List Value) (σ : zSt) : zRs := match av with
  | [.ref a, .int x1, .int x2, .int x3] => if a = h0 then b_todo n call h0 qs ks x1 x2 x3 σ else none
  | _ => none
set_option maxHeartbeats 1000000 in
theorem zd_todo_ok : zOk 130 zd_todo := fun h0 qs ks T n call hc av σ v h => by
  unfold zd_todo at h
  split at h
  next a x1 x2 x3 =>
    by_cases e : a = h0
    · rw [if_pos e] at h
      subst e
      exact ⟨_, zm_todo, Nat.le_of_ble_eq_true rfl, fun X hX => pb_todo hX hc h⟩
    · rw [if_neg e] at h; cases h
  next => cases h
def zd_then (n : Nat) (call : zCl) (h0 : Nat) (qs : List Nat) (ks : Nat → Nat) (av : List Value) (σ : zSt) : zRs := match av with
  | [.ref a, .int x1, .int x2] => if a = h0 then b_then n call h0 qs ks x1 x2 σ else none
  | _ => none
set_option maxHeartbeats 1000000 in
theorem zd_then_ok : zOk 131 zd_then := fun h0 qs ks T n call hc av σ v h => by
  unfold zd_then at h
  split at h
  next a x1 x2 =>
    by_cases e : a = h0
    · rw [if_pos e] at h
      subst e
      exact ⟨_, zm_then, Nat.le_of_ble_eq_true rfl, fun X hX => pb_then hX hc h⟩
    · rw [if_neg e] at h; cases h
  next => cases h
def zd_sumValue (n : Nat) (call : zCl) (h0 : Nat) (qs : List Nat) (ks : Nat → Nat) (av : List Value) (σ : zSt) : zRs := match av with
  | [.ref a, .int x1, .int x2] => if a = h0 then b_sumValue n call h0 qs ks x1 x2 σ else none
  | _ => none
set_option maxHeartbeats 1000000 in
theorem zd_sumValue_ok : zOk 132 zd_sumValue := fun h0 qs ks T n call hc av σ v h => by
  unfold zd_sumValue at h
  split at h
  next a x1 x2 =>
    by_cases e : a = h0
    · rw [if_pos e] at h
      subst e
      exact ⟨_, zm_sumValue, Nat.le_of_ble_eq_true rfl, fun X hX => pb_sumValue hX hc h⟩
    · rw [if_neg e] at h; cases h
  next => cases h
def zd_product (n : Nat) (call : zCl) (h0 : Nat) (qs : List Nat) (ks : Nat → Nat) (av : List Value) (σ : zSt) : zRs := match av with
  | [.long x0, .long x2] => b_product n call h0 qs ks x0 x2 σ
  | _ => none
set_option maxHeartbeats 1000000 in
theorem zd_product_ok : zOk 133 zd_product := fun h0 qs ks T n call hc av σ v h => by
  unfold zd_product at h
  split at h
  next x0 x2 =>
    exact ⟨_, zm_product, Nat.le_of_ble_eq_true rfl, fun X hX => pb_product hX hc h⟩
  next => cases h
def zd_applies (n : Nat) (call : zCl) (h0 : Nat) (qs : List Nat) (ks : Nat → Nat) (av : List Value) (σ : zSt) : zRs := match av with
  | [.ref a, .int x1] => if a = h0 then b_applies n call h0 qs ks x1 σ else none
  | _ => none
set_option maxHeartbeats 1000000 in
theorem zd_applies_ok : zOk 134 zd_applies := fun h0 qs ks T n call hc av σ v h => by
  unfold zd_applies at h
  split at h
  next a x1 =>
    by_cases e : a = h0
    · rw [if_pos e] at h
      subst e
      exact ⟨_, zm_applies, Nat.le_of_ble_eq_true rfl, fun X hX => pb_applies hX hc h⟩
    · rw [if_neg e] at h; cases h
  next => cases h
def zd_called (n : Nat) (call : zCl) (h0 : Nat) (qs : List Nat) (ks : Nat → Nat) (av : List Value) (σ : zSt) : zRs := match av with
  | [.ref a, .int x1, .int x2] => if a = h0 then b_called n call h0 qs ks x1 x2 σ else none
  | _ => none
set_option maxHeartbeats 1000000 in
theorem zd_called_ok : zOk 135 zd_called := fun h0 qs ks T n call hc av σ v h => by
  unfold zd_called at h
  split at h
  next a x1 x2 =>
    by_cases e : a = h0
    · rw [if_pos e] at h
      subst e
      exact ⟨_, zm_called, Nat.le_of_ble_eq_true rfl, fun X hX => pb_called hX hc h⟩
    · rw [if_neg e] at h; cases h
  next => cases h
def zd_begun (n : Nat) (call : zCl) (h0 : Nat) (qs : List Nat) (ks : Nat → Nat) (av : List Value) (σ : zSt) : zRs := match av with
  | [.ref a, .int x1, .int x2] => if a = h0 then b_begun n call h0 qs ks x1 x2 σ else none
  | _ => none
set_option maxHeartbeats 1000000 in
theorem zd_begun_ok : zOk 136 zd_begun := fun h0 qs ks T n call hc av σ v h => by
  unfold zd_begun at h
  split at h
  next a x1 x2 =>
    by_cases e : a = h0
    · rw [if_pos e] at h
      subst e
      exact ⟨_, zm_begun, Nat.le_of_ble_eq_true rfl, fun X hX => pb_begun hX hc h⟩
    · rw [if_neg e] at h; cases h
  next => cases h
def zd_goesOn (n : Nat) (call : zCl) (h0 : Nat) (qs : List Nat) (ks : Nat → Nat) (av : List Value) (σ : zSt) : zRs := match av with
  | [.ref a] => if a = h0 then b_goesOn n call h0 qs ks σ else none
  | _ => none
set_option maxHeartbeats 1000000 in
theorem zd_goesOn_ok : zOk 137 zd_goesOn := fun h0 qs ks T n call hc av σ v h => by
  unfold zd_goesOn at h
  split at h
  next a =>
    by_cases e : a = h0
    · rw [if_pos e] at h
      subst e
      exact ⟨_, zm_goesOn, Nat.le_of_ble_eq_true rfl, fun X hX => pb_goesOn hX hc h⟩
    · rw [if_neg e] at h; cases h
  next => cases h
def zd_run (n : Nat) (call : zCl) (h0 : Nat) (qs : List Nat) (ks : Nat → Nat) (av : List Value) (σ : zSt) : zRs := match av with
  | [.ref a, .int x1] => if a = h0 then b_run n call h0 qs ks x1 σ else none
  | _ => none
set_option maxHeartbeats 1000000 in
theorem zd_run_ok : zOk 138 zd_run := fun h0 qs ks T n call hc av σ v h => by
  unfold zd_run at h
  split at h
  next a x1 =>
    by_cases e : a = h0
    · rw [if_pos e] at h
      subst e
      exact ⟨_, zm_run, Nat.le_of_ble_eq_true rfl, fun X hX => pb_run hX hc h⟩
    · rw [if_neg e] at h; cases h
  next => cases h
def zd_value (n : Nat) (call : zCl) (h0 : Nat) (qs : List Nat) (ks : Nat → Nat) (av : List Value) (σ : zSt) : zRs := match av with
  | [.ref a] => if a = h0 then b_value n call h0 qs ks σ else none
  | _ => none
set_option maxHeartbeats 1000000 in
theorem zd_value_ok : zOk 139 zd_value := fun h0 qs ks T n call hc av σ v h => by
  unfold zd_value at h
  split at h
  next a =>
    by_cases e : a = h0
    · rw [if_pos e] at h
      subst e
      exact ⟨_, zm_value, Nat.le_of_ble_eq_true rfl, fun X hX => pb_value hX hc h⟩
    · rw [if_neg e] at h; cases h
  next => cases h
def zd_fuel (n : Nat) (call : zCl) (h0 : Nat) (qs : List Nat) (ks : Nat → Nat) (av : List Value) (σ : zSt) : zRs := match av with
  | [.ref a] => if a = h0 then b_fuel n call h0 qs ks σ else none
  | _ => none
set_option maxHeartbeats 1000000 in
theorem zd_fuel_ok : zOk 140 zd_fuel := fun h0 qs ks T n call hc av σ v h => by
  unfold zd_fuel at h
  split at h
  next a =>
    by_cases e : a = h0
    · rw [if_pos e] at h
      subst e
      exact ⟨_, zm_fuel, Nat.le_of_ble_eq_true rfl, fun X hX => pb_fuel hX hc h⟩
    · rw [if_neg e] at h; cases h
  next => cases h
def zAll : Nat → List zDf → Prop
  | _, [] => True
  | j, f :: l => zOk j f ∧ zAll (j + 1) l
theorem zAll_at : ∀ (l : List zDf) (j i : Nat) (f : zDf), zAll j l → l[i]? = some f → zOk (j + i) f
  | [], _, _, _, _, h => by simp at h
  | g :: l, j, 0, f, h, e => by
    have e2 : g = f := by simpa using e
    subst e2
    exact h.1
  | g :: l, j, i + 1, f, h, e => by
    have h9 := zAll_at l (j + 1) i f h.2 (by simpa using e)
    rw [show j + (i + 1) = j + 1 + i by omega]
    exact h9
theorem zAll_app : ∀ (a b : List zDf) (j : Nat), zAll j a → zAll (j + a.length) b → zAll j (a ++ b)
  | [], b, j, _, h => by simpa using h
  | f :: a, b, j, h1, h2 => ⟨h1.1, zAll_app a b (j + 1) h1.2 (by rw [show j + 1 + a.length = j + (f :: a).length by simp; omega]; exact h2)⟩
def zdl0 : List zDf := [zd_feed, zd_end, zd_out, zd_fault, zd_isLow, zd_isDigit, zd_word, zd_isText, zd_isKey, zd_readWords, zd_node, zd_here, zd_skip, zd_form, zd_must, zd_name, zd_numberOf, zd_number]
theorem zdl0_ok : zAll 0 zdl0 := ⟨zd_feed_ok, zd_end_ok, zd_out_ok, zd_fault_ok, zd_isLow_ok, zd_isDigit_ok, zd_word_ok, zd_isText_ok, zd_isKey_ok, zd_readWords_ok, zd_node_ok, zd_here_ok, zd_skip_ok, zd_form_ok, zd_must_ok, zd_name_ok, zd_numberOf_ok, zd_number_ok, trivial⟩
def zdl1 : List zDf := [zd_relation, zd_isArgument, zd_part, zd_sum, zd_both, zd_condition, zd_single, zd_call, zd_expression, zd_matching, zd_simple, zd_within, zd_program, zd_sameWord, zd_wrongName, zd_tell, zd_counts, zd_uses]
theorem zdl1_ok : zAll 18 zdl1 := ⟨zd_relation_ok, zd_isArgument_ok, zd_part_ok, zd_sum_ok, zd_both_ok, zd_condition_ok, zd_single_ok, zd_call_ok, zd_expression_ok, zd_matching_ok, zd_simple_ok, zd_within_ok, zd_program_ok, zd_sameWord_ok, zd_wrongName_ok, zd_tell_ok, zd_counts_ok, zd_uses_ok, trivial⟩
def zdl2 : List zDf := [zd_namesOfSum, zd_namesOfCondition, zd_parameters, zd_namesOf, zd_newType, zd_openType, zd_real, zd_isIn, zd_join, zd_mustBe, zd_typesOfSum, zd_typesOfCondition, zd_isName, zd_typeOf, zd_typeOfCall, zd_typed, zd_sort, zd_clearLine]
theorem zdl2_ok : zAll 36 zdl2 := ⟨zd_namesOfSum_ok, zd_namesOfCondition_ok, zd_parameters_ok, zd_namesOf_ok, zd_newType_ok, zd_openType_ok, zd_real_ok, zd_isIn_ok, zd_join_ok, zd_mustBe_ok, zd_typesOfSum_ok, zd_typesOfCondition_ok, zd_isName_ok, zd_typeOf_ok, zd_typeOfCall_ok, zd_typed_ok, zd_sort_ok, zd_clearLine_ok, trivial⟩
def zdl3 : List zDf := [zd_addName, zd_addSum, zd_isForm, zd_isTerm, zd_wrongForm, zd_count, zd_formsOfCondition, zd_leaves, zd_wants, zd_formsOf, zd_check, zd_compile, zd_place, zd_rich, zd_said, zd_fact, zd_isSum, zd_isSaid]
theorem zdl3_ok : zAll 54 zdl3 := ⟨zd_addName_ok, zd_addSum_ok, zd_isForm_ok, zd_isTerm_ok, zd_wrongForm_ok, zd_count_ok, zd_formsOfCondition_ok, zd_leaves_ok, zd_wants_ok, zd_formsOf_ok, zd_check_ok, zd_compile_ok, zd_place_ok, zd_rich_ok, zd_said_ok, zd_fact_ok, zd_isSum_ok, zd_isSaid_ok, trivial⟩
def zdl4 : List zDf := [zd_plainType, zd_knows, zd_gone, zd_namesAt, zd_template, zd_put, zd_mustFit, zd_mustBeSo, zd_ofName, zd_ofSign, zd_ofCall, zd_richOf, zd_beginBounds, zd_columnOf, zd_downwards, zd_lower, zd_atMost, zd_closes]
theorem zdl4_ok : zAll 72 zdl4 := ⟨zd_plainType_ok, zd_knows_ok, zd_gone_ok, zd_namesAt_ok, zd_template_ok, zd_put_ok, zd_mustFit_ok, zd_mustBeSo_ok, zd_ofName_ok, zd_ofSign_ok, zd_ofCall_ok, zd_richOf_ok, zd_beginBounds_ok, zd_columnOf_ok, zd_downwards_ok, zd_lower_ok, zd_atMost_ok, zd_closes_ok, trivial⟩
def zdl5 : List zDf := [zd_says, zd_putIn, zd_termOf, zd_instanceTerm, zd_relates, zd_saysOf, zd_way, zd_lineWay, zd_leaf, zd_open, zd_compares, zd_go, zd_sized, zd_truth, zd_namesSaid, zd_namesIn, zd_namesOfGone, zd_under]
theorem zdl5_ok : zAll 90 zdl5 := ⟨zd_says_ok, zd_putIn_ok, zd_termOf_ok, zd_instanceTerm_ok, zd_relates_ok, zd_saysOf_ok, zd_way_ok, zd_lineWay_ok, zd_leaf_ok, zd_open_ok, zd_compares_ok, zd_go_ok, zd_sized_ok, zd_truth_ok, zd_namesSaid_ok, zd_namesIn_ok, zd_namesOfGone_ok, zd_under_ok, trivial⟩
def zdl6 : List zDf := [zd_fit, zd_isSo, zd_decide, zd_accepted, zd_say, zd_sayWord, zd_sayNumber, zd_sayName, zd_sayFact, zd_sayType, zd_type, zd_give, zd_element, zd_slot, zd_find, zd_bounded, zd_sizeOf, zd_valueOf]
theorem zdl6_ok : zAll 108 zdl6 := ⟨zd_fit_ok, zd_isSo_ok, zd_decide_ok, zd_accepted_ok, zd_say_ok, zd_sayWord_ok, zd_sayNumber_ok, zd_sayName_ok, zd_sayFact_ok, zd_sayType_ok, zd_type_ok, zd_give_ok, zd_element_ok, zd_slot_ok, zd_find_ok, zd_bounded_ok, zd_sizeOf_ok, zd_valueOf_ok, trivial⟩
def zdl7 : List zDf := [zd_holds, zd_newArray, zd_is, zd_function, zd_todo, zd_then, zd_sumValue, zd_product, zd_applies, zd_called, zd_begun, zd_goesOn, zd_run, zd_value, zd_fuel]
theorem zdl7_ok : zAll 126 zdl7 := ⟨zd_holds_ok, zd_newArray_ok, zd_is_ok, zd_function_ok, zd_todo_ok, zd_then_ok, zd_sumValue_ok, zd_product_ok, zd_applies_ok, zd_called_ok, zd_begun_ok, zd_goesOn_ok, zd_run_ok, zd_value_ok, zd_fuel_ok, trivial⟩
def zdl : List zDf := zdl0 ++ (zdl1 ++ (zdl2 ++ (zdl3 ++ (zdl4 ++ (zdl5 ++ (zdl6 ++ (zdl7)))))))
theorem zdl_ok : zAll 0 zdl := (zAll_app _ _ 0 zdl0_ok (zAll_app _ _ 18 zdl1_ok (zAll_app _ _ 36 zdl2_ok (zAll_app _ _ 54 zdl3_ok (zAll_app _ _ 72 zdl4_ok (zAll_app _ _ 90 zdl5_ok (zAll_app _ _ 108 zdl6_ok zdl7_ok)))))))
/-- what method j answers with T turns a loop and n calls within, and the state behind it -/
def zF (h0 : Nat) (qs : List Nat) (ks : Nat → Nat) (T : Nat) : Nat → Nat → List Value → zSt → zRs
  | 0, _, _, _ => none
  | n + 1, j, av, σ => match zdl[j]? with
    | some f => f T (zF h0 qs ks T n) h0 qs ks av σ
    | none => none
theorem zF_ok (h0 : Nat) (qs : List Nat) (ks : Nat → Nat) (T : Nat) : ∀ (n j : Nat) (av : List Value) (σ : zSt) (v : Option Value × zSt), zF h0 qs ks T n j av σ = some v → zTr h0 qs ks n j av σ (fun r u => (r, u) = v)
  | 0, _, _, _, _, h => by cases h
  | n + 1, j, av, σ, v, h => by
    rw [zF] at h
    split at h
    next f hf =>
      have h9 := zAll_at zdl 0 j f zdl_ok hf
      rw [Nat.zero_add] at h9
      exact h9 h0 qs ks T n (zF h0 qs ks T n) (zF_ok h0 qs ks T n) av σ v h
    next => cases h
/-- the reference's method j over the machine: what zF says is a contract -/
theorem zF_met {l : Launch} {dC : Nat → ClassId} {dI : Nat → Nat → Nat} {ks : Nat → Nat} {sz0 : Nat} {h0 : Nat} {qs : List Nat} {cs : List ClassId} (hso : zSo l dC dI ks sz0 h0 qs cs) (hq : qs.length = 122) (hc : cs.length = 122) {T n j : Nat} {av : List Value} {σ : zSt} {v : Option Value × zSt} (h : zF h0 qs ks T n j av σ = some v) {en : zMt} (he : zmt[j]? = some en) : zMe l dC dI ks sz0 h0 qs cs n en av σ (fun r u => (r, u) = v) := zTr_met hso hq hc n j av σ _ (zF_ok h0 qs ks T n j av σ v h) en he
