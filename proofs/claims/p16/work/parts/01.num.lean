/-! numbers and stores: rows of kit/rows, then own ones -/
theorem pr_ne1 {a : Nat} (h : a < 2 ^ 31) : ¬ nI a = -1 := by
  intro e
  have h1 := nI_pos (n := a) h
  rw [e] at h1
  exact h1 (by decide)
theorem pr_eq0 {a : Nat} (h : a < 2 ^ 31) : nI a = 0 ↔ a = 0 := by
  rw [← nI_0, nI_eq h (by omega)]
theorem pr_m1 {n : Nat} (h : 0 < n) : nI n + (-1) = nI (n - 1) := by
  obtain ⟨m, rfl⟩ : ∃ m, n = m + 1 := ⟨n - 1, by omega⟩
  exact pk_m1 m
theorem pr_s1 {n : Nat} (h : 0 < n) : nI n - 1 = nI (n - 1) := by
  obtain ⟨m, rfl⟩ : ∃ m, n = m + 1 := ⟨n - 1, by omega⟩
  exact nI_pred m
theorem pr_vb0 : vp_nar .boolean 0 = 0 := by decide
theorem pr_vb1 : vp_nar .boolean 1 = 1 := by decide
theorem pr_im {a b : Nat} (h : nI a = nI b) (ha : a < 2 ^ 31) (hb : b < 2 ^ 31) : a = b := (nI_eq ha hb).mp h
def pr_oI : Option Nat → Int32
  | none => -1
  | some c => nI c
def pr_oX (b : Nat) : Option Nat → Int32
  | none => -1
  | some c => nI (b + c)
def pr_b (x : Bool) : Int32 := match x with
  | true => 1
  | false => 0
theorem pr_nb (x : Bool) : vp_nar .boolean (pr_b x) = pr_b x := by
  cases x
  · exact pr_vb0
  · exact pr_vb1
theorem pr_b0 (x : Bool) : pr_b x = 0 ↔ x = false := by
  cases x
  · exact ⟨fun _ => rfl, fun _ => rfl⟩
  · exact ⟨fun h => absurd h (by decide), fun h => nomatch h⟩
