/-! the graph on naturals: kinds, values, operands; ranks; values of nodes -/
def pr_w (κ : Nat) : Nat := if κ = 3 then 3 else if 1 ≤ κ ∧ κ ≤ 10 then 1 else 0
theorem pr_w_le (κ : Nat) : pr_w κ ≤ 3 := by
  unfold pr_w
  by_cases h : κ = 3
  · rw [if_pos h]
    exact Nat.le_refl 3
  · rw [if_neg h]
    by_cases h2 : 1 ≤ κ ∧ κ ≤ 10
    · rw [if_pos h2]
      omega
    · rw [if_neg h2]
      omega
theorem pr_w_0 {κ : Nat} (h : κ = 0 ∨ 11 ≤ κ) : pr_w κ = 0 := by
  unfold pr_w
  rw [if_neg (by omega), if_neg (by omega)]
def pr_op (κ : Nat) (x y : Int32) : Int32 :=
  if κ = 1 then (x + y) &&& 255 else if κ = 2 then (x - y) &&& 255 else if κ = 3 then (x * y) &&& 255 else if κ = 4 then x &&& y else if κ = 5 then x ||| y else if κ = 6 then x ^^^ y
  else if κ = 7 then (if y < 8 then (x <<< (y &&& 31)) &&& 255 else 0) else if κ = 8 then (if y < 8 then x >>> (y &&& 31) else 0) else if κ = 9 then x ^^^ 255 else (0 - x) &&& 255
def pr_by (x : Int32) : Prop := ∃ m : Nat, m < 256 ∧ x = nI m
theorem pr_by_0 : pr_by 0 := ⟨0, by omega, rfl⟩
theorem pr_by_and (x : Int32) : pr_by (x &&& 255) := pk_andE x 8 (by decide)
theorem pr_by_id {x : Int32} (h : pr_by x) : x &&& 255 = x := by
  obtain ⟨m, hm, rfl⟩ := h
  rw [pk_andN (by omega) (m := 255) 8 (by decide), Nat.mod_eq_of_lt (by omega)]
theorem pr_bv (n : Nat) : (nI n).toBitVec = BitVec.ofNat 32 n := rfl
theorem pr_nand (a b : Nat) : nI a &&& nI b = nI (a &&& b) := by
  apply Int32.toBitVec_inj.mp
  rw [Int32.toBitVec_and, pr_bv, pr_bv, pr_bv, BitVec.ofNat_and]
theorem pr_nor (a b : Nat) : nI a ||| nI b = nI (a ||| b) := by
  apply Int32.toBitVec_inj.mp
  rw [Int32.toBitVec_or, pr_bv, pr_bv, pr_bv, BitVec.ofNat_or]
theorem pr_nxor (a b : Nat) : nI a ^^^ nI b = nI (a ^^^ b) := by
  apply Int32.toBitVec_inj.mp
  rw [Int32.toBitVec_xor, pr_bv, pr_bv, pr_bv, BitVec.ofNat_xor]
theorem pr_sl : ∀ n, n < 32 → ((nI n &&& 31).toBitVec.smod 32).toNat = n := by decide
theorem pr_by_op {κ : Nat} {x y : Int32} (hx : pr_by x) (hy : pr_by y) : pr_by (pr_op κ x y) := by
  obtain ⟨a, ha, rfl⟩ := hx
  obtain ⟨b, hb, rfl⟩ := hy
  unfold pr_op
  by_cases h1 : κ = 1
  · rw [if_pos h1]; exact pr_by_and _
  rw [if_neg h1]
  by_cases h2 : κ = 2
  · rw [if_pos h2]; exact pr_by_and _
  rw [if_neg h2]
  by_cases h3 : κ = 3
  · rw [if_pos h3]; exact pr_by_and _
  rw [if_neg h3]
  by_cases h4 : κ = 4
  · rw [if_pos h4]; exact ⟨a &&& b, Nat.lt_of_le_of_lt Nat.and_le_left ha, pr_nand a b⟩
  rw [if_neg h4]
  by_cases h5 : κ = 5
  · rw [if_pos h5]; exact ⟨a ||| b, Nat.or_lt_two_pow (n := 8) ha hb, pr_nor a b⟩
  rw [if_neg h5]
  by_cases h6 : κ = 6
  · rw [if_pos h6]; exact ⟨a ^^^ b, Nat.xor_lt_two_pow (n := 8) ha hb, pr_nxor a b⟩
  rw [if_neg h6]
  by_cases h7 : κ = 7
  · rw [if_pos h7]
    by_cases h : nI b < 8
    · rw [if_pos h]; exact pr_by_and _
    · rw [if_neg h]; exact pr_by_0
  rw [if_neg h7]
  by_cases h8 : κ = 8
  · rw [if_pos h8]
    by_cases h : nI b < 8
    · rw [if_pos h]
      have hb8 : b < 8 := (nI_ltI (by omega) (b := 8) (by omega)).mp h
      refine ⟨a / 2 ^ b, Nat.lt_of_le_of_lt (Nat.div_le_self _ _) ha, ?_⟩
      exact pk_shrN (by omega) _ b (pr_sl b (by omega))
    · rw [if_neg h]; exact pr_by_0
  rw [if_neg h8]
  by_cases h9 : κ = 9
  · rw [if_pos h9]
    exact ⟨a ^^^ 255, Nat.xor_lt_two_pow (n := 8) ha (by decide), pr_nxor a 255⟩
  rw [if_neg h9]
  exact pr_by_and _
def pr_T (lo : Nat) (K : Nat → Nat) (n : Nat) : Prop := lo ≤ n ∧ n < lo + 32 ∧ K n ≠ 0
/-- a graph in the slots lo .. lo + 31: kind 0 is no node -/
def pr_gw (lo : Nat) (K : Nat → Nat) (V : Nat → Int32) (A B : Nat → Option Nat) (rk : Nat → Nat) : Prop :=
  ∀ n, pr_T lo K n → K n ≤ 12 ∧ rk n < 32 ∧ pr_by (V n) ∧ (K n = 12 → ∃ i, i < 4 ∧ V n = nI i) ∧ (K n ≤ 10 → V n = 0) ∧ (11 ≤ K n → A n = none) ∧ (9 ≤ K n → B n = none) ∧ (K n ≤ 10 → ∃ c, A n = some c) ∧ (K n ≤ 8 → ∃ c, B n = some c) ∧ ∀ c, (A n = some c ∨ B n = some c) → pr_T lo K c ∧ rk c < rk n
theorem pr_gw_T {lo : Nat} {K : Nat → Nat} {V : Nat → Int32} {A B : Nat → Option Nat} {rk : Nat → Nat} (h : pr_gw lo K V A B rk) (n c : Nat) (hn : pr_T lo K n) (hc : A n = some c ∨ B n = some c) : pr_T lo K c ∧ rk c < rk n := (h n hn).2.2.2.2.2.2.2.2.2 c hc
theorem pr_gw_r {lo : Nat} {K : Nat → Nat} {V : Nat → Int32} {A B : Nat → Option Nat} {rk : Nat → Nat} (h : pr_gw lo K V A B rk) (n : Nat) (hn : pr_T lo K n) : rk n < 32 := (h n hn).2.1
def pr_rc (rk : Nat → Nat) (lo n : Nat) : Nat := pr_rs (fun m => if rk m < rk n then 1 else 0) lo 32
theorem pr_rc_lt (rk : Nat → Nat) {lo n : Nat} (h1 : lo ≤ n) (h2 : n < lo + 32) : pr_rc rk lo n < 32 := by
  have h := pr_rs_lt (f := fun m => if rk m < rk n then 1 else 0) (g := fun _ => 1) (lo := lo) (a := n) h1 (by
    show (if rk n < rk n then 1 else 0) < 1
    rw [if_neg (Nat.lt_irrefl _)]
    omega) (n := 32) h2 (fun x _ _ => by
    show (if rk x < rk n then 1 else 0) ≤ 1
    by_cases h : rk x < rk n
    · rw [if_pos h]
      omega
    · rw [if_neg h]
      omega)
  have h2 := pr_rs_bound (f := fun _ => 1) (lo := lo) (c := 1) (n := 32) (fun _ _ _ => Nat.le_refl 1)
  unfold pr_rc
  omega
theorem pr_rc_mono {rk : Nat → Nat} {lo c n : Nat} (h : rk c < rk n) (h1 : lo ≤ c) (h2 : c < lo + 32) : pr_rc rk lo c < pr_rc rk lo n := by
  refine pr_rs_lt (a := c) h1 ?_ h2 (fun x _ _ => ?_)
  · show (if rk c < rk c then 1 else 0) < (if rk c < rk n then 1 else 0)
    rw [if_neg (Nat.lt_irrefl _), if_pos h]
    omega
  · show (if rk x < rk c then 1 else 0) ≤ (if rk x < rk n then 1 else 0)
    by_cases hx : rk x < rk c
    · rw [if_pos hx, if_pos (by omega)]
      omega
    · rw [if_neg hx]
      omega
def pr_ov (g : Nat → Int32) (o : Option Nat) : Int32 := match o with
  | none => 0
  | some c => g c
def pr_ag (ar v : Int32) : Int32 := ((ar.toUInt32 >>> ((8 * v).toUInt32 &&& Int32.toUInt32 31)).toInt32) &&& 255
def pr_en (K : Nat → Nat) (V : Nat → Int32) (A B : Nat → Option Nat) (ar : Int32) (g : Nat → Int32) (n : Nat) : Int32 :=
  if K n = 11 then V n else if K n = 12 then pr_ag ar (V n) else pr_op (K n) (pr_ov g (A n)) (pr_ov g (B n))
def pr_ev (K : Nat → Nat) (V : Nat → Int32) (A B : Nat → Option Nat) (ar : Int32) : Nat → Nat → Int32
  | 0, _ => 0
  | f + 1, n => pr_en K V A B ar (pr_ev K V A B ar f) n
theorem pr_ov_congr {g h : Nat → Int32} {o : Option Nat} (e : ∀ c, o = some c → g c = h c) : pr_ov g o = pr_ov h o := by
  cases o with
  | none => rfl
  | some c => exact e c rfl
theorem pr_en_congr {K : Nat → Nat} {V : Nat → Int32} {A B : Nat → Option Nat} {ar : Int32} {g h : Nat → Int32} {n : Nat} (e : ∀ c, A n = some c ∨ B n = some c → g c = h c) : pr_en K V A B ar g n = pr_en K V A B ar h n := by
  unfold pr_en
  rw [pr_ov_congr (o := A n) (fun c hc => e c (Or.inl hc)), pr_ov_congr (o := B n) (fun c hc => e c (Or.inr hc))]
theorem pr_ev_f {lo : Nat} {K : Nat → Nat} {V : Nat → Int32} {A B : Nat → Option Nat} {rk : Nat → Nat} {ar : Int32} (h : pr_gw lo K V A B rk) : ∀ f f' n, pr_T lo K n → rk n < f → rk n < f' → pr_ev K V A B ar f n = pr_ev K V A B ar f' n := by
  intro f
  induction f with
  | zero =>
    intro f' n _ h
    omega
  | succ f ih =>
    intro f' n hn h1 h2
    obtain ⟨f'', rfl⟩ : ∃ q, f' = q + 1 := ⟨f' - 1, by omega⟩
    refine pr_en_congr fun c hc => ?_
    have ⟨tc, rc⟩ := pr_gw_T h n c hn hc
    exact ih f'' c tc (by omega) (by omega)
theorem pr_ev_eq {lo : Nat} {K : Nat → Nat} {V : Nat → Int32} {A B : Nat → Option Nat} {rk : Nat → Nat} {ar : Int32} (h : pr_gw lo K V A B rk) {n : Nat} (hn : pr_T lo K n) : pr_ev K V A B ar 32 n = pr_en K V A B ar (pr_ev K V A B ar 32) n := by
  show pr_en K V A B ar (pr_ev K V A B ar 31) n = _
  refine pr_en_congr fun c hc => ?_
  have ⟨tc, rc⟩ := pr_gw_T h n c hn hc
  have := pr_gw_r h n hn
  exact pr_ev_f h 31 32 c tc (by omega) (by omega)
theorem pr_ag_by (ar v : Int32) : pr_by (pr_ag ar v) := pr_by_and _
theorem pr_ev_by {lo : Nat} {K : Nat → Nat} {V : Nat → Int32} {A B : Nat → Option Nat} {rk : Nat → Nat} {ar : Int32} (h : pr_gw lo K V A B rk) : ∀ f n, pr_T lo K n → rk n < f → pr_by (pr_ev K V A B ar f n) := by
  intro f
  induction f with
  | zero =>
    intro n _ h
    omega
  | succ f ih =>
    intro n hn h1
    show pr_by (pr_en K V A B ar (pr_ev K V A B ar f) n)
    unfold pr_en
    by_cases h11 : K n = 11
    · rw [if_pos h11]
      exact (h n hn).2.2.1
    · rw [if_neg h11]
      by_cases h12 : K n = 12
      · rw [if_pos h12]
        exact pr_ag_by _ _
      · rw [if_neg h12]
        have ho : ∀ o : Option Nat, (∀ c, o = some c → A n = some c ∨ B n = some c) → pr_by (pr_ov (pr_ev K V A B ar f) o) := by
          intro o ho
          cases o with
          | none => exact pr_by_0
          | some c =>
            have ⟨tc, rc⟩ := pr_gw_T h n c hn (ho c rfl)
            exact ih c tc (by omega)
        exact pr_by_op (ho _ fun c hc => Or.inl hc) (ho _ fun c hc => Or.inr hc)
/-- uses of d: operand slots of the listed nodes, and outputs -/
def pr_us (A B : Nat → Option Nat) (O : Nat → Nat) (L : List Nat) (oc d : Nat) : Nat :=
  pr_sm (fun n => (if A n = some d then 1 else 0) + (if B n = some d then 1 else 0)) L + pr_rs (fun k => if O k = d then 1 else 0) 0 oc
