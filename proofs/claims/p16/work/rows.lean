section
/-! numbers and stores: rows of kit/rows, then own ones -/
theorem pr_ne1 {a : Nat} (h : a < 2 ^ 31) : ¬ nI a = -1 := by
  intro e
  have h1 := nI_pos (n := a) h
  rw [e] at h1
  exact h1 (by decide)
theorem pr_eq0 {a : Nat} (h : a < 2 ^ 31) : nI a = 0 ↔ a = 0 := by
  rw [← nI_0, nI_eq h (by omega)]
theorem pr_m1 {n : Nat} (h : 0 < n) : nI n + (-1) = nI (n - 1) := by
  obtain ⟨m, rfl⟩ : ∃ m, n = m + 1 := ⟨n - 1, by omega⟩
  exact pk_m1 m
theorem pr_s1 {n : Nat} (h : 0 < n) : nI n - 1 = nI (n - 1) := by
  obtain ⟨m, rfl⟩ : ∃ m, n = m + 1 := ⟨n - 1, by omega⟩
  exact nI_pred m
theorem pr_vb0 : vp_nar .boolean 0 = 0 := by decide
theorem pr_vb1 : vp_nar .boolean 1 = 1 := by decide
theorem pr_im {a b : Nat} (h : nI a = nI b) (ha : a < 2 ^ 31) (hb : b < 2 ^ 31) : a = b := (nI_eq ha hb).mp h
def pr_oI : Option Nat → Int32
  | none => -1
  | some c => nI c
def pr_oX (b : Nat) : Option Nat → Int32
  | none => -1
  | some c => nI (b + c)
def pr_b (x : Bool) : Int32 := match x with
  | true => 1
  | false => 0
theorem pr_nb (x : Bool) : vp_nar .boolean (pr_b x) = pr_b x := by
  cases x
  · exact pr_vb0
  · exact pr_vb1
theorem pr_b0 (x : Bool) : pr_b x = 0 ↔ x = false := by
  cases x
  · exact ⟨fun _ => rfl, fun _ => rfl⟩
  · exact ⟨fun h => absurd h (by decide), fun h => nomatch h⟩
end
section
/-! sums over slots and over lists; the postorder list -/
def pr_rs (g : Nat → Nat) (lo : Nat) : Nat → Nat
  | 0 => 0
  | n + 1 => pr_rs g lo n + g (lo + n)
def pr_sm (w : Nat → Nat) : List Nat → Nat
  | [] => 0
  | x :: L => w x + pr_sm w L
theorem pr_rs_congr {f g : Nat → Nat} {lo : Nat} : ∀ {n : Nat}, (∀ x, lo ≤ x → x < lo + n → f x = g x) → pr_rs f lo n = pr_rs g lo n
  | 0, _ => rfl
  | n + 1, h => by
    show pr_rs f lo n + f (lo + n) = pr_rs g lo n + g (lo + n)
    rw [pr_rs_congr (n := n) (fun x a b => h x a (by omega)), h (lo + n) (by omega) (by omega)]
theorem pr_rs_le {f g : Nat → Nat} {lo : Nat} : ∀ {n : Nat}, (∀ x, lo ≤ x → x < lo + n → f x ≤ g x) → pr_rs f lo n ≤ pr_rs g lo n
  | 0, _ => Nat.le_refl _
  | n + 1, h => by
    have h1 := pr_rs_le (n := n) (fun x a b => h x a (by omega))
    have h2 := h (lo + n) (by omega) (by omega)
    show pr_rs f lo n + f (lo + n) ≤ pr_rs g lo n + g (lo + n)
    omega
theorem pr_rs_lt {f g : Nat → Nat} {lo a : Nat} (ha : lo ≤ a) (hs : f a < g a) : ∀ {n : Nat}, a < lo + n → (∀ x, lo ≤ x → x < lo + n → f x ≤ g x) → pr_rs f lo n < pr_rs g lo n
  | 0, h, _ => by omega
  | n + 1, hn, h => by
    show pr_rs f lo n + f (lo + n) < pr_rs g lo n + g (lo + n)
    by_cases e : a = lo + n
    · have h1 := pr_rs_le (f := f) (g := g) (lo := lo) (n := n) (fun x a b => h x a (by omega))
      rw [e] at hs
      omega
    · have h1 := pr_rs_lt (f := f) (g := g) ha hs (n := n) (by omega) (fun x a b => h x a (by omega))
      have h2 := h (lo + n) (by omega) (by omega)
      omega
theorem pr_rs_add (f g : Nat → Nat) (lo : Nat) : ∀ n : Nat, pr_rs (fun x => f x + g x) lo n = pr_rs f lo n + pr_rs g lo n
  | 0 => rfl
  | n + 1 => by
    have h1 := pr_rs_add f g lo n
    show pr_rs (fun x => f x + g x) lo n + (f (lo + n) + g (lo + n)) = (pr_rs f lo n + f (lo + n)) + (pr_rs g lo n + g (lo + n))
    omega
theorem pr_rs_0 (lo : Nat) : ∀ n : Nat, pr_rs (fun _ => 0) lo n = 0
  | 0 => rfl
  | n + 1 => by
    show pr_rs (fun _ => 0) lo n + 0 = 0
    rw [pr_rs_0 lo n]
theorem pr_rs_one {lo a : Nat} (w : Nat) (ha : lo ≤ a) : ∀ n : Nat, pr_rs (fun x => if x = a then w else 0) lo n = if a < lo + n then w else 0
  | 0 => by
    rw [if_neg (by omega)]
    rfl
  | n + 1 => by
    show pr_rs (fun x => if x = a then w else 0) lo n + (if lo + n = a then w else 0) = _
    rw [pr_rs_one w ha n]
    by_cases e : lo + n = a
    · rw [if_pos e, if_neg (by omega), if_pos (by omega)]
      omega
    · rw [if_neg e]
      by_cases h : a < lo + n
      · rw [if_pos h, if_pos (by omega)]
        rfl
      · rw [if_neg h, if_neg (by omega)]
theorem pr_rs_bound {f : Nat → Nat} {lo c : Nat} : ∀ {n : Nat}, (∀ x, lo ≤ x → x < lo + n → f x ≤ c) → pr_rs f lo n ≤ n * c
  | 0, _ => by
    show 0 ≤ 0 * c
    omega
  | n + 1, h => by
    have h1 := pr_rs_bound (n := n) (fun x a b => h x a (by omega))
    have h2 := h (lo + n) (by omega) (by omega)
    show pr_rs f lo n + f (lo + n) ≤ (n + 1) * c
    rw [Nat.add_mul]
    omega
theorem pr_rs_list {w : Nat → Nat} {lo n : Nat} : ∀ {L : List Nat}, L.Nodup → (∀ x, x ∈ L → lo ≤ x ∧ x < lo + n) → pr_rs (fun s => if s ∈ L then w s else 0) lo n = pr_sm w L
  | [], _, _ => by
    refine Eq.trans (pr_rs_congr (g := fun _ => 0) fun x _ _ => if_neg (by simp)) (pr_rs_0 lo n)
  | x :: L, hd, hb => by
    rw [List.nodup_cons] at hd
    have h1 := pr_rs_list (w := w) (lo := lo) (n := n) hd.2 (fun y hy => hb y (List.mem_cons_of_mem x hy))
    have h2 := hb x List.mem_cons_self
    have h3 := pr_rs_one (lo := lo) (a := x) (w x) h2.1 n
    rw [if_pos h2.2] at h3
    show _ = w x + pr_sm w L
    rw [← h1, ← h3, ← pr_rs_add]
    refine pr_rs_congr fun y _ _ => ?_
    by_cases e : y = x
    · subst e
      rw [if_pos List.mem_cons_self, if_pos rfl, if_neg hd.1]
      rfl
    · rw [if_neg e]
      by_cases hy : y ∈ L
      · rw [if_pos (List.mem_cons_of_mem x hy), if_pos hy, Nat.zero_add]
      · rw [if_neg hy, if_neg (fun h => by
          rcases List.mem_cons.mp h with h | h
          · exact e h
          · exact hy h)]
theorem pr_sm_app (w : Nat → Nat) : ∀ L M : List Nat, pr_sm w (L ++ M) = pr_sm w L + pr_sm w M
  | [], M => by
    show pr_sm w M = 0 + pr_sm w M
    omega
  | x :: L, M => by
    have h := pr_sm_app w L M
    show w x + pr_sm w (L ++ M) = w x + pr_sm w L + pr_sm w M
    omega
theorem pr_sm_len {w : Nat → Nat} {c : Nat} (h : ∀ x, w x ≤ c) : ∀ L : List Nat, pr_sm w L ≤ L.length * c
  | [] => by
    show 0 ≤ 0 * c
    omega
  | x :: L => by
    have h1 := pr_sm_len h L
    have h2 := h x
    show w x + pr_sm w L ≤ (L.length + 1) * c
    rw [Nat.add_mul]
    omega
theorem pr_sm_ge {w : Nat → Nat} {x : Nat} : ∀ {L : List Nat}, x ∈ L → w x ≤ pr_sm w L
  | [], h => by simp at h
  | y :: L, h => by
    show w x ≤ w y + pr_sm w L
    rcases List.mem_cons.mp h with h | h
    · rw [h]
      omega
    · have := pr_sm_ge (w := w) h
      omega
theorem pr_sm_ge2 {w : Nat → Nat} {x y : Nat} (hxy : x ≠ y) : ∀ {L : List Nat}, x ∈ L → y ∈ L → w x + w y ≤ pr_sm w L
  | [], h, _ => by simp at h
  | z :: L, h, h' => by
    show w x + w y ≤ w z + pr_sm w L
    rcases List.mem_cons.mp h with h | h
    · rcases List.mem_cons.mp h' with h' | h'
      · exact absurd (h.trans h'.symm) hxy
      · have := pr_sm_ge (w := w) h'
        rw [h]
        omega
    · rcases List.mem_cons.mp h' with h' | h'
      · have := pr_sm_ge (w := w) h
        rw [h']
        omega
      · have := pr_sm_ge2 (w := w) hxy h h'
        omega
theorem pr_rs_ge {f : Nat → Nat} {lo a : Nat} (ha : lo ≤ a) : ∀ {n : Nat}, a < lo + n → f a ≤ pr_rs f lo n
  | 0, h => by omega
  | n + 1, h => by
    show f a ≤ pr_rs f lo n + f (lo + n)
    by_cases e : a = lo + n
    · rw [e]
      omega
    · have := pr_rs_ge (f := f) ha (n := n) (by omega)
      omega
def pr_oc (g : Nat → List Nat → List Nat) (o : Option Nat) (L : List Nat) : List Nat := match o with
  | none => L
  | some c => g c L
def pr_po (A B : Nat → Option Nat) : Nat → Nat → List Nat → List Nat
  | 0, _, L => L
  | f + 1, n, L => if n ∈ L then L else pr_oc (pr_po A B f) (B n) (pr_oc (pr_po A B f) (A n) L) ++ [n]
def pr_cl (A B : Nat → Option Nat) (S : Nat → Prop) : Prop := ∀ x c, S x → (A x = some c ∨ B x = some c) → S c
def pr_pk (T : Nat → Prop) (A B : Nat → Option Nat) (rk : Nat → Nat) (n : Nat) (L R : List Nat) : Prop :=
  ∃ M, R = L ++ M ∧ (L ++ M).Nodup ∧ pr_cl A B (fun x => x ∈ L ++ M) ∧ n ∈ L ++ M ∧ ∀ x, x ∈ M → T x ∧ rk x ≤ rk n ∧ ∀ S : Nat → Prop, pr_cl A B S → S n → S x
theorem pr_oc_ok {T : Nat → Prop} {A B : Nat → Option Nat} {rk : Nat → Nat} {g : Nat → List Nat → List Nat} {o : Option Nat} {L : List Nat}
    (hg : ∀ c, o = some c → ∀ L : List Nat, L.Nodup → pr_cl A B (fun x => x ∈ L) → pr_pk T A B rk c L (g c L))
    (h1 : L.Nodup) (h2 : pr_cl A B (fun x => x ∈ L)) :
    ∃ M, pr_oc g o L = L ++ M ∧ (L ++ M).Nodup ∧ pr_cl A B (fun x => x ∈ L ++ M) ∧ (∀ c, o = some c → c ∈ L ++ M) ∧ ∀ x, x ∈ M → T x ∧ ∃ c, o = some c ∧ rk x ≤ rk c ∧ ∀ S : Nat → Prop, pr_cl A B S → S c → S x := by
  cases o with
  | none => exact ⟨[], by simp [pr_oc], by simpa using h1, by simpa using h2, fun c hc => (by cases hc), fun x hx => (by cases hx)⟩
  | some c =>
    obtain ⟨M, e, m1, m2, m3, m4⟩ := hg c rfl L h1 h2
    refine ⟨M, e, m1, m2, fun d hd => ?_, fun x hx => ⟨(m4 x hx).1, c, rfl, (m4 x hx).2⟩⟩
    cases hd
    exact m3
theorem pr_po_ok {T : Nat → Prop} {A B : Nat → Option Nat} {rk : Nat → Nat} (hT : ∀ n c, T n → (A n = some c ∨ B n = some c) → T c ∧ rk c < rk n) :
    ∀ f n, rk n < f → T n → ∀ L : List Nat, L.Nodup → pr_cl A B (fun x => x ∈ L) → pr_pk T A B rk n L (pr_po A B f n L) := by
  intro f
  induction f with
  | zero =>
    intro n h
    omega
  | succ f ih =>
    intro n hn tn L h1 h2
    by_cases hm : n ∈ L
    · exact ⟨[], by simp [pr_po, hm], by simpa using h1, by simpa using h2, by simpa using hm, fun x hx => (by cases hx)⟩
    · obtain ⟨M1, e1, a1, b1, c1, d1⟩ := pr_oc_ok (T := T) (rk := rk) (g := pr_po A B f) (o := A n) (L := L) (fun c hc => ih c (by have := (hT n c tn (Or.inl hc)).2; omega) (hT n c tn (Or.inl hc)).1) h1 h2
      obtain ⟨M2, e2, a2, b2, c2, d2⟩ := pr_oc_ok (T := T) (rk := rk) (g := pr_po A B f) (o := B n) (L := L ++ M1) (fun c hc => ih c (by have := (hT n c tn (Or.inr hc)).2; omega) (hT n c tn (Or.inr hc)).1) a1 b1
      have r1 : ∀ x, x ∈ M1 → rk x < rk n := by
        intro x hx
        obtain ⟨_, c, hc, hr, _⟩ := d1 x hx
        have := (hT n c tn (Or.inl hc)).2
        omega
      have r2 : ∀ x, x ∈ M2 → rk x < rk n := by
        intro x hx
        obtain ⟨_, c, hc, hr, _⟩ := d2 x hx
        have := (hT n c tn (Or.inr hc)).2
        omega
      have nm : n ∉ L ++ M1 ++ M2 := by
        intro h
        rcases List.mem_append.mp h with h | h
        · rcases List.mem_append.mp h with h | h
          · exact hm h
          · exact Nat.lt_irrefl _ (r1 n h)
        · exact Nat.lt_irrefl _ (r2 n h)
      have ee : L ++ (M1 ++ M2 ++ [n]) = L ++ M1 ++ M2 ++ [n] := by simp
      refine ⟨M1 ++ M2 ++ [n], ?_, ?_, ?_, by simp, ?_⟩
      · show (if n ∈ L then L else _) = _
        rw [if_neg hm, e1, e2, ee]
      · rw [ee, List.nodup_append]
        refine ⟨a2, by simp, fun x hx y hy e => ?_⟩
        rw [List.mem_singleton] at hy
        subst e
        subst hy
        exact nm hx
      · rw [ee]
        intro x c hx hc
        rcases List.mem_append.mp hx with hx | hx
        · exact List.mem_append_left _ (b2 x c hx hc)
        · rw [List.mem_singleton] at hx
          subst hx
          rcases hc with hc | hc
          · exact List.mem_append_left _ (List.mem_append_left _ (c1 c hc))
          · exact List.mem_append_left _ (c2 c hc)
      · intro x hx
        rcases List.mem_append.mp hx with hx | hx
        · rcases List.mem_append.mp hx with hx | hx
          · obtain ⟨t, c, hc, hr, hS⟩ := d1 x hx
            exact ⟨t, Nat.le_of_lt (r1 x hx), fun S hcl hn => hS S hcl (hcl n c hn (Or.inl hc))⟩
          · obtain ⟨t, c, hc, hr, hS⟩ := d2 x hx
            exact ⟨t, Nat.le_of_lt (r2 x hx), fun S hcl hn => hS S hcl (hcl n c hn (Or.inr hc))⟩
        · rw [List.mem_singleton] at hx
          subst hx
          exact ⟨tn, Nat.le_refl _, fun S _ h => h⟩
/-- the live nodes of a graph whose first `k` outputs are `O ob ..`, in the document's order -/
def pr_lv (A B : Nat → Option Nat) (O : Nat → Nat) (ob : Nat) : Nat → List Nat
  | 0 => []
  | k + 1 => pr_po A B 32 (O (ob + k)) (pr_lv A B O ob k)
def pr_lk (T : Nat → Prop) (A B : Nat → Option Nat) (O : Nat → Nat) (ob k : Nat) (L : List Nat) : Prop :=
  L.Nodup ∧ pr_cl A B (fun x => x ∈ L) ∧ (∀ i, i < k → O (ob + i) ∈ L) ∧ ∀ x, x ∈ L → T x ∧ ∀ S : Nat → Prop, pr_cl A B S → (∀ i, i < k → S (O (ob + i))) → S x
theorem pr_lv_ok {T : Nat → Prop} {A B : Nat → Option Nat} {rk O : Nat → Nat} {ob : Nat} (hT : ∀ n c, T n → (A n = some c ∨ B n = some c) → T c ∧ rk c < rk n) (hr : ∀ n, T n → rk n < 32) :
    ∀ k, (∀ i, i < k → T (O (ob + i))) → pr_lk T A B O ob k (pr_lv A B O ob k)
  | 0, _ => ⟨by simp [pr_lv], fun x c hx _ => (by cases hx), fun i h => absurd h (by omega), fun x hx => (by cases hx)⟩
  | k + 1, ho => by
    obtain ⟨h1, h2, h3, h4⟩ := pr_lv_ok (O := O) (ob := ob) hT hr k (fun i hi => ho i (by omega))
    obtain ⟨M, e, m1, m2, m3, m4⟩ := pr_po_ok hT 32 (O (ob + k)) (hr _ (ho k (by omega))) (ho k (by omega)) _ h1 h2
    have e' : pr_lv A B O ob (k + 1) = pr_lv A B O ob k ++ M := e
    rw [e']
    refine ⟨m1, m2, fun i hi => ?_, fun x hx => ?_⟩
    · by_cases e : i = k
      · rw [e]
        exact m3
      · exact List.mem_append_left _ (h3 i (by omega))
    · rcases List.mem_append.mp hx with hx | hx
      · exact ⟨(h4 x hx).1, fun S hc hS => (h4 x hx).2 S hc fun i hi => hS i (by omega)⟩
      · exact ⟨(m4 x hx).1, fun S hc hS => (m4 x hx).2.2 S hc (hS k (by omega))⟩
theorem pr_len {L : List Nat} {lo n : Nat} (h : L.Nodup) (hb : ∀ x, x ∈ L → lo ≤ x ∧ x < lo + n) : L.length ≤ n := by
  have := List.Nodup.length_le_of_subset (l₂ := List.range' lo n) h (fun x hx => by
    have := hb x hx
    rw [List.mem_range'_1]
    omega)
  rw [List.length_range'] at this
  exact this
end
section
/-! the graph on naturals: kinds, values, operands; ranks; values of nodes -/
def pr_w (κ : Nat) : Nat := if κ = 3 then 3 else if 1 ≤ κ ∧ κ ≤ 10 then 1 else 0
theorem pr_w_le (κ : Nat) : pr_w κ ≤ 3 := by
  unfold pr_w
  by_cases h : κ = 3
  · rw [if_pos h]
    exact Nat.le_refl 3
  · rw [if_neg h]
    by_cases h2 : 1 ≤ κ ∧ κ ≤ 10
    · rw [if_pos h2]
      omega
    · rw [if_neg h2]
      omega
theorem pr_w_0 {κ : Nat} (h : κ = 0 ∨ 11 ≤ κ) : pr_w κ = 0 := by
  unfold pr_w
  rw [if_neg (by omega), if_neg (by omega)]
def pr_op (κ : Nat) (x y : Int32) : Int32 :=
  if κ = 1 then (x + y) &&& 255 else if κ = 2 then (x - y) &&& 255 else if κ = 3 then (x * y) &&& 255 else if κ = 4 then x &&& y else if κ = 5 then x ||| y else if κ = 6 then x ^^^ y
  else if κ = 7 then (if y < 8 then (x <<< (y &&& 31)) &&& 255 else 0) else if κ = 8 then (if y < 8 then x >>> (y &&& 31) else 0) else if κ = 9 then x ^^^ 255 else (0 - x) &&& 255
def pr_by (x : Int32) : Prop := ∃ m : Nat, m < 256 ∧ x = nI m
theorem pr_by_0 : pr_by 0 := ⟨0, by omega, rfl⟩
theorem pr_by_and (x : Int32) : pr_by (x &&& 255) := pk_andE x 8 (by decide)
theorem pr_by_id {x : Int32} (h : pr_by x) : x &&& 255 = x := by
  obtain ⟨m, hm, rfl⟩ := h
  rw [pk_andN (by omega) (m := 255) 8 (by decide), Nat.mod_eq_of_lt (by omega)]
theorem pr_bv (n : Nat) : (nI n).toBitVec = BitVec.ofNat 32 n := rfl
theorem pr_nand (a b : Nat) : nI a &&& nI b = nI (a &&& b) := by
  apply Int32.toBitVec_inj.mp
  rw [Int32.toBitVec_and, pr_bv, pr_bv, pr_bv, BitVec.ofNat_and]
theorem pr_nor (a b : Nat) : nI a ||| nI b = nI (a ||| b) := by
  apply Int32.toBitVec_inj.mp
  rw [Int32.toBitVec_or, pr_bv, pr_bv, pr_bv, BitVec.ofNat_or]
theorem pr_nxor (a b : Nat) : nI a ^^^ nI b = nI (a ^^^ b) := by
  apply Int32.toBitVec_inj.mp
  rw [Int32.toBitVec_xor, pr_bv, pr_bv, pr_bv, BitVec.ofNat_xor]
theorem pr_sl : ∀ n, n < 32 → ((nI n &&& 31).toBitVec.smod 32).toNat = n := by decide
theorem pr_by_op {κ : Nat} {x y : Int32} (hx : pr_by x) (hy : pr_by y) : pr_by (pr_op κ x y) := by
  obtain ⟨a, ha, rfl⟩ := hx
  obtain ⟨b, hb, rfl⟩ := hy
  unfold pr_op
  by_cases h1 : κ = 1
  · rw [if_pos h1]; exact pr_by_and _
  rw [if_neg h1]
  by_cases h2 : κ = 2
  · rw [if_pos h2]; exact pr_by_and _
  rw [if_neg h2]
  by_cases h3 : κ = 3
  · rw [if_pos h3]; exact pr_by_and _
  rw [if_neg h3]
  by_cases h4 : κ = 4
  · rw [if_pos h4]; exact ⟨a &&& b, Nat.lt_of_le_of_lt Nat.and_le_left ha, pr_nand a b⟩
  rw [if_neg h4]
  by_cases h5 : κ = 5
  · rw [if_pos h5]; exact ⟨a ||| b, Nat.or_lt_two_pow (n := 8) ha hb, pr_nor a b⟩
  rw [if_neg h5]
  by_cases h6 : κ = 6
  · rw [if_pos h6]; exact ⟨a ^^^ b, Nat.xor_lt_two_pow (n := 8) ha hb, pr_nxor a b⟩
  rw [if_neg h6]
  by_cases h7 : κ = 7
  · rw [if_pos h7]
    by_cases h : nI b < 8
    · rw [if_pos h]; exact pr_by_and _
    · rw [if_neg h]; exact pr_by_0
  rw [if_neg h7]
  by_cases h8 : κ = 8
  · rw [if_pos h8]
    by_cases h : nI b < 8
    · rw [if_pos h]
      have hb8 : b < 8 := (nI_ltI (by omega) (b := 8) (by omega)).mp h
      refine ⟨a / 2 ^ b, Nat.lt_of_le_of_lt (Nat.div_le_self _ _) ha, ?_⟩
      exact pk_shrN (by omega) _ b (pr_sl b (by omega))
    · rw [if_neg h]; exact pr_by_0
  rw [if_neg h8]
  by_cases h9 : κ = 9
  · rw [if_pos h9]
    exact ⟨a ^^^ 255, Nat.xor_lt_two_pow (n := 8) ha (by decide), pr_nxor a 255⟩
  rw [if_neg h9]
  exact pr_by_and _
def pr_T (lo : Nat) (K : Nat → Nat) (n : Nat) : Prop := lo ≤ n ∧ n < lo + 32 ∧ K n ≠ 0
/-- a graph in the slots lo .. lo + 31: kind 0 is no node -/
def pr_gw (lo : Nat) (K : Nat → Nat) (V : Nat → Int32) (A B : Nat → Option Nat) (rk : Nat → Nat) : Prop :=
  ∀ n, pr_T lo K n → K n ≤ 12 ∧ rk n < 32 ∧ pr_by (V n) ∧ (K n = 12 → ∃ i, i < 4 ∧ V n = nI i) ∧ (K n ≤ 10 → V n = 0) ∧ (11 ≤ K n → A n = none) ∧ (9 ≤ K n → B n = none) ∧ (K n ≤ 10 → ∃ c, A n = some c) ∧ (K n ≤ 8 → ∃ c, B n = some c) ∧ ∀ c, (A n = some c ∨ B n = some c) → pr_T lo K c ∧ rk c < rk n
theorem pr_gw_T {lo : Nat} {K : Nat → Nat} {V : Nat → Int32} {A B : Nat → Option Nat} {rk : Nat → Nat} (h : pr_gw lo K V A B rk) (n c : Nat) (hn : pr_T lo K n) (hc : A n = some c ∨ B n = some c) : pr_T lo K c ∧ rk c < rk n := (h n hn).2.2.2.2.2.2.2.2.2 c hc
theorem pr_gw_r {lo : Nat} {K : Nat → Nat} {V : Nat → Int32} {A B : Nat → Option Nat} {rk : Nat → Nat} (h : pr_gw lo K V A B rk) (n : Nat) (hn : pr_T lo K n) : rk n < 32 := (h n hn).2.1
def pr_rc (rk : Nat → Nat) (lo n : Nat) : Nat := pr_rs (fun m => if rk m < rk n then 1 else 0) lo 32
theorem pr_rc_lt (rk : Nat → Nat) {lo n : Nat} (h1 : lo ≤ n) (h2 : n < lo + 32) : pr_rc rk lo n < 32 := by
  have h := pr_rs_lt (f := fun m => if rk m < rk n then 1 else 0) (g := fun _ => 1) (lo := lo) (a := n) h1 (by
    show (if rk n < rk n then 1 else 0) < 1
    rw [if_neg (Nat.lt_irrefl _)]
    omega) (n := 32) h2 (fun x _ _ => by
    show (if rk x < rk n then 1 else 0) ≤ 1
    by_cases h : rk x < rk n
    · rw [if_pos h]
      omega
    · rw [if_neg h]
      omega)
  have h2 := pr_rs_bound (f := fun _ => 1) (lo := lo) (c := 1) (n := 32) (fun _ _ _ => Nat.le_refl 1)
  unfold pr_rc
  omega
theorem pr_rc_mono {rk : Nat → Nat} {lo c n : Nat} (h : rk c < rk n) (h1 : lo ≤ c) (h2 : c < lo + 32) : pr_rc rk lo c < pr_rc rk lo n := by
  refine pr_rs_lt (a := c) h1 ?_ h2 (fun x _ _ => ?_)
  · show (if rk c < rk c then 1 else 0) < (if rk c < rk n then 1 else 0)
    rw [if_neg (Nat.lt_irrefl _), if_pos h]
    omega
  · show (if rk x < rk c then 1 else 0) ≤ (if rk x < rk n then 1 else 0)
    by_cases hx : rk x < rk c
    · rw [if_pos hx, if_pos (by omega)]
      omega
    · rw [if_neg hx]
      omega
def pr_ov (g : Nat → Int32) (o : Option Nat) : Int32 := match o with
  | none => 0
  | some c => g c
def pr_ag (ar v : Int32) : Int32 := ((ar.toUInt32 >>> ((8 * v).toUInt32 &&& Int32.toUInt32 31)).toInt32) &&& 255
def pr_en (K : Nat → Nat) (V : Nat → Int32) (A B : Nat → Option Nat) (ar : Int32) (g : Nat → Int32) (n : Nat) : Int32 :=
  if K n = 11 then V n else if K n = 12 then pr_ag ar (V n) else pr_op (K n) (pr_ov g (A n)) (pr_ov g (B n))
def pr_ev (K : Nat → Nat) (V : Nat → Int32) (A B : Nat → Option Nat) (ar : Int32) : Nat → Nat → Int32
  | 0, _ => 0
  | f + 1, n => pr_en K V A B ar (pr_ev K V A B ar f) n
theorem pr_ov_congr {g h : Nat → Int32} {o : Option Nat} (e : ∀ c, o = some c → g c = h c) : pr_ov g o = pr_ov h o := by
  cases o with
  | none => rfl
  | some c => exact e c rfl
theorem pr_en_congr {K : Nat → Nat} {V : Nat → Int32} {A B : Nat → Option Nat} {ar : Int32} {g h : Nat → Int32} {n : Nat} (e : ∀ c, A n = some c ∨ B n = some c → g c = h c) : pr_en K V A B ar g n = pr_en K V A B ar h n := by
  unfold pr_en
  rw [pr_ov_congr (o := A n) (fun c hc => e c (Or.inl hc)), pr_ov_congr (o := B n) (fun c hc => e c (Or.inr hc))]
theorem pr_ev_f {lo : Nat} {K : Nat → Nat} {V : Nat → Int32} {A B : Nat → Option Nat} {rk : Nat → Nat} {ar : Int32} (h : pr_gw lo K V A B rk) : ∀ f f' n, pr_T lo K n → rk n < f → rk n < f' → pr_ev K V A B ar f n = pr_ev K V A B ar f' n := by
  intro f
  induction f with
  | zero =>
    intro f' n _ h
    omega
  | succ f ih =>
    intro f' n hn h1 h2
    obtain ⟨f'', rfl⟩ : ∃ q, f' = q + 1 := ⟨f' - 1, by omega⟩
    refine pr_en_congr fun c hc => ?_
    have ⟨tc, rc⟩ := pr_gw_T h n c hn hc
    exact ih f'' c tc (by omega) (by omega)
theorem pr_ev_eq {lo : Nat} {K : Nat → Nat} {V : Nat → Int32} {A B : Nat → Option Nat} {rk : Nat → Nat} {ar : Int32} (h : pr_gw lo K V A B rk) {n : Nat} (hn : pr_T lo K n) : pr_ev K V A B ar 32 n = pr_en K V A B ar (pr_ev K V A B ar 32) n := by
  show pr_en K V A B ar (pr_ev K V A B ar 31) n = _
  refine pr_en_congr fun c hc => ?_
  have ⟨tc, rc⟩ := pr_gw_T h n c hn hc
  have := pr_gw_r h n hn
  exact pr_ev_f h 31 32 c tc (by omega) (by omega)
theorem pr_ag_by (ar v : Int32) : pr_by (pr_ag ar v) := pr_by_and _
theorem pr_ev_by {lo : Nat} {K : Nat → Nat} {V : Nat → Int32} {A B : Nat → Option Nat} {rk : Nat → Nat} {ar : Int32} (h : pr_gw lo K V A B rk) : ∀ f n, pr_T lo K n → rk n < f → pr_by (pr_ev K V A B ar f n) := by
  intro f
  induction f with
  | zero =>
    intro n _ h
    omega
  | succ f ih =>
    intro n hn h1
    show pr_by (pr_en K V A B ar (pr_ev K V A B ar f) n)
    unfold pr_en
    by_cases h11 : K n = 11
    · rw [if_pos h11]
      exact (h n hn).2.2.1
    · rw [if_neg h11]
      by_cases h12 : K n = 12
      · rw [if_pos h12]
        exact pr_ag_by _ _
      · rw [if_neg h12]
        have ho : ∀ o : Option Nat, (∀ c, o = some c → A n = some c ∨ B n = some c) → pr_by (pr_ov (pr_ev K V A B ar f) o) := by
          intro o ho
          cases o with
          | none => exact pr_by_0
          | some c =>
            have ⟨tc, rc⟩ := pr_gw_T h n c hn (ho c rfl)
            exact ih c tc (by omega)
        exact pr_by_op (ho _ fun c hc => Or.inl hc) (ho _ fun c hc => Or.inr hc)
/-- uses of d: operand slots of the listed nodes, and outputs -/
def pr_us (A B : Nat → Option Nat) (O : Nat → Nat) (L : List Nat) (oc d : Nat) : Nat :=
  pr_sm (fun n => (if A n = some d then 1 else 0) + (if B n = some d then 1 else 0)) L + pr_rs (fun k => if O k = d then 1 else 0) 0 oc
end
section
/-! rule trees on naturals: size, kind, value, operands, parent; the draft's pending subtrees -/
abbrev pr_PT : Type := Nat × (Nat → Nat) × (Nat → Nat) × (Nat → Option Nat) × (Nat → Option Nat) × (Nat → Option Nat)
def pt_n (t : pr_PT) : Nat := t.1
def pt_k (t : pr_PT) : Nat → Nat := t.2.1
def pt_v (t : pr_PT) : Nat → Nat := t.2.2.1
def pt_a (t : pr_PT) : Nat → Option Nat := t.2.2.2.1
def pt_b (t : pr_PT) : Nat → Option Nat := t.2.2.2.2.1
def pt_p (t : pr_PT) : Nat → Option Nat := t.2.2.2.2.2
def pr_st {α : Type} (f : Nat → α) (i : Nat) (x : α) : Nat → α := fun j => if j = i then x else f j
theorem pr_st_s {α : Type} {f : Nat → α} {i : Nat} {x : α} : pr_st f i x i = x := if_pos rfl
theorem pr_st_n {α : Type} {f : Nat → α} {i j : Nat} {x : α} (h : j ≠ i) : pr_st f i x j = f j := if_neg h
def pr_ar (κ : Nat) : Nat := if 1 ≤ κ ∧ κ ≤ 8 then 2 else if κ = 9 ∨ κ = 10 then 1 else 0
theorem pr_ar_2 {κ : Nat} (h : 1 ≤ κ) (h2 : κ ≤ 8) : pr_ar κ = 2 := if_pos ⟨h, h2⟩
theorem pr_ar_1 {κ : Nat} (h : κ = 9 ∨ κ = 10) : pr_ar κ = 1 := by
  unfold pr_ar
  rw [if_neg (by omega), if_pos h]
theorem pr_ar_0 {κ : Nat} (h : κ = 0 ∨ 11 ≤ κ) : pr_ar κ = 0 := by
  unfold pr_ar
  rw [if_neg (by omega), if_neg (by omega)]
theorem pr_ar_c (κ : Nat) : (pr_ar κ = 2 ∧ 1 ≤ κ ∧ κ ≤ 8) ∨ (pr_ar κ = 1 ∧ (κ = 9 ∨ κ = 10)) ∨ (pr_ar κ = 0 ∧ (κ = 0 ∨ 11 ≤ κ)) := by
  by_cases h : 1 ≤ κ ∧ κ ≤ 8
  · exact Or.inl ⟨pr_ar_2 h.1 h.2, h⟩
  · by_cases h2 : κ = 9 ∨ κ = 10
    · exact Or.inr (Or.inl ⟨pr_ar_1 h2, h2⟩)
    · exact Or.inr (Or.inr ⟨pr_ar_0 (by omega), by omega⟩)
def pt_nd (t : pr_PT) (i : Nat) : Prop :=
  (1 ≤ pt_k t i ∧ pt_k t i ≤ 14 ∧ pt_k t i ≠ 12) ∧ (pt_k t i = 11 → pt_v t i < 256) ∧ (13 ≤ pt_k t i → pt_v t i < 2) ∧ (pt_k t i ≤ 10 → pt_v t i = 0) ∧
  (11 ≤ pt_k t i → pt_a t i = none) ∧ (9 ≤ pt_k t i → pt_b t i = none) ∧ (pt_k t i ≤ 10 → ∃ c, pt_a t i = some c) ∧ (pt_k t i ≤ 8 → ∃ c, pt_b t i = some c) ∧
  (∀ c, pt_a t i = some c ∨ pt_b t i = some c → c < i ∧ pt_p t c = some i) ∧ (∀ c, pt_a t i = some c → pt_b t i ≠ some c) ∧
  (∀ q, pt_p t i = some q → i < q ∧ q < pt_n t ∧ (pt_a t q = some i ∨ pt_b t q = some i))
def pt_ok (t : pr_PT) : Prop := pt_n t ≤ 8 ∧ ∀ i, i < pt_n t → pt_nd t i
def pd_ok (t : pr_PT) (ps : Nat → Nat) (c : Nat) : Prop :=
  c ≤ pt_n t ∧ (∀ q, q < c → ps q < pt_n t ∧ pt_p t (ps q) = none) ∧ (∀ q q', q < q' → q' < c → ps q < ps q') ∧ (∀ i, i < pt_n t → pt_p t i = none → ∃ q, q < c ∧ ps q = i) ∧ (0 < pt_n t → 0 < c ∧ ps (c - 1) + 1 = pt_n t)
def pt_put (t : pr_PT) (κ v : Nat) (a0 b0 : Option Nat) : pr_PT :=
  (pt_n t + 1, pr_st (pt_k t) (pt_n t) κ, pr_st (pt_v t) (pt_n t) v, pr_st (pt_a t) (pt_n t) a0, pr_st (pt_b t) (pt_n t) b0, fun i => if i = pt_n t then none else if a0 = some i ∨ b0 = some i then some (pt_n t) else pt_p t i)
def pt_a0 (ps : Nat → Nat) (c κ : Nat) : Option Nat := if 1 ≤ pr_ar κ then some (ps (c - pr_ar κ)) else none
def pt_b0 (ps : Nat → Nat) (c κ : Nat) : Option Nat := if pr_ar κ = 2 then some (ps (c - pr_ar κ + 1)) else none
def pt_add (t : pr_PT) (ps : Nat → Nat) (c κ v : Nat) : pr_PT := pt_put t κ (if pr_ar κ = 0 then v else 0) (pt_a0 ps c κ) (pt_b0 ps c κ)
def pd_add (t : pr_PT) (ps : Nat → Nat) (c κ : Nat) : Nat → Nat := pr_st ps (c - pr_ar κ) (pt_n t)
theorem pt_put_ok {t : pr_PT} {κ v : Nat} {a0 b0 : Option Nat} (ht : pt_ok t) (hn : pt_n t < 8) (hk : 1 ≤ κ ∧ κ ≤ 14 ∧ κ ≠ 12) (hv : κ = 11 → v < 256) (hv2 : 13 ≤ κ → v < 2) (hv0 : κ ≤ 10 → v = 0)
    (h1 : 11 ≤ κ → a0 = none) (h2 : 9 ≤ κ → b0 = none) (h3 : κ ≤ 10 → ∃ c, a0 = some c) (h4 : κ ≤ 8 → ∃ c, b0 = some c) (h5 : ∀ c, a0 = some c ∨ b0 = some c → c < pt_n t ∧ pt_p t c = none) (h6 : ∀ c, a0 = some c → b0 ≠ some c) : pt_ok (pt_put t κ v a0 b0) := by
  refine ⟨by show pt_n t + 1 ≤ 8; omega, fun i hi => ?_⟩
  have hi' : i < pt_n t + 1 := hi
  have eP : pt_p (pt_put t κ v a0 b0) = fun i => if i = pt_n t then none else if a0 = some i ∨ b0 = some i then some (pt_n t) else pt_p t i := rfl
  have eN : pt_n (pt_put t κ v a0 b0) = pt_n t + 1 := rfl
  have eK : ∀ j, pt_k (pt_put t κ v a0 b0) j = pr_st (pt_k t) (pt_n t) κ j := fun _ => rfl
  have eV : ∀ j, pt_v (pt_put t κ v a0 b0) j = pr_st (pt_v t) (pt_n t) v j := fun _ => rfl
  have eA : ∀ j, pt_a (pt_put t κ v a0 b0) j = pr_st (pt_a t) (pt_n t) a0 j := fun _ => rfl
  have eB : ∀ j, pt_b (pt_put t κ v a0 b0) j = pr_st (pt_b t) (pt_n t) b0 j := fun _ => rfl
  unfold pt_nd
  by_cases e : i = pt_n t
  · subst e
    rw [eK, eV, eA, eB, eN, pr_st_s, pr_st_s, pr_st_s, pr_st_s]
    refine ⟨hk, hv, hv2, hv0, h1, h2, h3, h4, fun c hc => ?_, h6, fun q hq => ?_⟩
    · have h := h5 c hc
      refine ⟨h.1, ?_⟩
      rw [eP]
      show (if c = pt_n t then none else if a0 = some c ∨ b0 = some c then some (pt_n t) else pt_p t c) = _
      rw [if_neg (by omega), if_pos hc]
    · rw [eP] at hq
      replace hq : (if pt_n t = pt_n t then none else if a0 = some (pt_n t) ∨ b0 = some (pt_n t) then some (pt_n t) else pt_p t (pt_n t)) = some q := hq
      rw [if_pos rfl] at hq
      cases hq
  · have hlt : i < pt_n t := by omega
    obtain ⟨g1, g2, g3, g4, g5, g6, g7, g8, g9, g10, g11⟩ := ht.2 i hlt
    rw [eK, eV, eA, eB, eN, pr_st_n e, pr_st_n e, pr_st_n e, pr_st_n e]
    refine ⟨g1, g2, g3, g4, g5, g6, g7, g8, fun c hc => ?_, g10, fun q hq => ?_⟩
    · have h := g9 c hc
      refine ⟨h.1, ?_⟩
      rw [eP]
      show (if c = pt_n t then none else if a0 = some c ∨ b0 = some c then some (pt_n t) else pt_p t c) = _
      rw [if_neg (by omega), if_neg (fun hh => by
        have := (h5 c hh).2
        rw [h.2] at this
        cases this)]
      exact h.2
    · rw [eP] at hq
      replace hq : (if i = pt_n t then none else if a0 = some i ∨ b0 = some i then some (pt_n t) else pt_p t i) = some q := hq
      rw [if_neg e] at hq
      by_cases hC : a0 = some i ∨ b0 = some i
      · rw [if_pos hC] at hq
        cases hq
        refine ⟨hlt, by omega, ?_⟩
        rw [eA, eB, pr_st_s, pr_st_s]
        exact hC
      · rw [if_neg hC] at hq
        have h := g11 q hq
        refine ⟨h.1, by omega, ?_⟩
        rw [eA, eB, pr_st_n (by omega), pr_st_n (by omega)]
        exact h.2.2
theorem pt_add_ok {t : pr_PT} {ps : Nat → Nat} {c κ v : Nat} (ht : pt_ok t) (hp : pd_ok t ps c) (hn : pt_n t < 8) (hk : 1 ≤ κ ∧ κ ≤ 14 ∧ κ ≠ 12) (hv : κ = 11 → v < 256) (hv2 : 13 ≤ κ → v < 2) (hc : pr_ar κ ≤ c) :
    pt_ok (pt_add t ps c κ v) ∧ pd_ok (pt_add t ps c κ v) (pd_add t ps c κ) (c - pr_ar κ + 1) := by
  obtain ⟨p1, p2, p3, p4, p5⟩ := hp
  have hA : ∀ x, pt_a0 ps c κ = some x → 1 ≤ pr_ar κ ∧ x = ps (c - pr_ar κ) := by
    intro x hx
    unfold pt_a0 at hx
    by_cases h : 1 ≤ pr_ar κ
    · rw [if_pos h] at hx
      cases hx
      exact ⟨h, rfl⟩
    · rw [if_neg h] at hx
      cases hx
  have hB : ∀ x, pt_b0 ps c κ = some x → pr_ar κ = 2 ∧ x = ps (c - pr_ar κ + 1) := by
    intro x hx
    unfold pt_b0 at hx
    by_cases h : pr_ar κ = 2
    · rw [if_pos h] at hx
      cases hx
      exact ⟨h, rfl⟩
    · rw [if_neg h] at hx
      cases hx
  have har := pr_ar_c κ
  constructor
  · refine pt_put_ok ht hn hk ?_ ?_ ?_ ?_ ?_ ?_ ?_ ?_ ?_
    · intro h
      rw [if_pos (by omega)]
      exact hv h
    · intro h
      rw [if_pos (by omega)]
      exact hv2 h
    · intro h
      rw [if_neg (by omega)]
    · intro h
      unfold pt_a0
      rw [if_neg (by omega)]
    · intro h
      unfold pt_b0
      rw [if_neg (by omega)]
    · intro h
      unfold pt_a0
      rw [if_pos (by omega)]
      exact ⟨_, rfl⟩
    · intro h
      unfold pt_b0
      rw [if_pos (by omega)]
      exact ⟨_, rfl⟩
    · intro x hx
      rcases hx with hx | hx
      · obtain ⟨q1, q2⟩ := hA x hx
        rw [q2]
        exact p2 _ (by omega)
      · obtain ⟨q1, q2⟩ := hB x hx
        rw [q2]
        exact p2 _ (by omega)
    · intro x hx hx'
      obtain ⟨q1, q2⟩ := hA x hx
      obtain ⟨q3, q4⟩ := hB x hx'
      have := p3 (c - pr_ar κ) (c - pr_ar κ + 1) (by omega) (by omega)
      omega
  · have eP : ∀ i, pt_p (pt_add t ps c κ v) i = if i = pt_n t then none else if pt_a0 ps c κ = some i ∨ pt_b0 ps c κ = some i then some (pt_n t) else pt_p t i := fun _ => rfl
    have eN : pt_n (pt_add t ps c κ v) = pt_n t + 1 := rfl
    unfold pd_ok
    rw [eN]
    refine ⟨by omega, fun q hq => ?_, fun q q' h1 h2 => ?_, fun i hi hi0 => ?_, fun _ => ⟨by omega, ?_⟩⟩
    · unfold pd_add
      by_cases e : q = c - pr_ar κ
      · rw [e, pr_st_s, eP, if_pos rfl]
        exact ⟨by omega, rfl⟩
      · rw [pr_st_n e, eP]
        have h := p2 q (by omega)
        refine ⟨by omega, ?_⟩
        rw [if_neg (by omega), if_neg (fun hh => ?_)]
        · exact h.2
        · rcases hh with hh | hh
          · have := hA _ hh
            have := p3 q (c - pr_ar κ) (by omega) (by omega)
            omega
          · have := hB _ hh
            have := p3 q (c - pr_ar κ + 1) (by omega) (by omega)
            omega
    · unfold pd_add
      rw [pr_st_n (j := q) (by omega)]
      by_cases e : q' = c - pr_ar κ
      · rw [e, pr_st_s]
        exact (p2 q (by omega)).1
      · rw [pr_st_n e]
        exact p3 q q' h1 (by omega)
    · unfold pd_add
      rw [eP] at hi0
      by_cases e : i = pt_n t
      · exact ⟨c - pr_ar κ, by omega, by rw [pr_st_s]; exact e.symm⟩
      · rw [if_neg e] at hi0
        by_cases hC : pt_a0 ps c κ = some i ∨ pt_b0 ps c κ = some i
        · rw [if_pos hC] at hi0
          cases hi0
        · rw [if_neg hC] at hi0
          obtain ⟨q, hq, hq'⟩ := p4 i (by omega) hi0
          have hlt : q < c - pr_ar κ := by
            by_cases hx : q < c - pr_ar κ
            · exact hx
            · exfalso
              apply hC
              by_cases e0 : q = c - pr_ar κ
              · left
                unfold pt_a0
                rw [if_pos (by omega), ← e0, hq']
              · right
                unfold pt_b0
                rw [if_pos (by omega), show c - pr_ar κ + 1 = q by omega, hq']
          exact ⟨q, by omega, by rw [pr_st_n (by omega)]; exact hq'⟩
    · unfold pd_add
      rw [show c - pr_ar κ + 1 - 1 = c - pr_ar κ by omega, pr_st_s]
def pt_0 : pr_PT := (0, fun _ => 0, fun _ => 0, fun _ => none, fun _ => none, fun _ => none)
theorem pt_0_ok : pt_ok pt_0 := ⟨by show 0 ≤ 8; omega, fun i hi => absurd hi (by show ¬ i < 0; omega)⟩
theorem pd_0_ok (ps : Nat → Nat) : pd_ok pt_0 ps 0 := ⟨by show 0 ≤ 0; omega, fun q hq => absurd hq (by omega), fun q q' _ h => absurd h (by omega), fun i hi _ => absurd hi (by show ¬ i < 0; omega), fun h => absurd h (by show ¬ 0 < 0; omega)⟩
/-- a finished tree: every node but the root has its parent -/
def pt_fin (t : pr_PT) : Prop := 0 < pt_n t ∧ pt_p t (pt_n t - 1) = none ∧ ∀ i, i + 1 < pt_n t → ∃ q, pt_p t i = some q
theorem pd_fin {t : pr_PT} {ps : Nat → Nat} (hp : pd_ok t ps 1) : pt_fin t := by
  obtain ⟨p1, p2, p3, p4, p5⟩ := hp
  have h := p5 (by omega)
  have h0 := p2 0 (by omega)
  have e : ps 0 = pt_n t - 1 := by
    have := h.2
    rw [show (1 : Nat) - 1 = 0 from rfl] at this
    omega
  refine ⟨by omega, e ▸ h0.2, fun i hi => ?_⟩
  cases hc : pt_p t i with
  | some q => exact ⟨q, rfl⟩
  | none =>
    obtain ⟨q, hq, hq'⟩ := p4 i (by omega) hc
    have : q = 0 := by omega
    subst this
    omega
/-! tables by their equations -/
def pr_tb {α : Type} (d : α) (F : (Nat → α) → Nat → α) : Nat → Nat → α
  | 0 => fun _ => d
  | i + 1 => fun j => if j = i then F (pr_tb d F i) i else pr_tb d F i j
theorem pr_tb_ge {α : Type} {d : α} {F : (Nat → α) → Nat → α} {j : Nat} : ∀ {i m : Nat}, j < i → i ≤ m → pr_tb d F m j = pr_tb d F i j := by
  intro i m hj hm
  induction m with
  | zero => omega
  | succ m ih =>
    by_cases e : i = m + 1
    · rw [e]
    · show (if j = m then F (pr_tb d F m) m else pr_tb d F m j) = _
      rw [if_neg (by omega)]
      exact ih (by omega)
theorem pr_tb_at {α : Type} {d : α} {F : (Nat → α) → Nat → α} {i m : Nat} (h : i < m) (hF : ∀ g g' : Nat → α, (∀ c, c < i → g c = g' c) → F g i = F g' i) : pr_tb d F m i = F (pr_tb d F m) i := by
  rw [pr_tb_ge (i := i + 1) (by omega) (by omega)]
  show (if i = i then F (pr_tb d F i) i else _) = _
  rw [if_pos rfl]
  exact hF _ _ fun c hc => (pr_tb_ge hc (by omega)).symm
def pt_hs (t : pr_PT) (κ j : Nat) : Nat → Bool
  | 0 => false
  | i + 1 => pt_hs t κ j i || (decide (pt_k t i = κ) && decide (pt_v t i = j))
def pt_has (t : pr_PT) (κ j : Nat) : Bool := pt_hs t κ j (pt_n t)
theorem pt_hs_t {t : pr_PT} {κ j : Nat} : ∀ {m : Nat}, pt_hs t κ j m = true ↔ ∃ i, i < m ∧ pt_k t i = κ ∧ pt_v t i = j
  | 0 => ⟨fun h => (nomatch h), fun ⟨i, h, _⟩ => absurd h (by omega)⟩
  | m + 1 => by
    show (pt_hs t κ j m || (decide (pt_k t m = κ) && decide (pt_v t m = j))) = true ↔ _
    rw [Bool.or_eq_true, Bool.and_eq_true, decide_eq_true_eq, decide_eq_true_eq, pt_hs_t (m := m)]
    constructor
    · rintro (⟨i, h, h'⟩ | h)
      · exact ⟨i, by omega, h'⟩
      · exact ⟨m, by omega, h⟩
    · rintro ⟨i, h, h'⟩
      by_cases e : i = m
      · rw [e] at h'
        exact Or.inr h'
      · exact Or.inl ⟨i, by omega, h'⟩
theorem pt_has_t {t : pr_PT} {κ j : Nat} : pt_has t κ j = true ↔ ∃ i, i < pt_n t ∧ pt_k t i = κ ∧ pt_v t i = j := pt_hs_t
theorem pt_has_f {t : pr_PT} {κ j : Nat} : pt_has t κ j = false ↔ ∀ i, i < pt_n t → ¬ (pt_k t i = κ ∧ pt_v t i = j) := by
  rw [← Bool.not_eq_true, pt_has_t]
  exact ⟨fun h i hi he => h ⟨i, hi, he⟩, fun h ⟨i, hi, he⟩ => h i hi he⟩
def pr_ob (g : Nat → Bool) (o : Option Nat) : Bool := match o with
  | none => true
  | some c => g c
def pt_cF (t : pr_PT) (C : Nat → Bool) (g : Nat → Bool) (i : Nat) : Bool :=
  if pt_k t i = 13 then C (pt_v t i) else pr_ob g (pt_a t i) && pr_ob g (pt_b t i)
def pt_cv (t : pr_PT) (C : Nat → Bool) : Nat → Bool := pr_tb false (pt_cF t C) 8
def pt_vF (t : pr_PT) (v0 v1 : Int32) (g : Nat → Int32) (i : Nat) : Int32 :=
  if pt_k t i = 11 then nI (pt_v t i) else if 13 ≤ pt_k t i then (if pt_v t i = 0 then v0 else v1) else pr_op (pt_k t i) (pr_ov g (pt_a t i)) (pr_ov g (pt_b t i))
def pt_tv (t : pr_PT) (v0 v1 : Int32) : Nat → Int32 := pr_tb 0 (pt_vF t v0 v1) 8
theorem pr_ob_congr {g h : Nat → Bool} {o : Option Nat} (e : ∀ c, o = some c → g c = h c) : pr_ob g o = pr_ob h o := by
  cases o with
  | none => rfl
  | some c => exact e c rfl
theorem pt_cv_eq {t : pr_PT} {C : Nat → Bool} (ht : pt_ok t) {i : Nat} (hi : i < pt_n t) : pt_cv t C i = pt_cF t C (pt_cv t C) i := by
  refine pr_tb_at (by have := ht.1; omega) fun g g' h => ?_
  have h9 := (ht.2 i hi).2.2.2.2.2.2.2.2.1
  unfold pt_cF
  rw [pr_ob_congr (o := pt_a t i) (fun c hc => h c (h9 c (Or.inl hc)).1), pr_ob_congr (o := pt_b t i) (fun c hc => h c (h9 c (Or.inr hc)).1)]
theorem pt_tv_eq {t : pr_PT} {v0 v1 : Int32} (ht : pt_ok t) {i : Nat} (hi : i < pt_n t) : pt_tv t v0 v1 i = pt_vF t v0 v1 (pt_tv t v0 v1) i := by
  refine pr_tb_at (by have := ht.1; omega) fun g g' h => ?_
  have h9 := (ht.2 i hi).2.2.2.2.2.2.2.2.1
  unfold pt_vF
  rw [pr_ov_congr (o := pt_a t i) (fun c hc => h c (h9 c (Or.inl hc)).1), pr_ov_congr (o := pt_b t i) (fun c hc => h c (h9 c (Or.inr hc)).1)]
def pt_mx (t : pr_PT) (C : Nat → Bool) (i : Nat) : Bool := pt_cv t C i && (match pt_p t i with
  | none => true
  | some q => !pt_cv t C q)
/-- a constant-valued node's value looks at the CVARs alone -/
theorem pt_tv_c {t : pr_PT} {C : Nat → Bool} (ht : pt_ok t) (h14 : ∀ i, i < pt_n t → pt_k t i ≠ 14) {v0 v1 w0 w1 : Int32} (h0 : C 0 = true → v0 = w0) (h1 : C 1 = true → v1 = w1) : ∀ i, i < pt_n t → pt_cv t C i = true → pt_tv t v0 v1 i = pt_tv t w0 w1 i := by
  intro i
  induction i using Nat.strongRecOn with
  | ind i ih =>
    intro hi hc
    rw [pt_cv_eq ht hi] at hc
    rw [pt_tv_eq ht hi, pt_tv_eq ht hi]
    have hk := ht.2 i hi
    have h9 := hk.2.2.2.2.2.2.2.2.1
    unfold pt_cF at hc
    unfold pt_vF
    by_cases h11 : pt_k t i = 11
    · rw [if_pos h11, if_pos h11]
    · rw [if_neg h11, if_neg h11]
      by_cases h13 : 13 ≤ pt_k t i
      · have e13 : pt_k t i = 13 := by
          have := h14 i hi
          have := hk.1.2.1
          omega
        rw [if_pos h13, if_pos h13]
        rw [if_pos e13] at hc
        have hv := hk.2.2.1 h13
        by_cases e : pt_v t i = 0
        · rw [if_pos e, if_pos e]
          rw [e] at hc
          exact h0 hc
        · rw [if_neg e, if_neg e]
          rw [show pt_v t i = 1 by omega] at hc
          exact h1 hc
      · rw [if_neg h13, if_neg h13]
        rw [if_neg (by omega), Bool.and_eq_true] at hc
        have f : ∀ o : Option Nat, (∀ c, o = some c → pt_a t i = some c ∨ pt_b t i = some c) → pr_ob (pt_cv t C) o = true → pr_ov (pt_tv t v0 v1) o = pr_ov (pt_tv t w0 w1) o := by
          intro o ho hb
          refine pr_ov_congr fun c hc => ?_
          subst hc
          have hlt := (h9 c (ho c rfl)).1
          exact ih c hlt (by omega) hb
        rw [f _ (fun c hc => Or.inl hc) hc.1, f _ (fun c hc => Or.inr hc) hc.2]
theorem pt_tv_by {t : pr_PT} (ht : pt_ok t) {v0 v1 : Int32} (h0 : pr_by v0) (h1 : pr_by v1) : ∀ i, i < pt_n t → pr_by (pt_tv t v0 v1 i) := by
  intro i
  induction i using Nat.strongRecOn with
  | ind i ih =>
    intro hi
    rw [pt_tv_eq ht hi]
    have hk := ht.2 i hi
    have h9 := hk.2.2.2.2.2.2.2.2.1
    unfold pt_vF
    by_cases h11 : pt_k t i = 11
    · rw [if_pos h11]
      exact ⟨_, hk.2.1 h11, rfl⟩
    · rw [if_neg h11]
      by_cases h13 : 13 ≤ pt_k t i
      · rw [if_pos h13]
        by_cases e : pt_v t i = 0
        · rw [if_pos e]
          exact h0
        · rw [if_neg e]
          exact h1
      · rw [if_neg h13]
        have f : ∀ o : Option Nat, (∀ c, o = some c → pt_a t i = some c ∨ pt_b t i = some c) → pr_by (pr_ov (pt_tv t v0 v1) o) := by
          intro o ho
          cases o with
          | none => exact pr_by_0
          | some c => exact ih c (h9 c (ho c rfl)).1 (by have := (h9 c (ho c rfl)).1; omega)
        exact pr_by_op (f _ fun c hc => Or.inl hc) (f _ fun c hc => Or.inr hc)
/-- the sums of a rule -/
def pt_pw (t : pr_PT) : Nat := pr_rs (fun i => pr_w (pt_k t i)) 0 (pt_n t)
def pt_rw (t : pr_PT) (C : Nat → Bool) : Nat := pr_rs (fun i => if pt_cv t C i then 0 else pr_w (pt_k t i)) 0 (pt_n t)
def pt_rm1 (t : pr_PT) (C : Nat → Bool) (i : Nat) : Nat := if pt_cv t C i = false ∨ (pt_mx t C i = true ∧ pt_k t i ≠ 13) then 1 else 0
def pt_rm (t : pr_PT) (C : Nat → Bool) : Nat := pr_rs (pt_rm1 t C) 0 (pt_n t)
end
section
/-! matching, pure -/
abbrev pm_S : Type := (Nat → Nat) × (Nat → Option Nat)
def pm_ch (A B : Nat → Option Nat) (P : pr_PT) (i d : Nat) (m : Nat → Nat) : Nat → Nat := fun q => if pt_a P i = some q then (A d).getD 0 else if pt_b P i = some q then (B d).getD 0 else m q
def pm_lf (P : pr_PT) (i : Nat) (s : pm_S) : Option pm_S := match s.2 (pt_v P i) with
  | none => some (s.1, pr_st s.2 (pt_v P i) (some (s.1 i)))
  | some e => if e = s.1 i then some s else none
def pm_st (K : Nat → Nat) (V : Nat → Int32) (A B : Nat → Option Nat) (us : Nat → Nat) (P : pr_PT) (i : Nat) (s : pm_S) : Option pm_S :=
  if pt_k P i = 11 then (if K (s.1 i) = 11 ∧ V (s.1 i) = nI (pt_v P i) then some s else none)
  else if 13 ≤ pt_k P i then (if pt_k P i = 14 ∧ K (s.1 i) ≠ 11 then none else pm_lf P i s)
  else if K (s.1 i) = pt_k P i ∧ (i + 1 = pt_n P ∨ us (s.1 i) = 1) then some (pm_ch A B P i (s.1 i) s.1, s.2) else none
def pm_run (K : Nat → Nat) (V : Nat → Int32) (A B : Nat → Option Nat) (us : Nat → Nat) (P : pr_PT) : Nat → pm_S → Option pm_S
  | 0, s => some s
  | i + 1, s => match pm_st K V A B us P i s with
    | none => none
    | some s' => pm_run K V A B us P i s'
def pm_nd (K : Nat → Nat) (V : Nat → Int32) (A B : Nat → Option Nat) (us : Nat → Nat) (P : pr_PT) (m : Nat → Nat) (bd : Nat → Option Nat) (i : Nat) : Prop :=
  pr_T 0 K (m i) ∧ (pt_k P i = 11 → K (m i) = 11 ∧ V (m i) = nI (pt_v P i)) ∧ (13 ≤ pt_k P i → bd (pt_v P i) = some (m i) ∧ (pt_k P i = 14 → K (m i) = 11)) ∧
  (pt_k P i ≤ 10 → K (m i) = pt_k P i ∧ (i + 1 = pt_n P ∨ us (m i) = 1) ∧ (∀ c, pt_a P i = some c → A (m i) = some (m c)) ∧ (∀ c, pt_b P i = some c → B (m i) = some (m c)))
def pm_as (P : pr_PT) (i q : Nat) : Prop := q + 1 = pt_n P ∨ ∃ p, i ≤ p ∧ p < pt_n P ∧ pt_p P q = some p
def pm_inv (K : Nat → Nat) (V : Nat → Int32) (A B : Nat → Option Nat) (us : Nat → Nat) (P : pr_PT) (R i : Nat) (s : pm_S) : Prop :=
  s.1 (pt_n P - 1) = R ∧ (∀ q, i ≤ q → q < pt_n P → pm_nd K V A B us P s.1 s.2 q) ∧ (∀ q, q < pt_n P → pm_as P i q → pr_T 0 K (s.1 q)) ∧ ∀ j d, s.2 j = some d → ∃ q, i ≤ q ∧ q < pt_n P ∧ 13 ≤ pt_k P q ∧ pt_v P q = j ∧ s.1 q = d
theorem pm_as_i {P : pr_PT} (hP : pt_ok P) (hf : pt_fin P) {i : Nat} (hi : i < pt_n P) : pm_as P (i + 1) i := by
  by_cases e : i + 1 = pt_n P
  · exact Or.inl e
  · obtain ⟨q, hq⟩ := hf.2.2 i (by omega)
    have := (hP.2 i hi).2.2.2.2.2.2.2.2.2.2 q hq
    exact Or.inr ⟨q, by omega, by omega, hq⟩
theorem pm_as_s {P : pr_PT} {i q : Nat} (h : pm_as P i q) : pm_as P (i + 1) q ∨ pt_p P q = some i := by
  rcases h with h | ⟨p, h1, h2, h3⟩
  · exact Or.inl (Or.inl h)
  · by_cases e : p = i
    · rw [e] at h3
      exact Or.inr h3
    · exact Or.inl (Or.inr ⟨p, by omega, h2, h3⟩)
theorem pm_k10 {k : Nat} (h : 1 ≤ k ∧ k ≤ 14 ∧ k ≠ 12) (h11 : k ≠ 11) (h13 : ¬ 13 ≤ k) : k ≤ 10 := by omega
section PMS
variable {K : Nat → Nat} {V : Nat → Int32} {A B : Nat → Option Nat} {us rk : Nat → Nat} {P : pr_PT} {R : Nat}
theorem pm_step (hP : pt_ok P) (hf : pt_fin P) (hG : pr_gw 0 K V A B rk) {i : Nat} (hi : i < pt_n P) {s s' : pm_S} (h : pm_inv K V A B us P R (i + 1) s) (e : pm_st K V A B us P i s = some s') : pm_inv K V A B us P R i s' := by
  obtain ⟨m, bd⟩ := s
  obtain ⟨h1, h2, h3, h4⟩ := h
  have hT : pr_T 0 K (m i) := h3 i hi (pm_as_i hP hf hi)
  have hn := hP.2 i hi
  have h9 := hn.2.2.2.2.2.2.2.2.1
  have h10 := hn.2.2.2.2.2.2.2.2.2.1
  unfold pm_st at e
  by_cases h11 : pt_k P i = 11
  · rw [if_pos h11] at e
    by_cases hc : K (m i) = 11 ∧ V (m i) = nI (pt_v P i)
    · replace e : (if K (m i) = 11 ∧ V (m i) = nI (pt_v P i) then some (m, bd) else none) = some s' := e
      rw [if_pos hc] at e
      cases e
      refine ⟨h1, fun q a b => ?_, fun q a b => ?_, fun j d hj => ?_⟩
      · by_cases eq : q = i
        · subst eq
          exact ⟨hT, fun _ => hc, fun h => absurd h (by omega), fun h => absurd h (by omega)⟩
        · exact h2 q (by omega) b
      · rcases pm_as_s b with b | b
        · exact h3 q a b
        · have := (hP.2 q a).2.2.2.2.2.2.2.2.2.2 i b
          have ha := hn.2.2.2.2.1 (by omega)
          have hb := hn.2.2.2.2.2.1 (by omega)
          rw [ha, hb] at this
          rcases this.2.2 with x | x <;> cases x
      · obtain ⟨q, a, b⟩ := h4 j d hj
        exact ⟨q, by omega, b⟩
    · replace e : (if K (m i) = 11 ∧ V (m i) = nI (pt_v P i) then some (m, bd) else none) = some s' := e
      rw [if_neg hc] at e
      cases e
  · rw [if_neg h11] at e
    by_cases h13 : 13 ≤ pt_k P i
    · rw [if_pos h13] at e
      replace e : (if pt_k P i = 14 ∧ K (m i) ≠ 11 then none else pm_lf P i (m, bd)) = some s' := e
      have hno : ∀ q, q < pt_n P → pm_as P i q → pr_T 0 K (m q) := by
        intro q a b
        rcases pm_as_s b with b | b
        · exact h3 q a b
        · have := (hP.2 q a).2.2.2.2.2.2.2.2.2.2 i b
          have ha := hn.2.2.2.2.1 (by omega)
          have hb := hn.2.2.2.2.2.1 (by omega)
          rw [ha, hb] at this
          rcases this.2.2 with x | x <;> cases x
      by_cases h14 : pt_k P i = 14 ∧ K (m i) ≠ 11
      · rw [if_pos h14] at e
        cases e
      · rw [if_neg h14] at e
        have h14' : pt_k P i = 14 → K (m i) = 11 := fun h => by
          by_cases hx : K (m i) = 11
          · exact hx
          · exact absurd ⟨h, hx⟩ h14
        unfold pm_lf at e
        cases hb : bd (pt_v P i) with
        | none =>
          replace e : (match bd (pt_v P i) with
            | none => some (m, pr_st bd (pt_v P i) (some (m i)))
            | some e => if e = m i then some (m, bd) else none) = some s' := e
          rw [hb] at e
          cases e
          refine ⟨h1, fun q a b => ?_, hno, fun j d hj => ?_⟩
          · by_cases eq : q = i
            · subst eq
              exact ⟨hT, fun h => absurd h h11, fun _ => ⟨pr_st_s, h14'⟩, fun h => absurd h (by omega)⟩
            · obtain ⟨g1, g2, g3, g4⟩ := h2 q (by omega) b
              refine ⟨g1, g2, fun h => ⟨?_, (g3 h).2⟩, g4⟩
              have hne : pt_v P q ≠ pt_v P i := by
                intro hh
                have := (g3 h).1
                rw [hh] at this
                rw [show (m, bd).2 = bd from rfl, hb] at this
                cases this
              show pr_st bd (pt_v P i) (some (m i)) (pt_v P q) = some (m q)
              rw [pr_st_n hne]
              exact (g3 h).1
          · by_cases ej : j = pt_v P i
            · subst ej
              replace hj : pr_st bd (pt_v P i) (some (m i)) (pt_v P i) = some d := hj
              rw [pr_st_s] at hj
              cases hj
              exact ⟨i, by omega, hi, h13, rfl, rfl⟩
            · replace hj : pr_st bd (pt_v P i) (some (m i)) j = some d := hj
              rw [pr_st_n ej] at hj
              obtain ⟨q, a, b⟩ := h4 j d hj
              exact ⟨q, by omega, b⟩
        | some x =>
          replace e : (match bd (pt_v P i) with
            | none => some (m, pr_st bd (pt_v P i) (some (m i)))
            | some e => if e = m i then some (m, bd) else none) = some s' := e
          rw [hb] at e
          replace e : (if x = m i then some (m, bd) else none) = some s' := e
          by_cases hx : x = m i
          · rw [if_pos hx] at e
            cases e
            refine ⟨h1, fun q a b => ?_, hno, fun j d hj => ?_⟩
            · by_cases eq : q = i
              · subst eq
                refine ⟨hT, fun h => absurd h h11, fun _ => ⟨?_, h14'⟩, fun h => absurd h (by omega)⟩
                show bd (pt_v P q) = some (m q)
                rw [hb, hx]
              · exact h2 q (by omega) b
            · obtain ⟨q, a, b⟩ := h4 j d hj
              exact ⟨q, by omega, b⟩
          · rw [if_neg hx] at e
            cases e
    · rw [if_neg h13] at e
      replace e : (if K (m i) = pt_k P i ∧ (i + 1 = pt_n P ∨ us (m i) = 1) then some (pm_ch A B P i (m i) m, bd) else none) = some s' := e
      by_cases hc : K (m i) = pt_k P i ∧ (i + 1 = pt_n P ∨ us (m i) = 1)
      · rw [if_pos hc] at e
        cases e
        have hk := hn.1
        have hG' := hG (m i) hT
        have keep : ∀ q, pt_p P q ≠ some i → pm_ch A B P i (m i) m q = m q := by
          intro q hq
          unfold pm_ch
          rw [if_neg (fun h => hq (h9 q (Or.inl h)).2), if_neg (fun h => hq (h9 q (Or.inr h)).2)]
        have keep2 : ∀ q, i ≤ q → q < pt_n P → pm_ch A B P i (m i) m q = m q := by
          intro q hq hq'
          refine keep q fun h => ?_
          have := (hP.2 q hq').2.2.2.2.2.2.2.2.2.2 i h
          omega
        have cA : ∀ c, pt_a P i = some c → A (m i) = some (pm_ch A B P i (m i) m c) := by
          intro c hc'
          unfold pm_ch
          rw [if_pos hc']
          obtain ⟨x, hx⟩ := hG'.2.2.2.2.2.2.2.1 (by rw [hc.1]; exact pm_k10 hk h11 h13)
          rw [hx]
          rfl
        have cB : ∀ c, pt_b P i = some c → B (m i) = some (pm_ch A B P i (m i) m c) := by
          intro c hc'
          unfold pm_ch
          rw [if_neg (fun h => h10 c h hc'), if_pos hc']
          have h8 : pt_k P i ≤ 8 := by
            by_cases h8 : pt_k P i ≤ 8
            · exact h8
            · rw [hn.2.2.2.2.2.1 (by omega)] at hc'
              cases hc'
          obtain ⟨x, hx⟩ := hG'.2.2.2.2.2.2.2.2.1 (by rw [hc.1]; exact h8)
          rw [hx]
          rfl
        refine ⟨?_, fun q a b => ?_, fun q a b => ?_, fun j d hj => ?_⟩
        · show pm_ch A B P i (m i) m (pt_n P - 1) = R
          rw [keep2 _ (by omega) (by omega)]
          exact h1
        · show pm_nd K V A B us P (pm_ch A B P i (m i) m) bd q
          unfold pm_nd
          rw [keep2 q a b]
          by_cases eq : q = i
          · subst eq
            exact ⟨hT, fun h => absurd h h11, fun h => absurd h h13, fun _ => ⟨hc.1, hc.2, cA, cB⟩⟩
          · obtain ⟨g1, g2, g3, g4⟩ := h2 q (by omega) b
            have g9 := (hP.2 q b).2.2.2.2.2.2.2.2.1
            refine ⟨g1, g2, g3, fun h => ⟨(g4 h).1, (g4 h).2.1, fun c hc' => ?_, fun c hc' => ?_⟩⟩
            · rw [keep c (fun hh => by
                have := (g9 c (Or.inl hc')).2
                rw [hh] at this
                cases this
                exact eq rfl)]
              exact (g4 h).2.2.1 c hc'
            · rw [keep c (fun hh => by
                have := (g9 c (Or.inr hc')).2
                rw [hh] at this
                cases this
                exact eq rfl)]
              exact (g4 h).2.2.2 c hc'
        · show pr_T 0 K (pm_ch A B P i (m i) m q)
          rcases pm_as_s b with b' | b'
          · by_cases hp : pt_p P q = some i
            · have := (hP.2 q a).2.2.2.2.2.2.2.2.2.2 i hp
              rcases this.2.2 with x | x
              · exact (pr_gw_T hG _ _ hT (Or.inl (cA q x))).1
              · exact (pr_gw_T hG _ _ hT (Or.inr (cB q x))).1
            · rw [keep q hp]
              exact h3 q a b'
          · have := (hP.2 q a).2.2.2.2.2.2.2.2.2.2 i b'
            rcases this.2.2 with x | x
            · exact (pr_gw_T hG _ _ hT (Or.inl (cA q x))).1
            · exact (pr_gw_T hG _ _ hT (Or.inr (cB q x))).1
        · obtain ⟨q, a, b, c, d', f⟩ := h4 j d hj
          exact ⟨q, by omega, b, c, d', by
            show pm_ch A B P i (m i) m q = d
            rw [keep2 q (by omega) b]
            exact f⟩
      · rw [if_neg hc] at e
        cases e
theorem pm_run_ok (hP : pt_ok P) (hf : pt_fin P) (hG : pr_gw 0 K V A B rk) : ∀ {i : Nat}, i ≤ pt_n P → ∀ {s s' : pm_S}, pm_inv K V A B us P R i s → pm_run K V A B us P i s = some s' → pm_inv K V A B us P R 0 s' := by
  intro i
  induction i with
  | zero =>
    intro _ s s' h e
    cases e
    exact h
  | succ i ih =>
    intro hi s s' h e
    replace e : (match pm_st K V A B us P i s with
      | none => none
      | some s' => pm_run K V A B us P i s') = some s' := e
    cases hs : pm_st K V A B us P i s with
    | none =>
      rw [hs] at e
      cases e
    | some s1 =>
      rw [hs] at e
      exact ih (by omega) (pm_step hP hf hG (by omega) h hs) e
theorem pm_inv0 (hf : pt_fin P) (hR : pr_T 0 K R) : pm_inv K V A B us P R (pt_n P) (fun _ => R, fun _ => none) :=
  ⟨rfl, fun q a b => absurd a (by omega), fun q _ _ => hR, fun j d h => nomatch h⟩
/-! the matched operation nodes are apart -/
theorem pm_rk (hP : pt_ok P) (hf : pt_fin P) (hG : pr_gw 0 K V A B rk) {s : pm_S} (h : pm_inv K V A B us P R 0 s) : ∀ d q, q + d + 1 = pt_n P → q + 1 ≠ pt_n P → rk (s.1 q) < rk R := by
  intro d
  induction d using Nat.strongRecOn with
  | ind d ih =>
    intro q hq hq'
    obtain ⟨p, hp⟩ := hf.2.2 q (by omega)
    have hp' := (hP.2 q (by omega)).2.2.2.2.2.2.2.2.2.2 p hp
    have hn := h.2.1 p (by omega) hp'.2.1
    have hk : pt_k P p ≤ 10 := by
      have hpn := hP.2 p hp'.2.1
      by_cases hk : pt_k P p ≤ 10
      · exact hk
      · have ha := hpn.2.2.2.2.1 (by omega)
        have hb := hpn.2.2.2.2.2.1 (by omega)
        rw [ha, hb] at hp'
        rcases hp'.2.2 with x | x <;> cases x
    have hc := (hn.2.2.2 hk).2.2
    have hlt : rk (s.1 q) < rk (s.1 p) := by
      rcases hp'.2.2 with x | x
      · exact (pr_gw_T hG _ _ hn.1 (Or.inl (hc.1 q x))).2
      · exact (pr_gw_T hG _ _ hn.1 (Or.inr (hc.2 q x))).2
    by_cases e : p + 1 = pt_n P
    · rw [show p = pt_n P - 1 by omega, h.1] at hlt
      exact hlt
    · have := ih (pt_n P - 1 - p) (by omega) p (by omega) e
      omega
theorem pm_par (hP : pt_ok P) (hf : pt_fin P) {q : Nat} (hq : q + 1 < pt_n P) : ∃ p, pt_p P q = some p ∧ q < p ∧ p < pt_n P ∧ pt_k P p ≤ 10 ∧ (pt_a P p = some q ∨ pt_b P p = some q) := by
  obtain ⟨p, hp⟩ := hf.2.2 q (by omega)
  have hp' := (hP.2 q (by omega)).2.2.2.2.2.2.2.2.2.2 p hp
  refine ⟨p, hp, hp'.1, hp'.2.1, ?_, hp'.2.2⟩
  have hpn := hP.2 p hp'.2.1
  by_cases hk : pt_k P p ≤ 10
  · exact hk
  · have ha := hpn.2.2.2.2.1 (by omega)
    have hb := hpn.2.2.2.2.2.1 (by omega)
    rw [ha, hb] at hp'
    rcases hp'.2.2 with x | x <;> cases x
def pr_e1 (A B : Nat → Option Nat) (d n : Nat) : Nat := (if A n = some d then 1 else 0) + (if B n = some d then 1 else 0)
theorem pr_e1_ge {d n : Nat} (h : A n = some d ∨ B n = some d) : 1 ≤ pr_e1 A B d n := by
  unfold pr_e1
  rcases h with h | h
  · rw [if_pos h]
    omega
  · rw [if_pos h]
    omega
theorem pr_e1_2 {d n : Nat} (h : A n = some d) (h' : B n = some d) : pr_e1 A B d n = 2 := by
  unfold pr_e1
  rw [if_pos h, if_pos h']
theorem pm_inj {O : Nat → Nat} {L : List Nat} {oc : Nat} (hP : pt_ok P) (hf : pt_fin P) (hG : pr_gw 0 K V A B rk) (hL : ∀ x, pr_T 0 K x → x ∈ L) (hu : us = pr_us A B O L oc) {s : pm_S} (h : pm_inv K V A B us P R 0 s) :
    ∀ d p, p + d + 1 = pt_n P → p + 1 ≠ pt_n P → pt_k P p ≤ 10 → ∀ q, q < pt_n P → q ≠ p → s.1 q ≠ s.1 p := by
  intro d
  induction d using Nat.strongRecOn with
  | ind d ih =>
    intro p hpd hp hk q hq hqp e
    have hrp := pm_rk hP hf hG h d p hpd hp
    by_cases hqr : q + 1 = pt_n P
    · rw [show q = pt_n P - 1 by omega, h.1] at e
      rw [← e] at hrp
      exact Nat.lt_irrefl _ hrp
    · obtain ⟨P1, a1, a2, a3, a4, a5⟩ := pm_par hP hf (q := p) (by omega)
      obtain ⟨Q1, b1, b2, b3, b4, b5⟩ := pm_par hP hf (q := q) (by omega)
      have n1 := h.2.1 P1 (by omega) a3
      have n2 := h.2.1 Q1 (by omega) b3
      have c1 := (n1.2.2.2 a4).2.2
      have c2 := (n2.2.2.2 b4).2.2
      have u1 : us (s.1 p) = 1 := by
        rcases ((h.2.1 p (by omega) (by omega)).2.2.2 hk).2.1 with x | x
        · exact absurd x hp
        · exact x
      have g1 : A (s.1 P1) = some (s.1 p) ∨ B (s.1 P1) = some (s.1 p) := by
        rcases a5 with x | x
        · exact Or.inl (c1.1 p x)
        · exact Or.inr (c1.2 p x)
      have g2 : A (s.1 Q1) = some (s.1 p) ∨ B (s.1 Q1) = some (s.1 p) := by
        rw [← e]
        rcases b5 with x | x
        · exact Or.inl (c2.1 q x)
        · exact Or.inr (c2.2 q x)
      rw [hu] at u1
      have u2 : pr_sm (pr_e1 A B (s.1 p)) L ≤ 1 := by
        have : pr_us A B O L oc (s.1 p) = pr_sm (pr_e1 A B (s.1 p)) L + pr_rs (fun k => if O k = s.1 p then 1 else 0) 0 oc := rfl
        omega
      by_cases hm : s.1 P1 = s.1 Q1
      · by_cases hPQ : P1 = Q1
        · subst hPQ
          have hdup : A (s.1 P1) = some (s.1 p) ∧ B (s.1 P1) = some (s.1 p) := by
            rcases a5 with x | x
            · rcases b5 with y | y
              · rw [x] at y
                cases y
                exact absurd rfl hqp
              · exact ⟨c1.1 p x, by rw [← e]; exact c1.2 q y⟩
            · rcases b5 with y | y
              · exact ⟨by rw [← e]; exact c1.1 q y, c1.2 p x⟩
              · rw [x] at y
                cases y
                exact absurd rfl hqp
          have := pr_sm_ge (w := pr_e1 A B (s.1 p)) (hL _ n1.1)
          rw [pr_e1_2 hdup.1 hdup.2] at this
          omega
        · by_cases hr : P1 + 1 = pt_n P
          · have := pm_rk hP hf hG h (pt_n P - 1 - Q1) Q1 (by omega) (by omega)
            rw [← hm, show P1 = pt_n P - 1 by omega, h.1] at this
            omega
          · exact ih (pt_n P - 1 - P1) (by omega) P1 (by omega) hr a4 Q1 b3 (fun x => hPQ x.symm) hm.symm
      · have := pr_sm_ge2 (w := pr_e1 A B (s.1 p)) hm (hL _ n1.1) (hL _ n2.1)
        have := pr_e1_ge g1
        have := pr_e1_ge g2
        omega
/-- an operation node of the match, not the root, is referred to by its match-parent's slot alone -/
theorem pm_only {O : Nat → Nat} {L : List Nat} {oc : Nat} (hP : pt_ok P) (hf : pt_fin P) (hL : ∀ x, pr_T 0 K x → x ∈ L) (hu : us = pr_us A B O L oc) {s : pm_S} (h : pm_inv K V A B us P R 0 s)
    {p : Nat} (hp : p + 1 < pt_n P) (hk : pt_k P p ≤ 10) : (∀ k, k < oc → O k ≠ s.1 p) ∧ ∀ y, pr_T 0 K y → (A y = some (s.1 p) ∨ B y = some (s.1 p)) → ∃ q, q < pt_n P ∧ pt_k P q ≤ 10 ∧ s.1 q = y := by
  obtain ⟨P1, a1, a2, a3, a4, a5⟩ := pm_par hP hf (q := p) hp
  have n1 := h.2.1 P1 (by omega) a3
  have c1 := (n1.2.2.2 a4).2.2
  have u1 : us (s.1 p) = 1 := by
    rcases ((h.2.1 p (by omega) (by omega)).2.2.2 hk).2.1 with x | x
    · omega
    · exact x
  have g1 : A (s.1 P1) = some (s.1 p) ∨ B (s.1 P1) = some (s.1 p) := by
    rcases a5 with x | x
    · exact Or.inl (c1.1 p x)
    · exact Or.inr (c1.2 p x)
  rw [hu] at u1
  have u2 : pr_sm (pr_e1 A B (s.1 p)) L + pr_rs (fun k => if O k = s.1 p then 1 else 0) 0 oc = 1 := u1
  have w1 := pr_sm_ge (w := pr_e1 A B (s.1 p)) (hL _ n1.1)
  have w2 := pr_e1_ge g1
  constructor
  · intro k hk' hO
    have := pr_rs_ge (f := fun k => if O k = s.1 p then 1 else 0) (lo := 0) (a := k) (by omega) (n := oc) (by omega)
    replace this : (if O k = s.1 p then 1 else 0) ≤ pr_rs (fun k => if O k = s.1 p then 1 else 0) 0 oc := this
    rw [if_pos hO] at this
    omega
  · intro y hy hr
    by_cases e : s.1 P1 = y
    · exact ⟨P1, a3, a4, e⟩
    · have := pr_sm_ge2 (w := pr_e1 A B (s.1 p)) e (hL _ n1.1) (hL _ hy)
      have := pr_e1_ge hr
      omega
end PMS
end
section
/-! building the replacement, pure -/
abbrev pb_S : Type := (Nat → Nat) × (Nat → Int32) × (Nat → Option Nat) × (Nat → Option Nat) × (Nat → Option Nat)
def pr_lf (K : Nat → Nat) : Nat → Nat → Nat
  | 0, s => s
  | f + 1, s => if K s = 0 then s else pr_lf K f (s + 1)
def pr_fr (K : Nat → Nat) : Nat := pr_lf K 31 0
theorem pr_lf_ok {K : Nat → Nat} : ∀ f s, (∃ x, s ≤ x ∧ x ≤ s + f ∧ K x = 0) → K (pr_lf K f s) = 0 ∧ pr_lf K f s ≤ s + f ∧ s ≤ pr_lf K f s ∧ ∀ y, s ≤ y → y < pr_lf K f s → K y ≠ 0 := by
  intro f
  induction f with
  | zero =>
    intro s ⟨x, h1, h2, h3⟩
    have : x = s := by omega
    subst this
    exact ⟨h3, Nat.le_refl _, Nat.le_refl _, fun y a b => absurd b (by show ¬ y < x; omega)⟩
  | succ f ih =>
    intro s ⟨x, h1, h2, h3⟩
    show K (if K s = 0 then s else pr_lf K f (s + 1)) = 0 ∧ (if K s = 0 then s else pr_lf K f (s + 1)) ≤ s + (f + 1) ∧ s ≤ (if K s = 0 then s else pr_lf K f (s + 1)) ∧ ∀ y, s ≤ y → y < (if K s = 0 then s else pr_lf K f (s + 1)) → K y ≠ 0
    by_cases h : K s = 0
    · rw [if_pos h]
      exact ⟨h, by omega, Nat.le_refl _, fun y a b => absurd b (by omega)⟩
    · rw [if_neg h]
      have hx : x ≠ s := fun e => h (e ▸ h3)
      obtain ⟨a, b, c, d⟩ := ih (s + 1) ⟨x, by omega, by omega, h3⟩
      refine ⟨a, by omega, by omega, fun y e1 e2 => ?_⟩
      by_cases e : y = s
      · rw [e]
        exact h
      · exact d y (by omega) e2
theorem pr_fr_ok {K : Nat → Nat} (h : ∃ x, x < 32 ∧ K x = 0) : K (pr_fr K) = 0 ∧ pr_fr K < 32 ∧ ∀ y, y < pr_fr K → K y ≠ 0 := by
  obtain ⟨x, h1, h2⟩ := h
  obtain ⟨a, b, c, d⟩ := pr_lf_ok (K := K) 31 0 ⟨x, by omega, by omega, h2⟩
  exact ⟨a, by show pr_lf K 31 0 < 32; omega, fun y hy => d y (by omega) hy⟩
theorem pr_rs_c (c lo : Nat) : ∀ n : Nat, pr_rs (fun _ => c) lo n = n * c
  | 0 => by
    show 0 = 0 * c
    omega
  | n + 1 => by
    show pr_rs (fun _ => c) lo n + c = (n + 1) * c
    rw [pr_rs_c c lo n, Nat.add_mul]
    omega
theorem pr_rs_pt {f g : Nat → Nat} {lo a n d : Nat} (ha : lo ≤ a) (hb : a < lo + n) (h1 : g a = f a + d) (h2 : ∀ x, x ≠ a → g x = f x) : pr_rs g lo n = pr_rs f lo n + d := by
  have h := pr_rs_one (lo := lo) (a := a) d ha n
  rw [if_pos hb] at h
  rw [← h, ← pr_rs_add]
  refine pr_rs_congr fun x _ _ => ?_
  by_cases e : x = a
  · subst e
    rw [if_pos rfl]
    exact h1
  · rw [if_neg e, h2 x e]
    rfl
def pr_ct (K : Nat → Nat) : Nat := pr_rs (fun x => if K x = 0 then 0 else 1) 0 32
theorem pr_ct_free {K : Nat → Nat} (h : pr_ct K < 32) : ∃ x, x < 32 ∧ K x = 0 := by
  apply Classical.byContradiction
  intro hn
  have : pr_ct K = pr_rs (fun _ => 1) 0 32 := pr_rs_congr fun x _ hx => by
    show (if K x = 0 then 0 else 1) = 1
    rw [if_neg (fun h0 => hn ⟨x, by omega, h0⟩)]
  rw [pr_rs_c] at this
  omega
theorem pr_rs_up {f : Nat → Nat} {lo i : Nat} : ∀ {n : Nat}, i ≤ n → pr_rs f lo i ≤ pr_rs f lo n
  | 0, h => by
    rw [show i = 0 by omega]
    exact Nat.le_refl _
  | n + 1, h => by
    by_cases e : i = n + 1
    · rw [e]
      exact Nat.le_refl _
    · have := pr_rs_up (f := f) (lo := lo) (i := i) (n := n) (by omega)
      show pr_rs f lo i ≤ pr_rs f lo n + f (lo + n)
      omega
def pr_or (res : Nat → Option Nat) (o : Option Nat) : Option Nat := match o with
  | none => none
  | some c => res c
def pb_new (i κ : Nat) (v : Int32) (a b : Option Nat) (s : pb_S) : pb_S :=
  (pr_st s.1 (pr_fr s.1) κ, pr_st s.2.1 (pr_fr s.1) v, pr_st s.2.2.1 (pr_fr s.1) a, pr_st s.2.2.2.1 (pr_fr s.1) b, pr_st s.2.2.2.2 i (some (pr_fr s.1)))
def pb_st (R : pr_PT) (C : Nat → Bool) (tv : Nat → Int32) (bd : Nat → Option Nat) (i : Nat) (s : pb_S) : pb_S :=
  if pt_cv R C i = true ∧ pt_mx R C i = false then s
  else if pt_k R i = 13 then (s.1, s.2.1, s.2.2.1, s.2.2.2.1, pr_st s.2.2.2.2 i (bd (pt_v R i)))
  else if pt_cv R C i = true then pb_new i 11 (tv i) none none s
  else pb_new i (pt_k R i) 0 (pr_or s.2.2.2.2 (pt_a R i)) (pr_or s.2.2.2.2 (pt_b R i)) s
def pb_run (R : pr_PT) (C : Nat → Bool) (tv : Nat → Int32) (bd : Nat → Option Nat) : Nat → pb_S → pb_S
  | 0, s => s
  | i + 1, s => pb_st R C tv bd i (pb_run R C tv bd i s)
def pb_sk (R : pr_PT) (C : Nat → Bool) (q : Nat) : Prop := pt_cv R C q = true ∧ pt_mx R C q = false
def pb_nw (K0 : Nat → Nat) (bd : Nat → Option Nat) (β i : Nat) (s : pb_S) (ρ : Nat → Nat) (x : Nat) : Prop :=
  s.1 x ≤ 11 ∧ pr_by (s.2.1 x) ∧ (s.1 x ≤ 10 → s.2.1 x = 0) ∧ (11 ≤ s.1 x → s.2.2.1 x = none) ∧ (9 ≤ s.1 x → s.2.2.2.1 x = none) ∧ (s.1 x ≤ 10 → ∃ c, s.2.2.1 x = some c) ∧ (s.1 x ≤ 8 → ∃ c, s.2.2.2.1 x = some c) ∧ ρ x ≤ β + i ∧
  ∀ c, (s.2.2.1 x = some c ∨ s.2.2.2.1 x = some c) → pr_T 0 s.1 c ∧ ρ c < ρ x ∧ (K0 c = 0 ∨ ∃ j, bd j = some c)
def pb_rs (K0 : Nat → Nat) (bd : Nat → Option Nat) (β : Nat) (s : pb_S) (ρ : Nat → Nat) (q : Nat) : Prop :=
  ∃ y, s.2.2.2.2 q = some y ∧ pr_T 0 s.1 y ∧ ρ y ≤ β + q + 1 ∧ (K0 y = 0 ∨ ∃ j, bd j = some y)
def pb_ws (Lo : List Nat) (K : Nat → Nat) : Nat := pr_rs (fun x => if x ∈ Lo then 0 else pr_w (K x)) 0 32
def pb_inv (K0 : Nat → Nat) (V0 : Nat → Int32) (A0 B0 : Nat → Option Nat) (rk : Nat → Nat) (bd : Nat → Option Nat) (R : pr_PT) (C : Nat → Bool) (Lo : List Nat) (β i : Nat) (s : pb_S) (ρ : Nat → Nat) : Prop :=
  (∀ x, K0 x ≠ 0 → s.1 x = K0 x ∧ s.2.1 x = V0 x ∧ s.2.2.1 x = A0 x ∧ s.2.2.2.1 x = B0 x ∧ ρ x = 16 * rk x) ∧
  (∀ x, K0 x = 0 → s.1 x ≠ 0 → x < 32 ∧ pb_nw K0 bd β i s ρ x) ∧
  (∀ q, q < i → ¬ pb_sk R C q → pb_rs K0 bd β s ρ q) ∧
  pr_ct s.1 ≤ pr_ct K0 + pr_rs (pt_rm1 R C) 0 i ∧
  pb_ws Lo s.1 = pb_ws Lo K0 + pr_rs (fun q => if pt_cv R C q then 0 else pr_w (pt_k R q)) 0 i
section PBS
variable {K0 : Nat → Nat} {V0 : Nat → Int32} {A0 B0 : Nat → Option Nat} {rk : Nat → Nat} {bd : Nat → Option Nat} {R : pr_PT} {C : Nat → Bool} {Lo : List Nat} {β : Nat} {tv : Nat → Int32}
theorem pb_inv0 : pb_inv K0 V0 A0 B0 rk bd R C Lo β 0 (K0, V0, A0, B0, fun _ => none) (fun x => 16 * rk x) :=
  ⟨fun _ _ => ⟨rfl, rfl, rfl, rfl, rfl⟩, fun x h h' => absurd h h', fun q h => absurd h (by omega), Nat.le_refl _, rfl⟩
theorem pb_newi {i κ : Nat} {v : Int32} {a b : Option Nat} {s : pb_S} {ρ : Nat → Nat} (hct : pr_ct K0 + pt_rm R C ≤ 32) (hi : i < pt_n R) (hm : pt_rm1 R C i = 1) (hlo : ∀ x, x ∈ Lo → K0 x ≠ 0)
    (hκ : 1 ≤ κ ∧ κ ≤ 11) (hv : pr_by v) (hv0 : κ ≤ 10 → v = 0) (ha : 11 ≤ κ → a = none) (hb : 9 ≤ κ → b = none) (ha' : κ ≤ 10 → ∃ c, a = some c) (hb' : κ ≤ 8 → ∃ c, b = some c)
    (hc : ∀ c, a = some c ∨ b = some c → pr_T 0 s.1 c ∧ ρ c ≤ β + i ∧ (K0 c = 0 ∨ ∃ j, bd j = some c))
    (hw : (if pt_cv R C i then 0 else pr_w (pt_k R i)) = pr_w κ)
    (h : pb_inv K0 V0 A0 B0 rk bd R C Lo β i s ρ) : pb_inv K0 V0 A0 B0 rk bd R C Lo β (i + 1) (pb_new i κ v a b s) (pr_st ρ (pr_fr s.1) (β + i + 1)) := by
  obtain ⟨h1, h2, h3, h4, h5⟩ := h
  have hs : pr_rs (pt_rm1 R C) 0 (i + 1) = pr_rs (pt_rm1 R C) 0 i + 1 := by
    show pr_rs (pt_rm1 R C) 0 i + pt_rm1 R C (0 + i) = _
    rw [Nat.zero_add, hm]
  have hup : pr_rs (pt_rm1 R C) 0 (i + 1) ≤ pt_rm R C := pr_rs_up (by omega)
  obtain ⟨f1, f2, f3⟩ := pr_fr_ok (K := s.1) (pr_ct_free (by omega))
  have f0 : K0 (pr_fr s.1) = 0 := by
    apply Classical.byContradiction
    intro hx
    rw [(h1 _ hx).1] at f1
    exact hx f1
  have ne : ∀ c, pr_T 0 s.1 c → c ≠ pr_fr s.1 := fun c hc e => hc.2.2 (e ▸ f1)
  have tt : ∀ c, pr_T 0 s.1 c → pr_T 0 (pr_st s.1 (pr_fr s.1) κ) c := fun c hc => ⟨hc.1, hc.2.1, by rw [pr_st_n (ne c hc)]; exact hc.2.2⟩
  refine ⟨fun x hx => ?_, fun x hx hx' => ?_, fun q hq hq' => ?_, ?_, ?_⟩
  · have e : x ≠ pr_fr s.1 := fun e => hx (e ▸ f0)
    show pr_st s.1 (pr_fr s.1) κ x = K0 x ∧ pr_st s.2.1 (pr_fr s.1) v x = V0 x ∧ pr_st s.2.2.1 (pr_fr s.1) a x = A0 x ∧ pr_st s.2.2.2.1 (pr_fr s.1) b x = B0 x ∧ pr_st ρ (pr_fr s.1) (β + i + 1) x = 16 * rk x
    rw [pr_st_n e, pr_st_n e, pr_st_n e, pr_st_n e, pr_st_n e]
    exact h1 x hx
  · unfold pb_nw
    show x < 32 ∧ pr_st s.1 (pr_fr s.1) κ x ≤ 11 ∧ pr_by (pr_st s.2.1 (pr_fr s.1) v x) ∧ (pr_st s.1 (pr_fr s.1) κ x ≤ 10 → pr_st s.2.1 (pr_fr s.1) v x = 0) ∧ (11 ≤ pr_st s.1 (pr_fr s.1) κ x → pr_st s.2.2.1 (pr_fr s.1) a x = none) ∧ (9 ≤ pr_st s.1 (pr_fr s.1) κ x → pr_st s.2.2.2.1 (pr_fr s.1) b x = none) ∧ (pr_st s.1 (pr_fr s.1) κ x ≤ 10 → ∃ c, pr_st s.2.2.1 (pr_fr s.1) a x = some c) ∧ (pr_st s.1 (pr_fr s.1) κ x ≤ 8 → ∃ c, pr_st s.2.2.2.1 (pr_fr s.1) b x = some c) ∧ pr_st ρ (pr_fr s.1) (β + i + 1) x ≤ β + (i + 1) ∧ ∀ c, (pr_st s.2.2.1 (pr_fr s.1) a x = some c ∨ pr_st s.2.2.2.1 (pr_fr s.1) b x = some c) → pr_T 0 (pr_st s.1 (pr_fr s.1) κ) c ∧ pr_st ρ (pr_fr s.1) (β + i + 1) c < pr_st ρ (pr_fr s.1) (β + i + 1) x ∧ (K0 c = 0 ∨ ∃ j, bd j = some c)
    by_cases e : x = pr_fr s.1
    · rw [e, pr_st_s, pr_st_s, pr_st_s, pr_st_s, pr_st_s]
      refine ⟨f2, hκ.2, hv, hv0, ha, hb, ha', hb', by omega, fun c hc' => ?_⟩
      obtain ⟨g1, g2, g3⟩ := hc c hc'
      rw [pr_st_n (ne c g1)]
      exact ⟨tt c g1, by omega, g3⟩
    · rw [pr_st_n e, pr_st_n e, pr_st_n e, pr_st_n e, pr_st_n e]
      replace hx' : pr_st s.1 (pr_fr s.1) κ x ≠ 0 := hx'
      rw [pr_st_n e] at hx'
      obtain ⟨g0, g1, g2, g3, g4, g5, g6, g7, g8, g9⟩ := h2 x hx hx'
      refine ⟨g0, g1, g2, g3, g4, g5, g6, g7, by omega, fun c hc' => ?_⟩
      obtain ⟨k1, k2, k3⟩ := g9 c hc'
      rw [pr_st_n (ne c k1)]
      exact ⟨tt c k1, k2, k3⟩
  · show ∃ y, pr_st s.2.2.2.2 i (some (pr_fr s.1)) q = some y ∧ pr_T 0 (pr_st s.1 (pr_fr s.1) κ) y ∧ pr_st ρ (pr_fr s.1) (β + i + 1) y ≤ β + q + 1 ∧ (K0 y = 0 ∨ ∃ j, bd j = some y)
    by_cases e : q = i
    · refine ⟨pr_fr s.1, by rw [e, pr_st_s], ⟨by omega, by omega, by rw [pr_st_s]; omega⟩, by rw [pr_st_s]; omega, Or.inl f0⟩
    · obtain ⟨y, y1, y2, y3, y4⟩ := h3 q (by omega) hq'
      exact ⟨y, by rw [pr_st_n e]; exact y1, tt y y2, by rw [pr_st_n (ne y y2)]; exact y3, y4⟩
  · rw [hs]
    have : pr_ct (pb_new i κ v a b s).1 = pr_ct s.1 + 1 := by
      refine pr_rs_pt (a := pr_fr s.1) (by omega) (by omega) ?_ (fun x hx => ?_)
      · show (if pr_st s.1 (pr_fr s.1) κ (pr_fr s.1) = 0 then 0 else 1) = (if s.1 (pr_fr s.1) = 0 then 0 else 1) + 1
        rw [pr_st_s, if_neg (by omega), if_pos f1]
      · show (if pr_st s.1 (pr_fr s.1) κ x = 0 then 0 else 1) = (if s.1 x = 0 then 0 else 1)
        rw [pr_st_n hx]
    omega
  · have e1 : pr_rs (fun q => if pt_cv R C q then 0 else pr_w (pt_k R q)) 0 (i + 1) = pr_rs (fun q => if pt_cv R C q then 0 else pr_w (pt_k R q)) 0 i + pr_w κ := by
      show pr_rs (fun q => if pt_cv R C q then 0 else pr_w (pt_k R q)) 0 i + (if pt_cv R C (0 + i) then 0 else pr_w (pt_k R (0 + i))) = _
      rw [Nat.zero_add, hw]
    have e2 : pb_ws Lo (pb_new i κ v a b s).1 = pb_ws Lo s.1 + pr_w κ := by
      have hnl : pr_fr s.1 ∉ Lo := fun hh => hlo _ hh f0
      refine pr_rs_pt (a := pr_fr s.1) (by omega) (by omega) ?_ (fun x hx => ?_)
      · show (if pr_fr s.1 ∈ Lo then 0 else pr_w (pr_st s.1 (pr_fr s.1) κ (pr_fr s.1))) = (if pr_fr s.1 ∈ Lo then 0 else pr_w (s.1 (pr_fr s.1))) + pr_w κ
        rw [if_neg hnl, if_neg hnl, pr_st_s, f1, pr_w_0 (Or.inl rfl)]
        omega
      · show (if x ∈ Lo then 0 else pr_w (pr_st s.1 (pr_fr s.1) κ x)) = (if x ∈ Lo then 0 else pr_w (s.1 x))
        rw [pr_st_n hx]
    omega
theorem pb_step {i : Nat} {s : pb_S} {ρ : Nat → Nat} (hR : pt_ok R) (h14 : ∀ i, i < pt_n R → pt_k R i ≠ 14) (hct : pr_ct K0 + pt_rm R C ≤ 32) (hi : i < pt_n R) (hlo : ∀ x, x ∈ Lo → K0 x ≠ 0)
    (htv : ∀ q, q < pt_n R → pr_by (tv q)) (hbd : ∀ q, q < pt_n R → pt_k R q = 13 → ∃ y, bd (pt_v R q) = some y ∧ pr_T 0 K0 y ∧ 16 * rk y ≤ β)
    (h : pb_inv K0 V0 A0 B0 rk bd R C Lo β i s ρ) : ∃ ρ', pb_inv K0 V0 A0 B0 rk bd R C Lo β (i + 1) (pb_st R C tv bd i s) ρ' := by
  have hn := hR.2 i hi
  unfold pb_st
  by_cases hsk : pt_cv R C i = true ∧ pt_mx R C i = false
  · rw [if_pos hsk]
    obtain ⟨h1, h2, h3, h4, h5⟩ := h
    refine ⟨ρ, h1, fun x a b => ?_, fun q hq hq' => ?_, ?_, ?_⟩
    · obtain ⟨g0, g1, g2, g3, g4, g5, g6, g7, g8, g9⟩ := h2 x a b
      exact ⟨g0, g1, g2, g3, g4, g5, g6, g7, by omega, g9⟩
    · by_cases e : q = i
      · rw [e] at hq'
        exact absurd hsk hq'
      · exact h3 q (by omega) hq'
    · have : pr_rs (pt_rm1 R C) 0 i ≤ pr_rs (pt_rm1 R C) 0 (i + 1) := pr_rs_up (by omega)
      omega
    · show pb_ws Lo s.1 = pb_ws Lo K0 + (pr_rs (fun q => if pt_cv R C q then 0 else pr_w (pt_k R q)) 0 i + (if pt_cv R C (0 + i) then 0 else pr_w (pt_k R (0 + i))))
      rw [Nat.zero_add, if_pos hsk.1]
      omega
  · rw [if_neg hsk]
    by_cases h13 : pt_k R i = 13
    · rw [if_pos h13]
      obtain ⟨h1, h2, h3, h4, h5⟩ := h
      refine ⟨ρ, h1, fun x a b => ?_, fun q hq hq' => ?_, ?_, ?_⟩
      · obtain ⟨g0, g1, g2, g3, g4, g5, g6, g7, g8, g9⟩ := h2 x a b
        exact ⟨g0, g1, g2, g3, g4, g5, g6, g7, by show ρ x ≤ β + (i + 1); omega, g9⟩
      · show ∃ y, pr_st s.2.2.2.2 i (bd (pt_v R i)) q = some y ∧ pr_T 0 s.1 y ∧ ρ y ≤ β + q + 1 ∧ (K0 y = 0 ∨ ∃ j, bd j = some y)
        by_cases e : q = i
        · subst e
          obtain ⟨y, y1, y2, y3⟩ := hbd q hi h13
          obtain ⟨k1, _, _, _, k5⟩ := h1 y y2.2.2
          exact ⟨y, by rw [pr_st_s]; exact y1, ⟨y2.1, y2.2.1, by rw [k1]; exact y2.2.2⟩, by rw [k5]; omega, Or.inr ⟨_, y1⟩⟩
        · obtain ⟨y, y1, y2, y3, y4⟩ := h3 q (by omega) hq'
          exact ⟨y, by rw [pr_st_n e]; exact y1, y2, y3, y4⟩
      · have : pr_rs (pt_rm1 R C) 0 i ≤ pr_rs (pt_rm1 R C) 0 (i + 1) := pr_rs_up (by omega)
        show pr_ct s.1 ≤ _
        omega
      · show pb_ws Lo s.1 = pb_ws Lo K0 + (pr_rs (fun q => if pt_cv R C q then 0 else pr_w (pt_k R q)) 0 i + (if pt_cv R C (0 + i) then 0 else pr_w (pt_k R (0 + i))))
        rw [Nat.zero_add, h13, pr_w_0 (by omega)]
        have : (if pt_cv R C i = true then 0 else 0) = 0 := by
          by_cases hx : pt_cv R C i = true
          · rw [if_pos hx]
          · rw [if_neg hx]
        omega
    · rw [if_neg h13]
      by_cases hc : pt_cv R C i = true
      · rw [if_pos hc]
        have hmx : pt_mx R C i = true := by
          cases hx : pt_mx R C i with
          | true => rfl
          | false => exact absurd ⟨hc, hx⟩ hsk
        refine ⟨_, pb_newi hct hi ?_ hlo ⟨by omega, by omega⟩ (htv i hi) (fun h => absurd h (by omega)) (fun _ => rfl) (fun _ => rfl) (fun h => absurd h (by omega)) (fun h => absurd h (by omega)) (fun c hc => by rcases hc with x | x <;> cases x) ?_ h⟩
        · unfold pt_rm1
          rw [if_pos (Or.inr ⟨hmx, h13⟩)]
        · rw [if_pos hc, pr_w_0 (by omega)]
      · rw [if_neg hc]
        have hcf : pt_cv R C i = false := by
          cases hx : pt_cv R C i with
          | true => exact absurd hx hc
          | false => rfl
        have hk10 : pt_k R i ≤ 10 := by
          apply Classical.byContradiction
          intro hk
          have h11 : pt_k R i = 11 := by
            have := hn.1
            have := h14 i hi
            omega
          rw [pt_cv_eq hR hi] at hcf
          unfold pt_cF at hcf
          rw [if_neg h13, hn.2.2.2.2.1 (by omega), hn.2.2.2.2.2.1 (by omega)] at hcf
          cases hcf
        have hch : ∀ c, pt_a R i = some c ∨ pt_b R i = some c → pb_rs K0 bd β s ρ c ∧ c < i := by
          intro c hc'
          have h9 := hn.2.2.2.2.2.2.2.2.1 c hc'
          refine ⟨h.2.2.1 c h9.1 (fun hs => ?_), h9.1⟩
          have := hs.2
          unfold pt_mx at this
          rw [hs.1, h9.2] at this
          replace this : (true && !pt_cv R C i) = false := this
          rw [hcf] at this
          cases this
        refine ⟨_, pb_newi hct hi ?_ hlo ⟨hn.1.1, by omega⟩ pr_by_0 (fun _ => rfl) (fun h => absurd h (by omega)) (fun h9 => ?_) (fun _ => ?_) (fun h8 => ?_) (fun c hc' => ?_) ?_ h⟩
        · unfold pt_rm1
          rw [if_pos (Or.inl hcf)]
        · rw [hn.2.2.2.2.2.1 h9]
          rfl
        · obtain ⟨c, hc'⟩ := hn.2.2.2.2.2.2.1 hk10
          obtain ⟨⟨y, y1, _⟩, _⟩ := hch c (Or.inl hc')
          rw [hc']
          exact ⟨y, y1⟩
        · obtain ⟨c, hc'⟩ := hn.2.2.2.2.2.2.2.1 h8
          obtain ⟨⟨y, y1, _⟩, _⟩ := hch c (Or.inr hc')
          rw [hc']
          exact ⟨y, y1⟩
        · have aux : ∀ o : Option Nat, (∀ x, o = some x → pt_a R i = some x ∨ pt_b R i = some x) → pr_or s.2.2.2.2 o = some c → pr_T 0 s.1 c ∧ ρ c ≤ β + i ∧ (K0 c = 0 ∨ ∃ j, bd j = some c) := by
            intro o ho e
            cases o with
            | none => cases e
            | some x =>
              obtain ⟨⟨y, y1, y2, y3, y4⟩, hx⟩ := hch x (ho x rfl)
              replace e : s.2.2.2.2 x = some c := e
              rw [y1] at e
              cases e
              exact ⟨y2, by omega, y4⟩
          rcases hc' with x | x
          · exact aux _ (fun x hx => Or.inl hx) x
          · exact aux _ (fun x hx => Or.inr hx) x
        · rw [if_neg hc]
theorem pb_all {s0 : pb_S} (hR : pt_ok R) (h14 : ∀ i, i < pt_n R → pt_k R i ≠ 14) (hct : pr_ct K0 + pt_rm R C ≤ 32) (hlo : ∀ x, x ∈ Lo → K0 x ≠ 0)
    (htv : ∀ q, q < pt_n R → pr_by (tv q)) (hbd : ∀ q, q < pt_n R → pt_k R q = 13 → ∃ y, bd (pt_v R q) = some y ∧ pr_T 0 K0 y ∧ 16 * rk y ≤ β)
    (hs : s0 = (K0, V0, A0, B0, fun _ => none)) : ∀ i, i ≤ pt_n R → ∃ ρ, pb_inv K0 V0 A0 B0 rk bd R C Lo β i (pb_run R C tv bd i s0) ρ := by
  intro i
  induction i with
  | zero =>
    intro _
    rw [hs]
    exact ⟨_, pb_inv0⟩
  | succ i ih =>
    intro hi
    obtain ⟨ρ, h⟩ := ih (by omega)
    exact pb_step hR h14 hct (by omega) hlo htv hbd h
end PBS
end
section
/-! one application, pure: the graph stays a graph, the live weight falls -/
def pm_lo (P : pr_PT) (m : Nat → Nat) : Nat → List Nat
  | 0 => []
  | i + 1 => if pt_k P i ≤ 10 then m i :: pm_lo P m i else pm_lo P m i
theorem pm_lo_m {P : pr_PT} {m : Nat → Nat} {x : Nat} : ∀ {i : Nat}, x ∈ pm_lo P m i ↔ ∃ p, p < i ∧ pt_k P p ≤ 10 ∧ m p = x
  | 0 => ⟨fun h => (by cases h), fun ⟨p, h, _⟩ => absurd h (by omega)⟩
  | i + 1 => by
    show x ∈ (if pt_k P i ≤ 10 then m i :: pm_lo P m i else pm_lo P m i) ↔ _
    by_cases h : pt_k P i ≤ 10
    · rw [if_pos h, List.mem_cons, pm_lo_m (i := i)]
      constructor
      · rintro (e | ⟨p, h1, h2⟩)
        · exact ⟨i, by omega, h, e.symm⟩
        · exact ⟨p, by omega, h2⟩
      · rintro ⟨p, h1, h2, h3⟩
        by_cases e : p = i
        · rw [e] at h3
          exact Or.inl h3.symm
        · exact Or.inr ⟨p, by omega, h2, h3⟩
    · rw [if_neg h, pm_lo_m (i := i)]
      constructor
      · rintro ⟨p, h1, h2⟩
        exact ⟨p, by omega, h2⟩
      · rintro ⟨p, h1, h2, h3⟩
        refine ⟨p, ?_, h2, h3⟩
        have : p ≠ i := fun e => h (e ▸ h2)
        omega
theorem pm_lo_nd {P : pr_PT} {m : Nat → Nat} {n : Nat} (hi : ∀ p q, p < n → q < n → pt_k P p ≤ 10 → pt_k P q ≤ 10 → p ≠ q → m p ≠ m q) : ∀ i, i ≤ n → (pm_lo P m i).Nodup
  | 0, _ => by
    show ([] : List Nat).Nodup
    exact List.nodup_nil
  | i + 1, h => by
    show (if pt_k P i ≤ 10 then m i :: pm_lo P m i else pm_lo P m i).Nodup
    by_cases hk : pt_k P i ≤ 10
    · rw [if_pos hk, List.nodup_cons]
      refine ⟨fun hm => ?_, pm_lo_nd hi i (by omega)⟩
      obtain ⟨p, h1, h2, h3⟩ := pm_lo_m.mp hm
      exact hi p i (by omega) (by omega) h2 hk (by omega) h3
    · rw [if_neg hk]
      exact pm_lo_nd hi i (by omega)
theorem pm_lo_w {P : pr_PT} {m : Nat → Nat} {K : Nat → Nat} {n : Nat} (hk : ∀ p, p < n → pt_k P p ≤ 10 → K (m p) = pt_k P p) : ∀ i, i ≤ n → pr_sm (fun x => pr_w (K x)) (pm_lo P m i) = pr_rs (fun p => pr_w (pt_k P p)) 0 i
  | 0, _ => rfl
  | i + 1, h => by
    have ih := pm_lo_w hk i (by omega)
    show pr_sm (fun x => pr_w (K x)) (if pt_k P i ≤ 10 then m i :: pm_lo P m i else pm_lo P m i) = pr_rs (fun p => pr_w (pt_k P p)) 0 i + pr_w (pt_k P (0 + i))
    rw [Nat.zero_add]
    by_cases hi : pt_k P i ≤ 10
    · rw [if_pos hi]
      show pr_w (K (m i)) + pr_sm (fun x => pr_w (K x)) (pm_lo P m i) = _
      rw [ih, hk i (by omega) hi]
      omega
    · rw [if_neg hi, ih, pr_w_0 (Or.inr (by omega))]
      omega
def pr_rd (r n : Nat) (o : Option Nat) : Option Nat := if o = some r then some n else o
def pa_A (r n : Nat) (f : Nat → Option Nat) : Nat → Option Nat := fun x => if x < 32 then pr_rd r n (f x) else f x
def pa_O (r n oc : Nat) (O : Nat → Nat) : Nat → Nat := fun k => if k < oc ∧ O k = r then n else O k
def pa_K (L : List Nat) (K : Nat → Nat) : Nat → Nat := fun x => if x < 32 ∧ x ∉ L then 0 else K x
def pr_W (K : Nat → Nat) : Nat := pr_rs (fun x => pr_w (K x)) 0 32
theorem pr_W_le (K : Nat → Nat) : pr_W K ≤ 96 := pr_rs_bound (c := 3) (n := 32) (fun x _ _ => pr_w_le (K x))
theorem pr_rd_s {r n c : Nat} {o : Option Nat} (h : pr_rd r n o = some c) : (o = some r ∧ c = n) ∨ (o = some c ∧ c ≠ r) := by
  unfold pr_rd at h
  by_cases e : o = some r
  · rw [if_pos e] at h
    cases h
    exact Or.inl ⟨e, rfl⟩
  · rw [if_neg e] at h
    refine Or.inr ⟨h, fun hc => e (hc ▸ h)⟩
theorem pr_rd_n {r n : Nat} {o : Option Nat} : pr_rd r n o = none ↔ o = none := by
  unfold pr_rd
  by_cases e : o = some r
  · rw [if_pos e, e]
    exact ⟨fun h => (nomatch h), fun h => (nomatch h)⟩
  · rw [if_neg e]
theorem pr_rd_e {r n : Nat} {o : Option Nat} (h : ∃ c, o = some c) : ∃ c, pr_rd r n o = some c := by
  cases e : pr_rd r n o with
  | none =>
    obtain ⟨c, hc⟩ := h
    rw [pr_rd_n.mp e] at hc
    cases hc
  | some c => exact ⟨c, rfl⟩
/-- deleting what is not listed keeps a graph -/
theorem pr_gw_del {K : Nat → Nat} {V : Nat → Int32} {A B : Nat → Option Nat} {rk : Nat → Nat} {L : List Nat} (h : pr_gw 0 K V A B rk) (hc : pr_cl A B (fun x => x ∈ L)) : pr_gw 0 (pa_K L K) V A B rk := by
  intro n hn
  have hn' : pr_T 0 K n ∧ n ∈ L := by
    have h2 := hn.2.2
    unfold pa_K at h2
    by_cases hx : n < 32 ∧ n ∉ L
    · rw [if_pos hx] at h2
      exact absurd rfl h2
    · rw [if_neg hx] at h2
      refine ⟨⟨hn.1, hn.2.1, h2⟩, ?_⟩
      apply Classical.byContradiction
      intro hy
      exact hx ⟨by have := hn.2.1; omega, hy⟩
  have e : ∀ x, x ∈ L → pa_K L K x = K x := fun x hx => by
    unfold pa_K
    rw [if_neg (fun h => h.2 hx)]
  obtain ⟨g1, g2, g3, g4, g5, g6, g7, g8, g9, g10⟩ := h n hn'.1
  rw [e n hn'.2]
  refine ⟨g1, g2, g3, g4, g5, g6, g7, g8, g9, fun c hc' => ?_⟩
  have k := g10 c hc'
  have hcl := hc n c hn'.2 hc'
  exact ⟨⟨k.1.1, k.1.2.1, by rw [e c hcl]; exact k.1.2.2⟩, k.2⟩
section PAS
variable {K : Nat → Nat} {V : Nat → Int32} {A B : Nat → Option Nat} {us rk O : Nat → Nat} {P R : pr_PT} {Rn oc : Nat} {bd : Nat → Option Nat} {m : Nat → Nat} {tv : Nat → Int32} {L : List Nat}
theorem pa_ok (hG : pr_gw 0 K V A B rk) (hL : ∀ x, pr_T 0 K x → x ∈ L) (hO : ∀ k, k < oc → pr_T 0 K (O k)) (hu : us = pr_us A B O L oc)
    (hP : pt_ok P) (hPf : pt_fin P) (hPr : pt_k P (pt_n P - 1) ≤ 10) (hR : pt_ok R) (hRf : pt_fin R) (h14 : ∀ i, i < pt_n R → pt_k R i ≠ 14)
    (hv : ∀ q, q < pt_n R → pt_k R q = 13 → ∃ p, p < pt_n P ∧ 13 ≤ pt_k P p ∧ pt_v P p = pt_v R q)
    (hm : pm_inv K V A B us P Rn 0 (m, bd)) {C : Nat → Bool} (hct : pr_ct K + pt_rm R C ≤ 32) (htv : ∀ q, q < pt_n R → pr_by (tv q)) (hw : pt_rw R C < pt_pw P)
    {s : pb_S} (hs : s = pb_run R C tv bd (pt_n R) (K, V, A, B, fun _ => none)) :
    ∃ y rk2, s.2.2.2.2 (pt_n R - 1) = some y ∧ y < 32 ∧ (∀ x, 32 ≤ x → s.1 x = K x ∧ (K x ≠ 0 → s.2.1 x = V x ∧ s.2.2.1 x = A x ∧ s.2.2.2.1 x = B x)) ∧
      pr_gw 0 s.1 s.2.1 (pa_A Rn y s.2.2.1) (pa_A Rn y s.2.2.2.1) rk2 ∧ (∀ k, k < oc → pr_T 0 s.1 (pa_O Rn y oc O k)) ∧
      ∀ L2, L2 = pr_lv (pa_A Rn y s.2.2.1) (pa_A Rn y s.2.2.2.1) (pa_O Rn y oc O) 0 oc → pr_gw 0 (pa_K L2 s.1) s.2.1 (pa_A Rn y s.2.2.1) (pa_A Rn y s.2.2.2.1) rk2 ∧ (∀ k, k < oc → pr_T 0 (pa_K L2 s.1) (pa_O Rn y oc O k)) ∧ pr_W (pa_K L2 s.1) < pr_W K ∧ ∀ x, pr_T 0 (pa_K L2 s.1) x → x ∈ L2 := by
  have hRk : 1 ≤ pt_n P := hPf.1
  have hRT : pr_T 0 K Rn := by
    have := (hm.2.1 (pt_n P - 1) (by omega) (by omega)).1
    rw [hm.1] at this
    exact this
  have root := hm.2.1 (pt_n P - 1) (by omega) (by omega)
  -- bindings lie strictly below the root
  have hbr : ∀ j y, bd j = some y → pr_T 0 K y ∧ rk y < rk Rn := by
    intro j y hj
    obtain ⟨q, _, h2, h3, h4, h5⟩ := hm.2.2.2 j y hj
    have hq := hm.2.1 q (by omega) h2
    replace h5 : m q = y := h5
    have hne : q + 1 ≠ pt_n P := by
      intro e
      rw [show pt_n P - 1 = q by omega] at hPr
      omega
    have hr := pm_rk hP hPf hG hm (pt_n P - 1 - q) q (by omega) hne
    replace hr : rk (m q) < rk Rn := hr
    rw [h5] at hr
    have ht := hq.1
    replace ht : pr_T 0 K (m q) := ht
    rw [h5] at ht
    exact ⟨ht, hr⟩
  have hrk1 : 1 ≤ rk Rn := by
    obtain ⟨c, hc⟩ := (hP.2 (pt_n P - 1) (by omega)).2.2.2.2.2.2.1 hPr
    have h1 := (root.2.2.2 hPr).2.2.1 c hc
    replace h1 : A (m (pt_n P - 1)) = some (m c) := h1
    have e : m (pt_n P - 1) = Rn := hm.1
    rw [e] at h1
    have := (pr_gw_T hG Rn _ hRT (Or.inl h1)).2
    omega
  have hlo : ∀ x, x ∈ pm_lo P m (pt_n P) → K x ≠ 0 := by
    intro x hx
    obtain ⟨p, h1, h2, h3⟩ := pm_lo_m.mp hx
    have := (hm.2.1 p (by omega) h1).1.2.2
    replace this : K (m p) ≠ 0 := this
    rw [h3] at this
    exact this
  have hbd : ∀ q, q < pt_n R → pt_k R q = 13 → ∃ y, bd (pt_v R q) = some y ∧ pr_T 0 K y ∧ 16 * rk y ≤ 16 * rk Rn - 16 := by
    intro q hq hk
    obtain ⟨p, h1, h2, h3⟩ := hv q hq hk
    have := ((hm.2.1 p (by omega) h1).2.2.1 h2).1
    replace this : bd (pt_v P p) = some (m p) := this
    rw [h3] at this
    have hb := hbr _ _ this
    exact ⟨_, this, hb.1, by omega⟩
  obtain ⟨ρ, i1, i2, i3, i4, i5⟩ := pb_all (K0 := K) (V0 := V) (A0 := A) (B0 := B) (rk := rk) (bd := bd) (R := R) (C := C) (Lo := pm_lo P m (pt_n P)) (β := 16 * rk Rn - 16) (tv := tv) hR h14 hct hlo htv hbd rfl (pt_n R) (Nat.le_refl _)
  rw [← hs] at i1 i2 i3 i4 i5
  have hn8 := hR.1
  have hnR := hRf.1
  -- the root of the replacement
  have hnsk : ¬ pb_sk R C (pt_n R - 1) := by
    intro hsk
    have := hsk.2
    unfold pt_mx at this
    rw [hsk.1, hRf.2.1] at this
    cases this
  obtain ⟨y, y1, y2, y3, y4⟩ := i3 (pt_n R - 1) (by omega) hnsk
  have hy : y < 32 := by have := y2.2.1; omega
  have ρR : ρ Rn = 16 * rk Rn := (i1 Rn hRT.2.2).2.2.2.2
  have ρy : ρ y < ρ Rn := by omega
  have hTs : ∀ x, pr_T 0 K x → pr_T 0 s.1 x := fun x hx => ⟨hx.1, hx.2.1, by rw [(i1 x hx.2.2).1]; exact hx.2.2⟩
  have h32 : ∀ x, x < 32 → ∀ f : Nat → Option Nat, pa_A Rn y f x = pr_rd Rn y (f x) := fun x hx f => if_pos hx
  -- the graph with the redirected slots
  have edge : ∀ n c, pr_T 0 s.1 n → (s.2.2.1 n = some c ∨ s.2.2.2.1 n = some c) → pr_T 0 s.1 c ∧ ρ c < ρ n := by
    intro n c hn hc
    by_cases hK : K n = 0
    · have := (i2 n hK hn.2.2).2.2.2.2.2.2.2.2.2 c hc
      exact ⟨this.1, this.2.1⟩
    · obtain ⟨e1, e2, e3, e4, e5⟩ := i1 n hK
      rw [e3, e4] at hc
      have := pr_gw_T hG n c ⟨hn.1, hn.2.1, hK⟩ hc
      refine ⟨hTs c this.1, ?_⟩
      rw [e5, (i1 c this.1.2.2).2.2.2.2]
      omega
  have gw2 : pr_gw 0 s.1 s.2.1 (pa_A Rn y s.2.2.1) (pa_A Rn y s.2.2.2.1) (pr_rc ρ 0) := by
    intro n hn
    have hn32 : n < 32 := by have := hn.2.1; omega
    rw [h32 n hn32, h32 n hn32]
    have hch : ∀ c, (pr_rd Rn y (s.2.2.1 n) = some c ∨ pr_rd Rn y (s.2.2.2.1 n) = some c) → pr_T 0 s.1 c ∧ pr_rc ρ 0 c < pr_rc ρ 0 n := by
      intro c hc
      have key : pr_T 0 s.1 c ∧ ρ c < ρ n := by
        rcases hc with hc | hc
        · rcases pr_rd_s hc with ⟨h1, h2⟩ | ⟨h1, _⟩
          · rw [h2]
            exact ⟨y2, by have := (edge n Rn hn (Or.inl h1)).2; omega⟩
          · exact edge n c hn (Or.inl h1)
        · rcases pr_rd_s hc with ⟨h1, h2⟩ | ⟨h1, _⟩
          · rw [h2]
            exact ⟨y2, by have := (edge n Rn hn (Or.inr h1)).2; omega⟩
          · exact edge n c hn (Or.inr h1)
      exact ⟨key.1, pr_rc_mono key.2 (by omega) key.1.2.1⟩
    by_cases hK : K n = 0
    · obtain ⟨_, g1, g2, g3, g4, g5, g6, g7, g8, g9⟩ := i2 n hK hn.2.2
      exact ⟨by omega, pr_rc_lt ρ (by omega) (by omega), g2, fun h => absurd h (by omega), g3, fun h => pr_rd_n.mpr (g4 h), fun h => pr_rd_n.mpr (g5 h), fun h => pr_rd_e (g6 h), fun h => pr_rd_e (g7 h), hch⟩
    · obtain ⟨e1, e2, e3, e4, e5⟩ := i1 n hK
      obtain ⟨g1, g2, g3, g4, g5, g6, g7, g8, g9, g10⟩ := hG n ⟨hn.1, hn.2.1, hK⟩
      rw [← e1, ← e2] at g4 g5
      rw [← e1] at g1 g6 g7 g8 g9
      rw [← e2] at g3
      rw [← e3] at g6 g8
      rw [← e4] at g7 g9
      exact ⟨g1, pr_rc_lt ρ (by omega) (by omega), g3, g4, g5, fun h => pr_rd_n.mpr (g6 h), fun h => pr_rd_n.mpr (g7 h), fun h => pr_rd_e (g8 h), fun h => pr_rd_e (g9 h), hch⟩
  have hO2 : ∀ k, k < oc → pr_T 0 s.1 (pa_O Rn y oc O k) := by
    intro k hk
    unfold pa_O
    by_cases h : k < oc ∧ O k = Rn
    · rw [if_pos h]
      exact y2
    · rw [if_neg h]
      exact hTs _ (hO k hk)
  refine ⟨y, pr_rc ρ 0, y1, hy, fun x hx => ?_, gw2, hO2, fun L2 hL2 => ?_⟩
  · by_cases hK : K x = 0
    · refine ⟨?_, fun h => absurd hK h⟩
      rw [hK]
      apply Classical.byContradiction
      intro h
      have := (i2 x hK h).1
      omega
    · obtain ⟨e1, e2, e3, e4, e5⟩ := i1 x hK
      exact ⟨e1, fun _ => ⟨e2, e3, e4⟩⟩
  · obtain ⟨l1, l2, l3, l4⟩ := pr_lv_ok (O := pa_O Rn y oc O) (ob := 0) (pr_gw_T gw2) (pr_gw_r gw2) oc (fun i hi => by rw [Nat.zero_add]; exact hO2 i hi)
    rw [← hL2] at l1 l2 l3 l4
    -- the set that no live node leaves
    have inj : ∀ p q, p < pt_n P → q < pt_n P → pt_k P p ≤ 10 → q ≠ p → m q ≠ m p := by
      intro p q hp hq hk hne
      by_cases hr : p + 1 = pt_n P
      · intro e
        have := pm_rk hP hPf hG hm (pt_n P - 1 - q) q (by omega) (by omega)
        replace this : rk (m q) < rk Rn := this
        rw [e, show p = pt_n P - 1 by omega] at this
        have e2 : m (pt_n P - 1) = Rn := hm.1
        rw [e2] at this
        omega
      · exact pm_inj hP hPf hG hL hu hm (pt_n P - 1 - p) p (by omega) hr hk q hq hne
    have bdlo : ∀ j c, bd j = some c → c ∉ pm_lo P m (pt_n P) := by
      intro j c hj hc
      obtain ⟨q, _, h2, h3, h4, h5⟩ := hm.2.2.2 j c hj
      obtain ⟨p, k1, k2, k3⟩ := pm_lo_m.mp hc
      replace h5 : m q = c := h5
      exact inj p q k1 h2 k2 (fun e => by rw [e] at h3; omega) (h5.trans k3.symm)
    have newlo : ∀ c, K c = 0 → c ∉ pm_lo P m (pt_n P) := fun c hc hx => hlo c hx hc
    have ylo : y ∉ pm_lo P m (pt_n P) := by
      rcases y4 with h | ⟨j, h⟩
      · exact newlo y h
      · exact bdlo j y h
    have rootlo : Rn ∈ pm_lo P m (pt_n P) := pm_lo_m.mpr ⟨pt_n P - 1, by omega, hPr, hm.1⟩
    have hcl : pr_cl (pa_A Rn y s.2.2.1) (pa_A Rn y s.2.2.2.1) (fun x => pr_T 0 s.1 x ∧ x ∉ pm_lo P m (pt_n P)) := by
      intro x c hx hc
      have hx32 : x < 32 := by have := hx.1.2.1; omega
      rw [h32 x hx32, h32 x hx32] at hc
      have main : ∀ o : Option Nat, (∀ z, o = some z → s.2.2.1 x = some z ∨ s.2.2.2.1 x = some z) → pr_rd Rn y o = some c → pr_T 0 s.1 c ∧ c ∉ pm_lo P m (pt_n P) := by
        intro o ho he
        rcases pr_rd_s he with ⟨h1, h2⟩ | ⟨h1, h1'⟩
        · rw [h2]
          exact ⟨y2, ylo⟩
        · have hed := ho c h1
          refine ⟨(edge x c hx.1 hed).1, fun hcl => ?_⟩
          obtain ⟨p, k1, k2, k3⟩ := pm_lo_m.mp hcl
          by_cases hK : K x = 0
          · have := ((i2 x hK hx.1.2.2).2.2.2.2.2.2.2.2.2 c hed).2.2
            rcases this with h | ⟨j, h⟩
            · exact newlo c h hcl
            · exact bdlo j c h hcl
          · obtain ⟨e1, e2, e3, e4, e5⟩ := i1 x hK
            rw [e3, e4] at hed
            have hp : p + 1 < pt_n P := by
              apply Classical.byContradiction
              intro hh
              apply h1'
              rw [← k3, show p = pt_n P - 1 by omega]
              exact hm.1
            have ho2 := (pm_only hP hPf hL hu hm hp k2).2 x ⟨hx.1.1, hx.1.2.1, hK⟩ (by
              replace k3 : m p = c := k3
              show A x = some (m p) ∨ B x = some (m p)
              rw [k3]
              exact hed)
            obtain ⟨q, q1, q2, q3⟩ := ho2
            exact hx.2 (pm_lo_m.mpr ⟨q, q1, q2, q3⟩)
      rcases hc with hc | hc
      · exact main _ (fun z hz => Or.inl hz) hc
      · exact main _ (fun z hz => Or.inr hz) hc
    have hout : ∀ i, i < oc → (fun x => pr_T 0 s.1 x ∧ x ∉ pm_lo P m (pt_n P)) (pa_O Rn y oc O (0 + i)) := by
      intro i hi
      rw [Nat.zero_add]
      refine ⟨hO2 i hi, ?_⟩
      unfold pa_O
      by_cases h : i < oc ∧ O i = Rn
      · rw [if_pos h]
        exact ylo
      · rw [if_neg h]
        intro hx
        obtain ⟨p, k1, k2, k3⟩ := pm_lo_m.mp hx
        have hp : p + 1 < pt_n P := by
          apply Classical.byContradiction
          intro hh
          apply h
          refine ⟨hi, ?_⟩
          rw [← k3, show p = pt_n P - 1 by omega]
          exact hm.1
        exact (pm_only hP hPf hL hu hm hp k2).1 i hi k3.symm
    have hsub : ∀ x, x ∈ L2 → x ∉ pm_lo P m (pt_n P) := fun x hx => ((l4 x hx).2 _ hcl hout).2
    refine ⟨pr_gw_del gw2 l2, fun k hk => ?_, ?_, fun x hx => ?_⟩
    · have h1 := hO2 k hk
      have h2 := l3 k hk
      rw [Nat.zero_add] at h2
      refine ⟨h1.1, h1.2.1, ?_⟩
      unfold pa_K
      rw [if_neg (fun h => h.2 h2)]
      exact h1.2.2
    · have w1 : pr_W (pa_K L2 s.1) ≤ pb_ws (pm_lo P m (pt_n P)) s.1 := by
        refine pr_rs_le fun x _ hx => ?_
        show pr_w (pa_K L2 s.1 x) ≤ (if x ∈ pm_lo P m (pt_n P) then 0 else pr_w (s.1 x))
        unfold pa_K
        by_cases h : x ∈ L2
        · rw [if_neg (fun hh => hh.2 h), if_neg (hsub x h)]
          exact Nat.le_refl _
        · rw [if_pos ⟨by omega, h⟩, pr_w_0 (Or.inl rfl)]
          exact Nat.zero_le _
      have w2 : pb_ws (pm_lo P m (pt_n P)) K + pt_pw P = pr_W K := by
        have nd := pm_lo_nd (P := P) (m := m) (n := pt_n P) (fun p q hp hq h1 h2 hne => inj q p hq hp h2 (fun e => hne e)) (pt_n P) (Nat.le_refl _)
        have e1 := pr_rs_list (w := fun x => pr_w (K x)) (lo := 0) (n := 32) nd (fun x hx => by
          obtain ⟨p, h1, h2, h3⟩ := pm_lo_m.mp hx
          have := (hm.2.1 p (by omega) h1).1
          replace this : pr_T 0 K (m p) := this
          rw [h3] at this
          exact ⟨this.1, this.2.1⟩)
        have e2 := pm_lo_w (P := P) (m := m) (K := K) (n := pt_n P) (fun p hp hk => ((hm.2.1 p (by omega) hp).2.2.2 hk).1) (pt_n P) (Nat.le_refl _)
        rw [e2] at e1
        show pr_rs (fun x => if x ∈ pm_lo P m (pt_n P) then 0 else pr_w (K x)) 0 32 + pr_rs (fun p => pr_w (pt_k P p)) 0 (pt_n P) = pr_rs (fun x => pr_w (K x)) 0 32
        rw [← e1, ← pr_rs_add]
        refine pr_rs_congr fun x _ _ => ?_
        by_cases h : x ∈ pm_lo P m (pt_n P)
        · rw [if_pos h, if_pos h, Nat.zero_add]
        · rw [if_neg h, if_neg h]
          rfl
      have w3 : pb_ws (pm_lo P m (pt_n P)) s.1 = pb_ws (pm_lo P m (pt_n P)) K + pt_rw R C := i5
      omega
    · apply Classical.byContradiction
      intro h
      have h2 := hx.2.2
      unfold pa_K at h2
      rw [if_pos ⟨by have := hx.2.1; omega, h⟩] at h2
      exact h2 rfl
end PAS
end
section
/-! the values of the nodes across an application -/
theorem pv_u {lo : Nat} {K : Nat → Nat} {V : Nat → Int32} {A B : Nat → Option Nat} {rk : Nat → Nat} {ar : Int32} {g h : Nat → Int32} (hG : pr_gw lo K V A B rk) (hg : ∀ n, pr_T lo K n → g n = pr_en K V A B ar g n) (hh : ∀ n, pr_T lo K n → h n = pr_en K V A B ar h n) : ∀ f n, pr_T lo K n → rk n < f → g n = h n := by
  intro f
  induction f with
  | zero =>
    intro n _ hf
    omega
  | succ f ih =>
    intro n hn hf
    rw [hg n hn, hh n hn]
    refine pr_en_congr fun c hc => ?_
    have ⟨tc, rc⟩ := pr_gw_T hG n c hn hc
    exact ih c tc (by omega)
theorem pv_ev {lo : Nat} {K : Nat → Nat} {V : Nat → Int32} {A B : Nat → Option Nat} {rk : Nat → Nat} {ar : Int32} {g : Nat → Int32} (hG : pr_gw lo K V A B rk) (hg : ∀ n, pr_T lo K n → g n = pr_en K V A B ar g n) {n : Nat} (hn : pr_T lo K n) : pr_ev K V A B ar 32 n = g n :=
  pv_u hG (fun n hn => pr_ev_eq hG hn) hg 32 n hn (pr_gw_r hG n hn)
/-- values look at the graph's own nodes alone -/
theorem pv_same {lo : Nat} {K K' : Nat → Nat} {V V' : Nat → Int32} {A B A' B' : Nat → Option Nat} {rk : Nat → Nat} {ar : Int32} (hG : pr_gw lo K V A B rk) (e : ∀ n, pr_T lo K n → K' n = K n ∧ V' n = V n ∧ A' n = A n ∧ B' n = B n) {n : Nat} (hn : pr_T lo K n) : pr_ev K' V' A' B' ar 32 n = pr_ev K V A B ar 32 n := by
  have main : ∀ f n, pr_T lo K n → pr_ev K' V' A' B' ar f n = pr_ev K V A B ar f n := by
    intro f
    induction f with
    | zero =>
      intro n _
      rfl
    | succ f ih =>
      intro n hn
      obtain ⟨e1, e2, e3, e4⟩ := e n hn
      show pr_en K' V' A' B' ar (pr_ev K' V' A' B' ar f) n = pr_en K V A B ar (pr_ev K V A B ar f) n
      unfold pr_en
      rw [e1, e2, e3, e4, pr_ov_congr (o := A n) (fun c hc => ih c (pr_gw_T hG n c hn (Or.inl hc)).1), pr_ov_congr (o := B n) (fun c hc => ih c (pr_gw_T hG n c hn (Or.inr hc)).1)]
  exact main 32 n hn
section PVP
variable {K : Nat → Nat} {V : Nat → Int32} {A B : Nat → Option Nat} {us rk : Nat → Nat} {P : pr_PT} {Rn : Nat} {bd : Nat → Option Nat} {m : Nat → Nat} {ar : Int32}
/-- a matched pattern has, at the bindings' values, the values of the nodes -/
theorem pv_pat (hP : pt_ok P) (hG : pr_gw 0 K V A B rk) (hm : pm_inv K V A B us P Rn 0 (m, bd)) : ∀ i, i < pt_n P → pr_ev K V A B ar 32 (m i) = pt_tv P (pr_ov (pr_ev K V A B ar 32) (bd 0)) (pr_ov (pr_ev K V A B ar 32) (bd 1)) i := by
  intro i
  induction i using Nat.strongRecOn with
  | ind i ih =>
    intro hi
    have hnd : pm_nd K V A B us P m bd i := hm.2.1 i (by omega) hi
    obtain ⟨tn, c11, c13, c10⟩ := hnd
    have hk := hP.2 i hi
    rw [pt_tv_eq hP hi]
    unfold pt_vF
    by_cases e11 : pt_k P i = 11
    · rw [if_pos e11, pr_ev_eq hG tn]
      unfold pr_en
      rw [if_pos (c11 e11).1, (c11 e11).2]
    · rw [if_neg e11]
      by_cases e13 : 13 ≤ pt_k P i
      · rw [if_pos e13]
        have hb := (c13 e13).1
        have hv := hk.2.2.1 e13
        by_cases e0 : pt_v P i = 0
        · rw [if_pos e0]
          rw [e0] at hb
          rw [hb]
          rfl
        · rw [if_neg e0]
          rw [show pt_v P i = 1 by omega] at hb
          rw [hb]
          rfl
      · rw [if_neg e13]
        have k10 : pt_k P i ≤ 10 := by have := hk.1; omega
        obtain ⟨d1, d2, d3, d4⟩ := c10 k10
        have h9 := hk.2.2.2.2.2.2.2.2.1
        rw [pr_ev_eq hG tn]
        unfold pr_en
        rw [d1, if_neg e11, if_neg (by omega)]
        obtain ⟨c, hc⟩ := hk.2.2.2.2.2.2.1 k10
        have ea : pr_ov (pr_ev K V A B ar 32) (A (m i)) = pr_ov (pt_tv P (pr_ov (pr_ev K V A B ar 32) (bd 0)) (pr_ov (pr_ev K V A B ar 32) (bd 1))) (pt_a P i) := by
          rw [d3 c hc, hc]
          have := (h9 c (Or.inl hc)).1
          exact ih c this (by omega)
        have eb : pr_ov (pr_ev K V A B ar 32) (B (m i)) = pr_ov (pt_tv P (pr_ov (pr_ev K V A B ar 32) (bd 0)) (pr_ov (pr_ev K V A B ar 32) (bd 1))) (pt_b P i) := by
          by_cases k8 : pt_k P i ≤ 8
          · obtain ⟨c', hc'⟩ := hk.2.2.2.2.2.2.2.1 k8
            rw [d4 c' hc', hc']
            have := (h9 c' (Or.inr hc')).1
            exact ih c' this (by omega)
          · have hB : B (m i) = none := (hG _ tn).2.2.2.2.2.2.1 (by omega)
            have hb : pt_b P i = none := hk.2.2.2.2.2.1 (by omega)
            rw [hB, hb]
            rfl
        rw [ea, eb]
end PVP
section PVB
variable {K0 : Nat → Nat} {V0 : Nat → Int32} {A0 B0 : Nat → Option Nat} {rk : Nat → Nat} {bd : Nat → Option Nat} {R : pr_PT} {C : Nat → Bool} {Lo : List Nat} {β : Nat} {tv g0 : Nat → Int32} {ar v0 v1 : Int32}
/-- h gives the old nodes their old values, the new ones their values, and the results the replacement's -/
def pv_in (K0 : Nat → Nat) (g0 : Nat → Int32) (ar : Int32) (R : pr_PT) (C : Nat → Bool) (v0 v1 : Int32) (i : Nat) (s : pb_S) (h : Nat → Int32) : Prop :=
  (∀ x, K0 x ≠ 0 → h x = g0 x) ∧ (∀ x, K0 x = 0 → s.1 x ≠ 0 → h x = pr_en s.1 s.2.1 s.2.2.1 s.2.2.2.1 ar h x) ∧ ∀ q y, q < i → ¬ pb_sk R C q → s.2.2.2.2 q = some y → h y = pt_tv R v0 v1 q
theorem pv_new {i κ : Nat} {v : Int32} {a b : Option Nat} {s : pb_S} {ρ : Nat → Nat} {h : Nat → Int32} (hfr : ∃ x, x < 32 ∧ s.1 x = 0) (hinv : pb_inv K0 V0 A0 B0 rk bd R C Lo β i s ρ) (hv : pv_in K0 g0 ar R C v0 v1 i s h)
    (hab : ∀ c, a = some c ∨ b = some c → s.1 c ≠ 0) (hw : (if κ = 11 then v else if κ = 12 then pr_ag ar v else pr_op κ (pr_ov h a) (pr_ov h b)) = pt_tv R v0 v1 i) : ∃ h', pv_in K0 g0 ar R C v0 v1 (i + 1) (pb_new i κ v a b s) h' := by
  obtain ⟨f1, f2, f3⟩ := pr_fr_ok hfr
  obtain ⟨i1, i2, i3, i4, i5⟩ := hinv
  obtain ⟨w1, w2, w3⟩ := hv
  have hK0 : K0 (pr_fr s.1) = 0 := by
    apply Classical.byContradiction
    intro hh
    rw [← (i1 _ hh).1] at hh
    exact hh f1
  have hne : ∀ c, s.1 c ≠ 0 → c ≠ pr_fr s.1 := fun c hc e => hc (by rw [e]; exact f1)
  refine ⟨pr_st h (pr_fr s.1) (pt_tv R v0 v1 i), fun x hx => ?_, fun x hx hx1 => ?_, fun q y hq hsk hy => ?_⟩
  · rw [pr_st_n (fun e => hx (by rw [e]; exact hK0))]
    exact w1 x hx
  · show pr_st h (pr_fr s.1) (pt_tv R v0 v1 i) x = pr_en (pr_st s.1 (pr_fr s.1) κ) (pr_st s.2.1 (pr_fr s.1) v) (pr_st s.2.2.1 (pr_fr s.1) a) (pr_st s.2.2.2.1 (pr_fr s.1) b) ar (pr_st h (pr_fr s.1) (pt_tv R v0 v1 i)) x
    by_cases e : x = pr_fr s.1
    · subst e
      unfold pr_en
      rw [pr_st_s, pr_st_s, pr_st_s, pr_st_s, pr_st_s, pr_ov_congr (o := a) (h := h) (fun c hc => pr_st_n (hne c (hab c (Or.inl hc)))), pr_ov_congr (o := b) (h := h) (fun c hc => pr_st_n (hne c (hab c (Or.inr hc))))]
      exact hw.symm
    · have hx1' : s.1 x ≠ 0 := by
        have h1 : pr_st s.1 (pr_fr s.1) κ x ≠ 0 := hx1
        rw [pr_st_n e] at h1
        exact h1
      have hch := (i2 x hx hx1').2.2.2.2.2.2.2.2.2
      unfold pr_en
      rw [pr_st_n e, pr_st_n e, pr_st_n e, pr_st_n e, pr_st_n e, pr_ov_congr (o := s.2.2.1 x) (h := h) (fun c hc => pr_st_n (hne c (hch c (Or.inl hc)).1.2.2)), pr_ov_congr (o := s.2.2.2.1 x) (h := h) (fun c hc => pr_st_n (hne c (hch c (Or.inr hc)).1.2.2))]
      exact w2 x hx hx1'
  · have hy' : pr_st s.2.2.2.2 i (some (pr_fr s.1)) q = some y := hy
    by_cases e : q = i
    · subst e
      rw [pr_st_s] at hy'
      rw [← Option.some.inj hy', pr_st_s]
    · rw [pr_st_n e] at hy'
      obtain ⟨z, z1, z2, z3⟩ := i3 q (by omega) hsk
      rw [hy'] at z1
      have ez := Option.some.inj z1
      subst ez
      rw [pr_st_n (hne y z2.2.2)]
      exact w3 q y (by omega) hsk hy'
theorem pv_step {i : Nat} {s : pb_S} {ρ : Nat → Nat} {h : Nat → Int32} (hR : pt_ok R) (h14 : ∀ i, i < pt_n R → pt_k R i ≠ 14) (hi : i < pt_n R) (hfr : pt_rm1 R C i = 1 → ∃ x, x < 32 ∧ s.1 x = 0) (hinv : pb_inv K0 V0 A0 B0 rk bd R C Lo β i s ρ) (hv : pv_in K0 g0 ar R C v0 v1 i s h)
    (htv : pt_cv R C i = true → tv i = pt_tv R v0 v1 i) (hbd : pt_k R i = 13 → ∃ y, bd (pt_v R i) = some y ∧ K0 y ≠ 0 ∧ g0 y = (if pt_v R i = 0 then v0 else v1)) : ∃ h', pv_in K0 g0 ar R C v0 v1 (i + 1) (pb_st R C tv bd i s) h' := by
  have hk := hR.2 i hi
  have h9 := hk.2.2.2.2.2.2.2.2.1
  have h14i := h14 i hi
  unfold pb_st
  by_cases hsk : pt_cv R C i = true ∧ pt_mx R C i = false
  · rw [if_pos hsk]
    refine ⟨h, hv.1, hv.2.1, fun q y hq hn hy => ?_⟩
    by_cases e : q = i
    · subst e
      exact absurd hsk hn
    · exact hv.2.2 q y (by omega) hn hy
  · rw [if_neg hsk]
    by_cases e13 : pt_k R i = 13
    · rw [if_pos e13]
      refine ⟨h, hv.1, hv.2.1, fun q y hq hn hy => ?_⟩
      have hy' : pr_st s.2.2.2.2 i (bd (pt_v R i)) q = some y := hy
      by_cases e : q = i
      · subst e
        rw [pr_st_s] at hy'
        obtain ⟨z, z1, z2, z3⟩ := hbd e13
        rw [hy'] at z1
        have ez := Option.some.inj z1
        subst ez
        rw [hv.1 y z2, z3, pt_tv_eq hR hi]
        unfold pt_vF
        rw [if_neg (show ¬ pt_k R q = 11 by rw [e13]; decide), if_pos (show 13 ≤ pt_k R q by rw [e13]; exact Nat.le_refl 13)]
      · rw [pr_st_n e] at hy'
        exact hv.2.2 q y (by omega) hn hy'
    · rw [if_neg e13]
      by_cases hc : pt_cv R C i = true
      · rw [if_pos hc]
        have hmx : pt_mx R C i = true := by
          cases hx : pt_mx R C i with
          | true => rfl
          | false => exact absurd ⟨hc, hx⟩ hsk
        refine pv_new (hfr ?_) hinv hv (fun c hh => by rcases hh with y | y <;> cases y) ?_
        · unfold pt_rm1
          rw [if_pos (Or.inr ⟨hmx, e13⟩)]
        · rw [if_pos rfl]
          exact htv hc
      · rw [if_neg hc]
        have hcf : pt_cv R C i = false := by
          cases hx : pt_cv R C i with
          | true => exact absurd hx hc
          | false => rfl
        have k11 : pt_k R i ≠ 11 := by
          intro e
          apply hc
          rw [pt_cv_eq hR hi]
          unfold pt_cF
          rw [if_neg e13, hk.2.2.2.2.1 (by omega), hk.2.2.2.2.2.1 (by omega)]
          rfl
        have k10 : pt_k R i ≤ 10 := by have := hk.1; omega
        -- the operands have results
        have hop : ∀ c, pt_a R i = some c ∨ pt_b R i = some c → ∃ y, s.2.2.2.2 c = some y ∧ s.1 y ≠ 0 ∧ h y = pt_tv R v0 v1 c := by
          intro c hc'
          obtain ⟨c1, c2⟩ := h9 c hc'
          have hn : ¬ pb_sk R C c := by
            intro hs
            have h2 := hs.2
            unfold pt_mx at h2
            rw [hs.1, c2] at h2
            replace h2 : (true && !pt_cv R C i) = false := h2
            rw [hcf] at h2
            cases h2
          obtain ⟨y, y1, y2, y3⟩ := hinv.2.2.1 c c1 hn
          exact ⟨y, y1, y2.2.2, hv.2.2 c y c1 hn y1⟩
        have hor : ∀ o : Option Nat, (∀ c, o = some c → pt_a R i = some c ∨ pt_b R i = some c) → pr_ov h (pr_or s.2.2.2.2 o) = pr_ov (pt_tv R v0 v1) o ∧ ∀ y, pr_or s.2.2.2.2 o = some y → s.1 y ≠ 0 := by
          intro o ho
          cases o with
          | none => exact ⟨rfl, fun y hy => by cases hy⟩
          | some c =>
            obtain ⟨y, y1, y2, y3⟩ := hop c (ho c rfl)
            have e : pr_or s.2.2.2.2 (some c) = some y := y1
            rw [e]
            refine ⟨y3, fun z hz => ?_⟩
            rw [← Option.some.inj hz]
            exact y2
        have ha := hor (pt_a R i) (fun c hc => Or.inl hc)
        have hb := hor (pt_b R i) (fun c hc => Or.inr hc)
        refine pv_new (hfr ?_) hinv hv (fun c hh => ?_) ?_
        · unfold pt_rm1
          rw [if_pos (Or.inl hcf)]
        · rcases hh with y | y
          · exact ha.2 c y
          · exact hb.2 c y
        · rw [if_neg k11, if_neg (by omega), ha.1, hb.1, pt_tv_eq hR hi]
          unfold pt_vF
          rw [if_neg k11, if_neg (by omega)]
theorem pv_all (hR : pt_ok R) (h14 : ∀ i, i < pt_n R → pt_k R i ≠ 14) (hfr : ∀ i, i < pt_n R → pt_rm1 R C i = 1 → ∃ x, x < 32 ∧ (pb_run R C tv bd i (K0, V0, A0, B0, fun _ => none)).1 x = 0) (hinv : ∀ i, i ≤ pt_n R → ∃ ρ, pb_inv K0 V0 A0 B0 rk bd R C Lo β i (pb_run R C tv bd i (K0, V0, A0, B0, fun _ => none)) ρ)
    (htv : ∀ i, i < pt_n R → pt_cv R C i = true → tv i = pt_tv R v0 v1 i) (hbd : ∀ i, i < pt_n R → pt_k R i = 13 → ∃ y, bd (pt_v R i) = some y ∧ K0 y ≠ 0 ∧ g0 y = (if pt_v R i = 0 then v0 else v1)) : ∀ i, i ≤ pt_n R → ∃ h, pv_in K0 g0 ar R C v0 v1 i (pb_run R C tv bd i (K0, V0, A0, B0, fun _ => none)) h := by
  intro i
  induction i with
  | zero =>
    intro _
    exact ⟨g0, fun _ _ => rfl, fun x hx hx1 => absurd hx hx1, fun q y hq => absurd hq (by omega)⟩
  | succ i ih =>
    intro hi
    obtain ⟨h, hv⟩ := ih (by omega)
    obtain ⟨ρ, hin⟩ := hinv i (by omega)
    exact pv_step hR h14 (by omega) (hfr i (by omega)) hin hv (htv i (by omega)) (hbd i (by omega))
theorem pv_rd {h : Nat → Int32} {r y : Nat} (e : h y = h r) (o : Option Nat) : pr_ov h (pr_rd r y o) = pr_ov h o := by
  unfold pr_rd
  by_cases ho : o = some r
  · rw [if_pos ho, ho]
    exact e
  · rw [if_neg ho]
/-- the values after the redirection and the deletion -/
theorem pv_app {Rn y : Nat} {s : pb_S} {rk2 : Nat → Nat} {L2 : List Nat} {ρ : Nat → Nat} {h : Nat → Int32} {i : Nat} (hG : pr_gw 0 K0 V0 A0 B0 rk) (hg : g0 = pr_ev K0 V0 A0 B0 ar 32) (hinv : pb_inv K0 V0 A0 B0 rk bd R C Lo β i s ρ) (hv : pv_in K0 g0 ar R C v0 v1 i s h) (hy : h y = h Rn)
    (hG2 : pr_gw 0 (pa_K L2 s.1) s.2.1 (pa_A Rn y s.2.2.1) (pa_A Rn y s.2.2.2.1) rk2) : ∀ x, pr_T 0 (pa_K L2 s.1) x → pr_ev (pa_K L2 s.1) s.2.1 (pa_A Rn y s.2.2.1) (pa_A Rn y s.2.2.2.1) ar 32 x = h x := by
  obtain ⟨i1, i2, i3, i4, i5⟩ := hinv
  obtain ⟨w1, w2, w3⟩ := hv
  refine fun x hx => pv_ev hG2 (fun n hn => ?_) hx
  have hn32 : n < 32 := by have := hn.2.1; omega
  have eK : pa_K L2 s.1 n = s.1 n := by
    have h2 := hn.2.2
    unfold pa_K at h2 ⊢
    by_cases hc : n < 32 ∧ n ∉ L2
    · rw [if_pos hc] at h2
      exact absurd rfl h2
    · rw [if_neg hc]
  have eA : ∀ f : Nat → Option Nat, pa_A Rn y f n = pr_rd Rn y (f n) := fun f => if_pos hn32
  have hs1 : s.1 n ≠ 0 := by
    have h2 := hn.2.2
    rw [eK] at h2
    exact h2
  unfold pr_en
  rw [eK, eA, eA, pv_rd hy, pv_rd hy]
  by_cases hK : K0 n = 0
  · have := w2 n hK hs1
    unfold pr_en at this
    exact this
  · obtain ⟨e1, e2, e3, e4, e5⟩ := i1 n hK
    have tn : pr_T 0 K0 n := ⟨hn.1, hn.2.1, hK⟩
    have := pr_ev_eq (ar := ar) hG tn
    rw [w1 n hK, hg, this, e1, e2, e3, e4]
    unfold pr_en
    rw [pr_ov_congr (o := A0 n) (h := h) (fun c hc => ?_), pr_ov_congr (o := B0 n) (h := h) (fun c hc => ?_)]
    · rw [w1 c (pr_gw_T hG n c tn (Or.inr hc)).1.2.2, hg]
    · rw [w1 c (pr_gw_T hG n c tn (Or.inl hc)).1.2.2, hg]
end PVB
end
section
/-! the live list under a renaming of the nodes; its weight -/
section SHF
variable {T : Nat → Prop} {A B A' B' : Nat → Option Nat} {φ : Nat → Nat}
theorem po_map (hφ : ∀ x y, φ x = φ y → x = y) (hT : ∀ n c, T n → (A n = some c ∨ B n = some c) → T c) (hA : ∀ n, T n → A' (φ n) = (A n).map φ ∧ B' (φ n) = (B n).map φ) :
    ∀ f n (L : List Nat), T n → pr_po A' B' f (φ n) (L.map φ) = (pr_po A B f n L).map φ := by
  have hoc : ∀ (g g' : Nat → List Nat → List Nat) (o : Option Nat) (L : List Nat), (∀ c, o = some c → ∀ L : List Nat, g' (φ c) (L.map φ) = (g c L).map φ) → pr_oc g' (o.map φ) (L.map φ) = (pr_oc g o L).map φ := by
    intro g g' o L h
    cases o with
    | none => rfl
    | some c => exact h c rfl L
  intro f
  induction f with
  | zero =>
    intro n L _
    rfl
  | succ f ih =>
    intro n L tn
    have hm : φ n ∈ L.map φ ↔ n ∈ L := by
      rw [List.mem_map]
      constructor
      · rintro ⟨x, h1, h2⟩
        rw [← hφ _ _ h2]
        exact h1
      · intro h
        exact ⟨n, h, rfl⟩
    show (if φ n ∈ L.map φ then L.map φ else pr_oc (pr_po A' B' f) (B' (φ n)) (pr_oc (pr_po A' B' f) (A' (φ n)) (L.map φ)) ++ [φ n]) = (if n ∈ L then L else pr_oc (pr_po A B f) (B n) (pr_oc (pr_po A B f) (A n) L) ++ [n]).map φ
    by_cases h : n ∈ L
    · rw [if_pos h, if_pos (hm.mpr h)]
    · rw [if_neg h, if_neg (fun hh => h (hm.mp hh)), (hA n tn).1, (hA n tn).2, hoc (pr_po A B f) (pr_po A' B' f) (A n) L (fun c hc L => ih c L (hT n c tn (Or.inl hc))), hoc (pr_po A B f) (pr_po A' B' f) (B n) _ (fun c hc L => ih c L (hT n c tn (Or.inr hc))), List.map_append]
      rfl
theorem lv_map {O O' : Nat → Nat} {ob ob' : Nat} (hφ : ∀ x y, φ x = φ y → x = y) (hT : ∀ n c, T n → (A n = some c ∨ B n = some c) → T c) (hA : ∀ n, T n → A' (φ n) = (A n).map φ ∧ B' (φ n) = (B n).map φ) :
    ∀ k, (∀ i, i < k → T (O (ob + i)) ∧ O' (ob' + i) = φ (O (ob + i))) → pr_lv A' B' O' ob' k = (pr_lv A B O ob k).map φ
  | 0, _ => rfl
  | k + 1, h => by
    show pr_po A' B' 32 (O' (ob' + k)) (pr_lv A' B' O' ob' k) = (pr_po A B 32 (O (ob + k)) (pr_lv A B O ob k)).map φ
    rw [(h k (by omega)).2, lv_map hφ hT hA k (fun i hi => h i (by omega))]
    exact po_map hφ hT hA 32 _ _ (h k (by omega)).1
end SHF
theorem sm_map {w : Nat → Nat} {φ : Nat → Nat} : ∀ L : List Nat, pr_sm w (L.map φ) = pr_sm (fun x => w (φ x)) L
  | [] => rfl
  | x :: L => by
    show w (φ x) + pr_sm w (L.map φ) = w (φ x) + pr_sm (fun x => w (φ x)) L
    rw [sm_map L]
theorem sm_congr {w w' : Nat → Nat} : ∀ L : List Nat, (∀ x, x ∈ L → w x = w' x) → pr_sm w L = pr_sm w' L
  | [], _ => rfl
  | x :: L, h => by
    show w x + pr_sm w L = w' x + pr_sm w' L
    rw [h x (List.mem_cons_self ..), sm_congr L (fun y hy => h y (List.mem_cons_of_mem _ hy))]
/-- where all nodes are live, the live weight is the weight of all -/
theorem sm_W {K : Nat → Nat} {L : List Nat} (nd : L.Nodup) (hL : ∀ x, x ∈ L ↔ pr_T 0 K x) : pr_sm (fun s => pr_w (K s)) L = pr_W K := by
  have e := pr_rs_list (w := fun s => pr_w (K s)) (lo := 0) (n := 32) nd (fun x hx => ⟨((hL x).mp hx).1, ((hL x).mp hx).2.1⟩)
  rw [← e]
  refine pr_rs_congr fun x _ hx => ?_
  show (if x ∈ L then pr_w (K x) else 0) = pr_w (K x)
  by_cases h : x ∈ L
  · rw [if_pos h]
  · rw [if_neg h]
    by_cases hK : K x = 0
    · rw [hK, pr_w_0 (Or.inl rfl)]
    · exact absurd ((hL x).mpr ⟨by omega, by omega, hK⟩) h
end
section
/-! X: small methods, trees read -/
def tr_at (o w : Nat) (t : pr_PT) (sz kd vl ta tb : Nat → Int32) : Prop :=
  sz w = nI (pt_n t) ∧ ∀ i, i < pt_n t → kd (w * 8 + i) = nI (pt_k t i) ∧ vl (w * 8 + i) = nI (pt_v t i) ∧ ta (w * 8 + i) = pr_oX o (pt_a t i) ∧ tb (w * 8 + i) = pr_oX o (pt_b t i)
theorem nx_8 (w n : Nat) : nI w * 8 + nI n = nI (w * 8 + n) := by
  rw [show (8 : Int32) = nI 8 from rfl, pk_mul, nI_add]
theorem nx_2 (r s : Nat) : nI r * 2 + nI s = nI (r * 2 + s) := by
  rw [show (2 : Int32) = nI 2 from rfl, pk_mul, nI_add]
section XB
variable {f_maxNodes f_maxRules f_ruleCount f_counterexample f_optimized f_nodeCount f_outputCount f_applications : Int32} {a_preRelation a_preVariable a_preConstant a_roomNeeded a_useCount a_treeSize a_treeKind a_treeValue a_treeA a_treeB a_treeResult a_constantValued a_maximal a_counterpart a_boundNode a_pending a_pendingCount a_nodeKind a_nodeValue a_nodeA a_nodeB a_nodeResult a_nodeUses a_outputNode a_seen a_order a_walkStack : Nat → Int32}
variable {post : Int32 → Prop} {w n κ j : Nat} {t : pr_PT}
theorem x_treeOf (r s : Nat) (h : post (nI (r * 2 + s))) : wpX_treeOf post () (nI r) (nI s) := by
  show post ((nI r * 2) + nI s)
  rw [nx_2]
  exact h
theorem x_firstOf (h : post (nI (w * 8))) : wpX_firstOf post () (nI w) := by
  show post (nI w * 8)
  rw [show (8 : Int32) = nI 8 from rfl, pk_mul]
  exact h
theorem x_endOf (hw : w < 34) (e : a_treeSize w = nI n) (h : post (nI (w * 8 + n))) : wpX_endOf post (f_maxNodes, f_maxRules, f_ruleCount, f_counterexample, f_optimized, f_nodeCount, f_outputCount, f_applications, a_preRelation, a_preVariable, a_preConstant, a_roomNeeded, a_useCount, a_treeSize, a_treeKind, a_treeValue, a_treeA, a_treeB, a_treeResult, a_constantValued, a_maximal, a_counterpart, a_boundNode, a_pending, a_pendingCount, a_nodeKind, a_nodeValue, a_nodeA, a_nodeB, a_nodeResult, a_nodeUses, a_outputNode, a_seen, a_order, a_walkStack) (nI w) := by
  show vp_in (nI w) 34 ∧ post ((nI w * 8) + a_treeSize (nI w).toNatClampNeg)
  rw [nI_clamp (by omega), e, nx_8]
  exact ⟨vp_in_nI hw (by omega), h⟩
theorem x_arity (hκ : κ < 2 ^ 31) (h : post (nI (pr_ar κ))) : wpX_arity post () (nI κ) := by
  have hz : ¬ (1 ≤ κ ∧ κ ≤ 8) → wX_arity_13 post (nI κ) := by
    intro hn
    refine pk_eq κ 9 (fun e => ?_) (fun e => pk_eq κ 10 (fun e' => ?_) (fun e' => ?_))
    · rw [pr_ar_1 (Or.inl e)] at h
      exact h
    · rw [pr_ar_1 (Or.inr e')] at h
      exact h
    · rw [pr_ar_0 (by omega)] at h
      exact h
  refine pk_lt κ 1 (fun h1 => hz (by omega)) (fun h1 => pk_lt 8 κ (fun h8 => hz (by omega)) (fun h8 => ?_))
  rw [pr_ar_2 h1 h8] at h
  exact h
theorem x_arity_o {p : Int32} (hp : p < 0 ∨ nI 15 ≤ p) (h : post 0) : wpX_arity post () p := by
  have h9 : ¬ p = 9 := fun e => by
    subst e
    rcases hp with h | h
    · exact absurd h (by decide)
    · exact absurd h (by decide)
  have h10 : ¬ p = 10 := fun e => by
    subst e
    rcases hp with h | h
    · exact absurd h (by decide)
    · exact absurd h (by decide)
  have hz : wX_arity_13 post p := br_f h9 (br_f h10 h)
  rcases hp with hp | hp
  · exact br_t (Int32.lt_trans hp (by decide)) hz
  · have h8 : (8 : Int32) < p := Int32.lt_of_lt_of_le (b := nI 15) (by decide) hp
    by_cases h1 : p < 1
    · exact br_t h1 hz
    · exact br_f h1 (br_t h8 hz)
theorem x_isWord_t (hj : j < 256) (h : post 1) : wpX_isWord post () (nI j) :=
  br_f (nI_pos (by omega)) (pk_lt 255 j (fun h => absurd h (by omega)) (fun _ => h))
theorem x_isWord_f {p : Int32} (hp : p < 0 ∨ nI 256 ≤ p) (h : post 0) : wpX_isWord post () p := by
  by_cases h0 : p < 0
  · exact br_t h0 h
  · refine br_f h0 (br_t ?_ h)
    rcases hp with hp | hp
    · exact absurd hp h0
    · exact Int32.lt_of_lt_of_le (b := nI 256) (by decide) hp
theorem x_isVariable_t (hj : j < 2) (h : post 1) : wpX_isVariable post () (nI j) :=
  br_f (nI_pos (by omega)) (pk_le 2 j (fun h => absurd h (by omega)) (fun _ => h))
theorem x_isVariable_f {p : Int32} (hp : p < 0 ∨ nI 2 ≤ p) (h : post 0) : wpX_isVariable post () p := by
  by_cases h0 : p < 0
  · exact br_t h0 h
  · refine br_f h0 (br_t ?_ h)
    rcases hp with hp | hp
    · exact absurd hp h0
    · exact hp
theorem x_weight (hκ : κ < 2 ^ 31) (h : post (nI (pr_w κ))) : wpX_weight post () (nI κ) := by
  refine pk_eq κ 3 (fun e => ?_) (fun e => x_arity hκ ?_)
  · rw [e] at h
    exact h
  · unfold pr_w at h
    rw [if_neg e] at h
    by_cases hk : 1 ≤ κ ∧ κ ≤ 10
    · rw [if_pos hk] at h
      refine br_f ?_ h
      rw [← nI_0, nI_leI (by rcases pr_ar_c κ with x | x | x <;> omega) (by omega)]
      rcases pr_ar_c κ with x | x | x <;> omega
    · rw [if_neg hk] at h
      rw [pr_ar_0 (by omega)]
      exact br_t (by decide) h
theorem x_compute {a b : Int32} (h1 : 1 ≤ κ) (h10 : κ ≤ 10) (h : post (pr_op κ a b)) : wpX_compute post () (nI κ) a b := by
  unfold pr_op at h
  refine pk_lt κ 1 (fun h => absurd h (by omega)) (fun _ => pk_lt 10 κ (fun h => absurd h (by omega)) (fun _ => ?_))
  refine pk_eq κ 1 (fun e => ?_) (fun n1 => pk_eq κ 2 (fun e => ?_) (fun n2 => pk_eq κ 3 (fun e => ?_) (fun n3 => pk_eq κ 4 (fun e => ?_) (fun n4 => pk_eq κ 5 (fun e => ?_) (fun n5 => pk_eq κ 6 (fun e => ?_) (fun n6 => pk_eq κ 7 (fun e => ?_) (fun n7 => pk_eq κ 8 (fun e => ?_) (fun n8 => pk_eq κ 9 (fun e => ?_) (fun n9 => pk_eq κ 10 (fun e => ?_) (fun n10 => trivial))))))))))
  · rw [if_pos e] at h; exact h
  · rw [if_neg n1, if_pos e] at h; exact h
  · rw [if_neg n1, if_neg n2, if_pos e] at h; exact h
  · rw [if_neg n1, if_neg n2, if_neg n3, if_pos e] at h; exact h
  · rw [if_neg n1, if_neg n2, if_neg n3, if_neg n4, if_pos e] at h; exact h
  · rw [if_neg n1, if_neg n2, if_neg n3, if_neg n4, if_neg n5, if_pos e] at h; exact h
  · rw [if_neg n1, if_neg n2, if_neg n3, if_neg n4, if_neg n5, if_neg n6, if_pos e] at h
    by_cases hb : b < 8
    · rw [if_pos hb] at h
      exact br_f (Int32.not_le.mpr hb) h
    · rw [if_neg hb] at h
      exact br_t (Int32.not_lt.mp hb) h
  · rw [if_neg n1, if_neg n2, if_neg n3, if_neg n4, if_neg n5, if_neg n6, if_neg n7, if_pos e] at h
    by_cases hb : b < 8
    · rw [if_pos hb] at h
      exact br_f (Int32.not_le.mpr hb) h
    · rw [if_neg hb] at h
      exact br_t (Int32.not_lt.mp hb) h
  · rw [if_neg n1, if_neg n2, if_neg n3, if_neg n4, if_neg n5, if_neg n6, if_neg n7, if_neg n8, if_pos e] at h; exact h
  · rw [if_neg n1, if_neg n2, if_neg n3, if_neg n4, if_neg n5, if_neg n6, if_neg n7, if_neg n8, if_neg n9] at h; exact h
theorem x_occurs13 {o : Nat} (hw : w < 34) (ht : pt_n t ≤ 8) (hT : tr_at o w t a_treeSize a_treeKind a_treeValue a_treeA a_treeB) (hk : ∀ i, i < pt_n t → pt_k t i < 100 ∧ pt_v t i < 1000) (hκ : κ < 100) (hj : j < 1000) (h : post (pr_b (pt_has t κ j))) :
    ∀ d i, i + d = pt_n t → pt_hs t κ j i = false → wX_occurs_13 post (nI κ) (nI j) (nI (w * 8 + pt_n t)) f_maxNodes f_maxRules f_ruleCount f_counterexample f_optimized f_nodeCount f_outputCount f_applications a_preRelation a_preVariable a_preConstant a_roomNeeded a_useCount a_treeSize a_treeKind a_treeValue a_treeA a_treeB a_treeResult a_constantValued a_maximal a_counterpart a_boundNode a_pending a_pendingCount a_nodeKind a_nodeValue a_nodeA a_nodeB a_nodeResult a_nodeUses a_outputNode a_seen a_order a_walkStack (d + 1) (nI (w * 8 + i)) := by
  intro d
  induction d with
  | zero =>
    intro i hi hs
    refine pk_le (w * 8 + pt_n t) (w * 8 + i) (fun _ => ?_) (fun h => absurd h (by omega))
    have e : i = pt_n t := by omega
    unfold pt_has at h
    rw [← e, hs] at h
    exact h
  | succ d ih =>
    intro i hi hs
    have hi' : i < pt_n t := by omega
    obtain ⟨e1, e2, _, _⟩ := hT.2 i hi'
    have hk' := hk i hi'
    have hcl : (nI (w * 8 + i)).toNatClampNeg = w * 8 + i := nI_clamp (by omega)
    have hnx : ¬ (pt_k t i = κ ∧ pt_v t i = j) → wX_occurs_13 post (nI κ) (nI j) (nI (w * 8 + pt_n t)) f_maxNodes f_maxRules f_ruleCount f_counterexample f_optimized f_nodeCount f_outputCount f_applications a_preRelation a_preVariable a_preConstant a_roomNeeded a_useCount a_treeSize a_treeKind a_treeValue a_treeA a_treeB a_treeResult a_constantValued a_maximal a_counterpart a_boundNode a_pending a_pendingCount a_nodeKind a_nodeValue a_nodeA a_nodeB a_nodeResult a_nodeUses a_outputNode a_seen a_order a_walkStack (d + 1) (nI (w * 8 + i) + 1) := by
      intro hx
      rw [nI_1]
      refine ih (i + 1) (by omega) ?_
      show (pt_hs t κ j i || (decide (pt_k t i = κ) && decide (pt_v t i = j))) = false
      rw [hs, Bool.false_or, Bool.and_eq_false_iff, decide_eq_false_iff_not, decide_eq_false_iff_not]
      by_cases h1 : pt_k t i = κ
      · exact Or.inr fun h2 => hx ⟨h1, h2⟩
      · exact Or.inl h1
    refine pk_le (w * 8 + pt_n t) (w * 8 + i) (fun h => absurd h (by omega)) (fun _ => ⟨pk_in (w * 8 + i) 272 (by omega), ?_⟩)
    rw [hcl, e1]
    refine pk_eq (pt_k t i) κ (fun h1 => ⟨pk_in (w * 8 + i) 272 (by omega), ?_⟩) (fun h1 => nm_e (hnx fun hx => h1 hx.1))
    rw [e2]
    refine pk_eq (pt_v t i) j (fun h2 => ?_) (fun h2 => nm_e (hnx fun hx => h2 hx.2))
    rw [pt_has_t.mpr ⟨i, hi', h1, h2⟩] at h
    exact h
theorem pt_sm (ht : pt_ok t) : ∀ i, i < pt_n t → pt_k t i < 100 ∧ pt_v t i < 1000 := by
  intro i hi
  obtain ⟨h1, h2, h3, h4, _⟩ := ht.2 i hi
  refine ⟨by omega, ?_⟩
  by_cases h : pt_k t i ≤ 10
  · have := h4 h
    omega
  · by_cases h' : pt_k t i = 11
    · have := h2 h'
      omega
    · have := h3 (by omega)
      omega
theorem x_occurs {o : Nat} (hw : w < 34) (ht : pt_ok t) (hT : tr_at o w t a_treeSize a_treeKind a_treeValue a_treeA a_treeB) (hκ : κ < 100) (hj : j < 1000) (h : post (pr_b (pt_has t κ j))) : wpX_occurs post (f_maxNodes, f_maxRules, f_ruleCount, f_counterexample, f_optimized, f_nodeCount, f_outputCount, f_applications, a_preRelation, a_preVariable, a_preConstant, a_roomNeeded, a_useCount, a_treeSize, a_treeKind, a_treeValue, a_treeA, a_treeB, a_treeResult, a_constantValued, a_maximal, a_counterpart, a_boundNode, a_pending, a_pendingCount, a_nodeKind, a_nodeValue, a_nodeA, a_nodeB, a_nodeResult, a_nodeUses, a_outputNode, a_seen, a_order, a_walkStack) (nI w) (nI κ) (nI j) := by
  unfold wpX_occurs
  refine x_endOf hw hT.1 ?_
  refine x_firstOf ⟨pt_n t + 1, ?_⟩
  exact x_occurs13 hw ht.1 hT (pt_sm ht) hκ hj h (pt_n t) 0 (by omega) rfl
end XB
end
section
/-! X: trees evaluated, marked, weighed -/
section XC
variable {f_maxNodes f_maxRules f_ruleCount f_counterexample f_optimized f_nodeCount f_outputCount f_applications : Int32} {a_preRelation a_preVariable a_preConstant a_roomNeeded a_useCount a_treeSize a_treeKind a_treeValue a_treeA a_treeB a_treeResult a_constantValued a_maximal a_counterpart a_boundNode a_pending a_pendingCount a_nodeKind a_nodeValue a_nodeA a_nodeB a_nodeResult a_nodeUses a_outputNode a_seen a_order a_walkStack : Nat → Int32}
variable {post : Int32 → St2 → Prop} {w : Nat} {t : pr_PT} {v0 v1 : Int32}
theorem x_evaluateTree13 (hw : w < 34) (ht : pt_ok t) (h0 : 0 < pt_n t) (hT : tr_at (w * 8) w t a_treeSize a_treeKind a_treeValue a_treeA a_treeB) (h : ∀ tr', (∀ q, q < pt_n t → tr' (w * 8 + q) = pt_tv t v0 v1 q) → post (pt_tv t v0 v1 (pt_n t - 1)) (f_maxNodes, f_maxRules, f_ruleCount, f_counterexample, f_optimized, f_nodeCount, f_outputCount, f_applications, a_preRelation, a_preVariable, a_preConstant, a_roomNeeded, a_useCount, a_treeSize, a_treeKind, a_treeValue, a_treeA, a_treeB, tr', a_constantValued, a_maximal, a_counterpart, a_boundNode, a_pending, a_pendingCount, a_nodeKind, a_nodeValue, a_nodeA, a_nodeB, a_nodeResult, a_nodeUses, a_outputNode, a_seen, a_order, a_walkStack)) :
    ∀ d i tr, i + d = pt_n t → (∀ q, q < i → tr (w * 8 + q) = pt_tv t v0 v1 q) → wX_evaluateTree_13 post v0 v1 (nI (w * 8 + pt_n t)) f_maxNodes f_maxRules f_ruleCount f_counterexample f_optimized f_nodeCount f_outputCount f_applications (d + 1) (nI (w * 8 + i)) a_preRelation a_preVariable a_preConstant a_roomNeeded a_useCount a_treeSize a_treeKind a_treeValue a_treeA a_treeB tr a_constantValued a_maximal a_counterpart a_boundNode a_pending a_pendingCount a_nodeKind a_nodeValue a_nodeA a_nodeB a_nodeResult a_nodeUses a_outputNode a_seen a_order a_walkStack := by
  intro d
  have h8 := ht.1
  induction d with
  | zero =>
    intro i tr hi hq
    refine pk_le (w * 8 + pt_n t) (w * 8 + i) (fun _ => ?_) (fun h => absurd h (by omega))
    rw [pr_s1 (by omega), show w * 8 + pt_n t - 1 = w * 8 + (pt_n t - 1) by omega]
    refine ⟨pk_in (w * 8 + (pt_n t - 1)) 272 (by omega), ?_⟩
    rw [nI_clamp (by omega), hq _ (by omega)]
    exact h tr fun q hq' => hq q (by omega)
  | succ d ih =>
    intro i tr hi hq
    have hi' : i < pt_n t := by omega
    obtain ⟨e1, e2, e3, e4⟩ := hT.2 i hi'
    have hn := ht.2 i hi'
    have h9 := hn.2.2.2.2.2.2.2.2.1
    have hs := pt_sm ht i hi'
    have hcl : (nI (w * 8 + i)).toNatClampNeg = w * 8 + i := nI_clamp (by omega)
    have hnx : ∀ x : Int32, x = pt_tv t v0 v1 i → wX_evaluateTree_13 post v0 v1 (nI (w * 8 + pt_n t)) f_maxNodes f_maxRules f_ruleCount f_counterexample f_optimized f_nodeCount f_outputCount f_applications (d + 1) (nI (w * 8 + i) + 1) a_preRelation a_preVariable a_preConstant a_roomNeeded a_useCount a_treeSize a_treeKind a_treeValue a_treeA a_treeB (upd tr (w * 8 + i) x) a_constantValued a_maximal a_counterpart a_boundNode a_pending a_pendingCount a_nodeKind a_nodeValue a_nodeA a_nodeB a_nodeResult a_nodeUses a_outputNode a_seen a_order a_walkStack := by
      intro x hx
      rw [nI_1]
      refine ih (i + 1) _ (by omega) fun q hq' => ?_
      by_cases e : q = i
      · rw [e, pk_us, hx]
      · rw [pk_un (by omega)]
        exact hq q (by omega)
    have heq := pt_tv_eq (v0 := v0) (v1 := v1) ht hi'
    unfold pt_vF at heq
    have hin : vp_in (nI (w * 8 + i)) 272 := pk_in (w * 8 + i) 272 (by omega)
    refine pk_le (w * 8 + pt_n t) (w * 8 + i) (fun h => absurd h (by omega)) (fun _ => ⟨hin, ?_⟩)
    rw [hcl]
    refine nm_r e1 ?_
    have h1314 : 13 ≤ pt_k t i → wX_evaluateTree_67 post (wX_evaluateTree_13 post v0 v1 (nI (w * 8 + pt_n t)) f_maxNodes f_maxRules f_ruleCount f_counterexample f_optimized f_nodeCount f_outputCount f_applications (d + 1)) v0 v1 (nI (w * 8 + pt_n t)) (nI (w * 8 + i)) f_maxNodes f_maxRules f_ruleCount f_counterexample f_optimized f_nodeCount f_outputCount f_applications a_preRelation a_preVariable a_preConstant a_roomNeeded a_useCount a_treeSize a_treeKind a_treeValue a_treeA a_treeB tr a_constantValued a_maximal a_counterpart a_boundNode a_pending a_pendingCount a_nodeKind a_nodeValue a_nodeA a_nodeB a_nodeResult a_nodeUses a_outputNode a_seen a_order a_walkStack := by
      intro h13
      rw [if_neg (by omega), if_pos h13] at heq
      refine ⟨hin, ?_⟩
      rw [hcl, e2]
      refine pk_eq (pt_v t i) 0 (fun e => ⟨hin, ?_⟩) (fun e => ⟨hin, ?_⟩)
      · rw [if_pos e] at heq
        exact nm_e (nm_e (hnx _ heq.symm))
      · rw [if_neg e] at heq
        exact nm_e (nm_e (hnx _ heq.symm))
    refine pk_eq (pt_k t i) 11 (fun e => ⟨hin, hin, ?_⟩) (fun n11 => pk_eq (pt_k t i) 13 (fun e => h1314 (by omega)) (fun n13 => pk_eq (pt_k t i) 14 (fun e => h1314 (by omega)) (fun n14 => ⟨hin, ?_⟩)))
    · rw [if_pos e] at heq
      rw [e2]
      exact nm_e (nm_e (hnx _ heq.symm))
    · have hk : pt_k t i ≤ 10 := by have := hn.1; omega
      rw [if_neg n11, if_neg (by omega)] at heq
      obtain ⟨ca, hca⟩ := hn.2.2.2.2.2.2.1 hk
      have hca' := h9 ca (Or.inl hca)
      have eA : a_treeA (w * 8 + i) = nI (w * 8 + ca) := by
        rw [e3, hca]
        rfl
      rw [hca] at heq
      by_cases hb : pt_k t i ≤ 8
      · obtain ⟨cb, hcb⟩ := hn.2.2.2.2.2.2.2.1 hb
        have hcb' := h9 cb (Or.inr hcb)
        have eB : a_treeB (w * 8 + i) = nI (w * 8 + cb) := by
          rw [e4, hcb]
          rfl
        rw [hcb] at heq
        rw [eB]
        refine br_f (pr_ne1 (by omega)) ⟨hin, pk_in (w * 8 + cb) 272 (by omega), ?_⟩
        rw [nI_clamp (n := w * 8 + cb) (by omega)]
        refine ⟨hin, ?_⟩
        rw [hcl, eA, nI_clamp (n := w * 8 + ca) (by omega)]
        refine ⟨pk_in (w * 8 + ca) 272 (by omega), x_compute hn.1.1 hk ⟨hin, ?_⟩⟩
        refine nm_e (nm_e (hnx _ ?_))
        rw [heq, hq ca (by omega), hq cb (by omega)]
        rfl
      · have eB : a_treeB (w * 8 + i) = -1 := by
          rw [e4, hn.2.2.2.2.2.1 (by omega)]
          rfl
        rw [hn.2.2.2.2.2.1 (by omega)] at heq
        rw [eB]
        refine br_t rfl ⟨hin, ?_⟩
        rw [hcl, eA, nI_clamp (n := w * 8 + ca) (by omega)]
        refine ⟨pk_in (w * 8 + ca) 272 (by omega), x_compute hn.1.1 hk ⟨hin, ?_⟩⟩
        refine nm_e (nm_e (hnx _ ?_))
        rw [heq, hq ca (by omega)]
        rfl
theorem x_evaluateTree (hw : w < 34) (ht : pt_ok t) (h0 : 0 < pt_n t) (hT : tr_at (w * 8) w t a_treeSize a_treeKind a_treeValue a_treeA a_treeB) (h : ∀ tr', (∀ q, q < pt_n t → tr' (w * 8 + q) = pt_tv t v0 v1 q) → post (pt_tv t v0 v1 (pt_n t - 1)) (f_maxNodes, f_maxRules, f_ruleCount, f_counterexample, f_optimized, f_nodeCount, f_outputCount, f_applications, a_preRelation, a_preVariable, a_preConstant, a_roomNeeded, a_useCount, a_treeSize, a_treeKind, a_treeValue, a_treeA, a_treeB, tr', a_constantValued, a_maximal, a_counterpart, a_boundNode, a_pending, a_pendingCount, a_nodeKind, a_nodeValue, a_nodeA, a_nodeB, a_nodeResult, a_nodeUses, a_outputNode, a_seen, a_order, a_walkStack)) :
    wpX_evaluateTree post (f_maxNodes, f_maxRules, f_ruleCount, f_counterexample, f_optimized, f_nodeCount, f_outputCount, f_applications, a_preRelation, a_preVariable, a_preConstant, a_roomNeeded, a_useCount, a_treeSize, a_treeKind, a_treeValue, a_treeA, a_treeB, a_treeResult, a_constantValued, a_maximal, a_counterpart, a_boundNode, a_pending, a_pendingCount, a_nodeKind, a_nodeValue, a_nodeA, a_nodeB, a_nodeResult, a_nodeUses, a_outputNode, a_seen, a_order, a_walkStack) (nI w) v0 v1 := by
  unfold wpX_evaluateTree
  refine x_endOf hw hT.1 ?_
  refine x_firstOf ⟨pt_n t + 1, ?_⟩
  exact x_evaluateTree13 hw ht h0 hT h (pt_n t) 0 a_treeResult (by omega) (fun q hq => absurd hq (by omega))
end XC
section XD
variable {f_maxNodes f_maxRules f_ruleCount f_counterexample f_optimized f_nodeCount f_outputCount f_applications : Int32} {a_preRelation a_preVariable a_preConstant a_roomNeeded a_useCount a_treeSize a_treeKind a_treeValue a_treeA a_treeB a_treeResult a_constantValued a_maximal a_counterpart a_boundNode a_pending a_pendingCount a_nodeKind a_nodeValue a_nodeA a_nodeB a_nodeResult a_nodeUses a_outputNode a_seen a_order a_walkStack : Nat → Int32}
variable {post : St2 → Prop} {r wp w : Nat} {p t : pr_PT} {C : Nat → Bool}
theorem x_markConst25 (hwp : wp < 34) (hw : w < 34) (hp : pt_ok p) (ht : pt_ok t) (h14 : ∀ i, i < pt_n t → pt_k t i ≠ 14) (hC : C = pt_has p 14) (hP : tr_at (wp * 8) wp p a_treeSize a_treeKind a_treeValue a_treeA a_treeB) (hT : tr_at (w * 8) w t a_treeSize a_treeKind a_treeValue a_treeA a_treeB)
    (h : ∀ cv', (∀ q, q < pt_n t → cv' (w * 8 + q) = pr_b (pt_cv t C q)) → (∀ q, q < w * 8 ∨ w * 8 + pt_n t ≤ q → cv' q = a_constantValued q) → post (f_maxNodes, f_maxRules, f_ruleCount, f_counterexample, f_optimized, f_nodeCount, f_outputCount, f_applications, a_preRelation, a_preVariable, a_preConstant, a_roomNeeded, a_useCount, a_treeSize, a_treeKind, a_treeValue, a_treeA, a_treeB, a_treeResult, cv', a_maximal, a_counterpart, a_boundNode, a_pending, a_pendingCount, a_nodeKind, a_nodeValue, a_nodeA, a_nodeB, a_nodeResult, a_nodeUses, a_outputNode, a_seen, a_order, a_walkStack)) :
    ∀ d i cv, i + d = pt_n t → (∀ q, q < i → cv (w * 8 + q) = pr_b (pt_cv t C q)) → (∀ q, q < w * 8 ∨ w * 8 + pt_n t ≤ q → cv q = a_constantValued q) → wX_markConstantValued_25 post (nI wp) (nI (w * 8 + pt_n t)) f_maxNodes f_maxRules f_ruleCount f_counterexample f_optimized f_nodeCount f_outputCount f_applications (d + 1) (nI (w * 8 + i)) a_preRelation a_preVariable a_preConstant a_roomNeeded a_useCount a_treeSize a_treeKind a_treeValue a_treeA a_treeB a_treeResult cv a_maximal a_counterpart a_boundNode a_pending a_pendingCount a_nodeKind a_nodeValue a_nodeA a_nodeB a_nodeResult a_nodeUses a_outputNode a_seen a_order a_walkStack := by
  intro d
  have h8 := ht.1
  induction d with
  | zero =>
    intro i cv hi hq hq2
    refine pk_le (w * 8 + pt_n t) (w * 8 + i) (fun _ => ?_) (fun h => absurd h (by omega))
    exact h cv (fun q hq' => hq q (by omega)) hq2
  | succ d ih =>
    intro i cv hi hq hq2
    have hi' : i < pt_n t := by omega
    obtain ⟨e1, e2, e3, e4⟩ := hT.2 i hi'
    have hn := ht.2 i hi'
    have h9 := hn.2.2.2.2.2.2.2.2.1
    have hs := pt_sm ht i hi'
    have hcl : (nI (w * 8 + i)).toNatClampNeg = w * 8 + i := nI_clamp (by omega)
    have hnx : ∀ x : Int32, x = pr_b (pt_cv t C i) → wX_markConstantValued_25 post (nI wp) (nI (w * 8 + pt_n t)) f_maxNodes f_maxRules f_ruleCount f_counterexample f_optimized f_nodeCount f_outputCount f_applications (d + 1) (nI (w * 8 + i) + 1) a_preRelation a_preVariable a_preConstant a_roomNeeded a_useCount a_treeSize a_treeKind a_treeValue a_treeA a_treeB a_treeResult (upd cv (w * 8 + i) x) a_maximal a_counterpart a_boundNode a_pending a_pendingCount a_nodeKind a_nodeValue a_nodeA a_nodeB a_nodeResult a_nodeUses a_outputNode a_seen a_order a_walkStack := by
      intro x hx
      rw [nI_1]
      refine ih (i + 1) _ (by omega) (fun q hq' => ?_) (fun q hq' => ?_)
      · by_cases e : q = i
        · rw [e, pk_us, hx]
        · rw [pk_un (by omega)]
          exact hq q (by omega)
      · rw [pk_un (by omega)]
        exact hq2 q hq'
    have heq := pt_cv_eq (C := C) ht hi'
    unfold pt_cF at heq
    have hin : vp_in (nI (w * 8 + i)) 272 := pk_in (w * 8 + i) 272 (by omega)
    refine pk_le (w * 8 + pt_n t) (w * 8 + i) (fun h => absurd h (by omega)) (fun _ => ⟨hin, ?_⟩)
    rw [hcl, e1]
    refine pk_eq (pt_k t i) 13 (fun e => ⟨hin, ?_⟩) (fun n13 => ⟨hin, ?_⟩)
    · rw [e2]
      refine x_occurs hwp hp hP (by decide) hs.2 ⟨hin, ?_⟩
      rw [pr_nb]
      rw [if_pos e] at heq
      exact nm_e (nm_e (hnx _ (by rw [heq, hC])))
    · rw [if_neg n13] at heq
      have h100 : (pr_ob (pt_cv t C) (pt_a t i) = true) → wX_markConstantValued_100 post (wX_markConstantValued_25 post (nI wp) (nI (w * 8 + pt_n t)) f_maxNodes f_maxRules f_ruleCount f_counterexample f_optimized f_nodeCount f_outputCount f_applications (d + 1)) (nI wp) (nI (w * 8 + pt_n t)) (nI (w * 8 + i)) (nI (w * 8 + i)) f_maxNodes f_maxRules f_ruleCount f_counterexample f_optimized f_nodeCount f_outputCount f_applications a_preRelation a_preVariable a_preConstant a_roomNeeded a_useCount a_treeSize a_treeKind a_treeValue a_treeA a_treeB a_treeResult cv a_maximal a_counterpart a_boundNode a_pending a_pendingCount a_nodeKind a_nodeValue a_nodeA a_nodeB a_nodeResult a_nodeUses a_outputNode a_seen a_order a_walkStack := by
        intro ha
        rw [ha, Bool.true_and] at heq
        refine ⟨hin, ?_⟩
        rw [hcl, e4]
        cases hb : pt_b t i with
        | none =>
          rw [hb] at heq
          refine br_t rfl ⟨hin, ?_⟩
          skip
          exact nm_e (nm_e (hnx _ (by rw [heq]; rfl)))
        | some cb =>
          rw [hb] at heq
          have hcb := h9 cb (Or.inr hb)
          show _ ∧ _
          refine br_f (pr_ne1 (by omega)) ⟨hin, pk_in (w * 8 + cb) 272 (by omega), ?_⟩
          rw [show (pr_oX (w * 8) (some cb)).toNatClampNeg = w * 8 + cb from nI_clamp (by omega), hq cb (by omega)]
          replace heq : pt_cv t C i = pt_cv t C cb := heq
          rw [← heq]
          refine br_c (fun h0 => ⟨hin, ?_⟩) (fun h0 => ⟨hin, ?_⟩)
          · skip
            exact nm_e (nm_e (hnx _ h0.symm))
          · skip
            refine nm_e (nm_e (hnx _ ?_))
            cases hx : pt_cv t C i with
            | true => rfl
            | false => rw [hx] at h0; exact absurd rfl h0
      rw [e3]
      cases ha : pt_a t i with
      | none => exact br_t rfl (h100 (by rw [ha]; rfl))
      | some ca =>
        have hca := h9 ca (Or.inl ha)
        refine br_f (pr_ne1 (by omega)) ⟨hin, pk_in (w * 8 + ca) 272 (by omega), ?_⟩
        rw [show (pr_oX (w * 8) (some ca)).toNatClampNeg = w * 8 + ca from nI_clamp (by omega), hq ca (by omega)]
        refine br_c (fun h0 => ⟨hin, ?_⟩) (fun h0 => h100 ?_)
        · skip
          rw [ha] at heq
          refine nm_e (nm_e (hnx _ ?_))
          replace heq : pt_cv t C i = (pt_cv t C ca && pr_ob (pt_cv t C) (pt_b t i)) := heq
          rw [(pr_b0 _).mp h0, Bool.false_and] at heq
          rw [heq]
          rfl
        · rw [ha]
          show pt_cv t C ca = true
          cases hx : pt_cv t C ca with
          | true => rfl
          | false => rw [hx] at h0; exact absurd rfl h0
theorem x_markConst (hr : r < 17) (hp : pt_ok p) (ht : pt_ok t) (h14 : ∀ i, i < pt_n t → pt_k t i ≠ 14) (hC : C = pt_has p 14) (hP : tr_at ((r * 2 + 0) * 8) (r * 2 + 0) p a_treeSize a_treeKind a_treeValue a_treeA a_treeB) (hT : tr_at ((r * 2 + 1) * 8) (r * 2 + 1) t a_treeSize a_treeKind a_treeValue a_treeA a_treeB)
    (h : ∀ cv', (∀ q, q < pt_n t → cv' ((r * 2 + 1) * 8 + q) = pr_b (pt_cv t C q)) → (∀ q, q < (r * 2 + 1) * 8 ∨ (r * 2 + 1) * 8 + pt_n t ≤ q → cv' q = a_constantValued q) → post (f_maxNodes, f_maxRules, f_ruleCount, f_counterexample, f_optimized, f_nodeCount, f_outputCount, f_applications, a_preRelation, a_preVariable, a_preConstant, a_roomNeeded, a_useCount, a_treeSize, a_treeKind, a_treeValue, a_treeA, a_treeB, a_treeResult, cv', a_maximal, a_counterpart, a_boundNode, a_pending, a_pendingCount, a_nodeKind, a_nodeValue, a_nodeA, a_nodeB, a_nodeResult, a_nodeUses, a_outputNode, a_seen, a_order, a_walkStack)) :
    wpX_markConstantValued post (f_maxNodes, f_maxRules, f_ruleCount, f_counterexample, f_optimized, f_nodeCount, f_outputCount, f_applications, a_preRelation, a_preVariable, a_preConstant, a_roomNeeded, a_useCount, a_treeSize, a_treeKind, a_treeValue, a_treeA, a_treeB, a_treeResult, a_constantValued, a_maximal, a_counterpart, a_boundNode, a_pending, a_pendingCount, a_nodeKind, a_nodeValue, a_nodeA, a_nodeB, a_nodeResult, a_nodeUses, a_outputNode, a_seen, a_order, a_walkStack) (nI r) := by
  unfold wpX_markConstantValued
  refine x_treeOf r 0 ?_
  refine x_treeOf r 1 ?_
  refine x_endOf (by omega) hT.1 ?_
  refine x_firstOf ⟨pt_n t + 1, ?_⟩
  exact x_markConst25 (by omega) (by omega) hp ht h14 hC hP hT h (pt_n t) 0 a_constantValued (by omega) (fun q hq => absurd hq (by omega)) (fun q _ => rfl)
end XD
end
section
/-! X: maximal marks, weights, room -/
theorem nx_m1 (a i : Nat) : nI (a + (i + 1)) + (-1) = nI (a + i) := pk_m1 (a + i)
theorem nx_lt {a : Nat} (h : a < 2 ^ 30) : nI a + (-1) < nI a := by
  rw [Int32.lt_iff_toInt_lt, Int32.toInt_add, nI_toInt (by omega), show ((-1 : Int32)).toInt = -1 from by decide, Int.bmod_eq_of_le (by omega) (by omega)]
  omega
def mx_on (w : Nat) (t : pr_PT) (C : Nat → Bool) (S : Nat → Prop) (mx : Nat → Int32) : Prop := ∀ q, q < pt_n t → S q → mx (w * 8 + q) = pr_b (pt_mx t C q)
theorem mx_up {w : Nat} {t : pr_PT} {C : Nat → Bool} {S S' : Nat → Prop} {mx : Nat → Int32} {c : Nat} {x : Int32} (h : mx_on w t C S mx) (hx : x = pr_b (pt_mx t C c)) (hS : ∀ q, q < pt_n t → S' q → q = c ∨ S q) : mx_on w t C S' (upd mx (w * 8 + c) x) := by
  intro q hq hs
  by_cases e : q = c
  · rw [e, pk_us, hx]
  · rw [pk_un (by omega)]
    rcases hS q hq hs with h' | h'
    · exact absurd h' e
    · exact h q hq h'
theorem mx_v {t : pr_PT} {C : Nat → Bool} {c i : Nat} (h : pt_p t c = some i) : pt_mx t C c = (pt_cv t C c && !pt_cv t C i) := by
  unfold pt_mx
  rw [h]
section XE
variable {f_maxNodes f_maxRules f_ruleCount f_counterexample f_optimized f_nodeCount f_outputCount f_applications : Int32} {a_preRelation a_preVariable a_preConstant a_roomNeeded a_useCount a_treeSize a_treeKind a_treeValue a_treeA a_treeB a_treeResult a_constantValued a_maximal a_counterpart a_boundNode a_pending a_pendingCount a_nodeKind a_nodeValue a_nodeA a_nodeB a_nodeResult a_nodeUses a_outputNode a_seen a_order a_walkStack : Nat → Int32}
variable {post : St2 → Prop} {r w : Nat} {t : pr_PT} {C : Nat → Bool}
theorem x_markMax33 (hw1 : 1 ≤ w) (hw : w < 34) (ht : pt_ok t) (hf : pt_fin t) (hT : tr_at (w * 8) w t a_treeSize a_treeKind a_treeValue a_treeA a_treeB) (hcv : ∀ q, q < pt_n t → a_constantValued (w * 8 + q) = pr_b (pt_cv t C q))
    (h : ∀ mx', (∀ q, q < pt_n t → mx' (w * 8 + q) = pr_b (pt_mx t C q)) → (∀ q, q < w * 8 ∨ w * 8 + pt_n t ≤ q → mx' q = a_maximal q) → post (f_maxNodes, f_maxRules, f_ruleCount, f_counterexample, f_optimized, f_nodeCount, f_outputCount, f_applications, a_preRelation, a_preVariable, a_preConstant, a_roomNeeded, a_useCount, a_treeSize, a_treeKind, a_treeValue, a_treeA, a_treeB, a_treeResult, a_constantValued, mx', a_counterpart, a_boundNode, a_pending, a_pendingCount, a_nodeKind, a_nodeValue, a_nodeA, a_nodeB, a_nodeResult, a_nodeUses, a_outputNode, a_seen, a_order, a_walkStack)) :
    ∀ i mx, i ≤ pt_n t → mx_on w t C (pm_as t i) mx → (∀ q, q < w * 8 ∨ w * 8 + pt_n t ≤ q → mx q = a_maximal q) → wX_markMaximal_33 post (nI w) f_maxNodes f_maxRules f_ruleCount f_counterexample f_optimized f_nodeCount f_outputCount f_applications (i + 1) (nI (w * 8 + i) + (-1)) a_preRelation a_preVariable a_preConstant a_roomNeeded a_useCount a_treeSize a_treeKind a_treeValue a_treeA a_treeB a_treeResult a_constantValued mx a_counterpart a_boundNode a_pending a_pendingCount a_nodeKind a_nodeValue a_nodeA a_nodeB a_nodeResult a_nodeUses a_outputNode a_seen a_order a_walkStack := by
  intro i
  have h8 := ht.1
  induction i with
  | zero =>
    intro mx hi hm hq2
    unfold wX_markMaximal_33
    refine x_firstOf (br_t (nx_lt (a := w * 8) (by omega)) ?_)
    refine h mx (fun q hq => hm q hq ?_) hq2
    by_cases e : q + 1 = pt_n t
    · exact Or.inl e
    · obtain ⟨x, hx⟩ := hf.2.2 q (by omega)
      have := (ht.2 q hq).2.2.2.2.2.2.2.2.2.2 x hx
      exact Or.inr ⟨x, by omega, this.2.1, hx⟩
  | succ i ih =>
    intro mx hi hm hq2
    have hi' : i < pt_n t := by omega
    obtain ⟨e1, e2, e3, e4⟩ := hT.2 i hi'
    have hn := ht.2 i hi'
    have h9 := hn.2.2.2.2.2.2.2.2.1
    have hcl : (nI (w * 8 + i)).toNatClampNeg = w * 8 + i := nI_clamp (by omega)
    have hin : vp_in (nI (w * 8 + i)) 272 := pk_in (w * 8 + i) 272 (by omega)
    have h95 : ∀ mx, mx_on w t C (fun q => pm_as t (i + 1) q ∨ pt_a t i = some q) mx → (∀ q, q < w * 8 ∨ w * 8 + pt_n t ≤ q → mx q = a_maximal q) → wX_markMaximal_95 post (wX_markMaximal_33 post (nI w) f_maxNodes f_maxRules f_ruleCount f_counterexample f_optimized f_nodeCount f_outputCount f_applications (i + 1)) (nI w) (nI (w * 8 + i)) f_maxNodes f_maxRules f_ruleCount f_counterexample f_optimized f_nodeCount f_outputCount f_applications a_preRelation a_preVariable a_preConstant a_roomNeeded a_useCount a_treeSize a_treeKind a_treeValue a_treeA a_treeB a_treeResult a_constantValued mx a_counterpart a_boundNode a_pending a_pendingCount a_nodeKind a_nodeValue a_nodeA a_nodeB a_nodeResult a_nodeUses a_outputNode a_seen a_order a_walkStack := by
      intro mx hm hq2
      refine ⟨hin, ?_⟩
      rw [hcl, e4]
      cases hb : pt_b t i with
      | none =>
        refine br_t rfl (nm_e (ih mx (by omega) (fun q hq hs => hm q hq ?_) hq2))
        rcases pm_as_s hs with x | x
        · exact Or.inl x
        · rcases ((ht.2 q hq).2.2.2.2.2.2.2.2.2.2 i x).2.2 with y | y
          · exact Or.inr y
          · rw [hb] at y
            cases y
      | some cb =>
        have hcb := h9 cb (Or.inr hb)
        have hcin : vp_in (pr_oX (w * 8) (some cb)) 272 := pk_in (w * 8 + cb) 272 (by omega)
        have hccl : (pr_oX (w * 8) (some cb)).toNatClampNeg = w * 8 + cb := nI_clamp (by omega)
        have fin : ∀ x : Int32, x = pr_b (pt_mx t C cb) → wX_markMaximal_33 post (nI w) f_maxNodes f_maxRules f_ruleCount f_counterexample f_optimized f_nodeCount f_outputCount f_applications (i + 1) (nI (w * 8 + i) + (-1)) a_preRelation a_preVariable a_preConstant a_roomNeeded a_useCount a_treeSize a_treeKind a_treeValue a_treeA a_treeB a_treeResult a_constantValued (upd mx (w * 8 + cb) x) a_counterpart a_boundNode a_pending a_pendingCount a_nodeKind a_nodeValue a_nodeA a_nodeB a_nodeResult a_nodeUses a_outputNode a_seen a_order a_walkStack := by
          intro x hx
          refine ih _ (by omega) (mx_up hm hx fun q hq hs => ?_) (fun q hq => ?_)
          · rcases pm_as_s hs with y | y
            · exact Or.inr (Or.inl y)
            · rcases ((ht.2 q hq).2.2.2.2.2.2.2.2.2.2 i y).2.2 with z | z
              · exact Or.inr (Or.inr z)
              · rw [hb] at z
                cases z
                exact Or.inl rfl
          · rw [pk_un (by omega)]
            exact hq2 q hq
        refine br_f (pr_ne1 (by omega)) ⟨hin, hin, ?_⟩
        rw [hccl, hcv i hi', hcv cb (by omega)]
        have hv := mx_v (C := C) hcb.2
        refine br_c (fun h0 => ⟨hin, hcin, ?_⟩) (fun h0 => ⟨hcin, ?_⟩)
        · rw [(pr_b0 _).mp h0, Bool.not_false, Bool.and_true] at hv
          refine br_c (fun h1 => ⟨hcin, ?_⟩) (fun h1 => ⟨hcin, ?_⟩)
          · skip
            exact nm_e (nm_e (fin _ (by rw [hv]; exact h1.symm)))
          · skip
            refine nm_e (nm_e (fin _ ?_))
            rw [hv]
            cases hx : pt_cv t C cb with
            | true => rfl
            | false => rw [hx] at h1; exact absurd rfl h1
        · skip
          refine nm_e (nm_e (fin _ ?_))
          cases hx : pt_cv t C i with
          | true => rw [hv, hx, Bool.not_true, Bool.and_false]; rfl
          | false => rw [hx] at h0; exact absurd rfl h0
    rw [nx_m1]
    unfold wX_markMaximal_33
    refine x_firstOf ?_
    refine pk_lt (w * 8 + i) (w * 8) (fun h => absurd h (by omega)) (fun _ => ⟨hin, ?_⟩)
    rw [hcl, e3]
    cases ha : pt_a t i with
    | none =>
      refine br_t rfl (h95 mx (fun q hq hs => hm q hq ?_) hq2)
      rcases hs with x | x
      · exact x
      · rw [ha] at x
        cases x
    | some ca =>
      have hca := h9 ca (Or.inl ha)
      have hcin : vp_in (pr_oX (w * 8) (some ca)) 272 := pk_in (w * 8 + ca) 272 (by omega)
      have hccl : (pr_oX (w * 8) (some ca)).toNatClampNeg = w * 8 + ca := nI_clamp (by omega)
      have fin : ∀ x : Int32, vp_nar .boolean x = pr_b (pt_mx t C ca) → wX_markMaximal_94 post (wX_markMaximal_33 post (nI w) f_maxNodes f_maxRules f_ruleCount f_counterexample f_optimized f_nodeCount f_outputCount f_applications (i + 1)) (nI w) (nI (w * 8 + i)) x (pr_oX (w * 8) (some ca)) f_maxNodes f_maxRules f_ruleCount f_counterexample f_optimized f_nodeCount f_outputCount f_applications a_preRelation a_preVariable a_preConstant a_roomNeeded a_useCount a_treeSize a_treeKind a_treeValue a_treeA a_treeB a_treeResult a_constantValued mx a_counterpart a_boundNode a_pending a_pendingCount a_nodeKind a_nodeValue a_nodeA a_nodeB a_nodeResult a_nodeUses a_outputNode a_seen a_order a_walkStack := by
        intro x hx
        refine ⟨hcin, ?_⟩
        rw [hccl]
        refine nm_e (h95 _ (mx_up hm hx fun q _ hs => ?_) (fun q hq => ?_))
        · rcases hs with y | y
          · exact Or.inr y
          · rw [ha] at y
            cases y
            exact Or.inl rfl
        · rw [pk_un (by omega)]
          exact hq2 q hq
      refine br_f (pr_ne1 (by omega)) ⟨hin, hin, ?_⟩
      rw [hccl, hcv i hi', hcv ca (by omega)]
      have hv := mx_v (C := C) hca.2
      refine br_c (fun h0 => ⟨hin, hcin, ?_⟩) (fun h0 => ?_)
      · rw [(pr_b0 _).mp h0, Bool.not_false, Bool.and_true] at hv
        refine br_c (fun h1 => fin 0 ?_) (fun h1 => fin 1 ?_)
        · rw [pr_vb0, hv]
          exact h1.symm
        · rw [pr_vb1, hv]
          cases hx : pt_cv t C ca with
          | true => rfl
          | false => rw [hx] at h1; exact absurd rfl h1
      · refine fin 0 ?_
        rw [pr_vb0]
        cases hx : pt_cv t C i with
        | true => rw [hv, hx, Bool.not_true, Bool.and_false]; rfl
        | false => rw [hx] at h0; exact absurd rfl h0
theorem x_markMax (hr : r < 17) (ht : pt_ok t) (hf : pt_fin t) (hT : tr_at ((r * 2 + 1) * 8) (r * 2 + 1) t a_treeSize a_treeKind a_treeValue a_treeA a_treeB) (hcv : ∀ q, q < pt_n t → a_constantValued ((r * 2 + 1) * 8 + q) = pr_b (pt_cv t C q))
    (h : ∀ mx', (∀ q, q < pt_n t → mx' ((r * 2 + 1) * 8 + q) = pr_b (pt_mx t C q)) → (∀ q, q < (r * 2 + 1) * 8 ∨ (r * 2 + 1) * 8 + pt_n t ≤ q → mx' q = a_maximal q) → post (f_maxNodes, f_maxRules, f_ruleCount, f_counterexample, f_optimized, f_nodeCount, f_outputCount, f_applications, a_preRelation, a_preVariable, a_preConstant, a_roomNeeded, a_useCount, a_treeSize, a_treeKind, a_treeValue, a_treeA, a_treeB, a_treeResult, a_constantValued, mx', a_counterpart, a_boundNode, a_pending, a_pendingCount, a_nodeKind, a_nodeValue, a_nodeA, a_nodeB, a_nodeResult, a_nodeUses, a_outputNode, a_seen, a_order, a_walkStack)) :
    wpX_markMaximal post (f_maxNodes, f_maxRules, f_ruleCount, f_counterexample, f_optimized, f_nodeCount, f_outputCount, f_applications, a_preRelation, a_preVariable, a_preConstant, a_roomNeeded, a_useCount, a_treeSize, a_treeKind, a_treeValue, a_treeA, a_treeB, a_treeResult, a_constantValued, a_maximal, a_counterpart, a_boundNode, a_pending, a_pendingCount, a_nodeKind, a_nodeValue, a_nodeA, a_nodeB, a_nodeResult, a_nodeUses, a_outputNode, a_seen, a_order, a_walkStack) (nI r) := by
  have h8 := ht.1
  have h0 := hf.1
  have e1 : nI ((r * 2 + 1) * 8 + pt_n t) - 1 = nI ((r * 2 + 1) * 8 + (pt_n t - 1)) := by
    rw [pr_s1 (by omega)]
    exact congrArg nI (by omega)
  have e2 : nI ((r * 2 + 1) * 8 + (pt_n t - 1)) = nI ((r * 2 + 1) * 8 + pt_n t) + (-1) := by
    rw [pr_m1 (by omega)]
    exact congrArg nI (by omega)
  unfold wpX_markMaximal
  refine x_treeOf r 1 ?_
  refine x_endOf (by omega) hT.1 ?_
  rw [e1]
  refine ⟨pk_in ((r * 2 + 1) * 8 + (pt_n t - 1)) 272 (by omega), pk_in ((r * 2 + 1) * 8 + (pt_n t - 1)) 272 (by omega), ?_⟩
  rw [nI_clamp (by omega), hcv _ (by omega), pr_nb]
  refine nm_e (nm_r e2 ⟨pt_n t + 1, ?_⟩)
  refine x_markMax33 (by omega) (by omega) ht hf hT hcv h (pt_n t) _ (Nat.le_refl _) ?_ (fun q hq => pk_un (by omega))
  intro q hq hs
  have e : q + 1 = pt_n t := by
    rcases hs with x | ⟨p, x1, x2, _⟩
    · exact x
    · omega
  rw [show pt_n t - 1 = q by omega, pk_us]
  unfold pt_mx
  have hp := hf.2.1
  rw [show pt_n t - 1 = q by omega] at hp
  rw [hp]
  show _ = pr_b (pt_cv t C q && true)
  rw [Bool.and_true]
end XE
section XF
variable {f_maxNodes f_maxRules f_ruleCount f_counterexample f_optimized f_nodeCount f_outputCount f_applications : Int32} {a_preRelation a_preVariable a_preConstant a_roomNeeded a_useCount a_treeSize a_treeKind a_treeValue a_treeA a_treeB a_treeResult a_constantValued a_maximal a_counterpart a_boundNode a_pending a_pendingCount a_nodeKind a_nodeValue a_nodeA a_nodeB a_nodeResult a_nodeUses a_outputNode a_seen a_order a_walkStack : Nat → Int32}
variable {post : Int32 → Prop} {r w : Nat} {t : pr_PT} {C : Nat → Bool}
theorem x_patW21 (hw : w < 34) (ht : pt_ok t) (hT : tr_at (w * 8) w t a_treeSize a_treeKind a_treeValue a_treeA a_treeB) (h : post (nI (pt_pw t))) :
    ∀ d i, i + d = pt_n t → wX_patternWeight_21 post (nI (w * 8 + pt_n t)) f_maxNodes f_maxRules f_ruleCount f_counterexample f_optimized f_nodeCount f_outputCount f_applications a_preRelation a_preVariable a_preConstant a_roomNeeded a_useCount a_treeSize a_treeKind a_treeValue a_treeA a_treeB a_treeResult a_constantValued a_maximal a_counterpart a_boundNode a_pending a_pendingCount a_nodeKind a_nodeValue a_nodeA a_nodeB a_nodeResult a_nodeUses a_outputNode a_seen a_order a_walkStack (d + 1) (nI (pr_rs (fun i => pr_w (pt_k t i)) 0 i)) (nI (w * 8 + i)) := by
  intro d
  have h8 := ht.1
  induction d with
  | zero =>
    intro i hi
    refine pk_le (w * 8 + pt_n t) (w * 8 + i) (fun _ => ?_) (fun h => absurd h (by omega))
    rw [show i = pt_n t by omega]
    exact h
  | succ d ih =>
    intro i hi
    have hi' : i < pt_n t := by omega
    obtain ⟨e1, _⟩ := hT.2 i hi'
    have hs := pt_sm ht i hi'
    refine pk_le (w * 8 + pt_n t) (w * 8 + i) (fun h => absurd h (by omega)) (fun _ => ⟨pk_in (w * 8 + i) 272 (by omega), ?_⟩)
    rw [nI_clamp (by omega), e1]
    refine x_weight (by omega) (nm_r (nI_add _ _) (nm_r (nI_1 _) ?_))
    have := ih (i + 1) (by omega)
    rw [show pr_rs (fun i => pr_w (pt_k t i)) 0 (i + 1) = pr_rs (fun i => pr_w (pt_k t i)) 0 i + pr_w (pt_k t (0 + i)) from rfl, Nat.zero_add] at this
    exact this
theorem x_patW (hr : r < 17) (ht : pt_ok t) (hT : tr_at ((r * 2 + 0) * 8) (r * 2 + 0) t a_treeSize a_treeKind a_treeValue a_treeA a_treeB) (h : post (nI (pt_pw t))) : wpX_patternWeight post (f_maxNodes, f_maxRules, f_ruleCount, f_counterexample, f_optimized, f_nodeCount, f_outputCount, f_applications, a_preRelation, a_preVariable, a_preConstant, a_roomNeeded, a_useCount, a_treeSize, a_treeKind, a_treeValue, a_treeA, a_treeB, a_treeResult, a_constantValued, a_maximal, a_counterpart, a_boundNode, a_pending, a_pendingCount, a_nodeKind, a_nodeValue, a_nodeA, a_nodeB, a_nodeResult, a_nodeUses, a_outputNode, a_seen, a_order, a_walkStack) (nI r) := by
  unfold wpX_patternWeight
  refine x_treeOf r 0 ?_
  refine x_endOf (by omega) hT.1 ?_
  refine x_firstOf ⟨pt_n t + 1, ?_⟩
  exact x_patW21 (by omega) ht hT h (pt_n t) 0 (by omega)
theorem x_repW21 (hw : w < 34) (ht : pt_ok t) (hT : tr_at (w * 8) w t a_treeSize a_treeKind a_treeValue a_treeA a_treeB) (hcv : ∀ q, q < pt_n t → a_constantValued (w * 8 + q) = pr_b (pt_cv t C q)) (h : post (nI (pt_rw t C))) :
    ∀ d i, i + d = pt_n t → wX_replacementWeight_21 post (nI (w * 8 + pt_n t)) f_maxNodes f_maxRules f_ruleCount f_counterexample f_optimized f_nodeCount f_outputCount f_applications a_preRelation a_preVariable a_preConstant a_roomNeeded a_useCount a_treeSize a_treeKind a_treeValue a_treeA a_treeB a_treeResult a_constantValued a_maximal a_counterpart a_boundNode a_pending a_pendingCount a_nodeKind a_nodeValue a_nodeA a_nodeB a_nodeResult a_nodeUses a_outputNode a_seen a_order a_walkStack (d + 1) (nI (pr_rs (fun i => if pt_cv t C i then 0 else pr_w (pt_k t i)) 0 i)) (nI (w * 8 + i)) := by
  intro d
  have h8 := ht.1
  induction d with
  | zero =>
    intro i hi
    refine pk_le (w * 8 + pt_n t) (w * 8 + i) (fun _ => ?_) (fun h => absurd h (by omega))
    rw [show i = pt_n t by omega]
    exact h
  | succ d ih =>
    intro i hi
    have hi' : i < pt_n t := by omega
    obtain ⟨e1, _⟩ := hT.2 i hi'
    have hs := pt_sm ht i hi'
    have hh := ih (i + 1) (by omega)
    rw [show pr_rs (fun i => if pt_cv t C i then 0 else pr_w (pt_k t i)) 0 (i + 1) = pr_rs (fun i => if pt_cv t C i then 0 else pr_w (pt_k t i)) 0 i + (if pt_cv t C (0 + i) then 0 else pr_w (pt_k t (0 + i))) from rfl, Nat.zero_add] at hh
    refine pk_le (w * 8 + pt_n t) (w * 8 + i) (fun h => absurd h (by omega)) (fun _ => ⟨pk_in (w * 8 + i) 272 (by omega), ?_⟩)
    rw [nI_clamp (by omega), hcv i hi']
    refine br_c (fun h0 => ⟨pk_in (w * 8 + i) 272 (by omega), ?_⟩) (fun h0 => nm_r (nI_1 _) ?_)
    · rw [e1]
      rw [(pr_b0 _).mp h0, if_neg (by decide)] at hh
      exact x_weight (by omega) (nm_r (nI_add _ _) (nm_r (nI_1 _) hh))
    · have hx : pt_cv t C i = true := by
        cases hx : pt_cv t C i with
        | true => rfl
        | false => rw [hx] at h0; exact absurd rfl h0
      rw [hx, if_pos rfl, Nat.add_zero] at hh
      exact hh
theorem x_repW (hr : r < 17) (ht : pt_ok t) (hT : tr_at ((r * 2 + 1) * 8) (r * 2 + 1) t a_treeSize a_treeKind a_treeValue a_treeA a_treeB) (hcv : ∀ q, q < pt_n t → a_constantValued ((r * 2 + 1) * 8 + q) = pr_b (pt_cv t C q)) (h : post (nI (pt_rw t C))) : wpX_replacementWeight post (f_maxNodes, f_maxRules, f_ruleCount, f_counterexample, f_optimized, f_nodeCount, f_outputCount, f_applications, a_preRelation, a_preVariable, a_preConstant, a_roomNeeded, a_useCount, a_treeSize, a_treeKind, a_treeValue, a_treeA, a_treeB, a_treeResult, a_constantValued, a_maximal, a_counterpart, a_boundNode, a_pending, a_pendingCount, a_nodeKind, a_nodeValue, a_nodeA, a_nodeB, a_nodeResult, a_nodeUses, a_outputNode, a_seen, a_order, a_walkStack) (nI r) := by
  unfold wpX_replacementWeight
  refine x_treeOf r 1 ?_
  refine x_endOf (by omega) hT.1 ?_
  refine x_firstOf ⟨pt_n t + 1, ?_⟩
  exact x_repW21 (by omega) ht hT hcv h (pt_n t) 0 (by omega)
theorem x_room21 (hw : w < 34) (ht : pt_ok t) (hT : tr_at (w * 8) w t a_treeSize a_treeKind a_treeValue a_treeA a_treeB) (hcv : ∀ q, q < pt_n t → a_constantValued (w * 8 + q) = pr_b (pt_cv t C q)) (hmx : ∀ q, q < pt_n t → a_maximal (w * 8 + q) = pr_b (pt_mx t C q)) (h : post (nI (pt_rm t C))) :
    ∀ d i, i + d = pt_n t → wX_countRoomNeeded_21 post (nI (w * 8 + pt_n t)) f_maxNodes f_maxRules f_ruleCount f_counterexample f_optimized f_nodeCount f_outputCount f_applications a_preRelation a_preVariable a_preConstant a_roomNeeded a_useCount a_treeSize a_treeKind a_treeValue a_treeA a_treeB a_treeResult a_constantValued a_maximal a_counterpart a_boundNode a_pending a_pendingCount a_nodeKind a_nodeValue a_nodeA a_nodeB a_nodeResult a_nodeUses a_outputNode a_seen a_order a_walkStack (d + 1) (nI (pr_rs (pt_rm1 t C) 0 i)) (nI (w * 8 + i)) := by
  intro d
  have h8 := ht.1
  induction d with
  | zero =>
    intro i hi
    refine pk_le (w * 8 + pt_n t) (w * 8 + i) (fun _ => ?_) (fun h => absurd h (by omega))
    rw [show i = pt_n t by omega]
    exact h
  | succ d ih =>
    intro i hi
    have hi' : i < pt_n t := by omega
    obtain ⟨e1, _⟩ := hT.2 i hi'
    have hs := pt_sm ht i hi'
    have hh := ih (i + 1) (by omega)
    rw [show pr_rs (pt_rm1 t C) 0 (i + 1) = pr_rs (pt_rm1 t C) 0 i + pt_rm1 t C (0 + i) from rfl, Nat.zero_add] at hh
    unfold pt_rm1 at hh
    have hin : vp_in (nI (w * 8 + i)) 272 := pk_in (w * 8 + i) 272 (by omega)
    refine pk_le (w * 8 + pt_n t) (w * 8 + i) (fun h => absurd h (by omega)) (fun _ => ⟨hin, ?_⟩)
    rw [nI_clamp (by omega), hcv i hi']
    refine br_c (fun h0 => ?_) (fun h0 => ⟨hin, ?_⟩)
    · rw [if_pos (Or.inl ((pr_b0 _).mp h0))] at hh
      exact nm_r (nI_1 _) (nm_r (nI_1 _) hh)
    · rw [hmx i hi']
      have hc : ¬ pt_cv t C i = false := fun hx => by rw [hx] at h0; exact h0 rfl
      refine br_c (fun h1 => ?_) (fun h1 => ⟨hin, ?_⟩)
      · rw [if_neg (fun hx => by
          rcases hx with hx | hx
          · exact hc hx
          · have := (pr_b0 _).mp h1
            rw [hx.1] at this
            cases this), Nat.add_zero] at hh
        exact nm_r (nI_1 _) hh
      · rw [e1]
        have hm : pt_mx t C i = true := by
          cases hx : pt_mx t C i with
          | true => rfl
          | false => rw [hx] at h1; exact absurd rfl h1
        refine pk_eq (pt_k t i) 13 (fun h2 => ?_) (fun h2 => ?_)
        · rw [if_neg (fun hx => by
            rcases hx with hx | hx
            · exact hc hx
            · exact hx.2 h2), Nat.add_zero] at hh
          exact nm_r (nI_1 _) hh
        · rw [if_pos (Or.inr ⟨hm, h2⟩)] at hh
          exact nm_r (nI_1 _) (nm_r (nI_1 _) hh)
theorem x_room (hr : r < 17) (ht : pt_ok t) (hT : tr_at ((r * 2 + 1) * 8) (r * 2 + 1) t a_treeSize a_treeKind a_treeValue a_treeA a_treeB) (hcv : ∀ q, q < pt_n t → a_constantValued ((r * 2 + 1) * 8 + q) = pr_b (pt_cv t C q)) (hmx : ∀ q, q < pt_n t → a_maximal ((r * 2 + 1) * 8 + q) = pr_b (pt_mx t C q)) (h : post (nI (pt_rm t C))) : wpX_countRoomNeeded post (f_maxNodes, f_maxRules, f_ruleCount, f_counterexample, f_optimized, f_nodeCount, f_outputCount, f_applications, a_preRelation, a_preVariable, a_preConstant, a_roomNeeded, a_useCount, a_treeSize, a_treeKind, a_treeValue, a_treeA, a_treeB, a_treeResult, a_constantValued, a_maximal, a_counterpart, a_boundNode, a_pending, a_pendingCount, a_nodeKind, a_nodeValue, a_nodeA, a_nodeB, a_nodeResult, a_nodeUses, a_outputNode, a_seen, a_order, a_walkStack) (nI r) := by
  unfold wpX_countRoomNeeded
  refine x_treeOf r 1 ?_
  refine x_endOf (by omega) hT.1 ?_
  refine x_firstOf ⟨pt_n t + 1, ?_⟩
  exact x_room21 (by omega) ht hT hcv hmx h (pt_n t) 0 (by omega)
end XF
end
section
/-! X: the walk over a graph -/
def gr_at (lo : Nat) (K : Nat → Nat) (V : Nat → Int32) (A B : Nat → Option Nat) (ka va aa ba : Nat → Int32) : Prop :=
  ∀ n, pr_T lo K n → ka n = nI (K n) ∧ va n = V n ∧ aa n = pr_oI (A n) ∧ ba n = pr_oI (B n)
def pr_ls (od : Nat → Int32) (L : List Nat) : Prop := ∀ i, i < L.length → od i = nI (L.getD i 0)
theorem pr_gd_l {L M : List Nat} {i : Nat} (h : i < L.length) : (L ++ M).getD i 0 = L.getD i 0 := by
  rw [List.getD_eq_getElem?_getD, List.getD_eq_getElem?_getD, List.getElem?_append_left h]
theorem pr_gd_s {L : List Nat} {n : Nat} : (L ++ [n]).getD L.length 0 = n := by
  simp [List.getD_eq_getElem?_getD]
theorem pr_gd_m {L : List Nat} {i : Nat} (h : i < L.length) : L.getD i 0 ∈ L := by
  rw [List.getD_eq_getElem?_getD, List.getElem?_eq_getElem h]
  exact List.getElem_mem h
theorem pr_ls_s {od : Nat → Int32} {L : List Nat} {n : Nat} (h : pr_ls od L) : pr_ls (upd od L.length (nI n)) (L ++ [n]) := by
  intro i hi
  rw [List.length_append, List.length_singleton] at hi
  by_cases e : i = L.length
  · rw [e, pk_us, pr_gd_s]
  · rw [pk_un e, pr_gd_l (by omega)]
    exact h i (by omega)
section XG
variable {f_maxNodes f_maxRules f_ruleCount f_counterexample f_optimized f_nodeCount f_outputCount f_applications : Int32} {a_preRelation a_preVariable a_preConstant a_roomNeeded a_useCount a_treeSize a_treeKind a_treeValue a_treeA a_treeB a_treeResult a_constantValued a_maximal a_counterpart a_boundNode a_pending a_pendingCount a_nodeKind a_nodeValue a_nodeA a_nodeB a_nodeResult a_nodeUses a_outputNode a_seen a_order a_walkStack : Nat → Int32}
variable {lo : Nat} {K : Nat → Nat} {V : Nat → Int32} {A B : Nat → Option Nat} {rk : Nat → Nat}
theorem x_un_31B {post : Int32 → Prop} (hlo : lo ≤ 32) (hg : gr_at lo K V A B a_nodeKind a_nodeValue a_nodeA a_nodeB) {n c : Nat} (hn : pr_T lo K n) (hc : pr_T lo K c) (e : B n = some c) (h0 : a_seen c = 0) (h : post (nI c)) : wX_unseenOperand_31 post (nI n) f_maxNodes f_maxRules f_ruleCount f_counterexample f_optimized f_nodeCount f_outputCount f_applications a_preRelation a_preVariable a_preConstant a_roomNeeded a_useCount a_treeSize a_treeKind a_treeValue a_treeA a_treeB a_treeResult a_constantValued a_maximal a_counterpart a_boundNode a_pending a_pendingCount a_nodeKind a_nodeValue a_nodeA a_nodeB a_nodeResult a_nodeUses a_outputNode a_seen a_order a_walkStack := by
  have hn2 := hn.2.1
  have hc2 := hc.2.1
  have hin : vp_in (nI n) 64 := pk_in n 64 (by omega)
  refine ⟨hin, ?_⟩
  rw [nI_clamp (by omega), (hg n hn).2.2.2, e]
  refine br_f (pr_ne1 (by omega)) ⟨hin, pk_in c 64 (by omega), ?_⟩
  rw [show (pr_oI (some c)).toNatClampNeg = c from nI_clamp (by omega)]
  exact br_t h0 ⟨hin, h⟩
theorem x_un_31N {post : Int32 → Prop} (hlo : lo ≤ 32) (hg : gr_at lo K V A B a_nodeKind a_nodeValue a_nodeA a_nodeB) (hT : ∀ n c, pr_T lo K n → (A n = some c ∨ B n = some c) → pr_T lo K c ∧ rk c < rk n) {n : Nat} (hn : pr_T lo K n) (h0 : ∀ c, B n = some c → a_seen c ≠ 0) (h : post (-1)) : wX_unseenOperand_31 post (nI n) f_maxNodes f_maxRules f_ruleCount f_counterexample f_optimized f_nodeCount f_outputCount f_applications a_preRelation a_preVariable a_preConstant a_roomNeeded a_useCount a_treeSize a_treeKind a_treeValue a_treeA a_treeB a_treeResult a_constantValued a_maximal a_counterpart a_boundNode a_pending a_pendingCount a_nodeKind a_nodeValue a_nodeA a_nodeB a_nodeResult a_nodeUses a_outputNode a_seen a_order a_walkStack := by
  have hn2 := hn.2.1
  have hin : vp_in (nI n) 64 := pk_in n 64 (by omega)
  refine ⟨hin, ?_⟩
  rw [nI_clamp (by omega), (hg n hn).2.2.2]
  cases e : B n with
  | none => exact br_t rfl h
  | some c =>
    have hc2 := (hT n c hn (Or.inr e)).1.2.1
    refine br_f (pr_ne1 (by omega)) ⟨hin, pk_in c 64 (by omega), ?_⟩
    rw [show (pr_oI (some c)).toNatClampNeg = c from nI_clamp (by omega)]
    exact br_f (h0 c e) h
theorem x_un_A {post : Int32 → Prop} (hlo : lo ≤ 32) (hg : gr_at lo K V A B a_nodeKind a_nodeValue a_nodeA a_nodeB) {n c : Nat} (hn : pr_T lo K n) (hc : pr_T lo K c) (e : A n = some c) (h0 : a_seen c = 0) (h : post (nI c)) : wpX_unseenOperand post (f_maxNodes, f_maxRules, f_ruleCount, f_counterexample, f_optimized, f_nodeCount, f_outputCount, f_applications, a_preRelation, a_preVariable, a_preConstant, a_roomNeeded, a_useCount, a_treeSize, a_treeKind, a_treeValue, a_treeA, a_treeB, a_treeResult, a_constantValued, a_maximal, a_counterpart, a_boundNode, a_pending, a_pendingCount, a_nodeKind, a_nodeValue, a_nodeA, a_nodeB, a_nodeResult, a_nodeUses, a_outputNode, a_seen, a_order, a_walkStack) (nI n) := by
  have hn2 := hn.2.1
  have hc2 := hc.2.1
  have hin : vp_in (nI n) 64 := pk_in n 64 (by omega)
  unfold wpX_unseenOperand
  refine ⟨hin, ?_⟩
  rw [nI_clamp (by omega), (hg n hn).2.2.1, e]
  refine br_f (pr_ne1 (by omega)) ⟨hin, pk_in c 64 (by omega), ?_⟩
  rw [show (pr_oI (some c)).toNatClampNeg = c from nI_clamp (by omega)]
  exact br_t h0 ⟨hin, h⟩
theorem x_un_31 {post : Int32 → Prop} (hlo : lo ≤ 32) (hg : gr_at lo K V A B a_nodeKind a_nodeValue a_nodeA a_nodeB) (hT : ∀ n c, pr_T lo K n → (A n = some c ∨ B n = some c) → pr_T lo K c ∧ rk c < rk n) {n : Nat} (hn : pr_T lo K n) (h0 : ∀ c, A n = some c → a_seen c ≠ 0) (h : wX_unseenOperand_31 post (nI n) f_maxNodes f_maxRules f_ruleCount f_counterexample f_optimized f_nodeCount f_outputCount f_applications a_preRelation a_preVariable a_preConstant a_roomNeeded a_useCount a_treeSize a_treeKind a_treeValue a_treeA a_treeB a_treeResult a_constantValued a_maximal a_counterpart a_boundNode a_pending a_pendingCount a_nodeKind a_nodeValue a_nodeA a_nodeB a_nodeResult a_nodeUses a_outputNode a_seen a_order a_walkStack) : wpX_unseenOperand post (f_maxNodes, f_maxRules, f_ruleCount, f_counterexample, f_optimized, f_nodeCount, f_outputCount, f_applications, a_preRelation, a_preVariable, a_preConstant, a_roomNeeded, a_useCount, a_treeSize, a_treeKind, a_treeValue, a_treeA, a_treeB, a_treeResult, a_constantValued, a_maximal, a_counterpart, a_boundNode, a_pending, a_pendingCount, a_nodeKind, a_nodeValue, a_nodeA, a_nodeB, a_nodeResult, a_nodeUses, a_outputNode, a_seen, a_order, a_walkStack) (nI n) := by
  have hn2 := hn.2.1
  have hin : vp_in (nI n) 64 := pk_in n 64 (by omega)
  unfold wpX_unseenOperand
  refine ⟨hin, ?_⟩
  rw [nI_clamp (by omega), (hg n hn).2.2.1]
  cases e : A n with
  | none => exact br_t rfl h
  | some c =>
    have hc2 := (hT n c hn (Or.inl e)).1.2.1
    refine br_f (pr_ne1 (by omega)) ⟨hin, pk_in c 64 (by omega), ?_⟩
    rw [show (pr_oI (some c)).toNatClampNeg = c from nI_clamp (by omega)]
    exact br_f (h0 c e) h
end XG
section XH
variable {f_maxNodes f_maxRules f_ruleCount f_counterexample f_optimized f_nodeCount f_outputCount f_applications : Int32} {a_preRelation a_preVariable a_preConstant a_roomNeeded a_useCount a_treeSize a_treeKind a_treeValue a_treeA a_treeB a_treeResult a_constantValued a_maximal a_counterpart a_boundNode a_pending a_pendingCount a_nodeKind a_nodeValue a_nodeA a_nodeB a_nodeResult a_nodeUses a_outputNode a_seen a_order a_walkStack : Nat → Int32}
variable {lo : Nat} {K : Nat → Nat} {V : Nat → Int32} {A B : Nat → Option Nat} {rk : Nat → Nat} {post : Int32 → St2 → Prop}
theorem x_lb_pop {f c d step n : Nat} {se od st : Nat → Int32} (hc : c < 32) (hd : d < 32) (hs : step < 64) (htop : st d = nI n)
    (hu : ∀ P : Int32 → Prop, P (-1) → wpX_unseenOperand P (f_maxNodes, f_maxRules, f_ruleCount, f_counterexample, f_optimized, f_nodeCount, f_outputCount, f_applications, a_preRelation, a_preVariable, a_preConstant, a_roomNeeded, a_useCount, a_treeSize, a_treeKind, a_treeValue, a_treeA, a_treeB, a_treeResult, a_constantValued, a_maximal, a_counterpart, a_boundNode, a_pending, a_pendingCount, a_nodeKind, a_nodeValue, a_nodeA, a_nodeB, a_nodeResult, a_nodeUses, a_outputNode, se, od, st) (nI n))
    (h : wX_listBelow_22 post f_maxNodes f_maxRules f_ruleCount f_counterexample f_optimized f_nodeCount f_outputCount f_applications f (nI (c + 1)) (nI d) (nI (step + 1)) a_preRelation a_preVariable a_preConstant a_roomNeeded a_useCount a_treeSize a_treeKind a_treeValue a_treeA a_treeB a_treeResult a_constantValued a_maximal a_counterpart a_boundNode a_pending a_pendingCount a_nodeKind a_nodeValue a_nodeA a_nodeB a_nodeResult a_nodeUses a_outputNode se (upd od c (nI n)) st) :
    wX_listBelow_22 post f_maxNodes f_maxRules f_ruleCount f_counterexample f_optimized f_nodeCount f_outputCount f_applications (f + 1) (nI c) (nI (d + 1)) (nI step) a_preRelation a_preVariable a_preConstant a_roomNeeded a_useCount a_treeSize a_treeKind a_treeValue a_treeA a_treeB a_treeResult a_constantValued a_maximal a_counterpart a_boundNode a_pending a_pendingCount a_nodeKind a_nodeValue a_nodeA a_nodeB a_nodeResult a_nodeUses a_outputNode se od st := by
  refine pk_le 64 step (fun h => absurd h (by omega)) (fun _ => pk_le (d + 1) 0 (fun h => absurd h (by omega)) (fun _ => ?_))
  rw [nI_pred]
  refine ⟨pk_in d 32 hd, ?_⟩
  rw [nI_clamp (by omega)]
  refine nm_r htop (hu _ (br_t rfl ⟨pk_in c 32 hc, ?_⟩))
  rw [nI_clamp (by omega)]
  exact nm_e (nm_r (nI_1 _) (nm_r (pk_m1 _) (nm_r (nI_1 _) h)))
theorem x_lb_push {f c d step n x : Nat} {se od st : Nat → Int32} (hx : x < 64) (hd : d + 1 < 32) (hs : step < 64) (htop : st d = nI n)
    (hu : ∀ P : Int32 → Prop, P (nI x) → wpX_unseenOperand P (f_maxNodes, f_maxRules, f_ruleCount, f_counterexample, f_optimized, f_nodeCount, f_outputCount, f_applications, a_preRelation, a_preVariable, a_preConstant, a_roomNeeded, a_useCount, a_treeSize, a_treeKind, a_treeValue, a_treeA, a_treeB, a_treeResult, a_constantValued, a_maximal, a_counterpart, a_boundNode, a_pending, a_pendingCount, a_nodeKind, a_nodeValue, a_nodeA, a_nodeB, a_nodeResult, a_nodeUses, a_outputNode, se, od, st) (nI n))
    (h : wX_listBelow_22 post f_maxNodes f_maxRules f_ruleCount f_counterexample f_optimized f_nodeCount f_outputCount f_applications f (nI c) (nI (d + 1 + 1)) (nI (step + 1)) a_preRelation a_preVariable a_preConstant a_roomNeeded a_useCount a_treeSize a_treeKind a_treeValue a_treeA a_treeB a_treeResult a_constantValued a_maximal a_counterpart a_boundNode a_pending a_pendingCount a_nodeKind a_nodeValue a_nodeA a_nodeB a_nodeResult a_nodeUses a_outputNode (upd se x 1) od (upd st (d + 1) (nI x))) :
    wX_listBelow_22 post f_maxNodes f_maxRules f_ruleCount f_counterexample f_optimized f_nodeCount f_outputCount f_applications (f + 1) (nI c) (nI (d + 1)) (nI step) a_preRelation a_preVariable a_preConstant a_roomNeeded a_useCount a_treeSize a_treeKind a_treeValue a_treeA a_treeB a_treeResult a_constantValued a_maximal a_counterpart a_boundNode a_pending a_pendingCount a_nodeKind a_nodeValue a_nodeA a_nodeB a_nodeResult a_nodeUses a_outputNode se od st := by
  refine pk_le 64 step (fun h => absurd h (by omega)) (fun _ => pk_le (d + 1) 0 (fun h => absurd h (by omega)) (fun _ => ?_))
  rw [nI_pred]
  refine ⟨pk_in d 32 (by omega), ?_⟩
  rw [nI_clamp (by omega)]
  refine nm_r htop (hu _ (br_f (pr_ne1 (by omega)) ⟨pk_in (d + 1) 32 hd, ?_⟩))
  rw [nI_clamp (n := d + 1) (by omega), nI_clamp (n := x) (by omega)]
  exact nm_e ⟨pk_in x 64 hx, nm_e (nm_r (nI_1 _) (nm_r (nI_1 _) h))⟩
def x_sn (T : Nat → Prop) (rk : Nat → Nat) (L : List Nat) (n : Nat) (se : Nat → Int32) : Prop := ∀ c, T c → rk c < rk n → (se c = 0 ↔ c ∉ L)
def x_sk (L L' : List Nat) (se se' : Nat → Int32) : Prop := ∀ c, (c ∈ L' → c ∉ L → se' c ≠ 0) ∧ ((c ∈ L ∨ c ∉ L') → se' c = se c)
theorem x_visit (hlo : lo ≤ 32) (hG : pr_gw lo K V A B rk) (hg : gr_at lo K V A B a_nodeKind a_nodeValue a_nodeA a_nodeB) :
    ∀ q n, rk n < q → pr_T lo K n → ∀ L : List Nat, L.Nodup → pr_cl A B (fun x => x ∈ L) → n ∉ L → (∀ x, x ∈ L → lo ≤ x ∧ x < lo + 32) →
      ∀ f d step se od st, 65 ≤ f + step → d + rk n < 32 → step + 2 * (pr_po A B q n L).length ≤ 64 + 2 * L.length → st d = nI n → pr_ls od L → x_sn (pr_T lo K) rk L n se → se n ≠ 0 →
      (∀ f' se' od' st', 65 + 2 * L.length + 1 ≤ f' + step + 2 * (pr_po A B q n L).length → (∀ i, i < d → st' i = st i) → pr_ls od' (pr_po A B q n L) → x_sk L (pr_po A B q n L) se se' →
        wX_listBelow_22 post f_maxNodes f_maxRules f_ruleCount f_counterexample f_optimized f_nodeCount f_outputCount f_applications f' (nI (pr_po A B q n L).length) (nI d) (nI (step + 2 * (pr_po A B q n L).length - 2 * L.length - 1)) a_preRelation a_preVariable a_preConstant a_roomNeeded a_useCount a_treeSize a_treeKind a_treeValue a_treeA a_treeB a_treeResult a_constantValued a_maximal a_counterpart a_boundNode a_pending a_pendingCount a_nodeKind a_nodeValue a_nodeA a_nodeB a_nodeResult a_nodeUses a_outputNode se' od' st') →
      wX_listBelow_22 post f_maxNodes f_maxRules f_ruleCount f_counterexample f_optimized f_nodeCount f_outputCount f_applications f (nI L.length) (nI (d + 1)) (nI step) a_preRelation a_preVariable a_preConstant a_roomNeeded a_useCount a_treeSize a_treeKind a_treeValue a_treeA a_treeB a_treeResult a_constantValued a_maximal a_counterpart a_boundNode a_pending a_pendingCount a_nodeKind a_nodeValue a_nodeA a_nodeB a_nodeResult a_nodeUses a_outputNode se od st := by
  intro q
  have hT := pr_gw_T hG
  induction q with
  | zero =>
    intro n h
    omega
  | succ q ih =>
    intro n hq tn L nd cl hnL hreg f d step se od st hf hd hst htop hls hsn hsn0 hk
    have hgA : gr_at lo K V A B a_nodeKind a_nodeValue a_nodeA a_nodeB := hg
    -- the three lists
    have ep : pr_po A B (q + 1) n L = pr_oc (pr_po A B q) (B n) (pr_oc (pr_po A B q) (A n) L) ++ [n] := by
      show (if n ∈ L then L else _) = _
      rw [if_neg hnL]
    obtain ⟨M1, e1, a1, b1, c1, d1⟩ := pr_oc_ok (T := pr_T lo K) (rk := rk) (g := pr_po A B q) (o := A n) (L := L) (fun c hc => pr_po_ok hT q c (by have := (hT n c tn (Or.inl hc)).2; omega) (hT n c tn (Or.inl hc)).1) nd cl
    obtain ⟨M2, e2, a2, b2, c2, d2⟩ := pr_oc_ok (T := pr_T lo K) (rk := rk) (g := pr_po A B q) (o := B n) (L := L ++ M1) (fun c hc => pr_po_ok hT q c (by have := (hT n c tn (Or.inr hc)).2; omega) (hT n c tn (Or.inr hc)).1) a1 b1
    rw [e1, e2] at ep
    have reg1 : ∀ x, x ∈ L ++ M1 → lo ≤ x ∧ x < lo + 32 := by
      intro x hx
      rcases List.mem_append.mp hx with hx | hx
      · exact hreg x hx
      · exact ⟨(d1 x hx).1.1, (d1 x hx).1.2.1⟩
    have reg2 : ∀ x, x ∈ L ++ M1 ++ M2 → lo ≤ x ∧ x < lo + 32 := by
      intro x hx
      rcases List.mem_append.mp hx with hx | hx
      · exact reg1 x hx
      · exact ⟨(d2 x hx).1.1, (d2 x hx).1.2.1⟩
    have r1 : ∀ x, x ∈ M1 → rk x < rk n := by
      intro x hx
      obtain ⟨_, c, hc, hr, _⟩ := d1 x hx
      have := (hT n c tn (Or.inl hc)).2
      omega
    have r2 : ∀ x, x ∈ M2 → rk x < rk n := by
      intro x hx
      obtain ⟨_, c, hc, hr, _⟩ := d2 x hx
      have := (hT n c tn (Or.inr hc)).2
      omega
    have n1 : n ∉ L ++ M1 := by
      intro h
      rcases List.mem_append.mp h with h | h
      · exact hnL h
      · exact Nat.lt_irrefl _ (r1 n h)
    have n2 : n ∉ L ++ M1 ++ M2 := by
      intro h
      rcases List.mem_append.mp h with h | h
      · exact n1 h
      · exact Nat.lt_irrefl _ (r2 n h)
    have len1 : (L ++ M1).length = L.length + M1.length := List.length_append
    have len2 : (L ++ M1 ++ M2).length = L.length + M1.length + M2.length := by rw [List.length_append, len1]
    have lenP : (pr_po A B (q + 1) n L).length = L.length + M1.length + M2.length + 1 := by
      rw [ep, List.length_append, len2]
      rfl
    have hnd3 : (L ++ M1 ++ M2 ++ [n]).Nodup := by
      rw [List.nodup_append]
      refine ⟨a2, by simp, fun x hx y hy e => ?_⟩
      rw [List.mem_singleton] at hy
      subst e
      subst hy
      exact n2 hx
    have l2le := pr_len (lo := lo) (n := 32) hnd3 (fun x hx => by
      rcases List.mem_append.mp hx with hx | hx
      · exact reg2 x hx
      · rw [List.mem_singleton] at hx
        subst hx
        exact ⟨tn.1, tn.2.1⟩)
    rw [List.length_append, len2, List.length_singleton] at l2le
    have hdn : d < 32 := by omega
    -- the pop
    have hpop : ∀ f' se' od' st', 65 ≤ f' + (step + 2 * (M1.length + M2.length)) → (∀ i, i < d + 1 → st' i = st i) → pr_ls od' (L ++ M1 ++ M2) → x_sk L (L ++ M1 ++ M2) se se' →
        wX_listBelow_22 post f_maxNodes f_maxRules f_ruleCount f_counterexample f_optimized f_nodeCount f_outputCount f_applications f' (nI (L ++ M1 ++ M2).length) (nI (d + 1)) (nI (step + 2 * (M1.length + M2.length))) a_preRelation a_preVariable a_preConstant a_roomNeeded a_useCount a_treeSize a_treeKind a_treeValue a_treeA a_treeB a_treeResult a_constantValued a_maximal a_counterpart a_boundNode a_pending a_pendingCount a_nodeKind a_nodeValue a_nodeA a_nodeB a_nodeResult a_nodeUses a_outputNode se' od' st' := by
      intro f' se' od' st' hf' hst' hls' hsk'
      obtain ⟨g, rfl⟩ : ∃ g, f' = g + 1 := ⟨f' - 1, by omega⟩
      have hseen : ∀ c, c ∈ L ++ M1 ++ M2 → pr_T lo K c → rk c < rk n → se' c ≠ 0 := by
        intro c hc tc rc
        by_cases hcl : c ∈ L
        · rw [(hsk' c).2 (Or.inl hcl)]
          intro h0
          exact (hsn c tc rc).mp h0 hcl
        · exact (hsk' c).1 hc hcl
      rw [len2]
      refine x_lb_pop (n := n) (by omega) hdn (by omega) (by rw [hst' d (by omega)]; exact htop) (fun P hP => ?_) ?_
      · refine x_un_31 hlo hgA hT tn (fun c hc => ?_) (x_un_31N hlo hgA hT tn (fun c hc => ?_) hP)
        · exact hseen c (List.mem_append_left _ (c1 c hc)) (hT n c tn (Or.inl hc)).1 (hT n c tn (Or.inl hc)).2
        · exact hseen c (c2 c hc) (hT n c tn (Or.inr hc)).1 (hT n c tn (Or.inr hc)).2
      · have hh := hk g se' (upd od' (L.length + M1.length + M2.length) (nI n)) st' (by omega) (fun i hi => hst' i (by omega)) (by
          rw [ep]
          have := pr_ls_s (n := n) hls'
          rw [len2] at this
          exact this) (by
          rw [ep]
          intro c
          constructor
          · intro h1 h2
            rcases List.mem_append.mp h1 with h1 | h1
            · exact (hsk' c).1 h1 h2
            · rw [List.mem_singleton] at h1
              subst h1
              rw [(hsk' c).2 (Or.inr n2)]
              exact hsn0
          · intro h1
            refine (hsk' c).2 ?_
            rcases h1 with h1 | h1
            · exact Or.inl h1
            · exact Or.inr fun h2 => h1 (List.mem_append_left _ h2))
        rw [lenP] at hh
        rw [show step + 2 * (M1.length + M2.length) + 1 = step + 2 * (L.length + M1.length + M2.length + 1) - 2 * L.length - 1 by omega]
        exact hh
    -- operand B
    have hB : ∀ f' se' od' st', 65 ≤ f' + (step + 2 * M1.length) → (∀ i, i < d + 1 → st' i = st i) → pr_ls od' (L ++ M1) → x_sk L (L ++ M1) se se' →
        wX_listBelow_22 post f_maxNodes f_maxRules f_ruleCount f_counterexample f_optimized f_nodeCount f_outputCount f_applications f' (nI (L ++ M1).length) (nI (d + 1)) (nI (step + 2 * M1.length)) a_preRelation a_preVariable a_preConstant a_roomNeeded a_useCount a_treeSize a_treeKind a_treeValue a_treeA a_treeB a_treeResult a_constantValued a_maximal a_counterpart a_boundNode a_pending a_pendingCount a_nodeKind a_nodeValue a_nodeA a_nodeB a_nodeResult a_nodeUses a_outputNode se' od' st' := by
      intro f' se' od' st' hf' hst' hls' hsk'
      by_cases hb : ∃ c, B n = some c ∧ c ∉ L ++ M1
      · obtain ⟨c, hc, hcn⟩ := hb
        have tc := hT n c tn (Or.inr hc)
        have ec : L ++ M1 ++ M2 = pr_po A B q c (L ++ M1) := by
          rw [← e2, hc]
          rfl
        obtain ⟨g, rfl⟩ : ∃ g, f' = g + 1 := ⟨f' - 1, by omega⟩
        have tc2 := tc.1.2.1
        have hseq : ∀ x, pr_T lo K x → rk x < rk n → (se' x = 0 ↔ x ∉ L ++ M1) := by
          intro x tx rx
          by_cases hx : x ∈ L ++ M1
          · refine ⟨fun h0 => ?_, fun h => absurd hx h⟩
            exfalso
            by_cases hxl : x ∈ L
            · rw [(hsk' x).2 (Or.inl hxl)] at h0
              exact (hsn x tx rx).mp h0 hxl
            · exact (hsk' x).1 hx hxl h0
          · refine ⟨fun _ => hx, fun _ => ?_⟩
            rw [(hsk' x).2 (Or.inr hx)]
            exact (hsn x tx rx).mpr fun h => hx (List.mem_append_left _ h)
        have hM2 : 1 ≤ M2.length := by
          have hin : c ∈ L ++ M1 ++ M2 := c2 c hc
          rcases List.mem_append.mp hin with h | h
          · exact absurd h hcn
          · exact List.length_pos_of_mem h
        refine x_lb_push (n := n) (x := c) (by omega) (by omega) (by omega) (by rw [hst' d (by omega)]; exact htop) (fun P hP => ?_) ?_
        · refine x_un_31 hlo hgA hT tn (fun x hx => ?_) (x_un_31B hlo hgA tn tc.1 hc ((hseq c tc.1 tc.2).mpr hcn) hP)
          have tx := hT n x tn (Or.inl hx)
          exact fun h0 => (hseq x tx.1 tx.2).mp h0 (c1 x hx)
        · refine ih c (by omega) tc.1 (L ++ M1) a1 b1 hcn reg1 g (d + 1) (step + 2 * M1.length + 1) (upd se' c 1) od' (upd st' (d + 1) (nI c)) (by omega) (by omega) ?_ pk_us hls' ?_ ?_ ?_
          · rw [← ec, len2, len1]
            omega
          · intro x tx rx
            rw [pk_un (fun e => by rw [e] at rx; omega)]
            exact hseq x tx (by omega)
          · rw [pk_us]
            decide
          · rw [← ec]
            intro f2 se2 od2 st2 hf2 hst2 hls2 hsk2
            rw [len2, len1] at hf2
            have := hpop f2 se2 od2 st2 (by omega) (fun i hi => by rw [hst2 i hi, pk_un (by omega)]; exact hst' i (by omega)) hls2 (by
              intro x
              constructor
              · intro h1 h2
                by_cases hx : x ∈ L ++ M1
                · rw [(hsk2 x).2 (Or.inl hx)]
                  by_cases e : x = c
                  · rw [e, pk_us]
                    decide
                  · rw [pk_un e]
                    exact (hsk' x).1 hx h2
                · exact (hsk2 x).1 h1 hx
              · intro h1
                have hxc : x ≠ c := by
                  intro e
                  subst e
                  rcases h1 with h1 | h1
                  · exact hcn (List.mem_append_left _ h1)
                  · exact h1 (c2 x hc)
                have hx1 : se2 x = upd se' c 1 x := (hsk2 x).2 (by
                  rcases h1 with h1 | h1
                  · exact Or.inl (List.mem_append_left _ h1)
                  · exact Or.inr h1)
                rw [hx1, pk_un hxc]
                refine (hsk' x).2 ?_
                rcases h1 with h1 | h1
                · exact Or.inl h1
                · exact Or.inr fun h => h1 (List.mem_append_left _ h))
            rw [show step + 2 * M1.length + 1 + 2 * (L ++ M1 ++ M2).length - 2 * (L ++ M1).length - 1 = step + 2 * (M1.length + M2.length) by rw [len2, len1]; omega]
            exact this
      · have hM2 : M2 = [] := by
          have : pr_oc (pr_po A B q) (B n) (L ++ M1) = L ++ M1 := by
            cases hb' : B n with
            | none => rfl
            | some c =>
              have hcm : c ∈ L ++ M1 := by
                apply Classical.byContradiction
                intro hcn
                exact hb ⟨c, hb', hcn⟩
              show pr_po A B q c (L ++ M1) = L ++ M1
              cases q with
              | zero => rfl
              | succ q => exact if_pos hcm
          rw [this] at e2
          have := congrArg List.length e2
          rw [len2, len1] at this
          exact List.eq_nil_of_length_eq_zero (by omega)
        subst hM2
        rw [List.append_nil] at hpop
        exact hpop f' se' od' st' (by simpa using hf') hst' hls' hsk'
    -- operand A
    by_cases ha : ∃ c, A n = some c ∧ c ∉ L
    · obtain ⟨c, hc, hcn⟩ := ha
      have tc := hT n c tn (Or.inl hc)
      have ec : L ++ M1 = pr_po A B q c L := by
        rw [← e1, hc]
        rfl
      obtain ⟨g, rfl⟩ : ∃ g, f = g + 1 := ⟨f - 1, by omega⟩
      have tc2 := tc.1.2.1
      have hM1 : 1 ≤ M1.length := by
        have hin : c ∈ L ++ M1 := c1 c hc
        rcases List.mem_append.mp hin with h | h
        · exact absurd h hcn
        · exact List.length_pos_of_mem h
      refine x_lb_push (n := n) (x := c) (by omega) (by omega) (by omega) htop (fun P hP => x_un_A hlo hgA tn tc.1 hc ((hsn c tc.1 tc.2).mpr hcn) hP) ?_
      refine ih c (by omega) tc.1 L nd cl hcn hreg g (d + 1) (step + 1) (upd se c 1) od (upd st (d + 1) (nI c)) (by omega) (by omega) ?_ pk_us hls ?_ ?_ ?_
      · rw [← ec, len1]
        omega
      · intro x tx rx
        rw [pk_un (fun e => by rw [e] at rx; omega)]
        exact hsn x tx (by omega)
      · rw [pk_us]
        decide
      · rw [← ec]
        intro f2 se2 od2 st2 hf2 hst2 hls2 hsk2
        rw [len1] at hf2
        have := hB f2 se2 od2 st2 (by omega) (fun i hi => by rw [hst2 i hi, pk_un (by omega)]) hls2 (by
          intro x
          constructor
          · intro h1 h2
            exact (hsk2 x).1 h1 h2
          · intro h1
            have hxc : x ≠ c := by
              intro e
              subst e
              rcases h1 with h1 | h1
              · exact hcn h1
              · exact h1 (c1 x hc)
            rw [(hsk2 x).2 h1, pk_un hxc])
        rw [show step + 1 + 2 * (L ++ M1).length - 2 * L.length - 1 = step + 2 * M1.length by rw [len1]; omega]
        exact this
    · have hM1 : M1 = [] := by
        have : pr_oc (pr_po A B q) (A n) L = L := by
          cases ha' : A n with
          | none => rfl
          | some c =>
            have hcm : c ∈ L := by
              apply Classical.byContradiction
              intro hcn
              exact ha ⟨c, ha', hcn⟩
            show pr_po A B q c L = L
            cases q with
            | zero => rfl
            | succ q => exact if_pos hcm
        rw [this] at e1
        have := congrArg List.length e1
        rw [len1] at this
        exact List.eq_nil_of_length_eq_zero (by omega)
      subst hM1
      rw [List.append_nil] at hB
      exact hB f se od st (by simpa using hf) (fun i _ => rfl) hls (fun x => ⟨fun h1 h2 => absurd h1 h2, fun _ => rfl⟩)
end XH
end
section
/-! X: listLive and what reads its list -/
section XI
variable {f_maxNodes f_maxRules f_ruleCount f_counterexample f_optimized f_nodeCount f_outputCount f_applications : Int32} {a_preRelation a_preVariable a_preConstant a_roomNeeded a_useCount a_treeSize a_treeKind a_treeValue a_treeA a_treeB a_treeResult a_constantValued a_maximal a_counterpart a_boundNode a_pending a_pendingCount a_nodeKind a_nodeValue a_nodeA a_nodeB a_nodeResult a_nodeUses a_outputNode a_seen a_order a_walkStack : Nat → Int32}
variable {lo : Nat} {K : Nat → Nat} {V : Nat → Int32} {A B : Nat → Option Nat} {rk O : Nat → Nat} {post : Int32 → St2 → Prop}
theorem x_listBelow (hlo : lo ≤ 32) (hG : pr_gw lo K V A B rk) (hg : gr_at lo K V A B a_nodeKind a_nodeValue a_nodeA a_nodeB) {n : Nat} (tn : pr_T lo K n) {L : List Nat} (nd : L.Nodup) (cl : pr_cl A B (fun x => x ∈ L)) (hnL : n ∉ L) (hreg : ∀ x, x ∈ L → lo ≤ x ∧ x < lo + 32)
    (hls : pr_ls a_order L) (hse : ∀ c, c < 64 → (a_seen c = 0 ↔ c ∉ L))
    (h : ∀ se' od' st', (∀ c, c < 64 → (se' c = 0 ↔ c ∉ pr_po A B 32 n L)) → pr_ls od' (pr_po A B 32 n L) → post (nI (pr_po A B 32 n L).length) (f_maxNodes, f_maxRules, f_ruleCount, f_counterexample, f_optimized, f_nodeCount, f_outputCount, f_applications, a_preRelation, a_preVariable, a_preConstant, a_roomNeeded, a_useCount, a_treeSize, a_treeKind, a_treeValue, a_treeA, a_treeB, a_treeResult, a_constantValued, a_maximal, a_counterpart, a_boundNode, a_pending, a_pendingCount, a_nodeKind, a_nodeValue, a_nodeA, a_nodeB, a_nodeResult, a_nodeUses, a_outputNode, se', od', st')) :
    wpX_listBelow post (f_maxNodes, f_maxRules, f_ruleCount, f_counterexample, f_optimized, f_nodeCount, f_outputCount, f_applications, a_preRelation, a_preVariable, a_preConstant, a_roomNeeded, a_useCount, a_treeSize, a_treeKind, a_treeValue, a_treeA, a_treeB, a_treeResult, a_constantValued, a_maximal, a_counterpart, a_boundNode, a_pending, a_pendingCount, a_nodeKind, a_nodeValue, a_nodeA, a_nodeB, a_nodeResult, a_nodeUses, a_outputNode, a_seen, a_order, a_walkStack) (nI n) (nI L.length) := by
  have tn2 := tn.2.1
  have hT := pr_gw_T hG
  have hrk := pr_gw_r hG n tn
  obtain ⟨M, eM, m1, m2, m3, m4⟩ := pr_po_ok hT 32 n hrk tn L nd cl
  have hlen : (L ++ M).length ≤ 32 := pr_len m1 (lo := lo) (fun x hx => by
    rcases List.mem_append.mp hx with hx | hx
    · exact hreg x hx
    · exact ⟨(m4 x hx).1.1, (m4 x hx).1.2.1⟩)
  unfold wpX_listBelow
  refine nm_e ⟨pk_in n 64 (by omega), ?_⟩
  rw [nI_clamp (by omega)]
  refine nm_e ⟨65, ?_⟩
  refine x_visit hlo hG hg 32 n hrk tn L nd cl hnL hreg 65 0 0 (upd a_seen n 1) a_order (upd a_walkStack 0 (nI n)) (by omega) (by omega) ?_ pk_us hls ?_ ?_ ?_
  · rw [eM]
    omega
  · intro c tc rc
    rw [pk_un (fun e => by rw [e] at rc; omega)]
    have := tc.2.1
    exact hse c (by omega)
  · rw [pk_us]
    decide
  · intro f' se' od' st' hf' _ hls' hsk
    obtain ⟨g, rfl⟩ : ∃ g, f' = g + 1 := ⟨f' - 1, by rw [eM] at hf'; omega⟩
    have hpost := h se' od' st' (fun c hc => ?_) hls'
    · by_cases h64 : (64 : Int32) ≤ nI (0 + 2 * (pr_po A B 32 n L).length - 2 * L.length - 1)
      · exact br_t h64 hpost
      · exact br_f h64 (br_t (by decide) hpost)
    · by_cases hx : c ∈ pr_po A B 32 n L
      · refine ⟨fun h0 => ?_, fun hn => absurd hx hn⟩
        exfalso
        by_cases hl : c ∈ L
        · have hcn : c ≠ n := fun e => hnL (e ▸ hl)
          rw [(hsk c).2 (Or.inl hl), pk_un hcn] at h0
          exact (hse c hc).mp h0 hl
        · exact (hsk c).1 hx hl h0
      · refine ⟨fun _ => hx, fun _ => ?_⟩
        have hcn : c ≠ n := fun e => hx (by rw [e, eM]; exact m3)
        rw [(hsk c).2 (Or.inr hx), pk_un hcn]
        exact (hse c hc).mpr fun hl => hx (by rw [eM]; exact List.mem_append_left _ hl)
theorem x_live25 {g oc : Nat} (hlo : lo ≤ 32) (hG : pr_gw lo K V A B rk) (hg : gr_at lo K V A B a_nodeKind a_nodeValue a_nodeA a_nodeB) (hgc : g < 2) (hoc : oc ≤ 4) (hO : ∀ k, k < oc → pr_T lo K (O (g * 4 + k)) ∧ a_outputNode (g * 4 + k) = nI (O (g * 4 + k)))
    (h : ∀ se' od' st', (∀ c, c < 64 → (se' c = 0 ↔ c ∉ pr_lv A B O (g * 4) oc)) → pr_ls od' (pr_lv A B O (g * 4) oc) → post (nI (pr_lv A B O (g * 4) oc).length) (f_maxNodes, f_maxRules, f_ruleCount, f_counterexample, f_optimized, f_nodeCount, (nI oc), f_applications, a_preRelation, a_preVariable, a_preConstant, a_roomNeeded, a_useCount, a_treeSize, a_treeKind, a_treeValue, a_treeA, a_treeB, a_treeResult, a_constantValued, a_maximal, a_counterpart, a_boundNode, a_pending, a_pendingCount, a_nodeKind, a_nodeValue, a_nodeA, a_nodeB, a_nodeResult, a_nodeUses, a_outputNode, se', od', st')) :
    ∀ d i se od st, i + d = oc → (∀ c, c < 64 → (se c = 0 ↔ c ∉ pr_lv A B O (g * 4) i)) → pr_ls od (pr_lv A B O (g * 4) i) → wX_listLive_25 post (nI g) (d + 1) (nI (pr_lv A B O (g * 4) i).length) (nI i) f_maxNodes f_maxRules f_ruleCount f_counterexample f_optimized f_nodeCount (nI oc) f_applications a_preRelation a_preVariable a_preConstant a_roomNeeded a_useCount a_treeSize a_treeKind a_treeValue a_treeA a_treeB a_treeResult a_constantValued a_maximal a_counterpart a_boundNode a_pending a_pendingCount a_nodeKind a_nodeValue a_nodeA a_nodeB a_nodeResult a_nodeUses a_outputNode se od st := by
  intro d
  have hT := pr_gw_T hG
  induction d with
  | zero =>
    intro i se od st hi hse hls
    refine pk_le oc i (fun _ => ?_) (fun h => absurd h (by omega))
    have e : i = oc := by omega
    subst e
    exact h se od st hse hls
  | succ d ih =>
    intro i se od st hi hse hls
    obtain ⟨to, eo⟩ := hO i (by omega)
    have to2 := to.2.1
    obtain ⟨l1, l2, l3, l4⟩ := pr_lv_ok (O := O) (ob := g * 4) hT (pr_gw_r hG) i (fun k hk => (hO k (by omega)).1)
    have e4 : nI g * 4 + nI i = nI (g * 4 + i) := by
      rw [show (4 : Int32) = nI 4 from rfl, pk_mul, nI_add]
    refine pk_le oc i (fun h => absurd h (by omega)) (fun _ => ?_)
    rw [e4]
    refine ⟨pk_in (g * 4 + i) 8 (by omega), ?_⟩
    rw [nI_clamp (by omega)]
    refine nm_r eo ⟨pk_in (O (g * 4 + i)) 64 (by omega), ?_⟩
    rw [nI_clamp (by omega)]
    refine br_c (fun h0 => ?_) (fun h0 => ?_)
    · have hnl := (hse _ (by omega)).mp h0
      refine x_listBelow hlo hG hg to l1 l2 hnl (fun x hx => ⟨(l4 x hx).1.1, (l4 x hx).1.2.1⟩) hls hse (fun se' od' st' h1 h2 => ?_)
      exact nm_r (nI_1 _) (ih (i + 1) se' od' st' (by omega) h1 h2)
    · have hin : O (g * 4 + i) ∈ pr_lv A B O (g * 4) i := by
        apply Classical.byContradiction
        intro hn
        exact h0 ((hse _ (by omega)).mpr hn)
      have ee : pr_lv A B O (g * 4) (i + 1) = pr_lv A B O (g * 4) i := by
        show (if O (g * 4 + i) ∈ pr_lv A B O (g * 4) i then pr_lv A B O (g * 4) i else _) = _
        rw [if_pos hin]
      have := ih (i + 1) se od st (by omega) (by rw [ee]; exact hse) (by rw [ee]; exact hls)
      rw [ee] at this
      exact nm_r (nI_1 _) this
theorem x_listLive {g oc : Nat} (hlo : lo ≤ 32) (hG : pr_gw lo K V A B rk) (hg : gr_at lo K V A B a_nodeKind a_nodeValue a_nodeA a_nodeB) (hgc : g < 2) (hoc : oc ≤ 4) (hO : ∀ k, k < oc → pr_T lo K (O (g * 4 + k)) ∧ a_outputNode (g * 4 + k) = nI (O (g * 4 + k)))
    (h : ∀ se' od' st', (∀ c, c < 64 → (se' c = 0 ↔ c ∉ pr_lv A B O (g * 4) oc)) → pr_ls od' (pr_lv A B O (g * 4) oc) → post (nI (pr_lv A B O (g * 4) oc).length) (f_maxNodes, f_maxRules, f_ruleCount, f_counterexample, f_optimized, f_nodeCount, (nI oc), f_applications, a_preRelation, a_preVariable, a_preConstant, a_roomNeeded, a_useCount, a_treeSize, a_treeKind, a_treeValue, a_treeA, a_treeB, a_treeResult, a_constantValued, a_maximal, a_counterpart, a_boundNode, a_pending, a_pendingCount, a_nodeKind, a_nodeValue, a_nodeA, a_nodeB, a_nodeResult, a_nodeUses, a_outputNode, se', od', st')) :
    wpX_listLive post (f_maxNodes, f_maxRules, f_ruleCount, f_counterexample, f_optimized, f_nodeCount, (nI oc), f_applications, a_preRelation, a_preVariable, a_preConstant, a_roomNeeded, a_useCount, a_treeSize, a_treeKind, a_treeValue, a_treeA, a_treeB, a_treeResult, a_constantValued, a_maximal, a_counterpart, a_boundNode, a_pending, a_pendingCount, a_nodeKind, a_nodeValue, a_nodeA, a_nodeB, a_nodeResult, a_nodeUses, a_outputNode, a_seen, a_order, a_walkStack) (nI g) := by
  have l2 : ∀ d i se, i + d = 64 → (∀ c, c < i → se c = 0) → wX_listLive_2 post (nI g) f_maxNodes f_maxRules f_ruleCount f_counterexample f_optimized f_nodeCount (nI oc) f_applications (d + 1) (nI i) a_preRelation a_preVariable a_preConstant a_roomNeeded a_useCount a_treeSize a_treeKind a_treeValue a_treeA a_treeB a_treeResult a_constantValued a_maximal a_counterpart a_boundNode a_pending a_pendingCount a_nodeKind a_nodeValue a_nodeA a_nodeB a_nodeResult a_nodeUses a_outputNode se a_order a_walkStack := by
    intro d
    induction d with
    | zero =>
      intro i se hi hse
      refine pk_le 64 i (fun _ => ⟨oc + 1, ?_⟩) (fun h => absurd h (by omega))
      refine x_live25 hlo hG hg hgc hoc hO h oc 0 se a_order a_walkStack (by omega) (fun c hc => ⟨fun _ hx => (by cases hx), fun _ => hse c (by omega)⟩) (fun i hi => absurd hi (by show ¬ i < 0; omega))
    | succ d ih =>
      intro i se hi hse
      refine pk_le 64 i (fun h => absurd h (by omega)) (fun _ => ⟨pk_in i 64 (by omega), ?_⟩)
      rw [nI_clamp (by omega)]
      refine nm_e (nm_r (nI_1 _) (ih (i + 1) _ (by omega) fun c hc => ?_))
      by_cases e : c = i
      · rw [e, pk_us]
      · rw [pk_un e]
        exact hse c (by omega)
  exact ⟨65, l2 64 0 a_seen (by omega) (fun c hc => absurd hc (by omega))⟩
end XI
end
section
/-! X: what reads the list: cost, count, uses, deletion, values -/
section XJ
variable {f_maxNodes f_maxRules f_ruleCount f_counterexample f_optimized f_nodeCount f_outputCount f_applications : Int32} {a_preRelation a_preVariable a_preConstant a_roomNeeded a_useCount a_treeSize a_treeKind a_treeValue a_treeA a_treeB a_treeResult a_constantValued a_maximal a_counterpart a_boundNode a_pending a_pendingCount a_nodeKind a_nodeValue a_nodeA a_nodeB a_nodeResult a_nodeUses a_outputNode a_seen a_order a_walkStack : Nat → Int32}
variable {lo : Nat} {K : Nat → Nat} {V : Nat → Int32} {A B : Nat → Option Nat} {rk O : Nat → Nat} {L : List Nat}
theorem pr_sm_tk (w : Nat → Nat) : ∀ (L : List Nat) (i : Nat), i < L.length → pr_sm w (L.take (i + 1)) = pr_sm w (L.take i) + w (L.getD i 0)
  | [], i, h => absurd h (by show ¬ i < 0; omega)
  | x :: L, 0, _ => by
    show w x + pr_sm w (L.take 0) = 0 + w x
    rw [List.take_zero]
    show w x + 0 = 0 + w x
    omega
  | x :: L, i + 1, h => by
    have hi : i < L.length := by
      rw [List.length_cons] at h
      omega
    have := pr_sm_tk w L i hi
    show w x + pr_sm w (L.take (i + 1)) = w x + pr_sm w (L.take i) + w (L.getD i 0)
    omega
theorem pr_sm_all (w : Nat → Nat) (L : List Nat) : pr_sm w (L.take L.length) = pr_sm w L := by
  rw [List.take_length]
theorem x_liveCost11 {post : Int32 → St2 → Prop} (hlo : lo ≤ 32) (hG : pr_gw lo K V A B rk) (hg : gr_at lo K V A B a_nodeKind a_nodeValue a_nodeA a_nodeB) (hLT : ∀ x, x ∈ L → pr_T lo K x) (hlen : L.length ≤ 32) (hls : pr_ls a_order L) (h : post (nI (pr_sm (fun s => pr_w (K s)) L)) (f_maxNodes, f_maxRules, f_ruleCount, f_counterexample, f_optimized, f_nodeCount, f_outputCount, f_applications, a_preRelation, a_preVariable, a_preConstant, a_roomNeeded, a_useCount, a_treeSize, a_treeKind, a_treeValue, a_treeA, a_treeB, a_treeResult, a_constantValued, a_maximal, a_counterpart, a_boundNode, a_pending, a_pendingCount, a_nodeKind, a_nodeValue, a_nodeA, a_nodeB, a_nodeResult, a_nodeUses, a_outputNode, a_seen, a_order, a_walkStack)) :
    ∀ d i, i + d = L.length → wX_liveCost_11 post (nI L.length) f_maxNodes f_maxRules f_ruleCount f_counterexample f_optimized f_nodeCount f_outputCount f_applications a_preRelation a_preVariable a_preConstant a_roomNeeded a_useCount a_treeSize a_treeKind a_treeValue a_treeA a_treeB a_treeResult a_constantValued a_maximal a_counterpart a_boundNode a_pending a_pendingCount a_nodeKind a_nodeValue a_nodeA a_nodeB a_nodeResult a_nodeUses a_outputNode a_seen a_order a_walkStack (d + 1) (nI (pr_sm (fun s => pr_w (K s)) (L.take i))) (nI i) := by
  intro d
  induction d with
  | zero =>
    intro i hi
    refine pk_le L.length i (fun _ => ?_) (fun h => absurd h (by omega))
    rw [show i = L.length by omega, pr_sm_all]
    exact h
  | succ d ih =>
    intro i hi
    have hi' : i < L.length := by omega
    have tx := hLT _ (pr_gd_m hi')
    have tx2 := tx.2.1
    have hh := ih (i + 1) (by omega)
    rw [pr_sm_tk _ L i hi'] at hh
    refine pk_le L.length i (fun h => absurd h (by omega)) (fun _ => ⟨pk_in i 32 (by omega), ?_⟩)
    rw [nI_clamp (n := i) (by omega), hls i hi']
    refine ⟨pk_in (L.getD i 0) 64 (by omega), ?_⟩
    rw [nI_clamp (by omega), (hg _ tx).1]
    have := (hG _ tx).1
    exact x_weight (by omega) (nm_r (nI_add _ _) (nm_r (nI_1 _) hh))
theorem x_liveCost {post : Int32 → St2 → Prop} {g oc : Nat} (hG : pr_gw (g * 32) K V A B rk) (hg : gr_at (g * 32) K V A B a_nodeKind a_nodeValue a_nodeA a_nodeB) (hgc : g < 2) (hoc : oc ≤ 4) (hO : ∀ k, k < oc → pr_T (g * 32) K (O (g * 4 + k)) ∧ a_outputNode (g * 4 + k) = nI (O (g * 4 + k))) (hL : L = pr_lv A B O (g * 4) oc)
    (h : ∀ se' od' st', post (nI (pr_sm (fun s => pr_w (K s)) L)) (f_maxNodes, f_maxRules, f_ruleCount, f_counterexample, f_optimized, f_nodeCount, (nI oc), f_applications, a_preRelation, a_preVariable, a_preConstant, a_roomNeeded, a_useCount, a_treeSize, a_treeKind, a_treeValue, a_treeA, a_treeB, a_treeResult, a_constantValued, a_maximal, a_counterpart, a_boundNode, a_pending, a_pendingCount, a_nodeKind, a_nodeValue, a_nodeA, a_nodeB, a_nodeResult, a_nodeUses, a_outputNode, se', od', st')) : wpX_liveCost post (f_maxNodes, f_maxRules, f_ruleCount, f_counterexample, f_optimized, f_nodeCount, (nI oc), f_applications, a_preRelation, a_preVariable, a_preConstant, a_roomNeeded, a_useCount, a_treeSize, a_treeKind, a_treeValue, a_treeA, a_treeB, a_treeResult, a_constantValued, a_maximal, a_counterpart, a_boundNode, a_pending, a_pendingCount, a_nodeKind, a_nodeValue, a_nodeA, a_nodeB, a_nodeResult, a_nodeUses, a_outputNode, a_seen, a_order, a_walkStack) (nI g) := by
  have hlk := pr_lv_ok (O := O) (ob := g * 4) (pr_gw_T hG) (pr_gw_r hG) oc (fun k hk => (hO k hk).1)
  have hlen := pr_len hlk.1 (fun x hx => ⟨(hlk.2.2.2 x hx).1.1, (hlk.2.2.2 x hx).1.2.1⟩)
  unfold wpX_liveCost
  refine x_listLive (by omega) hG hg hgc hoc hO (fun se' od' st' h1 h2 => ⟨(pr_lv A B O (g * 4) oc).length + 1, ?_⟩)
  exact x_liveCost11 (by omega) hG hg (fun x hx => (hlk.2.2.2 x hx).1) hlen h2 (by rw [← hL]; exact h se' od' st') _ 0 (by omega)
theorem x_evaluateNode {post : St2 → Prop} {ar : Int32} {n : Nat} (hlo : lo ≤ 32) (hG : pr_gw lo K V A B rk) (hg : gr_at lo K V A B a_nodeKind a_nodeValue a_nodeA a_nodeB) (tn : pr_T lo K n) (hch : ∀ c, A n = some c ∨ B n = some c → a_nodeResult c = pr_ev K V A B ar 32 c)
    (h : post (f_maxNodes, f_maxRules, f_ruleCount, f_counterexample, f_optimized, f_nodeCount, f_outputCount, f_applications, a_preRelation, a_preVariable, a_preConstant, a_roomNeeded, a_useCount, a_treeSize, a_treeKind, a_treeValue, a_treeA, a_treeB, a_treeResult, a_constantValued, a_maximal, a_counterpart, a_boundNode, a_pending, a_pendingCount, a_nodeKind, a_nodeValue, a_nodeA, a_nodeB, (upd a_nodeResult n (pr_ev K V A B ar 32 n)), a_nodeUses, a_outputNode, a_seen, a_order, a_walkStack)) : wpX_evaluateNode post (f_maxNodes, f_maxRules, f_ruleCount, f_counterexample, f_optimized, f_nodeCount, f_outputCount, f_applications, a_preRelation, a_preVariable, a_preConstant, a_roomNeeded, a_useCount, a_treeSize, a_treeKind, a_treeValue, a_treeA, a_treeB, a_treeResult, a_constantValued, a_maximal, a_counterpart, a_boundNode, a_pending, a_pendingCount, a_nodeKind, a_nodeValue, a_nodeA, a_nodeB, a_nodeResult, a_nodeUses, a_outputNode, a_seen, a_order, a_walkStack) (nI n) ar := by
  have tn2 := tn.2.1
  obtain ⟨g1, g2, g3, g4, g5, g6, g7, g8, g9, g10⟩ := hG n tn
  obtain ⟨k1, k2, k3, k4⟩ := hg n tn
  have hK0 := tn.2.2
  have hin : vp_in (nI n) 64 := pk_in n 64 (by omega)
  have hcl : (nI n).toNatClampNeg = n := nI_clamp (by omega)
  rw [pr_ev_eq hG tn] at h
  unfold pr_en at h
  unfold wpX_evaluateNode
  refine ⟨hin, ?_⟩
  rw [hcl]
  refine nm_r k1 (pk_eq (K n) 11 (fun e => ⟨hin, hin, ?_⟩) (fun n11 => pk_eq (K n) 12 (fun e => ⟨hin, hin, ?_⟩) (fun n12 => ⟨hin, ?_⟩)))
  · rw [if_pos e] at h
    rw [k2]
    exact nm_e h
  · rw [if_neg n11, if_pos e] at h
    rw [k2]
    exact nm_e h
  · rw [if_neg n11, if_neg n12] at h
    obtain ⟨ca, hca⟩ := g8 (by omega)
    have tca := (g10 ca (Or.inl hca)).1.2.1
    rw [hca] at h
    have h83 : ∀ b, b = pr_ov (pr_ev K V A B ar 32) (B n) → wX_evaluateNode_83 post (nI n) (nI (K n)) b f_maxNodes f_maxRules f_ruleCount f_counterexample f_optimized f_nodeCount f_outputCount f_applications a_preRelation a_preVariable a_preConstant a_roomNeeded a_useCount a_treeSize a_treeKind a_treeValue a_treeA a_treeB a_treeResult a_constantValued a_maximal a_counterpart a_boundNode a_pending a_pendingCount a_nodeKind a_nodeValue a_nodeA a_nodeB a_nodeResult a_nodeUses a_outputNode a_seen a_order a_walkStack := by
      intro b hb
      subst hb
      refine ⟨hin, ?_⟩
      rw [hcl, k3, hca]
      refine ⟨pk_in ca 64 (by omega), ?_⟩
      rw [show (pr_oI (some ca)).toNatClampNeg = ca from nI_clamp (by omega), hch ca (Or.inl hca)]
      exact x_compute (by omega) (by omega) ⟨hin, nm_e h⟩
    rw [k4]
    cases hb : B n with
    | none => exact br_t rfl (h83 _ (by rw [hb]; rfl))
    | some cb =>
      have tcb := (g10 cb (Or.inr hb)).1.2.1
      refine br_f (pr_ne1 (by omega)) ⟨hin, pk_in cb 64 (by omega), ?_⟩
      rw [show (pr_oI (some cb)).toNatClampNeg = cb from nI_clamp (by omega)]
      exact h83 _ (by rw [hb, hch cb (Or.inr hb)]; rfl)
end XJ
/-- in a postorder list the operands of a node stand before it -/
def pr_pre (A B : Nat → Option Nat) (L : List Nat) : Prop := ∀ i, i < L.length → ∀ c, A (L.getD i 0) = some c ∨ B (L.getD i 0) = some c → ∃ k, k < i ∧ L.getD k 0 = c
theorem pr_pre_oc {T : Nat → Prop} {A B : Nat → Option Nat} {rk : Nat → Nat} {g : Nat → List Nat → List Nat} {o : Option Nat} {L : List Nat} (hg : ∀ c, o = some c → ∀ L : List Nat, L.Nodup → pr_cl A B (fun x => x ∈ L) → pr_pre A B L → pr_pre A B (g c L)) (h1 : L.Nodup) (h2 : pr_cl A B (fun x => x ∈ L)) (h3 : pr_pre A B L) : pr_pre A B (pr_oc g o L) := by
  cases o with
  | none => exact h3
  | some c => exact hg c rfl L h1 h2 h3
theorem pr_gd_ex {L : List Nat} {x : Nat} (h : x ∈ L) : ∃ k, k < L.length ∧ L.getD k 0 = x := by
  obtain ⟨k, hk, e⟩ := List.getElem_of_mem h
  refine ⟨k, hk, ?_⟩
  rw [List.getD_eq_getElem?_getD, List.getElem?_eq_getElem hk]
  exact e
theorem pr_pre_po {T : Nat → Prop} {A B : Nat → Option Nat} {rk : Nat → Nat} (hT : ∀ n c, T n → (A n = some c ∨ B n = some c) → T c ∧ rk c < rk n) :
    ∀ f n, rk n < f → T n → ∀ L : List Nat, L.Nodup → pr_cl A B (fun x => x ∈ L) → pr_pre A B L → pr_pre A B (pr_po A B f n L) := by
  intro f
  induction f with
  | zero =>
    intro n h
    omega
  | succ f ih =>
    intro n hn tn L h1 h2 h3
    show pr_pre A B (if n ∈ L then L else pr_oc (pr_po A B f) (B n) (pr_oc (pr_po A B f) (A n) L) ++ [n])
    by_cases hm : n ∈ L
    · rw [if_pos hm]
      exact h3
    · rw [if_neg hm]
      obtain ⟨M1, e1, a1, b1, c1, d1⟩ := pr_oc_ok (T := T) (rk := rk) (g := pr_po A B f) (o := A n) (L := L) (fun c hc => pr_po_ok hT f c (by have := (hT n c tn (Or.inl hc)).2; omega) (hT n c tn (Or.inl hc)).1) h1 h2
      obtain ⟨M2, e2, a2, b2, c2, d2⟩ := pr_oc_ok (T := T) (rk := rk) (g := pr_po A B f) (o := B n) (L := L ++ M1) (fun c hc => pr_po_ok hT f c (by have := (hT n c tn (Or.inr hc)).2; omega) (hT n c tn (Or.inr hc)).1) a1 b1
      have p1 : pr_pre A B (L ++ M1) := by
        rw [← e1]
        exact pr_pre_oc (T := T) (rk := rk) (fun c hc => ih c (by have := (hT n c tn (Or.inl hc)).2; omega) (hT n c tn (Or.inl hc)).1) h1 h2 h3
      have p2 : pr_pre A B (L ++ M1 ++ M2) := by
        rw [← e2]
        exact pr_pre_oc (T := T) (rk := rk) (fun c hc => ih c (by have := (hT n c tn (Or.inr hc)).2; omega) (hT n c tn (Or.inr hc)).1) a1 b1 p1
      rw [e1, e2]
      intro i hi c hc
      rw [List.length_append, List.length_singleton] at hi
      by_cases e : i = (L ++ M1 ++ M2).length
      · rw [e, pr_gd_s] at hc
        have hin : c ∈ L ++ M1 ++ M2 := by
          rcases hc with hc | hc
          · exact List.mem_append_left _ (c1 c hc)
          · exact c2 c hc
        obtain ⟨k, hk, ek⟩ := pr_gd_ex hin
        exact ⟨k, by omega, by rw [pr_gd_l hk]; exact ek⟩
      · rw [pr_gd_l (by omega)] at hc
        obtain ⟨k, hk, ek⟩ := p2 i (by omega) c hc
        exact ⟨k, hk, by rw [pr_gd_l (by omega)]; exact ek⟩
theorem pr_pre_lv {T : Nat → Prop} {A B : Nat → Option Nat} {rk O : Nat → Nat} {ob : Nat} (hT : ∀ n c, T n → (A n = some c ∨ B n = some c) → T c ∧ rk c < rk n) (hr : ∀ n, T n → rk n < 32) :
    ∀ k, (∀ i, i < k → T (O (ob + i))) → pr_pre A B (pr_lv A B O ob k)
  | 0, _ => fun i hi => absurd hi (by show ¬ i < 0; omega)
  | k + 1, ho => by
    have hl := pr_lv_ok (O := O) (ob := ob) hT hr k (fun i hi => ho i (by omega))
    exact pr_pre_po hT 32 _ (hr _ (ho k (by omega))) (ho k (by omega)) _ hl.1 hl.2.1 (pr_pre_lv hT hr k (fun i hi => ho i (by omega)))
section XK
variable {f_maxNodes f_maxRules f_ruleCount f_counterexample f_optimized f_nodeCount f_outputCount f_applications : Int32} {a_preRelation a_preVariable a_preConstant a_roomNeeded a_useCount a_treeSize a_treeKind a_treeValue a_treeA a_treeB a_treeResult a_constantValued a_maximal a_counterpart a_boundNode a_pending a_pendingCount a_nodeKind a_nodeValue a_nodeA a_nodeB a_nodeResult a_nodeUses a_outputNode a_seen a_order a_walkStack : Nat → Int32}
variable {K : Nat → Nat} {V : Nat → Int32} {A B : Nat → Option Nat} {rk O : Nat → Nat} {L : List Nat} {post : Int32 → St2 → Prop}
theorem x_eval39 {g k oc : Nat} {ar : Int32} (hgc : g < 2) (hk : k < oc) (hoc : oc ≤ 4) (hG : pr_gw (g * 32) K V A B rk) (hg : gr_at (g * 32) K V A B a_nodeKind a_nodeValue a_nodeA a_nodeB) (hO : ∀ k, k < oc → pr_T (g * 32) K (O (g * 4 + k)) ∧ a_outputNode (g * 4 + k) = nI (O (g * 4 + k)))
    (hL : pr_lk (pr_T (g * 32) K) A B O (g * 4) oc L) (hpre : pr_pre A B L) (hls : pr_ls a_order L)
    (h : ∀ nr', post (pr_ev K V A B ar 32 (O (g * 4 + k))) (f_maxNodes, f_maxRules, f_ruleCount, f_counterexample, f_optimized, f_nodeCount, f_outputCount, f_applications, a_preRelation, a_preVariable, a_preConstant, a_roomNeeded, a_useCount, a_treeSize, a_treeKind, a_treeValue, a_treeA, a_treeB, a_treeResult, a_constantValued, a_maximal, a_counterpart, a_boundNode, a_pending, a_pendingCount, a_nodeKind, a_nodeValue, a_nodeA, a_nodeB, nr', a_nodeUses, a_outputNode, a_seen, a_order, a_walkStack)) :
    ∀ d i nr, i + d = L.length → (∀ q, q < i → nr (L.getD q 0) = pr_ev K V A B ar 32 (L.getD q 0)) → wX_eval_39 post (nI k) ar (nI g) (nI L.length) (d + 1) (nI i) f_maxNodes f_maxRules f_ruleCount f_counterexample f_optimized f_nodeCount f_outputCount f_applications a_preRelation a_preVariable a_preConstant a_roomNeeded a_useCount a_treeSize a_treeKind a_treeValue a_treeA a_treeB a_treeResult a_constantValued a_maximal a_counterpart a_boundNode a_pending a_pendingCount a_nodeKind a_nodeValue a_nodeA a_nodeB nr a_nodeUses a_outputNode a_seen a_order a_walkStack := by
  intro d
  have hlen := pr_len hL.1 (fun x hx => ⟨(hL.2.2.2 x hx).1.1, (hL.2.2.2 x hx).1.2.1⟩)
  induction d with
  | zero =>
    intro i nr hi hq
    have e4 : nI g * 4 + nI k = nI (g * 4 + k) := by
      rw [show (4 : Int32) = nI 4 from rfl, pk_mul, nI_add]
    obtain ⟨to, eo⟩ := hO k hk
    have to2 := to.2.1
    refine pk_le L.length i (fun _ => ?_) (fun h => absurd h (by omega))
    rw [e4]
    refine ⟨pk_in (g * 4 + k) 8 (by omega), ?_⟩
    rw [nI_clamp (by omega), eo]
    refine ⟨pk_in (O (g * 4 + k)) 64 (by omega), ?_⟩
    rw [nI_clamp (by omega)]
    obtain ⟨q, hq1, hq2⟩ := pr_gd_ex (hL.2.2.1 k hk)
    have := hq q (by omega)
    rw [hq2] at this
    rw [this]
    exact h nr
  | succ d ih =>
    intro i nr hi hq
    have hi' : i < L.length := by omega
    have tx := (hL.2.2.2 _ (pr_gd_m hi')).1
    refine pk_le L.length i (fun h => absurd h (by omega)) (fun _ => ⟨pk_in i 32 (by omega), ?_⟩)
    rw [nI_clamp (by omega), hls i hi']
    refine x_evaluateNode (by omega) hG hg tx (fun c hc => ?_) (nm_r (nI_1 _) (ih (i + 1) _ (by omega) fun q hq' => ?_))
    · obtain ⟨q, q1, q2⟩ := hpre i hi' c hc
      have := hq q q1
      rw [q2] at this
      exact this
    · by_cases e : L.getD q 0 = L.getD i 0
      · rw [e, pk_us]
      · rw [pk_un e]
        refine hq q ?_
        have : q ≠ i := fun hx => e (by rw [hx])
        omega
theorem x_eval26 {g k oc : Nat} {ar : Int32} (hgc : g < 2) (hk : k < oc) (hoc : oc ≤ 4) (hG : pr_gw (g * 32) K V A B rk) (hg : gr_at (g * 32) K V A B a_nodeKind a_nodeValue a_nodeA a_nodeB) (hO : ∀ k, k < oc → pr_T (g * 32) K (O (g * 4 + k)) ∧ a_outputNode (g * 4 + k) = nI (O (g * 4 + k)))
    (h : ∀ nr' se' od' st', post (pr_ev K V A B ar 32 (O (g * 4 + k))) (f_maxNodes, f_maxRules, f_ruleCount, f_counterexample, f_optimized, f_nodeCount, (nI oc), f_applications, a_preRelation, a_preVariable, a_preConstant, a_roomNeeded, a_useCount, a_treeSize, a_treeKind, a_treeValue, a_treeA, a_treeB, a_treeResult, a_constantValued, a_maximal, a_counterpart, a_boundNode, a_pending, a_pendingCount, a_nodeKind, a_nodeValue, a_nodeA, a_nodeB, nr', a_nodeUses, a_outputNode, se', od', st')) :
    wX_eval_26 post (nI k) ar (nI g) f_maxNodes f_maxRules f_ruleCount f_counterexample f_optimized f_nodeCount (nI oc) f_applications a_preRelation a_preVariable a_preConstant a_roomNeeded a_useCount a_treeSize a_treeKind a_treeValue a_treeA a_treeB a_treeResult a_constantValued a_maximal a_counterpart a_boundNode a_pending a_pendingCount a_nodeKind a_nodeValue a_nodeA a_nodeB a_nodeResult a_nodeUses a_outputNode a_seen a_order a_walkStack := by
  have hlk := pr_lv_ok (O := O) (ob := g * 4) (pr_gw_T hG) (pr_gw_r hG) oc (fun k hk => (hO k hk).1)
  have hpre := pr_pre_lv (O := O) (ob := g * 4) (pr_gw_T hG) (pr_gw_r hG) oc (fun k hk => (hO k hk).1)
  unfold wX_eval_26
  refine x_listLive (by omega) hG hg hgc hoc hO (fun se' od' st' h1 h2 => ⟨(pr_lv A B O (g * 4) oc).length + 1, ?_⟩)
  exact x_eval39 hgc hk hoc hG hg hO hlk hpre h2 (fun nr' => h nr' se' od' st') _ 0 a_nodeResult (by omega) (fun q hq => absurd hq (by omega))
end XK
end
section
/-! the relation: one pure state, both sides related to it -/
def pr_rule (P R : pr_PT) (rl rj rK : Nat) : Prop :=
  pt_ok P ∧ pt_fin P ∧ pt_k P (pt_n P - 1) ≤ 10 ∧ pt_ok R ∧ pt_fin R ∧ (∀ i, i < pt_n R → pt_k R i ≠ 14) ∧ (∀ q, q < pt_n R → pt_k R q = 13 → ∃ p, p < pt_n P ∧ 13 ≤ pt_k P p ∧ pt_v P p = pt_v R q) ∧
  rl ≤ 4 ∧ (rl ≠ 0 → rj < 2 ∧ rK < 256 ∧ pt_has P 14 rj = true) ∧ pt_rw R (pt_has P 14) < pt_pw P ∧ (∀ j, pt_has P 13 j = true → pt_has P 14 j = false)
def sp_dr (D : Nat → pr_PT) (ps : Nat → Nat → Nat) (dc : Nat → Nat) (dl dj dk : Nat) : Prop :=
  (∀ s, s < 2 → pt_ok (D s) ∧ pd_ok (D s) (ps s) (dc s)) ∧ (∀ i, i < pt_n (D 1) → pt_k (D 1) i ≠ 14) ∧ dl ≤ 4 ∧ (dl ≠ 0 → dj < 2 ∧ dk < 256)
def sp_gr (mN ph nc oc : Nat) (K : Nat → Nat) (V : Nat → Int32) (A B : Nat → Option Nat) (O : Nat → Nat) : Prop :=
  ∃ rk rk2 : Nat → Nat, pr_gw 0 K V A B rk ∧ (∀ k, k < oc → pr_T 0 K (O k)) ∧ (ph = 0 → (rk = fun n => n) ∧ nc ≤ mN ∧ ∀ n, n < 32 → (K n = 0 ↔ nc ≤ n)) ∧ (ph = 1 → pr_gw 32 K V A B rk2 ∧ (∀ k, k < oc → pr_T 32 K (O (4 + k))) ∧ ∀ x, pr_T 0 K x → x ∈ pr_lv A B O 0 oc)
def sp_ok (mN : Nat) (mR : Nat) (rc : Nat) (ph : Nat) (nc : Nat) (oc : Nat) (cx : Int32) (ap : Int32) (P : Nat → pr_PT) (R : Nat → pr_PT) (rl : Nat → Nat) (rj : Nat → Nat) (rK : Nat → Nat) (uc : Nat → Int32) (D : Nat → pr_PT) (ps : Nat → Nat → Nat) (dc : Nat → Nat) (dl : Nat) (dj : Nat) (dk : Nat) (K : Nat → Nat) (V : Nat → Int32) (A : Nat → Option Nat) (B : Nat → Option Nat) (O : Nat → Nat) : Prop :=
  8 ≤ mN ∧ mN ≤ 32 ∧ 1 ≤ mR ∧ mR ≤ 16 ∧ rc ≤ mR ∧ ph ≤ 1 ∧ oc ≤ 4 ∧ (∀ r, r < rc → pr_rule (P r) (R r) (rl r) (rj r) (rK r)) ∧ sp_dr D ps dc dl dj dk ∧ sp_gr mN ph nc oc K V A B O
/-- a precondition kept in arrays at the place x -/
def pe_at (x rl rj rK : Nat) (pr pv pc : Nat → Int32) : Prop := pr x = nI rl ∧ (rl ≠ 0 → pv x = nI rj ∧ pc x = nI rK)
def xr_rule (r : Nat) (P R : pr_PT) (sz kd vl ta tb cv mx rn : Nat → Int32) : Prop :=
  tr_at ((r * 2 + 0) * 8) (r * 2 + 0) P sz kd vl ta tb ∧ tr_at ((r * 2 + 1) * 8) (r * 2 + 1) R sz kd vl ta tb ∧ (∀ q, q < pt_n R → cv ((r * 2 + 1) * 8 + q) = pr_b (pt_cv R (pt_has P 14) q)) ∧ (∀ q, q < pt_n R → mx ((r * 2 + 1) * 8 + q) = pr_b (pt_mx R (pt_has P 14) q)) ∧ rn r = nI (pt_rm R (pt_has P 14))
/-- the draft in the rule slot x, its pending subtrees as places from the offset o s on -/
def dr_at (x : Nat) (o : Nat → Nat) (D : Nat → pr_PT) (ps : Nat → Nat → Nat) (dc : Nat → Nat) (sz kd vl ta tb pn pc : Nat → Int32) : Prop :=
  ∀ s, s < 2 → tr_at (o s) (x * 2 + s) (D s) sz kd vl ta tb ∧ pc s = nI (dc s) ∧ ∀ q, q < dc s → pn (s * 8 + q) = nI (o s + ps s q)
def gr_all (ph oc : Nat) (K : Nat → Nat) (V : Nat → Int32) (A B : Nat → Option Nat) (O : Nat → Nat) (nk nv na nb ou : Nat → Int32) : Prop :=
  gr_at 0 K V A B nk nv na nb ∧ (∀ k, k < oc → ou k = nI (O k)) ∧ (ph = 1 → gr_at 32 K V A B nk nv na nb ∧ ∀ k, k < oc → ou (4 + k) = nI (O (4 + k)))
def rx (mN : Nat) (mR : Nat) (rc : Nat) (ph : Nat) (nc : Nat) (oc : Nat) (cx : Int32) (ap : Int32) (P : Nat → pr_PT) (R : Nat → pr_PT) (rl : Nat → Nat) (rj : Nat → Nat) (rK : Nat → Nat) (uc : Nat → Int32) (D : Nat → pr_PT) (ps : Nat → Nat → Nat) (dc : Nat → Nat) (dl : Nat) (dj : Nat) (dk : Nat) (K : Nat → Nat) (V : Nat → Int32) (A : Nat → Option Nat) (B : Nat → Option Nat) (O : Nat → Nat) (u : St2) : Prop := match u with
  | (f_maxNodes, f_maxRules, f_ruleCount, f_counterexample, f_optimized, f_nodeCount, f_outputCount, f_applications, a_preRelation, a_preVariable, a_preConstant, a_roomNeeded, a_useCount, a_treeSize, a_treeKind, a_treeValue, a_treeA, a_treeB, a_treeResult, a_constantValued, a_maximal, a_counterpart, a_boundNode, a_pending, a_pendingCount, a_nodeKind, a_nodeValue, a_nodeA, a_nodeB, a_nodeResult, a_nodeUses, a_outputNode, a_seen, a_order, a_walkStack) => f_maxNodes = nI mN ∧ f_maxRules = nI mR ∧ f_ruleCount = nI rc ∧ f_counterexample = cx ∧ f_optimized = nI ph ∧ f_nodeCount = nI nc ∧ f_outputCount = nI oc ∧ f_applications = ap ∧
    (∀ r, r < rc → xr_rule r (P r) (R r) a_treeSize a_treeKind a_treeValue a_treeA a_treeB a_constantValued a_maximal a_roomNeeded ∧ pe_at r (rl r) (rj r) (rK r) a_preRelation a_preVariable a_preConstant ∧ a_useCount r = uc r) ∧
    dr_at rc (fun s => (rc * 2 + s) * 8) D ps dc a_treeSize a_treeKind a_treeValue a_treeA a_treeB a_pending a_pendingCount ∧ pe_at rc dl dj dk a_preRelation a_preVariable a_preConstant ∧
    gr_all ph oc K V A B O a_nodeKind a_nodeValue a_nodeA a_nodeB a_outputNode
theorem gr_O0 {ph oc : Nat} {K : Nat → Nat} {V : Nat → Int32} {A B : Nat → Option Nat} {O : Nat → Nat} {nk nv na nb ou : Nat → Int32} (h : gr_all ph oc K V A B O nk nv na nb ou) (hO : ∀ k, k < oc → pr_T 0 K (O k)) : ∀ k, k < oc → pr_T (0 * 32) K (O (0 * 4 + k)) ∧ ou (0 * 4 + k) = nI (O (0 * 4 + k)) := by
  intro k hk
  have h1 := hO k hk
  have h2 := h.2.1 k hk
  rw [show 0 * 4 + k = k by omega]
  exact ⟨h1, h2⟩
theorem gr_1 {ph oc : Nat} {K : Nat → Nat} {V : Nat → Int32} {A B : Nat → Option Nat} {O : Nat → Nat} {nk nv na nb ou : Nat → Int32} (h : gr_all ph oc K V A B O nk nv na nb ou) (hp : ph = 1) (hO : ∀ k, k < oc → pr_T 32 K (O (4 + k))) : ∀ k, k < oc → pr_T (1 * 32) K (O (1 * 4 + k)) ∧ ou (1 * 4 + k) = nI (O (1 * 4 + k)) :=
  fun k hk => ⟨hO k hk, (h.2.2 hp).2 k hk⟩
theorem x_start {post : St2 → Prop} {u : St0} (h : ∀ v, sp_ok 32 16 0 0 0 0 (-1) 0 (fun _ => pt_0) (fun _ => pt_0) (fun _ => 0) (fun _ => 0) (fun _ => 0) (fun _ => 0) (fun _ => pt_0) (fun _ _ => 0) (fun _ => 0) 0 0 0 (fun _ => 0) (fun _ => 0) (fun _ => none) (fun _ => none) (fun _ => 0) → rx 32 16 0 0 0 0 (-1) 0 (fun _ => pt_0) (fun _ => pt_0) (fun _ => 0) (fun _ => 0) (fun _ => 0) (fun _ => 0) (fun _ => pt_0) (fun _ _ => 0) (fun _ => 0) 0 0 0 (fun _ => 0) (fun _ => 0) (fun _ => none) (fun _ => none) (fun _ => 0) v → post v) : wpX_init post 27 2835 u 32 16 := by
  have n0 : ∀ q : Nat, ¬ q < pt_n pt_0 := fun q h => absurd h (by show ¬ q < 0; omega)
  have hnT : ∀ lo n, ¬ pr_T lo (fun _ => 0) n := fun lo n h => h.2.2 rfl
  have fin : post (nI 32, nI 16, 0, (-1), 0, 0, 0, 0, (fun _ => 0), (fun _ => 0), (fun _ => 0), (fun _ => 0), (fun _ => 0), (fun _ => 0), (fun _ => 0), (fun _ => 0), (fun _ => 0), (fun _ => 0), (fun _ => 0), (fun _ => 0), (fun _ => 0), (fun _ => 0), (fun _ => 0), (fun _ => 0), (fun _ => 0), (fun _ => 0), (fun _ => 0), (fun _ => 0), (fun _ => 0), (fun _ => 0), (fun _ => 0), (fun _ => 0), (fun _ => 0), (fun _ => 0), (fun _ => 0)) := by
    refine h _ ?_ ?_
    · exact ⟨by omega, by omega, by omega, by omega, by omega, by omega, by omega, fun r hr => absurd hr (by omega), ⟨fun s _ => ⟨pt_0_ok, pd_0_ok _⟩, fun i hi => absurd hi (n0 i), by omega, fun h => absurd rfl h⟩, fun n => n, fun n => n, fun n hn => absurd hn (hnT 0 n), fun k hk => absurd hk (by omega), fun _ => ⟨rfl, by omega, fun n _ => ⟨fun _ => Nat.zero_le n, fun _ => rfl⟩⟩, fun h => absurd h (by omega)⟩
    · exact ⟨rfl, rfl, rfl, rfl, rfl, rfl, rfl, rfl, fun r hr => absurd hr (by omega), fun s hs => ⟨⟨rfl, fun i hi => absurd hi (n0 i)⟩, rfl, fun q hq => absurd hq (Nat.not_lt_zero q)⟩, ⟨rfl, fun h => absurd rfl h⟩, fun n hn => absurd hn (hnT 0 n), fun k hk => absurd hk (by omega), fun h => absurd h (by omega)⟩
  obtain ⟨u1, u2, u3, u4, u5, u6, u7, u8⟩ := u
  unfold wpX_init
  refine ⟨by omega, by omega, by omega, by omega, by omega, by omega, by omega, by omega, by omega, by omega, by omega, by omega, by omega, by omega, by omega, by omega, by omega, by omega, by omega, by omega, by omega, by omega, by omega, by omega, by omega, by omega, by omega, by omega, by omega, by omega, by omega, by omega, by omega, by omega, by omega, by omega, by omega, by omega, by omega, by omega, by omega, by omega, by omega, by omega, by omega, by omega, by omega, by omega, by omega, by omega, by omega, by omega, by omega, by omega, ?_⟩
  exact br_t (by decide) (br_t (by decide) (br_t (by decide) (br_t (by decide) fin)))
end
section
/-! the draft: emptied, appended to, its precondition -/
theorem tr_cong {o w : Nat} {t : pr_PT} {sz kd vl ta tb sz' kd' vl' ta' tb' : Nat → Int32} (h : tr_at o w t sz kd vl ta tb) (e : sz' w = sz w) (hi : ∀ i, i < pt_n t → kd' (w * 8 + i) = kd (w * 8 + i) ∧ vl' (w * 8 + i) = vl (w * 8 + i) ∧ ta' (w * 8 + i) = ta (w * 8 + i) ∧ tb' (w * 8 + i) = tb (w * 8 + i)) : tr_at o w t sz' kd' vl' ta' tb' := by
  refine ⟨e.trans h.1, fun i hi' => ?_⟩
  obtain ⟨a, b, c, d⟩ := hi i hi'
  rw [a, b, c, d]
  exact h.2 i hi'
theorem up_up {f : Nat → Int32} {k : Nat} {a b : Int32} : upd (upd f k a) k b = upd f k b := by
  funext j
  by_cases e : j = k
  · rw [e, pk_us, pk_us]
  · rw [pk_un e, pk_un e, pk_un e]
def ac_ok (n c : Nat) (p1 p2 : Int32) (κ v : Nat) : Prop :=
  p1 = nI κ ∧ 1 ≤ κ ∧ κ ≤ 14 ∧ κ ≠ 12 ∧ n < 8 ∧ pr_ar κ ≤ c ∧ (κ = 11 → p2 = nI v ∧ v < 256) ∧ (13 ≤ κ → p2 = nI v ∧ v < 2) ∧ (κ ≤ 10 → v = 0)
theorem ac_u {n c : Nat} {p1 p2 : Int32} {κ v κ' v' : Nat} (h : ac_ok n c p1 p2 κ v) (h' : ac_ok n c p1 p2 κ' v') : κ = κ' ∧ v = v' := by
  obtain ⟨a1, a2, a3, a4, a5, a6, a7, a8, a9⟩ := h
  obtain ⟨b1, b2, b3, b4, b5, b6, b7, b8, b9⟩ := h'
  have e : κ = κ' := pr_im (a1.symm.trans b1) (by omega) (by omega)
  subst e
  refine ⟨rfl, ?_⟩
  by_cases h1 : κ ≤ 10
  · rw [a9 h1, b9 h1]
  · by_cases h2 : κ = 11
    · have x := a7 h2
      have y := b7 h2
      exact pr_im (x.1.symm.trans y.1) (by omega) (by omega)
    · have x := a8 (by omega)
      have y := b8 (by omega)
      exact pr_im (x.1.symm.trans y.1) (by omega) (by omega)
/-- the draft's arrays after an accepted append -/
theorem dr_add {x s κ v : Nat} {o : Nat → Nat} {D : Nat → pr_PT} {ps : Nat → Nat → Nat} {dc : Nat → Nat} {sz kd vl ta tb pn pc : Nat → Int32} (hs : s < 2) (h8 : ∀ s, s < 2 → pt_n (D s) ≤ 8 ∧ dc s ≤ pt_n (D s)) (hn : pt_n (D s) < 8) (hc : pr_ar κ ≤ dc s) (hv0 : κ ≤ 10 → v = 0) (hk1 : 1 ≤ κ)
    (h : dr_at x o D ps dc sz kd vl ta tb pn pc) :
    dr_at x o (pr_st D s (pt_add (D s) (ps s) (dc s) κ v)) (pr_st ps s (pd_add (D s) (ps s) (dc s) κ)) (pr_st dc s (dc s - pr_ar κ + 1))
      (upd sz (x * 2 + s) (nI (pt_n (D s) + 1))) (upd kd ((x * 2 + s) * 8 + pt_n (D s)) (nI κ)) (upd vl ((x * 2 + s) * 8 + pt_n (D s)) (nI v)) (upd ta ((x * 2 + s) * 8 + pt_n (D s)) (pr_oX (o s) (pt_a0 (ps s) (dc s) κ))) (upd tb ((x * 2 + s) * 8 + pt_n (D s)) (pr_oX (o s) (pt_b0 (ps s) (dc s) κ)))
      (upd pn (s * 8 + (dc s - pr_ar κ)) (nI (o s + pt_n (D s)))) (upd pc s (nI (dc s - pr_ar κ + 1))) := by
  intro s' hs'
  have hh := h s' hs'
  have h8s := h8 s hs
  have h8' := h8 s' hs'
  by_cases e : s' = s
  · subst e
    rw [pr_st_s, pr_st_s, pr_st_s]
    refine ⟨⟨?_, fun i hi => ?_⟩, pk_us, fun q hq => ?_⟩
    · rw [pk_us]
      rfl
    · have hi' : i < pt_n (D s') + 1 := hi
      show _ = nI (pr_st (pt_k (D s')) (pt_n (D s')) κ i) ∧ _ = nI (pr_st (pt_v (D s')) (pt_n (D s')) (if pr_ar κ = 0 then v else 0) i) ∧ _ = pr_oX (o s') (pr_st (pt_a (D s')) (pt_n (D s')) (pt_a0 (ps s') (dc s') κ) i) ∧ _ = pr_oX (o s') (pr_st (pt_b (D s')) (pt_n (D s')) (pt_b0 (ps s') (dc s') κ) i)
      by_cases ei : i = pt_n (D s')
      · rw [ei, pk_us, pk_us, pk_us, pk_us, pr_st_s, pr_st_s, pr_st_s, pr_st_s]
        refine ⟨rfl, ?_, rfl, rfl⟩
        by_cases h0 : pr_ar κ = 0
        · rw [if_pos h0]
        · rw [if_neg h0, hv0]
          rcases pr_ar_c κ with y | y | y <;> omega
      · rw [pr_st_n ei, pr_st_n ei, pr_st_n ei, pr_st_n ei, pk_un (by omega), pk_un (by omega), pk_un (by omega), pk_un (by omega)]
        exact hh.1.2 i (by omega)
    · unfold pd_add
      by_cases eq : q = dc s' - pr_ar κ
      · rw [eq, pk_us, pr_st_s]
      · rw [pr_st_n eq, pk_un (by omega)]
        exact hh.2.2 q (by omega)
  · rw [pr_st_n e, pr_st_n e, pr_st_n e]
    refine ⟨tr_cong hh.1 (pk_un (by omega)) (fun i hi => ?_), ?_, fun q hq => ?_⟩
    · exact ⟨pk_un (by omega), pk_un (by omega), pk_un (by omega), pk_un (by omega)⟩
    · rw [pk_un e]
      exact hh.2.1
    · rw [pk_un (by omega)]
      exact hh.2.2 q hq
section XDr
variable {f_maxNodes f_maxRules f_ruleCount f_counterexample f_optimized f_nodeCount f_outputCount f_applications : Int32} {a_preRelation a_preVariable a_preConstant a_roomNeeded a_useCount a_treeSize a_treeKind a_treeValue a_treeA a_treeB a_treeResult a_constantValued a_maximal a_counterpart a_boundNode a_pending a_pendingCount a_nodeKind a_nodeValue a_nodeA a_nodeB a_nodeResult a_nodeUses a_outputNode a_seen a_order a_walkStack : Nat → Int32}
variable {rc : Nat}
theorem x_emptyDraft {post : St2 → Prop} (hrc : rc ≤ 16) (h : post (f_maxNodes, f_maxRules, (nI rc), f_counterexample, f_optimized, f_nodeCount, f_outputCount, f_applications, (upd a_preRelation rc 0), a_preVariable, a_preConstant, a_roomNeeded, a_useCount, (upd (upd a_treeSize (rc * 2 + 0) 0) (rc * 2 + 1) 0), a_treeKind, a_treeValue, a_treeA, a_treeB, a_treeResult, a_constantValued, a_maximal, a_counterpart, a_boundNode, a_pending, (upd (upd a_pendingCount 0 0) 1 0), a_nodeKind, a_nodeValue, a_nodeA, a_nodeB, a_nodeResult, a_nodeUses, a_outputNode, a_seen, a_order, a_walkStack)) : wpX_emptyDraft post (f_maxNodes, f_maxRules, (nI rc), f_counterexample, f_optimized, f_nodeCount, f_outputCount, f_applications, a_preRelation, a_preVariable, a_preConstant, a_roomNeeded, a_useCount, a_treeSize, a_treeKind, a_treeValue, a_treeA, a_treeB, a_treeResult, a_constantValued, a_maximal, a_counterpart, a_boundNode, a_pending, a_pendingCount, a_nodeKind, a_nodeValue, a_nodeA, a_nodeB, a_nodeResult, a_nodeUses, a_outputNode, a_seen, a_order, a_walkStack) := by
  unfold wpX_emptyDraft
  refine ⟨3, ?_⟩
  refine br_f (by decide) (x_treeOf rc 0 ⟨pk_in (rc * 2 + 0) 34 (by omega), ?_⟩)
  rw [nI_clamp (by omega)]
  refine nm_e ⟨pk_in 0 2 (by omega), nm_e (nm_r (show (0 : Int32) + 1 = 1 by decide) ?_)⟩
  refine br_f (by decide) (x_treeOf rc 1 ⟨pk_in (rc * 2 + 1) 34 (by omega), ?_⟩)
  rw [nI_clamp (by omega)]
  refine nm_e ⟨pk_in 1 2 (by omega), nm_e (nm_r (show (1 : Int32) + 1 = 2 by decide) ?_)⟩
  refine br_t (by decide) ⟨pk_in rc 17 (by omega), ?_⟩
  rw [nI_clamp (by omega)]
  exact nm_e h
theorem x_append {post : Int32 → St2 → Prop} {s n c : Nat} {pst : Nat → Nat} {p1 p2 : Int32} (hrc : rc ≤ 16) (hs : s < 2) (hn : n ≤ 8) (hc : c ≤ n) (e1 : a_treeSize (rc * 2 + s) = nI n) (e2 : a_pendingCount s = nI c) (e3 : ∀ q, q < c → a_pending (s * 8 + q) = nI ((rc * 2 + s) * 8 + pst q))
    (hy : ∀ κ v, ac_ok n c p1 p2 κ v → post 1 (f_maxNodes, f_maxRules, (nI rc), f_counterexample, f_optimized, f_nodeCount, f_outputCount, f_applications, a_preRelation, a_preVariable, a_preConstant, a_roomNeeded, a_useCount, (upd a_treeSize (rc * 2 + s) (nI (n + 1))), (upd a_treeKind ((rc * 2 + s) * 8 + n) (nI κ)), (upd a_treeValue ((rc * 2 + s) * 8 + n) (nI v)), (upd a_treeA ((rc * 2 + s) * 8 + n) (pr_oX ((rc * 2 + s) * 8) (pt_a0 pst c κ))), (upd a_treeB ((rc * 2 + s) * 8 + n) (pr_oX ((rc * 2 + s) * 8) (pt_b0 pst c κ))), a_treeResult, a_constantValued, a_maximal, a_counterpart, a_boundNode, (upd a_pending (s * 8 + (c - pr_ar κ)) (nI ((rc * 2 + s) * 8 + n))), (upd a_pendingCount s (nI (c - pr_ar κ + 1))), a_nodeKind, a_nodeValue, a_nodeA, a_nodeB, a_nodeResult, a_nodeUses, a_outputNode, a_seen, a_order, a_walkStack))
    (hno : (∀ κ v, ¬ ac_ok n c p1 p2 κ v) → post 0 (f_maxNodes, f_maxRules, (nI rc), f_counterexample, f_optimized, f_nodeCount, f_outputCount, f_applications, a_preRelation, a_preVariable, a_preConstant, a_roomNeeded, a_useCount, a_treeSize, a_treeKind, a_treeValue, a_treeA, a_treeB, a_treeResult, a_constantValued, a_maximal, a_counterpart, a_boundNode, a_pending, a_pendingCount, a_nodeKind, a_nodeValue, a_nodeA, a_nodeB, a_nodeResult, a_nodeUses, a_outputNode, a_seen, a_order, a_walkStack)) : wpX_appendTreeNode post (f_maxNodes, f_maxRules, (nI rc), f_counterexample, f_optimized, f_nodeCount, f_outputCount, f_applications, a_preRelation, a_preVariable, a_preConstant, a_roomNeeded, a_useCount, a_treeSize, a_treeKind, a_treeValue, a_treeA, a_treeB, a_treeResult, a_constantValued, a_maximal, a_counterpart, a_boundNode, a_pending, a_pendingCount, a_nodeKind, a_nodeValue, a_nodeA, a_nodeB, a_nodeResult, a_nodeUses, a_outputNode, a_seen, a_order, a_walkStack) (nI s) p1 p2 := by
  unfold wpX_appendTreeNode
  refine x_treeOf rc s ?_
  have hin2 : vp_in (nI s) 2 := pk_in s 2 hs
  have hcs : (nI s).toNatClampNeg = s := nI_clamp (by omega)
  have hin34 : vp_in (nI (rc * 2 + s)) 34 := pk_in (rc * 2 + s) 34 (by omega)
  have hcw : (nI (rc * 2 + s)).toNatClampNeg = rc * 2 + s := nI_clamp (by omega)
  rcases pk_ix p1 (n := 15) (by omega) with hp | hp | ⟨κ, hκ, rfl⟩
  · have hno' := hno fun κ v h => by
      have := h.1
      rw [this] at hp
      exact nI_pos (by have := h.2.2.1; omega) hp
    refine x_arity_o (Or.inl hp) ⟨hin2, ?_⟩
    rw [hcs, hcw]
    refine nm_r e2 ⟨hin34, ?_⟩
    have hne : ∀ q : Nat, q < 2 ^ 31 → ¬ p1 = nI q := fun q hq e => by
      rw [e] at hp
      exact nI_pos hq hp
    refine br_c (fun _ => hno') (fun _ => br_f (hne 11 (by omega)) (br_f (hne 13 (by omega)) (br_f (hne 14 (by omega)) (x_arity_o (Or.inl hp) (br_t (by decide) (br_t rfl hno'))))))
  · have hne : ∀ q : Nat, q < 15 → ¬ p1 = nI q := fun q hq e => by
      rw [e, nI_leI (by omega) (by omega)] at hp
      omega
    have hno' := hno fun κ v h => hne κ (by have := h.2.2.1; omega) h.1
    refine x_arity_o (Or.inr hp) ⟨hin2, ?_⟩
    rw [hcs, hcw]
    refine nm_r e2 ⟨hin34, ?_⟩
    refine br_c (fun _ => hno') (fun _ => br_f (hne 11 (by omega)) (br_f (hne 13 (by omega)) (br_f (hne 14 (by omega)) (x_arity_o (Or.inr hp) (br_t (by decide) (br_t rfl hno'))))))
  · have hino : ∀ (P : Nat → Nat → Prop), (∀ κ' v, ac_ok n c (nI κ) p2 κ' v → κ' = κ) := fun _ κ' v h => (pr_im h.1 (by omega) (by have := h.2.2.1; omega)).symm
    have hk : ∀ κ' v, ac_ok n c (nI κ) p2 κ' v → κ' = κ := hino (fun _ _ => True)
    refine x_arity (by omega) ⟨hin2, ?_⟩
    rw [hcs, hcw, e1]
    refine nm_r e2 ⟨hin34, ?_⟩
    refine pk_eq n 8 (fun e => hno fun κ' v h => absurd h.2.2.2.2.1 (by omega)) (fun ne8 => ?_)
    -- a node that may stand in a tree
    have hgo : ∀ v, 1 ≤ κ → κ ≠ 12 → (κ = 11 → p2 = nI v ∧ v < 256) → (13 ≤ κ → p2 = nI v ∧ v < 2) → (κ ≤ 10 → v = 0) →
        ((nI (pr_ar κ) ≤ nI c → wpX_endOf (fun r_10 => ∀ x8_46 : Int32, x8_46 = ((nI s * 8) + nI c) - nI (pr_ar κ) → (vp_in r_10 272 ∧ ∀ a_treeKind_48 : Nat → Int32, a_treeKind_48 = upd a_treeKind r_10.toNatClampNeg (nI κ) → ((nI (pr_ar κ) = 0 → (wX_appendTreeNode_97 post (nI s) (nI (rc * 2 + s)) (nI (pr_ar κ)) (nI c) r_10 x8_46 p2 r_10 f_maxNodes f_maxRules (nI rc) f_counterexample f_optimized f_nodeCount f_outputCount f_applications a_preRelation a_preVariable a_preConstant a_roomNeeded a_useCount a_treeSize a_treeKind_48 a_treeValue a_treeA a_treeB a_treeResult a_constantValued a_maximal a_counterpart a_boundNode a_pending a_pendingCount a_nodeKind a_nodeValue a_nodeA a_nodeB a_nodeResult a_nodeUses a_outputNode a_seen a_order a_walkStack)) ∧ (¬ nI (pr_ar κ) = 0 → (wX_appendTreeNode_97 post (nI s) (nI (rc * 2 + s)) (nI (pr_ar κ)) (nI c) r_10 x8_46 0 r_10 f_maxNodes f_maxRules (nI rc) f_counterexample f_optimized f_nodeCount f_outputCount f_applications a_preRelation a_preVariable a_preConstant a_roomNeeded a_useCount a_treeSize a_treeKind_48 a_treeValue a_treeA a_treeB a_treeResult a_constantValued a_maximal a_counterpart a_boundNode a_pending a_pendingCount a_nodeKind a_nodeValue a_nodeA a_nodeB a_nodeResult a_nodeUses a_outputNode a_seen a_order a_walkStack))))) (f_maxNodes, f_maxRules, (nI rc), f_counterexample, f_optimized, f_nodeCount, f_outputCount, f_applications, a_preRelation, a_preVariable, a_preConstant, a_roomNeeded, a_useCount, a_treeSize, a_treeKind, a_treeValue, a_treeA, a_treeB, a_treeResult, a_constantValued, a_maximal, a_counterpart, a_boundNode, a_pending, a_pendingCount, a_nodeKind, a_nodeValue, a_nodeA, a_nodeB, a_nodeResult, a_nodeUses, a_outputNode, a_seen, a_order, a_walkStack) (nI (rc * 2 + s))) ∧ (¬ nI (pr_ar κ) ≤ nI c → post 0 (f_maxNodes, f_maxRules, (nI rc), f_counterexample, f_optimized, f_nodeCount, f_outputCount, f_applications, a_preRelation, a_preVariable, a_preConstant, a_roomNeeded, a_useCount, a_treeSize, a_treeKind, a_treeValue, a_treeA, a_treeB, a_treeResult, a_constantValued, a_maximal, a_counterpart, a_boundNode, a_pending, a_pendingCount, a_nodeKind, a_nodeValue, a_nodeA, a_nodeB, a_nodeResult, a_nodeUses, a_outputNode, a_seen, a_order, a_walkStack))) := by
      intro v k1 k12 k11 k13 k10
      have har := pr_ar_c κ
      refine pk_le (pr_ar κ) c (fun hle => ?_) (fun hlt => hno fun κ' v' h => ?_)
      · have hacc : ac_ok n c (nI κ) p2 κ v := ⟨rfl, k1, by omega, k12, by omega, hle, k11, k13, k10⟩
        have hfin := hy κ v hacc
        refine x_endOf (by omega) e1 ?_
        have e8 : ((nI s * 8) + nI c) - nI (pr_ar κ) = nI (s * 8 + (c - pr_ar κ)) := by
          rw [nx_8, pk_sub (by omega)]
          exact congrArg nI (by omega)
        refine nm_r e8 ⟨pk_in ((rc * 2 + s) * 8 + n) 272 (by omega), ?_⟩
        have hcp : (nI ((rc * 2 + s) * 8 + n)).toNatClampNeg = (rc * 2 + s) * 8 + n := nI_clamp (by omega)
        have hinp : vp_in (nI ((rc * 2 + s) * 8 + n)) 272 := pk_in ((rc * 2 + s) * 8 + n) 272 (by omega)
        rw [hcp]
        refine nm_e ?_
        have hco : (nI (s * 8 + (c - pr_ar κ))).toNatClampNeg = s * 8 + (c - pr_ar κ) := nI_clamp (by omega)
        have h97 : ∀ x, x = nI v → wX_appendTreeNode_97 post (nI s) (nI (rc * 2 + s)) (nI (pr_ar κ)) (nI c) (nI ((rc * 2 + s) * 8 + n)) (nI (s * 8 + (c - pr_ar κ))) x (nI ((rc * 2 + s) * 8 + n)) f_maxNodes f_maxRules (nI rc) f_counterexample f_optimized f_nodeCount f_outputCount f_applications a_preRelation a_preVariable a_preConstant a_roomNeeded a_useCount a_treeSize (upd a_treeKind ((rc * 2 + s) * 8 + n) (nI κ)) a_treeValue a_treeA a_treeB a_treeResult a_constantValued a_maximal a_counterpart a_boundNode a_pending a_pendingCount a_nodeKind a_nodeValue a_nodeA a_nodeB a_nodeResult a_nodeUses a_outputNode a_seen a_order a_walkStack := by
          intro x hx
          subst hx
          refine ⟨hinp, ?_⟩
          rw [hcp]
          refine nm_e ?_
          have h147 : ∀ z, z = pr_oX ((rc * 2 + s) * 8) (pt_b0 pst c κ) → wX_appendTreeNode_147 post (nI s) (nI (rc * 2 + s)) (nI (pr_ar κ)) (nI c) (nI ((rc * 2 + s) * 8 + n)) (nI (s * 8 + (c - pr_ar κ))) z (nI ((rc * 2 + s) * 8 + n)) f_maxNodes f_maxRules (nI rc) f_counterexample f_optimized f_nodeCount f_outputCount f_applications a_preRelation a_preVariable a_preConstant a_roomNeeded a_useCount a_treeSize (upd a_treeKind ((rc * 2 + s) * 8 + n) (nI κ)) (upd a_treeValue ((rc * 2 + s) * 8 + n) (nI v)) (upd a_treeA ((rc * 2 + s) * 8 + n) (pr_oX ((rc * 2 + s) * 8) (pt_a0 pst c κ))) a_treeB a_treeResult a_constantValued a_maximal a_counterpart a_boundNode a_pending a_pendingCount a_nodeKind a_nodeValue a_nodeA a_nodeB a_nodeResult a_nodeUses a_outputNode a_seen a_order a_walkStack := by
            intro z hz
            subst hz
            have ec : (nI c - nI (pr_ar κ)) + 1 = nI (c - pr_ar κ + 1) := by
              rw [pk_sub hle, nI_1]
            refine ⟨hinp, ?_⟩
            rw [hcp, hcw, hco, hcs, ec, e1, nI_1]
            exact nm_e ⟨hin34, hin34, nm_e ⟨pk_in (s * 8 + (c - pr_ar κ)) 16 (by omega), nm_e ⟨hin2, nm_e hfin⟩⟩⟩
          have h121 : ∀ z, z = pr_oX ((rc * 2 + s) * 8) (pt_a0 pst c κ) → wX_appendTreeNode_121 post (nI s) (nI (rc * 2 + s)) (nI (pr_ar κ)) (nI c) (nI ((rc * 2 + s) * 8 + n)) (nI (s * 8 + (c - pr_ar κ))) z (nI ((rc * 2 + s) * 8 + n)) f_maxNodes f_maxRules (nI rc) f_counterexample f_optimized f_nodeCount f_outputCount f_applications a_preRelation a_preVariable a_preConstant a_roomNeeded a_useCount a_treeSize (upd a_treeKind ((rc * 2 + s) * 8 + n) (nI κ)) (upd a_treeValue ((rc * 2 + s) * 8 + n) (nI v)) a_treeA a_treeB a_treeResult a_constantValued a_maximal a_counterpart a_boundNode a_pending a_pendingCount a_nodeKind a_nodeValue a_nodeA a_nodeB a_nodeResult a_nodeUses a_outputNode a_seen a_order a_walkStack := by
            intro z hz
            subst hz
            refine ⟨hinp, ?_⟩
            rw [hcp]
            refine nm_e (pk_eq (pr_ar κ) 2 (fun h2 => ?_) (fun h2 => ?_))
            · have e9 : nI (s * 8 + (c - pr_ar κ)) + 1 = nI (s * 8 + (c - pr_ar κ + 1)) := nI_1 _
              rw [e9]
              refine ⟨pk_in (s * 8 + (c - pr_ar κ + 1)) 16 (by omega), h147 _ ?_⟩
              rw [nI_clamp (by omega), e3 _ (by omega)]
              unfold pt_b0
              rw [if_pos h2]
              rfl
            · refine h147 _ ?_
              unfold pt_b0
              rw [if_neg h2]
              rfl
          refine pk_lt (pr_ar κ) 1 (fun h1 => h121 _ ?_) (fun h1 => ⟨pk_in (s * 8 + (c - pr_ar κ)) 16 (by omega), h121 _ ?_⟩)
          · unfold pt_a0
            rw [if_neg (by omega)]
            rfl
          · rw [hco, e3 _ (by omega)]
            unfold pt_a0
            rw [if_pos h1]
            rfl
        refine pk_eq (pr_ar κ) 0 (fun h0 => h97 _ ?_) (fun h0 => h97 _ ?_)
        · by_cases h11 : κ = 11
          · exact (k11 h11).1
          · exact (k13 (by omega)).1
        · rw [k10 (by omega)]
          rfl
      · have := hk κ' v' h
        subst this
        have := h.2.2.2.2.2.1
        omega
    have hbad : (∀ v, ¬ ac_ok n c (nI κ) p2 κ v) → post 0 (f_maxNodes, f_maxRules, (nI rc), f_counterexample, f_optimized, f_nodeCount, f_outputCount, f_applications, a_preRelation, a_preVariable, a_preConstant, a_roomNeeded, a_useCount, a_treeSize, a_treeKind, a_treeValue, a_treeA, a_treeB, a_treeResult, a_constantValued, a_maximal, a_counterpart, a_boundNode, a_pending, a_pendingCount, a_nodeKind, a_nodeValue, a_nodeA, a_nodeB, a_nodeResult, a_nodeUses, a_outputNode, a_seen, a_order, a_walkStack) := fun hb => hno fun κ' v h => by
      have := hk κ' v h
      subst this
      exact hb v h
    refine pk_eq κ 11 (fun h11 => ?_) (fun n11 => pk_eq κ 13 (fun h13 => ?_) (fun n13 => pk_eq κ 14 (fun h14 => ?_) (fun n14 => ?_)))
    · rcases pk_ix p2 (n := 256) (by omega) with hq | hq | ⟨v, hv, rfl⟩
      · exact x_isWord_f (Or.inl hq) ⟨by decide, br_t rfl (hbad fun v h => by
          have := h.2.2.2.2.2.2.1 h11
          rw [this.1] at hq
          exact nI_pos (by omega) hq)⟩
      · exact x_isWord_f (Or.inr hq) ⟨by decide, br_t rfl (hbad fun v h => by
          have := h.2.2.2.2.2.2.1 h11
          rw [this.1, nI_leI (by omega) (by omega)] at hq
          omega)⟩
      · exact x_isWord_t hv ⟨by decide, br_f (by decide) (hgo v (by omega) (by omega) (fun _ => ⟨rfl, hv⟩) (fun h => absurd h (by omega)) (fun h => absurd h (by omega)))⟩
    · rcases pk_ix p2 (n := 2) (by omega) with hq | hq | ⟨v, hv, rfl⟩
      · exact x_isVariable_f (Or.inl hq) ⟨by decide, br_t rfl (hbad fun v h => by
          have := h.2.2.2.2.2.2.2.1 (by omega)
          rw [this.1] at hq
          exact nI_pos (by omega) hq)⟩
      · exact x_isVariable_f (Or.inr hq) ⟨by decide, br_t rfl (hbad fun v h => by
          have := h.2.2.2.2.2.2.2.1 (by omega)
          rw [this.1, nI_leI (by omega) (by omega)] at hq
          omega)⟩
      · exact x_isVariable_t hv ⟨by decide, br_f (by decide) (hgo v (by omega) (by omega) (fun h => absurd h (by omega)) (fun _ => ⟨rfl, hv⟩) (fun h => absurd h (by omega)))⟩
    · rcases pk_ix p2 (n := 2) (by omega) with hq | hq | ⟨v, hv, rfl⟩
      · exact x_isVariable_f (Or.inl hq) ⟨by decide, br_t rfl (hbad fun v h => by
          have := h.2.2.2.2.2.2.2.1 (by omega)
          rw [this.1] at hq
          exact nI_pos (by omega) hq)⟩
      · exact x_isVariable_f (Or.inr hq) ⟨by decide, br_t rfl (hbad fun v h => by
          have := h.2.2.2.2.2.2.2.1 (by omega)
          rw [this.1, nI_leI (by omega) (by omega)] at hq
          omega)⟩
      · exact x_isVariable_t hv ⟨by decide, br_f (by decide) (hgo v (by omega) (by omega) (fun h => absurd h (by omega)) (fun _ => ⟨rfl, hv⟩) (fun h => absurd h (by omega)))⟩
    · refine x_arity (by omega) (pk_le (pr_ar κ) 0 (fun h0 => br_t rfl (hbad fun v h => ?_)) (fun h0 => br_f (by decide) (hgo 0 ?_ ?_ ?_ ?_ (fun _ => rfl))) rfl rfl ?_)
      · have har := pr_ar_c κ
        have := h.2.1
        have := h.2.2.2.1
        omega
      · have har := pr_ar_c κ
        omega
      · have har := pr_ar_c κ
        omega
      · intro h
        exact absurd h n11
      · intro h
        have har := pr_ar_c κ
        omega
      · have har := pr_ar_c κ
        omega
end XDr
end
section
/-! ruleBegin, rulePat, ruleRep, rulePre -/
theorem pr_rule_n {P R : pr_PT} {rl rj rK : Nat} (h : pr_rule P R rl rj rK) : pt_n P ≤ 8 ∧ pt_n R ≤ 8 := ⟨h.1.1, h.2.2.2.1.1⟩
theorem xr_cong {rc : Nat} {P R : Nat → pr_PT} {sz kd vl ta tb cv mx rn sz' kd' vl' ta' tb' cv' mx' rn' : Nat → Int32} (hn : ∀ r, r < rc → pt_n (P r) ≤ 8 ∧ pt_n (R r) ≤ 8) (h : ∀ r, r < rc → xr_rule r (P r) (R r) sz kd vl ta tb cv mx rn)
    (h1 : ∀ w, w < rc * 2 → sz' w = sz w) (h2 : ∀ p, p < rc * 16 → kd' p = kd p ∧ vl' p = vl p ∧ ta' p = ta p ∧ tb' p = tb p ∧ cv' p = cv p ∧ mx' p = mx p) (h3 : ∀ r, r < rc → rn' r = rn r) : ∀ r, r < rc → xr_rule r (P r) (R r) sz' kd' vl' ta' tb' cv' mx' rn' := by
  intro r hr
  obtain ⟨a, b, c, d, e⟩ := h r hr
  have hn' := hn r hr
  refine ⟨tr_cong a (h1 _ (by omega)) (fun i hi => ?_), tr_cong b (h1 _ (by omega)) (fun i hi => ?_), fun q hq => ?_, fun q hq => ?_, ?_⟩
  · have := h2 ((r * 2 + 0) * 8 + i) (by omega)
    exact ⟨this.1, this.2.1, this.2.2.1, this.2.2.2.1⟩
  · have := h2 ((r * 2 + 1) * 8 + i) (by omega)
    exact ⟨this.1, this.2.1, this.2.2.1, this.2.2.2.1⟩
  · rw [(h2 ((r * 2 + 1) * 8 + q) (by omega)).2.2.2.2.1]
    exact c q hq
  · rw [(h2 ((r * 2 + 1) * 8 + q) (by omega)).2.2.2.2.2]
    exact d q hq
  · rw [h3 r hr]
    exact e
theorem pe_cong {x rl rj rK : Nat} {pr pv pc pr' pv' pc' : Nat → Int32} (h : pe_at x rl rj rK pr pv pc) (h1 : pr' x = pr x) (h2 : pv' x = pv x) (h3 : pc' x = pc x) : pe_at x rl rj rK pr' pv' pc' := by
  unfold pe_at
  rw [h1, h2, h3]
  exact h
section VDx
variable {f_maxNodes f_maxRules f_ruleCount f_counterexample f_optimized f_nodeCount f_outputCount f_applications : Int32} {a_preRelation a_preVariable a_preConstant a_roomNeeded a_useCount a_treeSize a_treeKind a_treeValue a_treeA a_treeB a_treeResult a_constantValued a_maximal a_counterpart a_boundNode a_pending a_pendingCount a_nodeKind a_nodeValue a_nodeA a_nodeB a_nodeResult a_nodeUses a_outputNode a_seen a_order a_walkStack : Nat → Int32}
variable {mN : Nat} {mR : Nat} {rc : Nat} {ph : Nat} {nc : Nat} {oc : Nat} {cx : Int32} {ap : Int32} {P : Nat → pr_PT} {R : Nat → pr_PT} {rl : Nat → Nat} {rj : Nat → Nat} {rK : Nat → Nat} {uc : Nat → Int32} {D : Nat → pr_PT} {ps : Nat → Nat → Nat} {dc : Nat → Nat} {dl : Nat} {dj : Nat} {dk : Nat} {K : Nat → Nat} {V : Nat → Int32} {A : Nat → Option Nat} {B : Nat → Option Nat} {O : Nat → Nat}
theorem rx_empty (hn : ∀ r, r < rc → pt_n (P r) ≤ 8 ∧ pt_n (R r) ≤ 8)
    (hr : ∀ r, r < rc → xr_rule r (P r) (R r) a_treeSize a_treeKind a_treeValue a_treeA a_treeB a_constantValued a_maximal a_roomNeeded ∧ pe_at r (rl r) (rj r) (rK r) a_preRelation a_preVariable a_preConstant ∧ a_useCount r = uc r)
    (hg : gr_all ph oc K V A B O a_nodeKind a_nodeValue a_nodeA a_nodeB a_outputNode) :
    rx mN mR rc ph nc oc cx ap P R rl rj rK uc (fun _ => pt_0) ps (fun _ => 0) 0 dj dk K V A B O ((nI mN), (nI mR), (nI rc), cx, (nI ph), (nI nc), (nI oc), ap, (upd a_preRelation rc 0), a_preVariable, a_preConstant, a_roomNeeded, a_useCount, (upd (upd a_treeSize (rc * 2 + 0) 0) (rc * 2 + 1) 0), a_treeKind, a_treeValue, a_treeA, a_treeB, a_treeResult, a_constantValued, a_maximal, a_counterpart, a_boundNode, a_pending, (upd (upd a_pendingCount 0 0) 1 0), a_nodeKind, a_nodeValue, a_nodeA, a_nodeB, a_nodeResult, a_nodeUses, a_outputNode, a_seen, a_order, a_walkStack) := by
  refine ⟨rfl, rfl, rfl, rfl, rfl, rfl, rfl, rfl, fun r hr' => ⟨xr_cong hn (fun r hr' => (hr r hr').1) (fun w hw => ?_) (fun p hp => ⟨rfl, rfl, rfl, rfl, rfl, rfl⟩) (fun _ _ => rfl) r hr', pe_cong (hr r hr').2.1 (pk_un (by omega)) rfl rfl, (hr r hr').2.2⟩, fun s hs => ⟨⟨?_, fun i hi => absurd hi (Nat.not_lt_zero i)⟩, ?_, fun q hq => absurd hq (Nat.not_lt_zero q)⟩, ⟨pk_us, fun h => absurd rfl h⟩, hg⟩
  · rw [pk_un (by omega), pk_un (by omega)]
  · have : s = 0 ∨ s = 1 := by omega
    rcases this with e | e
    · subst e
      rw [pk_un (by omega), pk_us]
      rfl
    · subst e
      rw [pk_us]
      rfl
  · have : s = 0 ∨ s = 1 := by omega
    rcases this with e | e
    · subst e
      rw [pk_un (by omega), pk_us]
      rfl
    · subst e
      rw [pk_us]
      rfl
theorem rx_append {u : St2} {post : Int32 → St2 → Prop} {s : Nat} {p1 p2 : Int32} (hok : sp_ok mN mR rc ph nc oc cx ap P R rl rj rK uc D ps dc dl dj dk K V A B O) (hs : s < 2) (hx : rx mN mR rc ph nc oc cx ap P R rl rj rK uc D ps dc dl dj dk K V A B O u)
    (hy : ∀ κ v u', ac_ok (pt_n (D s)) (dc s) p1 p2 κ v → rx mN mR rc ph nc oc cx ap P R rl rj rK uc (pr_st D s (pt_add (D s) (ps s) (dc s) κ v)) (pr_st ps s (pd_add (D s) (ps s) (dc s) κ)) (pr_st dc s (dc s - pr_ar κ + 1)) dl dj dk K V A B O u' → post 1 u')
    (hno : (∀ κ v, ¬ ac_ok (pt_n (D s)) (dc s) p1 p2 κ v) → post 0 u) : wpX_appendTreeNode post u (nI s) p1 p2 := by
  obtain ⟨f_maxNodes, f_maxRules, f_ruleCount, f_counterexample, f_optimized, f_nodeCount, f_outputCount, f_applications, a_preRelation, a_preVariable, a_preConstant, a_roomNeeded, a_useCount, a_treeSize, a_treeKind, a_treeValue, a_treeA, a_treeB, a_treeResult, a_constantValued, a_maximal, a_counterpart, a_boundNode, a_pending, a_pendingCount, a_nodeKind, a_nodeValue, a_nodeA, a_nodeB, a_nodeResult, a_nodeUses, a_outputNode, a_seen, a_order, a_walkStack⟩ := u
  obtain ⟨e1, e2, e3, e4, e5, e6, e7, e8, h9, h10, h11, h12⟩ := hx
  subst e1 e2 e3 e4 e5 e6 e7 e8
  obtain ⟨o1, o2, o3, o4, o5, o6, o7, o8, o9, o10⟩ := hok
  have hd := o9.1 s hs
  have h10s := h10 s hs
  refine x_append (pst := ps s) (n := pt_n (D s)) (c := dc s) (by omega) hs hd.1.1 hd.2.1 h10s.1.1 h10s.2.1 h10s.2.2 (fun κ v hac => hy κ v _ hac ?_) hno
  refine ⟨rfl, rfl, rfl, rfl, rfl, rfl, rfl, rfl, fun r hr => ⟨xr_cong (fun r hr => pr_rule_n (o8 r hr)) (fun r hr => (h9 r hr).1) (fun w hw => pk_un (by omega)) (fun p hp => ⟨pk_un (by omega), pk_un (by omega), pk_un (by omega), pk_un (by omega), rfl, rfl⟩) (fun _ _ => rfl) r hr, (h9 r hr).2⟩, ?_, h11, h12⟩
  exact dr_add hs (fun s hs => ⟨(o9.1 s hs).1.1, (o9.1 s hs).2.1⟩) hac.2.2.2.2.1 hac.2.2.2.2.2.1 hac.2.2.2.2.2.2.2.2 hac.2.1 h10
end VDx
section VDs
variable {mN : Nat} {mR : Nat} {rc : Nat} {ph : Nat} {nc : Nat} {oc : Nat} {cx : Int32} {ap : Int32} {P : Nat → pr_PT} {R : Nat → pr_PT} {rl : Nat → Nat} {rj : Nat → Nat} {rK : Nat → Nat} {uc : Nat → Int32} {D : Nat → pr_PT} {ps : Nat → Nat → Nat} {dc : Nat → Nat} {dl : Nat} {dj : Nat} {dk : Nat} {K : Nat → Nat} {V : Nat → Int32} {A : Nat → Option Nat} {B : Nat → Option Nat} {O : Nat → Nat}
theorem sp_empty (h : sp_ok mN mR rc ph nc oc cx ap P R rl rj rK uc D ps dc dl dj dk K V A B O) : sp_ok mN mR rc ph nc oc cx ap P R rl rj rK uc (fun _ => pt_0) ps (fun _ => 0) 0 dj dk K V A B O := by
  obtain ⟨o1, o2, o3, o4, o5, o6, o7, o8, o9, o10⟩ := h
  exact ⟨o1, o2, o3, o4, o5, o6, o7, o8, ⟨fun s _ => ⟨pt_0_ok, pd_0_ok _⟩, fun i hi => absurd hi (Nat.not_lt_zero i), by omega, fun h => absurd rfl h⟩, o10⟩
theorem sp_append {s κ v : Nat} {p1 p2 : Int32} (h : sp_ok mN mR rc ph nc oc cx ap P R rl rj rK uc D ps dc dl dj dk K V A B O) (hs : s < 2) (hac : ac_ok (pt_n (D s)) (dc s) p1 p2 κ v) (h14 : s = 1 → κ ≠ 14) : sp_ok mN mR rc ph nc oc cx ap P R rl rj rK uc (pr_st D s (pt_add (D s) (ps s) (dc s) κ v)) (pr_st ps s (pd_add (D s) (ps s) (dc s) κ)) (pr_st dc s (dc s - pr_ar κ + 1)) dl dj dk K V A B O := by
  obtain ⟨o1, o2, o3, o4, o5, o6, o7, o8, ⟨d1, d2, d3, d4⟩, o10⟩ := h
  obtain ⟨c1, c2, c3, c4, c5, c6, c7, c8, c9⟩ := hac
  have hadd := pt_add_ok (d1 s hs).1 (d1 s hs).2 c5 ⟨c2, c3, c4⟩ (fun h => (c7 h).2) (fun h => (c8 h).2) c6
  refine ⟨o1, o2, o3, o4, o5, o6, o7, o8, ⟨fun s' hs' => ?_, fun i hi => ?_, d3, d4⟩, o10⟩
  · by_cases e : s' = s
    · subst e
      rw [pr_st_s, pr_st_s, pr_st_s]
      exact hadd
    · rw [pr_st_n e, pr_st_n e, pr_st_n e]
      exact d1 s' hs'
  · by_cases e : 1 = s
    · subst e
      rw [pr_st_s] at hi ⊢
      show pr_st (pt_k (D 1)) (pt_n (D 1)) κ i ≠ 14
      by_cases ei : i = pt_n (D 1)
      · rw [ei, pr_st_s]
        exact h14 rfl
      · rw [pr_st_n ei]
        have hi' : i < pt_n (D 1) + 1 := hi
        exact d2 i (by omega)
    · rw [pr_st_n e] at hi ⊢
      exact d2 i hi
end VDs
section VDz
variable {mN : Nat} {mR : Nat} {rc : Nat} {ph : Nat} {nc : Nat} {oc : Nat} {cx : Int32} {ap : Int32} {P : Nat → pr_PT} {R : Nat → pr_PT} {rl : Nat → Nat} {rj : Nat → Nat} {rK : Nat → Nat} {uc : Nat → Int32} {D : Nat → pr_PT} {ps : Nat → Nat → Nat} {dc : Nat → Nat} {dl : Nat} {dj : Nat} {dk : Nat} {K : Nat → Nat} {V : Nat → Int32} {A : Nat → Option Nat} {B : Nat → Option Nat} {O : Nat → Nat}
/-- the draft emptied -/
theorem rx_begin {u : St2} {post : St2 → Prop} (hok : sp_ok mN mR rc ph nc oc cx ap P R rl rj rK uc D ps dc dl dj dk K V A B O) (hx : rx mN mR rc ph nc oc cx ap P R rl rj rK uc D ps dc dl dj dk K V A B O u) (h : ∀ u', sp_ok mN mR rc ph nc oc cx ap P R rl rj rK uc (fun _ => pt_0) ps (fun _ => 0) 0 dj dk K V A B O → rx mN mR rc ph nc oc cx ap P R rl rj rK uc (fun _ => pt_0) ps (fun _ => 0) 0 dj dk K V A B O u' → post u') : wpX_ruleBegin post u := by
  obtain ⟨f_maxNodes, f_maxRules, f_ruleCount, f_counterexample, f_optimized, f_nodeCount, f_outputCount, f_applications, a_preRelation, a_preVariable, a_preConstant, a_roomNeeded, a_useCount, a_treeSize, a_treeKind, a_treeValue, a_treeA, a_treeB, a_treeResult, a_constantValued, a_maximal, a_counterpart, a_boundNode, a_pending, a_pendingCount, a_nodeKind, a_nodeValue, a_nodeA, a_nodeB, a_nodeResult, a_nodeUses, a_outputNode, a_seen, a_order, a_walkStack⟩ := u
  obtain ⟨e1, e2, e3, e4, e5, e6, e7, e8, h9, h10, h11, h12⟩ := hx
  subst e1 e2 e3 e4 e5 e6 e7 e8
  have hn : ∀ r, r < rc → pt_n (P r) ≤ 8 ∧ pt_n (R r) ≤ 8 := fun r hr => pr_rule_n (hok.2.2.2.2.2.2.2.1 r hr)
  have hrc : rc ≤ 16 := by
    have := hok.2.2.2.1
    have := hok.2.2.2.2.1
    omega
  unfold wpX_ruleBegin
  exact x_emptyDraft hrc (h _ (sp_empty hok) (rx_empty hn h9 h12))
/-- some draft, whatever was asked -/
theorem rx_pat {u : St2} {post : Int32 → St2 → Prop} {v1 v2 : Int32} (hok : sp_ok mN mR rc ph nc oc cx ap P R rl rj rK uc D ps dc dl dj dk K V A B O) (hx : rx mN mR rc ph nc oc cx ap P R rl rj rK uc D ps dc dl dj dk K V A B O u) (h : ∀ a D' ps' dc' u', sp_ok mN mR rc ph nc oc cx ap P R rl rj rK uc D' ps' dc' dl dj dk K V A B O → rx mN mR rc ph nc oc cx ap P R rl rj rK uc D' ps' dc' dl dj dk K V A B O u' → post a u') : wpX_rulePat post u v1 v2 := by
  obtain ⟨f_maxNodes, f_maxRules, f_ruleCount, f_counterexample, f_optimized, f_nodeCount, f_outputCount, f_applications, a_preRelation, a_preVariable, a_preConstant, a_roomNeeded, a_useCount, a_treeSize, a_treeKind, a_treeValue, a_treeA, a_treeB, a_treeResult, a_constantValued, a_maximal, a_counterpart, a_boundNode, a_pending, a_pendingCount, a_nodeKind, a_nodeValue, a_nodeA, a_nodeB, a_nodeResult, a_nodeUses, a_outputNode, a_seen, a_order, a_walkStack⟩ := u
  unfold wpX_rulePat
  refine rx_append (s := 0) hok (by omega) hx (fun κ w u' hac hx' => ?_) (fun hno => ?_)
  · obtain ⟨f_maxNodes'', f_maxRules'', f_ruleCount'', f_counterexample'', f_optimized'', f_nodeCount'', f_outputCount'', f_applications'', a_preRelation'', a_preVariable'', a_preConstant'', a_roomNeeded'', a_useCount'', a_treeSize'', a_treeKind'', a_treeValue'', a_treeA'', a_treeB'', a_treeResult'', a_constantValued'', a_maximal'', a_counterpart'', a_boundNode'', a_pending'', a_pendingCount'', a_nodeKind'', a_nodeValue'', a_nodeA'', a_nodeB'', a_nodeResult'', a_nodeUses'', a_outputNode'', a_seen'', a_order'', a_walkStack''⟩ := u'
    exact And.intro (by decide) (h _ _ _ _ _ (sp_append hok (by omega) hac (fun h => absurd h (by omega))) hx')
  · exact And.intro (by decide) (h _ _ _ _ _ hok hx)
theorem rx_rep {u : St2} {post : Int32 → St2 → Prop} {v1 v2 : Int32} (hok : sp_ok mN mR rc ph nc oc cx ap P R rl rj rK uc D ps dc dl dj dk K V A B O) (hx : rx mN mR rc ph nc oc cx ap P R rl rj rK uc D ps dc dl dj dk K V A B O u) (h : ∀ a D' ps' dc' u', sp_ok mN mR rc ph nc oc cx ap P R rl rj rK uc D' ps' dc' dl dj dk K V A B O → rx mN mR rc ph nc oc cx ap P R rl rj rK uc D' ps' dc' dl dj dk K V A B O u' → post a u') : wpX_ruleRep post u v1 v2 := by
  obtain ⟨f_maxNodes, f_maxRules, f_ruleCount, f_counterexample, f_optimized, f_nodeCount, f_outputCount, f_applications, a_preRelation, a_preVariable, a_preConstant, a_roomNeeded, a_useCount, a_treeSize, a_treeKind, a_treeValue, a_treeA, a_treeB, a_treeResult, a_constantValued, a_maximal, a_counterpart, a_boundNode, a_pending, a_pendingCount, a_nodeKind, a_nodeValue, a_nodeA, a_nodeB, a_nodeResult, a_nodeUses, a_outputNode, a_seen, a_order, a_walkStack⟩ := u
  unfold wpX_ruleRep
  refine br_c (fun e14 => ?_) (fun n14 => ?_)
  · exact h _ _ _ _ _ hok hx
  · refine rx_append (s := 1) hok (by omega) hx (fun κ w u' hac hx' => ?_) (fun hno => ?_)
    · obtain ⟨f_maxNodes'', f_maxRules'', f_ruleCount'', f_counterexample'', f_optimized'', f_nodeCount'', f_outputCount'', f_applications'', a_preRelation'', a_preVariable'', a_preConstant'', a_roomNeeded'', a_useCount'', a_treeSize'', a_treeKind'', a_treeValue'', a_treeA'', a_treeB'', a_treeResult'', a_constantValued'', a_maximal'', a_counterpart'', a_boundNode'', a_pending'', a_pendingCount'', a_nodeKind'', a_nodeValue'', a_nodeA'', a_nodeB'', a_nodeResult'', a_nodeUses'', a_outputNode'', a_seen'', a_order'', a_walkStack''⟩ := u'
      have hv1 := hac.1
      subst hv1
      have hne : κ ≠ 14 := fun e => n14 (by rw [e]; rfl)
      exact br_f (by decide) (h _ _ _ _ _ (sp_append hok (by omega) hac (fun _ => hne)) hx')
    · exact br_t rfl (h _ _ _ _ _ hok hx)
end VDz
end
section
/-! rulePre, addNode, addOutput, clearDag, ruleUses -/
section VSx
variable {f_maxNodes f_maxRules f_ruleCount f_counterexample f_optimized f_nodeCount f_outputCount f_applications : Int32} {a_preRelation a_preVariable a_preConstant a_roomNeeded a_useCount a_treeSize a_treeKind a_treeValue a_treeA a_treeB a_treeResult a_constantValued a_maximal a_counterpart a_boundNode a_pending a_pendingCount a_nodeKind a_nodeValue a_nodeA a_nodeB a_nodeResult a_nodeUses a_outputNode a_seen a_order a_walkStack : Nat → Int32}
variable {mN : Nat} {mR : Nat} {rc : Nat} {ph : Nat} {nc : Nat} {oc : Nat} {cx : Int32} {ap : Int32} {P : Nat → pr_PT} {R : Nat → pr_PT} {rl : Nat → Nat} {rj : Nat → Nat} {rK : Nat → Nat} {uc : Nat → Int32} {D : Nat → pr_PT} {ps : Nat → Nat → Nat} {dc : Nat → Nat} {dl : Nat} {dj : Nat} {dk : Nat} {K : Nat → Nat} {V : Nat → Int32} {A : Nat → Option Nat} {B : Nat → Option Nat} {O : Nat → Nat}
theorem sp_pre {ρ j c : Nat} (h : sp_ok mN mR rc ph nc oc cx ap P R rl rj rK uc D ps dc dl dj dk K V A B O) (h4 : ρ ≤ 4) (hj : ρ ≠ 0 → j < 2 ∧ c < 256) : sp_ok mN mR rc ph nc oc cx ap P R rl rj rK uc D ps dc ρ j c K V A B O := by
  obtain ⟨o1, o2, o3, o4, o5, o6, o7, o8, ⟨d1, d2, d3, d4⟩, o10⟩ := h
  exact ⟨o1, o2, o3, o4, o5, o6, o7, o8, ⟨d1, d2, h4, hj⟩, o10⟩
theorem x_pre31 {post : Int32 → St2 → Prop} {ρ j c : Nat} {x2 x3 : Int32} (hok : sp_ok mN mR rc ph nc oc cx ap P R rl rj rK uc D ps dc dl dj dk K V A B O) (hx : rx mN mR rc ph nc oc cx ap P R rl rj rK uc D ps dc dl dj dk K V A B O (f_maxNodes, f_maxRules, f_ruleCount, f_counterexample, f_optimized, f_nodeCount, f_outputCount, f_applications, a_preRelation, a_preVariable, a_preConstant, a_roomNeeded, a_useCount, a_treeSize, a_treeKind, a_treeValue, a_treeA, a_treeB, a_treeResult, a_constantValued, a_maximal, a_counterpart, a_boundNode, a_pending, a_pendingCount, a_nodeKind, a_nodeValue, a_nodeA, a_nodeB, a_nodeResult, a_nodeUses, a_outputNode, a_seen, a_order, a_walkStack)) (hj : ρ ≠ 0 → x2 = nI j ∧ x3 = nI c) (h : ∀ u', rx mN mR rc ph nc oc cx ap P R rl rj rK uc D ps dc ρ j c K V A B O u' → post 1 u') : wX_rulePre_31 post (nI ρ) x2 x3 f_maxNodes f_maxRules f_ruleCount f_counterexample f_optimized f_nodeCount f_outputCount f_applications a_preRelation a_preVariable a_preConstant a_roomNeeded a_useCount a_treeSize a_treeKind a_treeValue a_treeA a_treeB a_treeResult a_constantValued a_maximal a_counterpart a_boundNode a_pending a_pendingCount a_nodeKind a_nodeValue a_nodeA a_nodeB a_nodeResult a_nodeUses a_outputNode a_seen a_order a_walkStack := by
  obtain ⟨e1, e2, e3, e4, e5, e6, e7, e8, h9, h10, h11, h12⟩ := hx
  subst e1 e2 e3 e4 e5 e6 e7 e8
  have hrc : rc ≤ 16 := by
    have := hok.2.2.2.1
    have := hok.2.2.2.2.1
    omega
  have hin : vp_in (nI rc) 17 := pk_in rc 17 (by omega)
  refine ⟨hin, ?_⟩
  rw [nI_clamp (by omega)]
  refine nm_e ⟨hin, nm_e ⟨hin, nm_e (h _ ?_)⟩⟩
  refine ⟨rfl, rfl, rfl, rfl, rfl, rfl, rfl, rfl, fun r hr => ⟨(h9 r hr).1, pe_cong (h9 r hr).2.1 (pk_un (by omega)) (pk_un (by omega)) (pk_un (by omega)), (h9 r hr).2.2⟩, h10, ⟨pk_us, fun hρ => ?_⟩, h12⟩
  rw [pk_us, pk_us]
  exact hj hρ
theorem sp_node {κ : Nat} {x : Int32} {a b : Option Nat} (h : sp_ok mN mR rc ph nc oc cx ap P R rl rj rK uc D ps dc dl dj dk K V A B O) (hph : ph = 0) (hnc : nc < mN) (h1 : 1 ≤ κ) (h12 : κ ≤ 12) (hv : pr_by x) (hv12 : κ = 12 → ∃ i, i < 4 ∧ x = nI i) (hv0 : κ ≤ 10 → x = 0) (ha : 11 ≤ κ → a = none) (hb : 9 ≤ κ → b = none) (ha' : κ ≤ 10 → ∃ c, a = some c) (hb' : κ ≤ 8 → ∃ c, b = some c) (hc : ∀ c, a = some c ∨ b = some c → c < nc) :
    sp_ok mN mR rc ph (nc + 1) oc cx ap P R rl rj rK uc D ps dc dl dj dk (pr_st K nc κ) (pr_st V nc x) (pr_st A nc a) (pr_st B nc b) O := by
  obtain ⟨o1, o2, o3, o4, o5, o6, o7, o8, o9, rk, rk2, g1, g2, g3, g4⟩ := h
  obtain ⟨g5, g6, g7⟩ := g3 hph
  subst g5
  have hT : ∀ n, pr_T 0 K n → pr_T 0 (pr_st K nc κ) n ∧ n ≠ nc := by
    intro n hn
    have hne : n ≠ nc := by
      intro e
      have := (g7 n (by have := hn.2.1; omega)).mpr (by omega)
      exact hn.2.2 this
    exact ⟨⟨hn.1, hn.2.1, by rw [pr_st_n hne]; exact hn.2.2⟩, hne⟩
  have hTn : ∀ c, c < nc → pr_T 0 (pr_st K nc κ) c := by
    intro c hc
    have h0 : K c ≠ 0 := fun h => by
      have := (g7 c (by omega)).mp h
      omega
    exact (hT c ⟨by omega, by omega, h0⟩).1
  refine ⟨o1, o2, o3, o4, o5, o6, o7, o8, o9, fun n => n, rk2, fun n hn => ?_, fun k hk => (hT _ (g2 k hk)).1, fun _ => ⟨rfl, by omega, fun n hn => ?_⟩, fun h => absurd h (by omega)⟩
  · by_cases e : n = nc
    · subst e
      rw [pr_st_s, pr_st_s, pr_st_s, pr_st_s]
      refine ⟨h12, by have := hn.2.1; omega, hv, hv12, hv0, ha, hb, ha', hb', fun c hc' => ⟨hTn c (hc c hc'), hc c hc'⟩⟩
    · have hn' : pr_T 0 K n := ⟨hn.1, hn.2.1, by have := hn.2.2; rw [pr_st_n e] at this; exact this⟩
      rw [pr_st_n e, pr_st_n e, pr_st_n e, pr_st_n e]
      obtain ⟨k1, k2, k3, k4, k5, k6, k7, k8, k9, k10⟩ := g1 n hn'
      exact ⟨k1, k2, k3, k4, k5, k6, k7, k8, k9, fun c hc' => ⟨(hT c (k10 c hc').1).1, (k10 c hc').2⟩⟩
  · by_cases e : n = nc
    · rw [e, pr_st_s]
      exact ⟨fun h => absurd h (by omega), fun h => absurd h (by omega)⟩
    · rw [pr_st_n e, g7 n hn]
      omega
theorem gr_node {nc κ oc : Nat} {K : Nat → Nat} {V : Nat → Int32} {A B : Nat → Option Nat} {O : Nat → Nat} {x : Int32} {a b : Option Nat} {nk nv na nb ou : Nat → Int32} (h : gr_all 0 oc K V A B O nk nv na nb ou) :
    gr_all 0 oc (pr_st K nc κ) (pr_st V nc x) (pr_st A nc a) (pr_st B nc b) O (upd nk nc (nI κ)) (upd nv nc x) (upd na nc (pr_oI a)) (upd nb nc (pr_oI b)) ou := by
  refine ⟨fun n hn => ?_, h.2.1, fun h => absurd h (by omega)⟩
  by_cases e : n = nc
  · subst e
    rw [pk_us, pk_us, pk_us, pk_us, pr_st_s, pr_st_s, pr_st_s, pr_st_s]
    exact ⟨rfl, rfl, rfl, rfl⟩
  · rw [pk_un e, pk_un e, pk_un e, pk_un e, pr_st_n e, pr_st_n e, pr_st_n e, pr_st_n e]
    exact h.1 n ⟨hn.1, hn.2.1, by have := hn.2.2; rw [pr_st_n e] at this; exact this⟩
theorem x_setNode {post : St2 → Prop} {n : Nat} {p1 p2 p3 p4 : Int32} (hn : n < 64) (h : post (f_maxNodes, f_maxRules, f_ruleCount, f_counterexample, f_optimized, f_nodeCount, f_outputCount, f_applications, a_preRelation, a_preVariable, a_preConstant, a_roomNeeded, a_useCount, a_treeSize, a_treeKind, a_treeValue, a_treeA, a_treeB, a_treeResult, a_constantValued, a_maximal, a_counterpart, a_boundNode, a_pending, a_pendingCount, (upd a_nodeKind n p1), (upd a_nodeValue n p2), (upd a_nodeA n p3), (upd a_nodeB n p4), a_nodeResult, a_nodeUses, a_outputNode, a_seen, a_order, a_walkStack)) : wpX_setNode post (f_maxNodes, f_maxRules, f_ruleCount, f_counterexample, f_optimized, f_nodeCount, f_outputCount, f_applications, a_preRelation, a_preVariable, a_preConstant, a_roomNeeded, a_useCount, a_treeSize, a_treeKind, a_treeValue, a_treeA, a_treeB, a_treeResult, a_constantValued, a_maximal, a_counterpart, a_boundNode, a_pending, a_pendingCount, a_nodeKind, a_nodeValue, a_nodeA, a_nodeB, a_nodeResult, a_nodeUses, a_outputNode, a_seen, a_order, a_walkStack) (nI n) p1 p2 p3 p4 := by
  have hin : vp_in (nI n) 64 := pk_in n 64 hn
  unfold wpX_setNode
  refine ⟨hin, ?_⟩
  rw [nI_clamp (by omega)]
  exact nm_e ⟨hin, nm_e ⟨hin, nm_e ⟨hin, nm_e h⟩⟩⟩
theorem x_setNode2 {post : St2 → Prop} {n : Nat} {p1 p2 p3 p4 : Int32} (hn : n < 64) (h : post (f_maxNodes, f_maxRules, f_ruleCount, f_counterexample, f_optimized, f_nodeCount, f_outputCount, f_applications, a_preRelation, a_preVariable, a_preConstant, a_roomNeeded, a_useCount, a_treeSize, a_treeKind, a_treeValue, a_treeA, a_treeB, a_treeResult, a_constantValued, a_maximal, a_counterpart, a_boundNode, a_pending, a_pendingCount, (upd a_nodeKind n p1), (upd a_nodeValue n p2), (upd a_nodeA n p3), (upd a_nodeB n p4), a_nodeResult, a_nodeUses, a_outputNode, a_seen, a_order, a_walkStack)) : wpX_setNode_2 post (f_maxNodes, f_maxRules, f_ruleCount, f_counterexample, f_optimized, f_nodeCount, f_outputCount, f_applications, a_preRelation, a_preVariable, a_preConstant, a_roomNeeded, a_useCount, a_treeSize, a_treeKind, a_treeValue, a_treeA, a_treeB, a_treeResult, a_constantValued, a_maximal, a_counterpart, a_boundNode, a_pending, a_pendingCount, a_nodeKind, a_nodeValue, a_nodeA, a_nodeB, a_nodeResult, a_nodeUses, a_outputNode, a_seen, a_order, a_walkStack) (nI n) p1 p2 p3 p4 := by
  have hin : vp_in (nI n) 64 := pk_in n 64 hn
  unfold wpX_setNode_2
  refine ⟨hin, ?_⟩
  rw [nI_clamp (by omega)]
  exact nm_e ⟨hin, nm_e ⟨hin, nm_e ⟨hin, nm_e h⟩⟩⟩
theorem x_isAdded_t {post : Int32 → Prop} {a : Nat} (ha : a < nc) (hnc : nc < 2 ^ 31) (h : post 1) : wpX_isAddedNode post (f_maxNodes, f_maxRules, f_ruleCount, f_counterexample, f_optimized, (nI nc), f_outputCount, f_applications, a_preRelation, a_preVariable, a_preConstant, a_roomNeeded, a_useCount, a_treeSize, a_treeKind, a_treeValue, a_treeA, a_treeB, a_treeResult, a_constantValued, a_maximal, a_counterpart, a_boundNode, a_pending, a_pendingCount, a_nodeKind, a_nodeValue, a_nodeA, a_nodeB, a_nodeResult, a_nodeUses, a_outputNode, a_seen, a_order, a_walkStack) (nI a) := by
  unfold wpX_isAddedNode
  exact br_f (nI_pos (by omega)) (pk_le nc a (fun h => absurd h (by omega)) (fun _ => h))
theorem x_isAdded_f {post : Int32 → Prop} {p : Int32} (hp : p < 0 ∨ nI nc ≤ p) (h : post 0) : wpX_isAddedNode post (f_maxNodes, f_maxRules, f_ruleCount, f_counterexample, f_optimized, (nI nc), f_outputCount, f_applications, a_preRelation, a_preVariable, a_preConstant, a_roomNeeded, a_useCount, a_treeSize, a_treeKind, a_treeValue, a_treeA, a_treeB, a_treeResult, a_constantValued, a_maximal, a_counterpart, a_boundNode, a_pending, a_pendingCount, a_nodeKind, a_nodeValue, a_nodeA, a_nodeB, a_nodeResult, a_nodeUses, a_outputNode, a_seen, a_order, a_walkStack) p := by
  unfold wpX_isAddedNode
  by_cases h0 : p < 0
  · exact br_t h0 h
  · refine br_f h0 (br_t ?_ h)
    rcases hp with hp | hp
    · exact absurd hp h0
    · exact hp
end VSx
section VSz
variable {mN : Nat} {mR : Nat} {rc : Nat} {ph : Nat} {nc : Nat} {oc : Nat} {cx : Int32} {ap : Int32} {P : Nat → pr_PT} {R : Nat → pr_PT} {rl : Nat → Nat} {rj : Nat → Nat} {rK : Nat → Nat} {uc : Nat → Int32} {D : Nat → pr_PT} {ps : Nat → Nat → Nat} {dc : Nat → Nat} {dl : Nat} {dj : Nat} {dk : Nat} {K : Nat → Nat} {V : Nat → Int32} {A : Nat → Option Nat} {B : Nat → Option Nat} {O : Nat → Nat}
theorem rx_pre {u : St2} {post : Int32 → St2 → Prop} {v1 v2 v3 : Int32} (hok : sp_ok mN mR rc ph nc oc cx ap P R rl rj rK uc D ps dc dl dj dk K V A B O) (hx : rx mN mR rc ph nc oc cx ap P R rl rj rK uc D ps dc dl dj dk K V A B O u) (h : ∀ a l j c u', sp_ok mN mR rc ph nc oc cx ap P R rl rj rK uc D ps dc l j c K V A B O → rx mN mR rc ph nc oc cx ap P R rl rj rK uc D ps dc l j c K V A B O u' → post a u') : wpX_rulePre post u v1 v2 v3 := by
  have hI : ∀ a, post a u := fun a => h a _ _ _ _ hok hx
  obtain ⟨f_maxNodes, f_maxRules, f_ruleCount, f_counterexample, f_optimized, f_nodeCount, f_outputCount, f_applications, a_preRelation, a_preVariable, a_preConstant, a_roomNeeded, a_useCount, a_treeSize, a_treeKind, a_treeValue, a_treeA, a_treeB, a_treeResult, a_constantValued, a_maximal, a_counterpart, a_boundNode, a_pending, a_pendingCount, a_nodeKind, a_nodeValue, a_nodeA, a_nodeB, a_nodeResult, a_nodeUses, a_outputNode, a_seen, a_order, a_walkStack⟩ := u
  have hno : (v1 < 0 ∨ nI 5 ≤ v1) → wpX_rulePre post (f_maxNodes, f_maxRules, f_ruleCount, f_counterexample, f_optimized, f_nodeCount, f_outputCount, f_applications, a_preRelation, a_preVariable, a_preConstant, a_roomNeeded, a_useCount, a_treeSize, a_treeKind, a_treeValue, a_treeA, a_treeB, a_treeResult, a_constantValued, a_maximal, a_counterpart, a_boundNode, a_pending, a_pendingCount, a_nodeKind, a_nodeValue, a_nodeA, a_nodeB, a_nodeResult, a_nodeUses, a_outputNode, a_seen, a_order, a_walkStack) v1 v2 v3 := by
    intro hp
    by_cases h0 : v1 < 0
    · exact br_t h0 (hI _)
    · have h5 : ¬ v1 ≤ 4 := by
        rcases hp with hp | hp
        · exact absurd hp h0
        · intro h
          exact absurd (Int32.le_trans hp h) (by decide)
      exact br_f h0 (br_f h5 (hI _))
  rcases pk_ix v1 (n := 5) (by omega) with hp | hp | ⟨ρ, hρ, rfl⟩
  · exact hno (Or.inl hp)
  · exact hno (Or.inr hp)
  · have h0 : ¬ nI ρ < 0 := nI_pos (by omega)
    have h4 : nI ρ ≤ 4 := nI_le (b := 4) (by omega) (by decide)
    refine br_f h0 (br_t h4 (pk_eq ρ 0 (fun e => ?_) (fun ne => ?_)))
    · exact x_pre31 (ρ := ρ) (j := 0) (c := 0) hok hx (fun h => absurd e h) (fun u' hx' => h _ _ _ _ _ (sp_pre hok (by omega) (fun h => absurd e h)) hx')
    · rcases pk_ix v2 (n := 2) (by omega) with hq | hq | ⟨j, hj, rfl⟩
      · exact x_isVariable_f (Or.inl hq) (br_t rfl (hI _))
      · exact x_isVariable_f (Or.inr hq) (br_t rfl (hI _))
      · refine x_isVariable_t hj (br_f (by decide) ?_)
        rcases pk_ix v3 (n := 256) (by omega) with hc | hc | ⟨c, hc, rfl⟩
        · exact x_isWord_f (Or.inl hc) (br_t rfl (hI _))
        · exact x_isWord_f (Or.inr hc) (br_t rfl (hI _))
        · exact x_isWord_t hc (br_f (by decide) (x_pre31 (ρ := ρ) (j := j) (c := c) hok hx (fun _ => ⟨rfl, rfl⟩) (fun u' hx' => h _ _ _ _ _ (sp_pre hok (by omega) (fun _ => ⟨hj, hc⟩)) hx')))
/-- addOutput: refused, or (before optimize) one more output -/
theorem rx_out {u : St2} {post : Int32 → St2 → Prop} {v1 : Int32} (hok : sp_ok mN mR rc ph nc oc cx ap P R rl rj rK uc D ps dc dl dj dk K V A B O) (hx : rx mN mR rc ph nc oc cx ap P R rl rj rK uc D ps dc dl dj dk K V A B O u) (hno : ∀ a, post a u) (h : ∀ a n u', ph = 0 → sp_ok mN mR rc ph nc (oc + 1) cx ap P R rl rj rK uc D ps dc dl dj dk K V A B (pr_st O oc n) → rx mN mR rc ph nc (oc + 1) cx ap P R rl rj rK uc D ps dc dl dj dk K V A B (pr_st O oc n) u' → post a u') : wpX_addOutput post u v1 := by
  obtain ⟨f_maxNodes, f_maxRules, f_ruleCount, f_counterexample, f_optimized, f_nodeCount, f_outputCount, f_applications, a_preRelation, a_preVariable, a_preConstant, a_roomNeeded, a_useCount, a_treeSize, a_treeKind, a_treeValue, a_treeA, a_treeB, a_treeResult, a_constantValued, a_maximal, a_counterpart, a_boundNode, a_pending, a_pendingCount, a_nodeKind, a_nodeValue, a_nodeA, a_nodeB, a_nodeResult, a_nodeUses, a_outputNode, a_seen, a_order, a_walkStack⟩ := u
  obtain ⟨e1, e2, e3, e4, e5, e6, e7, e8, h9, h10, h11, h12⟩ := hx
  subst e1 e2 e3 e4 e5 e6 e7 e8
  obtain ⟨o1, o2, o3, o4, o5, o6, o7, o8, o9, rk, rk2, q1, q2, q3, q4⟩ := hok
  unfold wpX_addOutput
  refine pk_eq ph 0 (fun hp => ?_) (fun hp => hno _)
  subst hp
  obtain ⟨q5, q6, q7⟩ := q3 rfl
  refine pk_eq oc 4 (fun ho => hno _) (fun ho => ?_)
  rcases pk_ix v1 (n := nc) (by omega) with hp | hp | ⟨n, hn, rfl⟩
  · exact x_isAdded_f (nc := nc) (Or.inl hp) (br_t rfl (hno _))
  · exact x_isAdded_f (nc := nc) (Or.inr hp) (br_t rfl (hno _))
  · refine x_isAdded_t (nc := nc) hn (by omega) (br_f (by decide) ⟨pk_in oc 8 (by omega), ?_⟩)
    rw [nI_clamp (by omega)]
    refine nm_e (nm_r (nI_1 _) ?_)
    have hTn : pr_T 0 K n := by
      refine ⟨by omega, by omega, fun h => ?_⟩
      have := (q7 n (by omega)).mp h
      omega
    have hout : ∀ f : Nat → Int32, (∀ k, k < oc → f k = nI (O k)) → ∀ k, k < oc + 1 → upd f oc (nI n) k = nI (pr_st O oc n k) := by
      intro f hf k hk
      by_cases e : k = oc
      · rw [e, pk_us, pr_st_s]
      · rw [pk_un e, pr_st_n e]
        exact hf k (by omega)
    refine h _ n _ rfl ⟨o1, o2, o3, o4, o5, o6, by omega, o8, o9, rk, rk2, q1, fun k hk => ?_, fun _ => ⟨q5, q6, q7⟩, fun h => absurd h (by omega)⟩ ⟨rfl, rfl, rfl, rfl, rfl, rfl, rfl, rfl, h9, h10, h11, h12.1, hout _ h12.2.1, fun h => absurd h (by omega)⟩
    by_cases e : k = oc
    · rw [e, pr_st_s]
      exact hTn
    · rw [pr_st_n e]
      exact q2 k (by omega)
end VSz
end
section
/-! addNode, clearDag -/
section VNx
variable {f_maxNodes f_maxRules f_ruleCount f_counterexample f_optimized f_nodeCount f_outputCount f_applications : Int32} {a_preRelation a_preVariable a_preConstant a_roomNeeded a_useCount a_treeSize a_treeKind a_treeValue a_treeA a_treeB a_treeResult a_constantValued a_maximal a_counterpart a_boundNode a_pending a_pendingCount a_nodeKind a_nodeValue a_nodeA a_nodeB a_nodeResult a_nodeUses a_outputNode a_seen a_order a_walkStack : Nat → Int32}
variable {mN : Nat} {mR : Nat} {rc : Nat} {ph : Nat} {nc : Nat} {oc : Nat} {cx : Int32} {ap : Int32} {P : Nat → pr_PT} {R : Nat → pr_PT} {rl : Nat → Nat} {rj : Nat → Nat} {rK : Nat → Nat} {uc : Nat → Int32} {D : Nat → pr_PT} {ps : Nat → Nat → Nat} {dc : Nat → Nat} {dl : Nat} {dj : Nat} {dk : Nat} {K : Nat → Nat} {V : Nat → Int32} {A : Nat → Option Nat} {B : Nat → Option Nat} {O : Nat → Nat}
/-- addNode: refused, or (before optimize) one more node -/
theorem rx_node {u : St2} {post : Int32 → St2 → Prop} {v1 v2 v3 : Int32} (hok : sp_ok mN mR rc ph nc oc cx ap P R rl rj rK uc D ps dc dl dj dk K V A B O) (hx : rx mN mR rc ph nc oc cx ap P R rl rj rK uc D ps dc dl dj dk K V A B O u) (hno : ∀ a, post a u) (h : ∀ r κ x a b u', ph = 0 → sp_ok mN mR rc ph (nc + 1) oc cx ap P R rl rj rK uc D ps dc dl dj dk (pr_st K nc κ) (pr_st V nc x) (pr_st A nc a) (pr_st B nc b) O → rx mN mR rc ph (nc + 1) oc cx ap P R rl rj rK uc D ps dc dl dj dk (pr_st K nc κ) (pr_st V nc x) (pr_st A nc a) (pr_st B nc b) O u' → post r u') : wpX_addNode post u v1 v2 v3 := by
  obtain ⟨f_maxNodes, f_maxRules, f_ruleCount, f_counterexample, f_optimized, f_nodeCount, f_outputCount, f_applications, a_preRelation, a_preVariable, a_preConstant, a_roomNeeded, a_useCount, a_treeSize, a_treeKind, a_treeValue, a_treeA, a_treeB, a_treeResult, a_constantValued, a_maximal, a_counterpart, a_boundNode, a_pending, a_pendingCount, a_nodeKind, a_nodeValue, a_nodeA, a_nodeB, a_nodeResult, a_nodeUses, a_outputNode, a_seen, a_order, a_walkStack⟩ := u
  obtain ⟨e1, e2, e3, e4, e5, e6, e7, e8, h9, h10, h11, h12⟩ := hx
  subst e1 e2 e3 e4 e5 e6 e7 e8
  have hmN := hok.2.1
  have hph := hok.2.2.2.2.2.1
  have hncs : ph = 0 → nc ≤ mN := fun h => by
    obtain ⟨_, _, _, _, q3, _⟩ := hok.2.2.2.2.2.2.2.2.2
    exact (q3 h).2.1
  unfold wpX_addNode
  refine pk_eq ph 0 (fun hp => ?_) (fun hp => hno _)
  subst hp
  have hnc := hncs rfl
  refine pk_eq nc mN (fun hm => hno _) (fun hm => ?_)
  rcases pk_ix v1 (n := 13) (by omega) with hp | hp | ⟨κ, hκ, rfl⟩
  · exact br_t (Int32.lt_trans hp (by decide)) (hno _)
  · have h1 : ¬ v1 < 1 := fun h => absurd (Int32.lt_of_le_of_lt hp h) (by decide)
    have h12 : ¬ v1 ≤ 12 := fun h => absurd (Int32.le_trans hp h) (by decide)
    exact br_f h1 (br_f h12 (hno _))
  · refine pk_lt κ 1 (fun h1 => hno _) (fun h1 => br_t (nI_le (b := 12) (by omega) (by decide)) ?_)
    have hlt : nc < mN := by omega
    have hk12 : κ ≤ 12 := by omega
    have fin : ∀ (r x : Int32) (a b : Option Nat), pr_by x → (κ = 12 → ∃ i, i < 4 ∧ x = nI i) → (κ ≤ 10 → x = 0) → (11 ≤ κ → a = none) → (9 ≤ κ → b = none) → (κ ≤ 10 → ∃ c, a = some c) → (κ ≤ 8 → ∃ c, b = some c) → (∀ c, a = some c ∨ b = some c → c < nc) →
        post r ((nI mN), (nI mR), (nI rc), f_counterexample, (nI 0), (nI (nc + 1)), (nI oc), f_applications, a_preRelation, a_preVariable, a_preConstant, a_roomNeeded, a_useCount, a_treeSize, a_treeKind, a_treeValue, a_treeA, a_treeB, a_treeResult, a_constantValued, a_maximal, a_counterpart, a_boundNode, a_pending, a_pendingCount, (upd a_nodeKind nc (nI κ)), (upd a_nodeValue nc x), (upd a_nodeA nc (pr_oI a)), (upd a_nodeB nc (pr_oI b)), a_nodeResult, a_nodeUses, a_outputNode, a_seen, a_order, a_walkStack) := by
      intro r x a b hv hv12 hv0 ha hb ha' hb' hc
      exact h r κ x a b _ rfl (sp_node hok rfl hlt h1 hk12 hv hv12 hv0 ha hb ha' hb' hc) ⟨rfl, rfl, rfl, rfl, rfl, rfl, rfl, rfl, h9, h10, h11, gr_node h12⟩
    have hcl : nI nc + 1 = nI (nc + 1) := nI_1 nc
    have har := pr_ar_c κ
    refine pk_eq κ 12 (fun e12 => ?_) (fun n12 => ?_)
    · subst e12
      by_cases q0 : v2 < 0
      · exact br_t q0 (hno _)
      · obtain ⟨a, ha, rfl⟩ := nI_of q0
        refine br_f q0 (pk_lt a 4 (fun h4 => ?_) (fun h4 => hno _))
        refine x_arity (κ := 12) (by decide) (br_t (by decide) (br_f (by decide) ?_))
        refine nm_r hcl (br_t rfl (x_setNode (by omega) ?_))
        have eb : nI a &&& 255 = nI a := pr_by_id ⟨a, by omega, rfl⟩
        rw [eb]
        exact fin _ (nI a) none none ⟨a, by omega, rfl⟩ (fun _ => ⟨a, h4, rfl⟩) (fun h => absurd h (by omega)) (fun _ => rfl) (fun _ => rfl) (fun h => absurd h (by omega)) (fun h => absurd h (by omega)) (fun c hc => by rcases hc with y | y <;> cases y)
    · by_cases e11 : κ = 11
      · subst e11
        refine x_arity (κ := 11) (by decide) (br_t (by decide) (br_f (by decide) ?_))
        refine nm_r hcl (br_t rfl (x_setNode (by omega) ?_))
        exact fin _ (v2 &&& 255) none none (pr_by_and _) (fun h => absurd h (by omega)) (fun h => absurd h (by omega)) (fun _ => rfl) (fun _ => rfl) (fun h => absurd h (by omega)) (fun h => absurd h (by omega)) (fun c hc => by rcases hc with y | y <;> cases y)
      · have hk10 : κ ≤ 10 := by omega
        refine x_arity (by omega) (pk_lt (pr_ar κ) 1 (fun h => absurd h (by omega)) (fun _ => ?_))
        rcases pk_ix v2 (n := nc) (by omega) with hq | hq | ⟨a, ha, rfl⟩
        · exact x_isAdded_f (nc := nc) (Or.inl hq) (br_t rfl (hno _))
        · exact x_isAdded_f (nc := nc) (Or.inr hq) (br_t rfl (hno _))
        · refine x_isAdded_t (nc := nc) ha (by omega) (br_f (by decide) ?_)
          by_cases hb : κ ≤ 8
          · have ha2 := pr_ar_2 h1 hb
            rw [ha2]
            refine br_t rfl ?_
            rcases pk_ix v3 (n := nc) (by omega) with hq | hq | ⟨b, hb', rfl⟩
            · exact x_isAdded_f (nc := nc) (Or.inl hq) (br_t rfl (hno _))
            · exact x_isAdded_f (nc := nc) (Or.inr hq) (br_t rfl (hno _))
            · refine x_isAdded_t (nc := nc) hb' (by omega) (br_f (by decide) ?_)
              refine nm_r hcl (br_f (by decide) (br_t rfl (x_setNode (by omega) ?_)))
              exact fin _ 0 (some a) (some b) pr_by_0 (fun h => absurd h n12) (fun _ => rfl) (fun h => absurd h (by omega)) (fun h => absurd h (by omega)) (fun _ => ⟨a, rfl⟩) (fun _ => ⟨b, rfl⟩) (fun c hc => by
                rcases hc with y | y
                · cases y
                  exact ha
                · cases y
                  exact hb')
          · have ha1 := pr_ar_1 (κ := κ) (by omega)
            rw [ha1]
            refine br_f (by decide) ?_
            refine nm_r hcl (br_f (by decide) (br_f (by decide) (x_setNode (by omega) ?_)))
            exact fin _ 0 (some a) none pr_by_0 (fun h => absurd h n12) (fun _ => rfl) (fun h => absurd h (by omega)) (fun _ => rfl) (fun _ => ⟨a, rfl⟩) (fun h => absurd h hb) (fun c hc => by
              rcases hc with y | y
              · cases y
                exact ha
              · cases y)
theorem rx_clear {u : St2} {post : St2 → Prop} (hok : sp_ok mN mR rc ph nc oc cx ap P R rl rj rK uc D ps dc dl dj dk K V A B O) (hx : rx mN mR rc ph nc oc cx ap P R rl rj rK uc D ps dc dl dj dk K V A B O u) (h : ∀ u', sp_ok mN mR rc 0 0 0 cx 0 P R rl rj rK (fun _ => 0) D ps dc dl dj dk (fun _ => 0) (fun _ => 0) (fun _ => none) (fun _ => none) (fun _ => 0) → rx mN mR rc 0 0 0 cx 0 P R rl rj rK (fun _ => 0) D ps dc dl dj dk (fun _ => 0) (fun _ => 0) (fun _ => none) (fun _ => none) (fun _ => 0) u' → post u') : wpX_clearDag post u := by
  obtain ⟨f_maxNodes, f_maxRules, f_ruleCount, f_counterexample, f_optimized, f_nodeCount, f_outputCount, f_applications, a_preRelation, a_preVariable, a_preConstant, a_roomNeeded, a_useCount, a_treeSize, a_treeKind, a_treeValue, a_treeA, a_treeB, a_treeResult, a_constantValued, a_maximal, a_counterpart, a_boundNode, a_pending, a_pendingCount, a_nodeKind, a_nodeValue, a_nodeA, a_nodeB, a_nodeResult, a_nodeUses, a_outputNode, a_seen, a_order, a_walkStack⟩ := u
  obtain ⟨e1, e2, e3, e4, e5, e6, e7, e8, h9, h10, h11, h12⟩ := hx
  subst e1 e2 e3 e4 e5 e6 e7 e8
  obtain ⟨o1, o2, o3, o4, o5, o6, o7, o8, o9, o10⟩ := hok
  have hnT : ∀ lo n, ¬ pr_T lo (fun _ => 0) n := fun lo n h => h.2.2 rfl
  have lx : ∀ (post : St2 → Prop) (d i : Nat) (us : Nat → Int32), (∀ us', (∀ r, r < 17 → us' r = 0) → post ((nI mN), (nI mR), (nI rc), f_counterexample, 0, 0, 0, 0, a_preRelation, a_preVariable, a_preConstant, a_roomNeeded, us', a_treeSize, a_treeKind, a_treeValue, a_treeA, a_treeB, a_treeResult, a_constantValued, a_maximal, a_counterpart, a_boundNode, a_pending, a_pendingCount, a_nodeKind, a_nodeValue, a_nodeA, a_nodeB, a_nodeResult, a_nodeUses, a_outputNode, a_seen, a_order, a_walkStack)) → i + d = 17 → (∀ r, r < i → us r = 0) → wX_clearDag_22 post (nI mN) (nI mR) (nI rc) f_counterexample 0 0 0 0 (d + 1) (nI i) a_preRelation a_preVariable a_preConstant a_roomNeeded us a_treeSize a_treeKind a_treeValue a_treeA a_treeB a_treeResult a_constantValued a_maximal a_counterpart a_boundNode a_pending a_pendingCount a_nodeKind a_nodeValue a_nodeA a_nodeB a_nodeResult a_nodeUses a_outputNode a_seen a_order a_walkStack := by
    intro post d
    induction d with
    | zero =>
      intro i us h hi hu
      exact pk_le 17 i (fun _ => h us fun r hr => hu r (by omega)) (fun h => absurd h (by omega))
    | succ d ih =>
      intro i us h hi hu
      refine pk_le 17 i (fun h => absurd h (by omega)) (fun _ => ⟨pk_in i 17 (by omega), ?_⟩)
      rw [nI_clamp (by omega)]
      refine nm_e (nm_r (nI_1 _) (ih (i + 1) _ h (by omega) fun r hr => ?_))
      by_cases e : r = i
      · rw [e, pk_us]
      · rw [pk_un e]
        exact hu r (by omega)
  refine ⟨18, lx _ 17 0 _ (fun us' hu' => ?_) (by omega) (fun r hr => absurd hr (by omega))⟩
  exact h _ ⟨o1, o2, o3, o4, o5, by omega, by omega, o8, o9, fun n => n, fun n => n, fun n hn => absurd hn (hnT 0 n), fun k hk => absurd hk (by omega), fun _ => ⟨rfl, by omega, fun n _ => ⟨fun _ => Nat.zero_le n, fun _ => rfl⟩⟩, fun h => absurd h (by omega)⟩ ⟨rfl, rfl, rfl, rfl, rfl, rfl, rfl, rfl, fun r hr => ⟨(h9 r hr).1, (h9 r hr).2.1, hu' r (by omega)⟩, h10, h11, fun n hn => absurd hn (hnT 0 n), fun k hk => absurd hk (by omega), fun h => absurd h (by omega)⟩
end VNx
end
section
/-! stat, eval -/
section VQx
variable {f_maxNodes f_maxRules f_ruleCount f_counterexample f_optimized f_nodeCount f_outputCount f_applications : Int32} {a_preRelation a_preVariable a_preConstant a_roomNeeded a_useCount a_treeSize a_treeKind a_treeValue a_treeA a_treeB a_treeResult a_constantValued a_maximal a_counterpart a_boundNode a_pending a_pendingCount a_nodeKind a_nodeValue a_nodeA a_nodeB a_nodeResult a_nodeUses a_outputNode a_seen a_order a_walkStack : Nat → Int32}
variable {mN : Nat} {mR : Nat} {rc : Nat} {ph : Nat} {nc : Nat} {oc : Nat} {cx : Int32} {ap : Int32} {P : Nat → pr_PT} {R : Nat → pr_PT} {rl : Nat → Nat} {rj : Nat → Nat} {rK : Nat → Nat} {uc : Nat → Int32} {D : Nat → pr_PT} {ps : Nat → Nat → Nat} {dc : Nat → Nat} {dl : Nat} {dj : Nat} {dk : Nat} {K : Nat → Nat} {V : Nat → Int32} {A : Nat → Option Nat} {B : Nat → Option Nat} {O : Nat → Nat}
theorem rx_live {u : St2} {post : Int32 → St2 → Prop} (hok : sp_ok mN mR rc ph nc oc cx ap P R rl rj rK uc D ps dc dl dj dk K V A B O) (hx : rx mN mR rc ph nc oc cx ap P R rl rj rK uc D ps dc dl dj dk K V A B O u) (h : ∀ u', rx mN mR rc ph nc oc cx ap P R rl rj rK uc D ps dc dl dj dk K V A B O u' → post (nI (pr_lv A B O 0 oc).length) u') : wpX_listLive post u 0 := by
  obtain ⟨f_maxNodes, f_maxRules, f_ruleCount, f_counterexample, f_optimized, f_nodeCount, f_outputCount, f_applications, a_preRelation, a_preVariable, a_preConstant, a_roomNeeded, a_useCount, a_treeSize, a_treeKind, a_treeValue, a_treeA, a_treeB, a_treeResult, a_constantValued, a_maximal, a_counterpart, a_boundNode, a_pending, a_pendingCount, a_nodeKind, a_nodeValue, a_nodeA, a_nodeB, a_nodeResult, a_nodeUses, a_outputNode, a_seen, a_order, a_walkStack⟩ := u
  obtain ⟨e1, e2, e3, e4, e5, e6, e7, e8, h9, h10, h11, h12⟩ := hx
  subst e1 e2 e3 e4 e5 e6 e7 e8
  obtain ⟨o1, o2, o3, o4, o5, o6, o7, o8, o9, rk, rk2, q1, q2, q3, q4⟩ := hok
  exact x_listLive (lo := 0) (g := 0) (O := O) (by omega) q1 h12.1 (by omega) o7 (gr_O0 h12 q2) (fun se' od' st' _ _ => h _ ⟨rfl, rfl, rfl, rfl, rfl, rfl, rfl, rfl, h9, h10, h11, h12⟩)
theorem rx_cost {u : St2} {post : Int32 → St2 → Prop} {g : Nat} (hg : g < 2) (hg1 : g = 1 → ph = 1) (hok : sp_ok mN mR rc ph nc oc cx ap P R rl rj rK uc D ps dc dl dj dk K V A B O) (hx : rx mN mR rc ph nc oc cx ap P R rl rj rK uc D ps dc dl dj dk K V A B O u) (h : ∀ u', rx mN mR rc ph nc oc cx ap P R rl rj rK uc D ps dc dl dj dk K V A B O u' → post (nI (pr_sm (fun s => pr_w (K s)) (pr_lv A B O (g * 4) oc))) u') : wpX_liveCost post u (nI g) := by
  obtain ⟨f_maxNodes, f_maxRules, f_ruleCount, f_counterexample, f_optimized, f_nodeCount, f_outputCount, f_applications, a_preRelation, a_preVariable, a_preConstant, a_roomNeeded, a_useCount, a_treeSize, a_treeKind, a_treeValue, a_treeA, a_treeB, a_treeResult, a_constantValued, a_maximal, a_counterpart, a_boundNode, a_pending, a_pendingCount, a_nodeKind, a_nodeValue, a_nodeA, a_nodeB, a_nodeResult, a_nodeUses, a_outputNode, a_seen, a_order, a_walkStack⟩ := u
  obtain ⟨e1, e2, e3, e4, e5, e6, e7, e8, h9, h10, h11, h12⟩ := hx
  subst e1 e2 e3 e4 e5 e6 e7 e8
  obtain ⟨o1, o2, o3, o4, o5, o6, o7, o8, o9, rk, rk2, q1, q2, q3, q4⟩ := hok
  have : g = 0 ∨ g = 1 := by omega
  rcases this with e | e
  · subst e
    exact x_liveCost (g := 0) (O := O) q1 h12.1 (by omega) o7 (gr_O0 h12 q2) rfl (fun se' od' st' => h _ ⟨rfl, rfl, rfl, rfl, rfl, rfl, rfl, rfl, h9, h10, h11, h12⟩)
  · subst e
    have hp := hg1 rfl
    obtain ⟨w1, w2, w3⟩ := q4 hp
    exact x_liveCost (g := 1) (O := O) w1 (h12.2.2 hp).1 (by omega) o7 (gr_1 h12 hp w2) rfl (fun se' od' st' => h _ ⟨rfl, rfl, rfl, rfl, rfl, rfl, rfl, rfl, h9, h10, h11, h12⟩)
/-- the answers of stat that are asked for: 1 live cost, 2 original cost, 3 applications, 6 outputs -/
theorem rx_stat1 {u : St2} {post : Int32 → St2 → Prop} (hok : sp_ok mN mR rc ph nc oc cx ap P R rl rj rK uc D ps dc dl dj dk K V A B O) (hx : rx mN mR rc ph nc oc cx ap P R rl rj rK uc D ps dc dl dj dk K V A B O u) (h : ∀ u', rx mN mR rc ph nc oc cx ap P R rl rj rK uc D ps dc dl dj dk K V A B O u' → post (nI (pr_sm (fun s => pr_w (K s)) (pr_lv A B O 0 oc))) u') : wpX_stat post u 1 := by
  have hc := fun (p : Int32 → St2 → Prop) => rx_cost (post := p) (g := 0) (by omega) (fun h => absurd h (by omega)) hok hx
  obtain ⟨f_maxNodes, f_maxRules, f_ruleCount, f_counterexample, f_optimized, f_nodeCount, f_outputCount, f_applications, a_preRelation, a_preVariable, a_preConstant, a_roomNeeded, a_useCount, a_treeSize, a_treeKind, a_treeValue, a_treeA, a_treeB, a_treeResult, a_constantValued, a_maximal, a_counterpart, a_boundNode, a_pending, a_pendingCount, a_nodeKind, a_nodeValue, a_nodeA, a_nodeB, a_nodeResult, a_nodeUses, a_outputNode, a_seen, a_order, a_walkStack⟩ := u
  unfold wpX_stat
  refine br_f (by decide) (br_f (by decide) (br_f (by decide) (br_t rfl (hc _ (fun u' hu' => ?_)))))
  obtain ⟨f_maxNodes', f_maxRules', f_ruleCount', f_counterexample', f_optimized', f_nodeCount', f_outputCount', f_applications', a_preRelation', a_preVariable', a_preConstant', a_roomNeeded', a_useCount', a_treeSize', a_treeKind', a_treeValue', a_treeA', a_treeB', a_treeResult', a_constantValued', a_maximal', a_counterpart', a_boundNode', a_pending', a_pendingCount', a_nodeKind', a_nodeValue', a_nodeA', a_nodeB', a_nodeResult', a_nodeUses', a_outputNode', a_seen', a_order', a_walkStack'⟩ := u'
  exact h _ hu'
theorem rx_stat2 {u : St2} {post : Int32 → St2 → Prop} (hok : sp_ok mN mR rc ph nc oc cx ap P R rl rj rK uc D ps dc dl dj dk K V A B O) (hx : rx mN mR rc ph nc oc cx ap P R rl rj rK uc D ps dc dl dj dk K V A B O u) (h : ∀ u', rx mN mR rc ph nc oc cx ap P R rl rj rK uc D ps dc dl dj dk K V A B O u' → post (nI (pr_sm (fun s => pr_w (K s)) (pr_lv A B O (ph * 4) oc))) u') : wpX_stat post u 2 := by
  have hph := hok.2.2.2.2.2.1
  have hc := fun (p : Int32 → St2 → Prop) => rx_cost (post := p) (g := ph) (by omega) (fun h => h) hok hx
  obtain ⟨f_maxNodes, f_maxRules, f_ruleCount, f_counterexample, f_optimized, f_nodeCount, f_outputCount, f_applications, a_preRelation, a_preVariable, a_preConstant, a_roomNeeded, a_useCount, a_treeSize, a_treeKind, a_treeValue, a_treeA, a_treeB, a_treeResult, a_constantValued, a_maximal, a_counterpart, a_boundNode, a_pending, a_pendingCount, a_nodeKind, a_nodeValue, a_nodeA, a_nodeB, a_nodeResult, a_nodeUses, a_outputNode, a_seen, a_order, a_walkStack⟩ := u
  obtain ⟨e1, e2, e3, e4, e5, e6, e7, e8, h9, h10, h11, h12⟩ := hx
  subst e5
  unfold wpX_stat
  refine br_f (by decide) (br_f (by decide) (br_f (by decide) (br_f (by decide) (br_t rfl ?_))))
  have hp : ph = 0 ∨ ph = 1 := by omega
  rcases hp with hp | hp
  · subst hp
    refine br_t rfl (hc _ (fun u' hu' => ?_))
    obtain ⟨f_maxNodes', f_maxRules', f_ruleCount', f_counterexample', f_optimized', f_nodeCount', f_outputCount', f_applications', a_preRelation', a_preVariable', a_preConstant', a_roomNeeded', a_useCount', a_treeSize', a_treeKind', a_treeValue', a_treeA', a_treeB', a_treeResult', a_constantValued', a_maximal', a_counterpart', a_boundNode', a_pending', a_pendingCount', a_nodeKind', a_nodeValue', a_nodeA', a_nodeB', a_nodeResult', a_nodeUses', a_outputNode', a_seen', a_order', a_walkStack'⟩ := u'
    exact h _ hu'
  · subst hp
    refine br_f (by decide) (hc _ (fun u' hu' => ?_))
    obtain ⟨f_maxNodes', f_maxRules', f_ruleCount', f_counterexample', f_optimized', f_nodeCount', f_outputCount', f_applications', a_preRelation', a_preVariable', a_preConstant', a_roomNeeded', a_useCount', a_treeSize', a_treeKind', a_treeValue', a_treeA', a_treeB', a_treeResult', a_constantValued', a_maximal', a_counterpart', a_boundNode', a_pending', a_pendingCount', a_nodeKind', a_nodeValue', a_nodeA', a_nodeB', a_nodeResult', a_nodeUses', a_outputNode', a_seen', a_order', a_walkStack'⟩ := u'
    exact h _ hu'
theorem rx_stat3 {u : St2} {post : Int32 → St2 → Prop} (hx : rx mN mR rc ph nc oc cx ap P R rl rj rK uc D ps dc dl dj dk K V A B O u) (h : post ap u) : wpX_stat post u 3 := by
  obtain ⟨f_maxNodes, f_maxRules, f_ruleCount, f_counterexample, f_optimized, f_nodeCount, f_outputCount, f_applications, a_preRelation, a_preVariable, a_preConstant, a_roomNeeded, a_useCount, a_treeSize, a_treeKind, a_treeValue, a_treeA, a_treeB, a_treeResult, a_constantValued, a_maximal, a_counterpart, a_boundNode, a_pending, a_pendingCount, a_nodeKind, a_nodeValue, a_nodeA, a_nodeB, a_nodeResult, a_nodeUses, a_outputNode, a_seen, a_order, a_walkStack⟩ := u
  have e8 := hx.2.2.2.2.2.2.2.1
  subst e8
  unfold wpX_stat
  exact br_f (by decide) (br_f (by decide) (br_f (by decide) (br_f (by decide) (br_f (by decide) (br_t rfl h)))))
theorem rx_stat6 {u : St2} {post : Int32 → St2 → Prop} (hx : rx mN mR rc ph nc oc cx ap P R rl rj rK uc D ps dc dl dj dk K V A B O u) (h : post (nI oc) u) : wpX_stat post u 6 := by
  obtain ⟨f_maxNodes, f_maxRules, f_ruleCount, f_counterexample, f_optimized, f_nodeCount, f_outputCount, f_applications, a_preRelation, a_preVariable, a_preConstant, a_roomNeeded, a_useCount, a_treeSize, a_treeKind, a_treeValue, a_treeA, a_treeB, a_treeResult, a_constantValued, a_maximal, a_counterpart, a_boundNode, a_pending, a_pendingCount, a_nodeKind, a_nodeValue, a_nodeA, a_nodeB, a_nodeResult, a_nodeUses, a_outputNode, a_seen, a_order, a_walkStack⟩ := u
  have e7 := hx.2.2.2.2.2.2.1
  subst e7
  unfold wpX_stat
  exact br_f (by decide) (br_f (by decide) (br_f (by decide) (br_f (by decide) (br_f (by decide) (br_f (by decide) (br_f (by decide) (br_f (by decide) (br_t rfl h))))))))
/-- eval of an output, current (b = 0) or original (b = 1) -/
theorem rx_eval {u : St2} {post : Int32 → St2 → Prop} {n b : Nat} {v2 : Int32} (hb : b ≤ 1) (hn : n < oc) (hok : sp_ok mN mR rc ph nc oc cx ap P R rl rj rK uc D ps dc dl dj dk K V A B O) (hx : rx mN mR rc ph nc oc cx ap P R rl rj rK uc D ps dc dl dj dk K V A B O u) (h : ∀ u', rx mN mR rc ph nc oc cx ap P R rl rj rK uc D ps dc dl dj dk K V A B O u' → post (pr_ev K V A B v2 32 (O (b * ph * 4 + n))) u') : wpX_eval post u (nI n) v2 (nI b) := by
  have hph := hok.2.2.2.2.2.1
  obtain ⟨f_maxNodes, f_maxRules, f_ruleCount, f_counterexample, f_optimized, f_nodeCount, f_outputCount, f_applications, a_preRelation, a_preVariable, a_preConstant, a_roomNeeded, a_useCount, a_treeSize, a_treeKind, a_treeValue, a_treeA, a_treeB, a_treeResult, a_constantValued, a_maximal, a_counterpart, a_boundNode, a_pending, a_pendingCount, a_nodeKind, a_nodeValue, a_nodeA, a_nodeB, a_nodeResult, a_nodeUses, a_outputNode, a_seen, a_order, a_walkStack⟩ := u
  obtain ⟨e1, e2, e3, e4, e5, e6, e7, e8, h9, h10, h11, h12⟩ := hx
  subst e1 e2 e3 e4 e5 e6 e7 e8
  obtain ⟨o1, o2, o3, o4, o5, o6, o7, o8, o9, rk, rk2, q1, q2, q3, q4⟩ := hok
  refine br_f (nI_pos (by omega)) (pk_le oc n (fun h => absurd h (by omega)) (fun hno => br_f (by decide) ?_))
  have x0 : ∀ post : Int32 → St2 → Prop, (∀ u', rx mN mR rc ph nc oc f_counterexample f_applications P R rl rj rK uc D ps dc dl dj dk K V A B O u' → post (pr_ev K V A B v2 32 (O (0 * 4 + n))) u') → wX_eval_25 post (nI n) v2 (nI mN) (nI mR) (nI rc) f_counterexample (nI ph) (nI nc) (nI oc) f_applications a_preRelation a_preVariable a_preConstant a_roomNeeded a_useCount a_treeSize a_treeKind a_treeValue a_treeA a_treeB a_treeResult a_constantValued a_maximal a_counterpart a_boundNode a_pending a_pendingCount a_nodeKind a_nodeValue a_nodeA a_nodeB a_nodeResult a_nodeUses a_outputNode a_seen a_order a_walkStack := fun post h =>
    x_eval26 (g := 0) (O := O) (by omega) hno o7 q1 h12.1 (gr_O0 h12 q2) (fun nr' se' od' st' => h _ ⟨rfl, rfl, rfl, rfl, rfl, rfl, rfl, rfl, h9, h10, h11, h12⟩)
  have x1 : ph = 1 → ∀ post : Int32 → St2 → Prop, (∀ u', rx mN mR rc ph nc oc f_counterexample f_applications P R rl rj rK uc D ps dc dl dj dk K V A B O u' → post (pr_ev K V A B v2 32 (O (1 * 4 + n))) u') → wX_eval_26 post (nI n) v2 1 (nI mN) (nI mR) (nI rc) f_counterexample (nI ph) (nI nc) (nI oc) f_applications a_preRelation a_preVariable a_preConstant a_roomNeeded a_useCount a_treeSize a_treeKind a_treeValue a_treeA a_treeB a_treeResult a_constantValued a_maximal a_counterpart a_boundNode a_pending a_pendingCount a_nodeKind a_nodeValue a_nodeA a_nodeB a_nodeResult a_nodeUses a_outputNode a_seen a_order a_walkStack := fun hp post h =>
    x_eval26 (g := 1) (O := O) (by omega) hno o7 (q4 hp).1 (h12.2.2 hp).1 (gr_1 h12 hp (q4 hp).2.1) (fun nr' se' od' st' => h _ ⟨rfl, rfl, rfl, rfl, rfl, rfl, rfl, rfl, h9, h10, h11, h12⟩)
  have hb' : b = 0 ∨ b = 1 := by omega
  rcases hb' with hb | hb
  · subst hb
    rw [show 0 * ph * 4 + n = 0 * 4 + n by omega] at h
    exact br_t rfl (x0 _ h)
  · subst hb
    have hp : ph = 0 ∨ ph = 1 := by omega
    rcases hp with hp | hp
    · subst hp
      exact br_f (by decide) (br_t rfl (x0 _ h))
    · subst hp
      exact br_f (by decide) (br_f (by decide) (x1 rfl _ h))
end VQx
end
section
/-! judging the draft: the pure verdict; X -/
def pr_ph (rl rj rK : Nat) (v0 v1 : Int32) : Bool :=
  if rl = 1 then decide ((if rj = 0 then v0 else v1) = nI rK) else if rl = 2 then !decide ((if rj = 0 then v0 else v1) = nI rK) else if rl = 3 then !decide (nI rK ≤ (if rj = 0 then v0 else v1)) else if rl = 4 then !decide ((if rj = 0 then v0 else v1) < nI rK) else true
def jd_sh (P : pr_PT) (c0 c1 : Nat) : Prop := c0 = 1 ∧ c1 = 1 ∧ pt_k P (pt_n P - 1) ≤ 10
def jd_vf (P R : pr_PT) : Prop := ∀ j, j < 2 → ¬ (pt_has P 13 j = true ∧ pt_has P 14 j = true) ∧ (pt_has P 13 j = false → pt_has P 14 j = false → pt_has R 13 j = false)
def jd_pf (P : pr_PT) (dl dj : Nat) : Prop := dl ≠ 0 → pt_has P 14 dj = true
def jd_hi (P : pr_PT) (j : Nat) : Nat := if pt_has P 13 j = true ∨ pt_has P 14 j = true then 255 else 0
def jd_bad (P R : pr_PT) (dl dj dk a b : Nat) : Prop := pr_ph dl dj dk (nI a) (nI b) = true ∧ pt_tv P (nI a) (nI b) (pt_n P - 1) ≠ pt_tv R (nI a) (nI b) (pt_n R - 1)
def jd_first (P R : pr_PT) (dl dj dk a b : Nat) : Prop := a ≤ jd_hi P 0 ∧ b ≤ jd_hi P 1 ∧ jd_bad P R dl dj dk a b ∧ (∀ a' b', a' < a → b' ≤ jd_hi P 1 → ¬ jd_bad P R dl dj dk a' b') ∧ ∀ b', b' < b → ¬ jd_bad P R dl dj dk a b'
def jd_none (P R : pr_PT) (dl dj dk : Nat) : Prop := ∀ a b, a ≤ jd_hi P 0 → b ≤ jd_hi P 1 → ¬ jd_bad P R dl dj dk a b
def jd_ok (rc mR : Nat) (P R : pr_PT) (c0 c1 dl dj dk : Nat) (q : Nat) : Prop :=
  (1 ≤ q → rc ≠ mR) ∧ (2 ≤ q → jd_sh P c0 c1) ∧ (3 ≤ q → jd_vf P R) ∧ (4 ≤ q → jd_pf P dl dj) ∧ (5 ≤ q → pt_rw R (pt_has P 14) < pt_pw P)
/-- the verdict v with the counterexample c -/
def jd_v (rc mR : Nat) (P R : pr_PT) (c0 c1 dl dj dk : Nat) (v : Nat) (c : Int32) : Prop :=
  (v = 1 ∧ c = -1 ∧ rc = mR) ∨ (v = 2 ∧ c = -1 ∧ jd_ok rc mR P R c0 c1 dl dj dk 1 ∧ ¬ jd_sh P c0 c1) ∨ (v = 3 ∧ c = -1 ∧ jd_ok rc mR P R c0 c1 dl dj dk 2 ∧ ¬ jd_vf P R) ∨ (v = 4 ∧ c = -1 ∧ jd_ok rc mR P R c0 c1 dl dj dk 3 ∧ ¬ jd_pf P dl dj) ∨
  (v = 5 ∧ c = -1 ∧ jd_ok rc mR P R c0 c1 dl dj dk 4 ∧ ¬ pt_rw R (pt_has P 14) < pt_pw P) ∨ (v = 6 ∧ jd_ok rc mR P R c0 c1 dl dj dk 5 ∧ ∃ a b, jd_first P R dl dj dk a b ∧ c = nI a + 256 * nI b) ∨ (v = 0 ∧ c = -1 ∧ jd_ok rc mR P R c0 c1 dl dj dk 5 ∧ jd_none P R dl dj dk)
theorem jd_first_u {P R : pr_PT} {dl dj dk a b a' b' : Nat} (h : jd_first P R dl dj dk a b) (h' : jd_first P R dl dj dk a' b') : a = a' ∧ b = b' := by
  obtain ⟨h1, h2, h3, h4, h5⟩ := h
  obtain ⟨k1, k2, k3, k4, k5⟩ := h'
  have e : a = a' := by
    apply Classical.byContradiction
    intro hne
    by_cases hl : a < a'
    · exact k4 a b hl h2 h3
    · exact h4 a' b' (by omega) k2 k3
  subst e
  refine ⟨rfl, ?_⟩
  apply Classical.byContradiction
  intro hne
  by_cases hl : b < b'
  · exact k5 b hl h3
  · exact h5 b' (by omega) k3
theorem jd_u {rc mR : Nat} {P R : pr_PT} {c0 c1 dl dj dk v v' : Nat} {c c' : Int32} (h : jd_v rc mR P R c0 c1 dl dj dk v c) (h' : jd_v rc mR P R c0 c1 dl dj dk v' c') : v = v' ∧ c = c' := by
  rcases h with ⟨e, ec, x⟩ | ⟨e, ec, x, x'⟩ | ⟨e, ec, x, x'⟩ | ⟨e, ec, x, x'⟩ | ⟨e, ec, x, x'⟩ | ⟨e, x, a, b, x', ec⟩ | ⟨e, ec, x, x'⟩ <;>
  rcases h' with ⟨f, fc, y⟩ | ⟨f, fc, y, y'⟩ | ⟨f, fc, y, y'⟩ | ⟨f, fc, y, y'⟩ | ⟨f, fc, y, y'⟩ | ⟨f, y, a', b', y', fc⟩ | ⟨f, fc, y, y'⟩
  all_goals first
    | exact ⟨e.trans f.symm, ec.trans fc.symm⟩
    | exact absurd x (y.1 (by omega))
    | exact absurd y (x.1 (by omega))
    | exact absurd (y.2.1 (by omega)) x'
    | exact absurd (x.2.1 (by omega)) y'
    | exact absurd (y.2.2.1 (by omega)) x'
    | exact absurd (x.2.2.1 (by omega)) y'
    | exact absurd (y.2.2.2.1 (by omega)) x'
    | exact absurd (x.2.2.2.1 (by omega)) y'
    | exact absurd (y.2.2.2.2 (by omega)) x'
    | exact absurd (x.2.2.2.2 (by omega)) y'
    | exact absurd y'.2.2.1 (x' a' b' y'.1 y'.2.1)
    | exact absurd x'.2.2.1 (y' a b x'.1 x'.2.1)
    | (obtain ⟨e1, e2⟩ := jd_first_u x' y'
       subst e1 e2
       exact ⟨e.trans f.symm, ec.trans fc.symm⟩)
section XQ
variable {f_maxNodes f_maxRules f_ruleCount f_counterexample f_optimized f_nodeCount f_outputCount f_applications : Int32} {a_preRelation a_preVariable a_preConstant a_roomNeeded a_useCount a_treeSize a_treeKind a_treeValue a_treeA a_treeB a_treeResult a_constantValued a_maximal a_counterpart a_boundNode a_pending a_pendingCount a_nodeKind a_nodeValue a_nodeA a_nodeB a_nodeResult a_nodeUses a_outputNode a_seen a_order a_walkStack : Nat → Int32}
variable {post : Int32 → Prop} {r rl rj rK : Nat} {v0 v1 : Int32}
theorem x_preHolds (hr : r < 17) (h4 : rl ≤ 4) (hj : rl ≠ 0 → rj < 2) (hpe : pe_at r rl rj rK a_preRelation a_preVariable a_preConstant) (h : post (pr_b (pr_ph rl rj rK v0 v1))) : wpX_preconditionHolds post (f_maxNodes, f_maxRules, f_ruleCount, f_counterexample, f_optimized, f_nodeCount, f_outputCount, f_applications, a_preRelation, a_preVariable, a_preConstant, a_roomNeeded, a_useCount, a_treeSize, a_treeKind, a_treeValue, a_treeA, a_treeB, a_treeResult, a_constantValued, a_maximal, a_counterpart, a_boundNode, a_pending, a_pendingCount, a_nodeKind, a_nodeValue, a_nodeA, a_nodeB, a_nodeResult, a_nodeUses, a_outputNode, a_seen, a_order, a_walkStack) (nI r) v0 v1 := by
  have hin : vp_in (nI r) 17 := pk_in r 17 hr
  have hcl : (nI r).toNatClampNeg = r := nI_clamp (by omega)
  have h14 : ∀ z, (rl ≠ 0 → z = (if rj = 0 then v0 else v1)) → wX_preconditionHolds_14 post (nI r) z f_maxNodes f_maxRules f_ruleCount f_counterexample f_optimized f_nodeCount f_outputCount f_applications a_preRelation a_preVariable a_preConstant a_roomNeeded a_useCount a_treeSize a_treeKind a_treeValue a_treeA a_treeB a_treeResult a_constantValued a_maximal a_counterpart a_boundNode a_pending a_pendingCount a_nodeKind a_nodeValue a_nodeA a_nodeB a_nodeResult a_nodeUses a_outputNode a_seen a_order a_walkStack := by
    intro z hz
    unfold pr_ph at h
    refine ⟨hin, ?_⟩
    rw [hcl]
    refine nm_e ⟨hin, nm_r hpe.1 ?_⟩
    refine pk_lt rl 1 (fun h1 => ?_) (fun h1 => pk_lt 4 rl (fun h => absurd h (by omega)) (fun _ => ?_))
    · rw [if_neg (by omega), if_neg (by omega), if_neg (by omega), if_neg (by omega)] at h
      exact h
    · rw [(hpe.2 (by omega)).2]
      rw [← hz (by omega)] at h
      refine pk_eq rl 1 (fun e => ?_) (fun n1 => pk_eq rl 2 (fun e => ?_) (fun n2 => pk_eq rl 3 (fun e => ?_) (fun n3 => pk_eq rl 4 (fun e => ?_) (fun _ => trivial))))
      · rw [if_pos e] at h
        refine br_c (fun hc => ?_) (fun hc => ?_)
        · rw [decide_eq_true hc] at h
          exact h
        · rw [decide_eq_false hc] at h
          exact h
      · rw [if_neg n1, if_pos e] at h
        refine br_c (fun hc => ?_) (fun hc => ?_)
        · rw [decide_eq_true hc] at h
          exact h
        · rw [decide_eq_false hc] at h
          exact h
      · rw [if_neg n1, if_neg n2, if_pos e] at h
        refine br_c (fun hc => ?_) (fun hc => ?_)
        · rw [decide_eq_true hc] at h
          exact h
        · rw [decide_eq_false hc] at h
          exact h
      · rw [if_neg n1, if_neg n2, if_neg n3, if_pos e] at h
        refine br_c (fun hc => ?_) (fun hc => ?_)
        · rw [decide_eq_true hc] at h
          exact h
        · rw [decide_eq_false hc] at h
          exact h
  unfold wpX_preconditionHolds
  refine ⟨hin, ?_⟩
  rw [hcl]
  refine br_c (fun hz => h14 _ fun hl => ?_) (fun hz => h14 _ fun hl => ?_)
  · have := (hpe.2 hl).1
    rw [this, pr_eq0 (by have := hj hl; omega)] at hz
    rw [if_pos hz]
  · have := (hpe.2 hl).1
    rw [this, pr_eq0 (by have := hj hl; omega)] at hz
    rw [if_neg hz]
end XQ
section XR
variable {f_maxNodes f_maxRules f_ruleCount f_counterexample f_optimized f_nodeCount f_outputCount f_applications : Int32} {a_preRelation a_preVariable a_preConstant a_roomNeeded a_useCount a_treeSize a_treeKind a_treeValue a_treeA a_treeB a_treeResult a_constantValued a_maximal a_counterpart a_boundNode a_pending a_pendingCount a_nodeKind a_nodeValue a_nodeA a_nodeB a_nodeResult a_nodeUses a_outputNode a_seen a_order a_walkStack : Nat → Int32}
variable {rc : Nat} {P R : pr_PT} {c0 c1 dl dj dk : Nat}
theorem x_shape {post : Int32 → Prop} (hrc : rc ≤ 16) (hP : pt_ok P) (hT : tr_at ((rc * 2 + 0) * 8) (rc * 2 + 0) P a_treeSize a_treeKind a_treeValue a_treeA a_treeB) (e0 : a_pendingCount 0 = nI c0) (e1 : a_pendingCount 1 = nI c1) (hc0 : c0 ≤ pt_n P) (hc1 : c1 ≤ 8)
    (hy : jd_sh P c0 c1 → post 1) (hno : ¬ jd_sh P c0 c1 → post 0) : wpX_draftHasShape post (f_maxNodes, f_maxRules, (nI rc), f_counterexample, f_optimized, f_nodeCount, f_outputCount, f_applications, a_preRelation, a_preVariable, a_preConstant, a_roomNeeded, a_useCount, a_treeSize, a_treeKind, a_treeValue, a_treeA, a_treeB, a_treeResult, a_constantValued, a_maximal, a_counterpart, a_boundNode, a_pending, a_pendingCount, a_nodeKind, a_nodeValue, a_nodeA, a_nodeB, a_nodeResult, a_nodeUses, a_outputNode, a_seen, a_order, a_walkStack) := by
  have h8 := hP.1
  unfold wpX_draftHasShape
  refine pk_eq c0 1 (fun h0 => pk_eq c1 1 (fun h1 => ?_) (fun h1 => hno fun h => h1 h.2.1) e1) (fun h0 => hno fun h => h0 h.1) e0
  refine x_treeOf rc 0 ?_
  refine x_endOf (by omega) hT.1 ?_
  have e : nI ((rc * 2 + 0) * 8 + pt_n P) - 1 = nI ((rc * 2 + 0) * 8 + (pt_n P - 1)) := by
    rw [pr_s1 (by omega)]
    exact congrArg nI (by omega)
  rw [e]
  refine ⟨pk_in ((rc * 2 + 0) * 8 + (pt_n P - 1)) 272 (by omega), ?_⟩
  rw [nI_clamp (by omega), (hT.2 (pt_n P - 1) (by omega)).1]
  have hn := (hP.2 (pt_n P - 1) (by omega)).1
  have har := pr_ar_c (pt_k P (pt_n P - 1))
  refine x_arity (by omega) (pk_le (pr_ar (pt_k P (pt_n P - 1))) 0 (fun ha => hno fun h => ?_) (fun ha => hy ⟨h0, h1, by omega⟩) rfl rfl (by omega))
  have := h.2.2
  omega
theorem x_varFit {post : Int32 → Prop} (hrc : rc ≤ 16) (hP : pt_ok P) (hR : pt_ok R) (hT : tr_at ((rc * 2 + 0) * 8) (rc * 2 + 0) P a_treeSize a_treeKind a_treeValue a_treeA a_treeB) (hU : tr_at ((rc * 2 + 1) * 8) (rc * 2 + 1) R a_treeSize a_treeKind a_treeValue a_treeA a_treeB)
    (hy : jd_vf P R → post 1) (hno : ¬ jd_vf P R → post 0) : wpX_variablesFit post (f_maxNodes, f_maxRules, f_ruleCount, f_counterexample, f_optimized, f_nodeCount, f_outputCount, f_applications, a_preRelation, a_preVariable, a_preConstant, a_roomNeeded, a_useCount, a_treeSize, a_treeKind, a_treeValue, a_treeA, a_treeB, a_treeResult, a_constantValued, a_maximal, a_counterpart, a_boundNode, a_pending, a_pendingCount, a_nodeKind, a_nodeValue, a_nodeA, a_nodeB, a_nodeResult, a_nodeUses, a_outputNode, a_seen, a_order, a_walkStack) (nI rc) := by
  unfold wpX_variablesFit
  refine x_treeOf rc 0 ?_
  refine x_treeOf rc 1 ⟨3, ?_⟩
  have step : ∀ d j, j + d = 2 → (∀ i, i < j → ¬ (pt_has P 13 i = true ∧ pt_has P 14 i = true) ∧ (pt_has P 13 i = false → pt_has P 14 i = false → pt_has R 13 i = false)) → wX_variablesFit_15 post (nI (rc * 2 + 0)) (nI (rc * 2 + 1)) f_maxNodes f_maxRules f_ruleCount f_counterexample f_optimized f_nodeCount f_outputCount f_applications a_preRelation a_preVariable a_preConstant a_roomNeeded a_useCount a_treeSize a_treeKind a_treeValue a_treeA a_treeB a_treeResult a_constantValued a_maximal a_counterpart a_boundNode a_pending a_pendingCount a_nodeKind a_nodeValue a_nodeA a_nodeB a_nodeResult a_nodeUses a_outputNode a_seen a_order a_walkStack (d + 1) (nI j) := by
    intro d
    induction d with
    | zero =>
      intro j hj h
      exact pk_le 2 j (fun _ => hy fun i hi => h i (by omega)) (fun h => absurd h (by omega))
    | succ d ih =>
      intro j hj h
      refine pk_le 2 j (fun h => absurd h (by omega)) (fun _ => ?_)
      refine x_occurs (by omega) hP hT (by decide) (by omega) ?_
      refine x_occurs (by omega) hP hT (by decide) (by omega) ?_
      have h55 : ¬ (pt_has P 13 j = true ∧ pt_has P 14 j = true) → wX_variablesFit_55 post (wX_variablesFit_15 post (nI (rc * 2 + 0)) (nI (rc * 2 + 1)) f_maxNodes f_maxRules f_ruleCount f_counterexample f_optimized f_nodeCount f_outputCount f_applications a_preRelation a_preVariable a_preConstant a_roomNeeded a_useCount a_treeSize a_treeKind a_treeValue a_treeA a_treeB a_treeResult a_constantValued a_maximal a_counterpart a_boundNode a_pending a_pendingCount a_nodeKind a_nodeValue a_nodeA a_nodeB a_nodeResult a_nodeUses a_outputNode a_seen a_order a_walkStack (d + 1)) (nI (rc * 2 + 0)) (nI (rc * 2 + 1)) (nI j) (pr_b (pt_has P 13 j)) (pr_b (pt_has P 14 j)) f_maxNodes f_maxRules f_ruleCount f_counterexample f_optimized f_nodeCount f_outputCount f_applications a_preRelation a_preVariable a_preConstant a_roomNeeded a_useCount a_treeSize a_treeKind a_treeValue a_treeA a_treeB a_treeResult a_constantValued a_maximal a_counterpart a_boundNode a_pending a_pendingCount a_nodeKind a_nodeValue a_nodeA a_nodeB a_nodeResult a_nodeUses a_outputNode a_seen a_order a_walkStack := by
        intro hn
        have nx : (pt_has P 13 j = false → pt_has P 14 j = false → pt_has R 13 j = false) → wX_variablesFit_15 post (nI (rc * 2 + 0)) (nI (rc * 2 + 1)) f_maxNodes f_maxRules f_ruleCount f_counterexample f_optimized f_nodeCount f_outputCount f_applications a_preRelation a_preVariable a_preConstant a_roomNeeded a_useCount a_treeSize a_treeKind a_treeValue a_treeA a_treeB a_treeResult a_constantValued a_maximal a_counterpart a_boundNode a_pending a_pendingCount a_nodeKind a_nodeValue a_nodeA a_nodeB a_nodeResult a_nodeUses a_outputNode a_seen a_order a_walkStack (d + 1) (nI (j + 1)) := by
          intro hj2
          refine ih (j + 1) (by omega) fun i hi => ?_
          by_cases e : i = j
          · rw [e]
            exact ⟨hn, hj2⟩
          · exact h i (by omega)
        refine br_c (fun z0 => br_c (fun z1 => ?_) (fun z1 => nm_r (nI_1 _) (nx fun _ hh => absurd (by rw [hh]; rfl) z1))) (fun z0 => nm_r (nI_1 _) (nx fun hh _ => absurd (by rw [hh]; rfl) z0))
        refine x_occurs (by omega) hR hU (by decide) (by omega) ?_
        refine br_c (fun z2 => nm_r (nI_1 _) (nx fun _ _ => (pr_b0 _).mp z2)) (fun z2 => hno fun hv => ?_)
        have := (hv j (by omega)).2 ((pr_b0 _).mp z0) ((pr_b0 _).mp z1)
        rw [this] at z2
        exact z2 rfl
      refine br_c (fun z0 => h55 fun hh => ?_) (fun z0 => br_c (fun z1 => h55 fun hh => ?_) (fun z1 => hno fun hv => (hv j (by omega)).1 ⟨?_, ?_⟩))
      · have := (pr_b0 _).mp z0
        rw [hh.1] at this
        cases this
      · have := (pr_b0 _).mp z1
        rw [hh.2] at this
        cases this
      · cases hx : pt_has P 13 j with
        | true => rfl
        | false => rw [hx] at z0; exact absurd rfl z0
      · cases hx : pt_has P 14 j with
        | true => rfl
        | false => rw [hx] at z1; exact absurd rfl z1
  exact step 2 0 (by omega) (fun i hi => absurd hi (by omega))
theorem x_preFit {post : Int32 → Prop} (hrc : rc ≤ 16) (hP : pt_ok P) (hd : dl ≠ 0 → dj < 2) (hdl : dl ≤ 4) (hT : tr_at ((rc * 2 + 0) * 8) (rc * 2 + 0) P a_treeSize a_treeKind a_treeValue a_treeA a_treeB) (hpe : pe_at rc dl dj dk a_preRelation a_preVariable a_preConstant)
    (hy : jd_pf P dl dj → post 1) (hno : ¬ jd_pf P dl dj → post 0) : wpX_preconditionFits post (f_maxNodes, f_maxRules, f_ruleCount, f_counterexample, f_optimized, f_nodeCount, f_outputCount, f_applications, a_preRelation, a_preVariable, a_preConstant, a_roomNeeded, a_useCount, a_treeSize, a_treeKind, a_treeValue, a_treeA, a_treeB, a_treeResult, a_constantValued, a_maximal, a_counterpart, a_boundNode, a_pending, a_pendingCount, a_nodeKind, a_nodeValue, a_nodeA, a_nodeB, a_nodeResult, a_nodeUses, a_outputNode, a_seen, a_order, a_walkStack) (nI rc) := by
  have hin : vp_in (nI rc) 17 := pk_in rc 17 (by omega)
  unfold wpX_preconditionFits
  refine x_treeOf rc 0 ⟨hin, ?_⟩
  rw [nI_clamp (by omega), hpe.1]
  refine pk_eq dl 0 (fun e => hy fun h => absurd e h) (fun e => ⟨hin, ?_⟩)
  rw [(hpe.2 e).1]
  have hj := hd e
  refine x_occurs (by omega) hP hT (by decide) (by omega) (br_c (fun z => hno fun h => ?_) (fun z => hy fun _ => ?_))
  · have := h e
    rw [(pr_b0 _).mp z] at this
    cases this
  · cases hx : pt_has P 14 dj with
    | true => rfl
    | false => rw [hx] at z; exact absurd rfl z
theorem x_lastV {post : Int32 → Prop} {j : Nat} (hj : j < 2) (hrc : rc ≤ 16) (hP : pt_ok P) (hT : tr_at ((rc * 2 + 0) * 8) (rc * 2 + 0) P a_treeSize a_treeKind a_treeValue a_treeA a_treeB) (h : post (nI (jd_hi P j))) : wpX_lastValueOf post (f_maxNodes, f_maxRules, f_ruleCount, f_counterexample, f_optimized, f_nodeCount, f_outputCount, f_applications, a_preRelation, a_preVariable, a_preConstant, a_roomNeeded, a_useCount, a_treeSize, a_treeKind, a_treeValue, a_treeA, a_treeB, a_treeResult, a_constantValued, a_maximal, a_counterpart, a_boundNode, a_pending, a_pendingCount, a_nodeKind, a_nodeValue, a_nodeA, a_nodeB, a_nodeResult, a_nodeUses, a_outputNode, a_seen, a_order, a_walkStack) (nI rc) (nI j) := by
  unfold wpX_lastValueOf
  unfold jd_hi at h
  refine x_treeOf rc 0 ?_
  refine x_occurs (by omega) hP hT (by decide) (by omega) (br_c (fun z => ?_) (fun z => ?_))
  · refine x_occurs (by omega) hP hT (by decide) (by omega) (br_c (fun z1 => ?_) (fun z1 => ?_))
    · rw [if_neg (fun hh => by
        rw [(pr_b0 _).mp z, (pr_b0 _).mp z1] at hh
        rcases hh with y | y <;> cases y)] at h
      exact h
    · rw [if_pos (Or.inr (by
        cases hx : pt_has P 14 j with
        | true => rfl
        | false => rw [hx] at z1; exact absurd rfl z1))] at h
      exact h
  · rw [if_pos (Or.inl (by
      cases hx : pt_has P 13 j with
      | true => rfl
      | false => rw [hx] at z; exact absurd rfl z))] at h
    exact h
theorem jd_hi_le (P : pr_PT) (j : Nat) : jd_hi P j ≤ 255 := by
  unfold jd_hi
  by_cases h : pt_has P 13 j = true ∨ pt_has P 14 j = true
  · rw [if_pos h]
    omega
  · rw [if_neg h]
    omega
end XR
section XS
variable {f_maxNodes f_maxRules f_ruleCount f_counterexample f_optimized f_nodeCount f_outputCount f_applications : Int32} {a_preRelation a_preVariable a_preConstant a_roomNeeded a_useCount a_treeSize a_treeKind a_treeValue a_treeA a_treeB a_treeResult a_constantValued a_maximal a_counterpart a_boundNode a_pending a_pendingCount a_nodeKind a_nodeValue a_nodeA a_nodeB a_nodeResult a_nodeUses a_outputNode a_seen a_order a_walkStack : Nat → Int32}
variable {rc : Nat} {P R : pr_PT} {dl dj dk : Nat} {post : Int32 → St2 → Prop}
theorem x_ff41 {J31 : Int32 → Int32 → Int32 → Int32 → Int32 → Int32 → Int32 → Int32 → Int32 → (Nat → Int32) → (Nat → Int32) → (Nat → Int32) → (Nat → Int32) → (Nat → Int32) → (Nat → Int32) → (Nat → Int32) → (Nat → Int32) → (Nat → Int32) → (Nat → Int32) → (Nat → Int32) → (Nat → Int32) → (Nat → Int32) → (Nat → Int32) → (Nat → Int32) → (Nat → Int32) → (Nat → Int32) → (Nat → Int32) → (Nat → Int32) → (Nat → Int32) → (Nat → Int32) → (Nat → Int32) → (Nat → Int32) → (Nat → Int32) → (Nat → Int32) → (Nat → Int32) → (Nat → Int32) → Prop} {a : Nat} {x4 : Int32} (hrc : rc ≤ 16) (hP : pt_ok P) (hR : pt_ok R) (hP0 : 0 < pt_n P) (hR0 : 0 < pt_n R) (hd : dl ≠ 0 → dj < 2) (hdl : dl ≤ 4) (hT : tr_at ((rc * 2 + 0) * 8) (rc * 2 + 0) P a_treeSize a_treeKind a_treeValue a_treeA a_treeB) (hU : tr_at ((rc * 2 + 1) * 8) (rc * 2 + 1) R a_treeSize a_treeKind a_treeValue a_treeA a_treeB) (hpe : pe_at rc dl dj dk a_preRelation a_preVariable a_preConstant)
    (hJ : ∀ tr', (∀ b, b ≤ jd_hi P 1 → ¬ jd_bad P R dl dj dk a b) → J31 (nI (a + 1)) f_maxNodes f_maxRules f_ruleCount f_counterexample f_optimized f_nodeCount f_outputCount f_applications a_preRelation a_preVariable a_preConstant a_roomNeeded a_useCount a_treeSize a_treeKind a_treeValue a_treeA a_treeB tr' a_constantValued a_maximal a_counterpart a_boundNode a_pending a_pendingCount a_nodeKind a_nodeValue a_nodeA a_nodeB a_nodeResult a_nodeUses a_outputNode a_seen a_order a_walkStack)
    (hb : ∀ b tr', b ≤ jd_hi P 1 → jd_bad P R dl dj dk a b → (∀ b', b' < b → ¬ jd_bad P R dl dj dk a b') → post (nI a + 256 * nI b) (f_maxNodes, f_maxRules, f_ruleCount, f_counterexample, f_optimized, f_nodeCount, f_outputCount, f_applications, a_preRelation, a_preVariable, a_preConstant, a_roomNeeded, a_useCount, a_treeSize, a_treeKind, a_treeValue, a_treeA, a_treeB, tr', a_constantValued, a_maximal, a_counterpart, a_boundNode, a_pending, a_pendingCount, a_nodeKind, a_nodeValue, a_nodeA, a_nodeB, a_nodeResult, a_nodeUses, a_outputNode, a_seen, a_order, a_walkStack)) :
    ∀ d b tr, b + d = jd_hi P 1 + 1 → (∀ b', b' < b → ¬ jd_bad P R dl dj dk a b') → wX_firstFailure_41 post J31 (nI rc) (nI (rc * 2 + 0)) (nI (rc * 2 + 1)) x4 (nI (jd_hi P 1)) (nI a) (d + 1) (nI b) f_maxNodes f_maxRules f_ruleCount f_counterexample f_optimized f_nodeCount f_outputCount f_applications a_preRelation a_preVariable a_preConstant a_roomNeeded a_useCount a_treeSize a_treeKind a_treeValue a_treeA a_treeB tr a_constantValued a_maximal a_counterpart a_boundNode a_pending a_pendingCount a_nodeKind a_nodeValue a_nodeA a_nodeB a_nodeResult a_nodeUses a_outputNode a_seen a_order a_walkStack := by
  intro d
  have hh := jd_hi_le P 1
  induction d with
  | zero =>
    intro b tr hb' h
    exact pk_lt (jd_hi P 1) b (fun _ => nm_r (nI_1 _) (hJ tr fun b hb'' => h b (by omega))) (fun h => absurd h (by omega))
  | succ d ih =>
    intro b tr hb' h
    refine pk_lt (jd_hi P 1) b (fun h => absurd h (by omega)) (fun _ => ?_)
    have nx : ∀ tr', ¬ jd_bad P R dl dj dk a b → wX_firstFailure_41 post J31 (nI rc) (nI (rc * 2 + 0)) (nI (rc * 2 + 1)) x4 (nI (jd_hi P 1)) (nI a) (d + 1) (nI (b + 1)) f_maxNodes f_maxRules f_ruleCount f_counterexample f_optimized f_nodeCount f_outputCount f_applications a_preRelation a_preVariable a_preConstant a_roomNeeded a_useCount a_treeSize a_treeKind a_treeValue a_treeA a_treeB tr' a_constantValued a_maximal a_counterpart a_boundNode a_pending a_pendingCount a_nodeKind a_nodeValue a_nodeA a_nodeB a_nodeResult a_nodeUses a_outputNode a_seen a_order a_walkStack := by
      intro tr' hn
      refine ih (b + 1) tr' (by omega) fun b' hb'' => ?_
      by_cases e : b' = b
      · rw [e]
        exact hn
      · exact h b' (by omega)
    refine x_preHolds (by omega) hdl hd hpe (br_c (fun z => nm_r (nI_1 _) (nx tr fun hx => ?_)) (fun z => ?_))
    · have := hx.1
      rw [(pr_b0 _).mp z] at this
      cases this
    · have hph : pr_ph dl dj dk (nI a) (nI b) = true := by
        cases hx : pr_ph dl dj dk (nI a) (nI b) with
        | true => rfl
        | false => rw [hx] at z; exact absurd rfl z
      refine x_evaluateTree (by omega) hP hP0 hT (fun tr1 _ => ?_)
      refine x_evaluateTree (by omega) hR hR0 hU (fun tr2 _ => ?_)
      refine br_c (fun e => nm_r (nI_1 _) (nx tr2 fun hx => hx.2 e)) (fun e => hb b tr2 (by omega) ⟨hph, e⟩ h)
theorem x_ff (hrc : rc ≤ 16) (hP : pt_ok P) (hR : pt_ok R) (hP0 : 0 < pt_n P) (hR0 : 0 < pt_n R) (hd : dl ≠ 0 → dj < 2) (hdl : dl ≤ 4) (hT : tr_at ((rc * 2 + 0) * 8) (rc * 2 + 0) P a_treeSize a_treeKind a_treeValue a_treeA a_treeB) (hU : tr_at ((rc * 2 + 1) * 8) (rc * 2 + 1) R a_treeSize a_treeKind a_treeValue a_treeA a_treeB) (hpe : pe_at rc dl dj dk a_preRelation a_preVariable a_preConstant)
    (hn : ∀ tr', jd_none P R dl dj dk → post (-1) (f_maxNodes, f_maxRules, f_ruleCount, f_counterexample, f_optimized, f_nodeCount, f_outputCount, f_applications, a_preRelation, a_preVariable, a_preConstant, a_roomNeeded, a_useCount, a_treeSize, a_treeKind, a_treeValue, a_treeA, a_treeB, tr', a_constantValued, a_maximal, a_counterpart, a_boundNode, a_pending, a_pendingCount, a_nodeKind, a_nodeValue, a_nodeA, a_nodeB, a_nodeResult, a_nodeUses, a_outputNode, a_seen, a_order, a_walkStack))
    (hb : ∀ a b tr', jd_first P R dl dj dk a b → post (nI a + 256 * nI b) (f_maxNodes, f_maxRules, f_ruleCount, f_counterexample, f_optimized, f_nodeCount, f_outputCount, f_applications, a_preRelation, a_preVariable, a_preConstant, a_roomNeeded, a_useCount, a_treeSize, a_treeKind, a_treeValue, a_treeA, a_treeB, tr', a_constantValued, a_maximal, a_counterpart, a_boundNode, a_pending, a_pendingCount, a_nodeKind, a_nodeValue, a_nodeA, a_nodeB, a_nodeResult, a_nodeUses, a_outputNode, a_seen, a_order, a_walkStack)) : wpX_firstFailure post (f_maxNodes, f_maxRules, f_ruleCount, f_counterexample, f_optimized, f_nodeCount, f_outputCount, f_applications, a_preRelation, a_preVariable, a_preConstant, a_roomNeeded, a_useCount, a_treeSize, a_treeKind, a_treeValue, a_treeA, a_treeB, a_treeResult, a_constantValued, a_maximal, a_counterpart, a_boundNode, a_pending, a_pendingCount, a_nodeKind, a_nodeValue, a_nodeA, a_nodeB, a_nodeResult, a_nodeUses, a_outputNode, a_seen, a_order, a_walkStack) (nI rc) := by
  have hh := jd_hi_le P 0
  have l31 : ∀ d a tr, a + d = jd_hi P 0 + 1 → (∀ a' b', a' < a → b' ≤ jd_hi P 1 → ¬ jd_bad P R dl dj dk a' b') → wX_firstFailure_31 post (nI rc) (nI (rc * 2 + 0)) (nI (rc * 2 + 1)) (nI (jd_hi P 0)) (nI (jd_hi P 1)) (d + 1) (nI a) f_maxNodes f_maxRules f_ruleCount f_counterexample f_optimized f_nodeCount f_outputCount f_applications a_preRelation a_preVariable a_preConstant a_roomNeeded a_useCount a_treeSize a_treeKind a_treeValue a_treeA a_treeB tr a_constantValued a_maximal a_counterpart a_boundNode a_pending a_pendingCount a_nodeKind a_nodeValue a_nodeA a_nodeB a_nodeResult a_nodeUses a_outputNode a_seen a_order a_walkStack := by
    intro d
    induction d with
    | zero =>
      intro a tr ha h
      exact pk_lt (jd_hi P 0) a (fun _ => hn tr fun a' b' h1 h2 => h a' b' (by omega) h2) (fun h => absurd h (by omega))
    | succ d ih =>
      intro a tr ha h
      refine pk_lt (jd_hi P 0) a (fun h => absurd h (by omega)) (fun _ => ⟨jd_hi P 1 + 1 + 1, ?_⟩)
      refine x_ff41 hrc hP hR hP0 hR0 hd hdl hT hU hpe (fun tr' h' => ih (a + 1) tr' (by omega) fun a' b' h1 h2 => ?_) (fun b tr' h1 h2 h3 => hb a b tr' ⟨by omega, h1, h2, h, h3⟩) (jd_hi P 1 + 1) 0 tr (by omega) (fun b' h => absurd h (by omega))
      by_cases e : a' = a
      · rw [e]
        exact h' b' h2
      · exact h a' b' (by omega) h2
  unfold wpX_firstFailure
  refine x_treeOf rc 0 ?_
  refine x_treeOf rc 1 ?_
  refine x_lastV (j := 0) (by omega) hrc hP hT ?_
  refine x_lastV (j := 1) (by omega) hrc hP hT ⟨jd_hi P 0 + 1 + 1, ?_⟩
  exact l31 (jd_hi P 0 + 1) 0 a_treeResult (by omega) (fun a' b' h => absurd h (by omega))
end XS
section XT
variable {f_maxNodes f_maxRules f_ruleCount f_counterexample f_optimized f_nodeCount f_outputCount f_applications : Int32} {a_preRelation a_preVariable a_preConstant a_roomNeeded a_useCount a_treeSize a_treeKind a_treeValue a_treeA a_treeB a_treeResult a_constantValued a_maximal a_counterpart a_boundNode a_pending a_pendingCount a_nodeKind a_nodeValue a_nodeA a_nodeB a_nodeResult a_nodeUses a_outputNode a_seen a_order a_walkStack : Nat → Int32}
variable {rc mR : Nat} {P R : pr_PT} {c0 c1 dl dj dk : Nat} {post : Int32 → St2 → Prop}
theorem x_judge {ps0 ps1 : Nat → Nat} (hrc : rc ≤ mR) (hmR : mR ≤ 16) (hP : pt_ok P) (hR : pt_ok R) (hp0 : pd_ok P ps0 c0) (hp1 : pd_ok R ps1 c1) (h14 : ∀ i, i < pt_n R → pt_k R i ≠ 14) (hd : dl ≠ 0 → dj < 2) (hdl : dl ≤ 4) (hT : tr_at ((rc * 2 + 0) * 8) (rc * 2 + 0) P a_treeSize a_treeKind a_treeValue a_treeA a_treeB) (hU : tr_at ((rc * 2 + 1) * 8) (rc * 2 + 1) R a_treeSize a_treeKind a_treeValue a_treeA a_treeB) (hpe : pe_at rc dl dj dk a_preRelation a_preVariable a_preConstant)
    (e0 : a_pendingCount 0 = nI c0) (e1 : a_pendingCount 1 = nI c1)
    (h : ∀ v c cv' mx' tr', jd_v rc mR P R c0 c1 dl dj dk v c → (v = 0 → (∀ q, q < pt_n R → cv' ((rc * 2 + 1) * 8 + q) = pr_b (pt_cv R (pt_has P 14) q)) ∧ (∀ q, q < pt_n R → mx' ((rc * 2 + 1) * 8 + q) = pr_b (pt_mx R (pt_has P 14) q))) → (∀ q, q < rc * 16 → cv' q = a_constantValued q ∧ mx' q = a_maximal q) → post (nI v) (f_maxNodes, (nI mR), (nI rc), c, f_optimized, f_nodeCount, f_outputCount, f_applications, a_preRelation, a_preVariable, a_preConstant, a_roomNeeded, a_useCount, a_treeSize, a_treeKind, a_treeValue, a_treeA, a_treeB, tr', cv', mx', a_counterpart, a_boundNode, a_pending, a_pendingCount, a_nodeKind, a_nodeValue, a_nodeA, a_nodeB, a_nodeResult, a_nodeUses, a_outputNode, a_seen, a_order, a_walkStack)) :
    wpX_judgeDraft post (f_maxNodes, (nI mR), (nI rc), (-1), f_optimized, f_nodeCount, f_outputCount, f_applications, a_preRelation, a_preVariable, a_preConstant, a_roomNeeded, a_useCount, a_treeSize, a_treeKind, a_treeValue, a_treeA, a_treeB, a_treeResult, a_constantValued, a_maximal, a_counterpart, a_boundNode, a_pending, a_pendingCount, a_nodeKind, a_nodeValue, a_nodeA, a_nodeB, a_nodeResult, a_nodeUses, a_outputNode, a_seen, a_order, a_walkStack) := by
  have triv : ∀ q, q < rc * 16 → a_constantValued q = a_constantValued q ∧ a_maximal q = a_maximal q := fun _ _ => ⟨rfl, rfl⟩
  unfold wpX_judgeDraft
  refine pk_eq rc mR (fun e => h 1 (-1) _ _ _ (Or.inl ⟨rfl, rfl, e⟩) (fun h => absurd h (by omega)) triv) (fun ne => ?_)
  refine x_shape (by omega) hP hT e0 e1 hp0.1 (by have := hp1.1; have := hR.1; omega) (fun hsh => br_f (by decide) ?_) (fun hsh => br_t rfl (h 2 (-1) _ _ _ (Or.inr (Or.inl ⟨rfl, rfl, ⟨fun _ => ne, fun h => absurd h (by omega), fun h => absurd h (by omega), fun h => absurd h (by omega), fun h => absurd h (by omega)⟩, hsh⟩)) (fun h => absurd h (by omega)) triv))
  have hfP : pt_fin P := by
    have e := hsh.1
    subst e
    exact pd_fin hp0
  have hfR : pt_fin R := by
    have e := hsh.2.1
    subst e
    exact pd_fin hp1
  refine x_varFit (by omega) hP hR hT hU (fun hvf => br_f (by decide) ?_) (fun hvf => br_t rfl (h 3 (-1) _ _ _ (Or.inr (Or.inr (Or.inl ⟨rfl, rfl, ⟨fun _ => ne, fun _ => hsh, fun h => absurd h (by omega), fun h => absurd h (by omega), fun h => absurd h (by omega)⟩, hvf⟩))) (fun h => absurd h (by omega)) triv))
  refine x_preFit (by omega) hP hd hdl hT hpe (fun hpf => br_f (by decide) ?_) (fun hpf => br_t rfl (h 4 (-1) _ _ _ (Or.inr (Or.inr (Or.inr (Or.inl ⟨rfl, rfl, ⟨fun _ => ne, fun _ => hsh, fun _ => hvf, fun h => absurd h (by omega), fun h => absurd h (by omega)⟩, hpf⟩)))) (fun h => absurd h (by omega)) triv))
  refine x_markConst (by omega) hP hR h14 rfl hT hU (fun cv' k1 k2 => ?_)
  refine x_markMax (by omega) hR hfR hU k1 (fun mx' m1 m2 => ?_)
  have hkeep : ∀ q, q < rc * 16 → cv' q = a_constantValued q ∧ mx' q = a_maximal q := fun q hq => ⟨k2 q (Or.inl (by omega)), m2 q (Or.inl (by omega))⟩
  refine x_repW (by omega) hR hU k1 ?_
  refine x_patW (by omega) hP hT ?_
  have w1 : pt_rw R (pt_has P 14) < 2 ^ 31 := by
    have h8 := hR.1
    have : pt_rw R (pt_has P 14) ≤ pt_n R * 3 := pr_rs_bound (fun x _ _ => by
      show (if pt_cv R (pt_has P 14) x = true then 0 else pr_w (pt_k R x)) ≤ 3
      have := pr_w_le (pt_k R x)
      by_cases hx : pt_cv R (pt_has P 14) x = true
      · rw [if_pos hx]
        omega
      · rw [if_neg hx]
        exact this)
    omega
  have w2 : pt_pw P < 2 ^ 31 := by
    have h8 := hP.1
    have : pt_pw P ≤ pt_n P * 3 := pr_rs_bound (fun x _ _ => pr_w_le (pt_k P x))
    omega
  refine pk_lt (pt_rw R (pt_has P 14)) (pt_pw P) (fun hco => ?_) (fun hco => h 5 (-1) cv' mx' _ (Or.inr (Or.inr (Or.inr (Or.inr (Or.inl ⟨rfl, rfl, ⟨fun _ => ne, fun _ => hsh, fun _ => hvf, fun _ => hpf, fun h => absurd h (by omega)⟩, by omega⟩))))) (fun h => absurd h (by omega)) hkeep) rfl rfl w1 w2
  have hok5 : jd_ok rc mR P R c0 c1 dl dj dk 5 := ⟨fun _ => ne, fun _ => hsh, fun _ => hvf, fun _ => hpf, fun _ => hco⟩
  refine x_ff (by omega) hP hR hfP.1 hfR.1 hd hdl hT hU hpe (fun tr' hn => br_t rfl (h 0 (-1) cv' mx' tr' (Or.inr (Or.inr (Or.inr (Or.inr (Or.inr (Or.inr ⟨rfl, rfl, hok5, hn⟩)))))) (fun _ => ⟨k1, m1⟩) hkeep)) (fun a b tr' hf => br_f ?_ (h 6 _ cv' mx' tr' (Or.inr (Or.inr (Or.inr (Or.inr (Or.inr (Or.inl ⟨rfl, hok5, a, b, hf, rfl⟩)))))) (fun h => absurd h (by omega)) hkeep))
  have ha := Nat.le_trans hf.1 (jd_hi_le P 0)
  have hb := Nat.le_trans hf.2.1 (jd_hi_le P 1)
  have e : nI a + 256 * nI b = nI (a + 256 * b) := by
    rw [show (256 : Int32) = nI 256 from rfl, pk_mul, nI_add]
  rw [e]
  exact pr_ne1 (by omega)
end XT
end
section
/-! ruleCommit -/
theorem jd_vf_iff {P R : pr_PT} (hR : pt_ok R) : jd_vf P R ↔ (∀ j, j < 2 → ¬ (pt_has P 13 j = true ∧ pt_has P 14 j = true)) ∧ ∀ i, i < pt_n R → pt_k R i = 13 → pt_has P 13 (pt_v R i) = true ∨ pt_has P 14 (pt_v R i) = true := by
  constructor
  · intro h
    refine ⟨fun j hj => (h j hj).1, fun i hi hk => ?_⟩
    have hv := (hR.2 i hi).2.2.1 (by omega)
    cases h1 : pt_has P 13 (pt_v R i) with
    | true => exact Or.inl rfl
    | false =>
      cases h2 : pt_has P 14 (pt_v R i) with
      | true => exact Or.inr rfl
      | false =>
        have := (h _ hv).2 h1 h2
        rw [pt_has_t.mpr ⟨i, hi, hk, rfl⟩] at this
        cases this
  · rintro ⟨h1, h2⟩ j hj
    refine ⟨h1 j hj, fun a b => ?_⟩
    rw [pt_has_f]
    rintro i hi ⟨hk, hv⟩
    rcases h2 i hi hk with y | y
    · rw [hv, a] at y
      cases y
    · rw [hv, b] at y
      cases y
section VCs
variable {mN : Nat} {mR : Nat} {rc : Nat} {ph : Nat} {nc : Nat} {oc : Nat} {cx : Int32} {ap : Int32} {P : Nat → pr_PT} {R : Nat → pr_PT} {rl : Nat → Nat} {rj : Nat → Nat} {rK : Nat → Nat} {uc : Nat → Int32} {D : Nat → pr_PT} {ps : Nat → Nat → Nat} {dc : Nat → Nat} {dl : Nat} {dj : Nat} {dk : Nat} {K : Nat → Nat} {V : Nat → Int32} {A : Nat → Option Nat} {B : Nat → Option Nat} {O : Nat → Nat}
theorem sp_commit {c : Int32} (h : sp_ok mN mR rc ph nc oc cx ap P R rl rj rK uc D ps dc dl dj dk K V A B O) (hv : jd_v rc mR (D 0) (D 1) (dc 0) (dc 1) dl dj dk 0 c) : rc < mR ∧ c = -1 ∧ sp_ok mN mR (rc + 1) ph nc oc c ap (pr_st P rc (D 0)) (pr_st R rc (D 1)) (pr_st rl rc dl) (pr_st rj rc dj) (pr_st rK rc dk) (pr_st uc rc 0) D ps dc dl dj dk K V A B O := by
  obtain ⟨o1, o2, o3, o4, o5, o6, o7, o8, ⟨d1, d2, d3, d4⟩, o10⟩ := h
  have hk : c = -1 ∧ jd_ok rc mR (D 0) (D 1) (dc 0) (dc 1) dl dj dk 5 := by
    rcases hv with ⟨e, _⟩ | ⟨e, _⟩ | ⟨e, _⟩ | ⟨e, _⟩ | ⟨e, _⟩ | ⟨e, _⟩ | ⟨e, ec, x, x'⟩
    · omega
    · omega
    · omega
    · omega
    · omega
    · omega
    · exact ⟨ec, x⟩
  obtain ⟨hc, k1, k2, k3, k4, k5⟩ := hk
  have ne := k1 (by omega)
  have hsh := k2 (by omega)
  have hvf := k3 (by omega)
  have hpf := k4 (by omega)
  have hco := k5 (by omega)
  have hf0 : pt_fin (D 0) := by
    have h1 := (d1 0 (by omega)).2
    rw [hsh.1] at h1
    exact pd_fin h1
  have hf1 : pt_fin (D 1) := by
    have h1 := (d1 1 (by omega)).2
    rw [hsh.2.1] at h1
    exact pd_fin h1
  have hok0 := (d1 0 (by omega)).1
  have hok1 := (d1 1 (by omega)).1
  refine ⟨by omega, hc, o1, o2, o3, o4, by omega, o6, o7, fun r hr => ?_, ⟨d1, d2, d3, d4⟩, o10⟩
  by_cases e : r = rc
  · subst e
    rw [pr_st_s, pr_st_s, pr_st_s, pr_st_s, pr_st_s]
    refine ⟨hok0, hf0, hsh.2.2, hok1, hf1, d2, fun q hq hk => ?_, d3, fun hl => ⟨(d4 hl).1, (d4 hl).2, hpf hl⟩, hco, fun j hj => ?_⟩
    · rcases ((jd_vf_iff (P := D 0) hok1).mp hvf).2 q hq hk with y | y
      · obtain ⟨p, p1, p2, p3⟩ := pt_has_t.mp y
        exact ⟨p, p1, by omega, p3⟩
      · obtain ⟨p, p1, p2, p3⟩ := pt_has_t.mp y
        exact ⟨p, p1, by omega, p3⟩
    · obtain ⟨p, p1, p2, p3⟩ := pt_has_t.mp hj
      have hv2 := (hok0.2 p p1).2.2.1 (by omega)
      cases hx : pt_has (D 0) 14 j with
      | false => rfl
      | true => exact absurd ⟨hj, hx⟩ (hvf j (by omega)).1
  · rw [pr_st_n e, pr_st_n e, pr_st_n e, pr_st_n e, pr_st_n e]
    exact o8 r (by omega)
theorem sp_cx {c : Int32} (h : sp_ok mN mR rc ph nc oc cx ap P R rl rj rK uc D ps dc dl dj dk K V A B O) : sp_ok mN mR rc ph nc oc c ap P R rl rj rK uc D ps dc dl dj dk K V A B O := h
end VCs
section VCx
variable {f_maxNodes f_maxRules f_ruleCount f_counterexample f_optimized f_nodeCount f_outputCount f_applications : Int32} {a_preRelation a_preVariable a_preConstant a_roomNeeded a_useCount a_treeSize a_treeKind a_treeValue a_treeA a_treeB a_treeResult a_constantValued a_maximal a_counterpart a_boundNode a_pending a_pendingCount a_nodeKind a_nodeValue a_nodeA a_nodeB a_nodeResult a_nodeUses a_outputNode a_seen a_order a_walkStack : Nat → Int32}
variable {mN : Nat} {mR : Nat} {rc : Nat} {ph : Nat} {nc : Nat} {oc : Nat} {cx : Int32} {ap : Int32} {P : Nat → pr_PT} {R : Nat → pr_PT} {rl : Nat → Nat} {rj : Nat → Nat} {rK : Nat → Nat} {uc : Nat → Int32} {D : Nat → pr_PT} {ps : Nat → Nat → Nat} {dc : Nat → Nat} {dl : Nat} {dj : Nat} {dk : Nat} {K : Nat → Nat} {V : Nat → Int32} {A : Nat → Option Nat} {B : Nat → Option Nat} {O : Nat → Nat}
/-- ruleCommit: refused, or one more rule, which is sound; the draft is empty again -/
theorem rx_commit {u : St2} {post : Int32 → St2 → Prop} (hok : sp_ok mN mR rc ph nc oc cx ap P R rl rj rK uc D ps dc dl dj dk K V A B O) (hx : rx mN mR rc ph nc oc cx ap P R rl rj rK uc D ps dc dl dj dk K V A B O u)
    (h0 : ∀ a c u', sp_ok mN mR rc ph nc oc c ap P R rl rj rK uc (fun _ => pt_0) ps (fun _ => 0) 0 dj dk K V A B O → rx mN mR rc ph nc oc c ap P R rl rj rK uc (fun _ => pt_0) ps (fun _ => 0) 0 dj dk K V A B O u' → post a u')
    (h1 : ∀ a c u', jd_none (D 0) (D 1) dl dj dk → sp_ok mN mR (rc + 1) ph nc oc c ap (pr_st P rc (D 0)) (pr_st R rc (D 1)) (pr_st rl rc dl) (pr_st rj rc dj) (pr_st rK rc dk) (pr_st uc rc 0) (fun _ => pt_0) ps (fun _ => 0) 0 dj dk K V A B O → rx mN mR (rc + 1) ph nc oc c ap (pr_st P rc (D 0)) (pr_st R rc (D 1)) (pr_st rl rc dl) (pr_st rj rc dj) (pr_st rK rc dk) (pr_st uc rc 0) (fun _ => pt_0) ps (fun _ => 0) 0 dj dk K V A B O u' → post a u') : wpX_ruleCommit post u := by
  obtain ⟨f_maxNodes, f_maxRules, f_ruleCount, f_counterexample, f_optimized, f_nodeCount, f_outputCount, f_applications, a_preRelation, a_preVariable, a_preConstant, a_roomNeeded, a_useCount, a_treeSize, a_treeKind, a_treeValue, a_treeA, a_treeB, a_treeResult, a_constantValued, a_maximal, a_counterpart, a_boundNode, a_pending, a_pendingCount, a_nodeKind, a_nodeValue, a_nodeA, a_nodeB, a_nodeResult, a_nodeUses, a_outputNode, a_seen, a_order, a_walkStack⟩ := u
  obtain ⟨e1, e2, e3, e4, e5, e6, e7, e8, h9, h10, h11, h12⟩ := hx
  subst e1 e2 e3 e4 e5 e6 e7 e8
  have hok' := hok
  obtain ⟨o1, o2, o3, o4, o5, o6, o7, o8, ⟨s1, s2, s3, s4⟩, o10⟩ := hok
  have hn : ∀ r, r < rc → pt_n (P r) ≤ 8 ∧ pt_n (R r) ≤ 8 := fun r hr => pr_rule_n (o8 r hr)
  have q0 := s1 0 (by omega)
  have q1 := s1 1 (by omega)
  have x0 := h10 0 (by omega)
  have x1 := h10 1 (by omega)
  unfold wpX_ruleCommit
  refine x_judge (P := D 0) (R := D 1) (c0 := dc 0) (c1 := dc 1) o5 o4 q0.1 q1.1 q0.2 q1.2 s2 (fun h => (s4 h).1) s3 x0.1 x1.1 h11 x0.2.1 x1.2.1 (fun w c cv' mx' tr' hv hcm hkeep => ?_)
  have hw6 : w ≤ 6 := by
    rcases hv with ⟨e, _⟩ | ⟨e, _⟩ | ⟨e, _⟩ | ⟨e, _⟩ | ⟨e, _⟩ | ⟨e, _⟩ | ⟨e, _⟩ <;> omega
  refine pk_eq w 0 (fun e0 => ?_) (fun ne0 => ?_)
  · subst e0
    have hnone : jd_none (D 0) (D 1) dl dj dk := by
      rcases hv with ⟨e, _⟩ | ⟨e, _⟩ | ⟨e, _⟩ | ⟨e, _⟩ | ⟨e, _⟩ | ⟨e, _⟩ | ⟨e, ec, x, x'⟩
      · omega
      · omega
      · omega
      · omega
      · omega
      · omega
      · exact x'
    obtain ⟨hlt, hcm1, hsp⟩ := sp_commit hok' hv
    obtain ⟨cm1, cm2⟩ := hcm rfl
    refine x_room (by omega) q1.1 x1.1 cm1 cm2 ⟨pk_in rc 17 (by omega), ?_⟩
    rw [nI_clamp (by omega)]
    refine nm_e ⟨pk_in rc 17 (by omega), nm_e (nm_r (nI_1 _) (x_emptyDraft (by omega) (h1 _ _ _ hnone (sp_empty hsp) (rx_empty (fun r hr => ?_) (fun r hr => ?_) h12))))⟩
    · by_cases e : r = rc
      · rw [e, pr_st_s, pr_st_s]
        exact ⟨q0.1.1, q1.1.1⟩
      · rw [pr_st_n e, pr_st_n e]
        exact hn r (by omega)
    · by_cases e : r = rc
      · subst e
        rw [pr_st_s, pr_st_s, pr_st_s, pr_st_s, pr_st_s, pr_st_s, pk_us]
        exact ⟨⟨x0.1, x1.1, cm1, cm2, pk_us⟩, h11, rfl⟩
      · rw [pr_st_n e, pr_st_n e, pr_st_n e, pr_st_n e, pr_st_n e, pr_st_n e, pk_un e]
        have hr' : r < rc := by omega
        refine ⟨xr_cong hn (fun r hr => (h9 r hr).1) (fun _ _ => rfl) (fun p hp => ⟨rfl, rfl, rfl, rfl, (hkeep p hp).1, (hkeep p hp).2⟩) (fun r' hr' => pk_un (by omega)) r hr', (h9 r hr').2⟩
  · refine x_emptyDraft (by omega) (h0 _ _ _ (sp_empty (sp_cx (c := c) hok')) (rx_empty hn (fun r hr => ?_) h12))
    exact ⟨xr_cong hn (fun r hr => (h9 r hr).1) (fun _ _ => rfl) (fun p hp => ⟨rfl, rfl, rfl, rfl, (hkeep p hp).1, (hkeep p hp).2⟩) (fun _ _ => rfl) r hr, (h9 r hr).2⟩
end VCx
end
section
/-! X: deletion of what is not listed; uses counted -/
section XU
variable {f_maxNodes f_maxRules f_ruleCount f_counterexample f_optimized f_nodeCount f_outputCount f_applications : Int32} {a_preRelation a_preVariable a_preConstant a_roomNeeded a_useCount a_treeSize a_treeKind a_treeValue a_treeA a_treeB a_treeResult a_constantValued a_maximal a_counterpart a_boundNode a_pending a_pendingCount a_nodeKind a_nodeValue a_nodeA a_nodeB a_nodeResult a_nodeUses a_outputNode a_seen a_order a_walkStack : Nat → Int32}
variable {K : Nat → Nat} {V : Nat → Int32} {A B : Nat → Option Nat} {rk O : Nat → Nat} {L : List Nat} {post : St2 → Prop}
theorem x_delete (hse : ∀ c, c < 64 → (a_seen c = 0 ↔ c ∉ L))
    (h : ∀ nk nv na nb, (∀ n, n < 32 → n ∉ L → nk n = 0) → (∀ n, n ∈ L ∨ 32 ≤ n → nk n = a_nodeKind n ∧ nv n = a_nodeValue n ∧ na n = a_nodeA n ∧ nb n = a_nodeB n) → post (f_maxNodes, f_maxRules, f_ruleCount, f_counterexample, f_optimized, f_nodeCount, f_outputCount, f_applications, a_preRelation, a_preVariable, a_preConstant, a_roomNeeded, a_useCount, a_treeSize, a_treeKind, a_treeValue, a_treeA, a_treeB, a_treeResult, a_constantValued, a_maximal, a_counterpart, a_boundNode, a_pending, a_pendingCount, nk, nv, na, nb, a_nodeResult, a_nodeUses, a_outputNode, a_seen, a_order, a_walkStack)) : wpX_deleteUnseenNodes post (f_maxNodes, f_maxRules, f_ruleCount, f_counterexample, f_optimized, f_nodeCount, f_outputCount, f_applications, a_preRelation, a_preVariable, a_preConstant, a_roomNeeded, a_useCount, a_treeSize, a_treeKind, a_treeValue, a_treeA, a_treeB, a_treeResult, a_constantValued, a_maximal, a_counterpart, a_boundNode, a_pending, a_pendingCount, a_nodeKind, a_nodeValue, a_nodeA, a_nodeB, a_nodeResult, a_nodeUses, a_outputNode, a_seen, a_order, a_walkStack) := by
  have l : ∀ d i nk nv na nb, i + d = 32 → (∀ n, n < i → n ∉ L → nk n = 0) → (∀ n, n ∈ L ∨ i ≤ n → nk n = a_nodeKind n ∧ nv n = a_nodeValue n ∧ na n = a_nodeA n ∧ nb n = a_nodeB n) → wX_deleteUnseenNodes_2 post (d + 1) (nI i) f_maxNodes f_maxRules f_ruleCount f_counterexample f_optimized f_nodeCount f_outputCount f_applications a_preRelation a_preVariable a_preConstant a_roomNeeded a_useCount a_treeSize a_treeKind a_treeValue a_treeA a_treeB a_treeResult a_constantValued a_maximal a_counterpart a_boundNode a_pending a_pendingCount nk nv na nb a_nodeResult a_nodeUses a_outputNode a_seen a_order a_walkStack := by
    intro d
    induction d with
    | zero =>
      intro i nk nv na nb hi h1 h2
      exact pk_le 32 i (fun _ => h nk nv na nb (fun n hn => h1 n (by omega)) (fun n hn => h2 n (by rcases hn with x | x; exact Or.inl x; exact Or.inr (by omega)))) (fun h => absurd h (by omega))
    | succ d ih =>
      intro i nk nv na nb hi h1 h2
      have hs := hse i (by omega)
      refine pk_le 32 i (fun h => absurd h (by omega)) (fun _ => ⟨pk_in i 64 (by omega), ?_⟩)
      rw [nI_clamp (by omega)]
      refine br_c (fun h0 => ?_) (fun h0 => nm_r (nI_1 _) (ih (i + 1) nk nv na nb (by omega) (fun n hn hl => ?_) (fun n hn => h2 n (by rcases hn with x | x; exact Or.inl x; exact Or.inr (by omega)))))
      · have hl := hs.mp h0
        refine x_setNode (by omega) (nm_r (nI_1 _) (ih (i + 1) _ _ _ _ (by omega) (fun n hn hnl => ?_) (fun n hn => ?_)))
        · by_cases e : n = i
          · rw [e, pk_us]
          · rw [pk_un e]
            exact h1 n (by omega) hnl
        · have e : n ≠ i := by
            intro e
            subst e
            rcases hn with x | x
            · exact hl x
            · omega
          rw [pk_un e, pk_un e, pk_un e, pk_un e]
          exact h2 n (by rcases hn with x | x; exact Or.inl x; exact Or.inr (by omega))
      · by_cases e : n = i
        · subst e
          exact absurd (hs.mpr hl) h0
        · exact h1 n (by omega) hl
  exact ⟨33, l 32 0 _ _ _ _ (by omega) (fun n hn => absurd hn (by omega)) (fun n _ => ⟨rfl, rfl, rfl, rfl⟩)⟩
theorem x_uses97 {oc : Nat} {us0 : Nat → Nat} (hoc : oc ≤ 4) (hO : ∀ k, k < oc → pr_T 0 K (O k) ∧ a_outputNode k = nI (O k)) (hOL : ∀ k, k < oc → O k ∈ L)
    (h : ∀ nu, (∀ d, d ∈ L → nu d = nI (us0 d + pr_rs (fun k => if O k = d then 1 else 0) 0 oc)) → post (f_maxNodes, f_maxRules, f_ruleCount, f_counterexample, f_optimized, f_nodeCount, (nI oc), f_applications, a_preRelation, a_preVariable, a_preConstant, a_roomNeeded, a_useCount, a_treeSize, a_treeKind, a_treeValue, a_treeA, a_treeB, a_treeResult, a_constantValued, a_maximal, a_counterpart, a_boundNode, a_pending, a_pendingCount, a_nodeKind, a_nodeValue, a_nodeA, a_nodeB, a_nodeResult, nu, a_outputNode, a_seen, a_order, a_walkStack)) :
    ∀ d i nu, i + d = oc → (∀ x, x ∈ L → nu x = nI (us0 x + pr_rs (fun k => if O k = x then 1 else 0) 0 i)) → wX_countUses_97 post f_maxNodes f_maxRules f_ruleCount f_counterexample f_optimized f_nodeCount (nI oc) f_applications (d + 1) (nI i) a_preRelation a_preVariable a_preConstant a_roomNeeded a_useCount a_treeSize a_treeKind a_treeValue a_treeA a_treeB a_treeResult a_constantValued a_maximal a_counterpart a_boundNode a_pending a_pendingCount a_nodeKind a_nodeValue a_nodeA a_nodeB a_nodeResult nu a_outputNode a_seen a_order a_walkStack := by
  intro d
  induction d with
  | zero =>
    intro i nu hi hu
    have e : i = oc := by omega
    subst e
    exact pk_le i i (fun _ => h nu hu) (fun h => absurd h (by omega))
  | succ d ih =>
    intro i nu hi hu
    obtain ⟨to, eo⟩ := hO i (by omega)
    have to2 := to.2.1
    have hin : vp_in (nI (O i)) 64 := pk_in (O i) 64 (by omega)
    refine pk_le oc i (fun h => absurd h (by omega)) (fun _ => ⟨pk_in i 8 (by omega), ?_⟩)
    rw [nI_clamp (n := i) (by omega), eo, nI_clamp (by omega), hu _ (hOL i (by omega)), nI_1]
    refine ⟨hin, hin, nm_e (nm_r (nI_1 _) (ih (i + 1) _ (by omega) fun x hx => ?_))⟩
    show _ = nI (us0 x + (pr_rs (fun k => if O k = x then 1 else 0) 0 i + (if O (0 + i) = x then 1 else 0)))
    rw [Nat.zero_add]
    by_cases e : x = O i
    · subst e
      rw [pk_us, if_pos rfl, Nat.add_assoc]
    · rw [pk_un e, if_neg (fun h => e h.symm), Nat.add_zero]
      exact hu x hx
theorem x_uses27 (hG : pr_gw 0 K V A B rk) (hg : gr_at 0 K V A B a_nodeKind a_nodeValue a_nodeA a_nodeB) (hLT : ∀ x, x ∈ L → pr_T 0 K x) (hcl : pr_cl A B (fun x => x ∈ L)) (hlen : L.length ≤ 32) (hls : pr_ls a_order L)
    (h : ∀ nu, (∀ d, d ∈ L → nu d = nI (pr_sm (pr_e1 A B d) L)) → ∃ n, wX_countUses_97 post f_maxNodes f_maxRules f_ruleCount f_counterexample f_optimized f_nodeCount f_outputCount f_applications n 0 a_preRelation a_preVariable a_preConstant a_roomNeeded a_useCount a_treeSize a_treeKind a_treeValue a_treeA a_treeB a_treeResult a_constantValued a_maximal a_counterpart a_boundNode a_pending a_pendingCount a_nodeKind a_nodeValue a_nodeA a_nodeB a_nodeResult nu a_outputNode a_seen a_order a_walkStack) :
    ∀ d i nu, i + d = L.length → (∀ x, x ∈ L → nu x = nI (pr_sm (pr_e1 A B x) (L.take i))) → wX_countUses_27 post (nI L.length) f_maxNodes f_maxRules f_ruleCount f_counterexample f_optimized f_nodeCount f_outputCount f_applications (d + 1) (nI i) a_preRelation a_preVariable a_preConstant a_roomNeeded a_useCount a_treeSize a_treeKind a_treeValue a_treeA a_treeB a_treeResult a_constantValued a_maximal a_counterpart a_boundNode a_pending a_pendingCount a_nodeKind a_nodeValue a_nodeA a_nodeB a_nodeResult nu a_outputNode a_seen a_order a_walkStack := by
  intro d
  induction d with
  | zero =>
    intro i nu hi hu
    refine pk_le L.length i (fun _ => h nu fun x hx => ?_) (fun h => absurd h (by omega))
    rw [hu x hx, show i = L.length by omega, pr_sm_all]
  | succ d ih =>
    intro i nu hi hu
    have hi' : i < L.length := by omega
    have hmem := pr_gd_m hi'
    have tx := hLT _ hmem
    have tx2 := tx.2.1
    obtain ⟨k1, k2, k3, k4⟩ := hg _ tx
    obtain ⟨g1, g2, g3, g4, g5, g6, g7, g8, g9, g10⟩ := hG _ tx
    have hin : vp_in (nI (L.getD i 0)) 64 := pk_in (L.getD i 0) 64 (by omega)
    have hcx : (nI (L.getD i 0)).toNatClampNeg = L.getD i 0 := nI_clamp (by omega)
    have nx : ∀ nu', (∀ x, x ∈ L → nu' x = nI (pr_sm (pr_e1 A B x) (L.take i) + pr_e1 A B x (L.getD i 0))) → wX_countUses_27 post (nI L.length) f_maxNodes f_maxRules f_ruleCount f_counterexample f_optimized f_nodeCount f_outputCount f_applications (d + 1) (nI (i + 1)) a_preRelation a_preVariable a_preConstant a_roomNeeded a_useCount a_treeSize a_treeKind a_treeValue a_treeA a_treeB a_treeResult a_constantValued a_maximal a_counterpart a_boundNode a_pending a_pendingCount a_nodeKind a_nodeValue a_nodeA a_nodeB a_nodeResult nu' a_outputNode a_seen a_order a_walkStack := by
      intro nu' hn'
      refine ih (i + 1) nu' (by omega) fun x hx => ?_
      rw [pr_sm_tk _ L i hi']
      exact hn' x hx
    have h64 : ∀ nu', (∀ x, x ∈ L → nu' x = nI (pr_sm (pr_e1 A B x) (L.take i) + (if A (L.getD i 0) = some x then 1 else 0))) → wX_countUses_64 post (wX_countUses_27 post (nI L.length) f_maxNodes f_maxRules f_ruleCount f_counterexample f_optimized f_nodeCount f_outputCount f_applications (d + 1)) (nI L.length) (nI i) (nI (L.getD i 0)) f_maxNodes f_maxRules f_ruleCount f_counterexample f_optimized f_nodeCount f_outputCount f_applications a_preRelation a_preVariable a_preConstant a_roomNeeded a_useCount a_treeSize a_treeKind a_treeValue a_treeA a_treeB a_treeResult a_constantValued a_maximal a_counterpart a_boundNode a_pending a_pendingCount a_nodeKind a_nodeValue a_nodeA a_nodeB a_nodeResult nu' a_outputNode a_seen a_order a_walkStack := by
      intro nu' hn'
      refine ⟨hin, ?_⟩
      rw [hcx, k4]
      cases hb : B (L.getD i 0) with
      | none =>
        refine br_t rfl (nm_r (nI_1 _) (nx nu' fun x hx => ?_))
        have e1 : pr_e1 A B x (L.getD i 0) = (if A (L.getD i 0) = some x then 1 else 0) + (if B (L.getD i 0) = some x then 1 else 0) := rfl
        rw [hb, if_neg (c := none = some x) (fun h => (nomatch h)), Nat.add_zero] at e1
        rw [hn' x hx, e1]
      | some c =>
        have hcL := hcl _ c hmem (Or.inr hb)
        have tc := (hLT c hcL).2.1
        have hinc : vp_in (nI c) 64 := pk_in c 64 (by omega)
        refine br_f (pr_ne1 (by omega)) ⟨hin, hinc, hinc, ?_⟩
        rw [show (pr_oI (some c)).toNatClampNeg = c from nI_clamp (by omega), hn' c hcL, nI_1]
        refine nm_e (nm_r (nI_1 _) (nx _ fun x hx => ?_))
        have e1 : pr_e1 A B x (L.getD i 0) = (if A (L.getD i 0) = some x then 1 else 0) + (if B (L.getD i 0) = some x then 1 else 0) := rfl
        rw [hb] at e1
        by_cases e : x = c
        · subst e
          rw [if_pos (c := some x = some x) rfl] at e1
          rw [pk_us, e1]
          exact congrArg nI (by omega)
        · rw [if_neg (c := some c = some x) (fun h => e (Option.some.inj h).symm), Nat.add_zero] at e1
          rw [pk_un e, hn' x hx, e1]
    refine pk_le L.length i (fun h => absurd h (by omega)) (fun _ => ⟨pk_in i 32 (by omega), ?_⟩)
    rw [nI_clamp (n := i) (by omega)]
    refine nm_r (hls i hi') ⟨hin, ?_⟩
    rw [hcx, k3]
    cases ha : A (L.getD i 0) with
    | none =>
      refine br_t rfl (h64 nu fun x hx => ?_)
      rw [ha, if_neg (fun h => (nomatch h)), Nat.add_zero]
      exact hu x hx
    | some c =>
      have hcL := hcl _ c hmem (Or.inl ha)
      have tc := (hLT c hcL).2.1
      have hinc : vp_in (nI c) 64 := pk_in c 64 (by omega)
      refine br_f (pr_ne1 (by omega)) ⟨hin, hinc, hinc, ?_⟩
      rw [show (pr_oI (some c)).toNatClampNeg = c from nI_clamp (by omega), hu c hcL, nI_1]
      refine nm_e (h64 _ fun x hx => ?_)
      rw [ha]
      by_cases e : x = c
      · subst e
        rw [pk_us, if_pos rfl]
      · rw [pk_un e, if_neg (fun h => e (Option.some.inj h).symm), Nat.add_zero]
        exact hu x hx
theorem x_countUses {oc : Nat} (hG : pr_gw 0 K V A B rk) (hg : gr_at 0 K V A B a_nodeKind a_nodeValue a_nodeA a_nodeB) (hL : pr_lk (pr_T 0 K) A B O 0 oc L) (hoc : oc ≤ 4) (hO : ∀ k, k < oc → pr_T 0 K (O k) ∧ a_outputNode k = nI (O k)) (hls : pr_ls a_order L)
    (h : ∀ nu, (∀ d, d ∈ L → nu d = nI (pr_us A B O L oc d)) → post (f_maxNodes, f_maxRules, f_ruleCount, f_counterexample, f_optimized, f_nodeCount, (nI oc), f_applications, a_preRelation, a_preVariable, a_preConstant, a_roomNeeded, a_useCount, a_treeSize, a_treeKind, a_treeValue, a_treeA, a_treeB, a_treeResult, a_constantValued, a_maximal, a_counterpart, a_boundNode, a_pending, a_pendingCount, a_nodeKind, a_nodeValue, a_nodeA, a_nodeB, a_nodeResult, nu, a_outputNode, a_seen, a_order, a_walkStack)) : wpX_countUses post (f_maxNodes, f_maxRules, f_ruleCount, f_counterexample, f_optimized, f_nodeCount, (nI oc), f_applications, a_preRelation, a_preVariable, a_preConstant, a_roomNeeded, a_useCount, a_treeSize, a_treeKind, a_treeValue, a_treeA, a_treeB, a_treeResult, a_constantValued, a_maximal, a_counterpart, a_boundNode, a_pending, a_pendingCount, a_nodeKind, a_nodeValue, a_nodeA, a_nodeB, a_nodeResult, a_nodeUses, a_outputNode, a_seen, a_order, a_walkStack) (nI L.length) := by
  have hLT : ∀ x, x ∈ L → pr_T 0 K x := fun x hx => (hL.2.2.2 x hx).1
  have hlen := pr_len (lo := 0) (n := 32) hL.1 (fun x hx => ⟨(hLT x hx).1, (hLT x hx).2.1⟩)
  have hOL : ∀ k, k < oc → O k ∈ L := fun k hk => by
    have := hL.2.2.1 k hk
    rw [Nat.zero_add] at this
    exact this
  have l2 : ∀ d i nu, i + d = L.length → (∀ q, q < i → nu (L.getD q 0) = 0) → wX_countUses_2 post (nI L.length) f_maxNodes f_maxRules f_ruleCount f_counterexample f_optimized f_nodeCount (nI oc) f_applications (d + 1) (nI i) a_preRelation a_preVariable a_preConstant a_roomNeeded a_useCount a_treeSize a_treeKind a_treeValue a_treeA a_treeB a_treeResult a_constantValued a_maximal a_counterpart a_boundNode a_pending a_pendingCount a_nodeKind a_nodeValue a_nodeA a_nodeB a_nodeResult nu a_outputNode a_seen a_order a_walkStack := by
    intro d
    induction d with
    | zero =>
      intro i nu hi hu
      refine pk_le L.length i (fun _ => ⟨L.length + 1, ?_⟩) (fun h => absurd h (by omega))
      refine x_uses27 hG hg hLT hL.2.1 hlen hls (fun nu' hn' => ⟨oc + 1, ?_⟩) L.length 0 nu (by omega) (fun x hx => ?_)
      · exact x_uses97 (us0 := fun d => pr_sm (pr_e1 A B d) L) hoc hO hOL (fun nu2 hn2 => h nu2 hn2) oc 0 nu' (by omega) hn'
      · obtain ⟨q, q1, q2⟩ := pr_gd_ex hx
        have := hu q (by omega)
        rw [q2] at this
        rw [this]
        rfl
    | succ d ih =>
      intro i nu hi hu
      have hi' : i < L.length := by omega
      have tx2 := (hLT _ (pr_gd_m hi')).2.1
      refine pk_le L.length i (fun h => absurd h (by omega)) (fun _ => ⟨pk_in i 32 (by omega), ?_⟩)
      rw [nI_clamp (n := i) (by omega), hls i hi']
      refine ⟨pk_in (L.getD i 0) 64 (by omega), ?_⟩
      rw [nI_clamp (by omega)]
      refine nm_e (nm_r (nI_1 _) (ih (i + 1) _ (by omega) fun q hq => ?_))
      by_cases e : L.getD q 0 = L.getD i 0
      · rw [e, pk_us]
      · rw [pk_un e]
        refine hu q ?_
        have : q ≠ i := fun hx => e (by rw [hx])
        omega
  exact ⟨L.length + 1, l2 L.length 0 a_nodeUses (by omega) (fun q hq => absurd hq (by omega))⟩
end XU
end
section
/-! X: matching -/
def bx_v (V : Nat → Int32) (bd : Nat → Option Nat) (j : Nat) : Int32 := match bd j with
  | none => 0
  | some d => V d
def by_v (K : Nat → Nat) (V : Nat → Int32) (bd : Nat → Option Nat) (j : Nat) : Int32 := match bd j with
  | none => 0
  | some d => if K d = 11 then V d else 0
theorem pm_bd {K : Nat → Nat} {V : Nat → Int32} {A B : Nat → Option Nat} {us : Nat → Nat} {P : pr_PT} {R i : Nat} {s : pm_S} (h : pm_inv K V A B us P R i s) {j d : Nat} (hj : s.2 j = some d) : pr_T 0 K d := by
  obtain ⟨q, h1, h2, h3, h4, h5⟩ := h.2.2.2 j d hj
  have := (h.2.1 q h1 h2).1
  rw [h5] at this
  exact this
section XV
variable {f_maxNodes f_maxRules f_ruleCount f_counterexample f_optimized f_nodeCount f_outputCount f_applications : Int32} {a_preRelation a_preVariable a_preConstant a_roomNeeded a_useCount a_treeSize a_treeKind a_treeValue a_treeA a_treeB a_treeResult a_constantValued a_maximal a_counterpart a_boundNode a_pending a_pendingCount a_nodeKind a_nodeValue a_nodeA a_nodeB a_nodeResult a_nodeUses a_outputNode a_seen a_order a_walkStack : Nat → Int32}
variable {K : Nat → Nat} {V : Nat → Int32} {A B : Nat → Option Nat} {us rk : Nat → Nat} {P : pr_PT} {Rn w : Nat}
theorem x_boundValue {post : Int32 → Prop} {bd : Nat → Option Nat} {j : Nat} (hj : j < 2) (hg : gr_at 0 K V A B a_nodeKind a_nodeValue a_nodeA a_nodeB) (hb : a_boundNode j = pr_oI (bd j)) (hT : ∀ d, bd j = some d → pr_T 0 K d) (h : post (bx_v V bd j)) : wpX_boundValue post (f_maxNodes, f_maxRules, f_ruleCount, f_counterexample, f_optimized, f_nodeCount, f_outputCount, f_applications, a_preRelation, a_preVariable, a_preConstant, a_roomNeeded, a_useCount, a_treeSize, a_treeKind, a_treeValue, a_treeA, a_treeB, a_treeResult, a_constantValued, a_maximal, a_counterpart, a_boundNode, a_pending, a_pendingCount, a_nodeKind, a_nodeValue, a_nodeA, a_nodeB, a_nodeResult, a_nodeUses, a_outputNode, a_seen, a_order, a_walkStack) (nI j) := by
  have hin : vp_in (nI j) 2 := pk_in j 2 hj
  unfold wpX_boundValue
  refine ⟨hin, ?_⟩
  rw [nI_clamp (by omega), hb]
  unfold bx_v at h
  cases e : bd j with
  | none =>
    rw [e] at h
    exact br_t rfl h
  | some d =>
    rw [e] at h
    have td := hT d e
    have td2 := td.2.1
    refine br_f (pr_ne1 (by omega)) ⟨hin, pk_in d 64 (by omega), ?_⟩
    rw [show (pr_oI (some d)).toNatClampNeg = d from nI_clamp (by omega), (hg d td).2.1]
    exact h
theorem x_leaf {post : Int32 → St2 → Prop} {i : Nat} {s : pm_S} (hw : w < 34) (hP : pt_ok P) (hi : i < pt_n P) (hk : 11 ≤ pt_k P i) (hG : pr_gw 0 K V A B rk) (hg : gr_at 0 K V A B a_nodeKind a_nodeValue a_nodeA a_nodeB) (hT : tr_at (w * 8) w P a_treeSize a_treeKind a_treeValue a_treeA a_treeB) (td : pr_T 0 K (s.1 i)) (hbd : ∀ j d, s.2 j = some d → pr_T 0 K d) (hbn : ∀ j, j < 2 → a_boundNode j = pr_oI (s.2 j))
    (hno : pm_st K V A B us P i s = none → ∀ bn', post 0 (f_maxNodes, f_maxRules, f_ruleCount, f_counterexample, f_optimized, f_nodeCount, f_outputCount, f_applications, a_preRelation, a_preVariable, a_preConstant, a_roomNeeded, a_useCount, a_treeSize, a_treeKind, a_treeValue, a_treeA, a_treeB, a_treeResult, a_constantValued, a_maximal, a_counterpart, bn', a_pending, a_pendingCount, a_nodeKind, a_nodeValue, a_nodeA, a_nodeB, a_nodeResult, a_nodeUses, a_outputNode, a_seen, a_order, a_walkStack))
    (hy : ∀ s' bn', pm_st K V A B us P i s = some s' → s'.1 = s.1 → (∀ j, j < 2 → bn' j = pr_oI (s'.2 j)) → post 1 (f_maxNodes, f_maxRules, f_ruleCount, f_counterexample, f_optimized, f_nodeCount, f_outputCount, f_applications, a_preRelation, a_preVariable, a_preConstant, a_roomNeeded, a_useCount, a_treeSize, a_treeKind, a_treeValue, a_treeA, a_treeB, a_treeResult, a_constantValued, a_maximal, a_counterpart, bn', a_pending, a_pendingCount, a_nodeKind, a_nodeValue, a_nodeA, a_nodeB, a_nodeResult, a_nodeUses, a_outputNode, a_seen, a_order, a_walkStack)) : wpX_leafFits post (f_maxNodes, f_maxRules, f_ruleCount, f_counterexample, f_optimized, f_nodeCount, f_outputCount, f_applications, a_preRelation, a_preVariable, a_preConstant, a_roomNeeded, a_useCount, a_treeSize, a_treeKind, a_treeValue, a_treeA, a_treeB, a_treeResult, a_constantValued, a_maximal, a_counterpart, a_boundNode, a_pending, a_pendingCount, a_nodeKind, a_nodeValue, a_nodeA, a_nodeB, a_nodeResult, a_nodeUses, a_outputNode, a_seen, a_order, a_walkStack) (nI (w * 8 + i)) (nI (s.1 i)) := by
  have h8 := hP.1
  have td2 := td.2.1
  obtain ⟨e1, e2, _, _⟩ := hT.2 i hi
  have hn := hP.2 i hi
  have hs := pt_sm hP i hi
  obtain ⟨k1, k2, k3, k4⟩ := hg _ td
  have hK12 := (hG _ td).1
  have hin : vp_in (nI (w * 8 + i)) 272 := pk_in (w * 8 + i) 272 (by omega)
  have hcl : (nI (w * 8 + i)).toNatClampNeg = w * 8 + i := nI_clamp (by omega)
  have hinn : vp_in (nI (s.1 i)) 64 := pk_in (s.1 i) 64 (by omega)
  have hcn : (nI (s.1 i)).toNatClampNeg = s.1 i := nI_clamp (by omega)
  unfold pm_st at hno hy
  unfold wpX_leafFits
  refine ⟨hin, ?_⟩
  rw [hcl, hcn, k1, k2, e2]
  refine nm_r e1 (pk_eq (pt_k P i) 11 (fun e => ⟨hinn, ?_⟩) (fun n11 => ?_))
  · rw [if_pos e] at hno hy
    refine pk_eq (K (s.1 i)) 11 (fun hK => ⟨hinn, hin, br_c (fun hv => ?_) (fun hv => ?_)⟩) (fun hK => ?_)
    · exact hy s _ (if_pos ⟨hK, hv⟩) rfl hbn
    · exact hno (if_neg fun hh => hv hh.2) _
    · exact hno (if_neg fun hh => hK hh.1) _
  · rw [if_neg n11, if_pos (show 13 ≤ pt_k P i by have := hn.1; omega)] at hno hy
    have hv2 := hn.2.2.1 (by have := hn.1; omega)
    have h64 : ¬ (pt_k P i = 14 ∧ K (s.1 i) ≠ 11) → wX_leafFits_64 post (nI (w * 8 + i)) (nI (s.1 i)) f_maxNodes f_maxRules f_ruleCount f_counterexample f_optimized f_nodeCount f_outputCount f_applications a_preRelation a_preVariable a_preConstant a_roomNeeded a_useCount a_treeSize a_treeKind a_treeValue a_treeA a_treeB a_treeResult a_constantValued a_maximal a_counterpart a_boundNode a_pending a_pendingCount a_nodeKind a_nodeValue a_nodeA a_nodeB a_nodeResult a_nodeUses a_outputNode a_seen a_order a_walkStack := by
      intro h14
      rw [if_neg h14] at hno hy
      unfold pm_lf at hno hy
      have hinj : vp_in (nI (pt_v P i)) 2 := pk_in (pt_v P i) 2 hv2
      refine ⟨hin, ?_⟩
      rw [hcl]
      refine nm_r e2 ⟨hinj, ?_⟩
      rw [nI_clamp (by omega), hbn _ hv2]
      cases hb : s.2 (pt_v P i) with
      | none =>
        rw [hb] at hno hy
        refine br_t rfl ⟨hinj, nm_e ⟨hinj, ?_⟩⟩
        rw [nI_clamp (by omega), pk_us]
        refine br_t rfl (hy _ _ rfl rfl fun j hj => ?_)
        show upd a_boundNode (pt_v P i) (nI (s.1 i)) j = pr_oI (pr_st s.2 (pt_v P i) (some (s.1 i)) j)
        by_cases ej : j = pt_v P i
        · rw [ej, pk_us, pr_st_s]
          rfl
        · rw [pk_un ej, pr_st_n ej]
          exact hbn j hj
      | some x =>
        rw [hb] at hno hy
        have tx := (hbd _ x hb).2.1
        refine br_f (pr_ne1 (by omega)) ⟨hinj, ?_⟩
        rw [nI_clamp (by omega), hbn _ hv2, hb]
        refine pk_eq x (s.1 i) (fun ex => ?_) (fun ex => ?_)
        · exact hy s _ (if_pos ex) rfl hbn
        · exact hno (if_neg ex) _
    refine pk_eq (pt_k P i) 14 (fun e14 => ⟨hinn, ?_⟩) (fun n14 => h64 fun hh => n14 hh.1)
    refine pk_eq (K (s.1 i)) 11 (fun hK => h64 fun hh => hh.2 hK) (fun hK => ?_)
    rw [if_pos ⟨e14, hK⟩] at hno
    exact hno rfl _
theorem x_opf {post : Int32 → St2 → Prop} {i : Nat} {s : pm_S} {z : Int32} (hw : w < 34) (hP : pt_ok P) (hi : i < pt_n P) (hk : pt_k P i ≤ 10) (hG : pr_gw 0 K V A B rk) (hg : gr_at 0 K V A B a_nodeKind a_nodeValue a_nodeA a_nodeB) (hT : tr_at (w * 8) w P a_treeSize a_treeKind a_treeValue a_treeA a_treeB) (td : pr_T 0 K (s.1 i)) (hu : a_nodeUses (s.1 i) = nI (us (s.1 i))) (hub : us (s.1 i) < 2 ^ 31) (hz : z = 0 ↔ i + 1 ≠ pt_n P) (hcp : ∀ q, q < pt_n P → pm_as P (i + 1) q → a_counterpart (w * 8 + q) = nI (s.1 q))
    (hno : pm_st K V A B us P i s = none → ∀ cp', post 0 (f_maxNodes, f_maxRules, f_ruleCount, f_counterexample, f_optimized, f_nodeCount, f_outputCount, f_applications, a_preRelation, a_preVariable, a_preConstant, a_roomNeeded, a_useCount, a_treeSize, a_treeKind, a_treeValue, a_treeA, a_treeB, a_treeResult, a_constantValued, a_maximal, cp', a_boundNode, a_pending, a_pendingCount, a_nodeKind, a_nodeValue, a_nodeA, a_nodeB, a_nodeResult, a_nodeUses, a_outputNode, a_seen, a_order, a_walkStack))
    (hy : ∀ s' cp', pm_st K V A B us P i s = some s' → s'.2 = s.2 → (∀ q, q < pt_n P → pm_as P i q → cp' (w * 8 + q) = nI (s'.1 q)) → post 1 (f_maxNodes, f_maxRules, f_ruleCount, f_counterexample, f_optimized, f_nodeCount, f_outputCount, f_applications, a_preRelation, a_preVariable, a_preConstant, a_roomNeeded, a_useCount, a_treeSize, a_treeKind, a_treeValue, a_treeA, a_treeB, a_treeResult, a_constantValued, a_maximal, cp', a_boundNode, a_pending, a_pendingCount, a_nodeKind, a_nodeValue, a_nodeA, a_nodeB, a_nodeResult, a_nodeUses, a_outputNode, a_seen, a_order, a_walkStack)) : wpX_operationFits post (f_maxNodes, f_maxRules, f_ruleCount, f_counterexample, f_optimized, f_nodeCount, f_outputCount, f_applications, a_preRelation, a_preVariable, a_preConstant, a_roomNeeded, a_useCount, a_treeSize, a_treeKind, a_treeValue, a_treeA, a_treeB, a_treeResult, a_constantValued, a_maximal, a_counterpart, a_boundNode, a_pending, a_pendingCount, a_nodeKind, a_nodeValue, a_nodeA, a_nodeB, a_nodeResult, a_nodeUses, a_outputNode, a_seen, a_order, a_walkStack) (nI (w * 8 + i)) (nI (s.1 i)) z := by
  have h8 := hP.1
  have td2 := td.2.1
  obtain ⟨e1, e2, e3, e4⟩ := hT.2 i hi
  have hn := hP.2 i hi
  have h9 := hn.2.2.2.2.2.2.2.2.1
  have h10 := hn.2.2.2.2.2.2.2.2.2.1
  have hs := pt_sm hP i hi
  obtain ⟨k1, k2, k3, k4⟩ := hg _ td
  obtain ⟨g1, g2, g3, g4, g5, g6, g7, g8, g9, g10⟩ := hG _ td
  have hin : vp_in (nI (w * 8 + i)) 272 := pk_in (w * 8 + i) 272 (by omega)
  have hcl : (nI (w * 8 + i)).toNatClampNeg = w * 8 + i := nI_clamp (by omega)
  have hinn : vp_in (nI (s.1 i)) 64 := pk_in (s.1 i) 64 (by omega)
  have hcn : (nI (s.1 i)).toNatClampNeg = s.1 i := nI_clamp (by omega)
  obtain ⟨ca, hca⟩ := hn.2.2.2.2.2.2.1 hk
  have hca' := h9 ca (Or.inl hca)
  unfold pm_st at hno hy
  rw [if_neg (by omega), if_neg (by omega)] at hno hy
  have h31 : K (s.1 i) = pt_k P i → (i + 1 = pt_n P ∨ us (s.1 i) = 1) → wX_operationFits_31 post (nI (w * 8 + i)) (nI (s.1 i)) f_maxNodes f_maxRules f_ruleCount f_counterexample f_optimized f_nodeCount f_outputCount f_applications a_preRelation a_preVariable a_preConstant a_roomNeeded a_useCount a_treeSize a_treeKind a_treeValue a_treeA a_treeB a_treeResult a_constantValued a_maximal a_counterpart a_boundNode a_pending a_pendingCount a_nodeKind a_nodeValue a_nodeA a_nodeB a_nodeResult a_nodeUses a_outputNode a_seen a_order a_walkStack := by
    intro hK hr
    have hy' := fun cp' => hy (pm_ch A B P i (s.1 i) s.1, s.2) cp' (if_pos ⟨hK, hr⟩) rfl
    obtain ⟨da, hda⟩ := g8 (by rw [hK]; exact hk)
    refine ⟨hin, hinn, ?_⟩
    rw [hcl, hcn, e3, e4, hca]
    refine ⟨pk_in (w * 8 + ca) 272 (by omega), ?_⟩
    rw [show (pr_oX (w * 8) (some ca)).toNatClampNeg = w * 8 + ca from nI_clamp (by omega), k3, hda]
    refine nm_e ⟨hin, ?_⟩
    cases hb : pt_b P i with
    | none =>
      refine br_t rfl (hy' _ fun q hq hq' => ?_)
      show upd a_counterpart (w * 8 + ca) (nI da) (w * 8 + q) = nI (pm_ch A B P i (s.1 i) s.1 q)
      unfold pm_ch
      by_cases e : q = ca
      · subst e
        rw [pk_us, if_pos hca, hda]
        rfl
      · rw [pk_un (by omega), if_neg (fun h => e (by rw [hca] at h; exact (Option.some.inj h).symm)), hb, if_neg (fun h => (nomatch h))]
        rcases pm_as_s hq' with y | y
        · exact hcp q hq y
        · rcases ((hP.2 q hq).2.2.2.2.2.2.2.2.2.2 i y).2.2 with z | z
          · rw [hca] at z
            exact absurd (Option.some.inj z).symm e
          · rw [hb] at z
            cases z
    | some cb =>
      have hcb' := h9 cb (Or.inr hb)
      have hk8 : pt_k P i ≤ 8 := by
        apply Classical.byContradiction
        intro hx
        rw [hn.2.2.2.2.2.1 (by omega)] at hb
        cases hb
      obtain ⟨db, hdb⟩ := g9 (by rw [hK]; exact hk8)
      refine br_f (pr_ne1 (by omega)) ⟨hin, hinn, pk_in (w * 8 + cb) 272 (by omega), ?_⟩
      rw [show (pr_oX (w * 8) (some cb)).toNatClampNeg = w * 8 + cb from nI_clamp (by omega), k4, hdb]
      have hab : ca ≠ cb := fun e => h10 ca hca (by rw [e]; exact hb)
      refine nm_e (hy' _ fun q hq hq' => ?_)
      show upd (upd a_counterpart (w * 8 + ca) (nI da)) (w * 8 + cb) (nI db) (w * 8 + q) = nI (pm_ch A B P i (s.1 i) s.1 q)
      unfold pm_ch
      by_cases e : q = cb
      · subst e
        rw [pk_us, if_neg (fun h => hab (by rw [hca] at h; exact Option.some.inj h)), if_pos hb, hdb]
        rfl
      · rw [pk_un (by omega)]
        by_cases e' : q = ca
        · subst e'
          rw [pk_us, if_pos hca, hda]
          rfl
        · rw [pk_un (by omega), if_neg (fun h => e' (by rw [hca] at h; exact (Option.some.inj h).symm)), if_neg (fun h => e (by rw [hb] at h; exact (Option.some.inj h).symm))]
          rcases pm_as_s hq' with y | y
          · exact hcp q hq y
          · rcases ((hP.2 q hq).2.2.2.2.2.2.2.2.2.2 i y).2.2 with z | z
            · rw [hca] at z
              exact absurd (Option.some.inj z).symm e'
            · rw [hb] at z
              exact absurd (Option.some.inj z).symm e
  unfold wpX_operationFits
  refine ⟨hinn, hin, ?_⟩
  rw [hcl, hcn, k1, e1, hu]
  refine pk_eq (K (s.1 i)) (pt_k P i) (fun hK => br_c (fun hz0 => ⟨hinn, ?_⟩) (fun hz1 => ?_)) (fun hK => hno (if_neg fun hh => hK hh.1) _)
  · have hne := hz.mp hz0
    refine pk_eq (us (s.1 i)) 1 (fun h1 => h31 hK (Or.inr h1)) (fun h1 => hno (if_neg fun hh => ?_) _)
    rcases hh.2 with y | y
    · exact hne y
    · exact h1 y
  · refine h31 hK (Or.inl ?_)
    apply Classical.byContradiction
    intro hne
    exact hz1 (hz.mpr hne)
theorem x_matches41 {post : Int32 → St2 → Prop} {r rl rj rK : Nat} (hr : r < 17) (hw : w = r * 2 + 0) (hP : pt_ok P) (hf : pt_fin P) (hG : pr_gw 0 K V A B rk) (hg : gr_at 0 K V A B a_nodeKind a_nodeValue a_nodeA a_nodeB) (hT : tr_at (w * 8) w P a_treeSize a_treeKind a_treeValue a_treeA a_treeB) (hu : ∀ d, pr_T 0 K d → a_nodeUses d = nI (us d) ∧ us d < 2 ^ 31) (h4 : rl ≤ 4) (hj : rl ≠ 0 → rj < 2) (hpe : pe_at r rl rj rK a_preRelation a_preVariable a_preConstant) :
    ∀ i s cp bn, i ≤ pt_n P → pm_inv K V A B us P Rn i s → (∀ q, q < pt_n P → pm_as P i q → cp (w * 8 + q) = nI (s.1 q)) → (∀ j, j < 2 → bn j = pr_oI (s.2 j)) →
      (pm_run K V A B us P i s = none → ∀ cp' bn', post 0 (f_maxNodes, f_maxRules, f_ruleCount, f_counterexample, f_optimized, f_nodeCount, f_outputCount, f_applications, a_preRelation, a_preVariable, a_preConstant, a_roomNeeded, a_useCount, a_treeSize, a_treeKind, a_treeValue, a_treeA, a_treeB, a_treeResult, a_constantValued, a_maximal, cp', bn', a_pending, a_pendingCount, a_nodeKind, a_nodeValue, a_nodeA, a_nodeB, a_nodeResult, a_nodeUses, a_outputNode, a_seen, a_order, a_walkStack)) →
      (∀ s' cp' bn', pm_run K V A B us P i s = some s' → (∀ j, j < 2 → bn' j = pr_oI (s'.2 j)) → post (pr_b (pr_ph rl rj rK (bx_v V s'.2 0) (bx_v V s'.2 1))) (f_maxNodes, f_maxRules, f_ruleCount, f_counterexample, f_optimized, f_nodeCount, f_outputCount, f_applications, a_preRelation, a_preVariable, a_preConstant, a_roomNeeded, a_useCount, a_treeSize, a_treeKind, a_treeValue, a_treeA, a_treeB, a_treeResult, a_constantValued, a_maximal, cp', bn', a_pending, a_pendingCount, a_nodeKind, a_nodeValue, a_nodeA, a_nodeB, a_nodeResult, a_nodeUses, a_outputNode, a_seen, a_order, a_walkStack)) →
      wX_matches_41 post (nI r) (nI w) (nI (w * 8 + (pt_n P - 1))) (i + 1) (nI (w * 8 + i) + (-1)) f_maxNodes f_maxRules f_ruleCount f_counterexample f_optimized f_nodeCount f_outputCount f_applications a_preRelation a_preVariable a_preConstant a_roomNeeded a_useCount a_treeSize a_treeKind a_treeValue a_treeA a_treeB a_treeResult a_constantValued a_maximal cp bn a_pending a_pendingCount a_nodeKind a_nodeValue a_nodeA a_nodeB a_nodeResult a_nodeUses a_outputNode a_seen a_order a_walkStack := by
  intro i
  have h8 := hP.1
  induction i with
  | zero =>
    intro s cp bn hi hinv hcp hbn hno hy
    unfold wX_matches_41
    refine x_firstOf (br_t (nx_lt (a := w * 8) (by omega)) ?_)
    refine x_boundValue (j := 0) (bd := s.2) (by omega) hg (hbn 0 (by omega)) (fun d hd => pm_bd hinv hd) ?_
    refine x_boundValue (j := 1) (bd := s.2) (by omega) hg (hbn 1 (by omega)) (fun d hd => pm_bd hinv hd) ?_
    refine x_preHolds hr h4 hj hpe ⟨?_, hy s cp bn rfl hbn⟩
    cases pr_ph rl rj rK (bx_v V s.2 0) (bx_v V s.2 1) <;> decide
  | succ i ih =>
    intro s cp bn hi hinv hcp hbn hno hy
    have hi' : i < pt_n P := by omega
    obtain ⟨e1, e2, e3, e4⟩ := hT.2 i hi'
    have hn := hP.2 i hi'
    have has := pm_as_i hP hf hi'
    have td := hinv.2.2.1 i hi' has
    have hin : vp_in (nI (w * 8 + i)) 272 := pk_in (w * 8 + i) 272 (by omega)
    have hcl : (nI (w * 8 + i)).toNatClampNeg = w * 8 + i := nI_clamp (by omega)
    have hrun : pm_run K V A B us P (i + 1) s = (match pm_st K V A B us P i s with
      | none => none
      | some s' => pm_run K V A B us P i s') := rfl
    rw [nx_m1]
    unfold wX_matches_41
    refine x_firstOf (pk_lt (w * 8 + i) (w * 8) (fun h => absurd h (by omega)) (fun _ => ⟨hin, ?_⟩))
    rw [hcl]
    refine nm_r (hcp i hi' has) ⟨hin, ?_⟩
    rw [e3]
    by_cases hk : pt_k P i ≤ 10
    · obtain ⟨ca, hca⟩ := hn.2.2.2.2.2.2.1 hk
      have hca' := hn.2.2.2.2.2.2.2.2.1 ca (Or.inl hca)
      have h98 : ∀ z : Int32, (z = 0 ↔ i + 1 ≠ pt_n P) → wX_matches_98 post (wX_matches_41 post (nI r) (nI w) (nI (w * 8 + (pt_n P - 1))) (i + 1)) (nI r) (nI w) (nI (w * 8 + (pt_n P - 1))) (nI (w * 8 + i)) z (nI (s.1 i)) (nI (w * 8 + i)) f_maxNodes f_maxRules f_ruleCount f_counterexample f_optimized f_nodeCount f_outputCount f_applications a_preRelation a_preVariable a_preConstant a_roomNeeded a_useCount a_treeSize a_treeKind a_treeValue a_treeA a_treeB a_treeResult a_constantValued a_maximal cp bn a_pending a_pendingCount a_nodeKind a_nodeValue a_nodeA a_nodeB a_nodeResult a_nodeUses a_outputNode a_seen a_order a_walkStack := by
        intro z hz
        unfold wX_matches_98
        refine x_opf (us := us) (by omega) hP hi' hk hG hg hT td (hu _ td).1 (hu _ td).2 hz hcp (fun hs cp' => br_t rfl (hno (by rw [hrun, hs]) cp' bn)) (fun s' cp' hs h2 hc' => br_f (by decide) (nm_e ?_))
        exact ih s' cp' bn (by omega) (pm_step hP hf hG hi' hinv hs) hc' (fun j hj' => by rw [h2]; exact hbn j hj') (fun h => hno (by rw [hrun, hs]; exact h)) (fun s2 cp2 bn2 h => hy s2 cp2 bn2 (by rw [hrun, hs]; exact h))
      rw [hca]
      refine br_f (pr_ne1 (by omega)) (pk_eq (w * 8 + i) (w * 8 + (pt_n P - 1)) (fun e => h98 1 ⟨fun h => absurd h (by decide), fun h => absurd (by omega) h⟩) (fun e => h98 0 ⟨fun _ h => e (by omega), fun _ => rfl⟩))
    · rw [hn.2.2.2.2.1 (by omega)]
      refine br_t rfl ?_
      refine x_leaf (us := us) (by omega) hP hi' (by omega) hG hg hT td (fun j d hd => pm_bd hinv hd) hbn (fun hs bn' => br_t rfl (hno (by rw [hrun, hs]) cp bn')) (fun s' bn' hs h1 hb' => br_f (by decide) (nm_e ?_))
      refine ih s' cp bn' (by omega) (pm_step hP hf hG hi' hinv hs) (fun q hq hq' => ?_) hb' (fun h => hno (by rw [hrun, hs]; exact h)) (fun s2 cp2 bn2 h => hy s2 cp2 bn2 (by rw [hrun, hs]; exact h))
      rw [h1]
      rcases pm_as_s hq' with y | y
      · exact hcp q hq y
      · rcases ((hP.2 q hq).2.2.2.2.2.2.2.2.2.2 i y).2.2 with z | z
        · rw [hn.2.2.2.2.1 (by omega)] at z
          cases z
        · rw [hn.2.2.2.2.2.1 (by omega)] at z
          cases z
theorem x_matches {post : Int32 → St2 → Prop} {r rl rj rK : Nat} (hr : r < 17) (hP : pt_ok P) (hf : pt_fin P) (hG : pr_gw 0 K V A B rk) (hg : gr_at 0 K V A B a_nodeKind a_nodeValue a_nodeA a_nodeB) (hT : tr_at ((r * 2 + 0) * 8) (r * 2 + 0) P a_treeSize a_treeKind a_treeValue a_treeA a_treeB) (hu : ∀ d, pr_T 0 K d → a_nodeUses d = nI (us d) ∧ us d < 2 ^ 31) (h4 : rl ≤ 4) (hj : rl ≠ 0 → rj < 2) (hpe : pe_at r rl rj rK a_preRelation a_preVariable a_preConstant) (tR : pr_T 0 K Rn)
    (hno : pm_run K V A B us P (pt_n P) (fun _ => Rn, fun _ => none) = none → ∀ cp' bn', post 0 (f_maxNodes, f_maxRules, f_ruleCount, f_counterexample, f_optimized, f_nodeCount, f_outputCount, f_applications, a_preRelation, a_preVariable, a_preConstant, a_roomNeeded, a_useCount, a_treeSize, a_treeKind, a_treeValue, a_treeA, a_treeB, a_treeResult, a_constantValued, a_maximal, cp', bn', a_pending, a_pendingCount, a_nodeKind, a_nodeValue, a_nodeA, a_nodeB, a_nodeResult, a_nodeUses, a_outputNode, a_seen, a_order, a_walkStack))
    (hy : ∀ s' cp' bn', pm_run K V A B us P (pt_n P) (fun _ => Rn, fun _ => none) = some s' → (∀ j, j < 2 → bn' j = pr_oI (s'.2 j)) → post (pr_b (pr_ph rl rj rK (bx_v V s'.2 0) (bx_v V s'.2 1))) (f_maxNodes, f_maxRules, f_ruleCount, f_counterexample, f_optimized, f_nodeCount, f_outputCount, f_applications, a_preRelation, a_preVariable, a_preConstant, a_roomNeeded, a_useCount, a_treeSize, a_treeKind, a_treeValue, a_treeA, a_treeB, a_treeResult, a_constantValued, a_maximal, cp', bn', a_pending, a_pendingCount, a_nodeKind, a_nodeValue, a_nodeA, a_nodeB, a_nodeResult, a_nodeUses, a_outputNode, a_seen, a_order, a_walkStack)) :
    wpX_matches post (f_maxNodes, f_maxRules, f_ruleCount, f_counterexample, f_optimized, f_nodeCount, f_outputCount, f_applications, a_preRelation, a_preVariable, a_preConstant, a_roomNeeded, a_useCount, a_treeSize, a_treeKind, a_treeValue, a_treeA, a_treeB, a_treeResult, a_constantValued, a_maximal, a_counterpart, a_boundNode, a_pending, a_pendingCount, a_nodeKind, a_nodeValue, a_nodeA, a_nodeB, a_nodeResult, a_nodeUses, a_outputNode, a_seen, a_order, a_walkStack) (nI r) (nI Rn) := by
  have h8 := hP.1
  have h0 := hf.1
  have e1 : nI ((r * 2 + 0) * 8 + pt_n P) - 1 = nI ((r * 2 + 0) * 8 + (pt_n P - 1)) := by
    rw [pr_s1 (by omega)]
    exact congrArg nI (by omega)
  have e2 : nI ((r * 2 + 0) * 8 + (pt_n P - 1)) = nI ((r * 2 + 0) * 8 + pt_n P) + (-1) := by
    rw [pr_m1 (by omega)]
    exact congrArg nI (by omega)
  unfold wpX_matches
  refine x_treeOf r 0 ?_
  refine x_endOf (by omega) hT.1 ?_
  refine nm_r e1 (nm_e (nm_e ⟨pk_in ((r * 2 + 0) * 8 + (pt_n P - 1)) 272 (by omega), ?_⟩))
  rw [nI_clamp (by omega)]
  refine nm_e ⟨pt_n P + 1, ?_⟩
  have := x_matches41 (w := r * 2 + 0) (Rn := Rn) (post := post) hr rfl hP hf hG hg hT hu h4 hj hpe (pt_n P) (fun _ => Rn, fun _ => none) (upd a_counterpart ((r * 2 + 0) * 8 + (pt_n P - 1)) (nI Rn)) (upd (upd a_boundNode 0 (-1)) 1 (-1)) (Nat.le_refl _) (pm_inv0 hf tR) (fun q hq hq' => by
    have e : q = pt_n P - 1 := by
      rcases hq' with y | ⟨p, y1, y2, _⟩
      · omega
      · omega
    rw [e, pk_us]) (fun j hj' => by
    have : j = 0 ∨ j = 1 := by omega
    rcases this with e | e
    · subst e
      rw [pk_un (by omega), pk_us]
      rfl
    · subst e
      rw [pk_us]
      rfl) hno hy
  rw [← e2] at this
  exact this
end XV
end
section
/-! X: applying a rule -/
section PIV
variable {K : Nat → Nat} {V : Nat → Int32} {A B : Nat → Option Nat} {us rk : Nat → Nat} {P R : pr_PT} {Rn : Nat} {bd : Nat → Option Nat} {m : Nat → Nat} {tv : Nat → Int32}
theorem pa_inv (hG : pr_gw 0 K V A B rk) (hP : pt_ok P) (hPf : pt_fin P) (hPr : pt_k P (pt_n P - 1) ≤ 10) (hR : pt_ok R) (h14 : ∀ i, i < pt_n R → pt_k R i ≠ 14)
    (hv : ∀ q, q < pt_n R → pt_k R q = 13 → ∃ p, p < pt_n P ∧ 13 ≤ pt_k P p ∧ pt_v P p = pt_v R q)
    (hm : pm_inv K V A B us P Rn 0 (m, bd)) {C : Nat → Bool} (hct : pr_ct K + pt_rm R C ≤ 32) (htv : ∀ q, q < pt_n R → pr_by (tv q)) :
    ∃ Lo β, ∀ i, i ≤ pt_n R → ∃ ρ, pb_inv K V A B rk bd R C Lo β i (pb_run R C tv bd i (K, V, A, B, fun _ => none)) ρ := by
  have hRk : 1 ≤ pt_n P := hPf.1
  have hbr : ∀ j y, bd j = some y → pr_T 0 K y ∧ rk y < rk Rn := by
    intro j y hj
    obtain ⟨q, _, h2, h3, h4, h5⟩ := hm.2.2.2 j y hj
    have hq := hm.2.1 q (by omega) h2
    replace h5 : m q = y := h5
    have hne : q + 1 ≠ pt_n P := by
      intro e
      rw [show pt_n P - 1 = q by omega] at hPr
      omega
    have hr := pm_rk hP hPf hG hm (pt_n P - 1 - q) q (by omega) hne
    replace hr : rk (m q) < rk Rn := hr
    rw [h5] at hr
    have ht := hq.1
    replace ht : pr_T 0 K (m q) := ht
    rw [h5] at ht
    exact ⟨ht, hr⟩
  have hlo : ∀ x, x ∈ pm_lo P m (pt_n P) → K x ≠ 0 := by
    intro x hx
    obtain ⟨p, h1, h2, h3⟩ := pm_lo_m.mp hx
    have := (hm.2.1 p (by omega) h1).1.2.2
    replace this : K (m p) ≠ 0 := this
    rw [h3] at this
    exact this
  have hbd : ∀ q, q < pt_n R → pt_k R q = 13 → ∃ y, bd (pt_v R q) = some y ∧ pr_T 0 K y ∧ 16 * rk y ≤ 16 * rk Rn - 16 := by
    intro q hq hk
    obtain ⟨p, h1, h2, h3⟩ := hv q hq hk
    have := ((hm.2.1 p (by omega) h1).2.2.1 h2).1
    replace this : bd (pt_v P p) = some (m p) := this
    rw [h3] at this
    have hb := hbr _ _ this
    exact ⟨_, this, hb.1, by omega⟩
  exact ⟨pm_lo P m (pt_n P), 16 * rk Rn - 16, pb_all (K0 := K) (V0 := V) (A0 := A) (B0 := B) (rk := rk) (bd := bd) (R := R) (C := C) (Lo := pm_lo P m (pt_n P)) (β := 16 * rk Rn - 16) (tv := tv) hR h14 hct hlo htv hbd rfl⟩
end PIV
theorem pb_ch {R : pr_PT} {C : Nat → Bool} (hR : pt_ok R) {i c : Nat} (hi : i < pt_n R) (hc : pt_cv R C i = false) (h : pt_a R i = some c ∨ pt_b R i = some c) : ¬ pb_sk R C c ∧ c < i := by
  have h9 := (hR.2 i hi).2.2.2.2.2.2.2.2.1 c h
  refine ⟨fun hs => ?_, h9.1⟩
  have := hs.2
  unfold pt_mx at this
  rw [hs.1, h9.2] at this
  replace this : (true && !pt_cv R C i) = false := this
  rw [hc] at this
  cases this
theorem pr_fr_le (K : Nat → Nat) : pr_fr K < 32 := by
  have : ∀ f s, pr_lf K f s ≤ s + f := by
    intro f
    induction f with
    | zero => intro s; exact Nat.le_refl _
    | succ f ih =>
      intro s
      show (if K s = 0 then s else pr_lf K f (s + 1)) ≤ s + (f + 1)
      by_cases h : K s = 0
      · rw [if_pos h]
        omega
      · rw [if_neg h]
        have := ih (s + 1)
        omega
  have := this 31 0
  show pr_lf K 31 0 < 32
  omega
/-- what is known of a graph in the making -/
def pb_fx (R : pr_PT) (C : Nat → Bool) (i : Nat) (s : pb_S) : Prop := (∀ n, n < 32 → s.1 n < 100) ∧ ∀ q, q < i → ¬ pb_sk R C q → ∃ z, s.2.2.2.2 q = some z ∧ z < 32
theorem pb_fx_of {K0 : Nat → Nat} {V0 : Nat → Int32} {A0 B0 : Nat → Option Nat} {rk : Nat → Nat} {bd : Nat → Option Nat} {R : pr_PT} {C : Nat → Bool} {Lo : List Nat} {β i : Nat} {s : pb_S} {ρ : Nat → Nat} (hG : pr_gw 0 K0 V0 A0 B0 rk) (h : pb_inv K0 V0 A0 B0 rk bd R C Lo β i s ρ) : pb_fx R C i s := by
  obtain ⟨h1, h2, h3, h4, h5⟩ := h
  refine ⟨fun n hn => ?_, fun q hq hq' => ?_⟩
  · by_cases hK : K0 n = 0
    · by_cases hs : s.1 n = 0
      · rw [hs]
        omega
      · have := (h2 n hK hs).2.1
        omega
    · rw [(h1 n hK).1]
      have := (hG n ⟨by omega, by omega, hK⟩).1
      omega
  · obtain ⟨y, y1, y2, _⟩ := h3 q hq hq'
    exact ⟨y, y1, by have := y2.2.1; omega⟩
/-- the arrays of X while a replacement is built -/
def xb_at (w : Nat) (R : pr_PT) (C : Nat → Bool) (i : Nat) (s : pb_S) (nk0 nv0 na0 nb0 nk nv na nb cp : Nat → Int32) : Prop :=
  (∀ n, n < 32 → nk n = nI (s.1 n)) ∧ gr_at 0 s.1 s.2.1 s.2.2.1 s.2.2.2.1 nk nv na nb ∧ (∀ n, 32 ≤ n → nk n = nk0 n ∧ nv n = nv0 n ∧ na n = na0 n ∧ nb n = nb0 n) ∧ ∀ q, q < i → ¬ pb_sk R C q → cp (w * 8 + q) = pr_oI (s.2.2.2.2 q)
theorem xb_new {w i κ : Nat} {R : pr_PT} {C : Nat → Bool} {s : pb_S} {x : Int32} {a b : Option Nat} {nk0 nv0 na0 nb0 nk nv na nb cp : Nat → Int32} (h : xb_at w R C i s nk0 nv0 na0 nb0 nk nv na nb cp) :
    xb_at w R C (i + 1) (pb_new i κ x a b s) nk0 nv0 na0 nb0 (upd nk (pr_fr s.1) (nI κ)) (upd nv (pr_fr s.1) x) (upd na (pr_fr s.1) (pr_oI a)) (upd nb (pr_fr s.1) (pr_oI b)) (upd cp (w * 8 + i) (nI (pr_fr s.1))) := by
  obtain ⟨h1, h2, h3, h4⟩ := h
  have hfr := pr_fr_le s.1
  refine ⟨fun n hn => ?_, fun n hn => ?_, fun n hn => ?_, fun q hq hq' => ?_⟩
  · show upd nk (pr_fr s.1) (nI κ) n = nI (pr_st s.1 (pr_fr s.1) κ n)
    by_cases e : n = pr_fr s.1
    · rw [e, pk_us, pr_st_s]
    · rw [pk_un e, pr_st_n e]
      exact h1 n hn
  · show upd nk (pr_fr s.1) (nI κ) n = nI (pr_st s.1 (pr_fr s.1) κ n) ∧ upd nv (pr_fr s.1) x n = pr_st s.2.1 (pr_fr s.1) x n ∧ upd na (pr_fr s.1) (pr_oI a) n = pr_oI (pr_st s.2.2.1 (pr_fr s.1) a n) ∧ upd nb (pr_fr s.1) (pr_oI b) n = pr_oI (pr_st s.2.2.2.1 (pr_fr s.1) b n)
    by_cases e : n = pr_fr s.1
    · rw [e, pk_us, pk_us, pk_us, pk_us, pr_st_s, pr_st_s, pr_st_s, pr_st_s]
      exact ⟨rfl, rfl, rfl, rfl⟩
    · rw [pk_un e, pk_un e, pk_un e, pk_un e, pr_st_n e, pr_st_n e, pr_st_n e, pr_st_n e]
      refine h2 n ⟨hn.1, hn.2.1, ?_⟩
      have := hn.2.2
      replace this : pr_st s.1 (pr_fr s.1) κ n ≠ 0 := this
      rw [pr_st_n e] at this
      exact this
  · rw [pk_un (by omega), pk_un (by omega), pk_un (by omega), pk_un (by omega)]
    exact h3 n hn
  · show upd cp (w * 8 + i) (nI (pr_fr s.1)) (w * 8 + q) = pr_oI (pr_st s.2.2.2.2 i (some (pr_fr s.1)) q)
    by_cases e : q = i
    · rw [e, pk_us, pr_st_s]
      rfl
    · rw [pk_un (by omega), pr_st_n e]
      exact h4 q (by omega) hq'
section XW
variable {f_maxNodes f_maxRules f_ruleCount f_counterexample f_optimized f_nodeCount f_outputCount f_applications : Int32} {a_preRelation a_preVariable a_preConstant a_roomNeeded a_useCount a_treeSize a_treeKind a_treeValue a_treeA a_treeB a_treeResult a_constantValued a_maximal a_counterpart a_boundNode a_pending a_pendingCount a_nodeKind a_nodeValue a_nodeA a_nodeB a_nodeResult a_nodeUses a_outputNode a_seen a_order a_walkStack : Nat → Int32}
variable {R : pr_PT} {C : Nat → Bool} {tv : Nat → Int32} {bd : Nat → Option Nat} {w : Nat} {nk0 nv0 na0 nb0 : Nat → Int32}
theorem x_freeNode {post : Int32 → Prop} {K : Nat → Nat} (hk : ∀ n, n < 32 → a_nodeKind n = nI (K n)) (hK : ∀ n, n < 32 → K n < 100) (h : post (nI (pr_fr K))) : wpX_freeNode post (f_maxNodes, f_maxRules, f_ruleCount, f_counterexample, f_optimized, f_nodeCount, f_outputCount, f_applications, a_preRelation, a_preVariable, a_preConstant, a_roomNeeded, a_useCount, a_treeSize, a_treeKind, a_treeValue, a_treeA, a_treeB, a_treeResult, a_constantValued, a_maximal, a_counterpart, a_boundNode, a_pending, a_pendingCount, a_nodeKind, a_nodeValue, a_nodeA, a_nodeB, a_nodeResult, a_nodeUses, a_outputNode, a_seen, a_order, a_walkStack) := by
  have l : ∀ f s, s + f = 31 → post (nI (pr_lf K f s)) → wX_freeNode_2 post f_maxNodes f_maxRules f_ruleCount f_counterexample f_optimized f_nodeCount f_outputCount f_applications a_preRelation a_preVariable a_preConstant a_roomNeeded a_useCount a_treeSize a_treeKind a_treeValue a_treeA a_treeB a_treeResult a_constantValued a_maximal a_counterpart a_boundNode a_pending a_pendingCount a_nodeKind a_nodeValue a_nodeA a_nodeB a_nodeResult a_nodeUses a_outputNode a_seen a_order a_walkStack (f + 1) (nI s) := by
    intro f
    induction f with
    | zero =>
      intro s hs h
      have e : s = 31 := by omega
      subst e
      exact pk_le 31 31 (fun _ => h) (fun h => absurd h (by omega))
    | succ f ih =>
      intro s hs h
      replace h : post (nI (if K s = 0 then s else pr_lf K f (s + 1))) := h
      have := hK s (by omega)
      refine pk_le 31 s (fun h => absurd h (by omega)) (fun _ => ⟨pk_in s 64 (by omega), ?_⟩)
      rw [nI_clamp (by omega), hk s (by omega)]
      refine pk_eq (K s) 0 (fun e => ?_) (fun e => nm_r (nI_1 _) (ih (s + 1) (by omega) ?_))
      · rw [if_pos e] at h
        exact h
      · rw [if_neg e] at h
        exact h
  exact ⟨32, l 31 0 (by omega) h⟩
theorem x_buildNode {post : Int32 → St2 → Prop} {i : Nat} {s : pb_S} (hw : w < 34) (hR : pt_ok R) (h14 : ∀ i, i < pt_n R → pt_k R i ≠ 14) (hi : i < pt_n R) (hU : tr_at (w * 8) w R a_treeSize a_treeKind a_treeValue a_treeA a_treeB) (hcv : ∀ q, q < pt_n R → a_constantValued (w * 8 + q) = pr_b (pt_cv R C q)) (hmx : ∀ q, q < pt_n R → a_maximal (w * 8 + q) = pr_b (pt_mx R C q)) (htr : ∀ q, q < pt_n R → pt_cv R C q = true → a_treeResult (w * 8 + q) = tv q) (hbn : ∀ j, j < 2 → a_boundNode j = pr_oI (bd j))
    (hfx : pb_fx R C i s) (hb : xb_at w R C i s nk0 nv0 na0 nb0 a_nodeKind a_nodeValue a_nodeA a_nodeB a_counterpart)
    (h : ∀ r nk nv na nb, xb_at w R C (i + 1) (pb_st R C tv bd i s) nk0 nv0 na0 nb0 nk nv na nb (upd a_counterpart (w * 8 + i) r) → post r (f_maxNodes, f_maxRules, f_ruleCount, f_counterexample, f_optimized, f_nodeCount, f_outputCount, f_applications, a_preRelation, a_preVariable, a_preConstant, a_roomNeeded, a_useCount, a_treeSize, a_treeKind, a_treeValue, a_treeA, a_treeB, a_treeResult, a_constantValued, a_maximal, a_counterpart, a_boundNode, a_pending, a_pendingCount, nk, nv, na, nb, a_nodeResult, a_nodeUses, a_outputNode, a_seen, a_order, a_walkStack)) : wpX_buildNode post (f_maxNodes, f_maxRules, f_ruleCount, f_counterexample, f_optimized, f_nodeCount, f_outputCount, f_applications, a_preRelation, a_preVariable, a_preConstant, a_roomNeeded, a_useCount, a_treeSize, a_treeKind, a_treeValue, a_treeA, a_treeB, a_treeResult, a_constantValued, a_maximal, a_counterpart, a_boundNode, a_pending, a_pendingCount, a_nodeKind, a_nodeValue, a_nodeA, a_nodeB, a_nodeResult, a_nodeUses, a_outputNode, a_seen, a_order, a_walkStack) (nI (w * 8 + i)) := by
  have h8 := hR.1
  obtain ⟨e1, e2, e3, e4⟩ := hU.2 i hi
  have hn := hR.2 i hi
  have h9 := hn.2.2.2.2.2.2.2.2.1
  have hs := pt_sm hR i hi
  have hin : vp_in (nI (w * 8 + i)) 272 := pk_in (w * 8 + i) 272 (by omega)
  have hcl : (nI (w * 8 + i)).toNatClampNeg = w * 8 + i := nI_clamp (by omega)
  have hfr := pr_fr_le s.1
  unfold pb_st at h
  unfold wpX_buildNode
  refine ⟨hin, ?_⟩
  rw [hcl, e1, e2, hcv i hi, hmx i hi]
  refine pk_eq (pt_k R i) 13 (fun h13 => ⟨hin, ?_⟩) (fun n13 => ⟨hin, ?_⟩)
  · have hv2 := hn.2.2.1 (by omega)
    refine ⟨pk_in (pt_v R i) 2 hv2, ?_⟩
    rw [nI_clamp (by omega), hbn _ hv2]
    refine h _ a_nodeKind a_nodeValue a_nodeA a_nodeB ?_
    by_cases hsk : pt_cv R C i = true ∧ pt_mx R C i = false
    · rw [if_pos hsk]
      refine ⟨hb.1, hb.2.1, hb.2.2.1, fun q hq hq' => ?_⟩
      have e : q ≠ i := fun e => hq' (by rw [e]; exact hsk)
      rw [pk_un (by omega)]
      exact hb.2.2.2 q (by omega) hq'
    · rw [if_neg hsk, if_pos h13]
      refine ⟨hb.1, hb.2.1, hb.2.2.1, fun q hq hq' => ?_⟩
      show _ = pr_oI (pr_st s.2.2.2.2 i (bd (pt_v R i)) q)
      by_cases e : q = i
      · rw [e, pk_us, pr_st_s]
      · rw [pk_un (by omega), pr_st_n e]
        exact hb.2.2.2 q (by omega) hq'
  · rw [if_neg n13] at h
    have h43 : ¬ (pt_cv R C i = true ∧ pt_mx R C i = false) → wX_buildNode_43 post (nI (w * 8 + i)) f_maxNodes f_maxRules f_ruleCount f_counterexample f_optimized f_nodeCount f_outputCount f_applications a_preRelation a_preVariable a_preConstant a_roomNeeded a_useCount a_treeSize a_treeKind a_treeValue a_treeA a_treeB a_treeResult a_constantValued a_maximal a_counterpart a_boundNode a_pending a_pendingCount a_nodeKind a_nodeValue a_nodeA a_nodeB a_nodeResult a_nodeUses a_outputNode a_seen a_order a_walkStack := by
      intro hsk
      rw [if_neg hsk] at h
      unfold wX_buildNode_43
      refine x_freeNode hb.1 hfx.1 ⟨hin, ?_⟩
      rw [hcl, hcv i hi]
      refine br_c (fun h0 => ⟨hin, ?_⟩) (fun h0 => ⟨hin, ?_⟩)
      · have hc := (pr_b0 _).mp h0
        rw [if_neg (by rw [hc]; decide)] at h
        have hk10 : pt_k R i ≤ 10 := by
          apply Classical.byContradiction
          intro hk
          have h11 : pt_k R i = 11 := by
            have := hn.1
            have := h14 i hi
            omega
          rw [pt_cv_eq hR hi] at hc
          unfold pt_cF at hc
          rw [if_neg n13, hn.2.2.2.2.1 (by omega), hn.2.2.2.2.2.1 (by omega)] at hc
          cases hc
        obtain ⟨ca, hca⟩ := hn.2.2.2.2.2.2.1 hk10
        have pa := pb_ch (C := C) hR hi hc (Or.inl hca)
        have h100 : ∀ z, z = pr_oI (pr_or s.2.2.2.2 (pt_b R i)) → wX_buildNode_100 post (nI (w * 8 + i)) (nI (pr_fr s.1)) z f_maxNodes f_maxRules f_ruleCount f_counterexample f_optimized f_nodeCount f_outputCount f_applications a_preRelation a_preVariable a_preConstant a_roomNeeded a_useCount a_treeSize a_treeKind a_treeValue a_treeA a_treeB a_treeResult a_constantValued a_maximal a_counterpart a_boundNode a_pending a_pendingCount a_nodeKind a_nodeValue a_nodeA a_nodeB a_nodeResult a_nodeUses a_outputNode a_seen a_order a_walkStack := by
          intro z hz
          subst hz
          refine ⟨hin, hin, ?_⟩
          rw [hcl, e1, e3, hca]
          refine ⟨pk_in (w * 8 + ca) 272 (by omega), ?_⟩
          rw [show (pr_oX (w * 8) (some ca)).toNatClampNeg = w * 8 + ca from nI_clamp (by omega), hb.2.2.2 ca pa.2 pa.1]
          refine x_setNode2 (by omega) (h _ _ _ _ _ ?_)
          rw [hca]
          exact xb_new hb
        rw [e4]
        cases hbb : pt_b R i with
        | none => exact br_t rfl (h100 _ (by rw [hbb]; rfl))
        | some cb =>
          have pbb := pb_ch (C := C) hR hi hc (Or.inr hbb)
          refine br_f (pr_ne1 (by omega)) ⟨hin, pk_in (w * 8 + cb) 272 (by omega), ?_⟩
          rw [show (pr_oX (w * 8) (some cb)).toNatClampNeg = w * 8 + cb from nI_clamp (by omega)]
          exact h100 _ (by rw [hbb, hb.2.2.2 cb pbb.2 pbb.1]; rfl)
      · have hc : pt_cv R C i = true := by
          cases hx : pt_cv R C i with
          | true => rfl
          | false => rw [hx] at h0; exact absurd rfl h0
        rw [if_pos hc] at h
        rw [htr i hi hc]
        exact x_setNode2 (by omega) (h _ _ _ _ _ (xb_new (κ := 11) (a := none) (b := none) hb))
    refine br_c (fun h0 => h43 fun hh => ?_) (fun h0 => ⟨hin, br_c (fun h1 => ?_) (fun h1 => h43 fun hh => ?_)⟩)
    · rw [hh.1] at h0
      exact absurd h0 (by decide)
    · have hc : pt_cv R C i = true := by
        cases hx : pt_cv R C i with
        | true => rfl
        | false => rw [hx] at h0; exact absurd rfl h0
      have hsk : pt_cv R C i = true ∧ pt_mx R C i = false := ⟨hc, (pr_b0 _).mp h1⟩
      refine h _ a_nodeKind a_nodeValue a_nodeA a_nodeB ?_
      rw [if_pos hsk]
      refine ⟨hb.1, hb.2.1, hb.2.2.1, fun q hq hq' => ?_⟩
      have e : q ≠ i := fun e => hq' (by rw [e]; exact hsk)
      rw [pk_un (by omega)]
      exact hb.2.2.2 q (by omega) hq'
    · rw [hh.2] at h1
      exact h1 rfl
theorem x_redirect {post : St2 → Prop} {oc Rn y : Nat} (hoc : oc ≤ 4)
    (h : ∀ na nb ou, (∀ n, na n = if n < 32 ∧ a_nodeA n = nI Rn then nI y else a_nodeA n) → (∀ n, nb n = if n < 32 ∧ a_nodeB n = nI Rn then nI y else a_nodeB n) → (∀ k, ou k = if k < oc ∧ a_outputNode k = nI Rn then nI y else a_outputNode k) → post (f_maxNodes, f_maxRules, f_ruleCount, f_counterexample, f_optimized, f_nodeCount, (nI oc), f_applications, a_preRelation, a_preVariable, a_preConstant, a_roomNeeded, a_useCount, a_treeSize, a_treeKind, a_treeValue, a_treeA, a_treeB, a_treeResult, a_constantValued, a_maximal, a_counterpart, a_boundNode, a_pending, a_pendingCount, a_nodeKind, a_nodeValue, na, nb, a_nodeResult, a_nodeUses, ou, a_seen, a_order, a_walkStack)) :
    wpX_redirect post (f_maxNodes, f_maxRules, f_ruleCount, f_counterexample, f_optimized, f_nodeCount, (nI oc), f_applications, a_preRelation, a_preVariable, a_preConstant, a_roomNeeded, a_useCount, a_treeSize, a_treeKind, a_treeValue, a_treeA, a_treeB, a_treeResult, a_constantValued, a_maximal, a_counterpart, a_boundNode, a_pending, a_pendingCount, a_nodeKind, a_nodeValue, a_nodeA, a_nodeB, a_nodeResult, a_nodeUses, a_outputNode, a_seen, a_order, a_walkStack) (nI Rn) (nI y) := by
  have l50 : ∀ na nb d i ou, (∀ ou', (∀ k, ou' k = if k < oc ∧ a_outputNode k = nI Rn then nI y else a_outputNode k) → post (f_maxNodes, f_maxRules, f_ruleCount, f_counterexample, f_optimized, f_nodeCount, (nI oc), f_applications, a_preRelation, a_preVariable, a_preConstant, a_roomNeeded, a_useCount, a_treeSize, a_treeKind, a_treeValue, a_treeA, a_treeB, a_treeResult, a_constantValued, a_maximal, a_counterpart, a_boundNode, a_pending, a_pendingCount, a_nodeKind, a_nodeValue, na, nb, a_nodeResult, a_nodeUses, ou', a_seen, a_order, a_walkStack)) → i + d = oc → (∀ k, ou k = if k < i ∧ a_outputNode k = nI Rn then nI y else a_outputNode k) → wX_redirect_50 post (nI Rn) (nI y) f_maxNodes f_maxRules f_ruleCount f_counterexample f_optimized f_nodeCount (nI oc) f_applications (d + 1) (nI i) a_preRelation a_preVariable a_preConstant a_roomNeeded a_useCount a_treeSize a_treeKind a_treeValue a_treeA a_treeB a_treeResult a_constantValued a_maximal a_counterpart a_boundNode a_pending a_pendingCount a_nodeKind a_nodeValue na nb a_nodeResult a_nodeUses ou a_seen a_order a_walkStack := by
    intro na nb d
    induction d with
    | zero =>
      intro i ou h hi ho
      have e : i = oc := by omega
      subst e
      exact pk_le i i (fun _ => h ou ho) (fun h => absurd h (by omega))
    | succ d ih =>
      intro i ou h hi ho
      have ei : ou i = a_outputNode i := by
        rw [ho i, if_neg (fun hh => absurd hh.1 (by omega))]
      refine pk_le oc i (fun h => absurd h (by omega)) (fun _ => ⟨pk_in i 8 (by omega), ?_⟩)
      rw [nI_clamp (by omega), ei]
      refine br_c (fun e => ⟨pk_in i 8 (by omega), nm_e (nm_r (nI_1 _) (ih (i + 1) _ h (by omega) fun k => ?_))⟩) (fun e => nm_r (nI_1 _) (ih (i + 1) ou h (by omega) fun k => ?_))
      · by_cases ek : k = i
        · rw [ek, pk_us, if_pos ⟨by omega, e⟩]
        · rw [pk_un ek, ho k]
          by_cases hc : k < i ∧ a_outputNode k = nI Rn
          · rw [if_pos hc, if_pos ⟨by omega, hc.2⟩]
          · rw [if_neg hc, if_neg (fun hh => hc ⟨by omega, hh.2⟩)]
      · rw [ho k]
        by_cases hc : k < i ∧ a_outputNode k = nI Rn
        · rw [if_pos hc, if_pos ⟨by omega, hc.2⟩]
        · rw [if_neg hc, if_neg (fun hh => hc ⟨?_, hh.2⟩)]
          have : k ≠ i := fun hx => e (by rw [← hx]; exact hh.2)
          omega
  have l2 : ∀ d i na nb, i + d = 32 → (∀ n, na n = if n < i ∧ a_nodeA n = nI Rn then nI y else a_nodeA n) → (∀ n, nb n = if n < i ∧ a_nodeB n = nI Rn then nI y else a_nodeB n) → wX_redirect_2 post (nI Rn) (nI y) f_maxNodes f_maxRules f_ruleCount f_counterexample f_optimized f_nodeCount (nI oc) f_applications (d + 1) (nI i) a_preRelation a_preVariable a_preConstant a_roomNeeded a_useCount a_treeSize a_treeKind a_treeValue a_treeA a_treeB a_treeResult a_constantValued a_maximal a_counterpart a_boundNode a_pending a_pendingCount a_nodeKind a_nodeValue na nb a_nodeResult a_nodeUses a_outputNode a_seen a_order a_walkStack := by
    intro d
    have up : ∀ (f g : Nat → Int32) (i : Nat), (∀ n, f n = if n < i ∧ g n = nI Rn then nI y else g n) → (g i = nI Rn → ∀ n, upd f i (nI y) n = if n < i + 1 ∧ g n = nI Rn then nI y else g n) ∧ (¬ g i = nI Rn → ∀ n, f n = if n < i + 1 ∧ g n = nI Rn then nI y else g n) := by
      intro f g i hf
      constructor
      · intro e n
        by_cases en : n = i
        · rw [en, pk_us, if_pos ⟨by omega, e⟩]
        · rw [pk_un en, hf n]
          by_cases hc : n < i ∧ g n = nI Rn
          · rw [if_pos hc, if_pos ⟨by omega, hc.2⟩]
          · rw [if_neg hc, if_neg (fun hh => hc ⟨by omega, hh.2⟩)]
      · intro e n
        rw [hf n]
        by_cases hc : n < i ∧ g n = nI Rn
        · rw [if_pos hc, if_pos ⟨by omega, hc.2⟩]
        · rw [if_neg hc, if_neg (fun hh => hc ⟨?_, hh.2⟩)]
          have : n ≠ i := fun hx => e (by rw [← hx]; exact hh.2)
          omega
    induction d with
    | zero =>
      intro i na nb hi h1 h2
      have e : i = 32 := by omega
      subst e
      exact pk_le 32 32 (fun _ => ⟨oc + 1, l50 na nb oc 0 a_outputNode (fun ou' ho => h na nb ou' h1 h2 ho) (by omega) (fun k => by rw [if_neg (fun hh => absurd hh.1 (by omega))])⟩) (fun h => absurd h (by omega))
    | succ d ih =>
      intro i na nb hi h1 h2
      have hin : vp_in (nI i) 64 := pk_in i 64 (by omega)
      have hcl : (nI i).toNatClampNeg = i := nI_clamp (by omega)
      have ea : na i = a_nodeA i := by
        rw [h1 i, if_neg (fun hh => absurd hh.1 (by omega))]
      have eb : nb i = a_nodeB i := by
        rw [h2 i, if_neg (fun hh => absurd hh.1 (by omega))]
      have h25 : ∀ na', (∀ n, na' n = if n < i + 1 ∧ a_nodeA n = nI Rn then nI y else a_nodeA n) → wX_redirect_25 post (wX_redirect_2 post (nI Rn) (nI y) f_maxNodes f_maxRules f_ruleCount f_counterexample f_optimized f_nodeCount (nI oc) f_applications (d + 1)) (nI Rn) (nI y) (nI i) f_maxNodes f_maxRules f_ruleCount f_counterexample f_optimized f_nodeCount (nI oc) f_applications a_preRelation a_preVariable a_preConstant a_roomNeeded a_useCount a_treeSize a_treeKind a_treeValue a_treeA a_treeB a_treeResult a_constantValued a_maximal a_counterpart a_boundNode a_pending a_pendingCount a_nodeKind a_nodeValue na' nb a_nodeResult a_nodeUses a_outputNode a_seen a_order a_walkStack := by
        intro na' hn'
        refine ⟨hin, ?_⟩
        rw [hcl, eb]
        exact br_c (fun e => ⟨hin, nm_e (nm_r (nI_1 _) (ih (i + 1) na' _ (by omega) hn' ((up nb a_nodeB i h2).1 e)))⟩) (fun e => nm_r (nI_1 _) (ih (i + 1) na' nb (by omega) hn' ((up nb a_nodeB i h2).2 e)))
      refine pk_le 32 i (fun h => absurd h (by omega)) (fun _ => ⟨hin, ?_⟩)
      rw [hcl, ea]
      exact br_c (fun e => ⟨hin, nm_e (h25 _ ((up na a_nodeA i h1).1 e))⟩) (fun e => h25 na ((up na a_nodeA i h1).2 e))
  exact ⟨33, l2 32 0 a_nodeA a_nodeB (by omega) (fun n => by rw [if_neg (fun hh => absurd hh.1 (by omega))]) (fun n => by rw [if_neg (fun hh => absurd hh.1 (by omega))])⟩
end XW
end
section
/-! X: applyRule -/
theorem pr_root_ns {R : pr_PT} {C : Nat → Bool} (hRf : pt_fin R) : ¬ pb_sk R C (pt_n R - 1) := by
  intro hsk
  have := hsk.2
  unfold pt_mx at this
  rw [hsk.1, hRf.2.1] at this
  cases this
theorem pr_oI_rd {Rn y n : Nat} {f : Nat → Option Nat} {g : Nat → Int32} (hn : n < 32) (hR : Rn < 2 ^ 31) (hc : ∀ c, f n = some c → c < 2 ^ 31) (hg : g n = pr_oI (f n)) : (if n < 32 ∧ g n = nI Rn then nI y else g n) = pr_oI (pa_A Rn y f n) := by
  unfold pa_A
  rw [if_pos hn]
  unfold pr_rd
  rw [hg]
  cases e : f n with
  | none =>
    rw [if_neg (fun hh => pr_ne1 hR hh.2.symm), if_neg (fun h => (nomatch h))]
  | some c =>
    by_cases ec : c = Rn
    · subst ec
      rw [if_pos ⟨hn, rfl⟩, if_pos rfl]
      rfl
    · rw [if_neg (fun hh => ec (pr_im hh.2 (hc c e) hR)), if_neg (fun h => ec (Option.some.inj h))]
section XX
variable {f_maxNodes f_maxRules f_ruleCount f_counterexample f_optimized f_nodeCount f_outputCount f_applications : Int32} {a_preRelation a_preVariable a_preConstant a_roomNeeded a_useCount a_treeSize a_treeKind a_treeValue a_treeA a_treeB a_treeResult a_constantValued a_maximal a_counterpart a_boundNode a_pending a_pendingCount a_nodeKind a_nodeValue a_nodeA a_nodeB a_nodeResult a_nodeUses a_outputNode a_seen a_order a_walkStack : Nat → Int32}
variable {K : Nat → Nat} {V : Nat → Int32} {A B : Nat → Option Nat} {O : Nat → Nat} {R : pr_PT} {C : Nat → Bool} {tv : Nat → Int32} {bd : Nat → Option Nat}
theorem x_applyRule {post : St2 → Prop} {r oc Rn y : Nat} {s : pb_S} (hr : r < 17) (hoc : oc ≤ 4) (hRn : Rn < 32) (hR : pt_ok R) (hRf : pt_fin R) (h14 : ∀ i, i < pt_n R → pt_k R i ≠ 14) (hU : tr_at ((r * 2 + 1) * 8) (r * 2 + 1) R a_treeSize a_treeKind a_treeValue a_treeA a_treeB) (hcv : ∀ q, q < pt_n R → a_constantValued ((r * 2 + 1) * 8 + q) = pr_b (pt_cv R C q)) (hmx : ∀ q, q < pt_n R → a_maximal ((r * 2 + 1) * 8 + q) = pr_b (pt_mx R C q)) (hbn : ∀ j, j < 2 → a_boundNode j = pr_oI (bd j)) (hbT : ∀ j d, bd j = some d → pr_T 0 K d)
    (hg : gr_at 0 K V A B a_nodeKind a_nodeValue a_nodeA a_nodeB) (hk : ∀ n, n < 32 → a_nodeKind n = nI (K n)) (htv : ∀ q, q < pt_n R → pt_cv R C q = true → pt_tv R (bx_v V bd 0) (bx_v V bd 1) q = tv q) (hfx : ∀ i, i ≤ pt_n R → pb_fx R C i (pb_run R C tv bd i (K, V, A, B, fun _ => none))) (hs : s = pb_run R C tv bd (pt_n R) (K, V, A, B, fun _ => none)) (hy : s.2.2.2.2 (pt_n R - 1) = some y) (hy32 : y < 32)
    (hop : ∀ n c, pr_T 0 s.1 n → (s.2.2.1 n = some c ∨ s.2.2.2.1 n = some c) → c < 32) (hO : ∀ k, k < oc → O k < 32 ∧ a_outputNode k = nI (O k))
    (h : ∀ nk nv na nb ou tr cp, gr_at 0 s.1 s.2.1 (pa_A Rn y s.2.2.1) (pa_A Rn y s.2.2.2.1) nk nv na nb → (∀ n, 32 ≤ n → nk n = a_nodeKind n ∧ nv n = a_nodeValue n ∧ na n = a_nodeA n ∧ nb n = a_nodeB n) → (∀ k, k < oc → ou k = nI (pa_O Rn y oc O k)) → (∀ k, 4 ≤ k → ou k = a_outputNode k) → post (f_maxNodes, f_maxRules, f_ruleCount, f_counterexample, f_optimized, f_nodeCount, (nI oc), (f_applications + 1), a_preRelation, a_preVariable, a_preConstant, a_roomNeeded, (upd a_useCount r (a_useCount r + 1)), a_treeSize, a_treeKind, a_treeValue, a_treeA, a_treeB, tr, a_constantValued, a_maximal, cp, a_boundNode, a_pending, a_pendingCount, nk, nv, na, nb, a_nodeResult, a_nodeUses, ou, a_seen, a_order, a_walkStack)) :
    wpX_applyRule post (f_maxNodes, f_maxRules, f_ruleCount, f_counterexample, f_optimized, f_nodeCount, (nI oc), f_applications, a_preRelation, a_preVariable, a_preConstant, a_roomNeeded, a_useCount, a_treeSize, a_treeKind, a_treeValue, a_treeA, a_treeB, a_treeResult, a_constantValued, a_maximal, a_counterpart, a_boundNode, a_pending, a_pendingCount, a_nodeKind, a_nodeValue, a_nodeA, a_nodeB, a_nodeResult, a_nodeUses, a_outputNode, a_seen, a_order, a_walkStack) (nI r) (nI Rn) := by
  have h8 := hR.1
  have h0 := hRf.1
  have l43 : ∀ tr, (∀ q, q < pt_n R → tr ((r * 2 + 1) * 8 + q) = pt_tv R (bx_v V bd 0) (bx_v V bd 1) q) → ∀ d i nk nv na nb cp, i + d = pt_n R → xb_at (r * 2 + 1) R C i (pb_run R C tv bd i (K, V, A, B, fun _ => none)) a_nodeKind a_nodeValue a_nodeA a_nodeB nk nv na nb cp → wX_applyRule_43 post (nI r) (nI Rn) (nI ((r * 2 + 1) * 8 + pt_n R)) (d + 1) (nI ((r * 2 + 1) * 8 + i)) f_maxNodes f_maxRules f_ruleCount f_counterexample f_optimized f_nodeCount (nI oc) f_applications a_preRelation a_preVariable a_preConstant a_roomNeeded a_useCount a_treeSize a_treeKind a_treeValue a_treeA a_treeB tr a_constantValued a_maximal cp a_boundNode a_pending a_pendingCount nk nv na nb a_nodeResult a_nodeUses a_outputNode a_seen a_order a_walkStack := by
    intro tr htr d
    induction d with
    | zero =>
      intro i nk nv na nb cp hi hb
      have ei : i = pt_n R := by omega
      subst ei
      rw [← hs] at hb
      refine pk_le ((r * 2 + 1) * 8 + pt_n R) ((r * 2 + 1) * 8 + pt_n R) (fun _ => ?_) (fun h => absurd h (by omega))
      have e1 : nI ((r * 2 + 1) * 8 + pt_n R) - 1 = nI ((r * 2 + 1) * 8 + (pt_n R - 1)) := by
        rw [pr_s1 (by omega)]
        exact congrArg nI (by omega)
      rw [e1]
      refine ⟨pk_in ((r * 2 + 1) * 8 + (pt_n R - 1)) 272 (by omega), ?_⟩
      rw [nI_clamp (n := (r * 2 + 1) * 8 + (pt_n R - 1)) (by omega), hb.2.2.2 (pt_n R - 1) (by omega) (pr_root_ns hRf), hy]
      have hinr : vp_in (nI r) 17 := pk_in r 17 hr
      refine x_redirect (y := y) hoc (fun na' nb' ou' k1 k2 k3 => nm_e ⟨hinr, hinr, ?_⟩)
      rw [nI_clamp (by omega)]
      refine nm_e (h nk nv na' nb' ou' tr cp (fun n hn => ?_) (fun n hn => ?_) (fun k hk => ?_) (fun k hk => ?_))
      · obtain ⟨z1, z2, z3, z4⟩ := hb.2.1 n hn
        have hn32 : n < 32 := by have := hn.2.1; omega
        refine ⟨z1, z2, ?_, ?_⟩
        · rw [k1 n]
          exact pr_oI_rd hn32 (by omega) (fun c hc => by have := hop n c hn (Or.inl hc); omega) z3
        · rw [k2 n]
          exact pr_oI_rd hn32 (by omega) (fun c hc => by have := hop n c hn (Or.inr hc); omega) z4
      · rw [k1 n, k2 n, if_neg (fun hh => absurd hh.1 (by omega)), if_neg (fun hh => absurd hh.1 (by omega))]
        exact hb.2.2.1 n hn
      · obtain ⟨o1, o2⟩ := hO k hk
        rw [k3 k, o2]
        unfold pa_O
        by_cases e : O k = Rn
        · rw [if_pos ⟨hk, by rw [e]⟩, if_pos ⟨hk, e⟩]
        · rw [if_neg (fun hh => e (pr_im hh.2 (by omega) (by omega))), if_neg (fun hh => e hh.2)]
      · rw [k3 k, if_neg (fun hh => absurd hh.1 (by omega))]
    | succ d ih =>
      intro i nk nv na nb cp hi hb
      refine pk_le ((r * 2 + 1) * 8 + pt_n R) ((r * 2 + 1) * 8 + i) (fun h => absurd h (by omega)) (fun _ => ?_)
      refine x_buildNode (R := R) (C := C) (tv := tv) (bd := bd) (w := r * 2 + 1) (nk0 := a_nodeKind) (nv0 := a_nodeValue) (na0 := a_nodeA) (nb0 := a_nodeB) (by omega) hR h14 (by omega) hU hcv hmx (fun q hq hc => by rw [htr q hq]; exact htv q hq hc) hbn (hfx i (by omega)) hb (fun rr nk' nv' na' nb' hb' => ⟨pk_in ((r * 2 + 1) * 8 + i) 272 (by omega), ?_⟩)
      rw [nI_clamp (by omega)]
      exact nm_e (nm_r (nI_1 _) (ih (i + 1) nk' nv' na' nb' _ (by omega) hb'))
  unfold wpX_applyRule
  refine x_treeOf r 1 ?_
  refine x_endOf (by omega) hU.1 ?_
  refine x_boundValue (j := 0) (bd := bd) (K := K) (A := A) (B := B) (by omega) hg (hbn 0 (by omega)) (hbT 0) ?_
  refine x_boundValue (j := 1) (bd := bd) (K := K) (A := A) (B := B) (by omega) hg (hbn 1 (by omega)) (hbT 1) ?_
  refine x_evaluateTree (by omega) hR h0 hU (fun tr htr => ?_)
  refine x_firstOf ⟨pt_n R + 1, ?_⟩
  exact l43 tr htr (pt_n R) 0 _ _ _ _ _ (by omega) ⟨hk, hg, fun n _ => ⟨rfl, rfl, rfl, rfl⟩, fun q hq => absurd hq (by omega)⟩
end XX
end
section
/-! one search, pure -/
def pb_fr (R : pr_PT) (C : Nat → Bool) (i : Nat) (s : pb_S) : Prop := pt_rm1 R C i = 1 → ∃ x, x < 32 ∧ s.1 x = 0
theorem pb_fr_of {K0 : Nat → Nat} {V0 : Nat → Int32} {A0 B0 : Nat → Option Nat} {rk : Nat → Nat} {bd : Nat → Option Nat} {R : pr_PT} {C : Nat → Bool} {Lo : List Nat} {β i : Nat} {s : pb_S} {ρ : Nat → Nat} (hct : pr_ct K0 + pt_rm R C ≤ 32) (hi : i < pt_n R) (h : pb_inv K0 V0 A0 B0 rk bd R C Lo β i s ρ) : pb_fr R C i s := by
  intro hm
  have hs : pr_rs (pt_rm1 R C) 0 (i + 1) = pr_rs (pt_rm1 R C) 0 i + 1 := by
    show pr_rs (pt_rm1 R C) 0 i + pt_rm1 R C (0 + i) = _
    rw [Nat.zero_add, hm]
  have hup : pr_rs (pt_rm1 R C) 0 (i + 1) ≤ pt_rm R C := pr_rs_up (by omega)
  have := h.2.2.2.1
  exact pr_ct_free (by omega)
def sr_m (mN : Nat) (P R : Nat → pr_PT) (rl rj rK : Nat → Nat) (K : Nat → Nat) (V : Nat → Int32) (A B : Nat → Option Nat) (us : Nat → Nat) (ln r n : Nat) : Option pm_S :=
  if ln + pt_rm (R r) (pt_has (P r) 14) ≤ mN then (match pm_run K V A B us (P r) (pt_n (P r)) (fun _ => n, fun _ => none) with
    | none => none
    | some s => if pr_ph (rl r) (rj r) (rK r) (by_v K V s.2 0) (by_v K V s.2 1) = true then some s else none) else none
def sr_f (rc : Nat) (L : List Nat) (m : Nat → Nat → Option pm_S) (i r : Nat) (s : pm_S) : Prop := i < L.length ∧ r < rc ∧ m r (L.getD i 0) = some s ∧ (∀ i' r', i' < i → r' < rc → m r' (L.getD i' 0) = none) ∧ ∀ r', r' < r → m r' (L.getD i 0) = none
def sr_0 (rc : Nat) (L : List Nat) (m : Nat → Nat → Option pm_S) : Prop := ∀ i r, i < L.length → r < rc → m r (L.getD i 0) = none
theorem sr_u {rc : Nat} {L : List Nat} {m : Nat → Nat → Option pm_S} {i r i' r' : Nat} {s s' : pm_S} (h : sr_f rc L m i r s) (h' : sr_f rc L m i' r' s') : i = i' ∧ r = r' ∧ s = s' := by
  obtain ⟨h1, h2, h3, h4, h5⟩ := h
  obtain ⟨k1, k2, k3, k4, k5⟩ := h'
  have e : i = i' := by
    apply Classical.byContradiction
    intro hne
    by_cases hl : i < i'
    · have := k4 i r hl h2
      rw [h3] at this
      cases this
    · have := h4 i' r' (by omega) k2
      rw [k3] at this
      cases this
  subst e
  have e2 : r = r' := by
    apply Classical.byContradiction
    intro hne
    by_cases hl : r < r'
    · have := k5 r hl
      rw [h3] at this
      cases this
    · have := h5 r' (by omega)
      rw [k3] at this
      cases this
  subst e2
  rw [h3] at k3
  exact ⟨rfl, rfl, Option.some.inj k3⟩
theorem sr_0f {rc : Nat} {L : List Nat} {m : Nat → Nat → Option pm_S} {i r : Nat} {s : pm_S} (h : sr_f rc L m i r s) (h0 : sr_0 rc L m) : False := by
  have := h0 i r h.1 h.2.1
  rw [h.2.2.1] at this
  cases this
theorem pr_ph_0 {rl rj rK : Nat} {v0 v1 : Int32} (e : rl = 0) : pr_ph rl rj rK v0 v1 = true := by
  unfold pr_ph
  rw [if_neg (by omega), if_neg (by omega), if_neg (by omega), if_neg (by omega)]
theorem pr_ph_eq {rl rj rK : Nat} {v0 v1 w0 w1 : Int32} (h : rl ≠ 0 → (rj = 0 → v0 = w0) ∧ (rj ≠ 0 → v1 = w1)) : pr_ph rl rj rK v0 v1 = pr_ph rl rj rK w0 w1 := by
  by_cases e : rl = 0
  · rw [pr_ph_0 e, pr_ph_0 e]
  · obtain ⟨h0, h1⟩ := h e
    unfold pr_ph
    by_cases ej : rj = 0
    · rw [if_pos ej, if_pos ej, h0 ej]
    · rw [if_neg ej, if_neg ej, h1 ej]
/-- a matched CVAR is bound to a CONST -/
theorem pm_cv {K : Nat → Nat} {V : Nat → Int32} {A B : Nat → Option Nat} {us : Nat → Nat} {P : pr_PT} {R : Nat} {s : pm_S} (h : pm_inv K V A B us P R 0 s) {j : Nat} (hj : pt_has P 14 j = true) : ∃ d, s.2 j = some d ∧ K d = 11 := by
  obtain ⟨p, p1, p2, p3⟩ := pt_has_t.mp hj
  have := (h.2.1 p (by omega) p1).2.2.1 (by omega)
  rw [p3] at this
  exact ⟨_, this.1, this.2 p2⟩
theorem bxy {K : Nat → Nat} {V : Nat → Int32} {bd : Nat → Option Nat} {j : Nat} (h : ∃ d, bd j = some d ∧ K d = 11) : bx_v V bd j = by_v K V bd j := by
  obtain ⟨d, h1, h2⟩ := h
  unfold bx_v by_v
  rw [h1]
  show V d = if K d = 11 then V d else 0
  rw [if_pos h2]
theorem by_by {K : Nat → Nat} {V : Nat → Int32} {A B : Nat → Option Nat} {rk : Nat → Nat} {bd : Nat → Option Nat} (hG : pr_gw 0 K V A B rk) (hT : ∀ j d, bd j = some d → pr_T 0 K d) (j : Nat) : pr_by (by_v K V bd j) := by
  unfold by_v
  cases e : bd j with
  | none => exact pr_by_0
  | some d =>
    show pr_by (if K d = 11 then V d else 0)
    by_cases h : K d = 11
    · rw [if_pos h]
      exact (hG d (hT j d e)).2.2.1
    · rw [if_neg h]
      exact pr_by_0
theorem pr_ct_len {K : Nat → Nat} {L : List Nat} (nd : L.Nodup) (hL : ∀ x, x ∈ L ↔ pr_T 0 K x) : pr_ct K = L.length := by
  have e := pr_rs_list (w := fun _ => 1) (lo := 0) (n := 32) nd (fun x hx => ⟨((hL x).mp hx).1, ((hL x).mp hx).2.1⟩)
  have e2 : pr_sm (fun _ => 1) L = L.length := by
    clear e nd hL
    induction L with
    | nil => rfl
    | cons x L ih =>
      show 1 + pr_sm (fun _ => 1) L = L.length + 1
      rw [ih]
      omega
  rw [← e2, ← e]
  refine pr_rs_congr fun x _ hx => ?_
  show (if K x = 0 then 0 else 1) = (if x ∈ L then 1 else 0)
  by_cases h : K x = 0
  · rw [if_pos h, if_neg (fun hh => ((hL x).mp hh).2.2 h)]
  · rw [if_neg h, if_pos ((hL x).mpr ⟨by omega, by omega, h⟩)]
theorem pr_us_le {A B : Nat → Option Nat} {O : Nat → Nat} {L : List Nat} {oc d : Nat} (hl : L.length ≤ 32) (hoc : oc ≤ 4) : pr_us A B O L oc d < 2 ^ 31 := by
  have h1 : pr_sm (pr_e1 A B d) L ≤ L.length * 2 := pr_sm_len (fun x => by
    unfold pr_e1
    by_cases ha : A x = some d
    · rw [if_pos ha]
      by_cases hb : B x = some d
      · rw [if_pos hb]
        omega
      · rw [if_neg hb]
        omega
    · rw [if_neg ha]
      by_cases hb : B x = some d
      · rw [if_pos hb]
        omega
      · rw [if_neg hb]
        omega) L
  have h2 : pr_rs (fun k => if O k = d then 1 else 0) 0 oc ≤ oc * 1 := pr_rs_bound (fun x _ _ => by
    show (if O x = d then 1 else 0) ≤ 1
    by_cases h : O x = d
    · rw [if_pos h]
      omega
    · rw [if_neg h]
      omega)
  show pr_sm (pr_e1 A B d) L + pr_rs (fun k => if O k = d then 1 else 0) 0 oc < 2 ^ 31
  omega
section ST
variable {mN : Nat} {mR : Nat} {rc : Nat} {ph : Nat} {nc : Nat} {oc : Nat} {cx : Int32} {ap : Int32} {P : Nat → pr_PT} {R : Nat → pr_PT} {rl : Nat → Nat} {rj : Nat → Nat} {rK : Nat → Nat} {uc : Nat → Int32} {D : Nat → pr_PT} {ps : Nat → Nat → Nat} {dc : Nat → Nat} {dl : Nat} {dj : Nat} {dk : Nat} {K : Nat → Nat} {V : Nat → Int32} {A : Nat → Option Nat} {B : Nat → Option Nat} {O : Nat → Nat}
def sr_tv (R : pr_PT) (K : Nat → Nat) (V : Nat → Int32) (bd : Nat → Option Nat) : Nat → Int32 := pt_tv R (by_v K V bd 0) (by_v K V bd 1)
def sr_b (P R : pr_PT) (K : Nat → Nat) (V : Nat → Int32) (A B : Nat → Option Nat) (bd : Nat → Option Nat) (i : Nat) : pb_S := pb_run R (pt_has P 14) (sr_tv R K V bd) bd i (K, V, A, B, fun _ => none)
/-- all that one application needs and gives -/
theorem st_all (hok : sp_ok mN mR rc ph nc oc cx ap P R rl rj rK uc D ps dc dl dj dk K V A B O) (hph : ph = 1) {L : List Nat} {us : Nat → Nat} (hL : L = pr_lv A B O 0 oc) (hus : us = pr_us A B O L oc) {r n : Nat} {s : pm_S} (hr : r < rc) (tn : pr_T 0 K n) (hm : sr_m mN P R rl rj rK K V A B us L.length r n = some s) :
    ∃ y rk2, (sr_b (P r) (R r) K V A B s.2 (pt_n (R r))).2.2.2.2 (pt_n (R r) - 1) = some y ∧ y < 32 ∧
      pm_run K V A B us (P r) (pt_n (P r)) (fun _ => n, fun _ => none) = some s ∧ pm_inv K V A B us (P r) n 0 s ∧
      (∀ i, i ≤ pt_n (R r) → pb_fx (R r) (pt_has (P r) 14) i (sr_b (P r) (R r) K V A B s.2 i)) ∧ (∀ i, i < pt_n (R r) → pb_fr (R r) (pt_has (P r) 14) i (sr_b (P r) (R r) K V A B s.2 i)) ∧
      (∀ x, pr_T 0 (sr_b (P r) (R r) K V A B s.2 (pt_n (R r))).1 x → (sr_b (P r) (R r) K V A B s.2 (pt_n (R r))).1 x ≤ 12 ∧ (11 ≤ (sr_b (P r) (R r) K V A B s.2 (pt_n (R r))).1 x → (sr_b (P r) (R r) K V A B s.2 (pt_n (R r))).2.2.1 x = none) ∧ (9 ≤ (sr_b (P r) (R r) K V A B s.2 (pt_n (R r))).1 x → (sr_b (P r) (R r) K V A B s.2 (pt_n (R r))).2.2.2.1 x = none) ∧ ∀ c, ((sr_b (P r) (R r) K V A B s.2 (pt_n (R r))).2.2.1 x = some c ∨ (sr_b (P r) (R r) K V A B s.2 (pt_n (R r))).2.2.2.1 x = some c) → c < 32) ∧
      pr_gw 0 (sr_b (P r) (R r) K V A B s.2 (pt_n (R r))).1 (sr_b (P r) (R r) K V A B s.2 (pt_n (R r))).2.1 (pa_A n y (sr_b (P r) (R r) K V A B s.2 (pt_n (R r))).2.2.1) (pa_A n y (sr_b (P r) (R r) K V A B s.2 (pt_n (R r))).2.2.2.1) rk2 ∧ (∀ k, k < oc → pr_T 0 (sr_b (P r) (R r) K V A B s.2 (pt_n (R r))).1 (pa_O n y oc O k)) ∧
      (∀ x, 32 ≤ x → (sr_b (P r) (R r) K V A B s.2 (pt_n (R r))).1 x = K x ∧ (K x ≠ 0 → (sr_b (P r) (R r) K V A B s.2 (pt_n (R r))).2.1 x = V x ∧ (sr_b (P r) (R r) K V A B s.2 (pt_n (R r))).2.2.1 x = A x ∧ (sr_b (P r) (R r) K V A B s.2 (pt_n (R r))).2.2.2.1 x = B x)) ∧
      ∀ L2, L2 = pr_lv (pa_A n y (sr_b (P r) (R r) K V A B s.2 (pt_n (R r))).2.2.1) (pa_A n y (sr_b (P r) (R r) K V A B s.2 (pt_n (R r))).2.2.2.1) (pa_O n y oc O) 0 oc →
        pr_W (pa_K L2 (sr_b (P r) (R r) K V A B s.2 (pt_n (R r))).1) < pr_W K ∧
        ∀ ap' uc', sp_ok mN mR rc ph nc oc cx ap' P R rl rj rK uc' D ps dc dl dj dk (pa_K L2 (sr_b (P r) (R r) K V A B s.2 (pt_n (R r))).1) ((sr_b (P r) (R r) K V A B s.2 (pt_n (R r))).2.1) (pa_A n y (sr_b (P r) (R r) K V A B s.2 (pt_n (R r))).2.2.1) (pa_A n y (sr_b (P r) (R r) K V A B s.2 (pt_n (R r))).2.2.2.1) (pa_O n y oc O) := by
  obtain ⟨o1, o2, o3, o4, o5, o6, o7, o8, o9, rk, rk', q1, q2, q3, q4⟩ := hok
  obtain ⟨q5, q6, q7⟩ := q4 hph
  obtain ⟨w1, w2, w3, w4, w5, w6, w7, w8, w9, w10, w11⟩ := o8 r hr
  have hlk := pr_lv_ok (O := O) (ob := 0) (pr_gw_T q1) (pr_gw_r q1) oc (fun k hk => by rw [Nat.zero_add]; exact q2 k hk)
  rw [← hL] at hlk q7
  have hiff : ∀ x, x ∈ L ↔ pr_T 0 K x := fun x => ⟨fun h => (hlk.2.2.2 x h).1, q7 x⟩
  have hctl := pr_ct_len hlk.1 hiff
  unfold sr_m at hm
  by_cases hroom : L.length + pt_rm (R r) (pt_has (P r) 14) ≤ mN
  · rw [if_pos hroom] at hm
    cases hrun : pm_run K V A B us (P r) (pt_n (P r)) (fun _ => n, fun _ => none) with
    | none =>
      rw [hrun] at hm
      cases hm
    | some s1 =>
      rw [hrun] at hm
      replace hm : (if pr_ph (rl r) (rj r) (rK r) (by_v K V s1.2 0) (by_v K V s1.2 1) = true then some s1 else none) = some s := hm
      have es : s1 = s := by
        by_cases hp : pr_ph (rl r) (rj r) (rK r) (by_v K V s1.2 0) (by_v K V s1.2 1) = true
        · rw [if_pos hp] at hm
          exact Option.some.inj hm
        · rw [if_neg hp] at hm
          cases hm
      subst es
      have hinv := pm_run_ok w1 w2 q1 (Nat.le_refl _) (pm_inv0 (V := V) (A := A) (B := B) (us := us) w2 tn) hrun
      have hbT : ∀ j d, s1.2 j = some d → pr_T 0 K d := fun j d hd => pm_bd hinv hd
      have htvb : ∀ q, q < pt_n (R r) → pr_by (sr_tv (R r) K V s1.2 q) := pt_tv_by w4 (by_by q1 hbT 0) (by_by q1 hbT 1)
      have hct : pr_ct K + pt_rm (R r) (pt_has (P r) 14) ≤ 32 := by omega
      have hinv' : pm_inv K V A B us (P r) n 0 (s1.1, s1.2) := hinv
      obtain ⟨Lo, β, hall⟩ := pa_inv (tv := sr_tv (R r) K V s1.2) q1 w1 w2 w3 w4 w6 w7 hinv' hct htvb
      obtain ⟨y, rk2, y1, y2, y3, y4, y5, y6⟩ := pa_ok (tv := sr_tv (R r) K V s1.2) q1 q7 q2 hus w1 w2 w3 w4 w5 w6 w7 hinv' hct htvb w10 rfl
      refine ⟨y, rk2, y1, y2, rfl, hinv, fun i hi => ?_, fun i hi => ?_, fun x hx => ?_, y4, y5, y3, fun L2 hL2 => ?_⟩
      · obtain ⟨ρ, h⟩ := hall i hi
        exact pb_fx_of q1 h
      · obtain ⟨ρ, h⟩ := hall i (by omega)
        exact pb_fr_of hct hi h
      · obtain ⟨ρ, i1, i2, i3, i4, i5⟩ := hall (pt_n (R r)) (Nat.le_refl _)
        by_cases hK : K x = 0
        · obtain ⟨_, g1, g2, g3, g4, g5, g6, g7, g8, g9⟩ := i2 x hK hx.2.2
          refine ⟨?_, g4, g5, fun c hc => ?_⟩
          · exact Nat.le_trans g1 (by omega)
          · have := (g9 c hc).1.2.1
            omega
        · obtain ⟨a1, a2, a3, a4, a5⟩ := i1 x hK
          obtain ⟨g1, g2, g3, g4, g5, g6, g7, g8, g9, g10⟩ := q1 x ⟨hx.1, hx.2.1, hK⟩
          have b1 : (sr_b (P r) (R r) K V A B s1.2 (pt_n (R r))).1 x = K x := a1
          have b3 : (sr_b (P r) (R r) K V A B s1.2 (pt_n (R r))).2.2.1 x = A x := a3
          have b4 : (sr_b (P r) (R r) K V A B s1.2 (pt_n (R r))).2.2.2.1 x = B x := a4
          rw [b1, b3, b4]
          refine ⟨g1, g6, g7, fun c hc => ?_⟩
          have := (g10 c hc).1.2.1
          omega
      · obtain ⟨z1, z2, z3, z4⟩ := y6 L2 hL2
        refine ⟨z3, fun ap' uc' => ⟨o1, o2, o3, o4, o5, o6, o7, o8, o9, rk2, rk', z1, z2, fun h => absurd h (by omega), fun _ => ⟨?_, fun k hk => ?_, fun x hx => ?_⟩⟩⟩
        · intro x hx
          have hx32 : 32 ≤ x := hx.1
          have eK : ∀ z, 32 ≤ z → pa_K L2 (sr_b (P r) (R r) K V A B s1.2 (pt_n (R r))).1 z = K z := by
            intro z hz
            unfold pa_K
            rw [if_neg (fun hh => absurd hh.1 (by omega))]
            exact (y3 z hz).1
          have hKx : K x ≠ 0 := by
            have := hx.2.2
            rw [eK x hx32] at this
            exact this
          obtain ⟨v1, v2, v3⟩ := (y3 x hx32).2 hKx
          have eA : pa_A n y (sr_b (P r) (R r) K V A B s1.2 (pt_n (R r))).2.2.1 x = A x := by
            unfold pa_A
            rw [if_neg (by omega)]
            exact v2
          have eB : pa_A n y (sr_b (P r) (R r) K V A B s1.2 (pt_n (R r))).2.2.2.1 x = B x := by
            unfold pa_A
            rw [if_neg (by omega)]
            exact v3
          have eV : (sr_b (P r) (R r) K V A B s1.2 (pt_n (R r))).2.1 x = V x := v1
          rw [eK x hx32, eA, eB, eV]
          obtain ⟨g1, g2, g3, g4, g5, g6, g7, g8, g9, g10⟩ := q5 x ⟨hx.1, hx.2.1, hKx⟩
          refine ⟨g1, g2, g3, g4, g5, g6, g7, g8, g9, fun c hc => ?_⟩
          have := g10 c hc
          exact ⟨⟨this.1.1, this.1.2.1, by rw [eK c this.1.1]; exact this.1.2.2⟩, this.2⟩
        · have hq := q6 k hk
          have e : pa_O n y oc O (4 + k) = O (4 + k) := by
            unfold pa_O
            rw [if_neg (fun hh => absurd hh.1 (by omega))]
          rw [e]
          refine ⟨hq.1, hq.2.1, ?_⟩
          unfold pa_K
          rw [if_neg (fun hh => absurd hh.1 (by have := hq.1; omega))]
          have := (y3 (O (4 + k)) hq.1).1
          intro h0
          rw [show (sr_b (P r) (R r) K V A B s1.2 (pt_n (R r))).1 (O (4 + k)) = K (O (4 + k)) from this] at h0
          exact hq.2.2 h0
        · rw [← hL2]
          exact z4 x hx
  · rw [if_neg hroom] at hm
    cases hm
end ST
end
section
/-! X: one search -/
theorem gr_next {K K1 : Nat → Nat} {V V1 : Nat → Int32} {A B A1 B1 : Nat → Option Nat} {L2 : List Nat} {n y : Nat} {nk0 nv0 na0 nb0 nk nv na nb : Nat → Int32} (h32 : gr_at 32 K V A B nk0 nv0 na0 nb0) (hk : ∀ x, 32 ≤ x → nk x = nk0 x ∧ nv x = nv0 x ∧ na x = na0 x ∧ nb x = nb0 x) (h3 : ∀ x, 32 ≤ x → K1 x = K x ∧ (K x ≠ 0 → V1 x = V x ∧ A1 x = A x ∧ B1 x = B x)) :
    gr_at 32 (pa_K L2 K1) V1 (pa_A n y A1) (pa_A n y B1) nk nv na nb := by
  intro x hx
  have hx32 : 32 ≤ x := hx.1
  have eK : pa_K L2 K1 x = K x := by
    unfold pa_K
    rw [if_neg (fun hh => absurd hh.1 (by omega))]
    exact (h3 x hx32).1
  have hKx : K x ≠ 0 := by
    have := hx.2.2
    rw [eK] at this
    exact this
  obtain ⟨v1, v2, v3⟩ := (h3 x hx32).2 hKx
  have eA : pa_A n y A1 x = A x := by
    unfold pa_A
    rw [if_neg (by omega)]
    exact v2
  have eB : pa_A n y B1 x = B x := by
    unfold pa_A
    rw [if_neg (by omega)]
    exact v3
  obtain ⟨a1, a2, a3, a4⟩ := hk x hx32
  rw [eK, eA, eB, v1, a1, a2, a3, a4]
  exact h32 x ⟨hx.1, hx.2.1, hKx⟩
theorem gr_pa {K1 : Nat → Nat} {V1 : Nat → Int32} {A1 B1 : Nat → Option Nat} {L2 : List Nat} {nk nv na nb : Nat → Int32} (h : gr_at 0 K1 V1 A1 B1 nk nv na nb) : gr_at 0 (pa_K L2 K1) V1 A1 B1 nk nv na nb := by
  intro x hx
  have h2 := hx.2.2
  have e : pa_K L2 K1 x = K1 x := by
    unfold pa_K at h2 ⊢
    by_cases hc : x < 32 ∧ x ∉ L2
    · rw [if_pos hc] at h2
      exact absurd rfl h2
    · rw [if_neg hc]
  rw [e] at h2 ⊢
  exact h x ⟨hx.1, hx.2.1, h2⟩
theorem pa_O4 {n y oc k : Nat} {O : Nat → Nat} (h : oc ≤ 4) : pa_O n y oc O (4 + k) = O (4 + k) := by
  unfold pa_O
  rw [if_neg (fun hh => absurd hh.1 (by omega))]
section XY
variable {f_maxNodes f_maxRules f_ruleCount f_counterexample f_optimized f_nodeCount f_outputCount f_applications : Int32} {a_preRelation a_preVariable a_preConstant a_roomNeeded a_useCount a_treeSize a_treeKind a_treeValue a_treeA a_treeB a_treeResult a_constantValued a_maximal a_counterpart a_boundNode a_pending a_pendingCount a_nodeKind a_nodeValue a_nodeA a_nodeB a_nodeResult a_nodeUses a_outputNode a_seen a_order a_walkStack : Nat → Int32}
variable {mN : Nat} {mR : Nat} {rc : Nat} {ph : Nat} {nc : Nat} {oc : Nat} {cx : Int32} {ap : Int32} {P : Nat → pr_PT} {R : Nat → pr_PT} {rl : Nat → Nat} {rj : Nat → Nat} {rK : Nat → Nat} {uc : Nat → Int32} {D : Nat → pr_PT} {ps : Nat → Nat → Nat} {dc : Nat → Nat} {dl : Nat} {dj : Nat} {dk : Nat} {K : Nat → Nat} {V : Nat → Int32} {A : Nat → Option Nat} {B : Nat → Option Nat} {O : Nat → Nat}
theorem rx_afm {u : St2} {post : Int32 → St2 → Prop} (hok : sp_ok mN mR rc ph nc oc cx ap P R rl rj rK uc D ps dc dl dj dk K V A B O) (hph : ph = 1) (hx : rx mN mR rc ph nc oc cx ap P R rl rj rK uc D ps dc dl dj dk K V A B O u) {L : List Nat} {us : Nat → Nat} (hL : L = pr_lv A B O 0 oc) (hus : us = pr_us A B O L oc)
    (hno : sr_0 rc L (sr_m mN P R rl rj rK K V A B us L.length) → ∀ u', rx mN mR rc ph nc oc cx ap P R rl rj rK uc D ps dc dl dj dk K V A B O u' → post 0 u')
    (hy : ∀ i r s y L2, sr_f rc L (sr_m mN P R rl rj rK K V A B us L.length) i r s → (sr_b (P r) (R r) K V A B s.2 (pt_n (R r))).2.2.2.2 (pt_n (R r) - 1) = some y → L2 = pr_lv (pa_A (L.getD i 0) y (sr_b (P r) (R r) K V A B s.2 (pt_n (R r))).2.2.1) (pa_A (L.getD i 0) y (sr_b (P r) (R r) K V A B s.2 (pt_n (R r))).2.2.2.1) (pa_O (L.getD i 0) y oc O) 0 oc →
      ∀ u', rx mN mR rc ph nc oc cx (ap + 1) P R rl rj rK (pr_st uc r (uc r + 1)) D ps dc dl dj dk (pa_K L2 (sr_b (P r) (R r) K V A B s.2 (pt_n (R r))).1) ((sr_b (P r) (R r) K V A B s.2 (pt_n (R r))).2.1) (pa_A (L.getD i 0) y (sr_b (P r) (R r) K V A B s.2 (pt_n (R r))).2.2.1) (pa_A (L.getD i 0) y (sr_b (P r) (R r) K V A B s.2 (pt_n (R r))).2.2.2.1) (pa_O (L.getD i 0) y oc O) u' → post 1 u') : wpX_applyFirstMatch post u := by
  obtain ⟨f_maxNodes, f_maxRules, f_ruleCount, f_counterexample, f_optimized, f_nodeCount, f_outputCount, f_applications, a_preRelation, a_preVariable, a_preConstant, a_roomNeeded, a_useCount, a_treeSize, a_treeKind, a_treeValue, a_treeA, a_treeB, a_treeResult, a_constantValued, a_maximal, a_counterpart, a_boundNode, a_pending, a_pendingCount, a_nodeKind, a_nodeValue, a_nodeA, a_nodeB, a_nodeResult, a_nodeUses, a_outputNode, a_seen, a_order, a_walkStack⟩ := u
  obtain ⟨e1, e2, e3, e4, e5, e6, e7, e8, h9, h10, h11, h12⟩ := hx
  subst e1 e2 e3 e4 e5 e6 e7 e8
  have hok' := hok
  obtain ⟨o1, o2, o3, o4, o5, o6, o7, o8, o9, rk, rk', q1, q2, q3, q4⟩ := hok
  obtain ⟨q5, q6, q7⟩ := q4 hph
  have hlk := pr_lv_ok (O := O) (ob := 0) (pr_gw_T q1) (pr_gw_r q1) oc (fun k hk => by rw [Nat.zero_add]; exact q2 k hk)
  rw [← hL] at hlk q7
  have hLT : ∀ x, x ∈ L → pr_T 0 K x := fun x hx => (hlk.2.2.2 x hx).1
  have hlen := pr_len (lo := 0) (n := 32) hlk.1 (fun x hx => ⟨(hLT x hx).1, (hLT x hx).2.1⟩)
  have hO : ∀ k, k < oc → pr_T 0 K (O k) ∧ a_outputNode k = nI (O k) := fun k hk => ⟨q2 k hk, h12.2.1 k hk⟩
  unfold wpX_applyFirstMatch
  refine x_listLive (lo := 0) (g := 0) (O := O) (by omega) q1 h12.1 (by omega) o7 (gr_O0 h12 q2) (fun se od st k1 k2 => ?_)
  rw [show pr_lv A B O (0 * 4) oc = L from hL.symm] at k1 k2 ⊢
  refine x_delete (L := L) k1 (fun nk nv na nb d1 d2 => ?_)
  have gr0 : gr_at 0 K V A B nk nv na nb := by
    intro n hn
    obtain ⟨z1, z2, z3, z4⟩ := d2 n (Or.inl (q7 n hn))
    rw [z1, z2, z3, z4]
    exact h12.1 n hn
  have gr32 : gr_at 32 K V A B nk nv na nb := by
    intro n hn
    obtain ⟨z1, z2, z3, z4⟩ := d2 n (Or.inr hn.1)
    rw [z1, z2, z3, z4]
    exact (h12.2.2 hph).1 n hn
  have hk32 : ∀ n, n < 32 → nk n = nI (K n) := by
    intro n hn
    by_cases hz : K n = 0
    · rw [hz]
      exact d1 n hn fun hl => (hLT n hl).2.2 hz
    · exact (gr0 n ⟨by omega, by omega, hz⟩).1
  have hall : ∀ (nu se od st cp bn : Nat → Int32), rx mN mR rc ph nc oc f_counterexample f_applications P R rl rj rK uc D ps dc dl dj dk K V A B O ((nI mN), (nI mR), (nI rc), f_counterexample, (nI ph), (nI nc), (nI oc), f_applications, a_preRelation, a_preVariable, a_preConstant, a_roomNeeded, a_useCount, a_treeSize, a_treeKind, a_treeValue, a_treeA, a_treeB, a_treeResult, a_constantValued, a_maximal, cp, bn, a_pending, a_pendingCount, nk, nv, na, nb, a_nodeResult, nu, a_outputNode, se, od, st) := fun nu se od st cp bn => ⟨rfl, rfl, rfl, rfl, rfl, rfl, rfl, rfl, h9, h10, h11, gr0, h12.2.1, fun hp => ⟨gr32, (h12.2.2 hp).2⟩⟩
  refine x_countUses (L := L) (O := O) q1 gr0 hlk o7 hO k2 (fun nu n1 => ⟨L.length + 1, ?_⟩)
  rw [← hus] at n1
  have hub : ∀ d, us d < 2 ^ 31 := fun d => by
    rw [hus]
    exact pr_us_le hlen o7
  have l17 : ∀ d i cp bn, i + d = L.length → (∀ i' r', i' < i → r' < rc → sr_m mN P R rl rj rK K V A B us L.length r' (L.getD i' 0) = none) → wX_applyFirstMatch_17 post (nI L.length) (d + 1) (nI i) (nI mN) (nI mR) (nI rc) f_counterexample (nI ph) (nI nc) (nI oc) f_applications a_preRelation a_preVariable a_preConstant a_roomNeeded a_useCount a_treeSize a_treeKind a_treeValue a_treeA a_treeB a_treeResult a_constantValued a_maximal cp bn a_pending a_pendingCount nk nv na nb a_nodeResult nu a_outputNode se od st := by
    intro d
    induction d with
    | zero =>
      intro i cp bn hi hh
      exact pk_le L.length i (fun _ => hno (fun i' r' a b => hh i' r' (by omega) b) _ (hall nu se od st cp bn)) (fun h => absurd h (by omega))
    | succ d ih =>
      intro i cp bn hi hh
      have hi' : i < L.length := by omega
      have tn := hLT _ (pr_gd_m hi')
      have tn2 := tn.2.1
      refine pk_le L.length i (fun h => absurd h (by omega)) (fun _ => ⟨pk_in i 32 (by omega), ?_⟩)
      rw [nI_clamp (by omega)]
      refine nm_r (k2 i hi') ⟨rc + 1, ?_⟩
      have l32 : ∀ d' r cp bn, r + d' = rc → (∀ r', r' < r → sr_m mN P R rl rj rK K V A B us L.length r' (L.getD i 0) = none) → wX_applyFirstMatch_32 post (wX_applyFirstMatch_17 post (nI L.length) (d + 1)) (nI L.length) (nI i) (nI (L.getD i 0)) (d' + 1) (nI r) (nI mN) (nI mR) (nI rc) f_counterexample (nI ph) (nI nc) (nI oc) f_applications a_preRelation a_preVariable a_preConstant a_roomNeeded a_useCount a_treeSize a_treeKind a_treeValue a_treeA a_treeB a_treeResult a_constantValued a_maximal cp bn a_pending a_pendingCount nk nv na nb a_nodeResult nu a_outputNode se od st := by
        intro d'
        induction d' with
        | zero =>
          intro r cp bn hr hr0
          refine pk_le rc r (fun _ => nm_r (nI_1 _) (ih (i + 1) cp bn (by omega) fun i' r' a b => ?_)) (fun h => absurd h (by omega))
          by_cases e : i' = i
          · subst e
            exact hr0 r' (by omega)
          · exact hh i' r' (by omega) b
        | succ d' ih' =>
          intro r cp bn hr hr0
          have hrr : r < rc := by omega
          obtain ⟨⟨x1, x2, x3, x4, x5⟩, x6, x7⟩ := h9 r hrr
          obtain ⟨w1, w2, w3, w4, w5, w6, w7, w8, w9, w10, w11⟩ := o8 r hrr
          have nx : ∀ cp bn, sr_m mN P R rl rj rK K V A B us L.length r (L.getD i 0) = none → wX_applyFirstMatch_32 post (wX_applyFirstMatch_17 post (nI L.length) (d + 1)) (nI L.length) (nI i) (nI (L.getD i 0)) (d' + 1) (nI (r + 1)) (nI mN) (nI mR) (nI rc) f_counterexample (nI ph) (nI nc) (nI oc) f_applications a_preRelation a_preVariable a_preConstant a_roomNeeded a_useCount a_treeSize a_treeKind a_treeValue a_treeA a_treeB a_treeResult a_constantValued a_maximal cp bn a_pending a_pendingCount nk nv na nb a_nodeResult nu a_outputNode se od st := by
            intro cp bn hm
            refine ih' (r + 1) cp bn (by omega) fun r' hr' => ?_
            by_cases e : r' = r
            · rw [e]
              exact hm
            · exact hr0 r' (by omega)
          have hrm : pt_rm (R r) (pt_has (P r) 14) ≤ 8 := by
            have h8 := w4.1
            have : pt_rm (R r) (pt_has (P r) 14) ≤ pt_n (R r) * 1 := pr_rs_bound (fun x _ _ => by
              unfold pt_rm1
              by_cases hx : pt_cv (R r) (pt_has (P r) 14) x = false ∨ pt_mx (R r) (pt_has (P r) 14) x = true ∧ pt_k (R r) x ≠ 13
              · rw [if_pos hx]
                omega
              · rw [if_neg hx]
                omega)
            omega
          refine pk_le rc r (fun h => absurd h (by omega)) (fun _ => ⟨pk_in r 17 (by omega), ?_⟩)
          rw [nI_clamp (n := r) (by omega), x5, nI_add]
          refine pk_lt mN (L.length + pt_rm (R r) (pt_has (P r) 14)) (fun hl => nm_r (nI_1 _) (nx cp bn ?_)) (fun hl => ?_)
          · unfold sr_m
            rw [if_neg (by omega)]
          · refine x_matches (us := us) (Rn := L.getD i 0) (rl := rl r) (rj := rj r) (rK := rK r) (by omega) w1 w2 q1 gr0 x1 (fun d hd => ⟨n1 d (q7 d hd), hub d⟩) w8 (fun h => (w9 h).1) x6 tn (fun hrun cp' bn' => br_t rfl (nm_r (nI_1 _) (nx cp' bn' ?_))) (fun s' cp' bn' hrun hb => ?_)
            · unfold sr_m
              rw [if_pos hl, hrun]
            · have hinv := pm_run_ok w1 w2 q1 (Nat.le_refl _) (pm_inv0 (V := V) (A := A) (B := B) (us := us) w2 tn) hrun
              have hpe : pr_ph (rl r) (rj r) (rK r) (bx_v V s'.2 0) (bx_v V s'.2 1) = pr_ph (rl r) (rj r) (rK r) (by_v K V s'.2 0) (by_v K V s'.2 1) := by
                refine pr_ph_eq fun hl0 => ?_
                obtain ⟨j1, j2, j3⟩ := w9 hl0
                have hcv := bxy (V := V) (pm_cv hinv j3)
                refine ⟨fun e => ?_, fun e => ?_⟩
                · rw [e] at hcv
                  exact hcv
                · rw [show rj r = 1 by omega] at hcv
                  exact hcv
              rw [hpe]
              have hm : sr_m mN P R rl rj rK K V A B us L.length r (L.getD i 0) = (if pr_ph (rl r) (rj r) (rK r) (by_v K V s'.2 0) (by_v K V s'.2 1) = true then some s' else none) := by
                unfold sr_m
                rw [if_pos hl, hrun]
              refine br_c (fun z => nm_r (nI_1 _) (nx cp' bn' ?_)) (fun z => ?_)
              · rw [hm, (pr_b0 _).mp z]
                rfl
              · have hpt : pr_ph (rl r) (rj r) (rK r) (by_v K V s'.2 0) (by_v K V s'.2 1) = true := by
                  cases hx : pr_ph (rl r) (rj r) (rK r) (by_v K V s'.2 0) (by_v K V s'.2 1) with
                  | true => rfl
                  | false => rw [hx] at z; exact absurd rfl z
                rw [if_pos hpt] at hm
                have hsf : sr_f rc L (sr_m mN P R rl rj rK K V A B us L.length) i r s' := ⟨hi', hrr, hm, hh, hr0⟩
                obtain ⟨y, rk2, y1, y2, y3, y4, y5, y6, y7, y8, y9, y10, y11⟩ := st_all hok' hph hL hus hrr tn hm
                refine x_applyRule (K := K) (V := V) (A := A) (B := B) (O := O) (C := pt_has (P r) 14) (tv := sr_tv (R r) K V s'.2) (bd := s'.2) (y := y) (s := sr_b (P r) (R r) K V A B s'.2 (pt_n (R r))) (by omega) o7 (by omega) w4 w5 w6 x2 x3 x4 hb (fun j d hd => pm_bd hinv hd) gr0 hk32 (fun q hq hc => ?_) y5 rfl y1 y2 (fun n c hn hc => (y7 n hn).2.2.2 c hc) (fun k hk => ⟨by have := (q2 k hk).2.1; omega, (hO k hk).2⟩) (fun nk' nv' na' nb' ou' tr' cp'' g1 g2 g3 g4 => ?_)
                · exact pt_tv_c w4 w6 (fun h => bxy (pm_cv hinv h)) (fun h => bxy (pm_cv hinv h)) q hq hc
                · refine hy i r s' y _ hsf y1 rfl _ ⟨rfl, rfl, rfl, rfl, rfl, rfl, rfl, rfl, fun r' hr' => ⟨(h9 r' hr').1, (h9 r' hr').2.1, ?_⟩, h10, h11, gr_pa g1, g3, fun hp => ⟨gr_next gr32 g2 y10, fun k hk => ?_⟩⟩
                  · by_cases e : r' = r
                    · rw [e, pk_us, pr_st_s, x7]
                    · rw [pk_un e, pr_st_n e]
                      exact (h9 r' hr').2.2
                  · rw [pa_O4 o7, g4 (4 + k) (by omega)]
                    exact (h12.2.2 hp).2 k hk
      exact l32 rc 0 cp bn (by omega) (fun r' h => absurd h (by omega))
  exact l17 L.length 0 _ _ (by omega) (fun i' r' h => absurd h (by omega))
end XY
end
section
/-! what optimize keeps: values and weight -/
theorem sr_m_some {mN : Nat} {P R : Nat → pr_PT} {rl rj rK : Nat → Nat} {K : Nat → Nat} {V : Nat → Int32} {A B : Nat → Option Nat} {us : Nat → Nat} {ln r n : Nat} {s : pm_S} (hm : sr_m mN P R rl rj rK K V A B us ln r n = some s) :
    ln + pt_rm (R r) (pt_has (P r) 14) ≤ mN ∧ pm_run K V A B us (P r) (pt_n (P r)) (fun _ => n, fun _ => none) = some s ∧ pr_ph (rl r) (rj r) (rK r) (by_v K V s.2 0) (by_v K V s.2 1) = true := by
  unfold sr_m at hm
  by_cases hroom : ln + pt_rm (R r) (pt_has (P r) 14) ≤ mN
  · rw [if_pos hroom] at hm
    cases hrun : pm_run K V A B us (P r) (pt_n (P r)) (fun _ => n, fun _ => none) with
    | none =>
      rw [hrun] at hm
      cases hm
    | some s1 =>
      rw [hrun] at hm
      replace hm : (if pr_ph (rl r) (rj r) (rK r) (by_v K V s1.2 0) (by_v K V s1.2 1) = true then some s1 else none) = some s := hm
      by_cases hp : pr_ph (rl r) (rj r) (rK r) (by_v K V s1.2 0) (by_v K V s1.2 1) = true
      · rw [if_pos hp] at hm
        have e := Option.some.inj hm
        subst e
        exact ⟨hroom, rfl, hp⟩
      · rw [if_neg hp] at hm
        cases hm
  · rw [if_neg hroom] at hm
    cases hm
section PQS
variable {K : Nat → Nat} {V : Nat → Int32} {A B : Nat → Option Nat} {us rk : Nat → Nat} {P R : pr_PT} {Rn rl rj rK : Nat} {s : pm_S} {ar : Int32}
/-- a bound CVAR's value -/
theorem pq_cv (hG : pr_gw 0 K V A B rk) (hm : pm_inv K V A B us P Rn 0 s) {j : Nat} (hj : pt_has P 14 j = true) : by_v K V s.2 j = pr_ov (pr_ev K V A B ar 32) (s.2 j) := by
  obtain ⟨d, d1, d2⟩ := pm_cv hm hj
  have td := pm_bd hm d1
  unfold by_v
  rw [d1]
  show (if K d = 11 then V d else 0) = pr_ev K V A B ar 32 d
  rw [if_pos d2, pr_ev_eq hG td]
  unfold pr_en
  rw [if_pos d2]
/-- the value of a binding is a byte, 0 where the pattern has no such variable -/
theorem pq_hi (hP : pt_ok P) (hG : pr_gw 0 K V A B rk) (hm : pm_inv K V A B us P Rn 0 s) (j : Nat) : ∃ a, a ≤ jd_hi P j ∧ pr_ov (pr_ev K V A B ar 32) (s.2 j) = nI a := by
  cases e : s.2 j with
  | none => exact ⟨0, Nat.zero_le _, rfl⟩
  | some d =>
    obtain ⟨a, a1, a2⟩ := pr_ev_by (ar := ar) hG 32 d (pm_bd hm e) (pr_gw_r hG d (pm_bd hm e))
    obtain ⟨q, _, q2, q3, q4, q5⟩ := hm.2.2.2 j d e
    refine ⟨a, ?_, a2⟩
    unfold jd_hi
    rw [if_pos]
    · omega
    · by_cases h13 : pt_k P q = 13
      · exact Or.inl (pt_has_t.mpr ⟨q, q2, h13, q4⟩)
      · refine Or.inr (pt_has_t.mpr ⟨q, q2, ?_, q4⟩)
        have := (hP.2 q q2).1
        omega
/-- a sound rule's replacement has the value of the matched root -/
theorem pq_root (hG : pr_gw 0 K V A B rk) (hP : pt_ok P) (hPf : pt_fin P) (hm : pm_inv K V A B us P Rn 0 s) (hj : rl ≠ 0 → rj < 2 ∧ rK < 256 ∧ pt_has P 14 rj = true) (hp : pr_ph rl rj rK (by_v K V s.2 0) (by_v K V s.2 1) = true) (hs : jd_none P R rl rj rK) :
    pr_ev K V A B ar 32 Rn = pt_tv R (pr_ov (pr_ev K V A B ar 32) (s.2 0)) (pr_ov (pr_ev K V A B ar 32) (s.2 1)) (pt_n R - 1) := by
  have hm' : pm_inv K V A B us P Rn 0 (s.1, s.2) := hm
  have h1 := pv_pat (ar := ar) hP hG hm' (pt_n P - 1) (by have := hPf.1; omega)
  have hr : s.1 (pt_n P - 1) = Rn := hm.1
  rw [hr] at h1
  obtain ⟨a, a1, a2⟩ := pq_hi (ar := ar) hP hG hm 0
  obtain ⟨b, b1, b2⟩ := pq_hi (ar := ar) hP hG hm 1
  have hph : pr_ph rl rj rK (pr_ov (pr_ev K V A B ar 32) (s.2 0)) (pr_ov (pr_ev K V A B ar 32) (s.2 1)) = true := by
    rw [← hp]
    refine pr_ph_eq (fun hl => ⟨fun e => ?_, fun e => ?_⟩)
    · have := (hj hl).2.2
      rw [e] at this
      exact (pq_cv hG hm this).symm
    · have := (hj hl).2.2
      have hlt := (hj hl).1
      rw [show rj = 1 by omega] at this
      exact (pq_cv hG hm this).symm
  rw [h1]
  apply Classical.byContradiction
  intro hne
  rw [a2, b2] at hph hne
  exact hs a b a1 b1 ⟨hph, hne⟩
end PQS
def pq (mN : Nat) (mR : Nat) (rc : Nat) (ph : Nat) (nc : Nat) (oc : Nat) (cx : Int32) (ap : Int32) (P : Nat → pr_PT) (R : Nat → pr_PT) (rl : Nat → Nat) (rj : Nat → Nat) (rK : Nat → Nat) (uc : Nat → Int32) (D : Nat → pr_PT) (ps : Nat → Nat → Nat) (dc : Nat → Nat) (dl : Nat) (dj : Nat) (dk : Nat) (K : Nat → Nat) (V : Nat → Int32) (A : Nat → Option Nat) (B : Nat → Option Nat) (O : Nat → Nat) : Prop := (∀ r, r < rc → jd_none (P r) (R r) (rl r) (rj r) (rK r)) ∧ ∃ n : Nat, ap = nI n ∧ (∀ k ar, k < oc → pr_ev K V A B ar 32 (O k) = pr_ev K V A B ar 32 (O (4 + k))) ∧ pr_W K + n ≤ pr_sm (fun s => pr_w (K s)) (pr_lv A B O 4 oc)
theorem pq_step (mN : Nat) (mR : Nat) (rc : Nat) (ph : Nat) (nc : Nat) (oc : Nat) (cx : Int32) (ap : Int32) (P : Nat → pr_PT) (R : Nat → pr_PT) (rl : Nat → Nat) (rj : Nat → Nat) (rK : Nat → Nat) (uc : Nat → Int32) (D : Nat → pr_PT) (ps : Nat → Nat → Nat) (dc : Nat → Nat) (dl : Nat) (dj : Nat) (dk : Nat) (K : Nat → Nat) (V : Nat → Int32) (A : Nat → Option Nat) (B : Nat → Option Nat) (O : Nat → Nat) (hok : sp_ok mN mR rc ph nc oc cx ap P R rl rj rK uc D ps dc dl dj dk K V A B O) (hph : ph = 1) (hp : pq mN mR rc ph nc oc cx ap P R rl rj rK uc D ps dc dl dj dk K V A B O) (i r : Nat) (s : pm_S) (y : Nat) (L2 : List Nat) (uc' : Nat → Int32) (hf : sr_f rc (pr_lv A B O 0 oc) (sr_m mN P R rl rj rK K V A B (pr_us A B O (pr_lv A B O 0 oc) oc) (pr_lv A B O 0 oc).length) i r s) (hy : (sr_b (P r) (R r) K V A B s.2 (pt_n (R r))).2.2.2.2 (pt_n (R r) - 1) = some y) (hL2 : L2 = pr_lv (pa_A ((pr_lv A B O 0 oc).getD i 0) y (sr_b (P r) (R r) K V A B s.2 (pt_n (R r))).2.2.1) (pa_A ((pr_lv A B O 0 oc).getD i 0) y (sr_b (P r) (R r) K V A B s.2 (pt_n (R r))).2.2.2.1) (pa_O ((pr_lv A B O 0 oc).getD i 0) y oc O) 0 oc) :
    pq mN mR rc ph nc oc cx (ap + 1) P R rl rj rK uc' D ps dc dl dj dk (pa_K L2 (sr_b (P r) (R r) K V A B s.2 (pt_n (R r))).1) ((sr_b (P r) (R r) K V A B s.2 (pt_n (R r))).2.1) (pa_A ((pr_lv A B O 0 oc).getD i 0) y (sr_b (P r) (R r) K V A B s.2 (pt_n (R r))).2.2.1) (pa_A ((pr_lv A B O 0 oc).getD i 0) y (sr_b (P r) (R r) K V A B s.2 (pt_n (R r))).2.2.2.1) (pa_O ((pr_lv A B O 0 oc).getD i 0) y oc O) := by
  obtain ⟨p1, n, p2, p3, p4⟩ := hp
  have hok' := hok
  obtain ⟨o1, o2, o3, o4, o5, o6, o7, o8, o9, rk, rk', q1, q2, q3, q4⟩ := hok
  obtain ⟨q5, q6, q7⟩ := q4 hph
  have hlk := pr_lv_ok (O := O) (ob := 0) (pr_gw_T q1) (pr_gw_r q1) oc (fun k hk => by rw [Nat.zero_add]; exact q2 k hk)
  have tn : pr_T 0 K ((pr_lv A B O 0 oc).getD i 0) := (hlk.2.2.2 _ (pr_gd_m hf.1)).1
  obtain ⟨y', rk2, y1, y2, y3, y4, y5, y6, y7, y8, y9, y10, y11⟩ := st_all hok' hph rfl rfl hf.2.1 tn hf.2.2.1
  rw [hy] at y1
  have ey := Option.some.inj y1
  subst ey
  obtain ⟨z1, z2⟩ := y11 L2 hL2
  obtain ⟨_, _, _, _, _, _, _, _, _, rk3, rk4, u1, u2, u3, u4⟩ := z2 (ap + 1) uc'
  obtain ⟨w1, w2, w3, w4, w5, w6, w7, w8, w9, w10, w11⟩ := o8 r hf.2.1
  obtain ⟨m1, m2, m3⟩ := sr_m_some hf.2.2.1
  have hiff : ∀ x, x ∈ pr_lv A B O 0 oc ↔ pr_T 0 K x := fun x => ⟨fun h => (hlk.2.2.2 x h).1, q7 x⟩
  have hctl := pr_ct_len hlk.1 hiff
  have y4' : pm_inv K V A B (pr_us A B O (pr_lv A B O 0 oc) oc) (P r) ((pr_lv A B O 0 oc).getD i 0) 0 (s.1, s.2) := y4
  have hbT : ∀ j d, s.2 j = some d → pr_T 0 K d := fun j d hd => pm_bd y4 hd
  have htvb : ∀ q, q < pt_n (R r) → pr_by (sr_tv (R r) K V s.2 q) := pt_tv_by w4 (by_by q1 hbT 0) (by_by q1 hbT 1)
  obtain ⟨Lo, β, hall⟩ := pa_inv (tv := sr_tv (R r) K V s.2) (C := pt_has (P r) 14) q1 w1 w2 w3 w4 w6 w7 y4' (by omega) htvb
  -- the ORIGINAL is as it was
  have eK : ∀ z, 32 ≤ z → pa_K L2 (sr_b (P r) (R r) K V A B s.2 (pt_n (R r))).1 z = K z := by
    intro z hz
    unfold pa_K
    rw [if_neg (fun hh => absurd hh.1 (by omega))]
    exact (y10 z hz).1
  have e32 : ∀ z, pr_T 32 K z → pa_K L2 (sr_b (P r) (R r) K V A B s.2 (pt_n (R r))).1 z = K z ∧ (sr_b (P r) (R r) K V A B s.2 (pt_n (R r))).2.1 z = V z ∧ pa_A ((pr_lv A B O 0 oc).getD i 0) y (sr_b (P r) (R r) K V A B s.2 (pt_n (R r))).2.2.1 z = A z ∧ pa_A ((pr_lv A B O 0 oc).getD i 0) y (sr_b (P r) (R r) K V A B s.2 (pt_n (R r))).2.2.2.1 z = B z := by
    intro z hz
    obtain ⟨v1, v2, v3⟩ := (y10 z hz.1).2 hz.2.2
    refine ⟨eK z hz.1, v1, ?_, ?_⟩
    · unfold pa_A
      rw [if_neg (by have := hz.1; omega)]
      exact v2
    · unfold pa_A
      rw [if_neg (by have := hz.1; omega)]
      exact v3
  have eO : ∀ k, k < oc → pa_O ((pr_lv A B O 0 oc).getD i 0) y oc O (4 + k) = O (4 + k) := by
    intro k hk
    unfold pa_O
    rw [if_neg (fun hh => absurd hh.1 (by omega))]
  refine ⟨p1, n + 1, by rw [p2, nI_1], fun k ar hk => ?_, ?_⟩
  · rw [eO k hk, pv_same q5 e32 (q6 k hk), ← p3 k ar hk]
    obtain ⟨h, hv⟩ := pv_all (g0 := pr_ev K V A B ar 32) (ar := ar) (v0 := pr_ov (pr_ev K V A B ar 32) (s.2 0)) (v1 := pr_ov (pr_ev K V A B ar 32) (s.2 1)) w4 w6 (fun i hi => y6 i hi) hall (fun i hi hc => pt_tv_c w4 w6 (fun h => pq_cv q1 y4 h) (fun h => pq_cv q1 y4 h) i hi hc) (fun i hi hk => by
      obtain ⟨p, a1, a2, a3⟩ := w7 i hi hk
      have hb := ((y4.2.1 p (by omega) a1).2.2.1 a2).1
      rw [a3] at hb
      refine ⟨_, hb, (hbT _ _ hb).2.2, ?_⟩
      have hv2 := (w4.2 i hi).2.2.1 (by omega)
      by_cases e0 : pt_v (R r) i = 0
      · rw [if_pos e0, ← e0, hb]
        rfl
      · rw [if_neg e0]
        have e1 : pt_v (R r) i = 1 := by omega
        rw [← e1, hb]
        rfl) (pt_n (R r)) (Nat.le_refl _)
    obtain ⟨ρ, hin⟩ := hall (pt_n (R r)) (Nat.le_refl _)
    have hnsk : ¬ pb_sk (R r) (pt_has (P r) 14) (pt_n (R r) - 1) := by
      intro hsk
      have := hsk.2
      unfold pt_mx at this
      rw [hsk.1, w5.2.1] at this
      cases this
    have hyv : h y = h ((pr_lv A B O 0 oc).getD i 0) := by
      rw [hv.1 _ tn.2.2, pq_root q1 w1 w2 y4 w9 m3 (p1 r hf.2.1)]
      exact hv.2.2 _ y (by have := w5.1; omega) hnsk hy
    have hval := pv_app (Rn := (pr_lv A B O 0 oc).getD i 0) (y := y) q1 rfl hin hv hyv u1 _ (u2 k hk)
    refine hval.trans ?_
    unfold pa_O
    by_cases hc : k < oc ∧ O k = (pr_lv A B O 0 oc).getD i 0
    · rw [if_pos hc, hyv, hc.2]
      exact hv.1 _ tn.2.2
    · rw [if_neg hc]
      exact hv.1 _ (q2 k hk).2.2
  · have hlv : pr_lv (pa_A ((pr_lv A B O 0 oc).getD i 0) y (sr_b (P r) (R r) K V A B s.2 (pt_n (R r))).2.2.1) (pa_A ((pr_lv A B O 0 oc).getD i 0) y (sr_b (P r) (R r) K V A B s.2 (pt_n (R r))).2.2.2.1) (pa_O ((pr_lv A B O 0 oc).getD i 0) y oc O) 4 oc = (pr_lv A B O 4 oc).map (fun x => x) := by
      refine lv_map (T := pr_T 32 K) (fun _ _ h => h) (fun m c hm hc => (pr_gw_T q5 m c hm hc).1) (fun m hm => ?_) oc (fun k hk => ⟨q6 k hk, eO k hk⟩)
      obtain ⟨_, _, a3, a4⟩ := e32 m hm
      rw [a3, a4]
      exact ⟨by cases A m <;> rfl, by cases B m <;> rfl⟩
    have hlo := pr_lv_ok (O := O) (ob := 4) (pr_gw_T q5) (pr_gw_r q5) oc q6
    rw [hlv, sm_map, sm_congr (w' := fun s => pr_w (K s)) _ (fun x hx => by show pr_w (pa_K L2 (sr_b (P r) (R r) K V A B s.2 (pt_n (R r))).1 x) = pr_w (K x); rw [eK x (hlo.2.2.2 x hx).1.1])]
    omega
end
section
/-! optimize: the searches, one after another -/
theorem sr_ex {rc : Nat} {L : List Nat} {m : Nat → Nat → Option pm_S} (h : ∀ i r s, ¬ sr_f rc L m i r s) : sr_0 rc L m := by
  have main : ∀ i, i < L.length → ∀ r, r < rc → m r (L.getD i 0) = none := by
    intro i
    induction i using Nat.strongRecOn with
    | ind i ih =>
      intro hi r
      induction r using Nat.strongRecOn with
      | ind r ihr =>
        intro hr
        cases hm : m r (L.getD i 0) with
        | none => rfl
        | some s => exact absurd ⟨hi, hr, hm, fun i' r' a b => ih i' a (by omega) r' b, fun r' a => ihr r' a (by omega)⟩ (h i r s)
  exact fun i r hi hr => main i hi r hr
def xo_w (post : Int32 → St2 → Prop) (b : Int32) (f : Nat) (x2 x3 : Int32) (u : St2) : Prop := match u with
  | (f_maxNodes, f_maxRules, f_ruleCount, f_counterexample, f_optimized, f_nodeCount, f_outputCount, f_applications, a_preRelation, a_preVariable, a_preConstant, a_roomNeeded, a_useCount, a_treeSize, a_treeKind, a_treeValue, a_treeA, a_treeB, a_treeResult, a_constantValued, a_maximal, a_counterpart, a_boundNode, a_pending, a_pendingCount, a_nodeKind, a_nodeValue, a_nodeA, a_nodeB, a_nodeResult, a_nodeUses, a_outputNode, a_seen, a_order, a_walkStack) => wX_optimize_25 post b f x2 x3 f_maxNodes f_maxRules f_ruleCount f_counterexample f_optimized f_nodeCount f_outputCount f_applications a_preRelation a_preVariable a_preConstant a_roomNeeded a_useCount a_treeSize a_treeKind a_treeValue a_treeA a_treeB a_treeResult a_constantValued a_maximal a_counterpart a_boundNode a_pending a_pendingCount a_nodeKind a_nodeValue a_nodeA a_nodeB a_nodeResult a_nodeUses a_outputNode a_seen a_order a_walkStack
section OX
variable {f_maxNodes f_maxRules f_ruleCount f_counterexample f_optimized f_nodeCount f_outputCount f_applications : Int32} {a_preRelation a_preVariable a_preConstant a_roomNeeded a_useCount a_treeSize a_treeKind a_treeValue a_treeA a_treeB a_treeResult a_constantValued a_maximal a_counterpart a_boundNode a_pending a_pendingCount a_nodeKind a_nodeValue a_nodeA a_nodeB a_nodeResult a_nodeUses a_outputNode a_seen a_order a_walkStack : Nat → Int32}
variable {mN : Nat} {mR : Nat} {rc : Nat} {ph : Nat} {nc : Nat} {oc : Nat} {cx : Int32} {ap : Int32} {P : Nat → pr_PT} {R : Nat → pr_PT} {rl : Nat → Nat} {rj : Nat → Nat} {rK : Nat → Nat} {uc : Nat → Int32} {D : Nat → pr_PT} {ps : Nat → Nat → Nat} {dc : Nat → Nat} {dl : Nat} {dj : Nat} {dk : Nat} {K : Nat → Nat} {V : Nat → Int32} {A : Nat → Option Nat} {B : Nat → Option Nat} {O : Nat → Nat}
theorem xo_step {u : St2} {post : Int32 → St2 → Prop} {b : Int32} {f t : Nat} (ht : t < 97) (h : wpX_applyFirstMatch (fun r u' => xo_w post b f r (nI (t + 1)) u') u) : xo_w post b (f + 1) 1 (nI t) u := by
  obtain ⟨f_maxNodes, f_maxRules, f_ruleCount, f_counterexample, f_optimized, f_nodeCount, f_outputCount, f_applications, a_preRelation, a_preVariable, a_preConstant, a_roomNeeded, a_useCount, a_treeSize, a_treeKind, a_treeValue, a_treeA, a_treeB, a_treeResult, a_constantValued, a_maximal, a_counterpart, a_boundNode, a_pending, a_pendingCount, a_nodeKind, a_nodeValue, a_nodeA, a_nodeB, a_nodeResult, a_nodeUses, a_outputNode, a_seen, a_order, a_walkStack⟩ := u
  refine pk_le 97 t (fun h => absurd h (by omega)) (fun _ => br_f (by decide) ?_)
  rw [nI_1]
  have e : (fun (r : Int32) (u' : St2) => xo_w post b f r (nI (t + 1)) u') = (fun r_4 u => match u with | (f_maxNodes, f_maxRules, f_ruleCount, f_counterexample, f_optimized, f_nodeCount, f_outputCount, f_applications, a_preRelation, a_preVariable, a_preConstant, a_roomNeeded, a_useCount, a_treeSize, a_treeKind, a_treeValue, a_treeA, a_treeB, a_treeResult, a_constantValued, a_maximal, a_counterpart, a_boundNode, a_pending, a_pendingCount, a_nodeKind, a_nodeValue, a_nodeA, a_nodeB, a_nodeResult, a_nodeUses, a_outputNode, a_seen, a_order, a_walkStack) => ∀ x3_40 : Int32, x3_40 = nI (t + 1) → wX_optimize_25 post b f r_4 x3_40 f_maxNodes f_maxRules f_ruleCount f_counterexample f_optimized f_nodeCount f_outputCount f_applications a_preRelation a_preVariable a_preConstant a_roomNeeded a_useCount a_treeSize a_treeKind a_treeValue a_treeA a_treeB a_treeResult a_constantValued a_maximal a_counterpart a_boundNode a_pending a_pendingCount a_nodeKind a_nodeValue a_nodeA a_nodeB a_nodeResult a_nodeUses a_outputNode a_seen a_order a_walkStack) := by
    funext r u'
    obtain ⟨f_maxNodes', f_maxRules', f_ruleCount', f_counterexample', f_optimized', f_nodeCount', f_outputCount', f_applications', a_preRelation', a_preVariable', a_preConstant', a_roomNeeded', a_useCount', a_treeSize', a_treeKind', a_treeValue', a_treeA', a_treeB', a_treeResult', a_constantValued', a_maximal', a_counterpart', a_boundNode', a_pending', a_pendingCount', a_nodeKind', a_nodeValue', a_nodeA', a_nodeB', a_nodeResult', a_nodeUses', a_outputNode', a_seen', a_order', a_walkStack'⟩ := u'
    exact propext ⟨fun h x hx => by rw [hx]; exact h, fun h => h _ rfl⟩
  rw [e] at h
  exact h
theorem xo_end {u : St2} {post : Int32 → St2 → Prop} {b : Int32} {f t : Nat} (hx : rx mN mR rc ph nc oc cx ap P R rl rj rK uc D ps dc dl dj dk K V A B O u) (h : post (ap - b) u) : xo_w post b (f + 1) 0 (nI t) u := by
  obtain ⟨f_maxNodes, f_maxRules, f_ruleCount, f_counterexample, f_optimized, f_nodeCount, f_outputCount, f_applications, a_preRelation, a_preVariable, a_preConstant, a_roomNeeded, a_useCount, a_treeSize, a_treeKind, a_treeValue, a_treeA, a_treeB, a_treeResult, a_constantValued, a_maximal, a_counterpart, a_boundNode, a_pending, a_pendingCount, a_nodeKind, a_nodeValue, a_nodeA, a_nodeB, a_nodeResult, a_nodeUses, a_outputNode, a_seen, a_order, a_walkStack⟩ := u
  obtain ⟨e1, e2, e3, e4, e5, e6, e7, e8, h9, h10, h11, h12⟩ := hx
  subst e8
  by_cases h97 : (97 : Int32) ≤ nI t
  · exact br_t h97 h
  · exact br_f h97 (br_t rfl h)
end OX
section OZ
/-- all searches: where they end; each step keeps what q says -/
theorem op_all (q : ∀ (mN : Nat) (mR : Nat) (rc : Nat) (ph : Nat) (nc : Nat) (oc : Nat) (cx : Int32) (ap : Int32) (P : Nat → pr_PT) (R : Nat → pr_PT) (rl : Nat → Nat) (rj : Nat → Nat) (rK : Nat → Nat) (uc : Nat → Int32) (D : Nat → pr_PT) (ps : Nat → Nat → Nat) (dc : Nat → Nat) (dl : Nat) (dj : Nat) (dk : Nat) (K : Nat → Nat) (V : Nat → Int32) (A : Nat → Option Nat) (B : Nat → Option Nat) (O : Nat → Nat), Prop)
    (hq : ∀ (mN : Nat) (mR : Nat) (rc : Nat) (ph : Nat) (nc : Nat) (oc : Nat) (cx : Int32) (ap : Int32) (P : Nat → pr_PT) (R : Nat → pr_PT) (rl : Nat → Nat) (rj : Nat → Nat) (rK : Nat → Nat) (uc : Nat → Int32) (D : Nat → pr_PT) (ps : Nat → Nat → Nat) (dc : Nat → Nat) (dl : Nat) (dj : Nat) (dk : Nat) (K : Nat → Nat) (V : Nat → Int32) (A : Nat → Option Nat) (B : Nat → Option Nat) (O : Nat → Nat), sp_ok mN mR rc ph nc oc cx ap P R rl rj rK uc D ps dc dl dj dk K V A B O → ph = 1 → q mN mR rc ph nc oc cx ap P R rl rj rK uc D ps dc dl dj dk K V A B O → ∀ i r s y L2 uc', sr_f rc (pr_lv A B O 0 oc) (sr_m mN P R rl rj rK K V A B (pr_us A B O (pr_lv A B O 0 oc) oc) (pr_lv A B O 0 oc).length) i r s → (sr_b (P r) (R r) K V A B s.2 (pt_n (R r))).2.2.2.2 (pt_n (R r) - 1) = some y → L2 = pr_lv (pa_A ((pr_lv A B O 0 oc).getD i 0) y (sr_b (P r) (R r) K V A B s.2 (pt_n (R r))).2.2.1) (pa_A ((pr_lv A B O 0 oc).getD i 0) y (sr_b (P r) (R r) K V A B s.2 (pt_n (R r))).2.2.2.1) (pa_O ((pr_lv A B O 0 oc).getD i 0) y oc O) 0 oc →
      q mN mR rc ph nc oc cx (ap + 1) P R rl rj rK uc' D ps dc dl dj dk (pa_K L2 (sr_b (P r) (R r) K V A B s.2 (pt_n (R r))).1) ((sr_b (P r) (R r) K V A B s.2 (pt_n (R r))).2.1) (pa_A ((pr_lv A B O 0 oc).getD i 0) y (sr_b (P r) (R r) K V A B s.2 (pt_n (R r))).2.2.1) (pa_A ((pr_lv A B O 0 oc).getD i 0) y (sr_b (P r) (R r) K V A B s.2 (pt_n (R r))).2.2.2.1) (pa_O ((pr_lv A B O 0 oc).getD i 0) y oc O)) :
    ∀ (w : Nat) (mN : Nat) (mR : Nat) (rc : Nat) (ph : Nat) (nc : Nat) (oc : Nat) (cx : Int32) (ap : Int32) (P : Nat → pr_PT) (R : Nat → pr_PT) (rl : Nat → Nat) (rj : Nat → Nat) (rK : Nat → Nat) (uc : Nat → Int32) (D : Nat → pr_PT) (ps : Nat → Nat → Nat) (dc : Nat → Nat) (dl : Nat) (dj : Nat) (dk : Nat) (K : Nat → Nat) (V : Nat → Int32) (A : Nat → Option Nat) (B : Nat → Option Nat) (O : Nat → Nat), sp_ok mN mR rc ph nc oc cx ap P R rl rj rK uc D ps dc dl dj dk K V A B O → ph = 1 → q mN mR rc ph nc oc cx ap P R rl rj rK uc D ps dc dl dj dk K V A B O → pr_W K ≤ w → ∃ (ap' : Int32) (uc' : Nat → Int32) (K' : Nat → Nat) (V' : Nat → Int32) (A' B' : Nat → Option Nat) (O' : Nat → Nat), sp_ok mN mR rc ph nc oc cx ap' P R rl rj rK uc' D ps dc dl dj dk K' V' A' B' O' ∧ q mN mR rc ph nc oc cx ap' P R rl rj rK uc' D ps dc dl dj dk K' V' A' B' O' ∧
    (∀ (u : St2) (post : Int32 → St2 → Prop) (b : Int32) (t f : Nat), rx mN mR rc ph nc oc cx ap P R rl rj rK uc D ps dc dl dj dk K V A B O u → t + pr_W K < 97 → 99 ≤ f + t → (∀ u', rx mN mR rc ph nc oc cx ap' P R rl rj rK uc' D ps dc dl dj dk K' V' A' B' O' u' → post (ap' - b) u') → xo_w post b f 1 (nI t) u) := by
  intro w
  induction w with
  | zero =>
    intro mN mR rc ph nc oc cx ap P R rl rj rK uc D ps dc dl dj dk K V A B O hok hph hqq hw
    have h0 : sr_0 rc (pr_lv A B O 0 oc) (sr_m mN P R rl rj rK K V A B (pr_us A B O (pr_lv A B O 0 oc) oc) (pr_lv A B O 0 oc).length) := by
      refine sr_ex fun i r s hf => ?_
      have tn : pr_T 0 K ((pr_lv A B O 0 oc).getD i 0) := by
        obtain ⟨o1, o2, o3, o4, o5, o6, o7, o8, o9, rk, rk', q1, q2, q3, q4⟩ := hok
        have hlk := pr_lv_ok (O := O) (ob := 0) (pr_gw_T q1) (pr_gw_r q1) oc (fun k hk => by rw [Nat.zero_add]; exact q2 k hk)
        exact (hlk.2.2.2 _ (pr_gd_m hf.1)).1
      obtain ⟨y, rk2, y1, y2, y3, y4, y5, y6, y7, y8, y9, y10, y11⟩ := st_all hok hph rfl rfl hf.2.1 tn hf.2.2.1
      have := (y11 _ rfl).1
      omega
    refine ⟨ap, uc, K, V, A, B, O, hok, hqq, fun u post b t f hx ht hf hp => ?_⟩
    obtain ⟨g, rfl⟩ : ∃ g, f = g + 2 := ⟨f - 2, by omega⟩
    exact xo_step (by omega) (rx_afm hok hph hx rfl rfl (fun _ u' hu' => xo_end hu' (hp u' hu')) (fun i r s y L2 hsf => absurd hsf (fun hsf => (sr_0f hsf h0).elim)))
  | succ w ih =>
    intro mN mR rc ph nc oc cx ap P R rl rj rK uc D ps dc dl dj dk K V A B O hok hph hqq hw
    by_cases h0 : sr_0 rc (pr_lv A B O 0 oc) (sr_m mN P R rl rj rK K V A B (pr_us A B O (pr_lv A B O 0 oc) oc) (pr_lv A B O 0 oc).length)
    · refine ⟨ap, uc, K, V, A, B, O, hok, hqq, fun u post b t f hx ht hf hp => ?_⟩
      obtain ⟨g, rfl⟩ : ∃ g, f = g + 2 := ⟨f - 2, by omega⟩
      exact xo_step (by omega) (rx_afm hok hph hx rfl rfl (fun _ u' hu' => xo_end hu' (hp u' hu')) (fun i r s y L2 hsf => absurd hsf (fun hsf => (sr_0f hsf h0).elim)))
    · have hex : ∃ i r s, sr_f rc (pr_lv A B O 0 oc) (sr_m mN P R rl rj rK K V A B (pr_us A B O (pr_lv A B O 0 oc) oc) (pr_lv A B O 0 oc).length) i r s := by
        apply Classical.byContradiction
        intro hn
        exact h0 (sr_ex fun i r s hf => hn ⟨i, r, s, hf⟩)
      obtain ⟨i, r, s, hf0⟩ := hex
      have tn : pr_T 0 K ((pr_lv A B O 0 oc).getD i 0) := by
        obtain ⟨o1, o2, o3, o4, o5, o6, o7, o8, o9, rk, rk', q1, q2, q3, q4⟩ := hok
        have hlk := pr_lv_ok (O := O) (ob := 0) (pr_gw_T q1) (pr_gw_r q1) oc (fun k hk => by rw [Nat.zero_add]; exact q2 k hk)
        exact (hlk.2.2.2 _ (pr_gd_m hf0.1)).1
      obtain ⟨y, rk2, y1, y2, y3, y4, y5, y6, y7, y8, y9, y10, y11⟩ := st_all hok hph rfl rfl hf0.2.1 tn hf0.2.2.1
      obtain ⟨z1, z2⟩ := y11 _ rfl
      obtain ⟨ap', uc', K', V', A', B', O', r1, r2, r3⟩ := ih _ _ _ _ _ _ _ _ _ _ _ _ _ _ _ _ _ _ _ _ _ _ _ _ _ (z2 (ap + 1) (pr_st uc r (uc r + 1))) hph (hq _ _ _ _ _ _ _ _ _ _ _ _ _ _ _ _ _ _ _ _ _ _ _ _ _ hok hph hqq i r s y _ _ hf0 y1 rfl) (by omega)
      refine ⟨ap', uc', K', V', A', B', O', r1, r2, fun u post b t f hx ht hf hp => ?_⟩
      obtain ⟨g, rfl⟩ : ∃ g, f = g + 1 := ⟨f - 1, by omega⟩
      refine xo_step (by omega) (rx_afm hok hph hx rfl rfl (fun hn => absurd hn h0) (fun i' r' s' y' L2 hsf hy' hL2 u' hu' => ?_))
      obtain ⟨ei, er, es⟩ := sr_u hf0 hsf
      subst ei er es
      rw [y1] at hy'
      cases hy'
      subst hL2
      exact r3 u' post b (t + 1) g hu' (by omega) (by omega) hp
end OZ
end
section
/-! the ORIGINAL kept; optimize -/
def k0_f {α : Type} (f : Nat → α) : Nat → α := fun x => if x < 32 then f x else f (x - 32)
def k0_s (o : Option Nat) : Option Nat := match o with
  | none => none
  | some c => some (c + 32)
def k0_A (f : Nat → Option Nat) : Nat → Option Nat := fun x => if x < 32 then f x else k0_s (f (x - 32))
def k0_O (O : Nat → Nat) : Nat → Nat := fun k => if k < 4 then O k else O (k - 4) + 32
theorem k0_lo {α : Type} {f : Nat → α} {x : Nat} (h : x < 32) : k0_f f x = f x := if_pos h
theorem k0_hi {α : Type} {f : Nat → α} {x : Nat} : k0_f f (32 + x) = f x := by
  unfold k0_f
  rw [if_neg (by omega), show 32 + x - 32 = x by omega]
theorem k0_Alo {f : Nat → Option Nat} {x : Nat} (h : x < 32) : k0_A f x = f x := if_pos h
theorem k0_Ahi {f : Nat → Option Nat} {x : Nat} : k0_A f (32 + x) = k0_s (f x) := by
  unfold k0_A
  rw [if_neg (by omega), show 32 + x - 32 = x by omega]
theorem k0_s_s {o : Option Nat} {c : Nat} (h : k0_s o = some c) : ∃ d, o = some d ∧ c = d + 32 := by
  cases o with
  | none => cases h
  | some d =>
    refine ⟨d, rfl, ?_⟩
    exact (Option.some.inj h).symm
theorem k0_gw0 {K : Nat → Nat} {V : Nat → Int32} {A B : Nat → Option Nat} {rk : Nat → Nat} (h : pr_gw 0 K V A B rk) : pr_gw 0 (k0_f K) (k0_f V) (k0_A A) (k0_A B) rk := by
  intro n hn
  have hn32 : n < 32 := by have := hn.2.1; omega
  have hn' : pr_T 0 K n := ⟨hn.1, hn.2.1, by have := hn.2.2; rw [k0_lo hn32] at this; exact this⟩
  rw [k0_lo hn32, k0_lo hn32, k0_Alo hn32, k0_Alo hn32]
  obtain ⟨g1, g2, g3, g4, g5, g6, g7, g8, g9, g10⟩ := h n hn'
  refine ⟨g1, g2, g3, g4, g5, g6, g7, g8, g9, fun c hc => ?_⟩
  have := g10 c hc
  exact ⟨⟨this.1.1, this.1.2.1, by rw [k0_lo (by have := this.1.2.1; omega)]; exact this.1.2.2⟩, this.2⟩
theorem k0_gw32 {K : Nat → Nat} {V : Nat → Int32} {A B : Nat → Option Nat} {rk : Nat → Nat} {L : List Nat} (h : pr_gw 0 K V A B rk) : pr_gw 32 (pa_K L (k0_f K)) (k0_f V) (k0_A A) (k0_A B) (fun x => rk (x - 32)) := by
  have eK : ∀ x, 32 ≤ x → pa_K L (k0_f K) x = K (x - 32) := by
    intro x hx
    unfold pa_K k0_f
    rw [if_neg (fun hh => absurd hh.1 (by omega)), if_neg (by omega)]
  intro n hn
  have h32 : 32 ≤ n := hn.1
  obtain ⟨m, rfl⟩ : ∃ m, n = 32 + m := ⟨n - 32, by omega⟩
  have hm := hn.2.2
  rw [eK _ h32, show 32 + m - 32 = m by omega] at hm
  have hm' : pr_T 0 K m := ⟨by omega, by have := hn.2.1; omega, hm⟩
  rw [eK _ h32, k0_hi, k0_Ahi, k0_Ahi, show 32 + m - 32 = m by omega]
  obtain ⟨g1, g2, g3, g4, g5, g6, g7, g8, g9, g10⟩ := h m hm'
  refine ⟨g1, by show rk (32 + m - 32) < 32; rw [show 32 + m - 32 = m by omega]; exact g2, g3, g4, g5, fun h => by rw [g6 h]; rfl, fun h => by rw [g7 h]; rfl, fun h => ?_, fun h => ?_, fun c hc => ?_⟩
  · obtain ⟨c, hc⟩ := g8 h
    rw [hc]
    exact ⟨c + 32, rfl⟩
  · obtain ⟨c, hc⟩ := g9 h
    rw [hc]
    exact ⟨c + 32, rfl⟩
  · have hd : ∃ d, (A m = some d ∨ B m = some d) ∧ c = d + 32 := by
      rcases hc with hc | hc
      · obtain ⟨d, d1, d2⟩ := k0_s_s hc
        exact ⟨d, Or.inl d1, d2⟩
      · obtain ⟨d, d1, d2⟩ := k0_s_s hc
        exact ⟨d, Or.inr d1, d2⟩
    obtain ⟨d, d1, rfl⟩ := hd
    have := g10 d d1
    refine ⟨⟨by omega, by have := this.1.2.1; omega, ?_⟩, ?_⟩
    · rw [eK _ (by omega), show d + 32 - 32 = d by omega]
      exact this.1.2.2
    · show rk (d + 32 - 32) < rk (32 + m - 32)
      rw [show d + 32 - 32 = d by omega, show 32 + m - 32 = m by omega]
      exact this.2
section KPs
variable {mN : Nat} {mR : Nat} {rc : Nat} {ph : Nat} {nc : Nat} {oc : Nat} {cx : Int32} {ap : Int32} {P : Nat → pr_PT} {R : Nat → pr_PT} {rl : Nat → Nat} {rj : Nat → Nat} {rK : Nat → Nat} {uc : Nat → Int32} {D : Nat → pr_PT} {ps : Nat → Nat → Nat} {dc : Nat → Nat} {dl : Nat} {dj : Nat} {dk : Nat} {K : Nat → Nat} {V : Nat → Int32} {A : Nat → Option Nat} {B : Nat → Option Nat} {O : Nat → Nat}
theorem sp_keep (h : sp_ok mN mR rc ph nc oc cx ap P R rl rj rK uc D ps dc dl dj dk K V A B O) (hph : ph = 0) {L : List Nat} (hL : L = pr_lv (k0_A A) (k0_A B) (k0_O O) 0 oc) : sp_ok mN mR rc 1 nc oc cx ap P R rl rj rK uc D ps dc dl dj dk (pa_K L (k0_f K)) (k0_f V) (k0_A A) (k0_A B) (k0_O O) := by
  obtain ⟨o1, o2, o3, o4, o5, o6, o7, o8, o9, rk, rk', q1, q2, q3, q4⟩ := h
  have g0 := k0_gw0 q1
  have hO0 : ∀ k, k < oc → pr_T 0 (k0_f K) (k0_O O k) := by
    intro k hk
    have := q2 k hk
    unfold k0_O
    rw [if_pos (by omega)]
    exact ⟨this.1, this.2.1, by rw [k0_lo (by have := this.2.1; omega)]; exact this.2.2⟩
  obtain ⟨l1, l2, l3, l4⟩ := pr_lv_ok (O := k0_O O) (ob := 0) (pr_gw_T g0) (pr_gw_r g0) oc (fun k hk => by rw [Nat.zero_add]; exact hO0 k hk)
  rw [← hL] at l1 l2 l3 l4
  refine ⟨o1, o2, o3, o4, o5, by omega, o7, o8, o9, rk, fun x => rk (x - 32), pr_gw_del g0 l2, fun k hk => ?_, fun h => absurd h (by omega), fun _ => ⟨k0_gw32 q1, fun k hk => ?_, fun x hx => ?_⟩⟩
  · have h1 := hO0 k hk
    have h2 := l3 k hk
    rw [Nat.zero_add] at h2
    refine ⟨h1.1, h1.2.1, ?_⟩
    unfold pa_K
    rw [if_neg (fun hh => hh.2 h2)]
    exact h1.2.2
  · have := q2 k hk
    have e : k0_O O (4 + k) = O k + 32 := by
      unfold k0_O
      rw [if_neg (by omega), show 4 + k - 4 = k by omega]
    rw [e]
    refine ⟨by omega, by have := this.2.1; omega, ?_⟩
    unfold pa_K k0_f
    rw [if_neg (fun hh => absurd hh.1 (by omega)), if_neg (by omega), show O k + 32 - 32 = O k by omega]
    exact this.2.2
  · rw [← hL]
    apply Classical.byContradiction
    intro h
    have h2 := hx.2.2
    unfold pa_K at h2
    rw [if_pos ⟨by have := hx.2.1; omega, h⟩] at h2
    exact h2 rfl
end KPs
/-- both graphs in the arrays, once the ORIGINAL is kept -/
theorem gr_keep {oc : Nat} {K : Nat → Nat} {V : Nat → Int32} {A B : Nat → Option Nat} {rk O : Nat → Nat} {L : List Nat} {nk nv na nb ou nk' nv' na' nb' ou' : Nat → Int32} (hG : pr_gw 0 K V A B rk) (hoc : oc ≤ 4) (hg : gr_at 0 K V A B nk nv na nb) (hou : ∀ k, k < oc → ou k = nI (O k))
    (h1 : ∀ n, n < 32 → nk' n = nk n ∧ nv' n = nv n ∧ na' n = na n ∧ nb' n = nb n)
    (h2 : ∀ n, pr_T 0 K n → nk' (32 + n) = nk n ∧ nv' (32 + n) = nv n ∧ na' (32 + n) = (if na n = -1 then -1 else na n + 32) ∧ nb' (32 + n) = (if nb n = -1 then -1 else nb n + 32))
    (h3 : ∀ k, k < oc → ou' k = ou k ∧ ou' (4 + k) = ou k + 32) :
    gr_all 1 oc (pa_K L (k0_f K)) (k0_f V) (k0_A A) (k0_A B) (k0_O O) nk' nv' na' nb' ou' ∧ gr_at 0 (k0_f K) (k0_f V) (k0_A A) (k0_A B) nk' nv' na' nb' := by
  have g0 : gr_at 0 (k0_f K) (k0_f V) (k0_A A) (k0_A B) nk' nv' na' nb' := by
    intro n hn
    have hn32 : n < 32 := by have := hn.2.1; omega
    have hn' : pr_T 0 K n := ⟨hn.1, hn.2.1, by have := hn.2.2; rw [k0_lo hn32] at this; exact this⟩
    obtain ⟨a1, a2, a3, a4⟩ := h1 n hn32
    rw [k0_lo hn32, k0_lo hn32, k0_Alo hn32, k0_Alo hn32, a1, a2, a3, a4]
    exact hg n hn'
  refine ⟨⟨gr_pa g0, fun k hk => ?_, fun _ => ⟨fun n hn => ?_, fun k hk => ?_⟩⟩, g0⟩
  · unfold k0_O
    rw [if_pos (by omega), (h3 k hk).1]
    exact hou k hk
  · have h32 : 32 ≤ n := hn.1
    obtain ⟨m, rfl⟩ : ∃ m, n = 32 + m := ⟨n - 32, by omega⟩
    have eK : pa_K L (k0_f K) (32 + m) = K m := by
      unfold pa_K
      rw [if_neg (fun hh => absurd hh.1 (by omega)), k0_hi]
    have hm := hn.2.2
    rw [eK] at hm
    have hm' : pr_T 0 K m := ⟨by omega, by have := hn.2.1; omega, hm⟩
    obtain ⟨a1, a2, a3, a4⟩ := h2 m hm'
    obtain ⟨z1, z2, z3, z4⟩ := hg m hm'
    rw [eK, k0_hi, k0_Ahi, k0_Ahi, a1, a2, a3, a4, z3, z4]
    have hs : ∀ o : Option Nat, (∀ c, o = some c → c < 32) → (if pr_oI o = -1 then -1 else pr_oI o + 32) = pr_oI (k0_s o) := by
      intro o ho
      cases o with
      | none => exact if_pos rfl
      | some c =>
        have := ho c rfl
        exact (if_neg (pr_ne1 (a := c) (by omega))).trans (nI_add c 32)
    refine ⟨z1, z2, hs _ fun c hc => ?_, hs _ fun c hc => ?_⟩
    · have := (pr_gw_T hG m c hm' (Or.inl hc)).1.2.1
      omega
    · have := (pr_gw_T hG m c hm' (Or.inr hc)).1.2.1
      omega
  · unfold k0_O
    rw [if_neg (by omega), show 4 + k - 4 = k by omega, (h3 k hk).2, hou k hk]
    exact nI_add (O k) 32
section KPx
variable {f_maxNodes f_maxRules f_ruleCount f_counterexample f_optimized f_nodeCount f_outputCount f_applications : Int32} {a_preRelation a_preVariable a_preConstant a_roomNeeded a_useCount a_treeSize a_treeKind a_treeValue a_treeA a_treeB a_treeResult a_constantValued a_maximal a_counterpart a_boundNode a_pending a_pendingCount a_nodeKind a_nodeValue a_nodeA a_nodeB a_nodeResult a_nodeUses a_outputNode a_seen a_order a_walkStack : Nat → Int32}
theorem x_keep {post : St2 → Prop} {nc oc : Nat} (hnc : nc ≤ 32) (hoc : oc ≤ 4)
    (h : ∀ nk nv na nb ou, (∀ n, n < 32 → nk n = a_nodeKind n ∧ nv n = a_nodeValue n ∧ na n = a_nodeA n ∧ nb n = a_nodeB n) → (∀ n, n < nc → nk (32 + n) = a_nodeKind n ∧ nv (32 + n) = a_nodeValue n ∧ na (32 + n) = (if a_nodeA n = -1 then -1 else a_nodeA n + 32) ∧ nb (32 + n) = (if a_nodeB n = -1 then -1 else a_nodeB n + 32)) → (∀ k, k < oc → ou k = a_outputNode k ∧ ou (4 + k) = a_outputNode k + 32) → post (f_maxNodes, f_maxRules, f_ruleCount, f_counterexample, f_optimized, (nI nc), (nI oc), f_applications, a_preRelation, a_preVariable, a_preConstant, a_roomNeeded, a_useCount, a_treeSize, a_treeKind, a_treeValue, a_treeA, a_treeB, a_treeResult, a_constantValued, a_maximal, a_counterpart, a_boundNode, a_pending, a_pendingCount, nk, nv, na, nb, a_nodeResult, a_nodeUses, ou, a_seen, a_order, a_walkStack)) : wpX_keepOriginal post (f_maxNodes, f_maxRules, f_ruleCount, f_counterexample, f_optimized, (nI nc), (nI oc), f_applications, a_preRelation, a_preVariable, a_preConstant, a_roomNeeded, a_useCount, a_treeSize, a_treeKind, a_treeValue, a_treeA, a_treeB, a_treeResult, a_constantValued, a_maximal, a_counterpart, a_boundNode, a_pending, a_pendingCount, a_nodeKind, a_nodeValue, a_nodeA, a_nodeB, a_nodeResult, a_nodeUses, a_outputNode, a_seen, a_order, a_walkStack) := by
  have l88 : ∀ nk nv na nb, (∀ ou, (∀ k, k < oc → ou k = a_outputNode k ∧ ou (4 + k) = a_outputNode k + 32) → post (f_maxNodes, f_maxRules, f_ruleCount, f_counterexample, f_optimized, (nI nc), (nI oc), f_applications, a_preRelation, a_preVariable, a_preConstant, a_roomNeeded, a_useCount, a_treeSize, a_treeKind, a_treeValue, a_treeA, a_treeB, a_treeResult, a_constantValued, a_maximal, a_counterpart, a_boundNode, a_pending, a_pendingCount, nk, nv, na, nb, a_nodeResult, a_nodeUses, ou, a_seen, a_order, a_walkStack)) → ∀ d i ou, i + d = oc → (∀ k, k < 4 → ou k = a_outputNode k) → (∀ k, k < i → ou (4 + k) = a_outputNode k + 32) → wX_keepOriginal_88 post f_maxNodes f_maxRules f_ruleCount f_counterexample f_optimized (nI nc) (nI oc) f_applications (d + 1) (nI i) a_preRelation a_preVariable a_preConstant a_roomNeeded a_useCount a_treeSize a_treeKind a_treeValue a_treeA a_treeB a_treeResult a_constantValued a_maximal a_counterpart a_boundNode a_pending a_pendingCount nk nv na nb a_nodeResult a_nodeUses ou a_seen a_order a_walkStack := by
    intro nk nv na nb hp d
    induction d with
    | zero =>
      intro i ou hi h1 h2
      have e : i = oc := by omega
      subst e
      exact pk_le i i (fun _ => hp ou fun k hk => ⟨h1 k (by omega), h2 k hk⟩) (fun h => absurd h (by omega))
    | succ d ih =>
      intro i ou hi h1 h2
      have e4 : (4 : Int32) + nI i = nI (4 + i) := nI_add 4 i
      refine pk_le oc i (fun h => absurd h (by omega)) (fun _ => ⟨pk_in i 8 (by omega), ?_⟩)
      rw [e4, nI_clamp (n := 4 + i) (by omega), nI_clamp (n := i) (by omega), h1 i (by omega)]
      refine ⟨pk_in (4 + i) 8 (by omega), nm_e (nm_r (nI_1 _) (ih (i + 1) _ (by omega) (fun k hk => ?_) (fun k hk => ?_)))⟩
      · rw [pk_un (by omega)]
        exact h1 k hk
      · by_cases e : k = i
        · rw [e, pk_us]
        · rw [pk_un (by omega)]
          exact h2 k (by omega)
  have l2 : ∀ d i nk nv na nb, i + d = nc → (∀ n, n < 32 → nk n = a_nodeKind n ∧ nv n = a_nodeValue n ∧ na n = a_nodeA n ∧ nb n = a_nodeB n) → (∀ n, n < i → nk (32 + n) = a_nodeKind n ∧ nv (32 + n) = a_nodeValue n ∧ na (32 + n) = (if a_nodeA n = -1 then -1 else a_nodeA n + 32) ∧ nb (32 + n) = (if a_nodeB n = -1 then -1 else a_nodeB n + 32)) → wX_keepOriginal_2 post (d + 1) (nI i) f_maxNodes f_maxRules f_ruleCount f_counterexample f_optimized (nI nc) (nI oc) f_applications a_preRelation a_preVariable a_preConstant a_roomNeeded a_useCount a_treeSize a_treeKind a_treeValue a_treeA a_treeB a_treeResult a_constantValued a_maximal a_counterpart a_boundNode a_pending a_pendingCount nk nv na nb a_nodeResult a_nodeUses a_outputNode a_seen a_order a_walkStack := by
    intro d
    induction d with
    | zero =>
      intro i nk nv na nb hi h1 h2
      have e : i = nc := by omega
      subst e
      exact pk_le i i (fun _ => ⟨oc + 1, l88 nk nv na nb (fun ou ho => h nk nv na nb ou h1 h2 ho) oc 0 _ (by omega) (fun _ _ => rfl) (fun k hk => absurd hk (by omega))⟩) (fun h => absurd h (by omega))
    | succ d ih =>
      intro i nk nv na nb hi h1 h2
      have hin : vp_in (nI i) 64 := pk_in i 64 (by omega)
      have hcl : (nI i).toNatClampNeg = i := nI_clamp (by omega)
      obtain ⟨a1, a2, a3, a4⟩ := h1 i (by omega)
      have ex : nI i + 32 = nI (32 + i) := by
        rw [show (32 : Int32) = nI 32 from rfl, nI_add, Nat.add_comm]
      have h57 : ∀ xa xb, xa = (if a_nodeA i = -1 then -1 else a_nodeA i + 32) → xb = (if a_nodeB i = -1 then -1 else a_nodeB i + 32) → wX_keepOriginal_57 post (wX_keepOriginal_2 post (d + 1)) (nI i) xa xb f_maxNodes f_maxRules f_ruleCount f_counterexample f_optimized (nI nc) (nI oc) f_applications a_preRelation a_preVariable a_preConstant a_roomNeeded a_useCount a_treeSize a_treeKind a_treeValue a_treeA a_treeB a_treeResult a_constantValued a_maximal a_counterpart a_boundNode a_pending a_pendingCount nk nv na nb a_nodeResult a_nodeUses a_outputNode a_seen a_order a_walkStack := by
        intro xa xb ea eb
        refine ⟨hin, hin, ?_⟩
        rw [hcl, ex, a1, a2]
        refine x_setNode (by omega) (nm_r (nI_1 _) (ih (i + 1) _ _ _ _ (by omega) (fun n hn => ?_) (fun n hn => ?_)))
        · rw [pk_un (by omega), pk_un (by omega), pk_un (by omega), pk_un (by omega)]
          exact h1 n hn
        · by_cases e : n = i
          · rw [e, pk_us, pk_us, pk_us, pk_us]
            exact ⟨rfl, rfl, ea, eb⟩
          · rw [pk_un (by omega), pk_un (by omega), pk_un (by omega), pk_un (by omega)]
            exact h2 n (by omega)
      have h33 : ∀ xa, xa = (if a_nodeA i = -1 then -1 else a_nodeA i + 32) → wX_keepOriginal_33 post (wX_keepOriginal_2 post (d + 1)) (nI i) xa f_maxNodes f_maxRules f_ruleCount f_counterexample f_optimized (nI nc) (nI oc) f_applications a_preRelation a_preVariable a_preConstant a_roomNeeded a_useCount a_treeSize a_treeKind a_treeValue a_treeA a_treeB a_treeResult a_constantValued a_maximal a_counterpart a_boundNode a_pending a_pendingCount nk nv na nb a_nodeResult a_nodeUses a_outputNode a_seen a_order a_walkStack := by
        intro xa ea
        refine ⟨hin, ?_⟩
        rw [hcl, a4]
        exact br_c (fun e => h57 xa _ ea (by rw [if_pos e])) (fun e => ⟨hin, h57 xa _ ea (by rw [if_neg e])⟩)
      refine pk_le nc i (fun h => absurd h (by omega)) (fun _ => ⟨hin, ?_⟩)
      rw [hcl, a3]
      exact br_c (fun e => h33 _ (by rw [if_pos e])) (fun e => ⟨hin, h33 _ (by rw [if_neg e])⟩)
  exact ⟨nc + 1, l2 nc 0 _ _ _ _ (by omega) (fun _ _ => ⟨rfl, rfl, rfl, rfl⟩) (fun n hn => absurd hn (by omega))⟩
end KPx
section KPz
variable {mN : Nat} {mR : Nat} {rc : Nat} {ph : Nat} {nc : Nat} {oc : Nat} {cx : Int32} {ap : Int32} {P : Nat → pr_PT} {R : Nat → pr_PT} {rl : Nat → Nat} {rj : Nat → Nat} {rK : Nat → Nat} {uc : Nat → Int32} {D : Nat → pr_PT} {ps : Nat → Nat → Nat} {dc : Nat → Nat} {dl : Nat} {dj : Nat} {dk : Nat} {K : Nat → Nat} {V : Nat → Int32} {A : Nat → Option Nat} {B : Nat → Option Nat} {O : Nat → Nat}
/-- optimize: what q says is kept by the steps, and holds when the ORIGINAL is kept -/
theorem rx_opt {u : St2} {post : Int32 → St2 → Prop} (q : ∀ (mN : Nat) (mR : Nat) (rc : Nat) (ph : Nat) (nc : Nat) (oc : Nat) (cx : Int32) (ap : Int32) (P : Nat → pr_PT) (R : Nat → pr_PT) (rl : Nat → Nat) (rj : Nat → Nat) (rK : Nat → Nat) (uc : Nat → Int32) (D : Nat → pr_PT) (ps : Nat → Nat → Nat) (dc : Nat → Nat) (dl : Nat) (dj : Nat) (dk : Nat) (K : Nat → Nat) (V : Nat → Int32) (A : Nat → Option Nat) (B : Nat → Option Nat) (O : Nat → Nat), Prop)
    (hq : ∀ (mN : Nat) (mR : Nat) (rc : Nat) (ph : Nat) (nc : Nat) (oc : Nat) (cx : Int32) (ap : Int32) (P : Nat → pr_PT) (R : Nat → pr_PT) (rl : Nat → Nat) (rj : Nat → Nat) (rK : Nat → Nat) (uc : Nat → Int32) (D : Nat → pr_PT) (ps : Nat → Nat → Nat) (dc : Nat → Nat) (dl : Nat) (dj : Nat) (dk : Nat) (K : Nat → Nat) (V : Nat → Int32) (A : Nat → Option Nat) (B : Nat → Option Nat) (O : Nat → Nat), sp_ok mN mR rc ph nc oc cx ap P R rl rj rK uc D ps dc dl dj dk K V A B O → ph = 1 → q mN mR rc ph nc oc cx ap P R rl rj rK uc D ps dc dl dj dk K V A B O → ∀ i r s y L2 uc', sr_f rc (pr_lv A B O 0 oc) (sr_m mN P R rl rj rK K V A B (pr_us A B O (pr_lv A B O 0 oc) oc) (pr_lv A B O 0 oc).length) i r s → (sr_b (P r) (R r) K V A B s.2 (pt_n (R r))).2.2.2.2 (pt_n (R r) - 1) = some y → L2 = pr_lv (pa_A ((pr_lv A B O 0 oc).getD i 0) y (sr_b (P r) (R r) K V A B s.2 (pt_n (R r))).2.2.1) (pa_A ((pr_lv A B O 0 oc).getD i 0) y (sr_b (P r) (R r) K V A B s.2 (pt_n (R r))).2.2.2.1) (pa_O ((pr_lv A B O 0 oc).getD i 0) y oc O) 0 oc →
      q mN mR rc ph nc oc cx (ap + 1) P R rl rj rK uc' D ps dc dl dj dk (pa_K L2 (sr_b (P r) (R r) K V A B s.2 (pt_n (R r))).1) ((sr_b (P r) (R r) K V A B s.2 (pt_n (R r))).2.1) (pa_A ((pr_lv A B O 0 oc).getD i 0) y (sr_b (P r) (R r) K V A B s.2 (pt_n (R r))).2.2.1) (pa_A ((pr_lv A B O 0 oc).getD i 0) y (sr_b (P r) (R r) K V A B s.2 (pt_n (R r))).2.2.2.1) (pa_O ((pr_lv A B O 0 oc).getD i 0) y oc O))
    (hok : sp_ok mN mR rc ph nc oc cx ap P R rl rj rK uc D ps dc dl dj dk K V A B O) (hx : rx mN mR rc ph nc oc cx ap P R rl rj rK uc D ps dc dl dj dk K V A B O u) (h1 : ph = 1 → q mN mR rc ph nc oc cx ap P R rl rj rK uc D ps dc dl dj dk K V A B O) (h0 : ph = 0 → ∀ L, L = pr_lv (k0_A A) (k0_A B) (k0_O O) 0 oc → q mN mR rc 1 nc oc cx ap P R rl rj rK uc D ps dc dl dj dk (pa_K L (k0_f K)) (k0_f V) (k0_A A) (k0_A B) (k0_O O))
    (h : ∀ a ap' uc' K' V' A' B' O' u', sp_ok mN mR rc 1 nc oc cx ap' P R rl rj rK uc' D ps dc dl dj dk K' V' A' B' O' → q mN mR rc 1 nc oc cx ap' P R rl rj rK uc' D ps dc dl dj dk K' V' A' B' O' → rx mN mR rc 1 nc oc cx ap' P R rl rj rK uc' D ps dc dl dj dk K' V' A' B' O' u' → post a u') : wpX_optimize post u := by
  have hphc : ph = 0 ∨ ph = 1 := by have := hok.2.2.2.2.2.1; omega
  rcases hphc with hph | hph
  · subst hph
    have hsp := sp_keep hok rfl (L := pr_lv (k0_A A) (k0_A B) (k0_O O) 0 oc) rfl
    obtain ⟨ap', uc', K', V', A', B', O', r1, r2, r3⟩ := op_all q hq 96 _ _ _ _ _ _ _ _ _ _ _ _ _ _ _ _ _ _ _ _ _ _ _ _ _ hsp rfl (h0 rfl _ rfl) (pr_W_le _)
    have hW := pr_W_le (pa_K (pr_lv (k0_A A) (k0_A B) (k0_O O) 0 oc) (k0_f K))
    obtain ⟨f_maxNodes, f_maxRules, f_ruleCount, f_counterexample, f_optimized, f_nodeCount, f_outputCount, f_applications, a_preRelation, a_preVariable, a_preConstant, a_roomNeeded, a_useCount, a_treeSize, a_treeKind, a_treeValue, a_treeA, a_treeB, a_treeResult, a_constantValued, a_maximal, a_counterpart, a_boundNode, a_pending, a_pendingCount, a_nodeKind, a_nodeValue, a_nodeA, a_nodeB, a_nodeResult, a_nodeUses, a_outputNode, a_seen, a_order, a_walkStack⟩ := u
    obtain ⟨e1, e2, e3, e4, e5, e6, e7, e8, h9, h10, h11, h12⟩ := hx
    subst e1 e2 e3 e4 e5 e6 e7 e8
    obtain ⟨o1, o2, o3, o4, o5, o6, o7, o8, o9, rk, rk', q1, q2, q3, q4⟩ := hok
    obtain ⟨q5, q6, q7⟩ := q3 rfl
    unfold wpX_optimize
    refine br_t rfl (x_keep (by omega) o7 (fun nk nv na nb ou k1 k2 k3 => ⟨100, ?_⟩))
    have hT2 : ∀ m, pr_T 0 K m → m < nc := fun m hm => by
      apply Classical.byContradiction
      intro hh
      exact hm.2.2 ((q7 m (by have := hm.2.1; omega)).mpr (by omega))
    have hgx := gr_keep (L := pr_lv (k0_A A) (k0_A B) (k0_O O) 0 oc) q1 o7 h12.1 h12.2.1 k1 (fun m hm => k2 m (hT2 m hm)) k3
    have hfin : xo_w post f_applications 100 1 (nI 0) ((nI mN), (nI mR), (nI rc), f_counterexample, 1, (nI nc), (nI oc), f_applications, a_preRelation, a_preVariable, a_preConstant, a_roomNeeded, a_useCount, a_treeSize, a_treeKind, a_treeValue, a_treeA, a_treeB, a_treeResult, a_constantValued, a_maximal, a_counterpart, a_boundNode, a_pending, a_pendingCount, nk, nv, na, nb, a_nodeResult, a_nodeUses, ou, a_seen, a_order, a_walkStack) :=
      r3 _ _ _ 0 100 ⟨rfl, rfl, rfl, rfl, rfl, rfl, rfl, rfl, h9, h10, h11, hgx.1⟩ (by omega) (by omega) (fun u' hu' => h _ _ _ _ _ _ _ _ _ r1 r2 hu')
    exact hfin
  · subst hph
    obtain ⟨ap', uc', K', V', A', B', O', r1, r2, r3⟩ := op_all q hq 96 _ _ _ _ _ _ _ _ _ _ _ _ _ _ _ _ _ _ _ _ _ _ _ _ _ hok rfl (h1 rfl) (pr_W_le _)
    have hW := pr_W_le K
    have hx' := hx
    obtain ⟨f_maxNodes, f_maxRules, f_ruleCount, f_counterexample, f_optimized, f_nodeCount, f_outputCount, f_applications, a_preRelation, a_preVariable, a_preConstant, a_roomNeeded, a_useCount, a_treeSize, a_treeKind, a_treeValue, a_treeA, a_treeB, a_treeResult, a_constantValued, a_maximal, a_counterpart, a_boundNode, a_pending, a_pendingCount, a_nodeKind, a_nodeValue, a_nodeA, a_nodeB, a_nodeResult, a_nodeUses, a_outputNode, a_seen, a_order, a_walkStack⟩ := u
    obtain ⟨e1, e2, e3, e4, e5, e6, e7, e8, h9, h10, h11, h12⟩ := hx
    subst e1 e2 e3 e4 e5 e6 e7 e8
    unfold wpX_optimize
    refine br_f (by decide) ⟨100, ?_⟩
    have hfin : xo_w post f_applications 100 1 (nI 0) ((nI mN), (nI mR), (nI rc), f_counterexample, (nI 1), (nI nc), (nI oc), f_applications, a_preRelation, a_preVariable, a_preConstant, a_roomNeeded, a_useCount, a_treeSize, a_treeKind, a_treeValue, a_treeA, a_treeB, a_treeResult, a_constantValued, a_maximal, a_counterpart, a_boundNode, a_pending, a_pendingCount, a_nodeKind, a_nodeValue, a_nodeA, a_nodeB, a_nodeResult, a_nodeUses, a_outputNode, a_seen, a_order, a_walkStack) :=
      r3 _ _ _ 0 100 hx' (by omega) (by omega) (fun u' hu' => h _ _ _ _ _ _ _ _ _ r1 r2 hu')
    exact hfin
end KPz
end
section
/-! the invariant of the class -/
theorem k0_map (o : Option Nat) : k0_s o = o.map (fun x => x + 32) := by
  cases o <;> rfl
/-- the copy has the values -/
theorem pv_shift {K : Nat → Nat} {V : Nat → Int32} {A B : Nat → Option Nat} {rk : Nat → Nat} {L : List Nat} {ar : Int32} (hG : pr_gw 0 K V A B rk) : ∀ f x, pr_T 0 K x → pr_ev (pa_K L (k0_f K)) (k0_f V) (k0_A A) (k0_A B) ar f (x + 32) = pr_ev K V A B ar f x := by
  intro f
  induction f with
  | zero =>
    intro x _
    rfl
  | succ f ih =>
    intro x hx
    have eK : pa_K L (k0_f K) (x + 32) = K x := by
      unfold pa_K
      rw [if_neg (fun hh => absurd hh.1 (by omega)), Nat.add_comm, k0_hi]
    have hs : ∀ o : Option Nat, (∀ c, o = some c → pr_T 0 K c) → pr_ov (pr_ev (pa_K L (k0_f K)) (k0_f V) (k0_A A) (k0_A B) ar f) (k0_s o) = pr_ov (pr_ev K V A B ar f) o := by
      intro o ho
      cases o with
      | none => rfl
      | some c => exact ih c (ho c rfl)
    show pr_en (pa_K L (k0_f K)) (k0_f V) (k0_A A) (k0_A B) ar (pr_ev (pa_K L (k0_f K)) (k0_f V) (k0_A A) (k0_A B) ar f) (x + 32) = pr_en K V A B ar (pr_ev K V A B ar f) x
    unfold pr_en
    rw [eK, Nat.add_comm x 32, k0_hi, k0_Ahi, k0_Ahi, hs (A x) (fun c hc => (pr_gw_T hG x c hx (Or.inl hc)).1), hs (B x) (fun c hc => (pr_gw_T hG x c hx (Or.inr hc)).1)]
section IVK
variable {mN : Nat} {mR : Nat} {rc : Nat} {ph : Nat} {nc : Nat} {oc : Nat} {cx : Int32} {ap : Int32} {P : Nat → pr_PT} {R : Nat → pr_PT} {rl : Nat → Nat} {rj : Nat → Nat} {rK : Nat → Nat} {uc : Nat → Int32} {D : Nat → pr_PT} {ps : Nat → Nat → Nat} {dc : Nat → Nat} {dl : Nat} {dj : Nat} {dk : Nat} {K : Nat → Nat} {V : Nat → Int32} {A : Nat → Option Nat} {B : Nat → Option Nat} {O : Nat → Nat}
theorem pq_keep (hok : sp_ok mN mR rc ph nc oc cx ap P R rl rj rK uc D ps dc dl dj dk K V A B O) (hph : ph = 0) (hap : ap = 0) (hs : ∀ r, r < rc → jd_none (P r) (R r) (rl r) (rj r) (rK r)) (L : List Nat) (hL : L = pr_lv (k0_A A) (k0_A B) (k0_O O) 0 oc) : pq mN mR rc 1 nc oc cx ap P R rl rj rK uc D ps dc dl dj dk (pa_K L (k0_f K)) (k0_f V) (k0_A A) (k0_A B) (k0_O O) := by
  have hsp := sp_keep hok hph hL
  obtain ⟨o1, o2, o3, o4, o5, o6, o7, o8, o9, rk, rk', q1, q2, q3, q4⟩ := hok
  obtain ⟨_, _, _, _, _, _, _, _, _, sk, sk', u1, u2, u3, u4⟩ := hsp
  obtain ⟨u5, u6, u7⟩ := u4 rfl
  have e0 : ∀ k, k < oc → k0_O O k = O k := fun k hk => if_pos (by omega)
  have e4 : ∀ k, k < oc → k0_O O (4 + k) = O k + 32 := fun k hk => by
    unfold k0_O
    rw [if_neg (by omega), show 4 + k - 4 = k by omega]
  have eK : ∀ x, pr_T 0 (pa_K L (k0_f K)) x → K x = pa_K L (k0_f K) x := by
    intro x hx
    have h2 := hx.2.2
    have h32 : x < 32 := by have := hx.2.1; omega
    unfold pa_K at h2 ⊢
    by_cases hc : x < 32 ∧ x ∉ L
    · rw [if_pos hc] at h2
      exact absurd rfl h2
    · rw [if_neg hc, k0_lo h32]
  refine ⟨hs, 0, hap, fun k ar hk => ?_, ?_⟩
  · have h1 := u2 k hk
    rw [e4 k hk, pv_shift q1 32 (O k) (q2 k hk), e0 k hk]
    rw [e0 k hk] at h1
    refine (pv_same u1 (fun x hx => ?_) h1).symm
    have h32 : x < 32 := by have := hx.2.1; omega
    exact ⟨eK x hx, (k0_lo h32).symm, (k0_Alo h32).symm, (k0_Alo h32).symm⟩
  · have hlk := pr_lv_ok (O := k0_O O) (ob := 0) (pr_gw_T u1) (pr_gw_r u1) oc (fun k hk => by rw [Nat.zero_add]; exact u2 k hk)
    have hiff : ∀ x, x ∈ pr_lv (k0_A A) (k0_A B) (k0_O O) 0 oc ↔ pr_T 0 (pa_K L (k0_f K)) x := fun x => ⟨fun h => (hlk.2.2.2 x h).1, u7 x⟩
    have hlv : pr_lv (k0_A A) (k0_A B) (k0_O O) 4 oc = (pr_lv (k0_A A) (k0_A B) (k0_O O) 0 oc).map (fun x => x + 32) := by
      refine lv_map (T := pr_T 0 (pa_K L (k0_f K))) (fun x y h => by omega) (fun m c hm hc => (pr_gw_T u1 m c hm hc).1) (fun m hm => ?_) oc (fun k hk => ⟨by rw [Nat.zero_add]; exact u2 k hk, ?_⟩)
      · have h32 : m < 32 := by have := hm.2.1; omega
        rw [k0_Alo h32, k0_Alo h32, Nat.add_comm m 32, k0_Ahi, k0_Ahi, k0_map, k0_map]
        exact ⟨rfl, rfl⟩
      · rw [Nat.zero_add, e4 k hk, e0 k hk]
    rw [hlv, sm_map, sm_congr (w' := fun s => pr_w (pa_K L (k0_f K) s)) _ (fun x hx => ?_), sm_W hlk.1 hiff]
    · omega
    · show pr_w (pa_K L (k0_f K) (x + 32)) = pr_w (pa_K L (k0_f K) x)
      rw [← eK x ((hiff x).mp hx)]
      unfold pa_K
      rw [if_neg (fun hh => absurd hh.1 (by omega)), Nat.add_comm, k0_hi]
end IVK
/-- the invariant: some pure state, sound rules, values and weight kept -/
def gi (u : St2) : Prop := ∃ (mN : Nat) (mR : Nat) (rc : Nat) (ph : Nat) (nc : Nat) (oc : Nat) (cx : Int32) (ap : Int32) (P : Nat → pr_PT) (R : Nat → pr_PT) (rl : Nat → Nat) (rj : Nat → Nat) (rK : Nat → Nat) (uc : Nat → Int32) (D : Nat → pr_PT) (ps : Nat → Nat → Nat) (dc : Nat → Nat) (dl : Nat) (dj : Nat) (dk : Nat) (K : Nat → Nat) (V : Nat → Int32) (A : Nat → Option Nat) (B : Nat → Option Nat) (O : Nat → Nat), sp_ok mN mR rc ph nc oc cx ap P R rl rj rK uc D ps dc dl dj dk K V A B O ∧ rx mN mR rc ph nc oc cx ap P R rl rj rK uc D ps dc dl dj dk K V A B O u ∧ (∀ r, r < rc → jd_none (P r) (R r) (rl r) (rj r) (rK r)) ∧ (ph = 0 → ap = 0) ∧ (ph = 1 → pq mN mR rc ph nc oc cx ap P R rl rj rK uc D ps dc dl dj dk K V A B O)
theorem gi_start {post : St2 → Prop} {u : St0} (h : ∀ v, gi v → post v) : wpX_init post 27 2835 u 32 16 :=
  x_start (fun v a b => h v ⟨_, _, _, _, _, _, _, _, _, _, _, _, _, _, _, _, _, _, _, _, _, _, _, _, _, a, b, fun r hr => absurd hr (by omega), fun _ => rfl, fun h => absurd h (by omega)⟩)
section GI
variable {u : St2} {post : Int32 → St2 → Prop} {v1 v2 v3 : Int32}
theorem gi_begin {post : St2 → Prop} (hg : gi u) (h : ∀ u', gi u' → post u') : wpX_ruleBegin post u := by
  obtain ⟨mN, mR, rc, ph, nc, oc, cx, ap, P, R, rl, rj, rK, uc, D, ps, dc, dl, dj, dk, K, V, A, B, O, hok, hx, g1, g2, g3⟩ := hg
  exact rx_begin hok hx (fun u' a b => h u' ⟨_, _, _, _, _, _, _, _, _, _, _, _, _, _, _, _, _, _, _, _, _, _, _, _, _, a, b, g1, g2, g3⟩)
theorem gi_pat (hg : gi u) (h : ∀ a u', gi u' → post a u') : wpX_rulePat post u v1 v2 := by
  obtain ⟨mN, mR, rc, ph, nc, oc, cx, ap, P, R, rl, rj, rK, uc, D, ps, dc, dl, dj, dk, K, V, A, B, O, hok, hx, g1, g2, g3⟩ := hg
  exact rx_pat hok hx (fun a _ _ _ u' x y => h a u' ⟨_, _, _, _, _, _, _, _, _, _, _, _, _, _, _, _, _, _, _, _, _, _, _, _, _, x, y, g1, g2, g3⟩)
theorem gi_rep (hg : gi u) (h : ∀ a u', gi u' → post a u') : wpX_ruleRep post u v1 v2 := by
  obtain ⟨mN, mR, rc, ph, nc, oc, cx, ap, P, R, rl, rj, rK, uc, D, ps, dc, dl, dj, dk, K, V, A, B, O, hok, hx, g1, g2, g3⟩ := hg
  exact rx_rep hok hx (fun a _ _ _ u' x y => h a u' ⟨_, _, _, _, _, _, _, _, _, _, _, _, _, _, _, _, _, _, _, _, _, _, _, _, _, x, y, g1, g2, g3⟩)
theorem gi_pre (hg : gi u) (h : ∀ a u', gi u' → post a u') : wpX_rulePre post u v1 v2 v3 := by
  obtain ⟨mN, mR, rc, ph, nc, oc, cx, ap, P, R, rl, rj, rK, uc, D, ps, dc, dl, dj, dk, K, V, A, B, O, hok, hx, g1, g2, g3⟩ := hg
  exact rx_pre hok hx (fun a _ _ _ u' x y => h a u' ⟨_, _, _, _, _, _, _, _, _, _, _, _, _, _, _, _, _, _, _, _, _, _, _, _, _, x, y, g1, g2, g3⟩)
theorem gi_commit (hg : gi u) (h : ∀ a u', gi u' → post a u') : wpX_ruleCommit post u := by
  obtain ⟨mN, mR, rc, ph, nc, oc, cx, ap, P, R, rl, rj, rK, uc, D, ps, dc, dl, dj, dk, K, V, A, B, O, hok, hx, g1, g2, g3⟩ := hg
  refine rx_commit hok hx (fun a c u' x y => h a u' ⟨_, _, _, _, _, _, _, _, _, _, _, _, _, _, _, _, _, _, _, _, _, _, _, _, _, x, y, g1, g2, g3⟩) (fun a c u' hn x y => ?_)
  have hall : ∀ r, r < rc + 1 → jd_none (pr_st P rc (D 0) r) (pr_st R rc (D 1) r) (pr_st rl rc dl r) (pr_st rj rc dj r) (pr_st rK rc dk r) := by
    intro r hr
    by_cases e : r = rc
    · rw [e, pr_st_s, pr_st_s, pr_st_s, pr_st_s, pr_st_s]
      exact hn
    · rw [pr_st_n e, pr_st_n e, pr_st_n e, pr_st_n e, pr_st_n e]
      exact g1 r (by omega)
  exact h a u' ⟨_, _, _, _, _, _, _, _, _, _, _, _, _, _, _, _, _, _, _, _, _, _, _, _, _, x, y, hall, g2, fun hp => ⟨hall, (g3 hp).2⟩⟩
theorem gi_out (hg : gi u) (h : ∀ a u', gi u' → post a u') : wpX_addOutput post u v1 := by
  have hg' := hg
  obtain ⟨mN, mR, rc, ph, nc, oc, cx, ap, P, R, rl, rj, rK, uc, D, ps, dc, dl, dj, dk, K, V, A, B, O, hok, hx, g1, g2, g3⟩ := hg
  exact rx_out hok hx (fun a => h a u hg') (fun a n u' hp x y => h a u' ⟨_, _, _, _, _, _, _, _, _, _, _, _, _, _, _, _, _, _, _, _, _, _, _, _, _, x, y, g1, g2, fun hh => absurd hh (by omega)⟩)
theorem gi_node (hg : gi u) (h : ∀ a u', gi u' → post a u') : wpX_addNode post u v1 v2 v3 := by
  have hg' := hg
  obtain ⟨mN, mR, rc, ph, nc, oc, cx, ap, P, R, rl, rj, rK, uc, D, ps, dc, dl, dj, dk, K, V, A, B, O, hok, hx, g1, g2, g3⟩ := hg
  exact rx_node hok hx (fun a => h a u hg') (fun r κ x a b u' hp s t => h r u' ⟨_, _, _, _, _, _, _, _, _, _, _, _, _, _, _, _, _, _, _, _, _, _, _, _, _, s, t, g1, g2, fun hh => absurd hh (by omega)⟩)
theorem gi_clear {post : St2 → Prop} (hg : gi u) (h : ∀ u', gi u' → post u') : wpX_clearDag post u := by
  obtain ⟨mN, mR, rc, ph, nc, oc, cx, ap, P, R, rl, rj, rK, uc, D, ps, dc, dl, dj, dk, K, V, A, B, O, hok, hx, g1, g2, g3⟩ := hg
  exact rx_clear hok hx (fun u' s t => h u' ⟨_, _, _, _, _, _, _, _, _, _, _, _, _, _, _, _, _, _, _, _, _, _, _, _, _, s, t, g1, fun _ => rfl, fun hh => absurd hh (by omega)⟩)
theorem gi_opt (hg : gi u) (h : ∀ a u', gi u' → post a u') : wpX_optimize post u := by
  obtain ⟨mN, mR, rc, ph, nc, oc, cx, ap, P, R, rl, rj, rK, uc, D, ps, dc, dl, dj, dk, K, V, A, B, O, hok, hx, g1, g2, g3⟩ := hg
  exact rx_opt @pq pq_step hok hx g3 (fun hp L hL => pq_keep hok hp (g2 hp) g1 L hL) (fun a ap' uc' K' V' A' B' O' u' s t w => h a u' ⟨_, _, _, _, _, _, _, _, _, _, _, _, _, _, _, _, _, _, _, _, _, _, _, _, _, s, w, g1, fun hh => absurd hh (by omega), fun _ => t⟩)
end GI
section CK
variable {mN : Nat} {mR : Nat} {rc : Nat} {ph : Nat} {nc : Nat} {oc : Nat} {cx : Int32} {ap : Int32} {P : Nat → pr_PT} {R : Nat → pr_PT} {rl : Nat → Nat} {rj : Nat → Nat} {rK : Nat → Nat} {uc : Nat → Int32} {D : Nat → pr_PT} {ps : Nat → Nat → Nat} {dc : Nat → Nat} {dl : Nat} {dj : Nat} {dk : Nat} {K : Nat → Nat} {V : Nat → Int32} {A : Nat → Option Nat} {B : Nat → Option Nat} {O : Nat → Nat}
/-- the two evals of an output agree -/
theorem ck_eq (hok : sp_ok mN mR rc ph nc oc cx ap P R rl rj rK uc D ps dc dl dj dk K V A B O) (g3 : ph = 1 → pq mN mR rc ph nc oc cx ap P R rl rj rK uc D ps dc dl dj dk K V A B O) {k : Nat} (hk : k < oc) (ar : Int32) : pr_ev K V A B ar 32 (O (0 * ph * 4 + k)) = pr_ev K V A B ar 32 (O (1 * ph * 4 + k)) := by
  have hp : ph = 0 ∨ ph = 1 := by have := hok.2.2.2.2.2.1; omega
  rcases hp with hp | hp
  · subst hp
    rfl
  · subst hp
    obtain ⟨_, n, _, h, _⟩ := g3 rfl
    have := h k ar hk
    rw [show 0 * 1 * 4 + k = k by omega, show 1 * 1 * 4 + k = 4 + k by omega]
    exact this
/-- live cost and applications against the original cost -/
theorem ck_cost (hok : sp_ok mN mR rc ph nc oc cx ap P R rl rj rK uc D ps dc dl dj dk K V A B O) (g2 : ph = 0 → ap = 0) (g3 : ph = 1 → pq mN mR rc ph nc oc cx ap P R rl rj rK uc D ps dc dl dj dk K V A B O) : nI (pr_sm (fun s => pr_w (K s)) (pr_lv A B O 0 oc)) + ap ≤ nI (pr_sm (fun s => pr_w (K s)) (pr_lv A B O (ph * 4) oc)) := by
  have hp : ph = 0 ∨ ph = 1 := by have := hok.2.2.2.2.2.1; omega
  rcases hp with hp | hp
  · subst hp
    rw [g2 rfl, Int32.add_zero, Nat.zero_mul]
    exact Int32.le_refl _
  · subst hp
    obtain ⟨_, n, h1, _, h2⟩ := g3 rfl
    obtain ⟨o1, o2, o3, o4, o5, o6, o7, o8, o9, rk, rk', q1, q2, q3, q4⟩ := hok
    obtain ⟨q5, q6, q7⟩ := q4 rfl
    have hlk := pr_lv_ok (O := O) (ob := 0) (pr_gw_T q1) (pr_gw_r q1) oc (fun k hk => by rw [Nat.zero_add]; exact q2 k hk)
    have hlo := pr_lv_ok (O := O) (ob := 4) (pr_gw_T q5) (pr_gw_r q5) oc q6
    have hlen := pr_len hlo.1 (fun x hx => ⟨(hlo.2.2.2 x hx).1.1, (hlo.2.2.2 x hx).1.2.1⟩)
    have hle := pr_sm_len (w := fun s => pr_w (K s)) (c := 3) (fun x => pr_w_le (K x)) (pr_lv A B O 4 oc)
    rw [sm_W hlk.1 (fun x => ⟨fun h => (hlk.2.2.2 x h).1, q7 x⟩), h1, nI_add, Nat.one_mul]
    exact nI_le h2 (by omega)
end CK
end
section
/-! the law's own walk -/
theorem la_cell {post : Int32 → Prop} {L : Nat} {xs : Nat → Int32} {x : Int32} (p : Nat) (hx : x = nI p) (hL : L ≤ 260) (hp : p ≤ 100000) (h : ∀ r, post r) : wpL_cell post L xs () x := by
  subst hx
  exact pk_le L p (fun _ => h _) (fun hh => ⟨pk_in p L hh, h _⟩)
theorem la_b {c A B : Prop} (a : A) (b : B) : (c → A) ∧ (¬ c → B) := ⟨fun _ => a, fun _ => b⟩
theorem la_any {post : Int32 → Prop} {v n : Int32} (h0 : ¬ n = 0) (h : ∀ r, post r) : wpL_m post () v n :=
  ⟨h0, fun _ _ => la_b (h _) (h _)⟩
theorem la_rem (x : Int32) {n : Nat} (h0 : 0 < n) (hn : n < 2 ^ 30) : (x - x / nI n * nI n).toInt = Int.tmod x.toInt n ∧ Int.tmod x.toInt n < n ∧ -(n : Int) < Int.tmod x.toInt n := by
  have h1 : Int.tmod x.toInt n = x.toInt - (x.toInt.tdiv n) * n := by rw [Int.tmod_def, Int.mul_comm]
  have hlt : Int.tmod x.toInt n < n := Int.tmod_lt_of_pos _ (by omega)
  have hgt : -(n : Int) < Int.tmod x.toInt n := Int.lt_tmod_of_pos _ (by omega)
  refine ⟨?_, hlt, hgt⟩
  rw [Int32.toInt_sub, Int32.toInt_mul, Int32.toInt_div, nI_toInt (by omega), Int.bmod_mul_bmod, Int.sub_bmod_bmod, ← h1]
  exact Int.bmod_eq_of_le (by omega) (by omega)
theorem la_mod {post : Int32 → Prop} {v : Int32} (n : Nat) (h0 : 0 < n) (hn : n < 2 ^ 30) (h : ∀ r, r < n → post (nI r)) : wpL_m post () v (nI n) := by
  obtain ⟨e, e1, e2⟩ := la_rem v h0 hn
  refine ⟨nI_ne0 h0 (by omega), fun x hx => ?_⟩
  rw [← hx] at e
  have z : (0 : Int32).toInt = 0 := by decide
  refine br_c (fun hp => ?_) (fun hp => ?_)
  · rw [Int32.le_iff_toInt_le, z] at hp
    have e3 : x = nI x.toInt.toNat := by
      apply Int32.toInt_inj.mp
      rw [nI_toInt (by omega)]
      omega
    rw [e3]
    exact h _ (by omega)
  · rw [Int32.le_iff_toInt_le, z] at hp
    have e3 : x + nI n = nI (x.toInt + n).toNat := by
      apply Int32.toInt_inj.mp
      rw [Int32.toInt_add, nI_toInt (by omega), nI_toInt (by omega), Int.bmod_eq_of_le (by omega) (by omega)]
      omega
    rw [e3]
    exact h _ (by omega)
theorem la_cval {post : Int32 → Prop} {v : Int32} (h : ∀ r, post r) : wpL_cval post () v := by
  unfold wpL_cval
  exact la_any (by decide) (fun _ => la_b (h _) (la_b (h _) (la_b (h _) (la_b (h _) (la_b (h _) (la_b (h _) (la_b (h _) trivial)))))))
theorem la_pat {post : Int64 → Prop} {v : Int32} (h : ∀ r, post r) : wpL_pat post () v :=
  la_b (h _) (la_b (h _) (la_b (h _) (la_b (h _) (la_b (h _) (la_b (h _) (la_b (h _) (la_b (h _) (la_b (h _) (la_b (h _) (la_b (h _) trivial))))))))))
theorem la_rep {post : Int64 → Prop} {v : Int32} (h : ∀ r, post r) : wpL_rep post () v :=
  la_b (h _) (la_b (h _) (la_b (h _) (la_b (h _) (la_b (h _) (la_b (h _) (la_b (h _) (la_b (h _) (la_b (h _) (la_b (h _) (la_b (h _) trivial))))))))))
theorem la_pre {post : Int32 → Prop} {v : Int32} (h : ∀ r, post r) : wpL_pre post () v := la_b (h _) (la_b (h _) (h _))
section LAF
variable {f_maxNodes f_maxRules f_ruleCount f_counterexample f_optimized f_nodeCount f_outputCount f_applications : Int32} {a_preRelation a_preVariable a_preConstant a_roomNeeded a_useCount a_treeSize a_treeKind a_treeValue a_treeA a_treeB a_treeResult a_constantValued a_maximal a_counterpart a_boundNode a_pending a_pendingCount a_nodeKind a_nodeValue a_nodeA a_nodeB a_nodeResult a_nodeUses a_outputNode a_seen a_order a_walkStack : Nat → Int32}
variable {post : Int32 → Prop} {L : Nat} {xs : Nat → Int32} {kc ks : Nat} {x3 x4 : Int32} {x5 x7 : Int64} {J19 : (Int32 → Int32 → Int32 → Int32 → Int32 → Int32 → Int32 → Int32 → Int32 → (Nat → Int32) → (Nat → Int32) → (Nat → Int32) → (Nat → Int32) → (Nat → Int32) → (Nat → Int32) → (Nat → Int32) → (Nat → Int32) → (Nat → Int32) → (Nat → Int32) → (Nat → Int32) → (Nat → Int32) → (Nat → Int32) → (Nat → Int32) → (Nat → Int32) → (Nat → Int32) → (Nat → Int32) → (Nat → Int32) → (Nat → Int32) → (Nat → Int32) → (Nat → Int32) → (Nat → Int32) → (Nat → Int32) → (Nat → Int32) → (Nat → Int32) → (Nat → Int32) → (Nat → Int32) → Prop)}
theorem la_175 (hg : gi (f_maxNodes, f_maxRules, f_ruleCount, f_counterexample, f_optimized, f_nodeCount, f_outputCount, f_applications, a_preRelation, a_preVariable, a_preConstant, a_roomNeeded, a_useCount, a_treeSize, a_treeKind, a_treeValue, a_treeA, a_treeB, a_treeResult, a_constantValued, a_maximal, a_counterpart, a_boundNode, a_pending, a_pendingCount, a_nodeKind, a_nodeValue, a_nodeA, a_nodeB, a_nodeResult, a_nodeUses, a_outputNode, a_seen, a_order, a_walkStack)) (hJ : ∀ f_maxNodes f_maxRules f_ruleCount f_counterexample f_optimized f_nodeCount f_outputCount f_applications a_preRelation a_preVariable a_preConstant a_roomNeeded a_useCount a_treeSize a_treeKind a_treeValue a_treeA a_treeB a_treeResult a_constantValued a_maximal a_counterpart a_boundNode a_pending a_pendingCount a_nodeKind a_nodeValue a_nodeA a_nodeB a_nodeResult a_nodeUses a_outputNode a_seen a_order a_walkStack, gi (f_maxNodes, f_maxRules, f_ruleCount, f_counterexample, f_optimized, f_nodeCount, f_outputCount, f_applications, a_preRelation, a_preVariable, a_preConstant, a_roomNeeded, a_useCount, a_treeSize, a_treeKind, a_treeValue, a_treeA, a_treeB, a_treeResult, a_constantValued, a_maximal, a_counterpart, a_boundNode, a_pending, a_pendingCount, a_nodeKind, a_nodeValue, a_nodeA, a_nodeB, a_nodeResult, a_nodeUses, a_outputNode, a_seen, a_order, a_walkStack) → J19 (x4 + 1) f_maxNodes f_maxRules f_ruleCount f_counterexample f_optimized f_nodeCount f_outputCount f_applications a_preRelation a_preVariable a_preConstant a_roomNeeded a_useCount a_treeSize a_treeKind a_treeValue a_treeA a_treeB a_treeResult a_constantValued a_maximal a_counterpart a_boundNode a_pending a_pendingCount a_nodeKind a_nodeValue a_nodeA a_nodeB a_nodeResult a_nodeUses a_outputNode a_seen a_order a_walkStack) : wL_law_175 post L xs J19 x3 x4 kc ks f_maxNodes f_maxRules f_ruleCount f_counterexample f_optimized f_nodeCount f_outputCount f_applications a_preRelation a_preVariable a_preConstant a_roomNeeded a_useCount a_treeSize a_treeKind a_treeValue a_treeA a_treeB a_treeResult a_constantValued a_maximal a_counterpart a_boundNode a_pending a_pendingCount a_nodeKind a_nodeValue a_nodeA a_nodeB a_nodeResult a_nodeUses a_outputNode a_seen a_order a_walkStack := by
  have h210 : ∀ f_maxNodes f_maxRules f_ruleCount f_counterexample f_optimized f_nodeCount f_outputCount f_applications a_preRelation a_preVariable a_preConstant a_roomNeeded a_useCount a_treeSize a_treeKind a_treeValue a_treeA a_treeB a_treeResult a_constantValued a_maximal a_counterpart a_boundNode a_pending a_pendingCount a_nodeKind a_nodeValue a_nodeA a_nodeB a_nodeResult a_nodeUses a_outputNode a_seen a_order a_walkStack, gi (f_maxNodes, f_maxRules, f_ruleCount, f_counterexample, f_optimized, f_nodeCount, f_outputCount, f_applications, a_preRelation, a_preVariable, a_preConstant, a_roomNeeded, a_useCount, a_treeSize, a_treeKind, a_treeValue, a_treeA, a_treeB, a_treeResult, a_constantValued, a_maximal, a_counterpart, a_boundNode, a_pending, a_pendingCount, a_nodeKind, a_nodeValue, a_nodeA, a_nodeB, a_nodeResult, a_nodeUses, a_outputNode, a_seen, a_order, a_walkStack) → wL_law_210 post L xs J19 x3 x4 kc ks f_maxNodes f_maxRules f_ruleCount f_counterexample f_optimized f_nodeCount f_outputCount f_applications a_preRelation a_preVariable a_preConstant a_roomNeeded a_useCount a_treeSize a_treeKind a_treeValue a_treeA a_treeB a_treeResult a_constantValued a_maximal a_counterpart a_boundNode a_pending a_pendingCount a_nodeKind a_nodeValue a_nodeA a_nodeB a_nodeResult a_nodeUses a_outputNode a_seen a_order a_walkStack := by
    intro f_maxNodes' f_maxRules' f_ruleCount' f_counterexample' f_optimized' f_nodeCount' f_outputCount' f_applications' a_preRelation' a_preVariable' a_preConstant' a_roomNeeded' a_useCount' a_treeSize' a_treeKind' a_treeValue' a_treeA' a_treeB' a_treeResult' a_constantValued' a_maximal' a_counterpart' a_boundNode' a_pending' a_pendingCount' a_nodeKind' a_nodeValue' a_nodeA' a_nodeB' a_nodeResult' a_nodeUses' a_outputNode' a_seen' a_order' a_walkStack' hg'
    unfold wL_law_210
    refine gi_commit hg' ?_
    rintro a ⟨f_maxNodes'', f_maxRules'', f_ruleCount'', f_counterexample'', f_optimized'', f_nodeCount'', f_outputCount'', f_applications'', a_preRelation'', a_preVariable'', a_preConstant'', a_roomNeeded'', a_useCount'', a_treeSize'', a_treeKind'', a_treeValue'', a_treeA'', a_treeB'', a_treeResult'', a_constantValued'', a_maximal'', a_counterpart'', a_boundNode'', a_pending'', a_pendingCount'', a_nodeKind'', a_nodeValue'', a_nodeA'', a_nodeB'', a_nodeResult'', a_nodeUses'', a_outputNode'', a_seen'', a_order'', a_walkStack''⟩ hg''
    exact nm_e (hJ _ _ _ _ _ _ _ _ _ _ _ _ _ _ _ _ _ _ _ _ _ _ _ _ _ _ _ _ _ _ _ _ _ _ _ hg'')
  unfold wL_law_175
  refine la_pre (fun r => br_c (fun _ => h210 _ _ _ _ _ _ _ _ _ _ _ _ _ _ _ _ _ _ _ _ _ _ _ _ _ _ _ _ _ _ _ _ _ _ _ hg) (fun _ => ?_))
  refine gi_pre hg ?_
  rintro a ⟨f_maxNodes', f_maxRules', f_ruleCount', f_counterexample', f_optimized', f_nodeCount', f_outputCount', f_applications', a_preRelation', a_preVariable', a_preConstant', a_roomNeeded', a_useCount', a_treeSize', a_treeKind', a_treeValue', a_treeA', a_treeB', a_treeResult', a_constantValued', a_maximal', a_counterpart', a_boundNode', a_pending', a_pendingCount', a_nodeKind', a_nodeValue', a_nodeA', a_nodeB', a_nodeResult', a_nodeUses', a_outputNode', a_seen', a_order', a_walkStack'⟩ hg'
  exact h210 _ _ _ _ _ _ _ _ _ _ _ _ _ _ _ _ _ _ _ _ _ _ _ _ _ _ _ _ _ _ _ _ _ _ _ hg'
theorem la_121 (hJ : ∀ f_maxNodes f_maxRules f_ruleCount f_counterexample f_optimized f_nodeCount f_outputCount f_applications a_preRelation a_preVariable a_preConstant a_roomNeeded a_useCount a_treeSize a_treeKind a_treeValue a_treeA a_treeB a_treeResult a_constantValued a_maximal a_counterpart a_boundNode a_pending a_pendingCount a_nodeKind a_nodeValue a_nodeA a_nodeB a_nodeResult a_nodeUses a_outputNode a_seen a_order a_walkStack, gi (f_maxNodes, f_maxRules, f_ruleCount, f_counterexample, f_optimized, f_nodeCount, f_outputCount, f_applications, a_preRelation, a_preVariable, a_preConstant, a_roomNeeded, a_useCount, a_treeSize, a_treeKind, a_treeValue, a_treeA, a_treeB, a_treeResult, a_constantValued, a_maximal, a_counterpart, a_boundNode, a_pending, a_pendingCount, a_nodeKind, a_nodeValue, a_nodeA, a_nodeB, a_nodeResult, a_nodeUses, a_outputNode, a_seen, a_order, a_walkStack) → J19 (x4 + 1) f_maxNodes f_maxRules f_ruleCount f_counterexample f_optimized f_nodeCount f_outputCount f_applications a_preRelation a_preVariable a_preConstant a_roomNeeded a_useCount a_treeSize a_treeKind a_treeValue a_treeA a_treeB a_treeResult a_constantValued a_maximal a_counterpart a_boundNode a_pending a_pendingCount a_nodeKind a_nodeValue a_nodeA a_nodeB a_nodeResult a_nodeUses a_outputNode a_seen a_order a_walkStack) : ∀ d k, k + d = 5 → ∀ f_maxNodes f_maxRules f_ruleCount f_counterexample f_optimized f_nodeCount f_outputCount f_applications a_preRelation a_preVariable a_preConstant a_roomNeeded a_useCount a_treeSize a_treeKind a_treeValue a_treeA a_treeB a_treeResult a_constantValued a_maximal a_counterpart a_boundNode a_pending a_pendingCount a_nodeKind a_nodeValue a_nodeA a_nodeB a_nodeResult a_nodeUses a_outputNode a_seen a_order a_walkStack, gi (f_maxNodes, f_maxRules, f_ruleCount, f_counterexample, f_optimized, f_nodeCount, f_outputCount, f_applications, a_preRelation, a_preVariable, a_preConstant, a_roomNeeded, a_useCount, a_treeSize, a_treeKind, a_treeValue, a_treeA, a_treeB, a_treeResult, a_constantValued, a_maximal, a_counterpart, a_boundNode, a_pending, a_pendingCount, a_nodeKind, a_nodeValue, a_nodeA, a_nodeB, a_nodeResult, a_nodeUses, a_outputNode, a_seen, a_order, a_walkStack) → wL_law_121 post L xs J19 x3 x4 x7 kc ks (d + 1) (nI k) f_maxNodes f_maxRules f_ruleCount f_counterexample f_optimized f_nodeCount f_outputCount f_applications a_preRelation a_preVariable a_preConstant a_roomNeeded a_useCount a_treeSize a_treeKind a_treeValue a_treeA a_treeB a_treeResult a_constantValued a_maximal a_counterpart a_boundNode a_pending a_pendingCount a_nodeKind a_nodeValue a_nodeA a_nodeB a_nodeResult a_nodeUses a_outputNode a_seen a_order a_walkStack := by
  intro d
  induction d with
  | zero =>
    intro k hk f_maxNodes f_maxRules f_ruleCount f_counterexample f_optimized f_nodeCount f_outputCount f_applications a_preRelation a_preVariable a_preConstant a_roomNeeded a_useCount a_treeSize a_treeKind a_treeValue a_treeA a_treeB a_treeResult a_constantValued a_maximal a_counterpart a_boundNode a_pending a_pendingCount a_nodeKind a_nodeValue a_nodeA a_nodeB a_nodeResult a_nodeUses a_outputNode a_seen a_order a_walkStack hg
    exact pk_le 5 k (fun _ => la_175 hg hJ) (fun h => absurd h (by omega))
  | succ d ih =>
    intro k hk f_maxNodes f_maxRules f_ruleCount f_counterexample f_optimized f_nodeCount f_outputCount f_applications a_preRelation a_preVariable a_preConstant a_roomNeeded a_useCount a_treeSize a_treeKind a_treeValue a_treeA a_treeB a_treeResult a_constantValued a_maximal a_counterpart a_boundNode a_pending a_pendingCount a_nodeKind a_nodeValue a_nodeA a_nodeB a_nodeResult a_nodeUses a_outputNode a_seen a_order a_walkStack hg
    refine pk_le 5 k (fun _ => la_175 hg hJ) (fun _ => nm_e (br_c (fun _ => la_175 hg hJ) (fun _ => ?_)))
    refine gi_rep hg ?_
    rintro a ⟨f_maxNodes', f_maxRules', f_ruleCount', f_counterexample', f_optimized', f_nodeCount', f_outputCount', f_applications', a_preRelation', a_preVariable', a_preConstant', a_roomNeeded', a_useCount', a_treeSize', a_treeKind', a_treeValue', a_treeA', a_treeB', a_treeResult', a_constantValued', a_maximal', a_counterpart', a_boundNode', a_pending', a_pendingCount', a_nodeKind', a_nodeValue', a_nodeA', a_nodeB', a_nodeResult', a_nodeUses', a_outputNode', a_seen', a_order', a_walkStack'⟩ hg'
    exact nm_r (nI_succ k).symm (ih (k + 1) (by omega) _ _ _ _ _ _ _ _ _ _ _ _ _ _ _ _ _ _ _ _ _ _ _ _ _ _ _ _ _ _ _ _ _ _ _ hg')
theorem la_64 (hJ : ∀ f_maxNodes f_maxRules f_ruleCount f_counterexample f_optimized f_nodeCount f_outputCount f_applications a_preRelation a_preVariable a_preConstant a_roomNeeded a_useCount a_treeSize a_treeKind a_treeValue a_treeA a_treeB a_treeResult a_constantValued a_maximal a_counterpart a_boundNode a_pending a_pendingCount a_nodeKind a_nodeValue a_nodeA a_nodeB a_nodeResult a_nodeUses a_outputNode a_seen a_order a_walkStack, gi (f_maxNodes, f_maxRules, f_ruleCount, f_counterexample, f_optimized, f_nodeCount, f_outputCount, f_applications, a_preRelation, a_preVariable, a_preConstant, a_roomNeeded, a_useCount, a_treeSize, a_treeKind, a_treeValue, a_treeA, a_treeB, a_treeResult, a_constantValued, a_maximal, a_counterpart, a_boundNode, a_pending, a_pendingCount, a_nodeKind, a_nodeValue, a_nodeA, a_nodeB, a_nodeResult, a_nodeUses, a_outputNode, a_seen, a_order, a_walkStack) → J19 (x4 + 1) f_maxNodes f_maxRules f_ruleCount f_counterexample f_optimized f_nodeCount f_outputCount f_applications a_preRelation a_preVariable a_preConstant a_roomNeeded a_useCount a_treeSize a_treeKind a_treeValue a_treeA a_treeB a_treeResult a_constantValued a_maximal a_counterpart a_boundNode a_pending a_pendingCount a_nodeKind a_nodeValue a_nodeA a_nodeB a_nodeResult a_nodeUses a_outputNode a_seen a_order a_walkStack) : ∀ d k, k + d = 5 → ∀ f_maxNodes f_maxRules f_ruleCount f_counterexample f_optimized f_nodeCount f_outputCount f_applications a_preRelation a_preVariable a_preConstant a_roomNeeded a_useCount a_treeSize a_treeKind a_treeValue a_treeA a_treeB a_treeResult a_constantValued a_maximal a_counterpart a_boundNode a_pending a_pendingCount a_nodeKind a_nodeValue a_nodeA a_nodeB a_nodeResult a_nodeUses a_outputNode a_seen a_order a_walkStack, gi (f_maxNodes, f_maxRules, f_ruleCount, f_counterexample, f_optimized, f_nodeCount, f_outputCount, f_applications, a_preRelation, a_preVariable, a_preConstant, a_roomNeeded, a_useCount, a_treeSize, a_treeKind, a_treeValue, a_treeA, a_treeB, a_treeResult, a_constantValued, a_maximal, a_counterpart, a_boundNode, a_pending, a_pendingCount, a_nodeKind, a_nodeValue, a_nodeA, a_nodeB, a_nodeResult, a_nodeUses, a_outputNode, a_seen, a_order, a_walkStack) → wL_law_64 post L xs J19 x3 x4 x5 x7 kc ks (d + 1) (nI k) f_maxNodes f_maxRules f_ruleCount f_counterexample f_optimized f_nodeCount f_outputCount f_applications a_preRelation a_preVariable a_preConstant a_roomNeeded a_useCount a_treeSize a_treeKind a_treeValue a_treeA a_treeB a_treeResult a_constantValued a_maximal a_counterpart a_boundNode a_pending a_pendingCount a_nodeKind a_nodeValue a_nodeA a_nodeB a_nodeResult a_nodeUses a_outputNode a_seen a_order a_walkStack := by
  have h121 : ∀ f_maxNodes f_maxRules f_ruleCount f_counterexample f_optimized f_nodeCount f_outputCount f_applications a_preRelation a_preVariable a_preConstant a_roomNeeded a_useCount a_treeSize a_treeKind a_treeValue a_treeA a_treeB a_treeResult a_constantValued a_maximal a_counterpart a_boundNode a_pending a_pendingCount a_nodeKind a_nodeValue a_nodeA a_nodeB a_nodeResult a_nodeUses a_outputNode a_seen a_order a_walkStack, gi (f_maxNodes, f_maxRules, f_ruleCount, f_counterexample, f_optimized, f_nodeCount, f_outputCount, f_applications, a_preRelation, a_preVariable, a_preConstant, a_roomNeeded, a_useCount, a_treeSize, a_treeKind, a_treeValue, a_treeA, a_treeB, a_treeResult, a_constantValued, a_maximal, a_counterpart, a_boundNode, a_pending, a_pendingCount, a_nodeKind, a_nodeValue, a_nodeA, a_nodeB, a_nodeResult, a_nodeUses, a_outputNode, a_seen, a_order, a_walkStack) → ∃ f, wL_law_121 post L xs J19 x3 x4 x7 kc ks f 0 f_maxNodes f_maxRules f_ruleCount f_counterexample f_optimized f_nodeCount f_outputCount f_applications a_preRelation a_preVariable a_preConstant a_roomNeeded a_useCount a_treeSize a_treeKind a_treeValue a_treeA a_treeB a_treeResult a_constantValued a_maximal a_counterpart a_boundNode a_pending a_pendingCount a_nodeKind a_nodeValue a_nodeA a_nodeB a_nodeResult a_nodeUses a_outputNode a_seen a_order a_walkStack := fun f_maxNodes f_maxRules f_ruleCount f_counterexample f_optimized f_nodeCount f_outputCount f_applications a_preRelation a_preVariable a_preConstant a_roomNeeded a_useCount a_treeSize a_treeKind a_treeValue a_treeA a_treeB a_treeResult a_constantValued a_maximal a_counterpart a_boundNode a_pending a_pendingCount a_nodeKind a_nodeValue a_nodeA a_nodeB a_nodeResult a_nodeUses a_outputNode a_seen a_order a_walkStack hg => ⟨5 + 1, la_121 hJ 5 0 (by omega) _ _ _ _ _ _ _ _ _ _ _ _ _ _ _ _ _ _ _ _ _ _ _ _ _ _ _ _ _ _ _ _ _ _ _ hg⟩
  intro d
  induction d with
  | zero =>
    intro k hk f_maxNodes f_maxRules f_ruleCount f_counterexample f_optimized f_nodeCount f_outputCount f_applications a_preRelation a_preVariable a_preConstant a_roomNeeded a_useCount a_treeSize a_treeKind a_treeValue a_treeA a_treeB a_treeResult a_constantValued a_maximal a_counterpart a_boundNode a_pending a_pendingCount a_nodeKind a_nodeValue a_nodeA a_nodeB a_nodeResult a_nodeUses a_outputNode a_seen a_order a_walkStack hg
    exact pk_le 5 k (fun _ => h121 _ _ _ _ _ _ _ _ _ _ _ _ _ _ _ _ _ _ _ _ _ _ _ _ _ _ _ _ _ _ _ _ _ _ _ hg) (fun h => absurd h (by omega))
  | succ d ih =>
    intro k hk f_maxNodes f_maxRules f_ruleCount f_counterexample f_optimized f_nodeCount f_outputCount f_applications a_preRelation a_preVariable a_preConstant a_roomNeeded a_useCount a_treeSize a_treeKind a_treeValue a_treeA a_treeB a_treeResult a_constantValued a_maximal a_counterpart a_boundNode a_pending a_pendingCount a_nodeKind a_nodeValue a_nodeA a_nodeB a_nodeResult a_nodeUses a_outputNode a_seen a_order a_walkStack hg
    refine pk_le 5 k (fun _ => h121 _ _ _ _ _ _ _ _ _ _ _ _ _ _ _ _ _ _ _ _ _ _ _ _ _ _ _ _ _ _ _ _ _ _ _ hg) (fun _ => nm_e (br_c (fun _ => h121 _ _ _ _ _ _ _ _ _ _ _ _ _ _ _ _ _ _ _ _ _ _ _ _ _ _ _ _ _ _ _ _ _ _ _ hg) (fun _ => ?_)))
    refine gi_pat hg ?_
    rintro a ⟨f_maxNodes', f_maxRules', f_ruleCount', f_counterexample', f_optimized', f_nodeCount', f_outputCount', f_applications', a_preRelation', a_preVariable', a_preConstant', a_roomNeeded', a_useCount', a_treeSize', a_treeKind', a_treeValue', a_treeA', a_treeB', a_treeResult', a_constantValued', a_maximal', a_counterpart', a_boundNode', a_pending', a_pendingCount', a_nodeKind', a_nodeValue', a_nodeA', a_nodeB', a_nodeResult', a_nodeUses', a_outputNode', a_seen', a_order', a_walkStack'⟩ hg'
    exact nm_r (nI_succ k).symm (ih (k + 1) (by omega) _ _ _ _ _ _ _ _ _ _ _ _ _ _ _ _ _ _ _ _ _ _ _ _ _ _ _ _ _ _ _ _ _ _ _ hg')
/-- the ten fixed rules -/
theorem la_19 (hL : L ≤ 260) (h224 : ∀ f_maxNodes f_maxRules f_ruleCount f_counterexample f_optimized f_nodeCount f_outputCount f_applications a_preRelation a_preVariable a_preConstant a_roomNeeded a_useCount a_treeSize a_treeKind a_treeValue a_treeA a_treeB a_treeResult a_constantValued a_maximal a_counterpart a_boundNode a_pending a_pendingCount a_nodeKind a_nodeValue a_nodeA a_nodeB a_nodeResult a_nodeUses a_outputNode a_seen a_order a_walkStack, gi (f_maxNodes, f_maxRules, f_ruleCount, f_counterexample, f_optimized, f_nodeCount, f_outputCount, f_applications, a_preRelation, a_preVariable, a_preConstant, a_roomNeeded, a_useCount, a_treeSize, a_treeKind, a_treeValue, a_treeA, a_treeB, a_treeResult, a_constantValued, a_maximal, a_counterpart, a_boundNode, a_pending, a_pendingCount, a_nodeKind, a_nodeValue, a_nodeA, a_nodeB, a_nodeResult, a_nodeUses, a_outputNode, a_seen, a_order, a_walkStack) → ∃ f, wL_law_224 post L xs kc ks f x3 0 f_maxNodes f_maxRules f_ruleCount f_counterexample f_optimized f_nodeCount f_outputCount f_applications a_preRelation a_preVariable a_preConstant a_roomNeeded a_useCount a_treeSize a_treeKind a_treeValue a_treeA a_treeB a_treeResult a_constantValued a_maximal a_counterpart a_boundNode a_pending a_pendingCount a_nodeKind a_nodeValue a_nodeA a_nodeB a_nodeResult a_nodeUses a_outputNode a_seen a_order a_walkStack) : ∀ d i, i + d = 10 → ∀ f_maxNodes f_maxRules f_ruleCount f_counterexample f_optimized f_nodeCount f_outputCount f_applications a_preRelation a_preVariable a_preConstant a_roomNeeded a_useCount a_treeSize a_treeKind a_treeValue a_treeA a_treeB a_treeResult a_constantValued a_maximal a_counterpart a_boundNode a_pending a_pendingCount a_nodeKind a_nodeValue a_nodeA a_nodeB a_nodeResult a_nodeUses a_outputNode a_seen a_order a_walkStack, gi (f_maxNodes, f_maxRules, f_ruleCount, f_counterexample, f_optimized, f_nodeCount, f_outputCount, f_applications, a_preRelation, a_preVariable, a_preConstant, a_roomNeeded, a_useCount, a_treeSize, a_treeKind, a_treeValue, a_treeA, a_treeB, a_treeResult, a_constantValued, a_maximal, a_counterpart, a_boundNode, a_pending, a_pendingCount, a_nodeKind, a_nodeValue, a_nodeA, a_nodeB, a_nodeResult, a_nodeUses, a_outputNode, a_seen, a_order, a_walkStack) → wL_law_19 post L xs x3 kc ks (d + 1) (nI i) f_maxNodes f_maxRules f_ruleCount f_counterexample f_optimized f_nodeCount f_outputCount f_applications a_preRelation a_preVariable a_preConstant a_roomNeeded a_useCount a_treeSize a_treeKind a_treeValue a_treeA a_treeB a_treeResult a_constantValued a_maximal a_counterpart a_boundNode a_pending a_pendingCount a_nodeKind a_nodeValue a_nodeA a_nodeB a_nodeResult a_nodeUses a_outputNode a_seen a_order a_walkStack := by
  intro d
  induction d with
  | zero =>
    intro i hi f_maxNodes f_maxRules f_ruleCount f_counterexample f_optimized f_nodeCount f_outputCount f_applications a_preRelation a_preVariable a_preConstant a_roomNeeded a_useCount a_treeSize a_treeKind a_treeValue a_treeA a_treeB a_treeResult a_constantValued a_maximal a_counterpart a_boundNode a_pending a_pendingCount a_nodeKind a_nodeValue a_nodeA a_nodeB a_nodeResult a_nodeUses a_outputNode a_seen a_order a_walkStack hg
    exact pk_le 10 i (fun _ => h224 _ _ _ _ _ _ _ _ _ _ _ _ _ _ _ _ _ _ _ _ _ _ _ _ _ _ _ _ _ _ _ _ _ _ _ hg) (fun h => absurd h (by omega))
  | succ d ih =>
    intro i hi f_maxNodes f_maxRules f_ruleCount f_counterexample f_optimized f_nodeCount f_outputCount f_applications a_preRelation a_preVariable a_preConstant a_roomNeeded a_useCount a_treeSize a_treeKind a_treeValue a_treeA a_treeB a_treeResult a_constantValued a_maximal a_counterpart a_boundNode a_pending a_pendingCount a_nodeKind a_nodeValue a_nodeA a_nodeB a_nodeResult a_nodeUses a_outputNode a_seen a_order a_walkStack hg
    refine pk_le 10 i (fun _ => h224 _ _ _ _ _ _ _ _ _ _ _ _ _ _ _ _ _ _ _ _ _ _ _ _ _ _ _ _ _ _ _ _ _ _ _ hg) (fun _ => la_cell 0 rfl hL (by omega) (fun r => br_c (fun _ => nm_r (nI_succ i).symm (ih (i + 1) (by omega) _ _ _ _ _ _ _ _ _ _ _ _ _ _ _ _ _ _ _ _ _ _ _ _ _ _ _ _ _ _ _ _ _ _ _ hg)) (fun _ => ?_)))
    refine gi_begin hg ?_
    rintro ⟨f_maxNodes', f_maxRules', f_ruleCount', f_counterexample', f_optimized', f_nodeCount', f_outputCount', f_applications', a_preRelation', a_preVariable', a_preConstant', a_roomNeeded', a_useCount', a_treeSize', a_treeKind', a_treeValue', a_treeA', a_treeB', a_treeResult', a_constantValued', a_maximal', a_counterpart', a_boundNode', a_pending', a_pendingCount', a_nodeKind', a_nodeValue', a_nodeA', a_nodeB', a_nodeResult', a_nodeUses', a_outputNode', a_seen', a_order', a_walkStack'⟩ hg'
    exact la_pat (fun a => la_rep (fun b => ⟨5 + 1, la_64 (fun f_maxNodes'' f_maxRules'' f_ruleCount'' f_counterexample'' f_optimized'' f_nodeCount'' f_outputCount'' f_applications'' a_preRelation'' a_preVariable'' a_preConstant'' a_roomNeeded'' a_useCount'' a_treeSize'' a_treeKind'' a_treeValue'' a_treeA'' a_treeB'' a_treeResult'' a_constantValued'' a_maximal'' a_counterpart'' a_boundNode'' a_pending'' a_pendingCount'' a_nodeKind'' a_nodeValue'' a_nodeA'' a_nodeB'' a_nodeResult'' a_nodeUses'' a_outputNode'' a_seen'' a_order'' a_walkStack'' hg'' => by rw [← nI_succ]; exact ih (i + 1) (by omega) _ _ _ _ _ _ _ _ _ _ _ _ _ _ _ _ _ _ _ _ _ _ _ _ _ _ _ _ _ _ _ _ _ _ _ hg'') 5 0 (by omega) _ _ _ _ _ _ _ _ _ _ _ _ _ _ _ _ _ _ _ _ _ _ _ _ _ _ _ _ _ _ _ _ _ _ _ hg'⟩))
end LAF
section LAC
variable {f_maxNodes f_maxRules f_ruleCount f_counterexample f_optimized f_nodeCount f_outputCount f_applications : Int32} {a_preRelation a_preVariable a_preConstant a_roomNeeded a_useCount a_treeSize a_treeKind a_treeValue a_treeA a_treeB a_treeResult a_constantValued a_maximal a_counterpart a_boundNode a_pending a_pendingCount a_nodeKind a_nodeValue a_nodeA a_nodeB a_nodeResult a_nodeUses a_outputNode a_seen a_order a_walkStack : Nat → Int32}
variable {mN : Nat} {mR : Nat} {rc : Nat} {ph : Nat} {nc : Nat} {oc : Nat} {cx : Int32} {ap : Int32} {P : Nat → pr_PT} {R : Nat → pr_PT} {rl : Nat → Nat} {rj : Nat → Nat} {rK : Nat → Nat} {uc : Nat → Int32} {D : Nat → pr_PT} {ps : Nat → Nat → Nat} {dc : Nat → Nat} {dl : Nat} {dj : Nat} {dk : Nat} {K : Nat → Nat} {V : Nat → Int32} {A : Nat → Option Nat} {B : Nat → Option Nat} {O : Nat → Nat}
variable {post : Int32 → Prop} {L : Nat} {xs : Nat → Int32} {kc ks p : Nat} {x3 x4 x5 x7 x8 : Int32} {J224 J233 : (Int32 → Int32 → Int32 → Int32 → Int32 → Int32 → Int32 → Int32 → Int32 → Int32 → (Nat → Int32) → (Nat → Int32) → (Nat → Int32) → (Nat → Int32) → (Nat → Int32) → (Nat → Int32) → (Nat → Int32) → (Nat → Int32) → (Nat → Int32) → (Nat → Int32) → (Nat → Int32) → (Nat → Int32) → (Nat → Int32) → (Nat → Int32) → (Nat → Int32) → (Nat → Int32) → (Nat → Int32) → (Nat → Int32) → (Nat → Int32) → (Nat → Int32) → (Nat → Int32) → (Nat → Int32) → (Nat → Int32) → (Nat → Int32) → (Nat → Int32) → (Nat → Int32) → (Nat → Int32) → Prop)} {J741 : (Int32 → Int32 → Int32 → Int32 → Int32 → Int32 → Int32 → Int32 → Int32 → (Nat → Int32) → (Nat → Int32) → (Nat → Int32) → (Nat → Int32) → (Nat → Int32) → (Nat → Int32) → (Nat → Int32) → (Nat → Int32) → (Nat → Int32) → (Nat → Int32) → (Nat → Int32) → (Nat → Int32) → (Nat → Int32) → (Nat → Int32) → (Nat → Int32) → (Nat → Int32) → (Nat → Int32) → (Nat → Int32) → (Nat → Int32) → (Nat → Int32) → (Nat → Int32) → (Nat → Int32) → (Nat → Int32) → (Nat → Int32) → (Nat → Int32) → (Nat → Int32) → (Nat → Int32) → Prop)}
/-- the evals of the outputs -/
theorem la_808 (hok : sp_ok mN mR rc ph nc oc cx ap P R rl rj rK uc D ps dc dl dj dk K V A B O) (g3 : ph = 1 → pq mN mR rc ph nc oc cx ap P R rl rj rK uc D ps dc dl dj dk K V A B O) (hJ : ∀ f_maxNodes f_maxRules f_ruleCount f_counterexample f_optimized f_nodeCount f_outputCount f_applications a_preRelation a_preVariable a_preConstant a_roomNeeded a_useCount a_treeSize a_treeKind a_treeValue a_treeA a_treeB a_treeResult a_constantValued a_maximal a_counterpart a_boundNode a_pending a_pendingCount a_nodeKind a_nodeValue a_nodeA a_nodeB a_nodeResult a_nodeUses a_outputNode a_seen a_order a_walkStack, rx mN mR rc ph nc oc cx ap P R rl rj rK uc D ps dc dl dj dk K V A B O (f_maxNodes, f_maxRules, f_ruleCount, f_counterexample, f_optimized, f_nodeCount, f_outputCount, f_applications, a_preRelation, a_preVariable, a_preConstant, a_roomNeeded, a_useCount, a_treeSize, a_treeKind, a_treeValue, a_treeA, a_treeB, a_treeResult, a_constantValued, a_maximal, a_counterpart, a_boundNode, a_pending, a_pendingCount, a_nodeKind, a_nodeValue, a_nodeA, a_nodeB, a_nodeResult, a_nodeUses, a_outputNode, a_seen, a_order, a_walkStack) → J741 (x7 + 1) f_maxNodes f_maxRules f_ruleCount f_counterexample f_optimized f_nodeCount f_outputCount f_applications a_preRelation a_preVariable a_preConstant a_roomNeeded a_useCount a_treeSize a_treeKind a_treeValue a_treeA a_treeB a_treeResult a_constantValued a_maximal a_counterpart a_boundNode a_pending a_pendingCount a_nodeKind a_nodeValue a_nodeA a_nodeB a_nodeResult a_nodeUses a_outputNode a_seen a_order a_walkStack) : ∀ d k, k + d = oc → ∀ f_maxNodes f_maxRules f_ruleCount f_counterexample f_optimized f_nodeCount f_outputCount f_applications a_preRelation a_preVariable a_preConstant a_roomNeeded a_useCount a_treeSize a_treeKind a_treeValue a_treeA a_treeB a_treeResult a_constantValued a_maximal a_counterpart a_boundNode a_pending a_pendingCount a_nodeKind a_nodeValue a_nodeA a_nodeB a_nodeResult a_nodeUses a_outputNode a_seen a_order a_walkStack, rx mN mR rc ph nc oc cx ap P R rl rj rK uc D ps dc dl dj dk K V A B O (f_maxNodes, f_maxRules, f_ruleCount, f_counterexample, f_optimized, f_nodeCount, f_outputCount, f_applications, a_preRelation, a_preVariable, a_preConstant, a_roomNeeded, a_useCount, a_treeSize, a_treeKind, a_treeValue, a_treeA, a_treeB, a_treeResult, a_constantValued, a_maximal, a_counterpart, a_boundNode, a_pending, a_pendingCount, a_nodeKind, a_nodeValue, a_nodeA, a_nodeB, a_nodeResult, a_nodeUses, a_outputNode, a_seen, a_order, a_walkStack) → wL_law_808 post L xs J224 J233 J741 x3 x4 x5 (nI oc) x7 x8 kc ks (d + 1) (nI k) f_maxNodes f_maxRules f_ruleCount f_counterexample f_optimized f_nodeCount f_outputCount f_applications a_preRelation a_preVariable a_preConstant a_roomNeeded a_useCount a_treeSize a_treeKind a_treeValue a_treeA a_treeB a_treeResult a_constantValued a_maximal a_counterpart a_boundNode a_pending a_pendingCount a_nodeKind a_nodeValue a_nodeA a_nodeB a_nodeResult a_nodeUses a_outputNode a_seen a_order a_walkStack := by
  have ho := hok.2.2.2.2.2.2.1
  intro d
  induction d with
  | zero =>
    intro k hk f_maxNodes f_maxRules f_ruleCount f_counterexample f_optimized f_nodeCount f_outputCount f_applications a_preRelation a_preVariable a_preConstant a_roomNeeded a_useCount a_treeSize a_treeKind a_treeValue a_treeA a_treeB a_treeResult a_constantValued a_maximal a_counterpart a_boundNode a_pending a_pendingCount a_nodeKind a_nodeValue a_nodeA a_nodeB a_nodeResult a_nodeUses a_outputNode a_seen a_order a_walkStack hx
    exact pk_le oc k (fun _ => nm_e (hJ _ _ _ _ _ _ _ _ _ _ _ _ _ _ _ _ _ _ _ _ _ _ _ _ _ _ _ _ _ _ _ _ _ _ _ hx)) (fun h => absurd h (by omega))
  | succ d ih =>
    intro k hk f_maxNodes f_maxRules f_ruleCount f_counterexample f_optimized f_nodeCount f_outputCount f_applications a_preRelation a_preVariable a_preConstant a_roomNeeded a_useCount a_treeSize a_treeKind a_treeValue a_treeA a_treeB a_treeResult a_constantValued a_maximal a_counterpart a_boundNode a_pending a_pendingCount a_nodeKind a_nodeValue a_nodeA a_nodeB a_nodeResult a_nodeUses a_outputNode a_seen a_order a_walkStack hx
    refine pk_le oc k (fun _ => nm_e (hJ _ _ _ _ _ _ _ _ _ _ _ _ _ _ _ _ _ _ _ _ _ _ _ _ _ _ _ _ _ _ _ _ _ _ _ hx)) (fun hlt => ?_)
    refine rx_eval (b := 0) (by omega) hlt hok hx ?_
    rintro ⟨f_maxNodes', f_maxRules', f_ruleCount', f_counterexample', f_optimized', f_nodeCount', f_outputCount', f_applications', a_preRelation', a_preVariable', a_preConstant', a_roomNeeded', a_useCount', a_treeSize', a_treeKind', a_treeValue', a_treeA', a_treeB', a_treeResult', a_constantValued', a_maximal', a_counterpart', a_boundNode', a_pending', a_pendingCount', a_nodeKind', a_nodeValue', a_nodeA', a_nodeB', a_nodeResult', a_nodeUses', a_outputNode', a_seen', a_order', a_walkStack'⟩ hx'
    refine rx_eval (b := 1) (by omega) hlt hok hx' ?_
    rintro ⟨f_maxNodes'', f_maxRules'', f_ruleCount'', f_counterexample'', f_optimized'', f_nodeCount'', f_outputCount'', f_applications'', a_preRelation'', a_preVariable'', a_preConstant'', a_roomNeeded'', a_useCount'', a_treeSize'', a_treeKind'', a_treeValue'', a_treeA'', a_treeB'', a_treeResult'', a_constantValued'', a_maximal'', a_counterpart'', a_boundNode'', a_pending'', a_pendingCount'', a_nodeKind'', a_nodeValue'', a_nodeA'', a_nodeB'', a_nodeResult'', a_nodeUses'', a_outputNode'', a_seen'', a_order'', a_walkStack''⟩ hx''
    exact br_t (ck_eq hok g3 hlt x8) (nm_r (nI_succ k).symm (ih (k + 1) (by omega) _ _ _ _ _ _ _ _ _ _ _ _ _ _ _ _ _ _ _ _ _ _ _ _ _ _ _ _ _ _ _ _ _ _ _ hx''))
/-- the six words, then the cost -/
theorem la_741 (hok : sp_ok mN mR rc ph nc oc cx ap P R rl rj rK uc D ps dc dl dj dk K V A B O) (g1 : ∀ r, r < rc → jd_none (P r) (R r) (rl r) (rj r) (rK r)) (g2 : ph = 0 → ap = 0) (g3 : ph = 1 → pq mN mR rc ph nc oc cx ap P R rl rj rK uc D ps dc dl dj dk K V A B O) (hL : L ≤ 260) (hp : p ≤ 10000) (hJ : ∀ f_maxNodes f_maxRules f_ruleCount f_counterexample f_optimized f_nodeCount f_outputCount f_applications a_preRelation a_preVariable a_preConstant a_roomNeeded a_useCount a_treeSize a_treeKind a_treeValue a_treeA a_treeB a_treeResult a_constantValued a_maximal a_counterpart a_boundNode a_pending a_pendingCount a_nodeKind a_nodeValue a_nodeA a_nodeB a_nodeResult a_nodeUses a_outputNode a_seen a_order a_walkStack, gi (f_maxNodes, f_maxRules, f_ruleCount, f_counterexample, f_optimized, f_nodeCount, f_outputCount, f_applications, a_preRelation, a_preVariable, a_preConstant, a_roomNeeded, a_useCount, a_treeSize, a_treeKind, a_treeValue, a_treeA, a_treeB, a_treeResult, a_constantValued, a_maximal, a_counterpart, a_boundNode, a_pending, a_pendingCount, a_nodeKind, a_nodeValue, a_nodeA, a_nodeB, a_nodeResult, a_nodeUses, a_outputNode, a_seen, a_order, a_walkStack) → J233 (nI p) (x5 + 1) f_maxNodes f_maxRules f_ruleCount f_counterexample f_optimized f_nodeCount f_outputCount f_applications a_preRelation a_preVariable a_preConstant a_roomNeeded a_useCount a_treeSize a_treeKind a_treeValue a_treeA a_treeB a_treeResult a_constantValued a_maximal a_counterpart a_boundNode a_pending a_pendingCount a_nodeKind a_nodeValue a_nodeA a_nodeB a_nodeResult a_nodeUses a_outputNode a_seen a_order a_walkStack) : ∀ d t, t + d = 6 → ∀ f_maxNodes f_maxRules f_ruleCount f_counterexample f_optimized f_nodeCount f_outputCount f_applications a_preRelation a_preVariable a_preConstant a_roomNeeded a_useCount a_treeSize a_treeKind a_treeValue a_treeA a_treeB a_treeResult a_constantValued a_maximal a_counterpart a_boundNode a_pending a_pendingCount a_nodeKind a_nodeValue a_nodeA a_nodeB a_nodeResult a_nodeUses a_outputNode a_seen a_order a_walkStack, rx mN mR rc ph nc oc cx ap P R rl rj rK uc D ps dc dl dj dk K V A B O (f_maxNodes, f_maxRules, f_ruleCount, f_counterexample, f_optimized, f_nodeCount, f_outputCount, f_applications, a_preRelation, a_preVariable, a_preConstant, a_roomNeeded, a_useCount, a_treeSize, a_treeKind, a_treeValue, a_treeA, a_treeB, a_treeResult, a_constantValued, a_maximal, a_counterpart, a_boundNode, a_pending, a_pendingCount, a_nodeKind, a_nodeValue, a_nodeA, a_nodeB, a_nodeResult, a_nodeUses, a_outputNode, a_seen, a_order, a_walkStack) → wL_law_741 post L xs J224 J233 (nI p) x4 x5 (nI oc) kc ks (d + 1) (nI t) f_maxNodes f_maxRules f_ruleCount f_counterexample f_optimized f_nodeCount f_outputCount f_applications a_preRelation a_preVariable a_preConstant a_roomNeeded a_useCount a_treeSize a_treeKind a_treeValue a_treeA a_treeB a_treeResult a_constantValued a_maximal a_counterpart a_boundNode a_pending a_pendingCount a_nodeKind a_nodeValue a_nodeA a_nodeB a_nodeResult a_nodeUses a_outputNode a_seen a_order a_walkStack := by
  intro d
  induction d with
  | zero =>
    intro t ht f_maxNodes f_maxRules f_ruleCount f_counterexample f_optimized f_nodeCount f_outputCount f_applications a_preRelation a_preVariable a_preConstant a_roomNeeded a_useCount a_treeSize a_treeKind a_treeValue a_treeA a_treeB a_treeResult a_constantValued a_maximal a_counterpart a_boundNode a_pending a_pendingCount a_nodeKind a_nodeValue a_nodeA a_nodeB a_nodeResult a_nodeUses a_outputNode a_seen a_order a_walkStack hx
    refine pk_le 6 t (fun _ => ?_) (fun h => absurd h (by omega))
    refine rx_stat1 hok hx ?_
    rintro ⟨f_maxNodes', f_maxRules', f_ruleCount', f_counterexample', f_optimized', f_nodeCount', f_outputCount', f_applications', a_preRelation', a_preVariable', a_preConstant', a_roomNeeded', a_useCount', a_treeSize', a_treeKind', a_treeValue', a_treeA', a_treeB', a_treeResult', a_constantValued', a_maximal', a_counterpart', a_boundNode', a_pending', a_pendingCount', a_nodeKind', a_nodeValue', a_nodeA', a_nodeB', a_nodeResult', a_nodeUses', a_outputNode', a_seen', a_order', a_walkStack'⟩ hx'
    refine rx_stat3 hx' ?_
    refine rx_stat2 hok hx' ?_
    rintro ⟨f_maxNodes'', f_maxRules'', f_ruleCount'', f_counterexample'', f_optimized'', f_nodeCount'', f_outputCount'', f_applications'', a_preRelation'', a_preVariable'', a_preConstant'', a_roomNeeded'', a_useCount'', a_treeSize'', a_treeKind'', a_treeValue'', a_treeA'', a_treeB'', a_treeResult'', a_constantValued'', a_maximal'', a_counterpart'', a_boundNode'', a_pending'', a_pendingCount'', a_nodeKind'', a_nodeValue'', a_nodeA'', a_nodeB'', a_nodeResult'', a_nodeUses'', a_outputNode'', a_seen'', a_order'', a_walkStack''⟩ hx''
    exact br_t (ck_cost hok g2 g3) (nm_e (hJ _ _ _ _ _ _ _ _ _ _ _ _ _ _ _ _ _ _ _ _ _ _ _ _ _ _ _ _ _ _ _ _ _ _ _ ⟨_, _, _, _, _, _, _, _, _, _, _, _, _, _, _, _, _, _, _, _, _, _, _, _, _, hok, hx'', g1, g2, g3⟩))
  | succ d ih =>
    intro t ht f_maxNodes f_maxRules f_ruleCount f_counterexample f_optimized f_nodeCount f_outputCount f_applications a_preRelation a_preVariable a_preConstant a_roomNeeded a_useCount a_treeSize a_treeKind a_treeValue a_treeA a_treeB a_treeResult a_constantValued a_maximal a_counterpart a_boundNode a_pending a_pendingCount a_nodeKind a_nodeValue a_nodeA a_nodeB a_nodeResult a_nodeUses a_outputNode a_seen a_order a_walkStack hx
    have h8 : ∀ a : Int32, ∃ f, wL_law_808 post L xs J224 J233 (wL_law_741 post L xs J224 J233 (nI p) x4 x5 (nI oc) kc ks (d + 1)) (nI p) x4 x5 (nI oc) (nI t) a kc ks f 0 f_maxNodes f_maxRules f_ruleCount f_counterexample f_optimized f_nodeCount f_outputCount f_applications a_preRelation a_preVariable a_preConstant a_roomNeeded a_useCount a_treeSize a_treeKind a_treeValue a_treeA a_treeB a_treeResult a_constantValued a_maximal a_counterpart a_boundNode a_pending a_pendingCount a_nodeKind a_nodeValue a_nodeA a_nodeB a_nodeResult a_nodeUses a_outputNode a_seen a_order a_walkStack := fun a => ⟨oc + 1, la_808 hok g3 (fun f_maxNodes' f_maxRules' f_ruleCount' f_counterexample' f_optimized' f_nodeCount' f_outputCount' f_applications' a_preRelation' a_preVariable' a_preConstant' a_roomNeeded' a_useCount' a_treeSize' a_treeKind' a_treeValue' a_treeA' a_treeB' a_treeResult' a_constantValued' a_maximal' a_counterpart' a_boundNode' a_pending' a_pendingCount' a_nodeKind' a_nodeValue' a_nodeA' a_nodeB' a_nodeResult' a_nodeUses' a_outputNode' a_seen' a_order' a_walkStack' hx' => by rw [← nI_succ]; exact ih (t + 1) (by omega) _ _ _ _ _ _ _ _ _ _ _ _ _ _ _ _ _ _ _ _ _ _ _ _ _ _ _ _ _ _ _ _ _ _ _ hx') oc 0 (by omega) _ _ _ _ _ _ _ _ _ _ _ _ _ _ _ _ _ _ _ _ _ _ _ _ _ _ _ _ _ _ _ _ _ _ _ hx⟩
    refine pk_le 6 t (fun h => absurd h (by omega)) (fun _ => br_c (fun _ => h8 _) (fun _ => br_c (fun _ => h8 _) (fun _ => br_c (fun _ => h8 _) (fun _ => br_c (fun _ => h8 _) (fun _ => ?_)))))
    exact la_cell (p + t) (nI_add p t) hL (by omega) (fun r => nm_e (h8 _))
theorem la_730 (hg : gi (f_maxNodes, f_maxRules, f_ruleCount, f_counterexample, f_optimized, f_nodeCount, f_outputCount, f_applications, a_preRelation, a_preVariable, a_preConstant, a_roomNeeded, a_useCount, a_treeSize, a_treeKind, a_treeValue, a_treeA, a_treeB, a_treeResult, a_constantValued, a_maximal, a_counterpart, a_boundNode, a_pending, a_pendingCount, a_nodeKind, a_nodeValue, a_nodeA, a_nodeB, a_nodeResult, a_nodeUses, a_outputNode, a_seen, a_order, a_walkStack)) (hL : L ≤ 260) (hp : p ≤ 10000) (hJ : ∀ f_maxNodes f_maxRules f_ruleCount f_counterexample f_optimized f_nodeCount f_outputCount f_applications a_preRelation a_preVariable a_preConstant a_roomNeeded a_useCount a_treeSize a_treeKind a_treeValue a_treeA a_treeB a_treeResult a_constantValued a_maximal a_counterpart a_boundNode a_pending a_pendingCount a_nodeKind a_nodeValue a_nodeA a_nodeB a_nodeResult a_nodeUses a_outputNode a_seen a_order a_walkStack, gi (f_maxNodes, f_maxRules, f_ruleCount, f_counterexample, f_optimized, f_nodeCount, f_outputCount, f_applications, a_preRelation, a_preVariable, a_preConstant, a_roomNeeded, a_useCount, a_treeSize, a_treeKind, a_treeValue, a_treeA, a_treeB, a_treeResult, a_constantValued, a_maximal, a_counterpart, a_boundNode, a_pending, a_pendingCount, a_nodeKind, a_nodeValue, a_nodeA, a_nodeB, a_nodeResult, a_nodeUses, a_outputNode, a_seen, a_order, a_walkStack) → J233 (nI p) (x5 + 1) f_maxNodes f_maxRules f_ruleCount f_counterexample f_optimized f_nodeCount f_outputCount f_applications a_preRelation a_preVariable a_preConstant a_roomNeeded a_useCount a_treeSize a_treeKind a_treeValue a_treeA a_treeB a_treeResult a_constantValued a_maximal a_counterpart a_boundNode a_pending a_pendingCount a_nodeKind a_nodeValue a_nodeA a_nodeB a_nodeResult a_nodeUses a_outputNode a_seen a_order a_walkStack) : wL_law_730 post L xs J224 J233 (nI p) x4 x5 kc ks f_maxNodes f_maxRules f_ruleCount f_counterexample f_optimized f_nodeCount f_outputCount f_applications a_preRelation a_preVariable a_preConstant a_roomNeeded a_useCount a_treeSize a_treeKind a_treeValue a_treeA a_treeB a_treeResult a_constantValued a_maximal a_counterpart a_boundNode a_pending a_pendingCount a_nodeKind a_nodeValue a_nodeA a_nodeB a_nodeResult a_nodeUses a_outputNode a_seen a_order a_walkStack := by
  obtain ⟨mN, mR, rc, ph, nc, oc, cx, ap, P, R, rl, rj, rK, uc, D, ps, dc, dl, dj, dk, K, V, A, B, O, hok, hx, g1, g2, g3⟩ := hg
  unfold wL_law_730
  exact rx_stat6 hx ⟨6 + 1, la_741 hok g1 g2 g3 hL hp hJ 6 0 (by omega) _ _ _ _ _ _ _ _ _ _ _ _ _ _ _ _ _ _ _ _ _ _ _ _ _ _ _ _ _ _ _ _ _ _ _ hx⟩
end LAC
end
section
/-! the law's own walk: the DAG, the array-built rules, the stages -/
section LAD
variable {f_maxNodes f_maxRules f_ruleCount f_counterexample f_optimized f_nodeCount f_outputCount f_applications : Int32} {a_preRelation a_preVariable a_preConstant a_roomNeeded a_useCount a_treeSize a_treeKind a_treeValue a_treeA a_treeB a_treeResult a_constantValued a_maximal a_counterpart a_boundNode a_pending a_pendingCount a_nodeKind a_nodeValue a_nodeA a_nodeB a_nodeResult a_nodeUses a_outputNode a_seen a_order a_walkStack : Nat → Int32}
variable {post : Int32 → Prop} {L : Nat} {xs : Nat → Int32} {kc ks b c no n p : Nat} {x4 x5 x6 x7 : Int32} {J224 J233 J262 : (Int32 → Int32 → Int32 → Int32 → Int32 → Int32 → Int32 → Int32 → Int32 → Int32 → (Nat → Int32) → (Nat → Int32) → (Nat → Int32) → (Nat → Int32) → (Nat → Int32) → (Nat → Int32) → (Nat → Int32) → (Nat → Int32) → (Nat → Int32) → (Nat → Int32) → (Nat → Int32) → (Nat → Int32) → (Nat → Int32) → (Nat → Int32) → (Nat → Int32) → (Nat → Int32) → (Nat → Int32) → (Nat → Int32) → (Nat → Int32) → (Nat → Int32) → (Nat → Int32) → (Nat → Int32) → (Nat → Int32) → (Nat → Int32) → (Nat → Int32) → (Nat → Int32) → (Nat → Int32) → Prop)}
/-- the outputs -/
theorem la_670 (hL : L ≤ 260) (hb : b ≤ 10000) (hc : c ≤ 10000) (hno : no ≤ 10000) (hJ : ∀ p, p ≤ b → ∀ f_maxNodes f_maxRules f_ruleCount f_counterexample f_optimized f_nodeCount f_outputCount f_applications a_preRelation a_preVariable a_preConstant a_roomNeeded a_useCount a_treeSize a_treeKind a_treeValue a_treeA a_treeB a_treeResult a_constantValued a_maximal a_counterpart a_boundNode a_pending a_pendingCount a_nodeKind a_nodeValue a_nodeA a_nodeB a_nodeResult a_nodeUses a_outputNode a_seen a_order a_walkStack, gi (f_maxNodes, f_maxRules, f_ruleCount, f_counterexample, f_optimized, f_nodeCount, f_outputCount, f_applications, a_preRelation, a_preVariable, a_preConstant, a_roomNeeded, a_useCount, a_treeSize, a_treeKind, a_treeValue, a_treeA, a_treeB, a_treeResult, a_constantValued, a_maximal, a_counterpart, a_boundNode, a_pending, a_pendingCount, a_nodeKind, a_nodeValue, a_nodeA, a_nodeB, a_nodeResult, a_nodeUses, a_outputNode, a_seen, a_order, a_walkStack) → J233 (nI p) (x5 + 1) f_maxNodes f_maxRules f_ruleCount f_counterexample f_optimized f_nodeCount f_outputCount f_applications a_preRelation a_preVariable a_preConstant a_roomNeeded a_useCount a_treeSize a_treeKind a_treeValue a_treeA a_treeB a_treeResult a_constantValued a_maximal a_counterpart a_boundNode a_pending a_pendingCount a_nodeKind a_nodeValue a_nodeA a_nodeB a_nodeResult a_nodeUses a_outputNode a_seen a_order a_walkStack) : ∀ d q p, q + d = no → p + d ≤ b → ∀ f_maxNodes f_maxRules f_ruleCount f_counterexample f_optimized f_nodeCount f_outputCount f_applications a_preRelation a_preVariable a_preConstant a_roomNeeded a_useCount a_treeSize a_treeKind a_treeValue a_treeA a_treeB a_treeResult a_constantValued a_maximal a_counterpart a_boundNode a_pending a_pendingCount a_nodeKind a_nodeValue a_nodeA a_nodeB a_nodeResult a_nodeUses a_outputNode a_seen a_order a_walkStack, gi (f_maxNodes, f_maxRules, f_ruleCount, f_counterexample, f_optimized, f_nodeCount, f_outputCount, f_applications, a_preRelation, a_preVariable, a_preConstant, a_roomNeeded, a_useCount, a_treeSize, a_treeKind, a_treeValue, a_treeA, a_treeB, a_treeResult, a_constantValued, a_maximal, a_counterpart, a_boundNode, a_pending, a_pendingCount, a_nodeKind, a_nodeValue, a_nodeA, a_nodeB, a_nodeResult, a_nodeUses, a_outputNode, a_seen, a_order, a_walkStack) → wL_law_670 post L xs J224 J233 x4 x5 (nI c) (nI no) kc ks (d + 1) (nI p) (nI q) f_maxNodes f_maxRules f_ruleCount f_counterexample f_optimized f_nodeCount f_outputCount f_applications a_preRelation a_preVariable a_preConstant a_roomNeeded a_useCount a_treeSize a_treeKind a_treeValue a_treeA a_treeB a_treeResult a_constantValued a_maximal a_counterpart a_boundNode a_pending a_pendingCount a_nodeKind a_nodeValue a_nodeA a_nodeB a_nodeResult a_nodeUses a_outputNode a_seen a_order a_walkStack := by
  intro d
  induction d with
  | zero =>
    intro q p hq hp f_maxNodes f_maxRules f_ruleCount f_counterexample f_optimized f_nodeCount f_outputCount f_applications a_preRelation a_preVariable a_preConstant a_roomNeeded a_useCount a_treeSize a_treeKind a_treeValue a_treeA a_treeB a_treeResult a_constantValued a_maximal a_counterpart a_boundNode a_pending a_pendingCount a_nodeKind a_nodeValue a_nodeA a_nodeB a_nodeResult a_nodeUses a_outputNode a_seen a_order a_walkStack hg
    exact pk_le no q (fun _ => la_730 hg hL (by omega) (hJ p (by omega))) (fun h => absurd h (by omega))
  | succ d ih =>
    intro q p hq hp f_maxNodes f_maxRules f_ruleCount f_counterexample f_optimized f_nodeCount f_outputCount f_applications a_preRelation a_preVariable a_preConstant a_roomNeeded a_useCount a_treeSize a_treeKind a_treeValue a_treeA a_treeB a_treeResult a_constantValued a_maximal a_counterpart a_boundNode a_pending a_pendingCount a_nodeKind a_nodeValue a_nodeA a_nodeB a_nodeResult a_nodeUses a_outputNode a_seen a_order a_walkStack hg
    have h712 : ∀ z : Int32, wL_law_712 post L xs J224 J233 (wL_law_670 post L xs J224 J233 x4 x5 (nI c) (nI no) kc ks (d + 1)) (nI (p + 1)) x4 x5 (nI c) (nI no) (nI q) z kc ks f_maxNodes f_maxRules f_ruleCount f_counterexample f_optimized f_nodeCount f_outputCount f_applications a_preRelation a_preVariable a_preConstant a_roomNeeded a_useCount a_treeSize a_treeKind a_treeValue a_treeA a_treeB a_treeResult a_constantValued a_maximal a_counterpart a_boundNode a_pending a_pendingCount a_nodeKind a_nodeValue a_nodeA a_nodeB a_nodeResult a_nodeUses a_outputNode a_seen a_order a_walkStack := by
      intro z
      unfold wL_law_712
      refine gi_out hg ?_
      rintro a ⟨f_maxNodes', f_maxRules', f_ruleCount', f_counterexample', f_optimized', f_nodeCount', f_outputCount', f_applications', a_preRelation', a_preVariable', a_preConstant', a_roomNeeded', a_useCount', a_treeSize', a_treeKind', a_treeValue', a_treeA', a_treeB', a_treeResult', a_constantValued', a_maximal', a_counterpart', a_boundNode', a_pending', a_pendingCount', a_nodeKind', a_nodeValue', a_nodeA', a_nodeB', a_nodeResult', a_nodeUses', a_outputNode', a_seen', a_order', a_walkStack'⟩ hg'
      exact nm_r (nI_succ q).symm (ih (q + 1) (p + 1) (by omega) (by omega) _ _ _ _ _ _ _ _ _ _ _ _ _ _ _ _ _ _ _ _ _ _ _ _ _ _ _ _ _ _ _ _ _ _ _ hg')
    refine pk_le no q (fun _ => la_730 hg hL (by omega) (hJ p (by omega))) (fun _ => nm_r (nI_succ p).symm (la_cell p rfl hL (by omega) (fun r => ?_)))
    refine pk_le c 0 (fun _ => nm_r (nI_succ q).symm (ih (q + 1) (p + 1) (by omega) (by omega) _ _ _ _ _ _ _ _ _ _ _ _ _ _ _ _ _ _ _ _ _ _ _ _ _ _ _ _ _ _ _ _ _ _ _ hg)) (fun h0 => ?_)
    exact br_c (fun _ => h712 _) (fun _ => la_any (nI_ne0 h0 (by omega)) (fun r => h712 r))
/-- the nodes -/
theorem la_528 (hL : L ≤ 260) (hb : b ≤ 10000) (hn : n ≤ 1000) (hJ : ∀ p, p ≤ b → ∀ f_maxNodes f_maxRules f_ruleCount f_counterexample f_optimized f_nodeCount f_outputCount f_applications a_preRelation a_preVariable a_preConstant a_roomNeeded a_useCount a_treeSize a_treeKind a_treeValue a_treeA a_treeB a_treeResult a_constantValued a_maximal a_counterpart a_boundNode a_pending a_pendingCount a_nodeKind a_nodeValue a_nodeA a_nodeB a_nodeResult a_nodeUses a_outputNode a_seen a_order a_walkStack, gi (f_maxNodes, f_maxRules, f_ruleCount, f_counterexample, f_optimized, f_nodeCount, f_outputCount, f_applications, a_preRelation, a_preVariable, a_preConstant, a_roomNeeded, a_useCount, a_treeSize, a_treeKind, a_treeValue, a_treeA, a_treeB, a_treeResult, a_constantValued, a_maximal, a_counterpart, a_boundNode, a_pending, a_pendingCount, a_nodeKind, a_nodeValue, a_nodeA, a_nodeB, a_nodeResult, a_nodeUses, a_outputNode, a_seen, a_order, a_walkStack) → J233 (nI p) (x5 + 1) f_maxNodes f_maxRules f_ruleCount f_counterexample f_optimized f_nodeCount f_outputCount f_applications a_preRelation a_preVariable a_preConstant a_roomNeeded a_useCount a_treeSize a_treeKind a_treeValue a_treeA a_treeB a_treeResult a_constantValued a_maximal a_counterpart a_boundNode a_pending a_pendingCount a_nodeKind a_nodeValue a_nodeA a_nodeB a_nodeResult a_nodeUses a_outputNode a_seen a_order a_walkStack) : ∀ d i c p, i + d = n → c ≤ i → p + d + 5 ≤ b → ∀ f_maxNodes f_maxRules f_ruleCount f_counterexample f_optimized f_nodeCount f_outputCount f_applications a_preRelation a_preVariable a_preConstant a_roomNeeded a_useCount a_treeSize a_treeKind a_treeValue a_treeA a_treeB a_treeResult a_constantValued a_maximal a_counterpart a_boundNode a_pending a_pendingCount a_nodeKind a_nodeValue a_nodeA a_nodeB a_nodeResult a_nodeUses a_outputNode a_seen a_order a_walkStack, gi (f_maxNodes, f_maxRules, f_ruleCount, f_counterexample, f_optimized, f_nodeCount, f_outputCount, f_applications, a_preRelation, a_preVariable, a_preConstant, a_roomNeeded, a_useCount, a_treeSize, a_treeKind, a_treeValue, a_treeA, a_treeB, a_treeResult, a_constantValued, a_maximal, a_counterpart, a_boundNode, a_pending, a_pendingCount, a_nodeKind, a_nodeValue, a_nodeA, a_nodeB, a_nodeResult, a_nodeUses, a_outputNode, a_seen, a_order, a_walkStack) → wL_law_528 post L xs J224 J233 x4 x5 (nI n) kc ks (d + 1) (nI p) (nI c) (nI i) f_maxNodes f_maxRules f_ruleCount f_counterexample f_optimized f_nodeCount f_outputCount f_applications a_preRelation a_preVariable a_preConstant a_roomNeeded a_useCount a_treeSize a_treeKind a_treeValue a_treeA a_treeB a_treeResult a_constantValued a_maximal a_counterpart a_boundNode a_pending a_pendingCount a_nodeKind a_nodeValue a_nodeA a_nodeB a_nodeResult a_nodeUses a_outputNode a_seen a_order a_walkStack := by
  intro d
  induction d with
  | zero =>
    intro i c p hi hc hp f_maxNodes f_maxRules f_ruleCount f_counterexample f_optimized f_nodeCount f_outputCount f_applications a_preRelation a_preVariable a_preConstant a_roomNeeded a_useCount a_treeSize a_treeKind a_treeValue a_treeA a_treeB a_treeResult a_constantValued a_maximal a_counterpart a_boundNode a_pending a_pendingCount a_nodeKind a_nodeValue a_nodeA a_nodeB a_nodeResult a_nodeUses a_outputNode a_seen a_order a_walkStack hg
    exact pk_le n i (fun _ => nm_r (nI_succ p).symm (la_cell p rfl hL (by omega) (fun r => la_mod 4 (by omega) (by omega) (fun m hm => nm_r (nI_add 1 m) ⟨1 + m + 1, la_670 hL hb (by omega) (by omega) hJ (1 + m) 0 (p + 1) (by omega) (by omega) _ _ _ _ _ _ _ _ _ _ _ _ _ _ _ _ _ _ _ _ _ _ _ _ _ _ _ _ _ _ _ _ _ _ _ hg⟩)))) (fun h => absurd h (by omega))
  | succ d ih =>
    intro i c p hi hc hp f_maxNodes f_maxRules f_ruleCount f_counterexample f_optimized f_nodeCount f_outputCount f_applications a_preRelation a_preVariable a_preConstant a_roomNeeded a_useCount a_treeSize a_treeKind a_treeValue a_treeA a_treeB a_treeResult a_constantValued a_maximal a_counterpart a_boundNode a_pending a_pendingCount a_nodeKind a_nodeValue a_nodeA a_nodeB a_nodeResult a_nodeUses a_outputNode a_seen a_order a_walkStack hg
    have h629 : ∀ z a1 a2 : Int32, wL_law_629 post L xs J224 J233 (wL_law_528 post L xs J224 J233 x4 x5 (nI n) kc ks (d + 1)) (nI (p + 1)) x4 x5 (nI n) (nI c) (nI i) z a1 a2 kc ks f_maxNodes f_maxRules f_ruleCount f_counterexample f_optimized f_nodeCount f_outputCount f_applications a_preRelation a_preVariable a_preConstant a_roomNeeded a_useCount a_treeSize a_treeKind a_treeValue a_treeA a_treeB a_treeResult a_constantValued a_maximal a_counterpart a_boundNode a_pending a_pendingCount a_nodeKind a_nodeValue a_nodeA a_nodeB a_nodeResult a_nodeUses a_outputNode a_seen a_order a_walkStack := by
      intro z a1 a2
      unfold wL_law_629
      refine gi_node hg ?_
      rintro w ⟨f_maxNodes', f_maxRules', f_ruleCount', f_counterexample', f_optimized', f_nodeCount', f_outputCount', f_applications', a_preRelation', a_preVariable', a_preConstant', a_roomNeeded', a_useCount', a_treeSize', a_treeKind', a_treeValue', a_treeA', a_treeB', a_treeResult', a_constantValued', a_maximal', a_counterpart', a_boundNode', a_pending', a_pendingCount', a_nodeKind', a_nodeValue', a_nodeA', a_nodeB', a_nodeResult', a_nodeUses', a_outputNode', a_seen', a_order', a_walkStack'⟩ hg'
      exact br_c (fun _ => nm_r (nI_succ i).symm (ih (i + 1) c (p + 1) (by omega) (by omega) (by omega) _ _ _ _ _ _ _ _ _ _ _ _ _ _ _ _ _ _ _ _ _ _ _ _ _ _ _ _ _ _ _ _ _ _ _ hg')) (fun _ => nm_r (nI_succ c).symm (nm_r (nI_succ i).symm (ih (i + 1) (c + 1) (p + 1) (by omega) (by omega) (by omega) _ _ _ _ _ _ _ _ _ _ _ _ _ _ _ _ _ _ _ _ _ _ _ _ _ _ _ _ _ _ _ _ _ _ _ hg')))
    refine pk_le n i (fun h => absurd h (by omega)) (fun _ => nm_r (nI_succ p).symm (la_cell p rfl hL (by omega) (fun r => ?_)))
    refine pk_eq c 0 (fun h0 => ?_) (fun h0 => la_any (by decide) (fun w => ?_))
    · unfold wL_law_564
      exact br_f (by decide) (br_t rfl (nm_e (h629 _ _ _)))
    · have h1 : ¬ nI c = 0 := nI_ne0 (Nat.pos_of_ne_zero h0) (by omega)
      unfold wL_law_564
      exact br_c (fun _ => la_cval (fun a => h629 _ _ _)) (fun _ => br_c (fun _ => nm_e (h629 _ _ _)) (fun _ => la_any h1 (fun a => la_any h1 (fun a2 => h629 _ _ _))))
theorem la_500 (hL : L ≤ 260) (hb : b ≤ 10000) (hp : p + 40 ≤ b) (hJ : ∀ p, p ≤ b → ∀ f_maxNodes f_maxRules f_ruleCount f_counterexample f_optimized f_nodeCount f_outputCount f_applications a_preRelation a_preVariable a_preConstant a_roomNeeded a_useCount a_treeSize a_treeKind a_treeValue a_treeA a_treeB a_treeResult a_constantValued a_maximal a_counterpart a_boundNode a_pending a_pendingCount a_nodeKind a_nodeValue a_nodeA a_nodeB a_nodeResult a_nodeUses a_outputNode a_seen a_order a_walkStack, gi (f_maxNodes, f_maxRules, f_ruleCount, f_counterexample, f_optimized, f_nodeCount, f_outputCount, f_applications, a_preRelation, a_preVariable, a_preConstant, a_roomNeeded, a_useCount, a_treeSize, a_treeKind, a_treeValue, a_treeA, a_treeB, a_treeResult, a_constantValued, a_maximal, a_counterpart, a_boundNode, a_pending, a_pendingCount, a_nodeKind, a_nodeValue, a_nodeA, a_nodeB, a_nodeResult, a_nodeUses, a_outputNode, a_seen, a_order, a_walkStack) → J233 (nI p) (x5 + 1) f_maxNodes f_maxRules f_ruleCount f_counterexample f_optimized f_nodeCount f_outputCount f_applications a_preRelation a_preVariable a_preConstant a_roomNeeded a_useCount a_treeSize a_treeKind a_treeValue a_treeA a_treeB a_treeResult a_constantValued a_maximal a_counterpart a_boundNode a_pending a_pendingCount a_nodeKind a_nodeValue a_nodeA a_nodeB a_nodeResult a_nodeUses a_outputNode a_seen a_order a_walkStack) (hg : gi (f_maxNodes, f_maxRules, f_ruleCount, f_counterexample, f_optimized, f_nodeCount, f_outputCount, f_applications, a_preRelation, a_preVariable, a_preConstant, a_roomNeeded, a_useCount, a_treeSize, a_treeKind, a_treeValue, a_treeA, a_treeB, a_treeResult, a_constantValued, a_maximal, a_counterpart, a_boundNode, a_pending, a_pendingCount, a_nodeKind, a_nodeValue, a_nodeA, a_nodeB, a_nodeResult, a_nodeUses, a_outputNode, a_seen, a_order, a_walkStack)) : wL_law_500 post L xs J224 J233 (nI p) x4 x5 kc ks f_maxNodes f_maxRules f_ruleCount f_counterexample f_optimized f_nodeCount f_outputCount f_applications a_preRelation a_preVariable a_preConstant a_roomNeeded a_useCount a_treeSize a_treeKind a_treeValue a_treeA a_treeB a_treeResult a_constantValued a_maximal a_counterpart a_boundNode a_pending a_pendingCount a_nodeKind a_nodeValue a_nodeA a_nodeB a_nodeResult a_nodeUses a_outputNode a_seen a_order a_walkStack := by
  unfold wL_law_500
  refine br_c (fun _ => nm_r (nI_succ p).symm (la_cell p rfl hL (by omega) (fun r => la_mod 25 (by omega) (by omega) (fun m hm => nm_r (nI_add 4 m) ⟨4 + m + 1, la_528 hL hb (by omega) hJ (4 + m) 0 0 (p + 1) (by omega) (by omega) (by omega) _ _ _ _ _ _ _ _ _ _ _ _ _ _ _ _ _ _ _ _ _ _ _ _ _ _ _ _ _ _ _ _ _ _ _ hg⟩)))) (fun _ => ?_)
  refine gi_opt hg ?_
  rintro a ⟨f_maxNodes', f_maxRules', f_ruleCount', f_counterexample', f_optimized', f_nodeCount', f_outputCount', f_applications', a_preRelation', a_preVariable', a_preConstant', a_roomNeeded', a_useCount', a_treeSize', a_treeKind', a_treeValue', a_treeA', a_treeB', a_treeResult', a_constantValued', a_maximal', a_counterpart', a_boundNode', a_pending', a_pendingCount', a_nodeKind', a_nodeValue', a_nodeA', a_nodeB', a_nodeResult', a_nodeUses', a_outputNode', a_seen', a_order', a_walkStack'⟩ hg'
  exact la_730 hg' hL (by omega) (hJ p (by omega))
/-- the replacement of an array-built rule, its precondition, its commit -/
theorem la_386 (hL : L ≤ 260) (hb : b ≤ 10000) (hn : n ≤ 1000) (hJ : ∀ p, p ≤ b → ∀ f_maxNodes f_maxRules f_ruleCount f_counterexample f_optimized f_nodeCount f_outputCount f_applications a_preRelation a_preVariable a_preConstant a_roomNeeded a_useCount a_treeSize a_treeKind a_treeValue a_treeA a_treeB a_treeResult a_constantValued a_maximal a_counterpart a_boundNode a_pending a_pendingCount a_nodeKind a_nodeValue a_nodeA a_nodeB a_nodeResult a_nodeUses a_outputNode a_seen a_order a_walkStack, gi (f_maxNodes, f_maxRules, f_ruleCount, f_counterexample, f_optimized, f_nodeCount, f_outputCount, f_applications, a_preRelation, a_preVariable, a_preConstant, a_roomNeeded, a_useCount, a_treeSize, a_treeKind, a_treeValue, a_treeA, a_treeB, a_treeResult, a_constantValued, a_maximal, a_counterpart, a_boundNode, a_pending, a_pendingCount, a_nodeKind, a_nodeValue, a_nodeA, a_nodeB, a_nodeResult, a_nodeUses, a_outputNode, a_seen, a_order, a_walkStack) → J262 (nI p) (x7 + 1) f_maxNodes f_maxRules f_ruleCount f_counterexample f_optimized f_nodeCount f_outputCount f_applications a_preRelation a_preVariable a_preConstant a_roomNeeded a_useCount a_treeSize a_treeKind a_treeValue a_treeA a_treeB a_treeResult a_constantValued a_maximal a_counterpart a_boundNode a_pending a_pendingCount a_nodeKind a_nodeValue a_nodeA a_nodeB a_nodeResult a_nodeUses a_outputNode a_seen a_order a_walkStack) : ∀ d k p, k + d = n → p + d + 1 ≤ b → ∀ f_maxNodes f_maxRules f_ruleCount f_counterexample f_optimized f_nodeCount f_outputCount f_applications a_preRelation a_preVariable a_preConstant a_roomNeeded a_useCount a_treeSize a_treeKind a_treeValue a_treeA a_treeB a_treeResult a_constantValued a_maximal a_counterpart a_boundNode a_pending a_pendingCount a_nodeKind a_nodeValue a_nodeA a_nodeB a_nodeResult a_nodeUses a_outputNode a_seen a_order a_walkStack, gi (f_maxNodes, f_maxRules, f_ruleCount, f_counterexample, f_optimized, f_nodeCount, f_outputCount, f_applications, a_preRelation, a_preVariable, a_preConstant, a_roomNeeded, a_useCount, a_treeSize, a_treeKind, a_treeValue, a_treeA, a_treeB, a_treeResult, a_constantValued, a_maximal, a_counterpart, a_boundNode, a_pending, a_pendingCount, a_nodeKind, a_nodeValue, a_nodeA, a_nodeB, a_nodeResult, a_nodeUses, a_outputNode, a_seen, a_order, a_walkStack) → wL_law_386 post L xs J224 J233 J262 x4 x5 x6 x7 (nI n) kc ks (d + 1) (nI p) (nI k) f_maxNodes f_maxRules f_ruleCount f_counterexample f_optimized f_nodeCount f_outputCount f_applications a_preRelation a_preVariable a_preConstant a_roomNeeded a_useCount a_treeSize a_treeKind a_treeValue a_treeA a_treeB a_treeResult a_constantValued a_maximal a_counterpart a_boundNode a_pending a_pendingCount a_nodeKind a_nodeValue a_nodeA a_nodeB a_nodeResult a_nodeUses a_outputNode a_seen a_order a_walkStack := by
  intro d
  induction d with
  | zero =>
    intro k p hk hp f_maxNodes f_maxRules f_ruleCount f_counterexample f_optimized f_nodeCount f_outputCount f_applications a_preRelation a_preVariable a_preConstant a_roomNeeded a_useCount a_treeSize a_treeKind a_treeValue a_treeA a_treeB a_treeResult a_constantValued a_maximal a_counterpart a_boundNode a_pending a_pendingCount a_nodeKind a_nodeValue a_nodeA a_nodeB a_nodeResult a_nodeUses a_outputNode a_seen a_order a_walkStack hg
    refine pk_le n k (fun _ => nm_r (nI_succ p).symm (la_cell p rfl hL (by omega) (fun r => la_any (by decide) (fun a => la_cval (fun a2 => ?_))))) (fun h => absurd h (by omega))
    refine gi_pre hg ?_
    rintro w ⟨f_maxNodes', f_maxRules', f_ruleCount', f_counterexample', f_optimized', f_nodeCount', f_outputCount', f_applications', a_preRelation', a_preVariable', a_preConstant', a_roomNeeded', a_useCount', a_treeSize', a_treeKind', a_treeValue', a_treeA', a_treeB', a_treeResult', a_constantValued', a_maximal', a_counterpart', a_boundNode', a_pending', a_pendingCount', a_nodeKind', a_nodeValue', a_nodeA', a_nodeB', a_nodeResult', a_nodeUses', a_outputNode', a_seen', a_order', a_walkStack'⟩ hg'
    refine gi_commit hg' ?_
    rintro w2 ⟨f_maxNodes'', f_maxRules'', f_ruleCount'', f_counterexample'', f_optimized'', f_nodeCount'', f_outputCount'', f_applications'', a_preRelation'', a_preVariable'', a_preConstant'', a_roomNeeded'', a_useCount'', a_treeSize'', a_treeKind'', a_treeValue'', a_treeA'', a_treeB'', a_treeResult'', a_constantValued'', a_maximal'', a_counterpart'', a_boundNode'', a_pending'', a_pendingCount'', a_nodeKind'', a_nodeValue'', a_nodeA'', a_nodeB'', a_nodeResult'', a_nodeUses'', a_outputNode'', a_seen'', a_order'', a_walkStack''⟩ hg''
    exact nm_e (hJ (p + 1) (by omega) _ _ _ _ _ _ _ _ _ _ _ _ _ _ _ _ _ _ _ _ _ _ _ _ _ _ _ _ _ _ _ _ _ _ _ hg'')
  | succ d ih =>
    intro k p hk hp f_maxNodes f_maxRules f_ruleCount f_counterexample f_optimized f_nodeCount f_outputCount f_applications a_preRelation a_preVariable a_preConstant a_roomNeeded a_useCount a_treeSize a_treeKind a_treeValue a_treeA a_treeB a_treeResult a_constantValued a_maximal a_counterpart a_boundNode a_pending a_pendingCount a_nodeKind a_nodeValue a_nodeA a_nodeB a_nodeResult a_nodeUses a_outputNode a_seen a_order a_walkStack hg
    have h437 : ∀ y z : Int32, wL_law_437 post L xs J224 J233 J262 (wL_law_386 post L xs J224 J233 J262 x4 x5 x6 x7 (nI n) kc ks (d + 1)) (nI (p + 1)) x4 x5 x6 x7 (nI n) (nI k) y z kc ks f_maxNodes f_maxRules f_ruleCount f_counterexample f_optimized f_nodeCount f_outputCount f_applications a_preRelation a_preVariable a_preConstant a_roomNeeded a_useCount a_treeSize a_treeKind a_treeValue a_treeA a_treeB a_treeResult a_constantValued a_maximal a_counterpart a_boundNode a_pending a_pendingCount a_nodeKind a_nodeValue a_nodeA a_nodeB a_nodeResult a_nodeUses a_outputNode a_seen a_order a_walkStack := by
      intro y z
      unfold wL_law_437
      refine gi_rep hg ?_
      rintro w ⟨f_maxNodes', f_maxRules', f_ruleCount', f_counterexample', f_optimized', f_nodeCount', f_outputCount', f_applications', a_preRelation', a_preVariable', a_preConstant', a_roomNeeded', a_useCount', a_treeSize', a_treeKind', a_treeValue', a_treeA', a_treeB', a_treeResult', a_constantValued', a_maximal', a_counterpart', a_boundNode', a_pending', a_pendingCount', a_nodeKind', a_nodeValue', a_nodeA', a_nodeB', a_nodeResult', a_nodeUses', a_outputNode', a_seen', a_order', a_walkStack'⟩ hg'
      exact nm_r (nI_succ k).symm (ih (k + 1) (p + 1) (by omega) (by omega) _ _ _ _ _ _ _ _ _ _ _ _ _ _ _ _ _ _ _ _ _ _ _ _ _ _ _ _ _ _ _ _ _ _ _ hg')
    exact pk_le n k (fun h => absurd h (by omega)) (fun _ => nm_r (nI_succ p).symm (la_cell p rfl hL (by omega) (fun r => la_any (by decide) (fun a => nm_e (br_c (fun _ => h437 _ _) (fun _ => la_cval (fun a2 => h437 _ _)))))))
/-- the pattern of an array-built rule -/
theorem la_292 (hL : L ≤ 260) (hb : b ≤ 10000) (hn : n ≤ 1000) (hJ : ∀ p, p ≤ b → ∀ f_maxNodes f_maxRules f_ruleCount f_counterexample f_optimized f_nodeCount f_outputCount f_applications a_preRelation a_preVariable a_preConstant a_roomNeeded a_useCount a_treeSize a_treeKind a_treeValue a_treeA a_treeB a_treeResult a_constantValued a_maximal a_counterpart a_boundNode a_pending a_pendingCount a_nodeKind a_nodeValue a_nodeA a_nodeB a_nodeResult a_nodeUses a_outputNode a_seen a_order a_walkStack, gi (f_maxNodes, f_maxRules, f_ruleCount, f_counterexample, f_optimized, f_nodeCount, f_outputCount, f_applications, a_preRelation, a_preVariable, a_preConstant, a_roomNeeded, a_useCount, a_treeSize, a_treeKind, a_treeValue, a_treeA, a_treeB, a_treeResult, a_constantValued, a_maximal, a_counterpart, a_boundNode, a_pending, a_pendingCount, a_nodeKind, a_nodeValue, a_nodeA, a_nodeB, a_nodeResult, a_nodeUses, a_outputNode, a_seen, a_order, a_walkStack) → J262 (nI p) (x7 + 1) f_maxNodes f_maxRules f_ruleCount f_counterexample f_optimized f_nodeCount f_outputCount f_applications a_preRelation a_preVariable a_preConstant a_roomNeeded a_useCount a_treeSize a_treeKind a_treeValue a_treeA a_treeB a_treeResult a_constantValued a_maximal a_counterpart a_boundNode a_pending a_pendingCount a_nodeKind a_nodeValue a_nodeA a_nodeB a_nodeResult a_nodeUses a_outputNode a_seen a_order a_walkStack) : ∀ d k p, k + d = n → p + d + 6 ≤ b → ∀ f_maxNodes f_maxRules f_ruleCount f_counterexample f_optimized f_nodeCount f_outputCount f_applications a_preRelation a_preVariable a_preConstant a_roomNeeded a_useCount a_treeSize a_treeKind a_treeValue a_treeA a_treeB a_treeResult a_constantValued a_maximal a_counterpart a_boundNode a_pending a_pendingCount a_nodeKind a_nodeValue a_nodeA a_nodeB a_nodeResult a_nodeUses a_outputNode a_seen a_order a_walkStack, gi (f_maxNodes, f_maxRules, f_ruleCount, f_counterexample, f_optimized, f_nodeCount, f_outputCount, f_applications, a_preRelation, a_preVariable, a_preConstant, a_roomNeeded, a_useCount, a_treeSize, a_treeKind, a_treeValue, a_treeA, a_treeB, a_treeResult, a_constantValued, a_maximal, a_counterpart, a_boundNode, a_pending, a_pendingCount, a_nodeKind, a_nodeValue, a_nodeA, a_nodeB, a_nodeResult, a_nodeUses, a_outputNode, a_seen, a_order, a_walkStack) → wL_law_292 post L xs J224 J233 J262 x4 x5 x6 x7 (nI n) kc ks (d + 1) (nI p) (nI k) f_maxNodes f_maxRules f_ruleCount f_counterexample f_optimized f_nodeCount f_outputCount f_applications a_preRelation a_preVariable a_preConstant a_roomNeeded a_useCount a_treeSize a_treeKind a_treeValue a_treeA a_treeB a_treeResult a_constantValued a_maximal a_counterpart a_boundNode a_pending a_pendingCount a_nodeKind a_nodeValue a_nodeA a_nodeB a_nodeResult a_nodeUses a_outputNode a_seen a_order a_walkStack := by
  intro d
  induction d with
  | zero =>
    intro k p hk hp f_maxNodes f_maxRules f_ruleCount f_counterexample f_optimized f_nodeCount f_outputCount f_applications a_preRelation a_preVariable a_preConstant a_roomNeeded a_useCount a_treeSize a_treeKind a_treeValue a_treeA a_treeB a_treeResult a_constantValued a_maximal a_counterpart a_boundNode a_pending a_pendingCount a_nodeKind a_nodeValue a_nodeA a_nodeB a_nodeResult a_nodeUses a_outputNode a_seen a_order a_walkStack hg
    exact pk_le n k (fun _ => nm_r (nI_succ p).symm (la_cell p rfl hL (by omega) (fun r => la_mod 3 (by omega) (by omega) (fun m hm => nm_r (nI_add 1 m) ⟨1 + m + 1, la_386 hL hb (by omega) hJ (1 + m) 0 (p + 1) (by omega) (by omega) _ _ _ _ _ _ _ _ _ _ _ _ _ _ _ _ _ _ _ _ _ _ _ _ _ _ _ _ _ _ _ _ _ _ _ hg⟩)))) (fun h => absurd h (by omega))
  | succ d ih =>
    intro k p hk hp f_maxNodes f_maxRules f_ruleCount f_counterexample f_optimized f_nodeCount f_outputCount f_applications a_preRelation a_preVariable a_preConstant a_roomNeeded a_useCount a_treeSize a_treeKind a_treeValue a_treeA a_treeB a_treeResult a_constantValued a_maximal a_counterpart a_boundNode a_pending a_pendingCount a_nodeKind a_nodeValue a_nodeA a_nodeB a_nodeResult a_nodeUses a_outputNode a_seen a_order a_walkStack hg
    have h350 : ∀ y z : Int32, wL_law_350 post L xs J224 J233 J262 (wL_law_292 post L xs J224 J233 J262 x4 x5 x6 x7 (nI n) kc ks (d + 1)) (nI (p + 1)) x4 x5 x6 x7 (nI n) (nI k) y z kc ks f_maxNodes f_maxRules f_ruleCount f_counterexample f_optimized f_nodeCount f_outputCount f_applications a_preRelation a_preVariable a_preConstant a_roomNeeded a_useCount a_treeSize a_treeKind a_treeValue a_treeA a_treeB a_treeResult a_constantValued a_maximal a_counterpart a_boundNode a_pending a_pendingCount a_nodeKind a_nodeValue a_nodeA a_nodeB a_nodeResult a_nodeUses a_outputNode a_seen a_order a_walkStack := by
      intro y z
      unfold wL_law_350
      refine gi_pat hg ?_
      rintro w ⟨f_maxNodes', f_maxRules', f_ruleCount', f_counterexample', f_optimized', f_nodeCount', f_outputCount', f_applications', a_preRelation', a_preVariable', a_preConstant', a_roomNeeded', a_useCount', a_treeSize', a_treeKind', a_treeValue', a_treeA', a_treeB', a_treeResult', a_constantValued', a_maximal', a_counterpart', a_boundNode', a_pending', a_pendingCount', a_nodeKind', a_nodeValue', a_nodeA', a_nodeB', a_nodeResult', a_nodeUses', a_outputNode', a_seen', a_order', a_walkStack'⟩ hg'
      exact nm_r (nI_succ k).symm (ih (k + 1) (p + 1) (by omega) (by omega) _ _ _ _ _ _ _ _ _ _ _ _ _ _ _ _ _ _ _ _ _ _ _ _ _ _ _ _ _ _ _ _ _ _ _ hg')
    exact pk_le n k (fun h => absurd h (by omega)) (fun _ => nm_r (nI_succ p).symm (la_cell p rfl hL (by omega) (fun r => la_any (by decide) (fun a => nm_e (br_c (fun _ => h350 _ _) (fun _ => br_c (fun _ => h350 _ _) (fun _ => la_cval (fun a2 => h350 _ _))))))))
/-- the array-built rules of a stage -/
theorem la_262 (hL : L ≤ 260) (hb : b ≤ 10000) (hn : n ≤ 1000) (h500 : ∀ p, p ≤ b → ∀ f_maxNodes f_maxRules f_ruleCount f_counterexample f_optimized f_nodeCount f_outputCount f_applications a_preRelation a_preVariable a_preConstant a_roomNeeded a_useCount a_treeSize a_treeKind a_treeValue a_treeA a_treeB a_treeResult a_constantValued a_maximal a_counterpart a_boundNode a_pending a_pendingCount a_nodeKind a_nodeValue a_nodeA a_nodeB a_nodeResult a_nodeUses a_outputNode a_seen a_order a_walkStack, gi (f_maxNodes, f_maxRules, f_ruleCount, f_counterexample, f_optimized, f_nodeCount, f_outputCount, f_applications, a_preRelation, a_preVariable, a_preConstant, a_roomNeeded, a_useCount, a_treeSize, a_treeKind, a_treeValue, a_treeA, a_treeB, a_treeResult, a_constantValued, a_maximal, a_counterpart, a_boundNode, a_pending, a_pendingCount, a_nodeKind, a_nodeValue, a_nodeA, a_nodeB, a_nodeResult, a_nodeUses, a_outputNode, a_seen, a_order, a_walkStack) → wL_law_500 post L xs J224 J233 (nI p) x4 x5 kc ks f_maxNodes f_maxRules f_ruleCount f_counterexample f_optimized f_nodeCount f_outputCount f_applications a_preRelation a_preVariable a_preConstant a_roomNeeded a_useCount a_treeSize a_treeKind a_treeValue a_treeA a_treeB a_treeResult a_constantValued a_maximal a_counterpart a_boundNode a_pending a_pendingCount a_nodeKind a_nodeValue a_nodeA a_nodeB a_nodeResult a_nodeUses a_outputNode a_seen a_order a_walkStack) : ∀ d k p, k + d = n → p + d * 12 ≤ b → ∀ f_maxNodes f_maxRules f_ruleCount f_counterexample f_optimized f_nodeCount f_outputCount f_applications a_preRelation a_preVariable a_preConstant a_roomNeeded a_useCount a_treeSize a_treeKind a_treeValue a_treeA a_treeB a_treeResult a_constantValued a_maximal a_counterpart a_boundNode a_pending a_pendingCount a_nodeKind a_nodeValue a_nodeA a_nodeB a_nodeResult a_nodeUses a_outputNode a_seen a_order a_walkStack, gi (f_maxNodes, f_maxRules, f_ruleCount, f_counterexample, f_optimized, f_nodeCount, f_outputCount, f_applications, a_preRelation, a_preVariable, a_preConstant, a_roomNeeded, a_useCount, a_treeSize, a_treeKind, a_treeValue, a_treeA, a_treeB, a_treeResult, a_constantValued, a_maximal, a_counterpart, a_boundNode, a_pending, a_pendingCount, a_nodeKind, a_nodeValue, a_nodeA, a_nodeB, a_nodeResult, a_nodeUses, a_outputNode, a_seen, a_order, a_walkStack) → wL_law_262 post L xs J224 J233 x4 x5 (nI n) kc ks (d + 1) (nI p) (nI k) f_maxNodes f_maxRules f_ruleCount f_counterexample f_optimized f_nodeCount f_outputCount f_applications a_preRelation a_preVariable a_preConstant a_roomNeeded a_useCount a_treeSize a_treeKind a_treeValue a_treeA a_treeB a_treeResult a_constantValued a_maximal a_counterpart a_boundNode a_pending a_pendingCount a_nodeKind a_nodeValue a_nodeA a_nodeB a_nodeResult a_nodeUses a_outputNode a_seen a_order a_walkStack := by
  intro d
  induction d with
  | zero =>
    intro k p hk hp f_maxNodes f_maxRules f_ruleCount f_counterexample f_optimized f_nodeCount f_outputCount f_applications a_preRelation a_preVariable a_preConstant a_roomNeeded a_useCount a_treeSize a_treeKind a_treeValue a_treeA a_treeB a_treeResult a_constantValued a_maximal a_counterpart a_boundNode a_pending a_pendingCount a_nodeKind a_nodeValue a_nodeA a_nodeB a_nodeResult a_nodeUses a_outputNode a_seen a_order a_walkStack hg
    exact pk_le n k (fun _ => h500 p (by omega) _ _ _ _ _ _ _ _ _ _ _ _ _ _ _ _ _ _ _ _ _ _ _ _ _ _ _ _ _ _ _ _ _ _ _ hg) (fun h => absurd h (by omega))
  | succ d ih =>
    intro k p hk hp f_maxNodes f_maxRules f_ruleCount f_counterexample f_optimized f_nodeCount f_outputCount f_applications a_preRelation a_preVariable a_preConstant a_roomNeeded a_useCount a_treeSize a_treeKind a_treeValue a_treeA a_treeB a_treeResult a_constantValued a_maximal a_counterpart a_boundNode a_pending a_pendingCount a_nodeKind a_nodeValue a_nodeA a_nodeB a_nodeResult a_nodeUses a_outputNode a_seen a_order a_walkStack hg
    refine pk_le n k (fun h => absurd h (by omega)) (fun _ => ?_)
    refine gi_begin hg ?_
    rintro ⟨f_maxNodes', f_maxRules', f_ruleCount', f_counterexample', f_optimized', f_nodeCount', f_outputCount', f_applications', a_preRelation', a_preVariable', a_preConstant', a_roomNeeded', a_useCount', a_treeSize', a_treeKind', a_treeValue', a_treeA', a_treeB', a_treeResult', a_constantValued', a_maximal', a_counterpart', a_boundNode', a_pending', a_pendingCount', a_nodeKind', a_nodeValue', a_nodeA', a_nodeB', a_nodeResult', a_nodeUses', a_outputNode', a_seen', a_order', a_walkStack'⟩ hg'
    exact nm_r (nI_succ p).symm (la_cell p rfl hL (by omega) (fun r => la_mod 5 (by omega) (by omega) (fun m hm => nm_r (nI_add 1 m) ⟨1 + m + 1, la_292 (b := p + 12) hL (by omega) (by omega) (fun p' hp' f_maxNodes'' f_maxRules'' f_ruleCount'' f_counterexample'' f_optimized'' f_nodeCount'' f_outputCount'' f_applications'' a_preRelation'' a_preVariable'' a_preConstant'' a_roomNeeded'' a_useCount'' a_treeSize'' a_treeKind'' a_treeValue'' a_treeA'' a_treeB'' a_treeResult'' a_constantValued'' a_maximal'' a_counterpart'' a_boundNode'' a_pending'' a_pendingCount'' a_nodeKind'' a_nodeValue'' a_nodeA'' a_nodeB'' a_nodeResult'' a_nodeUses'' a_outputNode'' a_seen'' a_order'' a_walkStack'' hg'' => by rw [← nI_succ]; exact ih (k + 1) p' (by omega) (by omega) _ _ _ _ _ _ _ _ _ _ _ _ _ _ _ _ _ _ _ _ _ _ _ _ _ _ _ _ _ _ _ _ _ _ _ hg'') (1 + m) 0 (p + 1) (by omega) (by omega) _ _ _ _ _ _ _ _ _ _ _ _ _ _ _ _ _ _ _ _ _ _ _ _ _ _ _ _ _ _ _ _ _ _ _ hg'⟩)))
/-- the three stages of a round -/
theorem la_233 (hL : L ≤ 260) (hb : b ≤ 10000) (hJ : ∀ p, p ≤ b → ∀ f_maxNodes f_maxRules f_ruleCount f_counterexample f_optimized f_nodeCount f_outputCount f_applications a_preRelation a_preVariable a_preConstant a_roomNeeded a_useCount a_treeSize a_treeKind a_treeValue a_treeA a_treeB a_treeResult a_constantValued a_maximal a_counterpart a_boundNode a_pending a_pendingCount a_nodeKind a_nodeValue a_nodeA a_nodeB a_nodeResult a_nodeUses a_outputNode a_seen a_order a_walkStack, gi (f_maxNodes, f_maxRules, f_ruleCount, f_counterexample, f_optimized, f_nodeCount, f_outputCount, f_applications, a_preRelation, a_preVariable, a_preConstant, a_roomNeeded, a_useCount, a_treeSize, a_treeKind, a_treeValue, a_treeA, a_treeB, a_treeResult, a_constantValued, a_maximal, a_counterpart, a_boundNode, a_pending, a_pendingCount, a_nodeKind, a_nodeValue, a_nodeA, a_nodeB, a_nodeResult, a_nodeUses, a_outputNode, a_seen, a_order, a_walkStack) → J224 (nI p) (x4 + 1) f_maxNodes f_maxRules f_ruleCount f_counterexample f_optimized f_nodeCount f_outputCount f_applications a_preRelation a_preVariable a_preConstant a_roomNeeded a_useCount a_treeSize a_treeKind a_treeValue a_treeA a_treeB a_treeResult a_constantValued a_maximal a_counterpart a_boundNode a_pending a_pendingCount a_nodeKind a_nodeValue a_nodeA a_nodeB a_nodeResult a_nodeUses a_outputNode a_seen a_order a_walkStack) : ∀ d s p, s + d = 3 → p + d * 100 ≤ b → ∀ f_maxNodes f_maxRules f_ruleCount f_counterexample f_optimized f_nodeCount f_outputCount f_applications a_preRelation a_preVariable a_preConstant a_roomNeeded a_useCount a_treeSize a_treeKind a_treeValue a_treeA a_treeB a_treeResult a_constantValued a_maximal a_counterpart a_boundNode a_pending a_pendingCount a_nodeKind a_nodeValue a_nodeA a_nodeB a_nodeResult a_nodeUses a_outputNode a_seen a_order a_walkStack, gi (f_maxNodes, f_maxRules, f_ruleCount, f_counterexample, f_optimized, f_nodeCount, f_outputCount, f_applications, a_preRelation, a_preVariable, a_preConstant, a_roomNeeded, a_useCount, a_treeSize, a_treeKind, a_treeValue, a_treeA, a_treeB, a_treeResult, a_constantValued, a_maximal, a_counterpart, a_boundNode, a_pending, a_pendingCount, a_nodeKind, a_nodeValue, a_nodeA, a_nodeB, a_nodeResult, a_nodeUses, a_outputNode, a_seen, a_order, a_walkStack) → wL_law_233 post L xs J224 x4 kc ks (d + 1) (nI p) (nI s) f_maxNodes f_maxRules f_ruleCount f_counterexample f_optimized f_nodeCount f_outputCount f_applications a_preRelation a_preVariable a_preConstant a_roomNeeded a_useCount a_treeSize a_treeKind a_treeValue a_treeA a_treeB a_treeResult a_constantValued a_maximal a_counterpart a_boundNode a_pending a_pendingCount a_nodeKind a_nodeValue a_nodeA a_nodeB a_nodeResult a_nodeUses a_outputNode a_seen a_order a_walkStack := by
  intro d
  induction d with
  | zero =>
    intro s p hs hp f_maxNodes f_maxRules f_ruleCount f_counterexample f_optimized f_nodeCount f_outputCount f_applications a_preRelation a_preVariable a_preConstant a_roomNeeded a_useCount a_treeSize a_treeKind a_treeValue a_treeA a_treeB a_treeResult a_constantValued a_maximal a_counterpart a_boundNode a_pending a_pendingCount a_nodeKind a_nodeValue a_nodeA a_nodeB a_nodeResult a_nodeUses a_outputNode a_seen a_order a_walkStack hg
    refine pk_le 3 s (fun _ => ?_) (fun h => absurd h (by omega))
    refine gi_clear hg ?_
    rintro ⟨f_maxNodes', f_maxRules', f_ruleCount', f_counterexample', f_optimized', f_nodeCount', f_outputCount', f_applications', a_preRelation', a_preVariable', a_preConstant', a_roomNeeded', a_useCount', a_treeSize', a_treeKind', a_treeValue', a_treeA', a_treeB', a_treeResult', a_constantValued', a_maximal', a_counterpart', a_boundNode', a_pending', a_pendingCount', a_nodeKind', a_nodeValue', a_nodeA', a_nodeB', a_nodeResult', a_nodeUses', a_outputNode', a_seen', a_order', a_walkStack'⟩ hg'
    exact nm_e (hJ p (by omega) _ _ _ _ _ _ _ _ _ _ _ _ _ _ _ _ _ _ _ _ _ _ _ _ _ _ _ _ _ _ _ _ _ _ _ hg')
  | succ d ih =>
    intro s p hs hp f_maxNodes f_maxRules f_ruleCount f_counterexample f_optimized f_nodeCount f_outputCount f_applications a_preRelation a_preVariable a_preConstant a_roomNeeded a_useCount a_treeSize a_treeKind a_treeValue a_treeA a_treeB a_treeResult a_constantValued a_maximal a_counterpart a_boundNode a_pending a_pendingCount a_nodeKind a_nodeValue a_nodeA a_nodeB a_nodeResult a_nodeUses a_outputNode a_seen a_order a_walkStack hg
    have h500 : ∀ p', p' ≤ p + 60 → ∀ f_maxNodes f_maxRules f_ruleCount f_counterexample f_optimized f_nodeCount f_outputCount f_applications a_preRelation a_preVariable a_preConstant a_roomNeeded a_useCount a_treeSize a_treeKind a_treeValue a_treeA a_treeB a_treeResult a_constantValued a_maximal a_counterpart a_boundNode a_pending a_pendingCount a_nodeKind a_nodeValue a_nodeA a_nodeB a_nodeResult a_nodeUses a_outputNode a_seen a_order a_walkStack, gi (f_maxNodes, f_maxRules, f_ruleCount, f_counterexample, f_optimized, f_nodeCount, f_outputCount, f_applications, a_preRelation, a_preVariable, a_preConstant, a_roomNeeded, a_useCount, a_treeSize, a_treeKind, a_treeValue, a_treeA, a_treeB, a_treeResult, a_constantValued, a_maximal, a_counterpart, a_boundNode, a_pending, a_pendingCount, a_nodeKind, a_nodeValue, a_nodeA, a_nodeB, a_nodeResult, a_nodeUses, a_outputNode, a_seen, a_order, a_walkStack) → wL_law_500 post L xs J224 (wL_law_233 post L xs J224 x4 kc ks (d + 1)) (nI p') x4 (nI s) kc ks f_maxNodes f_maxRules f_ruleCount f_counterexample f_optimized f_nodeCount f_outputCount f_applications a_preRelation a_preVariable a_preConstant a_roomNeeded a_useCount a_treeSize a_treeKind a_treeValue a_treeA a_treeB a_treeResult a_constantValued a_maximal a_counterpart a_boundNode a_pending a_pendingCount a_nodeKind a_nodeValue a_nodeA a_nodeB a_nodeResult a_nodeUses a_outputNode a_seen a_order a_walkStack := fun p' hp' f_maxNodes' f_maxRules' f_ruleCount' f_counterexample' f_optimized' f_nodeCount' f_outputCount' f_applications' a_preRelation' a_preVariable' a_preConstant' a_roomNeeded' a_useCount' a_treeSize' a_treeKind' a_treeValue' a_treeA' a_treeB' a_treeResult' a_constantValued' a_maximal' a_counterpart' a_boundNode' a_pending' a_pendingCount' a_nodeKind' a_nodeValue' a_nodeA' a_nodeB' a_nodeResult' a_nodeUses' a_outputNode' a_seen' a_order' a_walkStack' hg' => la_500 (b := p + 100) hL (by omega) (by omega) (fun p2 hp2 f_maxNodes'' f_maxRules'' f_ruleCount'' f_counterexample'' f_optimized'' f_nodeCount'' f_outputCount'' f_applications'' a_preRelation'' a_preVariable'' a_preConstant'' a_roomNeeded'' a_useCount'' a_treeSize'' a_treeKind'' a_treeValue'' a_treeA'' a_treeB'' a_treeResult'' a_constantValued'' a_maximal'' a_counterpart'' a_boundNode'' a_pending'' a_pendingCount'' a_nodeKind'' a_nodeValue'' a_nodeA'' a_nodeB'' a_nodeResult'' a_nodeUses'' a_outputNode'' a_seen'' a_order'' a_walkStack'' hg'' => by rw [← nI_succ]; exact ih (s + 1) p2 (by omega) (by omega) _ _ _ _ _ _ _ _ _ _ _ _ _ _ _ _ _ _ _ _ _ _ _ _ _ _ _ _ _ _ _ _ _ _ _ hg'') hg'
    exact pk_le 3 s (fun h => absurd h (by omega)) (fun _ => pk_eq s 1 (fun _ => h500 p (by omega) _ _ _ _ _ _ _ _ _ _ _ _ _ _ _ _ _ _ _ _ _ _ _ _ _ _ _ _ _ _ _ _ _ _ _ hg) (fun _ => nm_r (nI_succ p).symm (la_cell p rfl hL (by omega) (fun r => la_mod 3 (by omega) (by omega) (fun m hm => ⟨m + 1, la_262 (b := p + 60) hL (by omega) (by omega) h500 m 0 (p + 1) (by omega) (by omega) _ _ _ _ _ _ _ _ _ _ _ _ _ _ _ _ _ _ _ _ _ _ _ _ _ _ _ _ _ _ _ _ _ _ _ hg⟩)))))
/-- one round -/
theorem la_rnd {d i : Nat} (hL : L ≤ 260) (hp : p ≤ 2000) (ih : ∀ p', p' ≤ p + 300 → ∀ f_maxNodes f_maxRules f_ruleCount f_counterexample f_optimized f_nodeCount f_outputCount f_applications a_preRelation a_preVariable a_preConstant a_roomNeeded a_useCount a_treeSize a_treeKind a_treeValue a_treeA a_treeB a_treeResult a_constantValued a_maximal a_counterpart a_boundNode a_pending a_pendingCount a_nodeKind a_nodeValue a_nodeA a_nodeB a_nodeResult a_nodeUses a_outputNode a_seen a_order a_walkStack, gi (f_maxNodes, f_maxRules, f_ruleCount, f_counterexample, f_optimized, f_nodeCount, f_outputCount, f_applications, a_preRelation, a_preVariable, a_preConstant, a_roomNeeded, a_useCount, a_treeSize, a_treeKind, a_treeValue, a_treeA, a_treeB, a_treeResult, a_constantValued, a_maximal, a_counterpart, a_boundNode, a_pending, a_pendingCount, a_nodeKind, a_nodeValue, a_nodeA, a_nodeB, a_nodeResult, a_nodeUses, a_outputNode, a_seen, a_order, a_walkStack) → wL_law_224 post L xs kc ks d (nI p') (nI i + 1) f_maxNodes f_maxRules f_ruleCount f_counterexample f_optimized f_nodeCount f_outputCount f_applications a_preRelation a_preVariable a_preConstant a_roomNeeded a_useCount a_treeSize a_treeKind a_treeValue a_treeA a_treeB a_treeResult a_constantValued a_maximal a_counterpart a_boundNode a_pending a_pendingCount a_nodeKind a_nodeValue a_nodeA a_nodeB a_nodeResult a_nodeUses a_outputNode a_seen a_order a_walkStack) : ∀ f_maxNodes f_maxRules f_ruleCount f_counterexample f_optimized f_nodeCount f_outputCount f_applications a_preRelation a_preVariable a_preConstant a_roomNeeded a_useCount a_treeSize a_treeKind a_treeValue a_treeA a_treeB a_treeResult a_constantValued a_maximal a_counterpart a_boundNode a_pending a_pendingCount a_nodeKind a_nodeValue a_nodeA a_nodeB a_nodeResult a_nodeUses a_outputNode a_seen a_order a_walkStack, gi (f_maxNodes, f_maxRules, f_ruleCount, f_counterexample, f_optimized, f_nodeCount, f_outputCount, f_applications, a_preRelation, a_preVariable, a_preConstant, a_roomNeeded, a_useCount, a_treeSize, a_treeKind, a_treeValue, a_treeA, a_treeB, a_treeResult, a_constantValued, a_maximal, a_counterpart, a_boundNode, a_pending, a_pendingCount, a_nodeKind, a_nodeValue, a_nodeA, a_nodeB, a_nodeResult, a_nodeUses, a_outputNode, a_seen, a_order, a_walkStack) → ∃ f, wL_law_233 post L xs (wL_law_224 post L xs kc ks d) (nI i) kc ks f (nI p) (nI 0) f_maxNodes f_maxRules f_ruleCount f_counterexample f_optimized f_nodeCount f_outputCount f_applications a_preRelation a_preVariable a_preConstant a_roomNeeded a_useCount a_treeSize a_treeKind a_treeValue a_treeA a_treeB a_treeResult a_constantValued a_maximal a_counterpart a_boundNode a_pending a_pendingCount a_nodeKind a_nodeValue a_nodeA a_nodeB a_nodeResult a_nodeUses a_outputNode a_seen a_order a_walkStack :=
  fun f_maxNodes f_maxRules f_ruleCount f_counterexample f_optimized f_nodeCount f_outputCount f_applications a_preRelation a_preVariable a_preConstant a_roomNeeded a_useCount a_treeSize a_treeKind a_treeValue a_treeA a_treeB a_treeResult a_constantValued a_maximal a_counterpart a_boundNode a_pending a_pendingCount a_nodeKind a_nodeValue a_nodeA a_nodeB a_nodeResult a_nodeUses a_outputNode a_seen a_order a_walkStack hg => ⟨_, la_233 hL (Nat.le_trans (Nat.add_le_add_right hp 300) (by decide)) ih 3 0 p rfl (Nat.le_refl _) _ _ _ _ _ _ _ _ _ _ _ _ _ _ _ _ _ _ _ _ _ _ _ _ _ _ _ _ _ _ _ _ _ _ _ hg⟩
/-- the three rounds -/
theorem la_224 (hL : L ≤ 260) (h1 : post 1) : ∀ d i p, i + d = 3 → p + d * 300 ≤ 2000 → ∀ f_maxNodes f_maxRules f_ruleCount f_counterexample f_optimized f_nodeCount f_outputCount f_applications a_preRelation a_preVariable a_preConstant a_roomNeeded a_useCount a_treeSize a_treeKind a_treeValue a_treeA a_treeB a_treeResult a_constantValued a_maximal a_counterpart a_boundNode a_pending a_pendingCount a_nodeKind a_nodeValue a_nodeA a_nodeB a_nodeResult a_nodeUses a_outputNode a_seen a_order a_walkStack, gi (f_maxNodes, f_maxRules, f_ruleCount, f_counterexample, f_optimized, f_nodeCount, f_outputCount, f_applications, a_preRelation, a_preVariable, a_preConstant, a_roomNeeded, a_useCount, a_treeSize, a_treeKind, a_treeValue, a_treeA, a_treeB, a_treeResult, a_constantValued, a_maximal, a_counterpart, a_boundNode, a_pending, a_pendingCount, a_nodeKind, a_nodeValue, a_nodeA, a_nodeB, a_nodeResult, a_nodeUses, a_outputNode, a_seen, a_order, a_walkStack) → wL_law_224 post L xs kc ks (d + 1) (nI p) (nI i) f_maxNodes f_maxRules f_ruleCount f_counterexample f_optimized f_nodeCount f_outputCount f_applications a_preRelation a_preVariable a_preConstant a_roomNeeded a_useCount a_treeSize a_treeKind a_treeValue a_treeA a_treeB a_treeResult a_constantValued a_maximal a_counterpart a_boundNode a_pending a_pendingCount a_nodeKind a_nodeValue a_nodeA a_nodeB a_nodeResult a_nodeUses a_outputNode a_seen a_order a_walkStack := by
  intro d
  induction d with
  | zero =>
    intro i p hi hp f_maxNodes f_maxRules f_ruleCount f_counterexample f_optimized f_nodeCount f_outputCount f_applications a_preRelation a_preVariable a_preConstant a_roomNeeded a_useCount a_treeSize a_treeKind a_treeValue a_treeA a_treeB a_treeResult a_constantValued a_maximal a_counterpart a_boundNode a_pending a_pendingCount a_nodeKind a_nodeValue a_nodeA a_nodeB a_nodeResult a_nodeUses a_outputNode a_seen a_order a_walkStack hg
    exact pk_le 3 i (fun _ => h1) (fun h => absurd h (by omega))
  | succ d ih =>
    intro i p hi hp f_maxNodes f_maxRules f_ruleCount f_counterexample f_optimized f_nodeCount f_outputCount f_applications a_preRelation a_preVariable a_preConstant a_roomNeeded a_useCount a_treeSize a_treeKind a_treeValue a_treeA a_treeB a_treeResult a_constantValued a_maximal a_counterpart a_boundNode a_pending a_pendingCount a_nodeKind a_nodeValue a_nodeA a_nodeB a_nodeResult a_nodeUses a_outputNode a_seen a_order a_walkStack hg
    have h233 := la_rnd (post := post) (xs := xs) (kc := kc) (ks := ks) (d := d + 1) (i := i) (p := p) hL (by omega) (fun p' hp' f_maxNodes' f_maxRules' f_ruleCount' f_counterexample' f_optimized' f_nodeCount' f_outputCount' f_applications' a_preRelation' a_preVariable' a_preConstant' a_roomNeeded' a_useCount' a_treeSize' a_treeKind' a_treeValue' a_treeA' a_treeB' a_treeResult' a_constantValued' a_maximal' a_counterpart' a_boundNode' a_pending' a_pendingCount' a_nodeKind' a_nodeValue' a_nodeA' a_nodeB' a_nodeResult' a_nodeUses' a_outputNode' a_seen' a_order' a_walkStack' hg' => by rw [← nI_succ]; exact ih (i + 1) p' (by omega) (by omega) _ _ _ _ _ _ _ _ _ _ _ _ _ _ _ _ _ _ _ _ _ _ _ _ _ _ _ _ _ _ _ _ _ _ _ hg') _ _ _ _ _ _ _ _ _ _ _ _ _ _ _ _ _ _ _ _ _ _ _ _ _ _ _ _ _ _ _ _ _ _ _ hg
    exact pk_le 3 i (fun _ => h1) (fun _ => h233)
end LAD
end
section
/-! the statement owed -/
theorem i_vc (xs : Nat → Int32) (L : Nat) (hL : L ≤ 260) : wpL_law (fun r => r = 1) L xs := by
  refine ⟨27, 2835, by omega, by omega, ?_⟩
  refine gi_start ?_
  rintro ⟨f_maxNodes, f_maxRules, f_ruleCount, f_counterexample, f_optimized, f_nodeCount, f_outputCount, f_applications, a_preRelation, a_preVariable, a_preConstant, a_roomNeeded, a_useCount, a_treeSize, a_treeKind, a_treeValue, a_treeA, a_treeB, a_treeResult, a_constantValued, a_maximal, a_counterpart, a_boundNode, a_pending, a_pendingCount, a_nodeKind, a_nodeValue, a_nodeA, a_nodeB, a_nodeResult, a_nodeUses, a_outputNode, a_seen, a_order, a_walkStack⟩ hg
  have h224 : ∀ f_maxNodes f_maxRules f_ruleCount f_counterexample f_optimized f_nodeCount f_outputCount f_applications a_preRelation a_preVariable a_preConstant a_roomNeeded a_useCount a_treeSize a_treeKind a_treeValue a_treeA a_treeB a_treeResult a_constantValued a_maximal a_counterpart a_boundNode a_pending a_pendingCount a_nodeKind a_nodeValue a_nodeA a_nodeB a_nodeResult a_nodeUses a_outputNode a_seen a_order a_walkStack, gi (f_maxNodes, f_maxRules, f_ruleCount, f_counterexample, f_optimized, f_nodeCount, f_outputCount, f_applications, a_preRelation, a_preVariable, a_preConstant, a_roomNeeded, a_useCount, a_treeSize, a_treeKind, a_treeValue, a_treeA, a_treeB, a_treeResult, a_constantValued, a_maximal, a_counterpart, a_boundNode, a_pending, a_pendingCount, a_nodeKind, a_nodeValue, a_nodeA, a_nodeB, a_nodeResult, a_nodeUses, a_outputNode, a_seen, a_order, a_walkStack) → ∃ f, wL_law_224 (fun r => r = 1) L xs (1 + 27) (35 + 2835) f (nI 1) (nI 0) f_maxNodes f_maxRules f_ruleCount f_counterexample f_optimized f_nodeCount f_outputCount f_applications a_preRelation a_preVariable a_preConstant a_roomNeeded a_useCount a_treeSize a_treeKind a_treeValue a_treeA a_treeB a_treeResult a_constantValued a_maximal a_counterpart a_boundNode a_pending a_pendingCount a_nodeKind a_nodeValue a_nodeA a_nodeB a_nodeResult a_nodeUses a_outputNode a_seen a_order a_walkStack := fun f_maxNodes' f_maxRules' f_ruleCount' f_counterexample' f_optimized' f_nodeCount' f_outputCount' f_applications' a_preRelation' a_preVariable' a_preConstant' a_roomNeeded' a_useCount' a_treeSize' a_treeKind' a_treeValue' a_treeA' a_treeB' a_treeResult' a_constantValued' a_maximal' a_counterpart' a_boundNode' a_pending' a_pendingCount' a_nodeKind' a_nodeValue' a_nodeA' a_nodeB' a_nodeResult' a_nodeUses' a_outputNode' a_seen' a_order' a_walkStack' hg' => ⟨_, la_224 (post := fun r => r = 1) hL rfl 3 0 1 (by omega) (by omega) _ _ _ _ _ _ _ _ _ _ _ _ _ _ _ _ _ _ _ _ _ _ _ _ _ _ _ _ _ _ _ _ _ _ _ hg'⟩
  have h19 : ∃ f, wL_law_19 (fun r => r = 1) L xs (nI 1) (1 + 27) (35 + 2835) f (nI 0) f_maxNodes f_maxRules f_ruleCount f_counterexample f_optimized f_nodeCount f_outputCount f_applications a_preRelation a_preVariable a_preConstant a_roomNeeded a_useCount a_treeSize a_treeKind a_treeValue a_treeA a_treeB a_treeResult a_constantValued a_maximal a_counterpart a_boundNode a_pending a_pendingCount a_nodeKind a_nodeValue a_nodeA a_nodeB a_nodeResult a_nodeUses a_outputNode a_seen a_order a_walkStack := ⟨_, la_19 hL (fun f_maxNodes' f_maxRules' f_ruleCount' f_counterexample' f_optimized' f_nodeCount' f_outputCount' f_applications' a_preRelation' a_preVariable' a_preConstant' a_roomNeeded' a_useCount' a_treeSize' a_treeKind' a_treeValue' a_treeA' a_treeB' a_treeResult' a_constantValued' a_maximal' a_counterpart' a_boundNode' a_pending' a_pendingCount' a_nodeKind' a_nodeValue' a_nodeA' a_nodeB' a_nodeResult' a_nodeUses' a_outputNode' a_seen' a_order' a_walkStack' hg' => h224 _ _ _ _ _ _ _ _ _ _ _ _ _ _ _ _ _ _ _ _ _ _ _ _ _ _ _ _ _ _ _ _ _ _ _ hg') 10 0 (by omega) _ _ _ _ _ _ _ _ _ _ _ _ _ _ _ _ _ _ _ _ _ _ _ _ _ _ _ _ _ _ _ _ _ _ _ hg⟩
  exact h19
end
