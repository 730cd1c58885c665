/-! sums over slots and over lists; the postorder list -/
def pr_rs (g : Nat → Nat) (lo : Nat) : Nat → Nat
  | 0 => 0
  | n + 1 => pr_rs g lo n + g (lo + n)
def pr_sm (w : Nat → Nat) : List Nat → Nat
  | [] => 0
  | x :: L => w x + pr_sm w L
theorem pr_rs_congr {f g : Nat → Nat} {lo : Nat} : ∀ {n : Nat}, (∀ x, lo ≤ x → x < lo + n → f x = g x) → pr_rs f lo n = pr_rs g lo n
  | 0, _ => rfl
  | n + 1, h => by
    show pr_rs f lo n + f (lo + n) = pr_rs g lo n + g (lo + n)
    rw [pr_rs_congr (n := n) (fun x a b => h x a (by omega)), h (lo + n) (by omega) (by omega)]
theorem pr_rs_le {f g : Nat → Nat} {lo : Nat} : ∀ {n : Nat}, (∀ x, lo ≤ x → x < lo + n → f x ≤ g x) → pr_rs f lo n ≤ pr_rs g lo n
  | 0, _ => Nat.le_refl _
  | n + 1, h => by
    have h1 := pr_rs_le (n := n) (fun x a b => h x a (by omega))
    have h2 := h (lo + n) (by omega) (by omega)
    show pr_rs f lo n + f (lo + n) ≤ pr_rs g lo n + g (lo + n)
    omega
theorem pr_rs_lt {f g : Nat → Nat} {lo a : Nat} (ha : lo ≤ a) (hs : f a < g a) : ∀ {n : Nat}, a < lo + n → (∀ x, lo ≤ x → x < lo + n → f x ≤ g x) → pr_rs f lo n < pr_rs g lo n
  | 0, h, _ => by omega
  | n + 1, hn, h => by
    show pr_rs f lo n + f (lo + n) < pr_rs g lo n + g (lo + n)
    by_cases e : a = lo + n
    · have h1 := pr_rs_le (f := f) (g := g) (lo := lo) (n := n) (fun x a b => h x a (by omega))
      rw [e] at hs
      omega
    · have h1 := pr_rs_lt (f := f) (g := g) ha hs (n := n) (by omega) (fun x a b => h x a (by omega))
      have h2 := h (lo + n) (by omega) (by omega)
      omega
theorem pr_rs_add (f g : Nat → Nat) (lo : Nat) : ∀ n : Nat, pr_rs (fun x => f x + g x) lo n = pr_rs f lo n + pr_rs g lo n
  | 0 => rfl
  | n + 1 => by
    have h1 := pr_rs_add f g lo n
    show pr_rs (fun x => f x + g x) lo n + (f (lo + n) + g (lo + n)) = (pr_rs f lo n + f (lo + n)) + (pr_rs g lo n + g (lo + n))
    omega
theorem pr_rs_0 (lo : Nat) : ∀ n : Nat, pr_rs (fun _ => 0) lo n = 0
  | 0 => rfl
  | n + 1 => by
    show pr_rs (fun _ => 0) lo n + 0 = 0
    rw [pr_rs_0 lo n]
theorem pr_rs_one {lo a : Nat} (w : Nat) (ha : lo ≤ a) : ∀ n : Nat, pr_rs (fun x => if x = a then w else 0) lo n = if a < lo + n then w else 0
  | 0 => by
    rw [if_neg (by omega)]
    rfl
  | n + 1 => by
    show pr_rs (fun x => if x = a then w else 0) lo n + (if lo + n = a then w else 0) = _
    rw [pr_rs_one w ha n]
    by_cases e : lo + n = a
    · rw [if_pos e, if_neg (by omega), if_pos (by omega)]
      omega
    · rw [if_neg e]
      by_cases h : a < lo + n
      · rw [if_pos h, if_pos (by omega)]
        rfl
      · rw [if_neg h, if_neg (by omega)]
theorem pr_rs_bound {f : Nat → Nat} {lo c : Nat} : ∀ {n : Nat}, (∀ x, lo ≤ x → x < lo + n → f x ≤ c) → pr_rs f lo n ≤ n * c
  | 0, _ => by
    show 0 ≤ 0 * c
    omega
  | n + 1, h => by
    have h1 := pr_rs_bound (n := n) (fun x a b => h x a (by omega))
    have h2 := h (lo + n) (by omega) (by omega)
    show pr_rs f lo n + f (lo + n) ≤ (n + 1) * c
    rw [Nat.add_mul]
    omega
theorem pr_rs_list {w : Nat → Nat} {lo n : Nat} : ∀ {L : List Nat}, L.Nodup → (∀ x, x ∈ L → lo ≤ x ∧ x < lo + n) → pr_rs (fun s => if s ∈ L then w s else 0) lo n = pr_sm w L
  | [], _, _ => by
    refine Eq.trans (pr_rs_congr (g := fun _ => 0) fun x _ _ => if_neg (by simp)) (pr_rs_0 lo n)
  | x :: L, hd, hb => by
    rw [List.nodup_cons] at hd
    have h1 := pr_rs_list (w := w) (lo := lo) (n := n) hd.2 (fun y hy => hb y (List.mem_cons_of_mem x hy))
    have h2 := hb x List.mem_cons_self
    have h3 := pr_rs_one (lo := lo) (a := x) (w x) h2.1 n
    rw [if_pos h2.2] at h3
    show _ = w x + pr_sm w L
    rw [← h1, ← h3, ← pr_rs_add]
    refine pr_rs_congr fun y _ _ => ?_
    by_cases e : y = x
    · subst e
      rw [if_pos List.mem_cons_self, if_pos rfl, if_neg hd.1]
      rfl
    · rw [if_neg e]
      by_cases hy : y ∈ L
      · rw [if_pos (List.mem_cons_of_mem x hy), if_pos hy, Nat.zero_add]
      · rw [if_neg hy, if_neg (fun h => by
          rcases List.mem_cons.mp h with h | h
          · exact e h
          · exact hy h)]
theorem pr_sm_app (w : Nat → Nat) : ∀ L M : List Nat, pr_sm w (L ++ M) = pr_sm w L + pr_sm w M
  | [], M => by
    show pr_sm w M = 0 + pr_sm w M
    omega
  | x :: L, M => by
    have h := pr_sm_app w L M
    show w x + pr_sm w (L ++ M) = w x + pr_sm w L + pr_sm w M
    omega
theorem pr_sm_len {w : Nat → Nat} {c : Nat} (h : ∀ x, w x ≤ c) : ∀ L : List Nat, pr_sm w L ≤ L.length * c
  | [] => by
    show 0 ≤ 0 * c
    omega
  | x :: L => by
    have h1 := pr_sm_len h L
    have h2 := h x
    show w x + pr_sm w L ≤ (L.length + 1) * c
    rw [Nat.add_mul]
    omega
theorem pr_sm_ge {w : Nat → Nat} {x : Nat} : ∀ {L : List Nat}, x ∈ L → w x ≤ pr_sm w L
  | [], h => by simp at h
  | y :: L, h => by
    show w x ≤ w y + pr_sm w L
    rcases List.mem_cons.mp h with h | h
    · rw [h]
      omega
    · have := pr_sm_ge (w := w) h
      omega
theorem pr_sm_ge2 {w : Nat → Nat} {x y : Nat} (hxy : x ≠ y) : ∀ {L : List Nat}, x ∈ L → y ∈ L → w x + w y ≤ pr_sm w L
  | [], h, _ => by simp at h
  | z :: L, h, h' => by
    show w x + w y ≤ w z + pr_sm w L
    rcases List.mem_cons.mp h with h | h
    · rcases List.mem_cons.mp h' with h' | h'
      · exact absurd (h.trans h'.symm) hxy
      · have := pr_sm_ge (w := w) h'
        rw [h]
        omega
    · rcases List.mem_cons.mp h' with h' | h'
      · have := pr_sm_ge (w := w) h
        rw [h']
        omega
      · have := pr_sm_ge2 (w := w) hxy h h'
        omega
theorem pr_rs_ge {f : Nat → Nat} {lo a : Nat} (ha : lo ≤ a) : ∀ {n : Nat}, a < lo + n → f a ≤ pr_rs f lo n
  | 0, h => by omega
  | n + 1, h => by
    show f a ≤ pr_rs f lo n + f (lo + n)
    by_cases e : a = lo + n
    · rw [e]
      omega
    · have := pr_rs_ge (f := f) ha (n := n) (by omega)
      omega
def pr_oc (g : Nat → List Nat → List Nat) (o : Option Nat) (L : List Nat) : List Nat := match o with
  | none => L
  | some c => g c L
def pr_po (A B : Nat → Option Nat) : Nat → Nat → List Nat → List Nat
  | 0, _, L => L
  | f + 1, n, L => if n ∈ L then L else pr_oc (pr_po A B f) (B n) (pr_oc (pr_po A B f) (A n) L) ++ [n]
def pr_cl (A B : Nat → Option Nat) (S : Nat → Prop) : Prop := ∀ x c, S x → (A x = some c ∨ B x = some c) → S c
def pr_pk (T : Nat → Prop) (A B : Nat → Option Nat) (rk : Nat → Nat) (n : Nat) (L R : List Nat) : Prop :=
  ∃ M, R = L ++ M ∧ (L ++ M).Nodup ∧ pr_cl A B (fun x => x ∈ L ++ M) ∧ n ∈ L ++ M ∧ ∀ x, x ∈ M → T x ∧ rk x ≤ rk n ∧ ∀ S : Nat → Prop, pr_cl A B S → S n → S x
theorem pr_oc_ok {T : Nat → Prop} {A B : Nat → Option Nat} {rk : Nat → Nat} {g : Nat → List Nat → List Nat} {o : Option Nat} {L : List Nat}
    (hg : ∀ c, o = some c → ∀ L : List Nat, L.Nodup → pr_cl A B (fun x => x ∈ L) → pr_pk T A B rk c L (g c L))
    (h1 : L.Nodup) (h2 : pr_cl A B (fun x => x ∈ L)) :
    ∃ M, pr_oc g o L = L ++ M ∧ (L ++ M).Nodup ∧ pr_cl A B (fun x => x ∈ L ++ M) ∧ (∀ c, o = some c → c ∈ L ++ M) ∧ ∀ x, x ∈ M → T x ∧ ∃ c, o = some c ∧ rk x ≤ rk c ∧ ∀ S : Nat → Prop, pr_cl A B S → S c → S x := by
  cases o with
  | none => exact ⟨[], by simp [pr_oc], by simpa using h1, by simpa using h2, fun c hc => (by cases hc), fun x hx => (by cases hx)⟩
  | some c =>
    obtain ⟨M, e, m1, m2, m3, m4⟩ := hg c rfl L h1 h2
    refine ⟨M, e, m1, m2, fun d hd => ?_, fun x hx => ⟨(m4 x hx).1, c, rfl, (m4 x hx).2⟩⟩
    cases hd
    exact m3
theorem pr_po_ok {T : Nat → Prop} {A B : Nat → Option Nat} {rk : Nat → Nat} (hT : ∀ n c, T n → (A n = some c ∨ B n = some c) → T c ∧ rk c < rk n) :
    ∀ f n, rk n < f → T n → ∀ L : List Nat, L.Nodup → pr_cl A B (fun x => x ∈ L) → pr_pk T A B rk n L (pr_po A B f n L) := by
  intro f
  induction f with
  | zero =>
    intro n h
    omega
  | succ f ih =>
    intro n hn tn L h1 h2
    by_cases hm : n ∈ L
    · exact ⟨[], by simp [pr_po, hm], by simpa using h1, by simpa using h2, by simpa using hm, fun x hx => (by cases hx)⟩
    · obtain ⟨M1, e1, a1, b1, c1, d1⟩ := pr_oc_ok (T := T) (rk := rk) (g := pr_po A B f) (o := A n) (L := L) (fun c hc => ih c (by have := (hT n c tn (Or.inl hc)).2; omega) (hT n c tn (Or.inl hc)).1) h1 h2
      obtain ⟨M2, e2, a2, b2, c2, d2⟩ := pr_oc_ok (T := T) (rk := rk) (g := pr_po A B f) (o := B n) (L := L ++ M1) (fun c hc => ih c (by have := (hT n c tn (Or.inr hc)).2; omega) (hT n c tn (Or.inr hc)).1) a1 b1
      have r1 : ∀ x, x ∈ M1 → rk x < rk n := by
        intro x hx
        obtain ⟨_, c, hc, hr, _⟩ := d1 x hx
        have := (hT n c tn (Or.inl hc)).2
        omega
      have r2 : ∀ x, x ∈ M2 → rk x < rk n := by
        intro x hx
        obtain ⟨_, c, hc, hr, _⟩ := d2 x hx
        have := (hT n c tn (Or.inr hc)).2
        omega
      have nm : n ∉ L ++ M1 ++ M2 := by
        intro h
        rcases List.mem_append.mp h with h | h
        · rcases List.mem_append.mp h with h | h
          · exact hm h
          · exact Nat.lt_irrefl _ (r1 n h)
        · exact Nat.lt_irrefl _ (r2 n h)
      have ee : L ++ (M1 ++ M2 ++ [n]) = L ++ M1 ++ M2 ++ [n] := by simp
      refine ⟨M1 ++ M2 ++ [n], ?_, ?_, ?_, by simp, ?_⟩
      · show (if n ∈ L then L else _) = _
        rw [if_neg hm, e1, e2, ee]
      · rw [ee, List.nodup_append]
        refine ⟨a2, by simp, fun x hx y hy e => ?_⟩
        rw [List.mem_singleton] at hy
        subst e
        subst hy
        exact nm hx
      · rw [ee]
        intro x c hx hc
        rcases List.mem_append.mp hx with hx | hx
        · exact List.mem_append_left _ (b2 x c hx hc)
        · rw [List.mem_singleton] at hx
          subst hx
          rcases hc with hc | hc
          · exact List.mem_append_left _ (List.mem_append_left _ (c1 c hc))
          · exact List.mem_append_left _ (c2 c hc)
      · intro x hx
        rcases List.mem_append.mp hx with hx | hx
        · rcases List.mem_append.mp hx with hx | hx
          · obtain ⟨t, c, hc, hr, hS⟩ := d1 x hx
            exact ⟨t, Nat.le_of_lt (r1 x hx), fun S hcl hn => hS S hcl (hcl n c hn (Or.inl hc))⟩
          · obtain ⟨t, c, hc, hr, hS⟩ := d2 x hx
            exact ⟨t, Nat.le_of_lt (r2 x hx), fun S hcl hn => hS S hcl (hcl n c hn (Or.inr hc))⟩
        · rw [List.mem_singleton] at hx
          subst hx
          exact ⟨tn, Nat.le_refl _, fun S _ h => h⟩
/-- the live nodes of a graph whose first `k` outputs are `O ob ..`, in the document's order -/
def pr_lv (A B : Nat → Option Nat) (O : Nat → Nat) (ob : Nat) : Nat → List Nat
  | 0 => []
  | k + 1 => pr_po A B 32 (O (ob + k)) (pr_lv A B O ob k)
def pr_lk (T : Nat → Prop) (A B : Nat → Option Nat) (O : Nat → Nat) (ob k : Nat) (L : List Nat) : Prop :=
  L.Nodup ∧ pr_cl A B (fun x => x ∈ L) ∧ (∀ i, i < k → O (ob + i) ∈ L) ∧ ∀ x, x ∈ L → T x ∧ ∀ S : Nat → Prop, pr_cl A B S → (∀ i, i < k → S (O (ob + i))) → S x
theorem pr_lv_ok {T : Nat → Prop} {A B : Nat → Option Nat} {rk O : Nat → Nat} {ob : Nat} (hT : ∀ n c, T n → (A n = some c ∨ B n = some c) → T c ∧ rk c < rk n) (hr : ∀ n, T n → rk n < 32) :
    ∀ k, (∀ i, i < k → T (O (ob + i))) → pr_lk T A B O ob k (pr_lv A B O ob k)
  | 0, _ => ⟨by simp [pr_lv], fun x c hx _ => (by cases hx), fun i h => absurd h (by omega), fun x hx => (by cases hx)⟩
  | k + 1, ho => by
    obtain ⟨h1, h2, h3, h4⟩ := pr_lv_ok (O := O) (ob := ob) hT hr k (fun i hi => ho i (by omega))
    obtain ⟨M, e, m1, m2, m3, m4⟩ := pr_po_ok hT 32 (O (ob + k)) (hr _ (ho k (by omega))) (ho k (by omega)) _ h1 h2
    have e' : pr_lv A B O ob (k + 1) = pr_lv A B O ob k ++ M := e
    rw [e']
    refine ⟨m1, m2, fun i hi => ?_, fun x hx => ?_⟩
    · by_cases e : i = k
      · rw [e]
        exact m3
      · exact List.mem_append_left _ (h3 i (by omega))
    · rcases List.mem_append.mp hx with hx | hx
      · exact ⟨(h4 x hx).1, fun S hc hS => (h4 x hx).2 S hc fun i hi => hS i (by omega)⟩
      · exact ⟨(m4 x hx).1, fun S hc hS => (m4 x hx).2.2 S hc (hS k (by omega))⟩
theorem pr_len {L : List Nat} {lo n : Nat} (h : L.Nodup) (hb : ∀ x, x ∈ L → lo ≤ x ∧ x < lo + n) : L.length ≤ n := by
  have := List.Nodup.length_le_of_subset (l₂ := List.range' lo n) h (fun x hx => by
    have := hb x hx
    rw [List.mem_range'_1]
    omega)
  rw [List.length_range'] at this
  exact this
