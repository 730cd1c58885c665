section
/-! numbers and stores: rows of kit/rows, then own ones -/
theorem pk_us {f : Nat → Int32} {k : Nat} {x : Int32} : upd f k x k = x := if_pos rfl
theorem pk_un {f : Nat → Int32} {k j : Nat} {x : Int32} (h : j ≠ k) : upd f k x j = f j := if_neg h
theorem pk_sub {a b : Nat} (h : b ≤ a) : nI a - nI b = nI (a - b) := by
  obtain ⟨c, rfl⟩ : ∃ c, a = c + b := ⟨a - b, by omega⟩
  rw [← nI_add, Int32.add_sub_cancel, Nat.add_sub_cancel]
theorem pk_m1 (n : Nat) : nI (n + 1) + (-1) = nI n := by
  rw [← nI_1, Int32.add_assoc, show (1 : Int32) + (-1) = 0 from rfl, Int32.add_zero]
theorem pk_mul (a b : Nat) : nI a * nI b = nI (a * b) := (Int32.ofNat_mul a b).symm
theorem pk_sub_toInt {a b : Nat} (ha : a < 2 ^ 30) (hb : b < 2 ^ 30) : (nI a - nI b).toInt = (a : Int) - b := by
  rw [Int32.toInt_sub, nI_toInt (by omega), nI_toInt (by omega)]
  exact Int.bmod_eq_of_le (by omega) (by omega)
theorem pk_sneg {a b : Nat} (hb : b < 2 ^ 30) (h : a < b) : nI a - nI b < 0 := by
  rw [Int32.lt_iff_toInt_lt, pk_sub_toInt (by omega) hb, show (0 : Int32).toInt = 0 from by decide]
  omega
theorem pk_ix (x : Int32) {n : Nat} (hn : n < 2 ^ 31) : x < 0 ∨ nI n ≤ x ∨ ∃ j : Nat, j < n ∧ x = nI j := by
  by_cases h : x < 0
  · exact Or.inl h
  · obtain ⟨j, hj, rfl⟩ := nI_of h
    by_cases h2 : j < n
    · exact Or.inr (Or.inr ⟨j, h2, rfl⟩)
    · exact Or.inr (Or.inl (nI_le (by omega) hj))
theorem pk_le {x y : Int32} {A B : Prop} (a b : Nat) (f : a ≤ b → A) (g : b < a → B) (hx : x = nI a := by rfl) (hy : y = nI b := by rfl) (ha : a < 2 ^ 31 := by omega) (hb : b < 2 ^ 31 := by omega) : (x ≤ y → A) ∧ (¬ x ≤ y → B) := by
  subst hx hy
  rw [nI_leI ha hb]
  exact ⟨f, fun z => g (by omega)⟩
theorem pk_lt {x y : Int32} {A B : Prop} (a b : Nat) (f : a < b → A) (g : b ≤ a → B) (hx : x = nI a := by rfl) (hy : y = nI b := by rfl) (ha : a < 2 ^ 31 := by omega) (hb : b < 2 ^ 31 := by omega) : (x < y → A) ∧ (¬ x < y → B) := by
  subst hx hy
  rw [nI_ltI ha hb]
  exact ⟨f, fun z => g (by omega)⟩
theorem pk_eq {x y : Int32} {A B : Prop} (a b : Nat) (f : a = b → A) (g : a ≠ b → B) (hx : x = nI a := by rfl) (hy : y = nI b := by rfl) (ha : a < 2 ^ 31 := by omega) (hb : b < 2 ^ 31 := by omega) : (x = y → A) ∧ (¬ x = y → B) := by
  subst hx hy
  rw [nI_eq ha hb]
  exact ⟨f, g⟩
theorem pk_in {x : Int32} (n N : Nat) (h : n < N) (hx : x = nI n := by rfl) (hN : N < 2 ^ 31 := by omega) : vp_in x N := by
  subst hx
  exact vp_in_nI h hN
theorem pk_cl {x : Int32} (n : Nat) (hx : x = nI n := by rfl) (h : n < 2 ^ 31 := by omega) : x.toNatClampNeg = n := by
  subst hx
  exact nI_clamp h
theorem pk_tn {n : Nat} (h : n < 2 ^ 32) : (nI n).toBitVec.toNat = n := Nat.mod_eq_of_lt h
theorem pk_and (x : Int32) {m : Int32} (k : Nat) (hm : m.toBitVec.toNat = 2 ^ k - 1) : x &&& m = nI (x.toBitVec.toNat % 2 ^ k) := by
  apply Int32.toBitVec_inj.mp
  apply BitVec.eq_of_toNat_eq
  rw [Int32.toBitVec_and, BitVec.toNat_and, hm, Nat.and_two_pow_sub_one_eq_mod]
  show _ = (BitVec.ofNat 32 _).toNat
  rw [BitVec.toNat_ofNat]
  exact (Nat.mod_eq_of_lt (Nat.lt_of_le_of_lt (Nat.mod_le _ _) x.toBitVec.isLt)).symm
theorem pk_andN {n : Nat} (h : n < 2 ^ 32) {m : Int32} (k : Nat) (hm : m.toBitVec.toNat = 2 ^ k - 1) : nI n &&& m = nI (n % 2 ^ k) := by
  rw [pk_and _ k hm, pk_tn h]
theorem pk_andE (x : Int32) {m : Int32} (k : Nat) (hm : m.toBitVec.toNat = 2 ^ k - 1) : ∃ j : Nat, j < 2 ^ k ∧ x &&& m = nI j := ⟨_, Nat.mod_lt _ (Nat.two_pow_pos k), pk_and x k hm⟩
theorem pk_shl (a s : Int32) (k : Nat) (hs : (s.toBitVec.smod 32).toNat = k) : (a <<< s).toBitVec.toNat = a.toBitVec.toNat * 2 ^ k % 2 ^ 32 := by
  show (a.toBitVec <<< (s.toBitVec.smod 32).toNat).toNat = _
  rw [hs, BitVec.toNat_shiftLeft, Nat.shiftLeft_eq]
theorem pk_shlN {n : Nat} (s : Int32) (k : Nat) (hs : (s.toBitVec.smod 32).toNat = k) (h : n * 2 ^ k < 2 ^ 32) : nI n <<< s = nI (n * 2 ^ k) := by
  apply Int32.toBitVec_inj.mp
  apply BitVec.eq_of_toNat_eq
  have hn : n < 2 ^ 32 := Nat.lt_of_le_of_lt (Nat.le_mul_of_pos_right n (Nat.two_pow_pos k)) h
  rw [pk_shl _ _ k hs, pk_tn hn, pk_tn h, Nat.mod_eq_of_lt h]
theorem pk_shr (a s : Int32) (k : Nat) (hs : (s.toBitVec.smod 32).toNat = k) : (a >>> s).toInt = a.toInt >>> k := by
  show (a.toBitVec.sshiftRight (s.toBitVec.smod 32).toNat).toInt = _
  rw [hs, BitVec.toInt_sshiftRight]
  rfl
theorem pk_shrN {n : Nat} (h : n < 2 ^ 31) (s : Int32) (k : Nat) (hs : (s.toBitVec.smod 32).toNat = k) : nI n >>> s = nI (n / 2 ^ k) := by
  apply Int32.toInt_inj.mp
  have h2 : n / 2 ^ k ≤ n := Nat.div_le_self _ _
  rw [pk_shr _ _ k hs, nI_toInt h, nI_toInt (by omega), Int.shiftRight_eq_div_pow]
  rfl
theorem pk_ushr (x s : Int32) (k : Nat) (hs : ((s.toUInt32 &&& Int32.toUInt32 31).toBitVec % 32).toNat = k) : (x.toUInt32 >>> (s.toUInt32 &&& Int32.toUInt32 31)).toInt32.toBitVec.toNat = x.toBitVec.toNat / 2 ^ k := by
  have e : (x.toUInt32 >>> (s.toUInt32 &&& Int32.toUInt32 31)).toInt32.toBitVec = x.toBitVec >>> k := by
    rw [← hs]
    exact UInt32.toBitVec_shiftRight _ _
  rw [e, BitVec.toNat_ushiftRight, Nat.shiftRight_eq_div_pow]
theorem pk_ushrN {n : Nat} (hn : n < 2 ^ 32) (s : Int32) (k : Nat) (hs : ((s.toUInt32 &&& Int32.toUInt32 31).toBitVec % 32).toNat = k) : ((nI n).toUInt32 >>> (s.toUInt32 &&& Int32.toUInt32 31)).toInt32 = nI (n / 2 ^ k) := by
  apply Int32.toBitVec_inj.mp
  apply BitVec.eq_of_toNat_eq
  rw [pk_ushr _ s k hs, pk_tn hn, pk_tn (Nat.lt_of_le_of_lt (Nat.div_le_self _ _) hn)]
theorem pk_loop {σ : Type} (W : Nat → Nat → σ → Prop) (I : Nat → σ → Prop) (e i0 : Nat) (s : σ) (hi : i0 ≤ e) (h0 : I i0 s) (hx : ∀ n s, I e s → W (n + 1) e s)
    (hs : ∀ n i s, i < e → I i s → (∀ s', I (i + 1) s' → W n (i + 1) s') → W (n + 1) i s) : ∃ n, W n i0 s :=
  ⟨e + 1, loop_i W I e hx hs (e + 1) i0 s hi (by omega) h0⟩
theorem pk_loopD {σ : Type} (W : Nat → Nat → σ → Prop) (I : Nat → σ → Prop) (hx : ∀ n s, I 0 s → W (n + 1) 0 s)
    (hs : ∀ n i s, I (i + 1) s → (∀ s', I i s' → W n i s') → W (n + 1) (i + 1) s) : ∀ (e : Nat) (s : σ), I e s → W (e + 1) e s := by
  intro e
  induction e with
  | zero => exact fun s h => hx 0 s h
  | succ e ih => exact fun s h => hs (e + 1) e s h (fun s' h' => ih s' h')
theorem pr_ne1 {a : Nat} (h : a < 2 ^ 31) : ¬ nI a = -1 := by
  intro e
  have h1 := nI_pos (n := a) h
  rw [e] at h1
  exact h1 (by decide)
theorem pr_eq0 {a : Nat} (h : a < 2 ^ 31) : nI a = 0 ↔ a = 0 := by
  rw [← nI_0, nI_eq h (by omega)]
theorem pr_m1 {n : Nat} (h : 0 < n) : nI n + (-1) = nI (n - 1) := by
  obtain ⟨m, rfl⟩ : ∃ m, n = m + 1 := ⟨n - 1, by omega⟩
  exact pk_m1 m
theorem pr_s1 {n : Nat} (h : 0 < n) : nI n - 1 = nI (n - 1) := by
  obtain ⟨m, rfl⟩ : ∃ m, n = m + 1 := ⟨n - 1, by omega⟩
  exact nI_pred m
theorem pr_vb0 : vp_nar .boolean 0 = 0 := by decide
theorem pr_vb1 : vp_nar .boolean 1 = 1 := by decide
theorem pr_im {a b : Nat} (h : nI a = nI b) (ha : a < 2 ^ 31) (hb : b < 2 ^ 31) : a = b := (nI_eq ha hb).mp h
def pr_oI : Option Nat → Int32
  | none => -1
  | some c => nI c
def pr_oX (b : Nat) : Option Nat → Int32
  | none => -1
  | some c => nI (b + c)
def pr_b (x : Bool) : Int32 := match x with
  | true => 1
  | false => 0
theorem pr_nb (x : Bool) : vp_nar .boolean (pr_b x) = pr_b x := by
  cases x
  · exact pr_vb0
  · exact pr_vb1
theorem pr_b0 (x : Bool) : pr_b x = 0 ↔ x = false := by
  cases x
  · exact ⟨fun _ => rfl, fun _ => rfl⟩
  · exact ⟨fun h => absurd h (by decide), fun h => nomatch h⟩
end
section
/-! sums over slots and over lists; the postorder list -/
def pr_rs (g : Nat → Nat) (lo : Nat) : Nat → Nat
  | 0 => 0
  | n + 1 => pr_rs g lo n + g (lo + n)
def pr_sm (w : Nat → Nat) : List Nat → Nat
  | [] => 0
  | x :: L => w x + pr_sm w L
theorem pr_rs_congr {f g : Nat → Nat} {lo : Nat} : ∀ {n : Nat}, (∀ x, lo ≤ x → x < lo + n → f x = g x) → pr_rs f lo n = pr_rs g lo n
  | 0, _ => rfl
  | n + 1, h => by
    show pr_rs f lo n + f (lo + n) = pr_rs g lo n + g (lo + n)
    rw [pr_rs_congr (n := n) (fun x a b => h x a (by omega)), h (lo + n) (by omega) (by omega)]
theorem pr_rs_le {f g : Nat → Nat} {lo : Nat} : ∀ {n : Nat}, (∀ x, lo ≤ x → x < lo + n → f x ≤ g x) → pr_rs f lo n ≤ pr_rs g lo n
  | 0, _ => Nat.le_refl _
  | n + 1, h => by
    have h1 := pr_rs_le (n := n) (fun x a b => h x a (by omega))
    have h2 := h (lo + n) (by omega) (by omega)
    show pr_rs f lo n + f (lo + n) ≤ pr_rs g lo n + g (lo + n)
    omega
theorem pr_rs_lt {f g : Nat → Nat} {lo a : Nat} (ha : lo ≤ a) (hs : f a < g a) : ∀ {n : Nat}, a < lo + n → (∀ x, lo ≤ x → x < lo + n → f x ≤ g x) → pr_rs f lo n < pr_rs g lo n
  | 0, h, _ => by omega
  | n + 1, hn, h => by
    show pr_rs f lo n + f (lo + n) < pr_rs g lo n + g (lo + n)
    by_cases e : a = lo + n
    · have h1 := pr_rs_le (f := f) (g := g) (lo := lo) (n := n) (fun x a b => h x a (by omega))
      rw [e] at hs
      omega
    · have h1 := pr_rs_lt (f := f) (g := g) ha hs (n := n) (by omega) (fun x a b => h x a (by omega))
      have h2 := h (lo + n) (by omega) (by omega)
      omega
theorem pr_rs_add (f g : Nat → Nat) (lo : Nat) : ∀ n : Nat, pr_rs (fun x => f x + g x) lo n = pr_rs f lo n + pr_rs g lo n
  | 0 => rfl
  | n + 1 => by
    have h1 := pr_rs_add f g lo n
    show pr_rs (fun x => f x + g x) lo n + (f (lo + n) + g (lo + n)) = (pr_rs f lo n + f (lo + n)) + (pr_rs g lo n + g (lo + n))
    omega
theorem pr_rs_0 (lo : Nat) : ∀ n : Nat, pr_rs (fun _ => 0) lo n = 0
  | 0 => rfl
  | n + 1 => by
    show pr_rs (fun _ => 0) lo n + 0 = 0
    rw [pr_rs_0 lo n]
theorem pr_rs_one {lo a : Nat} (w : Nat) (ha : lo ≤ a) : ∀ n : Nat, pr_rs (fun x => if x = a then w else 0) lo n = if a < lo + n then w else 0
  | 0 => by
    rw [if_neg (by omega)]
    rfl
  | n + 1 => by
    show pr_rs (fun x => if x = a then w else 0) lo n + (if lo + n = a then w else 0) = _
    rw [pr_rs_one w ha n]
    by_cases e : lo + n = a
    · rw [if_pos e, if_neg (by omega), if_pos (by omega)]
      omega
    · rw [if_neg e]
      by_cases h : a < lo + n
      · rw [if_pos h, if_pos (by omega)]
        rfl
      · rw [if_neg h, if_neg (by omega)]
theorem pr_rs_bound {f : Nat → Nat} {lo c : Nat} : ∀ {n : Nat}, (∀ x, lo ≤ x → x < lo + n → f x ≤ c) → pr_rs f lo n ≤ n * c
  | 0, _ => by
    show 0 ≤ 0 * c
    omega
  | n + 1, h => by
    have h1 := pr_rs_bound (n := n) (fun x a b => h x a (by omega))
    have h2 := h (lo + n) (by omega) (by omega)
    show pr_rs f lo n + f (lo + n) ≤ (n + 1) * c
    rw [Nat.add_mul]
    omega
theorem pr_rs_list {w : Nat → Nat} {lo n : Nat} : ∀ {L : List Nat}, L.Nodup → (∀ x, x ∈ L → lo ≤ x ∧ x < lo + n) → pr_rs (fun s => if s ∈ L then w s else 0) lo n = pr_sm w L
  | [], _, _ => by
    refine Eq.trans (pr_rs_congr (g := fun _ => 0) fun x _ _ => if_neg (by simp)) (pr_rs_0 lo n)
  | x :: L, hd, hb => by
    rw [List.nodup_cons] at hd
    have h1 := pr_rs_list (w := w) (lo := lo) (n := n) hd.2 (fun y hy => hb y (List.mem_cons_of_mem x hy))
    have h2 := hb x List.mem_cons_self
    have h3 := pr_rs_one (lo := lo) (a := x) (w x) h2.1 n
    rw [if_pos h2.2] at h3
    show _ = w x + pr_sm w L
    rw [← h1, ← h3, ← pr_rs_add]
    refine pr_rs_congr fun y _ _ => ?_
    by_cases e : y = x
    · subst e
      rw [if_pos List.mem_cons_self, if_pos rfl, if_neg hd.1]
      rfl
    · rw [if_neg e]
      by_cases hy : y ∈ L
      · rw [if_pos (List.mem_cons_of_mem x hy), if_pos hy, Nat.zero_add]
      · rw [if_neg hy, if_neg (fun h => by
          rcases List.mem_cons.mp h with h | h
          · exact e h
          · exact hy h)]
theorem pr_sm_app (w : Nat → Nat) : ∀ L M : List Nat, pr_sm w (L ++ M) = pr_sm w L + pr_sm w M
  | [], M => by
    show pr_sm w M = 0 + pr_sm w M
    omega
  | x :: L, M => by
    have h := pr_sm_app w L M
    show w x + pr_sm w (L ++ M) = w x + pr_sm w L + pr_sm w M
    omega
theorem pr_sm_len {w : Nat → Nat} {c : Nat} (h : ∀ x, w x ≤ c) : ∀ L : List Nat, pr_sm w L ≤ L.length * c
  | [] => by
    show 0 ≤ 0 * c
    omega
  | x :: L => by
    have h1 := pr_sm_len h L
    have h2 := h x
    show w x + pr_sm w L ≤ (L.length + 1) * c
    rw [Nat.add_mul]
    omega
theorem pr_sm_ge {w : Nat → Nat} {x : Nat} : ∀ {L : List Nat}, x ∈ L → w x ≤ pr_sm w L
  | [], h => by simp at h
  | y :: L, h => by
    show w x ≤ w y + pr_sm w L
    rcases List.mem_cons.mp h with h | h
    · rw [h]
      omega
    · have := pr_sm_ge (w := w) h
      omega
theorem pr_sm_ge2 {w : Nat → Nat} {x y : Nat} (hxy : x ≠ y) : ∀ {L : List Nat}, x ∈ L → y ∈ L → w x + w y ≤ pr_sm w L
  | [], h, _ => by simp at h
  | z :: L, h, h' => by
    show w x + w y ≤ w z + pr_sm w L
    rcases List.mem_cons.mp h with h | h
    · rcases List.mem_cons.mp h' with h' | h'
      · exact absurd (h.trans h'.symm) hxy
      · have := pr_sm_ge (w := w) h'
        rw [h]
        omega
    · rcases List.mem_cons.mp h' with h' | h'
      · have := pr_sm_ge (w := w) h
        rw [h']
        omega
      · have := pr_sm_ge2 (w := w) hxy h h'
        omega
theorem pr_rs_ge {f : Nat → Nat} {lo a : Nat} (ha : lo ≤ a) : ∀ {n : Nat}, a < lo + n → f a ≤ pr_rs f lo n
  | 0, h => by omega
  | n + 1, h => by
    show f a ≤ pr_rs f lo n + f (lo + n)
    by_cases e : a = lo + n
    · rw [e]
      omega
    · have := pr_rs_ge (f := f) ha (n := n) (by omega)
      omega
def pr_oc (g : Nat → List Nat → List Nat) (o : Option Nat) (L : List Nat) : List Nat := match o with
  | none => L
  | some c => g c L
def pr_po (A B : Nat → Option Nat) : Nat → Nat → List Nat → List Nat
  | 0, _, L => L
  | f + 1, n, L => if n ∈ L then L else pr_oc (pr_po A B f) (B n) (pr_oc (pr_po A B f) (A n) L) ++ [n]
def pr_cl (A B : Nat → Option Nat) (S : Nat → Prop) : Prop := ∀ x c, S x → (A x = some c ∨ B x = some c) → S c
def pr_pk (T : Nat → Prop) (A B : Nat → Option Nat) (rk : Nat → Nat) (n : Nat) (L R : List Nat) : Prop :=
  ∃ M, R = L ++ M ∧ (L ++ M).Nodup ∧ pr_cl A B (fun x => x ∈ L ++ M) ∧ n ∈ L ++ M ∧ ∀ x, x ∈ M → T x ∧ rk x ≤ rk n ∧ ∀ S : Nat → Prop, pr_cl A B S → S n → S x
theorem pr_oc_ok {T : Nat → Prop} {A B : Nat → Option Nat} {rk : Nat → Nat} {g : Nat → List Nat → List Nat} {o : Option Nat} {L : List Nat}
    (hg : ∀ c, o = some c → ∀ L : List Nat, L.Nodup → pr_cl A B (fun x => x ∈ L) → pr_pk T A B rk c L (g c L))
    (h1 : L.Nodup) (h2 : pr_cl A B (fun x => x ∈ L)) :
    ∃ M, pr_oc g o L = L ++ M ∧ (L ++ M).Nodup ∧ pr_cl A B (fun x => x ∈ L ++ M) ∧ (∀ c, o = some c → c ∈ L ++ M) ∧ ∀ x, x ∈ M → T x ∧ ∃ c, o = some c ∧ rk x ≤ rk c ∧ ∀ S : Nat → Prop, pr_cl A B S → S c → S x := by
  cases o with
  | none => exact ⟨[], by simp [pr_oc], by simpa using h1, by simpa using h2, fun c hc => (by cases hc), fun x hx => (by cases hx)⟩
  | some c =>
    obtain ⟨M, e, m1, m2, m3, m4⟩ := hg c rfl L h1 h2
    refine ⟨M, e, m1, m2, fun d hd => ?_, fun x hx => ⟨(m4 x hx).1, c, rfl, (m4 x hx).2⟩⟩
    cases hd
    exact m3
theorem pr_po_ok {T : Nat → Prop} {A B : Nat → Option Nat} {rk : Nat → Nat} (hT : ∀ n c, T n → (A n = some c ∨ B n = some c) → T c ∧ rk c < rk n) :
    ∀ f n, rk n < f → T n → ∀ L : List Nat, L.Nodup → pr_cl A B (fun x => x ∈ L) → pr_pk T A B rk n L (pr_po A B f n L) := by
  intro f
  induction f with
  | zero =>
    intro n h
    omega
  | succ f ih =>
    intro n hn tn L h1 h2
    by_cases hm : n ∈ L
    · exact ⟨[], by simp [pr_po, hm], by simpa using h1, by simpa using h2, by simpa using hm, fun x hx => (by cases hx)⟩
    · obtain ⟨M1, e1, a1, b1, c1, d1⟩ := pr_oc_ok (T := T) (rk := rk) (g := pr_po A B f) (o := A n) (L := L) (fun c hc => ih c (by have := (hT n c tn (Or.inl hc)).2; omega) (hT n c tn (Or.inl hc)).1) h1 h2
      obtain ⟨M2, e2, a2, b2, c2, d2⟩ := pr_oc_ok (T := T) (rk := rk) (g := pr_po A B f) (o := B n) (L := L ++ M1) (fun c hc => ih c (by have := (hT n c tn (Or.inr hc)).2; omega) (hT n c tn (Or.inr hc)).1) a1 b1
      have r1 : ∀ x, x ∈ M1 → rk x < rk n := by
        intro x hx
        obtain ⟨_, c, hc, hr, _⟩ := d1 x hx
        have := (hT n c tn (Or.inl hc)).2
        omega
      have r2 : ∀ x, x ∈ M2 → rk x < rk n := by
        intro x hx
        obtain ⟨_, c, hc, hr, _⟩ := d2 x hx
        have := (hT n c tn (Or.inr hc)).2
        omega
      have nm : n ∉ L ++ M1 ++ M2 := by
        intro h
        rcases List.mem_append.mp h with h | h
        · rcases List.mem_append.mp h with h | h
          · exact hm h
          · exact Nat.lt_irrefl _ (r1 n h)
        · exact Nat.lt_irrefl _ (r2 n h)
      have ee : L ++ (M1 ++ M2 ++ [n]) = L ++ M1 ++ M2 ++ [n] := by simp
      refine ⟨M1 ++ M2 ++ [n], ?_, ?_, ?_, by simp, ?_⟩
      · show (if n ∈ L then L else _) = _
        rw [if_neg hm, e1, e2, ee]
      · rw [ee, List.nodup_append]
        refine ⟨a2, by simp, fun x hx y hy e => ?_⟩
        rw [List.mem_singleton] at hy
        subst e
        subst hy
        exact nm hx
      · rw [ee]
        intro x c hx hc
        rcases List.mem_append.mp hx with hx | hx
        · exact List.mem_append_left _ (b2 x c hx hc)
        · rw [List.mem_singleton] at hx
          subst hx
          rcases hc with hc | hc
          · exact List.mem_append_left _ (List.mem_append_left _ (c1 c hc))
          · exact List.mem_append_left _ (c2 c hc)
      · intro x hx
        rcases List.mem_append.mp hx with hx | hx
        · rcases List.mem_append.mp hx with hx | hx
          · obtain ⟨t, c, hc, hr, hS⟩ := d1 x hx
            exact ⟨t, Nat.le_of_lt (r1 x hx), fun S hcl hn => hS S hcl (hcl n c hn (Or.inl hc))⟩
          · obtain ⟨t, c, hc, hr, hS⟩ := d2 x hx
            exact ⟨t, Nat.le_of_lt (r2 x hx), fun S hcl hn => hS S hcl (hcl n c hn (Or.inr hc))⟩
        · rw [List.mem_singleton] at hx
          subst hx
          exact ⟨tn, Nat.le_refl _, fun S _ h => h⟩
/-- the live nodes of a graph whose first `k` outputs are `O ob ..`, in the document's order -/
def pr_lv (A B : Nat → Option Nat) (O : Nat → Nat) (ob : Nat) : Nat → List Nat
  | 0 => []
  | k + 1 => pr_po A B 32 (O (ob + k)) (pr_lv A B O ob k)
def pr_lk (T : Nat → Prop) (A B : Nat → Option Nat) (O : Nat → Nat) (ob k : Nat) (L : List Nat) : Prop :=
  L.Nodup ∧ pr_cl A B (fun x => x ∈ L) ∧ (∀ i, i < k → O (ob + i) ∈ L) ∧ ∀ x, x ∈ L → T x ∧ ∀ S : Nat → Prop, pr_cl A B S → (∀ i, i < k → S (O (ob + i))) → S x
theorem pr_lv_ok {T : Nat → Prop} {A B : Nat → Option Nat} {rk O : Nat → Nat} {ob : Nat} (hT : ∀ n c, T n → (A n = some c ∨ B n = some c) → T c ∧ rk c < rk n) (hr : ∀ n, T n → rk n < 32) :
    ∀ k, (∀ i, i < k → T (O (ob + i))) → pr_lk T A B O ob k (pr_lv A B O ob k)
  | 0, _ => ⟨by simp [pr_lv], fun x c hx _ => (by cases hx), fun i h => absurd h (by omega), fun x hx => (by cases hx)⟩
  | k + 1, ho => by
    obtain ⟨h1, h2, h3, h4⟩ := pr_lv_ok (O := O) (ob := ob) hT hr k (fun i hi => ho i (by omega))
    obtain ⟨M, e, m1, m2, m3, m4⟩ := pr_po_ok hT 32 (O (ob + k)) (hr _ (ho k (by omega))) (ho k (by omega)) _ h1 h2
    have e' : pr_lv A B O ob (k + 1) = pr_lv A B O ob k ++ M := e
    rw [e']
    refine ⟨m1, m2, fun i hi => ?_, fun x hx => ?_⟩
    · by_cases e : i = k
      · rw [e]
        exact m3
      · exact List.mem_append_left _ (h3 i (by omega))
    · rcases List.mem_append.mp hx with hx | hx
      · exact ⟨(h4 x hx).1, fun S hc hS => (h4 x hx).2 S hc fun i hi => hS i (by omega)⟩
      · exact ⟨(m4 x hx).1, fun S hc hS => (m4 x hx).2.2 S hc (hS k (by omega))⟩
theorem pr_len {L : List Nat} {lo n : Nat} (h : L.Nodup) (hb : ∀ x, x ∈ L → lo ≤ x ∧ x < lo + n) : L.length ≤ n := by
  have := List.Nodup.length_le_of_subset (l₂ := List.range' lo n) h (fun x hx => by
    have := hb x hx
    rw [List.mem_range'_1]
    omega)
  rw [List.length_range'] at this
  exact this
end
section
/-! the graph on naturals: kinds, values, operands; ranks; values of nodes -/
def pr_w (κ : Nat) : Nat := if κ = 3 then 3 else if 1 ≤ κ ∧ κ ≤ 10 then 1 else 0
theorem pr_w_le (κ : Nat) : pr_w κ ≤ 3 := by
  unfold pr_w
  by_cases h : κ = 3
  · rw [if_pos h]
    exact Nat.le_refl 3
  · rw [if_neg h]
    by_cases h2 : 1 ≤ κ ∧ κ ≤ 10
    · rw [if_pos h2]
      omega
    · rw [if_neg h2]
      omega
theorem pr_w_0 {κ : Nat} (h : κ = 0 ∨ 11 ≤ κ) : pr_w κ = 0 := by
  unfold pr_w
  rw [if_neg (by omega), if_neg (by omega)]
def pr_op (κ : Nat) (x y : Int32) : Int32 :=
  if κ = 1 then (x + y) &&& 255 else if κ = 2 then (x - y) &&& 255 else if κ = 3 then (x * y) &&& 255 else if κ = 4 then x &&& y else if κ = 5 then x ||| y else if κ = 6 then x ^^^ y
  else if κ = 7 then (if y < 8 then (x <<< (y &&& 31)) &&& 255 else 0) else if κ = 8 then (if y < 8 then x >>> (y &&& 31) else 0) else if κ = 9 then x ^^^ 255 else (0 - x) &&& 255
def pr_by (x : Int32) : Prop := ∃ m : Nat, m < 256 ∧ x = nI m
theorem pr_by_0 : pr_by 0 := ⟨0, by omega, rfl⟩
theorem pr_by_and (x : Int32) : pr_by (x &&& 255) := pk_andE x 8 (by decide)
theorem pr_by_id {x : Int32} (h : pr_by x) : x &&& 255 = x := by
  obtain ⟨m, hm, rfl⟩ := h
  rw [pk_andN (by omega) (m := 255) 8 (by decide), Nat.mod_eq_of_lt (by omega)]
theorem pr_bv (n : Nat) : (nI n).toBitVec = BitVec.ofNat 32 n := rfl
theorem pr_nand (a b : Nat) : nI a &&& nI b = nI (a &&& b) := by
  apply Int32.toBitVec_inj.mp
  rw [Int32.toBitVec_and, pr_bv, pr_bv, pr_bv, BitVec.ofNat_and]
theorem pr_nor (a b : Nat) : nI a ||| nI b = nI (a ||| b) := by
  apply Int32.toBitVec_inj.mp
  rw [Int32.toBitVec_or, pr_bv, pr_bv, pr_bv, BitVec.ofNat_or]
theorem pr_nxor (a b : Nat) : nI a ^^^ nI b = nI (a ^^^ b) := by
  apply Int32.toBitVec_inj.mp
  rw [Int32.toBitVec_xor, pr_bv, pr_bv, pr_bv, BitVec.ofNat_xor]
theorem pr_sl : ∀ n, n < 32 → ((nI n &&& 31).toBitVec.smod 32).toNat = n := by decide
theorem pr_by_op {κ : Nat} {x y : Int32} (hx : pr_by x) (hy : pr_by y) : pr_by (pr_op κ x y) := by
  obtain ⟨a, ha, rfl⟩ := hx
  obtain ⟨b, hb, rfl⟩ := hy
  unfold pr_op
  by_cases h1 : κ = 1
  · rw [if_pos h1]; exact pr_by_and _
  rw [if_neg h1]
  by_cases h2 : κ = 2
  · rw [if_pos h2]; exact pr_by_and _
  rw [if_neg h2]
  by_cases h3 : κ = 3
  · rw [if_pos h3]; exact pr_by_and _
  rw [if_neg h3]
  by_cases h4 : κ = 4
  · rw [if_pos h4]; exact ⟨a &&& b, Nat.lt_of_le_of_lt Nat.and_le_left ha, pr_nand a b⟩
  rw [if_neg h4]
  by_cases h5 : κ = 5
  · rw [if_pos h5]; exact ⟨a ||| b, Nat.or_lt_two_pow (n := 8) ha hb, pr_nor a b⟩
  rw [if_neg h5]
  by_cases h6 : κ = 6
  · rw [if_pos h6]; exact ⟨a ^^^ b, Nat.xor_lt_two_pow (n := 8) ha hb, pr_nxor a b⟩
  rw [if_neg h6]
  by_cases h7 : κ = 7
  · rw [if_pos h7]
    by_cases h : nI b < 8
    · rw [if_pos h]; exact pr_by_and _
    · rw [if_neg h]; exact pr_by_0
  rw [if_neg h7]
  by_cases h8 : κ = 8
  · rw [if_pos h8]
    by_cases h : nI b < 8
    · rw [if_pos h]
      have hb8 : b < 8 := (nI_ltI (by omega) (b := 8) (by omega)).mp h
      refine ⟨a / 2 ^ b, Nat.lt_of_le_of_lt (Nat.div_le_self _ _) ha, ?_⟩
      exact pk_shrN (by omega) _ b (pr_sl b (by omega))
    · rw [if_neg h]; exact pr_by_0
  rw [if_neg h8]
  by_cases h9 : κ = 9
  · rw [if_pos h9]
    exact ⟨a ^^^ 255, Nat.xor_lt_two_pow (n := 8) ha (by decide), pr_nxor a 255⟩
  rw [if_neg h9]
  exact pr_by_and _
def pr_T (lo : Nat) (K : Nat → Nat) (n : Nat) : Prop := lo ≤ n ∧ n < lo + 32 ∧ K n ≠ 0
/-- a graph in the slots lo .. lo + 31: kind 0 is no node -/
def pr_gw (lo : Nat) (K : Nat → Nat) (V : Nat → Int32) (A B : Nat → Option Nat) (rk : Nat → Nat) : Prop :=
  ∀ n, pr_T lo K n → K n ≤ 12 ∧ rk n < 32 ∧ pr_by (V n) ∧ (K n = 12 → ∃ i, i < 4 ∧ V n = nI i) ∧ (K n ≤ 10 → V n = 0) ∧ (11 ≤ K n → A n = none) ∧ (9 ≤ K n → B n = none) ∧ (K n ≤ 10 → ∃ c, A n = some c) ∧ (K n ≤ 8 → ∃ c, B n = some c) ∧ ∀ c, (A n = some c ∨ B n = some c) → pr_T lo K c ∧ rk c < rk n
theorem pr_gw_T {lo : Nat} {K : Nat → Nat} {V : Nat → Int32} {A B : Nat → Option Nat} {rk : Nat → Nat} (h : pr_gw lo K V A B rk) (n c : Nat) (hn : pr_T lo K n) (hc : A n = some c ∨ B n = some c) : pr_T lo K c ∧ rk c < rk n := (h n hn).2.2.2.2.2.2.2.2.2 c hc
theorem pr_gw_r {lo : Nat} {K : Nat → Nat} {V : Nat → Int32} {A B : Nat → Option Nat} {rk : Nat → Nat} (h : pr_gw lo K V A B rk) (n : Nat) (hn : pr_T lo K n) : rk n < 32 := (h n hn).2.1
def pr_rc (rk : Nat → Nat) (lo n : Nat) : Nat := pr_rs (fun m => if rk m < rk n then 1 else 0) lo 32
theorem pr_rc_lt (rk : Nat → Nat) {lo n : Nat} (h1 : lo ≤ n) (h2 : n < lo + 32) : pr_rc rk lo n < 32 := by
  have h := pr_rs_lt (f := fun m => if rk m < rk n then 1 else 0) (g := fun _ => 1) (lo := lo) (a := n) h1 (by
    show (if rk n < rk n then 1 else 0) < 1
    rw [if_neg (Nat.lt_irrefl _)]
    omega) (n := 32) h2 (fun x _ _ => by
    show (if rk x < rk n then 1 else 0) ≤ 1
    by_cases h : rk x < rk n
    · rw [if_pos h]
      omega
    · rw [if_neg h]
      omega)
  have h2 := pr_rs_bound (f := fun _ => 1) (lo := lo) (c := 1) (n := 32) (fun _ _ _ => Nat.le_refl 1)
  unfold pr_rc
  omega
theorem pr_rc_mono {rk : Nat → Nat} {lo c n : Nat} (h : rk c < rk n) (h1 : lo ≤ c) (h2 : c < lo + 32) : pr_rc rk lo c < pr_rc rk lo n := by
  refine pr_rs_lt (a := c) h1 ?_ h2 (fun x _ _ => ?_)
  · show (if rk c < rk c then 1 else 0) < (if rk c < rk n then 1 else 0)
    rw [if_neg (Nat.lt_irrefl _), if_pos h]
    omega
  · show (if rk x < rk c then 1 else 0) ≤ (if rk x < rk n then 1 else 0)
    by_cases hx : rk x < rk c
    · rw [if_pos hx, if_pos (by omega)]
      omega
    · rw [if_neg hx]
      omega
def pr_ov (g : Nat → Int32) (o : Option Nat) : Int32 := match o with
  | none => 0
  | some c => g c
def pr_ag (ar v : Int32) : Int32 := ((ar.toUInt32 >>> ((8 * v).toUInt32 &&& Int32.toUInt32 31)).toInt32) &&& 255
def pr_en (K : Nat → Nat) (V : Nat → Int32) (A B : Nat → Option Nat) (ar : Int32) (g : Nat → Int32) (n : Nat) : Int32 :=
  if K n = 11 then V n else if K n = 12 then pr_ag ar (V n) else pr_op (K n) (pr_ov g (A n)) (pr_ov g (B n))
def pr_ev (K : Nat → Nat) (V : Nat → Int32) (A B : Nat → Option Nat) (ar : Int32) : Nat → Nat → Int32
  | 0, _ => 0
  | f + 1, n => pr_en K V A B ar (pr_ev K V A B ar f) n
theorem pr_ov_congr {g h : Nat → Int32} {o : Option Nat} (e : ∀ c, o = some c → g c = h c) : pr_ov g o = pr_ov h o := by
  cases o with
  | none => rfl
  | some c => exact e c rfl
theorem pr_en_congr {K : Nat → Nat} {V : Nat → Int32} {A B : Nat → Option Nat} {ar : Int32} {g h : Nat → Int32} {n : Nat} (e : ∀ c, A n = some c ∨ B n = some c → g c = h c) : pr_en K V A B ar g n = pr_en K V A B ar h n := by
  unfold pr_en
  rw [pr_ov_congr (o := A n) (fun c hc => e c (Or.inl hc)), pr_ov_congr (o := B n) (fun c hc => e c (Or.inr hc))]
theorem pr_ev_f {lo : Nat} {K : Nat → Nat} {V : Nat → Int32} {A B : Nat → Option Nat} {rk : Nat → Nat} {ar : Int32} (h : pr_gw lo K V A B rk) : ∀ f f' n, pr_T lo K n → rk n < f → rk n < f' → pr_ev K V A B ar f n = pr_ev K V A B ar f' n := by
  intro f
  induction f with
  | zero =>
    intro f' n _ h
    omega
  | succ f ih =>
    intro f' n hn h1 h2
    obtain ⟨f'', rfl⟩ : ∃ q, f' = q + 1 := ⟨f' - 1, by omega⟩
    refine pr_en_congr fun c hc => ?_
    have ⟨tc, rc⟩ := pr_gw_T h n c hn hc
    exact ih f'' c tc (by omega) (by omega)
theorem pr_ev_eq {lo : Nat} {K : Nat → Nat} {V : Nat → Int32} {A B : Nat → Option Nat} {rk : Nat → Nat} {ar : Int32} (h : pr_gw lo K V A B rk) {n : Nat} (hn : pr_T lo K n) : pr_ev K V A B ar 32 n = pr_en K V A B ar (pr_ev K V A B ar 32) n := by
  show pr_en K V A B ar (pr_ev K V A B ar 31) n = _
  refine pr_en_congr fun c hc => ?_
  have ⟨tc, rc⟩ := pr_gw_T h n c hn hc
  have := pr_gw_r h n hn
  exact pr_ev_f h 31 32 c tc (by omega) (by omega)
theorem pr_ag_by (ar v : Int32) : pr_by (pr_ag ar v) := pr_by_and _
theorem pr_ev_by {lo : Nat} {K : Nat → Nat} {V : Nat → Int32} {A B : Nat → Option Nat} {rk : Nat → Nat} {ar : Int32} (h : pr_gw lo K V A B rk) : ∀ f n, pr_T lo K n → rk n < f → pr_by (pr_ev K V A B ar f n) := by
  intro f
  induction f with
  | zero =>
    intro n _ h
    omega
  | succ f ih =>
    intro n hn h1
    show pr_by (pr_en K V A B ar (pr_ev K V A B ar f) n)
    unfold pr_en
    by_cases h11 : K n = 11
    · rw [if_pos h11]
      exact (h n hn).2.2.1
    · rw [if_neg h11]
      by_cases h12 : K n = 12
      · rw [if_pos h12]
        exact pr_ag_by _ _
      · rw [if_neg h12]
        have ho : ∀ o : Option Nat, (∀ c, o = some c → A n = some c ∨ B n = some c) → pr_by (pr_ov (pr_ev K V A B ar f) o) := by
          intro o ho
          cases o with
          | none => exact pr_by_0
          | some c =>
            have ⟨tc, rc⟩ := pr_gw_T h n c hn (ho c rfl)
            exact ih c tc (by omega)
        exact pr_by_op (ho _ fun c hc => Or.inl hc) (ho _ fun c hc => Or.inr hc)
/-- uses of d: operand slots of the listed nodes, and outputs -/
def pr_us (A B : Nat → Option Nat) (O : Nat → Nat) (L : List Nat) (oc d : Nat) : Nat :=
  pr_sm (fun n => (if A n = some d then 1 else 0) + (if B n = some d then 1 else 0)) L + pr_rs (fun k => if O k = d then 1 else 0) 0 oc
end
section
/-! rule trees on naturals: size, kind, value, operands, parent; the draft's pending subtrees -/
abbrev pr_PT : Type := Nat × (Nat → Nat) × (Nat → Nat) × (Nat → Option Nat) × (Nat → Option Nat) × (Nat → Option Nat)
def pt_n (t : pr_PT) : Nat := t.1
def pt_k (t : pr_PT) : Nat → Nat := t.2.1
def pt_v (t : pr_PT) : Nat → Nat := t.2.2.1
def pt_a (t : pr_PT) : Nat → Option Nat := t.2.2.2.1
def pt_b (t : pr_PT) : Nat → Option Nat := t.2.2.2.2.1
def pt_p (t : pr_PT) : Nat → Option Nat := t.2.2.2.2.2
def pr_st {α : Type} (f : Nat → α) (i : Nat) (x : α) : Nat → α := fun j => if j = i then x else f j
theorem pr_st_s {α : Type} {f : Nat → α} {i : Nat} {x : α} : pr_st f i x i = x := if_pos rfl
theorem pr_st_n {α : Type} {f : Nat → α} {i j : Nat} {x : α} (h : j ≠ i) : pr_st f i x j = f j := if_neg h
def pr_ar (κ : Nat) : Nat := if 1 ≤ κ ∧ κ ≤ 8 then 2 else if κ = 9 ∨ κ = 10 then 1 else 0
theorem pr_ar_2 {κ : Nat} (h : 1 ≤ κ) (h2 : κ ≤ 8) : pr_ar κ = 2 := if_pos ⟨h, h2⟩
theorem pr_ar_1 {κ : Nat} (h : κ = 9 ∨ κ = 10) : pr_ar κ = 1 := by
  unfold pr_ar
  rw [if_neg (by omega), if_pos h]
theorem pr_ar_0 {κ : Nat} (h : κ = 0 ∨ 11 ≤ κ) : pr_ar κ = 0 := by
  unfold pr_ar
  rw [if_neg (by omega), if_neg (by omega)]
theorem pr_ar_c (κ : Nat) : (pr_ar κ = 2 ∧ 1 ≤ κ ∧ κ ≤ 8) ∨ (pr_ar κ = 1 ∧ (κ = 9 ∨ κ = 10)) ∨ (pr_ar κ = 0 ∧ (κ = 0 ∨ 11 ≤ κ)) := by
  by_cases h : 1 ≤ κ ∧ κ ≤ 8
  · exact Or.inl ⟨pr_ar_2 h.1 h.2, h⟩
  · by_cases h2 : κ = 9 ∨ κ = 10
    · exact Or.inr (Or.inl ⟨pr_ar_1 h2, h2⟩)
    · exact Or.inr (Or.inr ⟨pr_ar_0 (by omega), by omega⟩)
def pt_nd (t : pr_PT) (i : Nat) : Prop :=
  (1 ≤ pt_k t i ∧ pt_k t i ≤ 14 ∧ pt_k t i ≠ 12) ∧ (pt_k t i = 11 → pt_v t i < 256) ∧ (13 ≤ pt_k t i → pt_v t i < 2) ∧ (pt_k t i ≤ 10 → pt_v t i = 0) ∧
  (11 ≤ pt_k t i → pt_a t i = none) ∧ (9 ≤ pt_k t i → pt_b t i = none) ∧ (pt_k t i ≤ 10 → ∃ c, pt_a t i = some c) ∧ (pt_k t i ≤ 8 → ∃ c, pt_b t i = some c) ∧
  (∀ c, pt_a t i = some c ∨ pt_b t i = some c → c < i ∧ pt_p t c = some i) ∧ (∀ c, pt_a t i = some c → pt_b t i ≠ some c) ∧
  (∀ q, pt_p t i = some q → i < q ∧ q < pt_n t ∧ (pt_a t q = some i ∨ pt_b t q = some i))
def pt_ok (t : pr_PT) : Prop := pt_n t ≤ 8 ∧ ∀ i, i < pt_n t → pt_nd t i
def pd_ok (t : pr_PT) (ps : Nat → Nat) (c : Nat) : Prop :=
  c ≤ pt_n t ∧ (∀ q, q < c → ps q < pt_n t ∧ pt_p t (ps q) = none) ∧ (∀ q q', q < q' → q' < c → ps q < ps q') ∧ (∀ i, i < pt_n t → pt_p t i = none → ∃ q, q < c ∧ ps q = i) ∧ (0 < pt_n t → 0 < c ∧ ps (c - 1) + 1 = pt_n t)
def pt_put (t : pr_PT) (κ v : Nat) (a0 b0 : Option Nat) : pr_PT :=
  (pt_n t + 1, pr_st (pt_k t) (pt_n t) κ, pr_st (pt_v t) (pt_n t) v, pr_st (pt_a t) (pt_n t) a0, pr_st (pt_b t) (pt_n t) b0, fun i => if i = pt_n t then none else if a0 = some i ∨ b0 = some i then some (pt_n t) else pt_p t i)
def pt_a0 (ps : Nat → Nat) (c κ : Nat) : Option Nat := if 1 ≤ pr_ar κ then some (ps (c - pr_ar κ)) else none
def pt_b0 (ps : Nat → Nat) (c κ : Nat) : Option Nat := if pr_ar κ = 2 then some (ps (c - pr_ar κ + 1)) else none
def pt_add (t : pr_PT) (ps : Nat → Nat) (c κ v : Nat) : pr_PT := pt_put t κ (if pr_ar κ = 0 then v else 0) (pt_a0 ps c κ) (pt_b0 ps c κ)
def pd_add (t : pr_PT) (ps : Nat → Nat) (c κ : Nat) : Nat → Nat := pr_st ps (c - pr_ar κ) (pt_n t)
theorem pt_put_ok {t : pr_PT} {κ v : Nat} {a0 b0 : Option Nat} (ht : pt_ok t) (hn : pt_n t < 8) (hk : 1 ≤ κ ∧ κ ≤ 14 ∧ κ ≠ 12) (hv : κ = 11 → v < 256) (hv2 : 13 ≤ κ → v < 2) (hv0 : κ ≤ 10 → v = 0)
    (h1 : 11 ≤ κ → a0 = none) (h2 : 9 ≤ κ → b0 = none) (h3 : κ ≤ 10 → ∃ c, a0 = some c) (h4 : κ ≤ 8 → ∃ c, b0 = some c) (h5 : ∀ c, a0 = some c ∨ b0 = some c → c < pt_n t ∧ pt_p t c = none) (h6 : ∀ c, a0 = some c → b0 ≠ some c) : pt_ok (pt_put t κ v a0 b0) := by
  refine ⟨by show pt_n t + 1 ≤ 8; omega, fun i hi => ?_⟩
  have hi' : i < pt_n t + 1 := hi
  have eP : pt_p (pt_put t κ v a0 b0) = fun i => if i = pt_n t then none else if a0 = some i ∨ b0 = some i then some (pt_n t) else pt_p t i := rfl
  have eN : pt_n (pt_put t κ v a0 b0) = pt_n t + 1 := rfl
  have eK : ∀ j, pt_k (pt_put t κ v a0 b0) j = pr_st (pt_k t) (pt_n t) κ j := fun _ => rfl
  have eV : ∀ j, pt_v (pt_put t κ v a0 b0) j = pr_st (pt_v t) (pt_n t) v j := fun _ => rfl
  have eA : ∀ j, pt_a (pt_put t κ v a0 b0) j = pr_st (pt_a t) (pt_n t) a0 j := fun _ => rfl
  have eB : ∀ j, pt_b (pt_put t κ v a0 b0) j = pr_st (pt_b t) (pt_n t) b0 j := fun _ => rfl
  unfold pt_nd
  by_cases e : i = pt_n t
  · subst e
    rw [eK, eV, eA, eB, eN, pr_st_s, pr_st_s, pr_st_s, pr_st_s]
    refine ⟨hk, hv, hv2, hv0, h1, h2, h3, h4, fun c hc => ?_, h6, fun q hq => ?_⟩
    · have h := h5 c hc
      refine ⟨h.1, ?_⟩
      rw [eP]
      show (if c = pt_n t then none else if a0 = some c ∨ b0 = some c then some (pt_n t) else pt_p t c) = _
      rw [if_neg (by omega), if_pos hc]
    · rw [eP] at hq
      replace hq : (if pt_n t = pt_n t then none else if a0 = some (pt_n t) ∨ b0 = some (pt_n t) then some (pt_n t) else pt_p t (pt_n t)) = some q := hq
      rw [if_pos rfl] at hq
      cases hq
  · have hlt : i < pt_n t := by omega
    obtain ⟨g1, g2, g3, g4, g5, g6, g7, g8, g9, g10, g11⟩ := ht.2 i hlt
    rw [eK, eV, eA, eB, eN, pr_st_n e, pr_st_n e, pr_st_n e, pr_st_n e]
    refine ⟨g1, g2, g3, g4, g5, g6, g7, g8, fun c hc => ?_, g10, fun q hq => ?_⟩
    · have h := g9 c hc
      refine ⟨h.1, ?_⟩
      rw [eP]
      show (if c = pt_n t then none else if a0 = some c ∨ b0 = some c then some (pt_n t) else pt_p t c) = _
      rw [if_neg (by omega), if_neg (fun hh => by
        have := (h5 c hh).2
        rw [h.2] at this
        cases this)]
      exact h.2
    · rw [eP] at hq
      replace hq : (if i = pt_n t then none else if a0 = some i ∨ b0 = some i then some (pt_n t) else pt_p t i) = some q := hq
      rw [if_neg e] at hq
      by_cases hC : a0 = some i ∨ b0 = some i
      · rw [if_pos hC] at hq
        cases hq
        refine ⟨hlt, by omega, ?_⟩
        rw [eA, eB, pr_st_s, pr_st_s]
        exact hC
      · rw [if_neg hC] at hq
        have h := g11 q hq
        refine ⟨h.1, by omega, ?_⟩
        rw [eA, eB, pr_st_n (by omega), pr_st_n (by omega)]
        exact h.2.2
theorem pt_add_ok {t : pr_PT} {ps : Nat → Nat} {c κ v : Nat} (ht : pt_ok t) (hp : pd_ok t ps c) (hn : pt_n t < 8) (hk : 1 ≤ κ ∧ κ ≤ 14 ∧ κ ≠ 12) (hv : κ = 11 → v < 256) (hv2 : 13 ≤ κ → v < 2) (hc : pr_ar κ ≤ c) :
    pt_ok (pt_add t ps c κ v) ∧ pd_ok (pt_add t ps c κ v) (pd_add t ps c κ) (c - pr_ar κ + 1) := by
  obtain ⟨p1, p2, p3, p4, p5⟩ := hp
  have hA : ∀ x, pt_a0 ps c κ = some x → 1 ≤ pr_ar κ ∧ x = ps (c - pr_ar κ) := by
    intro x hx
    unfold pt_a0 at hx
    by_cases h : 1 ≤ pr_ar κ
    · rw [if_pos h] at hx
      cases hx
      exact ⟨h, rfl⟩
    · rw [if_neg h] at hx
      cases hx
  have hB : ∀ x, pt_b0 ps c κ = some x → pr_ar κ = 2 ∧ x = ps (c - pr_ar κ + 1) := by
    intro x hx
    unfold pt_b0 at hx
    by_cases h : pr_ar κ = 2
    · rw [if_pos h] at hx
      cases hx
      exact ⟨h, rfl⟩
    · rw [if_neg h] at hx
      cases hx
  have har := pr_ar_c κ
  constructor
  · refine pt_put_ok ht hn hk ?_ ?_ ?_ ?_ ?_ ?_ ?_ ?_ ?_
    · intro h
      rw [if_pos (by omega)]
      exact hv h
    · intro h
      rw [if_pos (by omega)]
      exact hv2 h
    · intro h
      rw [if_neg (by omega)]
    · intro h
      unfold pt_a0
      rw [if_neg (by omega)]
    · intro h
      unfold pt_b0
      rw [if_neg (by omega)]
    · intro h
      unfold pt_a0
      rw [if_pos (by omega)]
      exact ⟨_, rfl⟩
    · intro h
      unfold pt_b0
      rw [if_pos (by omega)]
      exact ⟨_, rfl⟩
    · intro x hx
      rcases hx with hx | hx
      · obtain ⟨q1, q2⟩ := hA x hx
        rw [q2]
        exact p2 _ (by omega)
      · obtain ⟨q1, q2⟩ := hB x hx
        rw [q2]
        exact p2 _ (by omega)
    · intro x hx hx'
      obtain ⟨q1, q2⟩ := hA x hx
      obtain ⟨q3, q4⟩ := hB x hx'
      have := p3 (c - pr_ar κ) (c - pr_ar κ + 1) (by omega) (by omega)
      omega
  · have eP : ∀ i, pt_p (pt_add t ps c κ v) i = if i = pt_n t then none else if pt_a0 ps c κ = some i ∨ pt_b0 ps c κ = some i then some (pt_n t) else pt_p t i := fun _ => rfl
    have eN : pt_n (pt_add t ps c κ v) = pt_n t + 1 := rfl
    unfold pd_ok
    rw [eN]
    refine ⟨by omega, fun q hq => ?_, fun q q' h1 h2 => ?_, fun i hi hi0 => ?_, fun _ => ⟨by omega, ?_⟩⟩
    · unfold pd_add
      by_cases e : q = c - pr_ar κ
      · rw [e, pr_st_s, eP, if_pos rfl]
        exact ⟨by omega, rfl⟩
      · rw [pr_st_n e, eP]
        have h := p2 q (by omega)
        refine ⟨by omega, ?_⟩
        rw [if_neg (by omega), if_neg (fun hh => ?_)]
        · exact h.2
        · rcases hh with hh | hh
          · have := hA _ hh
            have := p3 q (c - pr_ar κ) (by omega) (by omega)
            omega
          · have := hB _ hh
            have := p3 q (c - pr_ar κ + 1) (by omega) (by omega)
            omega
    · unfold pd_add
      rw [pr_st_n (j := q) (by omega)]
      by_cases e : q' = c - pr_ar κ
      · rw [e, pr_st_s]
        exact (p2 q (by omega)).1
      · rw [pr_st_n e]
        exact p3 q q' h1 (by omega)
    · unfold pd_add
      rw [eP] at hi0
      by_cases e : i = pt_n t
      · exact ⟨c - pr_ar κ, by omega, by rw [pr_st_s]; exact e.symm⟩
      · rw [if_neg e] at hi0
        by_cases hC : pt_a0 ps c κ = some i ∨ pt_b0 ps c κ = some i
        · rw [if_pos hC] at hi0
          cases hi0
        · rw [if_neg hC] at hi0
          obtain ⟨q, hq, hq'⟩ := p4 i (by omega) hi0
          have hlt : q < c - pr_ar κ := by
            by_cases hx : q < c - pr_ar κ
            · exact hx
            · exfalso
              apply hC
              by_cases e0 : q = c - pr_ar κ
              · left
                unfold pt_a0
                rw [if_pos (by omega), ← e0, hq']
              · right
                unfold pt_b0
                rw [if_pos (by omega), show c - pr_ar κ + 1 = q by omega, hq']
          exact ⟨q, by omega, by rw [pr_st_n (by omega)]; exact hq'⟩
    · unfold pd_add
      rw [show c - pr_ar κ + 1 - 1 = c - pr_ar κ by omega, pr_st_s]
def pt_0 : pr_PT := (0, fun _ => 0, fun _ => 0, fun _ => none, fun _ => none, fun _ => none)
theorem pt_0_ok : pt_ok pt_0 := ⟨by show 0 ≤ 8; omega, fun i hi => absurd hi (by show ¬ i < 0; omega)⟩
theorem pd_0_ok (ps : Nat → Nat) : pd_ok pt_0 ps 0 := ⟨by show 0 ≤ 0; omega, fun q hq => absurd hq (by omega), fun q q' _ h => absurd h (by omega), fun i hi _ => absurd hi (by show ¬ i < 0; omega), fun h => absurd h (by show ¬ 0 < 0; omega)⟩
/-- a finished tree: every node but the root has its parent -/
def pt_fin (t : pr_PT) : Prop := 0 < pt_n t ∧ pt_p t (pt_n t - 1) = none ∧ ∀ i, i + 1 < pt_n t → ∃ q, pt_p t i = some q
theorem pd_fin {t : pr_PT} {ps : Nat → Nat} (hp : pd_ok t ps 1) : pt_fin t := by
  obtain ⟨p1, p2, p3, p4, p5⟩ := hp
  have h := p5 (by omega)
  have h0 := p2 0 (by omega)
  have e : ps 0 = pt_n t - 1 := by
    have := h.2
    rw [show (1 : Nat) - 1 = 0 from rfl] at this
    omega
  refine ⟨by omega, e ▸ h0.2, fun i hi => ?_⟩
  cases hc : pt_p t i with
  | some q => exact ⟨q, rfl⟩
  | none =>
    obtain ⟨q, hq, hq'⟩ := p4 i (by omega) hc
    have : q = 0 := by omega
    subst this
    omega
/-! tables by their equations -/
def pr_tb {α : Type} (d : α) (F : (Nat → α) → Nat → α) : Nat → Nat → α
  | 0 => fun _ => d
  | i + 1 => fun j => if j = i then F (pr_tb d F i) i else pr_tb d F i j
theorem pr_tb_ge {α : Type} {d : α} {F : (Nat → α) → Nat → α} {j : Nat} : ∀ {i m : Nat}, j < i → i ≤ m → pr_tb d F m j = pr_tb d F i j := by
  intro i m hj hm
  induction m with
  | zero => omega
  | succ m ih =>
    by_cases e : i = m + 1
    · rw [e]
    · show (if j = m then F (pr_tb d F m) m else pr_tb d F m j) = _
      rw [if_neg (by omega)]
      exact ih (by omega)
theorem pr_tb_at {α : Type} {d : α} {F : (Nat → α) → Nat → α} {i m : Nat} (h : i < m) (hF : ∀ g g' : Nat → α, (∀ c, c < i → g c = g' c) → F g i = F g' i) : pr_tb d F m i = F (pr_tb d F m) i := by
  rw [pr_tb_ge (i := i + 1) (by omega) (by omega)]
  show (if i = i then F (pr_tb d F i) i else _) = _
  rw [if_pos rfl]
  exact hF _ _ fun c hc => (pr_tb_ge hc (by omega)).symm
def pt_hs (t : pr_PT) (κ j : Nat) : Nat → Bool
  | 0 => false
  | i + 1 => pt_hs t κ j i || (decide (pt_k t i = κ) && decide (pt_v t i = j))
def pt_has (t : pr_PT) (κ j : Nat) : Bool := pt_hs t κ j (pt_n t)
theorem pt_hs_t {t : pr_PT} {κ j : Nat} : ∀ {m : Nat}, pt_hs t κ j m = true ↔ ∃ i, i < m ∧ pt_k t i = κ ∧ pt_v t i = j
  | 0 => ⟨fun h => (nomatch h), fun ⟨i, h, _⟩ => absurd h (by omega)⟩
  | m + 1 => by
    show (pt_hs t κ j m || (decide (pt_k t m = κ) && decide (pt_v t m = j))) = true ↔ _
    rw [Bool.or_eq_true, Bool.and_eq_true, decide_eq_true_eq, decide_eq_true_eq, pt_hs_t (m := m)]
    constructor
    · rintro (⟨i, h, h'⟩ | h)
      · exact ⟨i, by omega, h'⟩
      · exact ⟨m, by omega, h⟩
    · rintro ⟨i, h, h'⟩
      by_cases e : i = m
      · rw [e] at h'
        exact Or.inr h'
      · exact Or.inl ⟨i, by omega, h'⟩
theorem pt_has_t {t : pr_PT} {κ j : Nat} : pt_has t κ j = true ↔ ∃ i, i < pt_n t ∧ pt_k t i = κ ∧ pt_v t i = j := pt_hs_t
theorem pt_has_f {t : pr_PT} {κ j : Nat} : pt_has t κ j = false ↔ ∀ i, i < pt_n t → ¬ (pt_k t i = κ ∧ pt_v t i = j) := by
  rw [← Bool.not_eq_true, pt_has_t]
  exact ⟨fun h i hi he => h ⟨i, hi, he⟩, fun h ⟨i, hi, he⟩ => h i hi he⟩
def pr_ob (g : Nat → Bool) (o : Option Nat) : Bool := match o with
  | none => true
  | some c => g c
def pt_cF (t : pr_PT) (C : Nat → Bool) (g : Nat → Bool) (i : Nat) : Bool :=
  if pt_k t i = 13 then C (pt_v t i) else pr_ob g (pt_a t i) && pr_ob g (pt_b t i)
def pt_cv (t : pr_PT) (C : Nat → Bool) : Nat → Bool := pr_tb false (pt_cF t C) 8
def pt_vF (t : pr_PT) (v0 v1 : Int32) (g : Nat → Int32) (i : Nat) : Int32 :=
  if pt_k t i = 11 then nI (pt_v t i) else if 13 ≤ pt_k t i then (if pt_v t i = 0 then v0 else v1) else pr_op (pt_k t i) (pr_ov g (pt_a t i)) (pr_ov g (pt_b t i))
def pt_tv (t : pr_PT) (v0 v1 : Int32) : Nat → Int32 := pr_tb 0 (pt_vF t v0 v1) 8
theorem pr_ob_congr {g h : Nat → Bool} {o : Option Nat} (e : ∀ c, o = some c → g c = h c) : pr_ob g o = pr_ob h o := by
  cases o with
  | none => rfl
  | some c => exact e c rfl
theorem pt_cv_eq {t : pr_PT} {C : Nat → Bool} (ht : pt_ok t) {i : Nat} (hi : i < pt_n t) : pt_cv t C i = pt_cF t C (pt_cv t C) i := by
  refine pr_tb_at (by have := ht.1; omega) fun g g' h => ?_
  have h9 := (ht.2 i hi).2.2.2.2.2.2.2.2.1
  unfold pt_cF
  rw [pr_ob_congr (o := pt_a t i) (fun c hc => h c (h9 c (Or.inl hc)).1), pr_ob_congr (o := pt_b t i) (fun c hc => h c (h9 c (Or.inr hc)).1)]
theorem pt_tv_eq {t : pr_PT} {v0 v1 : Int32} (ht : pt_ok t) {i : Nat} (hi : i < pt_n t) : pt_tv t v0 v1 i = pt_vF t v0 v1 (pt_tv t v0 v1) i := by
  refine pr_tb_at (by have := ht.1; omega) fun g g' h => ?_
  have h9 := (ht.2 i hi).2.2.2.2.2.2.2.2.1
  unfold pt_vF
  rw [pr_ov_congr (o := pt_a t i) (fun c hc => h c (h9 c (Or.inl hc)).1), pr_ov_congr (o := pt_b t i) (fun c hc => h c (h9 c (Or.inr hc)).1)]
def pt_mx (t : pr_PT) (C : Nat → Bool) (i : Nat) : Bool := pt_cv t C i && (match pt_p t i with
  | none => true
  | some q => !pt_cv t C q)
/-- a constant-valued node's value looks at the CVARs alone -/
theorem pt_tv_c {t : pr_PT} {C : Nat → Bool} (ht : pt_ok t) (h14 : ∀ i, i < pt_n t → pt_k t i ≠ 14) {v0 v1 w0 w1 : Int32} (h0 : C 0 = true → v0 = w0) (h1 : C 1 = true → v1 = w1) : ∀ i, i < pt_n t → pt_cv t C i = true → pt_tv t v0 v1 i = pt_tv t w0 w1 i := by
  intro i
  induction i using Nat.strongRecOn with
  | ind i ih =>
    intro hi hc
    rw [pt_cv_eq ht hi] at hc
    rw [pt_tv_eq ht hi, pt_tv_eq ht hi]
    have hk := ht.2 i hi
    have h9 := hk.2.2.2.2.2.2.2.2.1
    unfold pt_cF at hc
    unfold pt_vF
    by_cases h11 : pt_k t i = 11
    · rw [if_pos h11, if_pos h11]
    · rw [if_neg h11, if_neg h11]
      by_cases h13 : 13 ≤ pt_k t i
      · have e13 : pt_k t i = 13 := by
          have := h14 i hi
          have := hk.1.2.1
          omega
        rw [if_pos h13, if_pos h13]
        rw [if_pos e13] at hc
        have hv := hk.2.2.1 h13
        by_cases e : pt_v t i = 0
        · rw [if_pos e, if_pos e]
          rw [e] at hc
          exact h0 hc
        · rw [if_neg e, if_neg e]
          rw [show pt_v t i = 1 by omega] at hc
          exact h1 hc
      · rw [if_neg h13, if_neg h13]
        rw [if_neg (by omega), Bool.and_eq_true] at hc
        have f : ∀ o : Option Nat, (∀ c, o = some c → pt_a t i = some c ∨ pt_b t i = some c) → pr_ob (pt_cv t C) o = true → pr_ov (pt_tv t v0 v1) o = pr_ov (pt_tv t w0 w1) o := by
          intro o ho hb
          refine pr_ov_congr fun c hc => ?_
          subst hc
          have hlt := (h9 c (ho c rfl)).1
          exact ih c hlt (by omega) hb
        rw [f _ (fun c hc => Or.inl hc) hc.1, f _ (fun c hc => Or.inr hc) hc.2]
theorem pt_tv_by {t : pr_PT} (ht : pt_ok t) {v0 v1 : Int32} (h0 : pr_by v0) (h1 : pr_by v1) : ∀ i, i < pt_n t → pr_by (pt_tv t v0 v1 i) := by
  intro i
  induction i using Nat.strongRecOn with
  | ind i ih =>
    intro hi
    rw [pt_tv_eq ht hi]
    have hk := ht.2 i hi
    have h9 := hk.2.2.2.2.2.2.2.2.1
    unfold pt_vF
    by_cases h11 : pt_k t i = 11
    · rw [if_pos h11]
      exact ⟨_, hk.2.1 h11, rfl⟩
    · rw [if_neg h11]
      by_cases h13 : 13 ≤ pt_k t i
      · rw [if_pos h13]
        by_cases e : pt_v t i = 0
        · rw [if_pos e]
          exact h0
        · rw [if_neg e]
          exact h1
      · rw [if_neg h13]
        have f : ∀ o : Option Nat, (∀ c, o = some c → pt_a t i = some c ∨ pt_b t i = some c) → pr_by (pr_ov (pt_tv t v0 v1) o) := by
          intro o ho
          cases o with
          | none => exact pr_by_0
          | some c => exact ih c (h9 c (ho c rfl)).1 (by have := (h9 c (ho c rfl)).1; omega)
        exact pr_by_op (f _ fun c hc => Or.inl hc) (f _ fun c hc => Or.inr hc)
/-- the sums of a rule -/
def pt_pw (t : pr_PT) : Nat := pr_rs (fun i => pr_w (pt_k t i)) 0 (pt_n t)
def pt_rw (t : pr_PT) (C : Nat → Bool) : Nat := pr_rs (fun i => if pt_cv t C i then 0 else pr_w (pt_k t i)) 0 (pt_n t)
def pt_rm1 (t : pr_PT) (C : Nat → Bool) (i : Nat) : Nat := if pt_cv t C i = false ∨ (pt_mx t C i = true ∧ pt_k t i ≠ 13) then 1 else 0
def pt_rm (t : pr_PT) (C : Nat → Bool) : Nat := pr_rs (pt_rm1 t C) 0 (pt_n t)
end
section
/-! matching, pure -/
abbrev pm_S : Type := (Nat → Nat) × (Nat → Option Nat)
def pm_ch (A B : Nat → Option Nat) (P : pr_PT) (i d : Nat) (m : Nat → Nat) : Nat → Nat := fun q => if pt_a P i = some q then (A d).getD 0 else if pt_b P i = some q then (B d).getD 0 else m q
def pm_lf (P : pr_PT) (i : Nat) (s : pm_S) : Option pm_S := match s.2 (pt_v P i) with
  | none => some (s.1, pr_st s.2 (pt_v P i) (some (s.1 i)))
  | some e => if e = s.1 i then some s else none
def pm_st (K : Nat → Nat) (V : Nat → Int32) (A B : Nat → Option Nat) (us : Nat → Nat) (P : pr_PT) (i : Nat) (s : pm_S) : Option pm_S :=
  if pt_k P i = 11 then (if K (s.1 i) = 11 ∧ V (s.1 i) = nI (pt_v P i) then some s else none)
  else if 13 ≤ pt_k P i then (if pt_k P i = 14 ∧ K (s.1 i) ≠ 11 then none else pm_lf P i s)
  else if K (s.1 i) = pt_k P i ∧ (i + 1 = pt_n P ∨ us (s.1 i) = 1) then some (pm_ch A B P i (s.1 i) s.1, s.2) else none
def pm_run (K : Nat → Nat) (V : Nat → Int32) (A B : Nat → Option Nat) (us : Nat → Nat) (P : pr_PT) : Nat → pm_S → Option pm_S
  | 0, s => some s
  | i + 1, s => match pm_st K V A B us P i s with
    | none => none
    | some s' => pm_run K V A B us P i s'
def pm_nd (K : Nat → Nat) (V : Nat → Int32) (A B : Nat → Option Nat) (us : Nat → Nat) (P : pr_PT) (m : Nat → Nat) (bd : Nat → Option Nat) (i : Nat) : Prop :=
  pr_T 0 K (m i) ∧ (pt_k P i = 11 → K (m i) = 11 ∧ V (m i) = nI (pt_v P i)) ∧ (13 ≤ pt_k P i → bd (pt_v P i) = some (m i) ∧ (pt_k P i = 14 → K (m i) = 11)) ∧
  (pt_k P i ≤ 10 → K (m i) = pt_k P i ∧ (i + 1 = pt_n P ∨ us (m i) = 1) ∧ (∀ c, pt_a P i = some c → A (m i) = some (m c)) ∧ (∀ c, pt_b P i = some c → B (m i) = some (m c)))
def pm_as (P : pr_PT) (i q : Nat) : Prop := q + 1 = pt_n P ∨ ∃ p, i ≤ p ∧ p < pt_n P ∧ pt_p P q = some p
def pm_inv (K : Nat → Nat) (V : Nat → Int32) (A B : Nat → Option Nat) (us : Nat → Nat) (P : pr_PT) (R i : Nat) (s : pm_S) : Prop :=
  s.1 (pt_n P - 1) = R ∧ (∀ q, i ≤ q → q < pt_n P → pm_nd K V A B us P s.1 s.2 q) ∧ (∀ q, q < pt_n P → pm_as P i q → pr_T 0 K (s.1 q)) ∧ ∀ j d, s.2 j = some d → ∃ q, i ≤ q ∧ q < pt_n P ∧ 13 ≤ pt_k P q ∧ pt_v P q = j ∧ s.1 q = d
theorem pm_as_i {P : pr_PT} (hP : pt_ok P) (hf : pt_fin P) {i : Nat} (hi : i < pt_n P) : pm_as P (i + 1) i := by
  by_cases e : i + 1 = pt_n P
  · exact Or.inl e
  · obtain ⟨q, hq⟩ := hf.2.2 i (by omega)
    have := (hP.2 i hi).2.2.2.2.2.2.2.2.2.2 q hq
    exact Or.inr ⟨q, by omega, by omega, hq⟩
theorem pm_as_s {P : pr_PT} {i q : Nat} (h : pm_as P i q) : pm_as P (i + 1) q ∨ pt_p P q = some i := by
  rcases h with h | ⟨p, h1, h2, h3⟩
  · exact Or.inl (Or.inl h)
  · by_cases e : p = i
    · rw [e] at h3
      exact Or.inr h3
    · exact Or.inl (Or.inr ⟨p, by omega, h2, h3⟩)
theorem pm_k10 {k : Nat} (h : 1 ≤ k ∧ k ≤ 14 ∧ k ≠ 12) (h11 : k ≠ 11) (h13 : ¬ 13 ≤ k) : k ≤ 10 := by omega
section PMS
variable {K : Nat → Nat} {V : Nat → Int32} {A B : Nat → Option Nat} {us rk : Nat → Nat} {P : pr_PT} {R : Nat}
theorem pm_step (hP : pt_ok P) (hf : pt_fin P) (hG : pr_gw 0 K V A B rk) {i : Nat} (hi : i < pt_n P) {s s' : pm_S} (h : pm_inv K V A B us P R (i + 1) s) (e : pm_st K V A B us P i s = some s') : pm_inv K V A B us P R i s' := by
  obtain ⟨m, bd⟩ := s
  obtain ⟨h1, h2, h3, h4⟩ := h
  have hT : pr_T 0 K (m i) := h3 i hi (pm_as_i hP hf hi)
  have hn := hP.2 i hi
  have h9 := hn.2.2.2.2.2.2.2.2.1
  have h10 := hn.2.2.2.2.2.2.2.2.2.1
  unfold pm_st at e
  by_cases h11 : pt_k P i = 11
  · rw [if_pos h11] at e
    by_cases hc : K (m i) = 11 ∧ V (m i) = nI (pt_v P i)
    · replace e : (if K (m i) = 11 ∧ V (m i) = nI (pt_v P i) then some (m, bd) else none) = some s' := e
      rw [if_pos hc] at e
      cases e
      refine ⟨h1, fun q a b => ?_, fun q a b => ?_, fun j d hj => ?_⟩
      · by_cases eq : q = i
        · subst eq
          exact ⟨hT, fun _ => hc, fun h => absurd h (by omega), fun h => absurd h (by omega)⟩
        · exact h2 q (by omega) b
      · rcases pm_as_s b with b | b
        · exact h3 q a b
        · have := (hP.2 q a).2.2.2.2.2.2.2.2.2.2 i b
          have ha := hn.2.2.2.2.1 (by omega)
          have hb := hn.2.2.2.2.2.1 (by omega)
          rw [ha, hb] at this
          rcases this.2.2 with x | x <;> cases x
      · obtain ⟨q, a, b⟩ := h4 j d hj
        exact ⟨q, by omega, b⟩
    · replace e : (if K (m i) = 11 ∧ V (m i) = nI (pt_v P i) then some (m, bd) else none) = some s' := e
      rw [if_neg hc] at e
      cases e
  · rw [if_neg h11] at e
    by_cases h13 : 13 ≤ pt_k P i
    · rw [if_pos h13] at e
      replace e : (if pt_k P i = 14 ∧ K (m i) ≠ 11 then none else pm_lf P i (m, bd)) = some s' := e
      have hno : ∀ q, q < pt_n P → pm_as P i q → pr_T 0 K (m q) := by
        intro q a b
        rcases pm_as_s b with b | b
        · exact h3 q a b
        · have := (hP.2 q a).2.2.2.2.2.2.2.2.2.2 i b
          have ha := hn.2.2.2.2.1 (by omega)
          have hb := hn.2.2.2.2.2.1 (by omega)
          rw [ha, hb] at this
          rcases this.2.2 with x | x <;> cases x
      by_cases h14 : pt_k P i = 14 ∧ K (m i) ≠ 11
      · rw [if_pos h14] at e
        cases e
      · rw [if_neg h14] at e
        have h14' : pt_k P i = 14 → K (m i) = 11 := fun h => by
          by_cases hx : K (m i) = 11
          · exact hx
          · exact absurd ⟨h, hx⟩ h14
        unfold pm_lf at e
        cases hb : bd (pt_v P i) with
        | none =>
          replace e : (match bd (pt_v P i) with
            | none => some (m, pr_st bd (pt_v P i) (some (m i)))
            | some e => if e = m i then some (m, bd) else none) = some s' := e
          rw [hb] at e
          cases e
          refine ⟨h1, fun q a b => ?_, hno, fun j d hj => ?_⟩
          · by_cases eq : q = i
            · subst eq
              exact ⟨hT, fun h => absurd h h11, fun _ => ⟨pr_st_s, h14'⟩, fun h => absurd h (by omega)⟩
            · obtain ⟨g1, g2, g3, g4⟩ := h2 q (by omega) b
              refine ⟨g1, g2, fun h => ⟨?_, (g3 h).2⟩, g4⟩
              have hne : pt_v P q ≠ pt_v P i := by
                intro hh
                have := (g3 h).1
                rw [hh] at this
                rw [show (m, bd).2 = bd from rfl, hb] at this
                cases this
              show pr_st bd (pt_v P i) (some (m i)) (pt_v P q) = some (m q)
              rw [pr_st_n hne]
              exact (g3 h).1
          · by_cases ej : j = pt_v P i
            · subst ej
              replace hj : pr_st bd (pt_v P i) (some (m i)) (pt_v P i) = some d := hj
              rw [pr_st_s] at hj
              cases hj
              exact ⟨i, by omega, hi, h13, rfl, rfl⟩
            · replace hj : pr_st bd (pt_v P i) (some (m i)) j = some d := hj
              rw [pr_st_n ej] at hj
              obtain ⟨q, a, b⟩ := h4 j d hj
              exact ⟨q, by omega, b⟩
        | some x =>
          replace e : (match bd (pt_v P i) with
            | none => some (m, pr_st bd (pt_v P i) (some (m i)))
            | some e => if e = m i then some (m, bd) else none) = some s' := e
          rw [hb] at e
          replace e : (if x = m i then some (m, bd) else none) = some s' := e
          by_cases hx : x = m i
          · rw [if_pos hx] at e
            cases e
            refine ⟨h1, fun q a b => ?_, hno, fun j d hj => ?_⟩
            · by_cases eq : q = i
              · subst eq
                refine ⟨hT, fun h => absurd h h11, fun _ => ⟨?_, h14'⟩, fun h => absurd h (by omega)⟩
                show bd (pt_v P q) = some (m q)
                rw [hb, hx]
              · exact h2 q (by omega) b
            · obtain ⟨q, a, b⟩ := h4 j d hj
              exact ⟨q, by omega, b⟩
          · rw [if_neg hx] at e
            cases e
    · rw [if_neg h13] at e
      replace e : (if K (m i) = pt_k P i ∧ (i + 1 = pt_n P ∨ us (m i) = 1) then some (pm_ch A B P i (m i) m, bd) else none) = some s' := e
      by_cases hc : K (m i) = pt_k P i ∧ (i + 1 = pt_n P ∨ us (m i) = 1)
      · rw [if_pos hc] at e
        cases e
        have hk := hn.1
        have hG' := hG (m i) hT
        have keep : ∀ q, pt_p P q ≠ some i → pm_ch A B P i (m i) m q = m q := by
          intro q hq
          unfold pm_ch
          rw [if_neg (fun h => hq (h9 q (Or.inl h)).2), if_neg (fun h => hq (h9 q (Or.inr h)).2)]
        have keep2 : ∀ q, i ≤ q → q < pt_n P → pm_ch A B P i (m i) m q = m q := by
          intro q hq hq'
          refine keep q fun h => ?_
          have := (hP.2 q hq').2.2.2.2.2.2.2.2.2.2 i h
          omega
        have cA : ∀ c, pt_a P i = some c → A (m i) = some (pm_ch A B P i (m i) m c) := by
          intro c hc'
          unfold pm_ch
          rw [if_pos hc']
          obtain ⟨x, hx⟩ := hG'.2.2.2.2.2.2.2.1 (by rw [hc.1]; exact pm_k10 hk h11 h13)
          rw [hx]
          rfl
        have cB : ∀ c, pt_b P i = some c → B (m i) = some (pm_ch A B P i (m i) m c) := by
          intro c hc'
          unfold pm_ch
          rw [if_neg (fun h => h10 c h hc'), if_pos hc']
          have h8 : pt_k P i ≤ 8 := by
            by_cases h8 : pt_k P i ≤ 8
            · exact h8
            · rw [hn.2.2.2.2.2.1 (by omega)] at hc'
              cases hc'
          obtain ⟨x, hx⟩ := hG'.2.2.2.2.2.2.2.2.1 (by rw [hc.1]; exact h8)
          rw [hx]
          rfl
        refine ⟨?_, fun q a b => ?_, fun q a b => ?_, fun j d hj => ?_⟩
        · show pm_ch A B P i (m i) m (pt_n P - 1) = R
          rw [keep2 _ (by omega) (by omega)]
          exact h1
        · show pm_nd K V A B us P (pm_ch A B P i (m i) m) bd q
          unfold pm_nd
          rw [keep2 q a b]
          by_cases eq : q = i
          · subst eq
            exact ⟨hT, fun h => absurd h h11, fun h => absurd h h13, fun _ => ⟨hc.1, hc.2, cA, cB⟩⟩
          · obtain ⟨g1, g2, g3, g4⟩ := h2 q (by omega) b
            have g9 := (hP.2 q b).2.2.2.2.2.2.2.2.1
            refine ⟨g1, g2, g3, fun h => ⟨(g4 h).1, (g4 h).2.1, fun c hc' => ?_, fun c hc' => ?_⟩⟩
            · rw [keep c (fun hh => by
                have := (g9 c (Or.inl hc')).2
                rw [hh] at this
                cases this
                exact eq rfl)]
              exact (g4 h).2.2.1 c hc'
            · rw [keep c (fun hh => by
                have := (g9 c (Or.inr hc')).2
                rw [hh] at this
                cases this
                exact eq rfl)]
              exact (g4 h).2.2.2 c hc'
        · show pr_T 0 K (pm_ch A B P i (m i) m q)
          rcases pm_as_s b with b' | b'
          · by_cases hp : pt_p P q = some i
            · have := (hP.2 q a).2.2.2.2.2.2.2.2.2.2 i hp
              rcases this.2.2 with x | x
              · exact (pr_gw_T hG _ _ hT (Or.inl (cA q x))).1
              · exact (pr_gw_T hG _ _ hT (Or.inr (cB q x))).1
            · rw [keep q hp]
              exact h3 q a b'
          · have := (hP.2 q a).2.2.2.2.2.2.2.2.2.2 i b'
            rcases this.2.2 with x | x
            · exact (pr_gw_T hG _ _ hT (Or.inl (cA q x))).1
            · exact (pr_gw_T hG _ _ hT (Or.inr (cB q x))).1
        · obtain ⟨q, a, b, c, d', f⟩ := h4 j d hj
          exact ⟨q, by omega, b, c, d', by
            show pm_ch A B P i (m i) m q = d
            rw [keep2 q (by omega) b]
            exact f⟩
      · rw [if_neg hc] at e
        cases e
theorem pm_run_ok (hP : pt_ok P) (hf : pt_fin P) (hG : pr_gw 0 K V A B rk) : ∀ {i : Nat}, i ≤ pt_n P → ∀ {s s' : pm_S}, pm_inv K V A B us P R i s → pm_run K V A B us P i s = some s' → pm_inv K V A B us P R 0 s' := by
  intro i
  induction i with
  | zero =>
    intro _ s s' h e
    cases e
    exact h
  | succ i ih =>
    intro hi s s' h e
    replace e : (match pm_st K V A B us P i s with
      | none => none
      | some s' => pm_run K V A B us P i s') = some s' := e
    cases hs : pm_st K V A B us P i s with
    | none =>
      rw [hs] at e
      cases e
    | some s1 =>
      rw [hs] at e
      exact ih (by omega) (pm_step hP hf hG (by omega) h hs) e
theorem pm_inv0 (hf : pt_fin P) (hR : pr_T 0 K R) : pm_inv K V A B us P R (pt_n P) (fun _ => R, fun _ => none) :=
  ⟨rfl, fun q a b => absurd a (by omega), fun q _ _ => hR, fun j d h => nomatch h⟩
/-! the matched operation nodes are apart -/
theorem pm_rk (hP : pt_ok P) (hf : pt_fin P) (hG : pr_gw 0 K V A B rk) {s : pm_S} (h : pm_inv K V A B us P R 0 s) : ∀ d q, q + d + 1 = pt_n P → q + 1 ≠ pt_n P → rk (s.1 q) < rk R := by
  intro d
  induction d using Nat.strongRecOn with
  | ind d ih =>
    intro q hq hq'
    obtain ⟨p, hp⟩ := hf.2.2 q (by omega)
    have hp' := (hP.2 q (by omega)).2.2.2.2.2.2.2.2.2.2 p hp
    have hn := h.2.1 p (by omega) hp'.2.1
    have hk : pt_k P p ≤ 10 := by
      have hpn := hP.2 p hp'.2.1
      by_cases hk : pt_k P p ≤ 10
      · exact hk
      · have ha := hpn.2.2.2.2.1 (by omega)
        have hb := hpn.2.2.2.2.2.1 (by omega)
        rw [ha, hb] at hp'
        rcases hp'.2.2 with x | x <;> cases x
    have hc := (hn.2.2.2 hk).2.2
    have hlt : rk (s.1 q) < rk (s.1 p) := by
      rcases hp'.2.2 with x | x
      · exact (pr_gw_T hG _ _ hn.1 (Or.inl (hc.1 q x))).2
      · exact (pr_gw_T hG _ _ hn.1 (Or.inr (hc.2 q x))).2
    by_cases e : p + 1 = pt_n P
    · rw [show p = pt_n P - 1 by omega, h.1] at hlt
      exact hlt
    · have := ih (pt_n P - 1 - p) (by omega) p (by omega) e
      omega
theorem pm_par (hP : pt_ok P) (hf : pt_fin P) {q : Nat} (hq : q + 1 < pt_n P) : ∃ p, pt_p P q = some p ∧ q < p ∧ p < pt_n P ∧ pt_k P p ≤ 10 ∧ (pt_a P p = some q ∨ pt_b P p = some q) := by
  obtain ⟨p, hp⟩ := hf.2.2 q (by omega)
  have hp' := (hP.2 q (by omega)).2.2.2.2.2.2.2.2.2.2 p hp
  refine ⟨p, hp, hp'.1, hp'.2.1, ?_, hp'.2.2⟩
  have hpn := hP.2 p hp'.2.1
  by_cases hk : pt_k P p ≤ 10
  · exact hk
  · have ha := hpn.2.2.2.2.1 (by omega)
    have hb := hpn.2.2.2.2.2.1 (by omega)
    rw [ha, hb] at hp'
    rcases hp'.2.2 with x | x <;> cases x
def pr_e1 (A B : Nat → Option Nat) (d n : Nat) : Nat := (if A n = some d then 1 else 0) + (if B n = some d then 1 else 0)
theorem pr_e1_ge {d n : Nat} (h : A n = some d ∨ B n = some d) : 1 ≤ pr_e1 A B d n := by
  unfold pr_e1
  rcases h with h | h
  · rw [if_pos h]
    omega
  · rw [if_pos h]
    omega
theorem pr_e1_2 {d n : Nat} (h : A n = some d) (h' : B n = some d) : pr_e1 A B d n = 2 := by
  unfold pr_e1
  rw [if_pos h, if_pos h']
theorem pm_inj {O : Nat → Nat} {L : List Nat} {oc : Nat} (hP : pt_ok P) (hf : pt_fin P) (hG : pr_gw 0 K V A B rk) (hL : ∀ x, pr_T 0 K x → x ∈ L) (hu : us = pr_us A B O L oc) {s : pm_S} (h : pm_inv K V A B us P R 0 s) :
    ∀ d p, p + d + 1 = pt_n P → p + 1 ≠ pt_n P → pt_k P p ≤ 10 → ∀ q, q < pt_n P → q ≠ p → s.1 q ≠ s.1 p := by
  intro d
  induction d using Nat.strongRecOn with
  | ind d ih =>
    intro p hpd hp hk q hq hqp e
    have hrp := pm_rk hP hf hG h d p hpd hp
    by_cases hqr : q + 1 = pt_n P
    · rw [show q = pt_n P - 1 by omega, h.1] at e
      rw [← e] at hrp
      exact Nat.lt_irrefl _ hrp
    · obtain ⟨P1, a1, a2, a3, a4, a5⟩ := pm_par hP hf (q := p) (by omega)
      obtain ⟨Q1, b1, b2, b3, b4, b5⟩ := pm_par hP hf (q := q) (by omega)
      have n1 := h.2.1 P1 (by omega) a3
      have n2 := h.2.1 Q1 (by omega) b3
      have c1 := (n1.2.2.2 a4).2.2
      have c2 := (n2.2.2.2 b4).2.2
      have u1 : us (s.1 p) = 1 := by
        rcases ((h.2.1 p (by omega) (by omega)).2.2.2 hk).2.1 with x | x
        · exact absurd x hp
        · exact x
      have g1 : A (s.1 P1) = some (s.1 p) ∨ B (s.1 P1) = some (s.1 p) := by
        rcases a5 with x | x
        · exact Or.inl (c1.1 p x)
        · exact Or.inr (c1.2 p x)
      have g2 : A (s.1 Q1) = some (s.1 p) ∨ B (s.1 Q1) = some (s.1 p) := by
        rw [← e]
        rcases b5 with x | x
        · exact Or.inl (c2.1 q x)
        · exact Or.inr (c2.2 q x)
      rw [hu] at u1
      have u2 : pr_sm (pr_e1 A B (s.1 p)) L ≤ 1 := by
        have : pr_us A B O L oc (s.1 p) = pr_sm (pr_e1 A B (s.1 p)) L + pr_rs (fun k => if O k = s.1 p then 1 else 0) 0 oc := rfl
        omega
      by_cases hm : s.1 P1 = s.1 Q1
      · by_cases hPQ : P1 = Q1
        · subst hPQ
          have hdup : A (s.1 P1) = some (s.1 p) ∧ B (s.1 P1) = some (s.1 p) := by
            rcases a5 with x | x
            · rcases b5 with y | y
              · rw [x] at y
                cases y
                exact absurd rfl hqp
              · exact ⟨c1.1 p x, by rw [← e]; exact c1.2 q y⟩
            · rcases b5 with y | y
              · exact ⟨by rw [← e]; exact c1.1 q y, c1.2 p x⟩
              · rw [x] at y
                cases y
                exact absurd rfl hqp
          have := pr_sm_ge (w := pr_e1 A B (s.1 p)) (hL _ n1.1)
          rw [pr_e1_2 hdup.1 hdup.2] at this
          omega
        · by_cases hr : P1 + 1 = pt_n P
          · have := pm_rk hP hf hG h (pt_n P - 1 - Q1) Q1 (by omega) (by omega)
            rw [← hm, show P1 = pt_n P - 1 by omega, h.1] at this
            omega
          · exact ih (pt_n P - 1 - P1) (by omega) P1 (by omega) hr a4 Q1 b3 (fun x => hPQ x.symm) hm.symm
      · have := pr_sm_ge2 (w := pr_e1 A B (s.1 p)) hm (hL _ n1.1) (hL _ n2.1)
        have := pr_e1_ge g1
        have := pr_e1_ge g2
        omega
/-- an operation node of the match, not the root, is referred to by its match-parent's slot alone -/
theorem pm_only {O : Nat → Nat} {L : List Nat} {oc : Nat} (hP : pt_ok P) (hf : pt_fin P) (hL : ∀ x, pr_T 0 K x → x ∈ L) (hu : us = pr_us A B O L oc) {s : pm_S} (h : pm_inv K V A B us P R 0 s)
    {p : Nat} (hp : p + 1 < pt_n P) (hk : pt_k P p ≤ 10) : (∀ k, k < oc → O k ≠ s.1 p) ∧ ∀ y, pr_T 0 K y → (A y = some (s.1 p) ∨ B y = some (s.1 p)) → ∃ q, q < pt_n P ∧ pt_k P q ≤ 10 ∧ s.1 q = y := by
  obtain ⟨P1, a1, a2, a3, a4, a5⟩ := pm_par hP hf (q := p) hp
  have n1 := h.2.1 P1 (by omega) a3
  have c1 := (n1.2.2.2 a4).2.2
  have u1 : us (s.1 p) = 1 := by
    rcases ((h.2.1 p (by omega) (by omega)).2.2.2 hk).2.1 with x | x
    · omega
    · exact x
  have g1 : A (s.1 P1) = some (s.1 p) ∨ B (s.1 P1) = some (s.1 p) := by
    rcases a5 with x | x
    · exact Or.inl (c1.1 p x)
    · exact Or.inr (c1.2 p x)
  rw [hu] at u1
  have u2 : pr_sm (pr_e1 A B (s.1 p)) L + pr_rs (fun k => if O k = s.1 p then 1 else 0) 0 oc = 1 := u1
  have w1 := pr_sm_ge (w := pr_e1 A B (s.1 p)) (hL _ n1.1)
  have w2 := pr_e1_ge g1
  constructor
  · intro k hk' hO
    have := pr_rs_ge (f := fun k => if O k = s.1 p then 1 else 0) (lo := 0) (a := k) (by omega) (n := oc) (by omega)
    replace this : (if O k = s.1 p then 1 else 0) ≤ pr_rs (fun k => if O k = s.1 p then 1 else 0) 0 oc := this
    rw [if_pos hO] at this
    omega
  · intro y hy hr
    by_cases e : s.1 P1 = y
    · exact ⟨P1, a3, a4, e⟩
    · have := pr_sm_ge2 (w := pr_e1 A B (s.1 p)) e (hL _ n1.1) (hL _ hy)
      have := pr_e1_ge hr
      omega
end PMS
end
section
/-! building the replacement, pure -/
abbrev pb_S : Type := (Nat → Nat) × (Nat → Int32) × (Nat → Option Nat) × (Nat → Option Nat) × (Nat → Option Nat)
def pr_lf (K : Nat → Nat) : Nat → Nat → Nat
  | 0, s => s
  | f + 1, s => if K s = 0 then s else pr_lf K f (s + 1)
def pr_fr (K : Nat → Nat) : Nat := pr_lf K 31 0
theorem pr_lf_ok {K : Nat → Nat} : ∀ f s, (∃ x, s ≤ x ∧ x ≤ s + f ∧ K x = 0) → K (pr_lf K f s) = 0 ∧ pr_lf K f s ≤ s + f ∧ s ≤ pr_lf K f s ∧ ∀ y, s ≤ y → y < pr_lf K f s → K y ≠ 0 := by
  intro f
  induction f with
  | zero =>
    intro s ⟨x, h1, h2, h3⟩
    have : x = s := by omega
    subst this
    exact ⟨h3, Nat.le_refl _, Nat.le_refl _, fun y a b => absurd b (by show ¬ y < x; omega)⟩
  | succ f ih =>
    intro s ⟨x, h1, h2, h3⟩
    show K (if K s = 0 then s else pr_lf K f (s + 1)) = 0 ∧ (if K s = 0 then s else pr_lf K f (s + 1)) ≤ s + (f + 1) ∧ s ≤ (if K s = 0 then s else pr_lf K f (s + 1)) ∧ ∀ y, s ≤ y → y < (if K s = 0 then s else pr_lf K f (s + 1)) → K y ≠ 0
    by_cases h : K s = 0
    · rw [if_pos h]
      exact ⟨h, by omega, Nat.le_refl _, fun y a b => absurd b (by omega)⟩
    · rw [if_neg h]
      have hx : x ≠ s := fun e => h (e ▸ h3)
      obtain ⟨a, b, c, d⟩ := ih (s + 1) ⟨x, by omega, by omega, h3⟩
      refine ⟨a, by omega, by omega, fun y e1 e2 => ?_⟩
      by_cases e : y = s
      · rw [e]
        exact h
      · exact d y (by omega) e2
theorem pr_fr_ok {K : Nat → Nat} (h : ∃ x, x < 32 ∧ K x = 0) : K (pr_fr K) = 0 ∧ pr_fr K < 32 ∧ ∀ y, y < pr_fr K → K y ≠ 0 := by
  obtain ⟨x, h1, h2⟩ := h
  obtain ⟨a, b, c, d⟩ := pr_lf_ok (K := K) 31 0 ⟨x, by omega, by omega, h2⟩
  exact ⟨a, by show pr_lf K 31 0 < 32; omega, fun y hy => d y (by omega) hy⟩
theorem pr_rs_c (c lo : Nat) : ∀ n : Nat, pr_rs (fun _ => c) lo n = n * c
  | 0 => by
    show 0 = 0 * c
    omega
  | n + 1 => by
    show pr_rs (fun _ => c) lo n + c = (n + 1) * c
    rw [pr_rs_c c lo n, Nat.add_mul]
    omega
theorem pr_rs_pt {f g : Nat → Nat} {lo a n d : Nat} (ha : lo ≤ a) (hb : a < lo + n) (h1 : g a = f a + d) (h2 : ∀ x, x ≠ a → g x = f x) : pr_rs g lo n = pr_rs f lo n + d := by
  have h := pr_rs_one (lo := lo) (a := a) d ha n
  rw [if_pos hb] at h
  rw [← h, ← pr_rs_add]
  refine pr_rs_congr fun x _ _ => ?_
  by_cases e : x = a
  · subst e
    rw [if_pos rfl]
    exact h1
  · rw [if_neg e, h2 x e]
    rfl
def pr_ct (K : Nat → Nat) : Nat := pr_rs (fun x => if K x = 0 then 0 else 1) 0 32
theorem pr_ct_free {K : Nat → Nat} (h : pr_ct K < 32) : ∃ x, x < 32 ∧ K x = 0 := by
  apply Classical.byContradiction
  intro hn
  have : pr_ct K = pr_rs (fun _ => 1) 0 32 := pr_rs_congr fun x _ hx => by
    show (if K x = 0 then 0 else 1) = 1
    rw [if_neg (fun h0 => hn ⟨x, by omega, h0⟩)]
  rw [pr_rs_c] at this
  omega
theorem pr_rs_up {f : Nat → Nat} {lo i : Nat} : ∀ {n : Nat}, i ≤ n → pr_rs f lo i ≤ pr_rs f lo n
  | 0, h => by
    rw [show i = 0 by omega]
    exact Nat.le_refl _
  | n + 1, h => by
    by_cases e : i = n + 1
    · rw [e]
      exact Nat.le_refl _
    · have := pr_rs_up (f := f) (lo := lo) (i := i) (n := n) (by omega)
      show pr_rs f lo i ≤ pr_rs f lo n + f (lo + n)
      omega
def pr_or (res : Nat → Option Nat) (o : Option Nat) : Option Nat := match o with
  | none => none
  | some c => res c
def pb_new (i κ : Nat) (v : Int32) (a b : Option Nat) (s : pb_S) : pb_S :=
  (pr_st s.1 (pr_fr s.1) κ, pr_st s.2.1 (pr_fr s.1) v, pr_st s.2.2.1 (pr_fr s.1) a, pr_st s.2.2.2.1 (pr_fr s.1) b, pr_st s.2.2.2.2 i (some (pr_fr s.1)))
def pb_st (R : pr_PT) (C : Nat → Bool) (tv : Nat → Int32) (bd : Nat → Option Nat) (i : Nat) (s : pb_S) : pb_S :=
  if pt_cv R C i = true ∧ pt_mx R C i = false then s
  else if pt_k R i = 13 then (s.1, s.2.1, s.2.2.1, s.2.2.2.1, pr_st s.2.2.2.2 i (bd (pt_v R i)))
  else if pt_cv R C i = true then pb_new i 11 (tv i) none none s
  else pb_new i (pt_k R i) 0 (pr_or s.2.2.2.2 (pt_a R i)) (pr_or s.2.2.2.2 (pt_b R i)) s
def pb_run (R : pr_PT) (C : Nat → Bool) (tv : Nat → Int32) (bd : Nat → Option Nat) : Nat → pb_S → pb_S
  | 0, s => s
  | i + 1, s => pb_st R C tv bd i (pb_run R C tv bd i s)
def pb_sk (R : pr_PT) (C : Nat → Bool) (q : Nat) : Prop := pt_cv R C q = true ∧ pt_mx R C q = false
def pb_nw (K0 : Nat → Nat) (bd : Nat → Option Nat) (β i : Nat) (s : pb_S) (ρ : Nat → Nat) (x : Nat) : Prop :=
  s.1 x ≤ 11 ∧ pr_by (s.2.1 x) ∧ (s.1 x ≤ 10 → s.2.1 x = 0) ∧ (11 ≤ s.1 x → s.2.2.1 x = none) ∧ (9 ≤ s.1 x → s.2.2.2.1 x = none) ∧ (s.1 x ≤ 10 → ∃ c, s.2.2.1 x = some c) ∧ (s.1 x ≤ 8 → ∃ c, s.2.2.2.1 x = some c) ∧ ρ x ≤ β + i ∧
  ∀ c, (s.2.2.1 x = some c ∨ s.2.2.2.1 x = some c) → pr_T 0 s.1 c ∧ ρ c < ρ x ∧ (K0 c = 0 ∨ ∃ j, bd j = some c)
def pb_rs (K0 : Nat → Nat) (bd : Nat → Option Nat) (β : Nat) (s : pb_S) (ρ : Nat → Nat) (q : Nat) : Prop :=
  ∃ y, s.2.2.2.2 q = some y ∧ pr_T 0 s.1 y ∧ ρ y ≤ β + q + 1 ∧ (K0 y = 0 ∨ ∃ j, bd j = some y)
def pb_ws (Lo : List Nat) (K : Nat → Nat) : Nat := pr_rs (fun x => if x ∈ Lo then 0 else pr_w (K x)) 0 32
def pb_inv (K0 : Nat → Nat) (V0 : Nat → Int32) (A0 B0 : Nat → Option Nat) (rk : Nat → Nat) (bd : Nat → Option Nat) (R : pr_PT) (C : Nat → Bool) (Lo : List Nat) (β i : Nat) (s : pb_S) (ρ : Nat → Nat) : Prop :=
  (∀ x, K0 x ≠ 0 → s.1 x = K0 x ∧ s.2.1 x = V0 x ∧ s.2.2.1 x = A0 x ∧ s.2.2.2.1 x = B0 x ∧ ρ x = 16 * rk x) ∧
  (∀ x, K0 x = 0 → s.1 x ≠ 0 → x < 32 ∧ pb_nw K0 bd β i s ρ x) ∧
  (∀ q, q < i → ¬ pb_sk R C q → pb_rs K0 bd β s ρ q) ∧
  pr_ct s.1 ≤ pr_ct K0 + pr_rs (pt_rm1 R C) 0 i ∧
  pb_ws Lo s.1 = pb_ws Lo K0 + pr_rs (fun q => if pt_cv R C q then 0 else pr_w (pt_k R q)) 0 i
section PBS
variable {K0 : Nat → Nat} {V0 : Nat → Int32} {A0 B0 : Nat → Option Nat} {rk : Nat → Nat} {bd : Nat → Option Nat} {R : pr_PT} {C : Nat → Bool} {Lo : List Nat} {β : Nat} {tv : Nat → Int32}
theorem pb_inv0 : pb_inv K0 V0 A0 B0 rk bd R C Lo β 0 (K0, V0, A0, B0, fun _ => none) (fun x => 16 * rk x) :=
  ⟨fun _ _ => ⟨rfl, rfl, rfl, rfl, rfl⟩, fun x h h' => absurd h h', fun q h => absurd h (by omega), Nat.le_refl _, rfl⟩
theorem pb_newi {i κ : Nat} {v : Int32} {a b : Option Nat} {s : pb_S} {ρ : Nat → Nat} (hct : pr_ct K0 + pt_rm R C ≤ 32) (hi : i < pt_n R) (hm : pt_rm1 R C i = 1) (hlo : ∀ x, x ∈ Lo → K0 x ≠ 0)
    (hκ : 1 ≤ κ ∧ κ ≤ 11) (hv : pr_by v) (hv0 : κ ≤ 10 → v = 0) (ha : 11 ≤ κ → a = none) (hb : 9 ≤ κ → b = none) (ha' : κ ≤ 10 → ∃ c, a = some c) (hb' : κ ≤ 8 → ∃ c, b = some c)
    (hc : ∀ c, a = some c ∨ b = some c → pr_T 0 s.1 c ∧ ρ c ≤ β + i ∧ (K0 c = 0 ∨ ∃ j, bd j = some c))
    (hw : (if pt_cv R C i then 0 else pr_w (pt_k R i)) = pr_w κ)
    (h : pb_inv K0 V0 A0 B0 rk bd R C Lo β i s ρ) : pb_inv K0 V0 A0 B0 rk bd R C Lo β (i + 1) (pb_new i κ v a b s) (pr_st ρ (pr_fr s.1) (β + i + 1)) := by
  obtain ⟨h1, h2, h3, h4, h5⟩ := h
  have hs : pr_rs (pt_rm1 R C) 0 (i + 1) = pr_rs (pt_rm1 R C) 0 i + 1 := by
    show pr_rs (pt_rm1 R C) 0 i + pt_rm1 R C (0 + i) = _
    rw [Nat.zero_add, hm]
  have hup : pr_rs (pt_rm1 R C) 0 (i + 1) ≤ pt_rm R C := pr_rs_up (by omega)
  obtain ⟨f1, f2, f3⟩ := pr_fr_ok (K := s.1) (pr_ct_free (by omega))
  have f0 : K0 (pr_fr s.1) = 0 := by
    apply Classical.byContradiction
    intro hx
    rw [(h1 _ hx).1] at f1
    exact hx f1
  have ne : ∀ c, pr_T 0 s.1 c → c ≠ pr_fr s.1 := fun c hc e => hc.2.2 (e ▸ f1)
  have tt : ∀ c, pr_T 0 s.1 c → pr_T 0 (pr_st s.1 (pr_fr s.1) κ) c := fun c hc => ⟨hc.1, hc.2.1, by rw [pr_st_n (ne c hc)]; exact hc.2.2⟩
  refine ⟨fun x hx => ?_, fun x hx hx' => ?_, fun q hq hq' => ?_, ?_, ?_⟩
  · have e : x ≠ pr_fr s.1 := fun e => hx (e ▸ f0)
    show pr_st s.1 (pr_fr s.1) κ x = K0 x ∧ pr_st s.2.1 (pr_fr s.1) v x = V0 x ∧ pr_st s.2.2.1 (pr_fr s.1) a x = A0 x ∧ pr_st s.2.2.2.1 (pr_fr s.1) b x = B0 x ∧ pr_st ρ (pr_fr s.1) (β + i + 1) x = 16 * rk x
    rw [pr_st_n e, pr_st_n e, pr_st_n e, pr_st_n e, pr_st_n e]
    exact h1 x hx
  · unfold pb_nw
    show x < 32 ∧ pr_st s.1 (pr_fr s.1) κ x ≤ 11 ∧ pr_by (pr_st s.2.1 (pr_fr s.1) v x) ∧ (pr_st s.1 (pr_fr s.1) κ x ≤ 10 → pr_st s.2.1 (pr_fr s.1) v x = 0) ∧ (11 ≤ pr_st s.1 (pr_fr s.1) κ x → pr_st s.2.2.1 (pr_fr s.1) a x = none) ∧ (9 ≤ pr_st s.1 (pr_fr s.1) κ x → pr_st s.2.2.2.1 (pr_fr s.1) b x = none) ∧ (pr_st s.1 (pr_fr s.1) κ x ≤ 10 → ∃ c, pr_st s.2.2.1 (pr_fr s.1) a x = some c) ∧ (pr_st s.1 (pr_fr s.1) κ x ≤ 8 → ∃ c, pr_st s.2.2.2.1 (pr_fr s.1) b x = some c) ∧ pr_st ρ (pr_fr s.1) (β + i + 1) x ≤ β + (i + 1) ∧ ∀ c, (pr_st s.2.2.1 (pr_fr s.1) a x = some c ∨ pr_st s.2.2.2.1 (pr_fr s.1) b x = some c) → pr_T 0 (pr_st s.1 (pr_fr s.1) κ) c ∧ pr_st ρ (pr_fr s.1) (β + i + 1) c < pr_st ρ (pr_fr s.1) (β + i + 1) x ∧ (K0 c = 0 ∨ ∃ j, bd j = some c)
    by_cases e : x = pr_fr s.1
    · rw [e, pr_st_s, pr_st_s, pr_st_s, pr_st_s, pr_st_s]
      refine ⟨f2, hκ.2, hv, hv0, ha, hb, ha', hb', by omega, fun c hc' => ?_⟩
      obtain ⟨g1, g2, g3⟩ := hc c hc'
      rw [pr_st_n (ne c g1)]
      exact ⟨tt c g1, by omega, g3⟩
    · rw [pr_st_n e, pr_st_n e, pr_st_n e, pr_st_n e, pr_st_n e]
      replace hx' : pr_st s.1 (pr_fr s.1) κ x ≠ 0 := hx'
      rw [pr_st_n e] at hx'
      obtain ⟨g0, g1, g2, g3, g4, g5, g6, g7, g8, g9⟩ := h2 x hx hx'
      refine ⟨g0, g1, g2, g3, g4, g5, g6, g7, by omega, fun c hc' => ?_⟩
      obtain ⟨k1, k2, k3⟩ := g9 c hc'
      rw [pr_st_n (ne c k1)]
      exact ⟨tt c k1, k2, k3⟩
  · show ∃ y, pr_st s.2.2.2.2 i (some (pr_fr s.1)) q = some y ∧ pr_T 0 (pr_st s.1 (pr_fr s.1) κ) y ∧ pr_st ρ (pr_fr s.1) (β + i + 1) y ≤ β + q + 1 ∧ (K0 y = 0 ∨ ∃ j, bd j = some y)
    by_cases e : q = i
    · refine ⟨pr_fr s.1, by rw [e, pr_st_s], ⟨by omega, by omega, by rw [pr_st_s]; omega⟩, by rw [pr_st_s]; omega, Or.inl f0⟩
    · obtain ⟨y, y1, y2, y3, y4⟩ := h3 q (by omega) hq'
      exact ⟨y, by rw [pr_st_n e]; exact y1, tt y y2, by rw [pr_st_n (ne y y2)]; exact y3, y4⟩
  · rw [hs]
    have : pr_ct (pb_new i κ v a b s).1 = pr_ct s.1 + 1 := by
      refine pr_rs_pt (a := pr_fr s.1) (by omega) (by omega) ?_ (fun x hx => ?_)
      · show (if pr_st s.1 (pr_fr s.1) κ (pr_fr s.1) = 0 then 0 else 1) = (if s.1 (pr_fr s.1) = 0 then 0 else 1) + 1
        rw [pr_st_s, if_neg (by omega), if_pos f1]
      · show (if pr_st s.1 (pr_fr s.1) κ x = 0 then 0 else 1) = (if s.1 x = 0 then 0 else 1)
        rw [pr_st_n hx]
    omega
  · have e1 : pr_rs (fun q => if pt_cv R C q then 0 else pr_w (pt_k R q)) 0 (i + 1) = pr_rs (fun q => if pt_cv R C q then 0 else pr_w (pt_k R q)) 0 i + pr_w κ := by
      show pr_rs (fun q => if pt_cv R C q then 0 else pr_w (pt_k R q)) 0 i + (if pt_cv R C (0 + i) then 0 else pr_w (pt_k R (0 + i))) = _
      rw [Nat.zero_add, hw]
    have e2 : pb_ws Lo (pb_new i κ v a b s).1 = pb_ws Lo s.1 + pr_w κ := by
      have hnl : pr_fr s.1 ∉ Lo := fun hh => hlo _ hh f0
      refine pr_rs_pt (a := pr_fr s.1) (by omega) (by omega) ?_ (fun x hx => ?_)
      · show (if pr_fr s.1 ∈ Lo then 0 else pr_w (pr_st s.1 (pr_fr s.1) κ (pr_fr s.1))) = (if pr_fr s.1 ∈ Lo then 0 else pr_w (s.1 (pr_fr s.1))) + pr_w κ
        rw [if_neg hnl, if_neg hnl, pr_st_s, f1, pr_w_0 (Or.inl rfl)]
        omega
      · show (if x ∈ Lo then 0 else pr_w (pr_st s.1 (pr_fr s.1) κ x)) = (if x ∈ Lo then 0 else pr_w (s.1 x))
        rw [pr_st_n hx]
    omega
theorem pb_step {i : Nat} {s : pb_S} {ρ : Nat → Nat} (hR : pt_ok R) (h14 : ∀ i, i < pt_n R → pt_k R i ≠ 14) (hct : pr_ct K0 + pt_rm R C ≤ 32) (hi : i < pt_n R) (hlo : ∀ x, x ∈ Lo → K0 x ≠ 0)
    (htv : ∀ q, q < pt_n R → pr_by (tv q)) (hbd : ∀ q, q < pt_n R → pt_k R q = 13 → ∃ y, bd (pt_v R q) = some y ∧ pr_T 0 K0 y ∧ 16 * rk y ≤ β)
    (h : pb_inv K0 V0 A0 B0 rk bd R C Lo β i s ρ) : ∃ ρ', pb_inv K0 V0 A0 B0 rk bd R C Lo β (i + 1) (pb_st R C tv bd i s) ρ' := by
  have hn := hR.2 i hi
  unfold pb_st
  by_cases hsk : pt_cv R C i = true ∧ pt_mx R C i = false
  · rw [if_pos hsk]
    obtain ⟨h1, h2, h3, h4, h5⟩ := h
    refine ⟨ρ, h1, fun x a b => ?_, fun q hq hq' => ?_, ?_, ?_⟩
    · obtain ⟨g0, g1, g2, g3, g4, g5, g6, g7, g8, g9⟩ := h2 x a b
      exact ⟨g0, g1, g2, g3, g4, g5, g6, g7, by omega, g9⟩
    · by_cases e : q = i
      · rw [e] at hq'
        exact absurd hsk hq'
      · exact h3 q (by omega) hq'
    · have : pr_rs (pt_rm1 R C) 0 i ≤ pr_rs (pt_rm1 R C) 0 (i + 1) := pr_rs_up (by omega)
      omega
    · show pb_ws Lo s.1 = pb_ws Lo K0 + (pr_rs (fun q => if pt_cv R C q then 0 else pr_w (pt_k R q)) 0 i + (if pt_cv R C (0 + i) then 0 else pr_w (pt_k R (0 + i))))
      rw [Nat.zero_add, if_pos hsk.1]
      omega
  · rw [if_neg hsk]
    by_cases h13 : pt_k R i = 13
    · rw [if_pos h13]
      obtain ⟨h1, h2, h3, h4, h5⟩ := h
      refine ⟨ρ, h1, fun x a b => ?_, fun q hq hq' => ?_, ?_, ?_⟩
      · obtain ⟨g0, g1, g2, g3, g4, g5, g6, g7, g8, g9⟩ := h2 x a b
        exact ⟨g0, g1, g2, g3, g4, g5, g6, g7, by show ρ x ≤ β + (i + 1); omega, g9⟩
      · show ∃ y, pr_st s.2.2.2.2 i (bd (pt_v R i)) q = some y ∧ pr_T 0 s.1 y ∧ ρ y ≤ β + q + 1 ∧ (K0 y = 0 ∨ ∃ j, bd j = some y)
        by_cases e : q = i
        · subst e
          obtain ⟨y, y1, y2, y3⟩ := hbd q hi h13
          obtain ⟨k1, _, _, _, k5⟩ := h1 y y2.2.2
          exact ⟨y, by rw [pr_st_s]; exact y1, ⟨y2.1, y2.2.1, by rw [k1]; exact y2.2.2⟩, by rw [k5]; omega, Or.inr ⟨_, y1⟩⟩
        · obtain ⟨y, y1, y2, y3, y4⟩ := h3 q (by omega) hq'
          exact ⟨y, by rw [pr_st_n e]; exact y1, y2, y3, y4⟩
      · have : pr_rs (pt_rm1 R C) 0 i ≤ pr_rs (pt_rm1 R C) 0 (i + 1) := pr_rs_up (by omega)
        show pr_ct s.1 ≤ _
        omega
      · show pb_ws Lo s.1 = pb_ws Lo K0 + (pr_rs (fun q => if pt_cv R C q then 0 else pr_w (pt_k R q)) 0 i + (if pt_cv R C (0 + i) then 0 else pr_w (pt_k R (0 + i))))
        rw [Nat.zero_add, h13, pr_w_0 (by omega)]
        have : (if pt_cv R C i = true then 0 else 0) = 0 := by
          by_cases hx : pt_cv R C i = true
          · rw [if_pos hx]
          · rw [if_neg hx]
        omega
    · rw [if_neg h13]
      by_cases hc : pt_cv R C i = true
      · rw [if_pos hc]
        have hmx : pt_mx R C i = true := by
          cases hx : pt_mx R C i with
          | true => rfl
          | false => exact absurd ⟨hc, hx⟩ hsk
        refine ⟨_, pb_newi hct hi ?_ hlo ⟨by omega, by omega⟩ (htv i hi) (fun h => absurd h (by omega)) (fun _ => rfl) (fun _ => rfl) (fun h => absurd h (by omega)) (fun h => absurd h (by omega)) (fun c hc => by rcases hc with x | x <;> cases x) ?_ h⟩
        · unfold pt_rm1
          rw [if_pos (Or.inr ⟨hmx, h13⟩)]
        · rw [if_pos hc, pr_w_0 (by omega)]
      · rw [if_neg hc]
        have hcf : pt_cv R C i = false := by
          cases hx : pt_cv R C i with
          | true => exact absurd hx hc
          | false => rfl
        have hk10 : pt_k R i ≤ 10 := by
          apply Classical.byContradiction
          intro hk
          have h11 : pt_k R i = 11 := by
            have := hn.1
            have := h14 i hi
            omega
          rw [pt_cv_eq hR hi] at hcf
          unfold pt_cF at hcf
          rw [if_neg h13, hn.2.2.2.2.1 (by omega), hn.2.2.2.2.2.1 (by omega)] at hcf
          cases hcf
        have hch : ∀ c, pt_a R i = some c ∨ pt_b R i = some c → pb_rs K0 bd β s ρ c ∧ c < i := by
          intro c hc'
          have h9 := hn.2.2.2.2.2.2.2.2.1 c hc'
          refine ⟨h.2.2.1 c h9.1 (fun hs => ?_), h9.1⟩
          have := hs.2
          unfold pt_mx at this
          rw [hs.1, h9.2] at this
          replace this : (true && !pt_cv R C i) = false := this
          rw [hcf] at this
          cases this
        refine ⟨_, pb_newi hct hi ?_ hlo ⟨hn.1.1, by omega⟩ pr_by_0 (fun _ => rfl) (fun h => absurd h (by omega)) (fun h9 => ?_) (fun _ => ?_) (fun h8 => ?_) (fun c hc' => ?_) ?_ h⟩
        · unfold pt_rm1
          rw [if_pos (Or.inl hcf)]
        · rw [hn.2.2.2.2.2.1 h9]
          rfl
        · obtain ⟨c, hc'⟩ := hn.2.2.2.2.2.2.1 hk10
          obtain ⟨⟨y, y1, _⟩, _⟩ := hch c (Or.inl hc')
          rw [hc']
          exact ⟨y, y1⟩
        · obtain ⟨c, hc'⟩ := hn.2.2.2.2.2.2.2.1 h8
          obtain ⟨⟨y, y1, _⟩, _⟩ := hch c (Or.inr hc')
          rw [hc']
          exact ⟨y, y1⟩
        · have aux : ∀ o : Option Nat, (∀ x, o = some x → pt_a R i = some x ∨ pt_b R i = some x) → pr_or s.2.2.2.2 o = some c → pr_T 0 s.1 c ∧ ρ c ≤ β + i ∧ (K0 c = 0 ∨ ∃ j, bd j = some c) := by
            intro o ho e
            cases o with
            | none => cases e
            | some x =>
              obtain ⟨⟨y, y1, y2, y3, y4⟩, hx⟩ := hch x (ho x rfl)
              replace e : s.2.2.2.2 x = some c := e
              rw [y1] at e
              cases e
              exact ⟨y2, by omega, y4⟩
          rcases hc' with x | x
          · exact aux _ (fun x hx => Or.inl hx) x
          · exact aux _ (fun x hx => Or.inr hx) x
        · rw [if_neg hc]
theorem pb_all {s0 : pb_S} (hR : pt_ok R) (h14 : ∀ i, i < pt_n R → pt_k R i ≠ 14) (hct : pr_ct K0 + pt_rm R C ≤ 32) (hlo : ∀ x, x ∈ Lo → K0 x ≠ 0)
    (htv : ∀ q, q < pt_n R → pr_by (tv q)) (hbd : ∀ q, q < pt_n R → pt_k R q = 13 → ∃ y, bd (pt_v R q) = some y ∧ pr_T 0 K0 y ∧ 16 * rk y ≤ β)
    (hs : s0 = (K0, V0, A0, B0, fun _ => none)) : ∀ i, i ≤ pt_n R → ∃ ρ, pb_inv K0 V0 A0 B0 rk bd R C Lo β i (pb_run R C tv bd i s0) ρ := by
  intro i
  induction i with
  | zero =>
    intro _
    rw [hs]
    exact ⟨_, pb_inv0⟩
  | succ i ih =>
    intro hi
    obtain ⟨ρ, h⟩ := ih (by omega)
    exact pb_step hR h14 hct (by omega) hlo htv hbd h
end PBS
end
section
/-! one application, pure: the graph stays a graph, the live weight falls -/
def pm_lo (P : pr_PT) (m : Nat → Nat) : Nat → List Nat
  | 0 => []
  | i + 1 => if pt_k P i ≤ 10 then m i :: pm_lo P m i else pm_lo P m i
theorem pm_lo_m {P : pr_PT} {m : Nat → Nat} {x : Nat} : ∀ {i : Nat}, x ∈ pm_lo P m i ↔ ∃ p, p < i ∧ pt_k P p ≤ 10 ∧ m p = x
  | 0 => ⟨fun h => (by cases h), fun ⟨p, h, _⟩ => absurd h (by omega)⟩
  | i + 1 => by
    show x ∈ (if pt_k P i ≤ 10 then m i :: pm_lo P m i else pm_lo P m i) ↔ _
    by_cases h : pt_k P i ≤ 10
    · rw [if_pos h, List.mem_cons, pm_lo_m (i := i)]
      constructor
      · rintro (e | ⟨p, h1, h2⟩)
        · exact ⟨i, by omega, h, e.symm⟩
        · exact ⟨p, by omega, h2⟩
      · rintro ⟨p, h1, h2, h3⟩
        by_cases e : p = i
        · rw [e] at h3
          exact Or.inl h3.symm
        · exact Or.inr ⟨p, by omega, h2, h3⟩
    · rw [if_neg h, pm_lo_m (i := i)]
      constructor
      · rintro ⟨p, h1, h2⟩
        exact ⟨p, by omega, h2⟩
      · rintro ⟨p, h1, h2, h3⟩
        refine ⟨p, ?_, h2, h3⟩
        have : p ≠ i := fun e => h (e ▸ h2)
        omega
theorem pm_lo_nd {P : pr_PT} {m : Nat → Nat} {n : Nat} (hi : ∀ p q, p < n → q < n → pt_k P p ≤ 10 → pt_k P q ≤ 10 → p ≠ q → m p ≠ m q) : ∀ i, i ≤ n → (pm_lo P m i).Nodup
  | 0, _ => by
    show ([] : List Nat).Nodup
    exact List.nodup_nil
  | i + 1, h => by
    show (if pt_k P i ≤ 10 then m i :: pm_lo P m i else pm_lo P m i).Nodup
    by_cases hk : pt_k P i ≤ 10
    · rw [if_pos hk, List.nodup_cons]
      refine ⟨fun hm => ?_, pm_lo_nd hi i (by omega)⟩
      obtain ⟨p, h1, h2, h3⟩ := pm_lo_m.mp hm
      exact hi p i (by omega) (by omega) h2 hk (by omega) h3
    · rw [if_neg hk]
      exact pm_lo_nd hi i (by omega)
theorem pm_lo_w {P : pr_PT} {m : Nat → Nat} {K : Nat → Nat} {n : Nat} (hk : ∀ p, p < n → pt_k P p ≤ 10 → K (m p) = pt_k P p) : ∀ i, i ≤ n → pr_sm (fun x => pr_w (K x)) (pm_lo P m i) = pr_rs (fun p => pr_w (pt_k P p)) 0 i
  | 0, _ => rfl
  | i + 1, h => by
    have ih := pm_lo_w hk i (by omega)
    show pr_sm (fun x => pr_w (K x)) (if pt_k P i ≤ 10 then m i :: pm_lo P m i else pm_lo P m i) = pr_rs (fun p => pr_w (pt_k P p)) 0 i + pr_w (pt_k P (0 + i))
    rw [Nat.zero_add]
    by_cases hi : pt_k P i ≤ 10
    · rw [if_pos hi]
      show pr_w (K (m i)) + pr_sm (fun x => pr_w (K x)) (pm_lo P m i) = _
      rw [ih, hk i (by omega) hi]
      omega
    · rw [if_neg hi, ih, pr_w_0 (Or.inr (by omega))]
      omega
def pr_rd (r n : Nat) (o : Option Nat) : Option Nat := if o = some r then some n else o
def pa_A (r n : Nat) (f : Nat → Option Nat) : Nat → Option Nat := fun x => if x < 32 then pr_rd r n (f x) else f x
def pa_O (r n oc : Nat) (O : Nat → Nat) : Nat → Nat := fun k => if k < oc ∧ O k = r then n else O k
def pa_K (L : List Nat) (K : Nat → Nat) : Nat → Nat := fun x => if x < 32 ∧ x ∉ L then 0 else K x
def pr_W (K : Nat → Nat) : Nat := pr_rs (fun x => pr_w (K x)) 0 32
theorem pr_W_le (K : Nat → Nat) : pr_W K ≤ 96 := pr_rs_bound (c := 3) (n := 32) (fun x _ _ => pr_w_le (K x))
theorem pr_rd_s {r n c : Nat} {o : Option Nat} (h : pr_rd r n o = some c) : (o = some r ∧ c = n) ∨ (o = some c ∧ c ≠ r) := by
  unfold pr_rd at h
  by_cases e : o = some r
  · rw [if_pos e] at h
    cases h
    exact Or.inl ⟨e, rfl⟩
  · rw [if_neg e] at h
    refine Or.inr ⟨h, fun hc => e (hc ▸ h)⟩
theorem pr_rd_n {r n : Nat} {o : Option Nat} : pr_rd r n o = none ↔ o = none := by
  unfold pr_rd
  by_cases e : o = some r
  · rw [if_pos e, e]
    exact ⟨fun h => (nomatch h), fun h => (nomatch h)⟩
  · rw [if_neg e]
theorem pr_rd_e {r n : Nat} {o : Option Nat} (h : ∃ c, o = some c) : ∃ c, pr_rd r n o = some c := by
  cases e : pr_rd r n o with
  | none =>
    obtain ⟨c, hc⟩ := h
    rw [pr_rd_n.mp e] at hc
    cases hc
  | some c => exact ⟨c, rfl⟩
/-- deleting what is not listed keeps a graph -/
theorem pr_gw_del {K : Nat → Nat} {V : Nat → Int32} {A B : Nat → Option Nat} {rk : Nat → Nat} {L : List Nat} (h : pr_gw 0 K V A B rk) (hc : pr_cl A B (fun x => x ∈ L)) : pr_gw 0 (pa_K L K) V A B rk := by
  intro n hn
  have hn' : pr_T 0 K n ∧ n ∈ L := by
    have h2 := hn.2.2
    unfold pa_K at h2
    by_cases hx : n < 32 ∧ n ∉ L
    · rw [if_pos hx] at h2
      exact absurd rfl h2
    · rw [if_neg hx] at h2
      refine ⟨⟨hn.1, hn.2.1, h2⟩, ?_⟩
      apply Classical.byContradiction
      intro hy
      exact hx ⟨by have := hn.2.1; omega, hy⟩
  have e : ∀ x, x ∈ L → pa_K L K x = K x := fun x hx => by
    unfold pa_K
    rw [if_neg (fun h => h.2 hx)]
  obtain ⟨g1, g2, g3, g4, g5, g6, g7, g8, g9, g10⟩ := h n hn'.1
  rw [e n hn'.2]
  refine ⟨g1, g2, g3, g4, g5, g6, g7, g8, g9, fun c hc' => ?_⟩
  have k := g10 c hc'
  have hcl := hc n c hn'.2 hc'
  exact ⟨⟨k.1.1, k.1.2.1, by rw [e c hcl]; exact k.1.2.2⟩, k.2⟩
section PAS
variable {K : Nat → Nat} {V : Nat → Int32} {A B : Nat → Option Nat} {us rk O : Nat → Nat} {P R : pr_PT} {Rn oc : Nat} {bd : Nat → Option Nat} {m : Nat → Nat} {tv : Nat → Int32} {L : List Nat}
theorem pa_ok (hG : pr_gw 0 K V A B rk) (hL : ∀ x, pr_T 0 K x → x ∈ L) (hO : ∀ k, k < oc → pr_T 0 K (O k)) (hu : us = pr_us A B O L oc)
    (hP : pt_ok P) (hPf : pt_fin P) (hPr : pt_k P (pt_n P - 1) ≤ 10) (hR : pt_ok R) (hRf : pt_fin R) (h14 : ∀ i, i < pt_n R → pt_k R i ≠ 14)
    (hv : ∀ q, q < pt_n R → pt_k R q = 13 → ∃ p, p < pt_n P ∧ 13 ≤ pt_k P p ∧ pt_v P p = pt_v R q)
    (hm : pm_inv K V A B us P Rn 0 (m, bd)) {C : Nat → Bool} (hct : pr_ct K + pt_rm R C ≤ 32) (htv : ∀ q, q < pt_n R → pr_by (tv q)) (hw : pt_rw R C < pt_pw P)
    {s : pb_S} (hs : s = pb_run R C tv bd (pt_n R) (K, V, A, B, fun _ => none)) :
    ∃ y rk2, s.2.2.2.2 (pt_n R - 1) = some y ∧ y < 32 ∧ (∀ x, 32 ≤ x → s.1 x = K x ∧ (K x ≠ 0 → s.2.1 x = V x ∧ s.2.2.1 x = A x ∧ s.2.2.2.1 x = B x)) ∧
      pr_gw 0 s.1 s.2.1 (pa_A Rn y s.2.2.1) (pa_A Rn y s.2.2.2.1) rk2 ∧ (∀ k, k < oc → pr_T 0 s.1 (pa_O Rn y oc O k)) ∧
      ∀ L2, L2 = pr_lv (pa_A Rn y s.2.2.1) (pa_A Rn y s.2.2.2.1) (pa_O Rn y oc O) 0 oc → pr_gw 0 (pa_K L2 s.1) s.2.1 (pa_A Rn y s.2.2.1) (pa_A Rn y s.2.2.2.1) rk2 ∧ (∀ k, k < oc → pr_T 0 (pa_K L2 s.1) (pa_O Rn y oc O k)) ∧ pr_W (pa_K L2 s.1) < pr_W K ∧ ∀ x, pr_T 0 (pa_K L2 s.1) x → x ∈ L2 := by
  have hRk : 1 ≤ pt_n P := hPf.1
  have hRT : pr_T 0 K Rn := by
    have := (hm.2.1 (pt_n P - 1) (by omega) (by omega)).1
    rw [hm.1] at this
    exact this
  have root := hm.2.1 (pt_n P - 1) (by omega) (by omega)
  -- bindings lie strictly below the root
  have hbr : ∀ j y, bd j = some y → pr_T 0 K y ∧ rk y < rk Rn := by
    intro j y hj
    obtain ⟨q, _, h2, h3, h4, h5⟩ := hm.2.2.2 j y hj
    have hq := hm.2.1 q (by omega) h2
    replace h5 : m q = y := h5
    have hne : q + 1 ≠ pt_n P := by
      intro e
      rw [show pt_n P - 1 = q by omega] at hPr
      omega
    have hr := pm_rk hP hPf hG hm (pt_n P - 1 - q) q (by omega) hne
    replace hr : rk (m q) < rk Rn := hr
    rw [h5] at hr
    have ht := hq.1
    replace ht : pr_T 0 K (m q) := ht
    rw [h5] at ht
    exact ⟨ht, hr⟩
  have hrk1 : 1 ≤ rk Rn := by
    obtain ⟨c, hc⟩ := (hP.2 (pt_n P - 1) (by omega)).2.2.2.2.2.2.1 hPr
    have h1 := (root.2.2.2 hPr).2.2.1 c hc
    replace h1 : A (m (pt_n P - 1)) = some (m c) := h1
    have e : m (pt_n P - 1) = Rn := hm.1
    rw [e] at h1
    have := (pr_gw_T hG Rn _ hRT (Or.inl h1)).2
    omega
  have hlo : ∀ x, x ∈ pm_lo P m (pt_n P) → K x ≠ 0 := by
    intro x hx
    obtain ⟨p, h1, h2, h3⟩ := pm_lo_m.mp hx
    have := (hm.2.1 p (by omega) h1).1.2.2
    replace this : K (m p) ≠ 0 := this
    rw [h3] at this
    exact this
  have hbd : ∀ q, q < pt_n R → pt_k R q = 13 → ∃ y, bd (pt_v R q) = some y ∧ pr_T 0 K y ∧ 16 * rk y ≤ 16 * rk Rn - 16 := by
    intro q hq hk
    obtain ⟨p, h1, h2, h3⟩ := hv q hq hk
    have := ((hm.2.1 p (by omega) h1).2.2.1 h2).1
    replace this : bd (pt_v P p) = some (m p) := this
    rw [h3] at this
    have hb := hbr _ _ this
    exact ⟨_, this, hb.1, by omega⟩
  obtain ⟨ρ, i1, i2, i3, i4, i5⟩ := pb_all (K0 := K) (V0 := V) (A0 := A) (B0 := B) (rk := rk) (bd := bd) (R := R) (C := C) (Lo := pm_lo P m (pt_n P)) (β := 16 * rk Rn - 16) (tv := tv) hR h14 hct hlo htv hbd rfl (pt_n R) (Nat.le_refl _)
  rw [← hs] at i1 i2 i3 i4 i5
  have hn8 := hR.1
  have hnR := hRf.1
  -- the root of the replacement
  have hnsk : ¬ pb_sk R C (pt_n R - 1) := by
    intro hsk
    have := hsk.2
    unfold pt_mx at this
    rw [hsk.1, hRf.2.1] at this
    cases this
  obtain ⟨y, y1, y2, y3, y4⟩ := i3 (pt_n R - 1) (by omega) hnsk
  have hy : y < 32 := by have := y2.2.1; omega
  have ρR : ρ Rn = 16 * rk Rn := (i1 Rn hRT.2.2).2.2.2.2
  have ρy : ρ y < ρ Rn := by omega
  have hTs : ∀ x, pr_T 0 K x → pr_T 0 s.1 x := fun x hx => ⟨hx.1, hx.2.1, by rw [(i1 x hx.2.2).1]; exact hx.2.2⟩
  have h32 : ∀ x, x < 32 → ∀ f : Nat → Option Nat, pa_A Rn y f x = pr_rd Rn y (f x) := fun x hx f => if_pos hx
  -- the graph with the redirected slots
  have edge : ∀ n c, pr_T 0 s.1 n → (s.2.2.1 n = some c ∨ s.2.2.2.1 n = some c) → pr_T 0 s.1 c ∧ ρ c < ρ n := by
    intro n c hn hc
    by_cases hK : K n = 0
    · have := (i2 n hK hn.2.2).2.2.2.2.2.2.2.2.2 c hc
      exact ⟨this.1, this.2.1⟩
    · obtain ⟨e1, e2, e3, e4, e5⟩ := i1 n hK
      rw [e3, e4] at hc
      have := pr_gw_T hG n c ⟨hn.1, hn.2.1, hK⟩ hc
      refine ⟨hTs c this.1, ?_⟩
      rw [e5, (i1 c this.1.2.2).2.2.2.2]
      omega
  have gw2 : pr_gw 0 s.1 s.2.1 (pa_A Rn y s.2.2.1) (pa_A Rn y s.2.2.2.1) (pr_rc ρ 0) := by
    intro n hn
    have hn32 : n < 32 := by have := hn.2.1; omega
    rw [h32 n hn32, h32 n hn32]
    have hch : ∀ c, (pr_rd Rn y (s.2.2.1 n) = some c ∨ pr_rd Rn y (s.2.2.2.1 n) = some c) → pr_T 0 s.1 c ∧ pr_rc ρ 0 c < pr_rc ρ 0 n := by
      intro c hc
      have key : pr_T 0 s.1 c ∧ ρ c < ρ n := by
        rcases hc with hc | hc
        · rcases pr_rd_s hc with ⟨h1, h2⟩ | ⟨h1, _⟩
          · rw [h2]
            exact ⟨y2, by have := (edge n Rn hn (Or.inl h1)).2; omega⟩
          · exact edge n c hn (Or.inl h1)
        · rcases pr_rd_s hc with ⟨h1, h2⟩ | ⟨h1, _⟩
          · rw [h2]
            exact ⟨y2, by have := (edge n Rn hn (Or.inr h1)).2; omega⟩
          · exact edge n c hn (Or.inr h1)
      exact ⟨key.1, pr_rc_mono key.2 (by omega) key.1.2.1⟩
    by_cases hK : K n = 0
    · obtain ⟨_, g1, g2, g3, g4, g5, g6, g7, g8, g9⟩ := i2 n hK hn.2.2
      exact ⟨by omega, pr_rc_lt ρ (by omega) (by omega), g2, fun h => absurd h (by omega), g3, fun h => pr_rd_n.mpr (g4 h), fun h => pr_rd_n.mpr (g5 h), fun h => pr_rd_e (g6 h), fun h => pr_rd_e (g7 h), hch⟩
    · obtain ⟨e1, e2, e3, e4, e5⟩ := i1 n hK
      obtain ⟨g1, g2, g3, g4, g5, g6, g7, g8, g9, g10⟩ := hG n ⟨hn.1, hn.2.1, hK⟩
      rw [← e1, ← e2] at g4 g5
      rw [← e1] at g1 g6 g7 g8 g9
      rw [← e2] at g3
      rw [← e3] at g6 g8
      rw [← e4] at g7 g9
      exact ⟨g1, pr_rc_lt ρ (by omega) (by omega), g3, g4, g5, fun h => pr_rd_n.mpr (g6 h), fun h => pr_rd_n.mpr (g7 h), fun h => pr_rd_e (g8 h), fun h => pr_rd_e (g9 h), hch⟩
  have hO2 : ∀ k, k < oc → pr_T 0 s.1 (pa_O Rn y oc O k) := by
    intro k hk
    unfold pa_O
    by_cases h : k < oc ∧ O k = Rn
    · rw [if_pos h]
      exact y2
    · rw [if_neg h]
      exact hTs _ (hO k hk)
  refine ⟨y, pr_rc ρ 0, y1, hy, fun x hx => ?_, gw2, hO2, fun L2 hL2 => ?_⟩
  · by_cases hK : K x = 0
    · refine ⟨?_, fun h => absurd hK h⟩
      rw [hK]
      apply Classical.byContradiction
      intro h
      have := (i2 x hK h).1
      omega
    · obtain ⟨e1, e2, e3, e4, e5⟩ := i1 x hK
      exact ⟨e1, fun _ => ⟨e2, e3, e4⟩⟩
  · obtain ⟨l1, l2, l3, l4⟩ := pr_lv_ok (O := pa_O Rn y oc O) (ob := 0) (pr_gw_T gw2) (pr_gw_r gw2) oc (fun i hi => by rw [Nat.zero_add]; exact hO2 i hi)
    rw [← hL2] at l1 l2 l3 l4
    -- the set that no live node leaves
    have inj : ∀ p q, p < pt_n P → q < pt_n P → pt_k P p ≤ 10 → q ≠ p → m q ≠ m p := by
      intro p q hp hq hk hne
      by_cases hr : p + 1 = pt_n P
      · intro e
        have := pm_rk hP hPf hG hm (pt_n P - 1 - q) q (by omega) (by omega)
        replace this : rk (m q) < rk Rn := this
        rw [e, show p = pt_n P - 1 by omega] at this
        have e2 : m (pt_n P - 1) = Rn := hm.1
        rw [e2] at this
        omega
      · exact pm_inj hP hPf hG hL hu hm (pt_n P - 1 - p) p (by omega) hr hk q hq hne
    have bdlo : ∀ j c, bd j = some c → c ∉ pm_lo P m (pt_n P) := by
      intro j c hj hc
      obtain ⟨q, _, h2, h3, h4, h5⟩ := hm.2.2.2 j c hj
      obtain ⟨p, k1, k2, k3⟩ := pm_lo_m.mp hc
      replace h5 : m q = c := h5
      exact inj p q k1 h2 k2 (fun e => by rw [e] at h3; omega) (h5.trans k3.symm)
    have newlo : ∀ c, K c = 0 → c ∉ pm_lo P m (pt_n P) := fun c hc hx => hlo c hx hc
    have ylo : y ∉ pm_lo P m (pt_n P) := by
      rcases y4 with h | ⟨j, h⟩
      · exact newlo y h
      · exact bdlo j y h
    have rootlo : Rn ∈ pm_lo P m (pt_n P) := pm_lo_m.mpr ⟨pt_n P - 1, by omega, hPr, hm.1⟩
    have hcl : pr_cl (pa_A Rn y s.2.2.1) (pa_A Rn y s.2.2.2.1) (fun x => pr_T 0 s.1 x ∧ x ∉ pm_lo P m (pt_n P)) := by
      intro x c hx hc
      have hx32 : x < 32 := by have := hx.1.2.1; omega
      rw [h32 x hx32, h32 x hx32] at hc
      have main : ∀ o : Option Nat, (∀ z, o = some z → s.2.2.1 x = some z ∨ s.2.2.2.1 x = some z) → pr_rd Rn y o = some c → pr_T 0 s.1 c ∧ c ∉ pm_lo P m (pt_n P) := by
        intro o ho he
        rcases pr_rd_s he with ⟨h1, h2⟩ | ⟨h1, h1'⟩
        · rw [h2]
          exact ⟨y2, ylo⟩
        · have hed := ho c h1
          refine ⟨(edge x c hx.1 hed).1, fun hcl => ?_⟩
          obtain ⟨p, k1, k2, k3⟩ := pm_lo_m.mp hcl
          by_cases hK : K x = 0
          · have := ((i2 x hK hx.1.2.2).2.2.2.2.2.2.2.2.2 c hed).2.2
            rcases this with h | ⟨j, h⟩
            · exact newlo c h hcl
            · exact bdlo j c h hcl
          · obtain ⟨e1, e2, e3, e4, e5⟩ := i1 x hK
            rw [e3, e4] at hed
            have hp : p + 1 < pt_n P := by
              apply Classical.byContradiction
              intro hh
              apply h1'
              rw [← k3, show p = pt_n P - 1 by omega]
              exact hm.1
            have ho2 := (pm_only hP hPf hL hu hm hp k2).2 x ⟨hx.1.1, hx.1.2.1, hK⟩ (by
              replace k3 : m p = c := k3
              show A x = some (m p) ∨ B x = some (m p)
              rw [k3]
              exact hed)
            obtain ⟨q, q1, q2, q3⟩ := ho2
            exact hx.2 (pm_lo_m.mpr ⟨q, q1, q2, q3⟩)
      rcases hc with hc | hc
      · exact main _ (fun z hz => Or.inl hz) hc
      · exact main _ (fun z hz => Or.inr hz) hc
    have hout : ∀ i, i < oc → (fun x => pr_T 0 s.1 x ∧ x ∉ pm_lo P m (pt_n P)) (pa_O Rn y oc O (0 + i)) := by
      intro i hi
      rw [Nat.zero_add]
      refine ⟨hO2 i hi, ?_⟩
      unfold pa_O
      by_cases h : i < oc ∧ O i = Rn
      · rw [if_pos h]
        exact ylo
      · rw [if_neg h]
        intro hx
        obtain ⟨p, k1, k2, k3⟩ := pm_lo_m.mp hx
        have hp : p + 1 < pt_n P := by
          apply Classical.byContradiction
          intro hh
          apply h
          refine ⟨hi, ?_⟩
          rw [← k3, show p = pt_n P - 1 by omega]
          exact hm.1
        exact (pm_only hP hPf hL hu hm hp k2).1 i hi k3.symm
    have hsub : ∀ x, x ∈ L2 → x ∉ pm_lo P m (pt_n P) := fun x hx => ((l4 x hx).2 _ hcl hout).2
    refine ⟨pr_gw_del gw2 l2, fun k hk => ?_, ?_, fun x hx => ?_⟩
    · have h1 := hO2 k hk
      have h2 := l3 k hk
      rw [Nat.zero_add] at h2
      refine ⟨h1.1, h1.2.1, ?_⟩
      unfold pa_K
      rw [if_neg (fun h => h.2 h2)]
      exact h1.2.2
    · have w1 : pr_W (pa_K L2 s.1) ≤ pb_ws (pm_lo P m (pt_n P)) s.1 := by
        refine pr_rs_le fun x _ hx => ?_
        show pr_w (pa_K L2 s.1 x) ≤ (if x ∈ pm_lo P m (pt_n P) then 0 else pr_w (s.1 x))
        unfold pa_K
        by_cases h : x ∈ L2
        · rw [if_neg (fun hh => hh.2 h), if_neg (hsub x h)]
          exact Nat.le_refl _
        · rw [if_pos ⟨by omega, h⟩, pr_w_0 (Or.inl rfl)]
          exact Nat.zero_le _
      have w2 : pb_ws (pm_lo P m (pt_n P)) K + pt_pw P = pr_W K := by
        have nd := pm_lo_nd (P := P) (m := m) (n := pt_n P) (fun p q hp hq h1 h2 hne => inj q p hq hp h2 (fun e => hne e)) (pt_n P) (Nat.le_refl _)
        have e1 := pr_rs_list (w := fun x => pr_w (K x)) (lo := 0) (n := 32) nd (fun x hx => by
          obtain ⟨p, h1, h2, h3⟩ := pm_lo_m.mp hx
          have := (hm.2.1 p (by omega) h1).1
          replace this : pr_T 0 K (m p) := this
          rw [h3] at this
          exact ⟨this.1, this.2.1⟩)
        have e2 := pm_lo_w (P := P) (m := m) (K := K) (n := pt_n P) (fun p hp hk => ((hm.2.1 p (by omega) hp).2.2.2 hk).1) (pt_n P) (Nat.le_refl _)
        rw [e2] at e1
        show pr_rs (fun x => if x ∈ pm_lo P m (pt_n P) then 0 else pr_w (K x)) 0 32 + pr_rs (fun p => pr_w (pt_k P p)) 0 (pt_n P) = pr_rs (fun x => pr_w (K x)) 0 32
        rw [← e1, ← pr_rs_add]
        refine pr_rs_congr fun x _ _ => ?_
        by_cases h : x ∈ pm_lo P m (pt_n P)
        · rw [if_pos h, if_pos h, Nat.zero_add]
        · rw [if_neg h, if_neg h]
          rfl
      have w3 : pb_ws (pm_lo P m (pt_n P)) s.1 = pb_ws (pm_lo P m (pt_n P)) K + pt_rw R C := i5
      omega
    · apply Classical.byContradiction
      intro h
      have h2 := hx.2.2
      unfold pa_K at h2
      rw [if_pos ⟨by have := hx.2.1; omega, h⟩] at h2
      exact h2 rfl
end PAS
end
section
/-! X: small methods, trees read -/
def tr_at (o w : Nat) (t : pr_PT) (sz kd vl ta tb : Nat → Int32) : Prop :=
  sz w = nI (pt_n t) ∧ ∀ i, i < pt_n t → kd (w * 8 + i) = nI (pt_k t i) ∧ vl (w * 8 + i) = nI (pt_v t i) ∧ ta (w * 8 + i) = pr_oX o (pt_a t i) ∧ tb (w * 8 + i) = pr_oX o (pt_b t i)
theorem nx_8 (w n : Nat) : nI w * 8 + nI n = nI (w * 8 + n) := by
  rw [show (8 : Int32) = nI 8 from rfl, pk_mul, nI_add]
theorem nx_2 (r s : Nat) : nI r * 2 + nI s = nI (r * 2 + s) := by
  rw [show (2 : Int32) = nI 2 from rfl, pk_mul, nI_add]
section XB
variable {f_maxNodes f_maxRules f_ruleCount f_counterexample f_optimized f_nodeCount f_outputCount f_applications : Int32} {a_preRelation a_preVariable a_preConstant a_roomNeeded a_useCount a_treeSize a_treeKind a_treeValue a_treeA a_treeB a_treeResult a_constantValued a_maximal a_counterpart a_boundNode a_pending a_pendingCount a_nodeKind a_nodeValue a_nodeA a_nodeB a_nodeResult a_nodeUses a_outputNode a_seen a_order a_walkStack : Nat → Int32}
variable {post : Int32 → Prop} {w n κ j : Nat} {t : pr_PT}
theorem x_treeOf (r s : Nat) (h : post (nI (r * 2 + s))) : wpX_treeOf post (nI r) (nI s) := by
  show post ((nI r * 2) + nI s)
  rw [nx_2]
  exact h
theorem x_firstOf (h : post (nI (w * 8))) : wpX_firstOf post (nI w) := by
  show post (nI w * 8)
  rw [show (8 : Int32) = nI 8 from rfl, pk_mul]
  exact h
theorem x_endOf (hw : w < 34) (e : a_treeSize w = nI n) (h : post (nI (w * 8 + n))) : wpX_endOf post (f_maxNodes, f_maxRules, f_ruleCount, f_counterexample, f_optimized, f_nodeCount, f_outputCount, f_applications, a_preRelation, a_preVariable, a_preConstant, a_roomNeeded, a_useCount, a_treeSize, a_treeKind, a_treeValue, a_treeA, a_treeB, a_treeResult, a_constantValued, a_maximal, a_counterpart, a_boundNode, a_pending, a_pendingCount, a_nodeKind, a_nodeValue, a_nodeA, a_nodeB, a_nodeResult, a_nodeUses, a_outputNode, a_seen, a_order, a_walkStack) (nI w) := by
  show vp_in (nI w) 34 ∧ post ((nI w * 8) + a_treeSize (nI w).toNatClampNeg)
  rw [nI_clamp (by omega), e, nx_8]
  exact ⟨vp_in_nI hw (by omega), h⟩
theorem x_arity (hκ : κ < 2 ^ 31) (h : post (nI (pr_ar κ))) : wpX_arity post (nI κ) := by
  have hz : ¬ (1 ≤ κ ∧ κ ≤ 8) → wX_arity_13 post (nI κ) := by
    intro hn
    refine pk_eq κ 9 (fun e => ?_) (fun e => pk_eq κ 10 (fun e' => ?_) (fun e' => ?_))
    · rw [pr_ar_1 (Or.inl e)] at h
      exact h
    · rw [pr_ar_1 (Or.inr e')] at h
      exact h
    · rw [pr_ar_0 (by omega)] at h
      exact h
  refine pk_lt κ 1 (fun h1 => hz (by omega)) (fun h1 => pk_lt 8 κ (fun h8 => hz (by omega)) (fun h8 => ?_))
  rw [pr_ar_2 h1 h8] at h
  exact h
theorem x_arity_o {p : Int32} (hp : p < 0 ∨ nI 15 ≤ p) (h : post 0) : wpX_arity post p := by
  have h9 : ¬ p = 9 := fun e => by
    subst e
    rcases hp with h | h
    · exact absurd h (by decide)
    · exact absurd h (by decide)
  have h10 : ¬ p = 10 := fun e => by
    subst e
    rcases hp with h | h
    · exact absurd h (by decide)
    · exact absurd h (by decide)
  have hz : wX_arity_13 post p := br_f h9 (br_f h10 h)
  rcases hp with hp | hp
  · exact br_t (Int32.lt_trans hp (by decide)) hz
  · have h8 : (8 : Int32) < p := Int32.lt_of_lt_of_le (b := nI 15) (by decide) hp
    by_cases h1 : p < 1
    · exact br_t h1 hz
    · exact br_f h1 (br_t h8 hz)
theorem x_isWord_t (hj : j < 256) (h : post 1) : wpX_isWord post (nI j) :=
  br_f (nI_pos (by omega)) (pk_lt 255 j (fun h => absurd h (by omega)) (fun _ => h))
theorem x_isWord_f {p : Int32} (hp : p < 0 ∨ nI 256 ≤ p) (h : post 0) : wpX_isWord post p := by
  by_cases h0 : p < 0
  · exact br_t h0 h
  · refine br_f h0 (br_t ?_ h)
    rcases hp with hp | hp
    · exact absurd hp h0
    · exact Int32.lt_of_lt_of_le (b := nI 256) (by decide) hp
theorem x_isVariable_t (hj : j < 2) (h : post 1) : wpX_isVariable post (nI j) :=
  br_f (nI_pos (by omega)) (pk_le 2 j (fun h => absurd h (by omega)) (fun _ => h))
theorem x_isVariable_f {p : Int32} (hp : p < 0 ∨ nI 2 ≤ p) (h : post 0) : wpX_isVariable post p := by
  by_cases h0 : p < 0
  · exact br_t h0 h
  · refine br_f h0 (br_t ?_ h)
    rcases hp with hp | hp
    · exact absurd hp h0
    · exact hp
theorem x_weight (hκ : κ < 2 ^ 31) (h : post (nI (pr_w κ))) : wpX_weight post (nI κ) := by
  refine pk_eq κ 3 (fun e => ?_) (fun e => x_arity hκ ?_)
  · rw [e] at h
    exact h
  · unfold pr_w at h
    rw [if_neg e] at h
    by_cases hk : 1 ≤ κ ∧ κ ≤ 10
    · rw [if_pos hk] at h
      refine br_f ?_ h
      rw [← nI_0, nI_leI (by rcases pr_ar_c κ with x | x | x <;> omega) (by omega)]
      rcases pr_ar_c κ with x | x | x <;> omega
    · rw [if_neg hk] at h
      rw [pr_ar_0 (by omega)]
      exact br_t (by decide) h
theorem x_compute {a b : Int32} (h1 : 1 ≤ κ) (h10 : κ ≤ 10) (h : post (pr_op κ a b)) : wpX_compute post (nI κ) a b := by
  unfold pr_op at h
  refine pk_lt κ 1 (fun h => absurd h (by omega)) (fun _ => pk_lt 10 κ (fun h => absurd h (by omega)) (fun _ => ?_))
  refine pk_eq κ 1 (fun e => ?_) (fun n1 => pk_eq κ 2 (fun e => ?_) (fun n2 => pk_eq κ 3 (fun e => ?_) (fun n3 => pk_eq κ 4 (fun e => ?_) (fun n4 => pk_eq κ 5 (fun e => ?_) (fun n5 => pk_eq κ 6 (fun e => ?_) (fun n6 => pk_eq κ 7 (fun e => ?_) (fun n7 => pk_eq κ 8 (fun e => ?_) (fun n8 => pk_eq κ 9 (fun e => ?_) (fun n9 => pk_eq κ 10 (fun e => ?_) (fun n10 => trivial))))))))))
  · rw [if_pos e] at h; exact h
  · rw [if_neg n1, if_pos e] at h; exact h
  · rw [if_neg n1, if_neg n2, if_pos e] at h; exact h
  · rw [if_neg n1, if_neg n2, if_neg n3, if_pos e] at h; exact h
  · rw [if_neg n1, if_neg n2, if_neg n3, if_neg n4, if_pos e] at h; exact h
  · rw [if_neg n1, if_neg n2, if_neg n3, if_neg n4, if_neg n5, if_pos e] at h; exact h
  · rw [if_neg n1, if_neg n2, if_neg n3, if_neg n4, if_neg n5, if_neg n6, if_pos e] at h
    by_cases hb : b < 8
    · rw [if_pos hb] at h
      exact br_f (Int32.not_le.mpr hb) h
    · rw [if_neg hb] at h
      exact br_t (Int32.not_lt.mp hb) h
  · rw [if_neg n1, if_neg n2, if_neg n3, if_neg n4, if_neg n5, if_neg n6, if_neg n7, if_pos e] at h
    by_cases hb : b < 8
    · rw [if_pos hb] at h
      exact br_f (Int32.not_le.mpr hb) h
    · rw [if_neg hb] at h
      exact br_t (Int32.not_lt.mp hb) h
  · rw [if_neg n1, if_neg n2, if_neg n3, if_neg n4, if_neg n5, if_neg n6, if_neg n7, if_neg n8, if_pos e] at h; exact h
  · rw [if_neg n1, if_neg n2, if_neg n3, if_neg n4, if_neg n5, if_neg n6, if_neg n7, if_neg n8, if_neg n9] at h; exact h
theorem x_occurs13 {o : Nat} (hw : w < 34) (ht : pt_n t ≤ 8) (hT : tr_at o w t a_treeSize a_treeKind a_treeValue a_treeA a_treeB) (hk : ∀ i, i < pt_n t → pt_k t i < 100 ∧ pt_v t i < 1000) (hκ : κ < 100) (hj : j < 1000) (h : post (pr_b (pt_has t κ j))) :
    ∀ d i, i + d = pt_n t → pt_hs t κ j i = false → wX_occurs_13 post (nI κ) (nI j) (nI (w * 8 + pt_n t)) f_maxNodes f_maxRules f_ruleCount f_counterexample f_optimized f_nodeCount f_outputCount f_applications a_preRelation a_preVariable a_preConstant a_roomNeeded a_useCount a_treeSize a_treeKind a_treeValue a_treeA a_treeB a_treeResult a_constantValued a_maximal a_counterpart a_boundNode a_pending a_pendingCount a_nodeKind a_nodeValue a_nodeA a_nodeB a_nodeResult a_nodeUses a_outputNode a_seen a_order a_walkStack (d + 1) (nI (w * 8 + i)) := by
  intro d
  induction d with
  | zero =>
    intro i hi hs
    refine pk_le (w * 8 + pt_n t) (w * 8 + i) (fun _ => ?_) (fun h => absurd h (by omega))
    have e : i = pt_n t := by omega
    unfold pt_has at h
    rw [← e, hs] at h
    exact h
  | succ d ih =>
    intro i hi hs
    have hi' : i < pt_n t := by omega
    obtain ⟨e1, e2, _, _⟩ := hT.2 i hi'
    have hk' := hk i hi'
    have hcl : (nI (w * 8 + i)).toNatClampNeg = w * 8 + i := nI_clamp (by omega)
    have hnx : ¬ (pt_k t i = κ ∧ pt_v t i = j) → wX_occurs_13 post (nI κ) (nI j) (nI (w * 8 + pt_n t)) f_maxNodes f_maxRules f_ruleCount f_counterexample f_optimized f_nodeCount f_outputCount f_applications a_preRelation a_preVariable a_preConstant a_roomNeeded a_useCount a_treeSize a_treeKind a_treeValue a_treeA a_treeB a_treeResult a_constantValued a_maximal a_counterpart a_boundNode a_pending a_pendingCount a_nodeKind a_nodeValue a_nodeA a_nodeB a_nodeResult a_nodeUses a_outputNode a_seen a_order a_walkStack (d + 1) (nI (w * 8 + i) + 1) := by
      intro hx
      rw [nI_1]
      refine ih (i + 1) (by omega) ?_
      show (pt_hs t κ j i || (decide (pt_k t i = κ) && decide (pt_v t i = j))) = false
      rw [hs, Bool.false_or, Bool.and_eq_false_iff, decide_eq_false_iff_not, decide_eq_false_iff_not]
      by_cases h1 : pt_k t i = κ
      · exact Or.inr fun h2 => hx ⟨h1, h2⟩
      · exact Or.inl h1
    refine pk_le (w * 8 + pt_n t) (w * 8 + i) (fun h => absurd h (by omega)) (fun _ => ⟨pk_in (w * 8 + i) 272 (by omega), ?_⟩)
    rw [hcl, e1]
    refine pk_eq (pt_k t i) κ (fun h1 => ⟨pk_in (w * 8 + i) 272 (by omega), ?_⟩) (fun h1 => nm_e (hnx fun hx => h1 hx.1))
    rw [e2]
    refine pk_eq (pt_v t i) j (fun h2 => ?_) (fun h2 => nm_e (hnx fun hx => h2 hx.2))
    rw [pt_has_t.mpr ⟨i, hi', h1, h2⟩] at h
    exact h
theorem pt_sm (ht : pt_ok t) : ∀ i, i < pt_n t → pt_k t i < 100 ∧ pt_v t i < 1000 := by
  intro i hi
  obtain ⟨h1, h2, h3, h4, _⟩ := ht.2 i hi
  refine ⟨by omega, ?_⟩
  by_cases h : pt_k t i ≤ 10
  · have := h4 h
    omega
  · by_cases h' : pt_k t i = 11
    · have := h2 h'
      omega
    · have := h3 (by omega)
      omega
theorem x_occurs {o : Nat} (hw : w < 34) (ht : pt_ok t) (hT : tr_at o w t a_treeSize a_treeKind a_treeValue a_treeA a_treeB) (hκ : κ < 100) (hj : j < 1000) (h : post (pr_b (pt_has t κ j))) : wpX_occurs post (f_maxNodes, f_maxRules, f_ruleCount, f_counterexample, f_optimized, f_nodeCount, f_outputCount, f_applications, a_preRelation, a_preVariable, a_preConstant, a_roomNeeded, a_useCount, a_treeSize, a_treeKind, a_treeValue, a_treeA, a_treeB, a_treeResult, a_constantValued, a_maximal, a_counterpart, a_boundNode, a_pending, a_pendingCount, a_nodeKind, a_nodeValue, a_nodeA, a_nodeB, a_nodeResult, a_nodeUses, a_outputNode, a_seen, a_order, a_walkStack) (nI w) (nI κ) (nI j) := by
  unfold wpX_occurs
  refine x_endOf hw hT.1 ?_
  refine x_firstOf ⟨pt_n t + 1, ?_⟩
  exact x_occurs13 hw ht.1 hT (pt_sm ht) hκ hj h (pt_n t) 0 (by omega) rfl
end XB
end
section
/-! X: trees evaluated, marked, weighed -/
section XC
variable {f_maxNodes f_maxRules f_ruleCount f_counterexample f_optimized f_nodeCount f_outputCount f_applications : Int32} {a_preRelation a_preVariable a_preConstant a_roomNeeded a_useCount a_treeSize a_treeKind a_treeValue a_treeA a_treeB a_treeResult a_constantValued a_maximal a_counterpart a_boundNode a_pending a_pendingCount a_nodeKind a_nodeValue a_nodeA a_nodeB a_nodeResult a_nodeUses a_outputNode a_seen a_order a_walkStack : Nat → Int32}
variable {post : Int32 → SX → Prop} {w : Nat} {t : pr_PT} {v0 v1 : Int32}
theorem x_evaluateTree13 (hw : w < 34) (ht : pt_ok t) (h0 : 0 < pt_n t) (hT : tr_at (w * 8) w t a_treeSize a_treeKind a_treeValue a_treeA a_treeB) (h : ∀ tr', (∀ q, q < pt_n t → tr' (w * 8 + q) = pt_tv t v0 v1 q) → post (pt_tv t v0 v1 (pt_n t - 1)) (f_maxNodes, f_maxRules, f_ruleCount, f_counterexample, f_optimized, f_nodeCount, f_outputCount, f_applications, a_preRelation, a_preVariable, a_preConstant, a_roomNeeded, a_useCount, a_treeSize, a_treeKind, a_treeValue, a_treeA, a_treeB, tr', a_constantValued, a_maximal, a_counterpart, a_boundNode, a_pending, a_pendingCount, a_nodeKind, a_nodeValue, a_nodeA, a_nodeB, a_nodeResult, a_nodeUses, a_outputNode, a_seen, a_order, a_walkStack)) :
    ∀ d i tr, i + d = pt_n t → (∀ q, q < i → tr (w * 8 + q) = pt_tv t v0 v1 q) → wX_evaluateTree_13 post v0 v1 (nI (w * 8 + pt_n t)) f_maxNodes f_maxRules f_ruleCount f_counterexample f_optimized f_nodeCount f_outputCount f_applications (d + 1) (nI (w * 8 + i)) a_preRelation a_preVariable a_preConstant a_roomNeeded a_useCount a_treeSize a_treeKind a_treeValue a_treeA a_treeB tr a_constantValued a_maximal a_counterpart a_boundNode a_pending a_pendingCount a_nodeKind a_nodeValue a_nodeA a_nodeB a_nodeResult a_nodeUses a_outputNode a_seen a_order a_walkStack := by
  intro d
  have h8 := ht.1
  induction d with
  | zero =>
    intro i tr hi hq
    refine pk_le (w * 8 + pt_n t) (w * 8 + i) (fun _ => ?_) (fun h => absurd h (by omega))
    rw [pr_s1 (by omega), show w * 8 + pt_n t - 1 = w * 8 + (pt_n t - 1) by omega]
    refine ⟨pk_in (w * 8 + (pt_n t - 1)) 272 (by omega), ?_⟩
    rw [nI_clamp (by omega), hq _ (by omega)]
    exact h tr fun q hq' => hq q (by omega)
  | succ d ih =>
    intro i tr hi hq
    have hi' : i < pt_n t := by omega
    obtain ⟨e1, e2, e3, e4⟩ := hT.2 i hi'
    have hn := ht.2 i hi'
    have h9 := hn.2.2.2.2.2.2.2.2.1
    have hs := pt_sm ht i hi'
    have hcl : (nI (w * 8 + i)).toNatClampNeg = w * 8 + i := nI_clamp (by omega)
    have hnx : ∀ x : Int32, x = pt_tv t v0 v1 i → wX_evaluateTree_13 post v0 v1 (nI (w * 8 + pt_n t)) f_maxNodes f_maxRules f_ruleCount f_counterexample f_optimized f_nodeCount f_outputCount f_applications (d + 1) (nI (w * 8 + i) + 1) a_preRelation a_preVariable a_preConstant a_roomNeeded a_useCount a_treeSize a_treeKind a_treeValue a_treeA a_treeB (upd tr (w * 8 + i) x) a_constantValued a_maximal a_counterpart a_boundNode a_pending a_pendingCount a_nodeKind a_nodeValue a_nodeA a_nodeB a_nodeResult a_nodeUses a_outputNode a_seen a_order a_walkStack := by
      intro x hx
      rw [nI_1]
      refine ih (i + 1) _ (by omega) fun q hq' => ?_
      by_cases e : q = i
      · rw [e, pk_us, hx]
      · rw [pk_un (by omega)]
        exact hq q (by omega)
    have heq := pt_tv_eq (v0 := v0) (v1 := v1) ht hi'
    unfold pt_vF at heq
    have hin : vp_in (nI (w * 8 + i)) 272 := pk_in (w * 8 + i) 272 (by omega)
    refine pk_le (w * 8 + pt_n t) (w * 8 + i) (fun h => absurd h (by omega)) (fun _ => ⟨hin, ?_⟩)
    rw [hcl]
    refine nm_r e1 ?_
    have h1314 : 13 ≤ pt_k t i → wX_evaluateTree_67 post (wX_evaluateTree_13 post v0 v1 (nI (w * 8 + pt_n t)) f_maxNodes f_maxRules f_ruleCount f_counterexample f_optimized f_nodeCount f_outputCount f_applications (d + 1)) v0 v1 (nI (w * 8 + pt_n t)) (nI (w * 8 + i)) f_maxNodes f_maxRules f_ruleCount f_counterexample f_optimized f_nodeCount f_outputCount f_applications a_preRelation a_preVariable a_preConstant a_roomNeeded a_useCount a_treeSize a_treeKind a_treeValue a_treeA a_treeB tr a_constantValued a_maximal a_counterpart a_boundNode a_pending a_pendingCount a_nodeKind a_nodeValue a_nodeA a_nodeB a_nodeResult a_nodeUses a_outputNode a_seen a_order a_walkStack := by
      intro h13
      rw [if_neg (by omega), if_pos h13] at heq
      refine ⟨hin, ?_⟩
      rw [hcl, e2]
      refine pk_eq (pt_v t i) 0 (fun e => ⟨hin, ?_⟩) (fun e => ⟨hin, ?_⟩)
      · rw [if_pos e] at heq
        exact nm_e (nm_e (hnx _ heq.symm))
      · rw [if_neg e] at heq
        exact nm_e (nm_e (hnx _ heq.symm))
    refine pk_eq (pt_k t i) 11 (fun e => ⟨hin, hin, ?_⟩) (fun n11 => pk_eq (pt_k t i) 13 (fun e => h1314 (by omega)) (fun n13 => pk_eq (pt_k t i) 14 (fun e => h1314 (by omega)) (fun n14 => ⟨hin, ?_⟩)))
    · rw [if_pos e] at heq
      rw [e2]
      exact nm_e (nm_e (hnx _ heq.symm))
    · have hk : pt_k t i ≤ 10 := by have := hn.1; omega
      rw [if_neg n11, if_neg (by omega)] at heq
      obtain ⟨ca, hca⟩ := hn.2.2.2.2.2.2.1 hk
      have hca' := h9 ca (Or.inl hca)
      have eA : a_treeA (w * 8 + i) = nI (w * 8 + ca) := by
        rw [e3, hca]
        rfl
      rw [hca] at heq
      by_cases hb : pt_k t i ≤ 8
      · obtain ⟨cb, hcb⟩ := hn.2.2.2.2.2.2.2.1 hb
        have hcb' := h9 cb (Or.inr hcb)
        have eB : a_treeB (w * 8 + i) = nI (w * 8 + cb) := by
          rw [e4, hcb]
          rfl
        rw [hcb] at heq
        rw [eB]
        refine br_f (pr_ne1 (by omega)) ⟨hin, pk_in (w * 8 + cb) 272 (by omega), ?_⟩
        rw [nI_clamp (n := w * 8 + cb) (by omega)]
        refine ⟨hin, ?_⟩
        rw [hcl, eA, nI_clamp (n := w * 8 + ca) (by omega)]
        refine ⟨pk_in (w * 8 + ca) 272 (by omega), x_compute hn.1.1 hk ⟨hin, ?_⟩⟩
        refine nm_e (nm_e (hnx _ ?_))
        rw [heq, hq ca (by omega), hq cb (by omega)]
        rfl
      · have eB : a_treeB (w * 8 + i) = -1 := by
          rw [e4, hn.2.2.2.2.2.1 (by omega)]
          rfl
        rw [hn.2.2.2.2.2.1 (by omega)] at heq
        rw [eB]
        refine br_t rfl ⟨hin, ?_⟩
        rw [hcl, eA, nI_clamp (n := w * 8 + ca) (by omega)]
        refine ⟨pk_in (w * 8 + ca) 272 (by omega), x_compute hn.1.1 hk ⟨hin, ?_⟩⟩
        refine nm_e (nm_e (hnx _ ?_))
        rw [heq, hq ca (by omega)]
        rfl
theorem x_evaluateTree (hw : w < 34) (ht : pt_ok t) (h0 : 0 < pt_n t) (hT : tr_at (w * 8) w t a_treeSize a_treeKind a_treeValue a_treeA a_treeB) (h : ∀ tr', (∀ q, q < pt_n t → tr' (w * 8 + q) = pt_tv t v0 v1 q) → post (pt_tv t v0 v1 (pt_n t - 1)) (f_maxNodes, f_maxRules, f_ruleCount, f_counterexample, f_optimized, f_nodeCount, f_outputCount, f_applications, a_preRelation, a_preVariable, a_preConstant, a_roomNeeded, a_useCount, a_treeSize, a_treeKind, a_treeValue, a_treeA, a_treeB, tr', a_constantValued, a_maximal, a_counterpart, a_boundNode, a_pending, a_pendingCount, a_nodeKind, a_nodeValue, a_nodeA, a_nodeB, a_nodeResult, a_nodeUses, a_outputNode, a_seen, a_order, a_walkStack)) :
    wpX_evaluateTree post (f_maxNodes, f_maxRules, f_ruleCount, f_counterexample, f_optimized, f_nodeCount, f_outputCount, f_applications, a_preRelation, a_preVariable, a_preConstant, a_roomNeeded, a_useCount, a_treeSize, a_treeKind, a_treeValue, a_treeA, a_treeB, a_treeResult, a_constantValued, a_maximal, a_counterpart, a_boundNode, a_pending, a_pendingCount, a_nodeKind, a_nodeValue, a_nodeA, a_nodeB, a_nodeResult, a_nodeUses, a_outputNode, a_seen, a_order, a_walkStack) (nI w) v0 v1 := by
  unfold wpX_evaluateTree
  refine x_endOf hw hT.1 ?_
  refine x_firstOf ⟨pt_n t + 1, ?_⟩
  exact x_evaluateTree13 hw ht h0 hT h (pt_n t) 0 a_treeResult (by omega) (fun q hq => absurd hq (by omega))
end XC
section XD
variable {f_maxNodes f_maxRules f_ruleCount f_counterexample f_optimized f_nodeCount f_outputCount f_applications : Int32} {a_preRelation a_preVariable a_preConstant a_roomNeeded a_useCount a_treeSize a_treeKind a_treeValue a_treeA a_treeB a_treeResult a_constantValued a_maximal a_counterpart a_boundNode a_pending a_pendingCount a_nodeKind a_nodeValue a_nodeA a_nodeB a_nodeResult a_nodeUses a_outputNode a_seen a_order a_walkStack : Nat → Int32}
variable {post : SX → Prop} {r wp w : Nat} {p t : pr_PT} {C : Nat → Bool}
theorem x_markConst25 (hwp : wp < 34) (hw : w < 34) (hp : pt_ok p) (ht : pt_ok t) (h14 : ∀ i, i < pt_n t → pt_k t i ≠ 14) (hC : C = pt_has p 14) (hP : tr_at (wp * 8) wp p a_treeSize a_treeKind a_treeValue a_treeA a_treeB) (hT : tr_at (w * 8) w t a_treeSize a_treeKind a_treeValue a_treeA a_treeB)
    (h : ∀ cv', (∀ q, q < pt_n t → cv' (w * 8 + q) = pr_b (pt_cv t C q)) → (∀ q, q < w * 8 ∨ w * 8 + pt_n t ≤ q → cv' q = a_constantValued q) → post (f_maxNodes, f_maxRules, f_ruleCount, f_counterexample, f_optimized, f_nodeCount, f_outputCount, f_applications, a_preRelation, a_preVariable, a_preConstant, a_roomNeeded, a_useCount, a_treeSize, a_treeKind, a_treeValue, a_treeA, a_treeB, a_treeResult, cv', a_maximal, a_counterpart, a_boundNode, a_pending, a_pendingCount, a_nodeKind, a_nodeValue, a_nodeA, a_nodeB, a_nodeResult, a_nodeUses, a_outputNode, a_seen, a_order, a_walkStack)) :
    ∀ d i cv, i + d = pt_n t → (∀ q, q < i → cv (w * 8 + q) = pr_b (pt_cv t C q)) → (∀ q, q < w * 8 ∨ w * 8 + pt_n t ≤ q → cv q = a_constantValued q) → wX_markConstantValued_25 post (nI wp) (nI (w * 8 + pt_n t)) f_maxNodes f_maxRules f_ruleCount f_counterexample f_optimized f_nodeCount f_outputCount f_applications (d + 1) (nI (w * 8 + i)) a_preRelation a_preVariable a_preConstant a_roomNeeded a_useCount a_treeSize a_treeKind a_treeValue a_treeA a_treeB a_treeResult cv a_maximal a_counterpart a_boundNode a_pending a_pendingCount a_nodeKind a_nodeValue a_nodeA a_nodeB a_nodeResult a_nodeUses a_outputNode a_seen a_order a_walkStack := by
  intro d
  have h8 := ht.1
  induction d with
  | zero =>
    intro i cv hi hq hq2
    refine pk_le (w * 8 + pt_n t) (w * 8 + i) (fun _ => ?_) (fun h => absurd h (by omega))
    exact h cv (fun q hq' => hq q (by omega)) hq2
  | succ d ih =>
    intro i cv hi hq hq2
    have hi' : i < pt_n t := by omega
    obtain ⟨e1, e2, e3, e4⟩ := hT.2 i hi'
    have hn := ht.2 i hi'
    have h9 := hn.2.2.2.2.2.2.2.2.1
    have hs := pt_sm ht i hi'
    have hcl : (nI (w * 8 + i)).toNatClampNeg = w * 8 + i := nI_clamp (by omega)
    have hnx : ∀ x : Int32, x = pr_b (pt_cv t C i) → wX_markConstantValued_25 post (nI wp) (nI (w * 8 + pt_n t)) f_maxNodes f_maxRules f_ruleCount f_counterexample f_optimized f_nodeCount f_outputCount f_applications (d + 1) (nI (w * 8 + i) + 1) a_preRelation a_preVariable a_preConstant a_roomNeeded a_useCount a_treeSize a_treeKind a_treeValue a_treeA a_treeB a_treeResult (upd cv (w * 8 + i) x) a_maximal a_counterpart a_boundNode a_pending a_pendingCount a_nodeKind a_nodeValue a_nodeA a_nodeB a_nodeResult a_nodeUses a_outputNode a_seen a_order a_walkStack := by
      intro x hx
      rw [nI_1]
      refine ih (i + 1) _ (by omega) (fun q hq' => ?_) (fun q hq' => ?_)
      · by_cases e : q = i
        · rw [e, pk_us, hx]
        · rw [pk_un (by omega)]
          exact hq q (by omega)
      · rw [pk_un (by omega)]
        exact hq2 q hq'
    have heq := pt_cv_eq (C := C) ht hi'
    unfold pt_cF at heq
    have hin : vp_in (nI (w * 8 + i)) 272 := pk_in (w * 8 + i) 272 (by omega)
    refine pk_le (w * 8 + pt_n t) (w * 8 + i) (fun h => absurd h (by omega)) (fun _ => ⟨hin, ?_⟩)
    rw [hcl, e1]
    refine pk_eq (pt_k t i) 13 (fun e => ⟨hin, ?_⟩) (fun n13 => ⟨hin, ?_⟩)
    · rw [e2]
      refine x_occurs hwp hp hP (by decide) hs.2 ⟨hin, ?_⟩
      rw [pr_nb]
      rw [if_pos e] at heq
      exact nm_e (nm_e (hnx _ (by rw [heq, hC])))
    · rw [if_neg n13] at heq
      have h100 : (pr_ob (pt_cv t C) (pt_a t i) = true) → wX_markConstantValued_100 post (wX_markConstantValued_25 post (nI wp) (nI (w * 8 + pt_n t)) f_maxNodes f_maxRules f_ruleCount f_counterexample f_optimized f_nodeCount f_outputCount f_applications (d + 1)) (nI wp) (nI (w * 8 + pt_n t)) (nI (w * 8 + i)) (nI (w * 8 + i)) f_maxNodes f_maxRules f_ruleCount f_counterexample f_optimized f_nodeCount f_outputCount f_applications a_preRelation a_preVariable a_preConstant a_roomNeeded a_useCount a_treeSize a_treeKind a_treeValue a_treeA a_treeB a_treeResult cv a_maximal a_counterpart a_boundNode a_pending a_pendingCount a_nodeKind a_nodeValue a_nodeA a_nodeB a_nodeResult a_nodeUses a_outputNode a_seen a_order a_walkStack := by
        intro ha
        rw [ha, Bool.true_and] at heq
        refine ⟨hin, ?_⟩
        rw [hcl, e4]
        cases hb : pt_b t i with
        | none =>
          rw [hb] at heq
          refine br_t rfl ⟨hin, ?_⟩
          rw [pr_vb1]
          exact nm_e (nm_e (hnx _ (by rw [heq]; rfl)))
        | some cb =>
          rw [hb] at heq
          have hcb := h9 cb (Or.inr hb)
          show _ ∧ _
          refine br_f (pr_ne1 (by omega)) ⟨hin, pk_in (w * 8 + cb) 272 (by omega), ?_⟩
          rw [show (pr_oX (w * 8) (some cb)).toNatClampNeg = w * 8 + cb from nI_clamp (by omega), hq cb (by omega)]
          replace heq : pt_cv t C i = pt_cv t C cb := heq
          rw [← heq]
          refine br_c (fun h0 => ⟨hin, ?_⟩) (fun h0 => ⟨hin, ?_⟩)
          · rw [pr_vb0]
            exact nm_e (nm_e (hnx _ h0.symm))
          · rw [pr_vb1]
            refine nm_e (nm_e (hnx _ ?_))
            cases hx : pt_cv t C i with
            | true => rfl
            | false => rw [hx] at h0; exact absurd rfl h0
      rw [e3]
      cases ha : pt_a t i with
      | none => exact br_t rfl (h100 (by rw [ha]; rfl))
      | some ca =>
        have hca := h9 ca (Or.inl ha)
        refine br_f (pr_ne1 (by omega)) ⟨hin, pk_in (w * 8 + ca) 272 (by omega), ?_⟩
        rw [show (pr_oX (w * 8) (some ca)).toNatClampNeg = w * 8 + ca from nI_clamp (by omega), hq ca (by omega)]
        refine br_c (fun h0 => ⟨hin, ?_⟩) (fun h0 => h100 ?_)
        · rw [pr_vb0]
          rw [ha] at heq
          refine nm_e (nm_e (hnx _ ?_))
          replace heq : pt_cv t C i = (pt_cv t C ca && pr_ob (pt_cv t C) (pt_b t i)) := heq
          rw [(pr_b0 _).mp h0, Bool.false_and] at heq
          rw [heq]
          rfl
        · rw [ha]
          show pt_cv t C ca = true
          cases hx : pt_cv t C ca with
          | true => rfl
          | false => rw [hx] at h0; exact absurd rfl h0
theorem x_markConst (hr : r < 17) (hp : pt_ok p) (ht : pt_ok t) (h14 : ∀ i, i < pt_n t → pt_k t i ≠ 14) (hC : C = pt_has p 14) (hP : tr_at ((r * 2 + 0) * 8) (r * 2 + 0) p a_treeSize a_treeKind a_treeValue a_treeA a_treeB) (hT : tr_at ((r * 2 + 1) * 8) (r * 2 + 1) t a_treeSize a_treeKind a_treeValue a_treeA a_treeB)
    (h : ∀ cv', (∀ q, q < pt_n t → cv' ((r * 2 + 1) * 8 + q) = pr_b (pt_cv t C q)) → (∀ q, q < (r * 2 + 1) * 8 ∨ (r * 2 + 1) * 8 + pt_n t ≤ q → cv' q = a_constantValued q) → post (f_maxNodes, f_maxRules, f_ruleCount, f_counterexample, f_optimized, f_nodeCount, f_outputCount, f_applications, a_preRelation, a_preVariable, a_preConstant, a_roomNeeded, a_useCount, a_treeSize, a_treeKind, a_treeValue, a_treeA, a_treeB, a_treeResult, cv', a_maximal, a_counterpart, a_boundNode, a_pending, a_pendingCount, a_nodeKind, a_nodeValue, a_nodeA, a_nodeB, a_nodeResult, a_nodeUses, a_outputNode, a_seen, a_order, a_walkStack)) :
    wpX_markConstantValued post (f_maxNodes, f_maxRules, f_ruleCount, f_counterexample, f_optimized, f_nodeCount, f_outputCount, f_applications, a_preRelation, a_preVariable, a_preConstant, a_roomNeeded, a_useCount, a_treeSize, a_treeKind, a_treeValue, a_treeA, a_treeB, a_treeResult, a_constantValued, a_maximal, a_counterpart, a_boundNode, a_pending, a_pendingCount, a_nodeKind, a_nodeValue, a_nodeA, a_nodeB, a_nodeResult, a_nodeUses, a_outputNode, a_seen, a_order, a_walkStack) (nI r) := by
  unfold wpX_markConstantValued
  refine x_treeOf r 0 ?_
  refine x_treeOf r 1 ?_
  refine x_endOf (by omega) hT.1 ?_
  refine x_firstOf ⟨pt_n t + 1, ?_⟩
  exact x_markConst25 (by omega) (by omega) hp ht h14 hC hP hT h (pt_n t) 0 a_constantValued (by omega) (fun q hq => absurd hq (by omega)) (fun q _ => rfl)
end XD
end
section
/-! X: maximal marks, weights, room -/
theorem nx_m1 (a i : Nat) : nI (a + (i + 1)) + (-1) = nI (a + i) := pk_m1 (a + i)
theorem nx_lt {a : Nat} (h : a < 2 ^ 30) : nI a + (-1) < nI a := by
  rw [Int32.lt_iff_toInt_lt, Int32.toInt_add, nI_toInt (by omega), show ((-1 : Int32)).toInt = -1 from by decide, Int.bmod_eq_of_le (by omega) (by omega)]
  omega
def mx_on (w : Nat) (t : pr_PT) (C : Nat → Bool) (S : Nat → Prop) (mx : Nat → Int32) : Prop := ∀ q, q < pt_n t → S q → mx (w * 8 + q) = pr_b (pt_mx t C q)
theorem mx_up {w : Nat} {t : pr_PT} {C : Nat → Bool} {S S' : Nat → Prop} {mx : Nat → Int32} {c : Nat} {x : Int32} (h : mx_on w t C S mx) (hx : x = pr_b (pt_mx t C c)) (hS : ∀ q, q < pt_n t → S' q → q = c ∨ S q) : mx_on w t C S' (upd mx (w * 8 + c) x) := by
  intro q hq hs
  by_cases e : q = c
  · rw [e, pk_us, hx]
  · rw [pk_un (by omega)]
    rcases hS q hq hs with h' | h'
    · exact absurd h' e
    · exact h q hq h'
theorem mx_v {t : pr_PT} {C : Nat → Bool} {c i : Nat} (h : pt_p t c = some i) : pt_mx t C c = (pt_cv t C c && !pt_cv t C i) := by
  unfold pt_mx
  rw [h]
section XE
variable {f_maxNodes f_maxRules f_ruleCount f_counterexample f_optimized f_nodeCount f_outputCount f_applications : Int32} {a_preRelation a_preVariable a_preConstant a_roomNeeded a_useCount a_treeSize a_treeKind a_treeValue a_treeA a_treeB a_treeResult a_constantValued a_maximal a_counterpart a_boundNode a_pending a_pendingCount a_nodeKind a_nodeValue a_nodeA a_nodeB a_nodeResult a_nodeUses a_outputNode a_seen a_order a_walkStack : Nat → Int32}
variable {post : SX → Prop} {r w : Nat} {t : pr_PT} {C : Nat → Bool}
theorem x_markMax33 (hw1 : 1 ≤ w) (hw : w < 34) (ht : pt_ok t) (hf : pt_fin t) (hT : tr_at (w * 8) w t a_treeSize a_treeKind a_treeValue a_treeA a_treeB) (hcv : ∀ q, q < pt_n t → a_constantValued (w * 8 + q) = pr_b (pt_cv t C q))
    (h : ∀ mx', (∀ q, q < pt_n t → mx' (w * 8 + q) = pr_b (pt_mx t C q)) → (∀ q, q < w * 8 ∨ w * 8 + pt_n t ≤ q → mx' q = a_maximal q) → post (f_maxNodes, f_maxRules, f_ruleCount, f_counterexample, f_optimized, f_nodeCount, f_outputCount, f_applications, a_preRelation, a_preVariable, a_preConstant, a_roomNeeded, a_useCount, a_treeSize, a_treeKind, a_treeValue, a_treeA, a_treeB, a_treeResult, a_constantValued, mx', a_counterpart, a_boundNode, a_pending, a_pendingCount, a_nodeKind, a_nodeValue, a_nodeA, a_nodeB, a_nodeResult, a_nodeUses, a_outputNode, a_seen, a_order, a_walkStack)) :
    ∀ i mx, i ≤ pt_n t → mx_on w t C (pm_as t i) mx → (∀ q, q < w * 8 ∨ w * 8 + pt_n t ≤ q → mx q = a_maximal q) → wX_markMaximal_33 post (nI w) f_maxNodes f_maxRules f_ruleCount f_counterexample f_optimized f_nodeCount f_outputCount f_applications (i + 1) (nI (w * 8 + i) + (-1)) a_preRelation a_preVariable a_preConstant a_roomNeeded a_useCount a_treeSize a_treeKind a_treeValue a_treeA a_treeB a_treeResult a_constantValued mx a_counterpart a_boundNode a_pending a_pendingCount a_nodeKind a_nodeValue a_nodeA a_nodeB a_nodeResult a_nodeUses a_outputNode a_seen a_order a_walkStack := by
  intro i
  have h8 := ht.1
  induction i with
  | zero =>
    intro mx hi hm hq2
    unfold wX_markMaximal_33
    refine x_firstOf (br_t (nx_lt (a := w * 8) (by omega)) ?_)
    refine h mx (fun q hq => hm q hq ?_) hq2
    by_cases e : q + 1 = pt_n t
    · exact Or.inl e
    · obtain ⟨x, hx⟩ := hf.2.2 q (by omega)
      have := (ht.2 q hq).2.2.2.2.2.2.2.2.2.2 x hx
      exact Or.inr ⟨x, by omega, this.2.1, hx⟩
  | succ i ih =>
    intro mx hi hm hq2
    have hi' : i < pt_n t := by omega
    obtain ⟨e1, e2, e3, e4⟩ := hT.2 i hi'
    have hn := ht.2 i hi'
    have h9 := hn.2.2.2.2.2.2.2.2.1
    have hcl : (nI (w * 8 + i)).toNatClampNeg = w * 8 + i := nI_clamp (by omega)
    have hin : vp_in (nI (w * 8 + i)) 272 := pk_in (w * 8 + i) 272 (by omega)
    have h95 : ∀ mx, mx_on w t C (fun q => pm_as t (i + 1) q ∨ pt_a t i = some q) mx → (∀ q, q < w * 8 ∨ w * 8 + pt_n t ≤ q → mx q = a_maximal q) → wX_markMaximal_95 post (wX_markMaximal_33 post (nI w) f_maxNodes f_maxRules f_ruleCount f_counterexample f_optimized f_nodeCount f_outputCount f_applications (i + 1)) (nI w) (nI (w * 8 + i)) f_maxNodes f_maxRules f_ruleCount f_counterexample f_optimized f_nodeCount f_outputCount f_applications a_preRelation a_preVariable a_preConstant a_roomNeeded a_useCount a_treeSize a_treeKind a_treeValue a_treeA a_treeB a_treeResult a_constantValued mx a_counterpart a_boundNode a_pending a_pendingCount a_nodeKind a_nodeValue a_nodeA a_nodeB a_nodeResult a_nodeUses a_outputNode a_seen a_order a_walkStack := by
      intro mx hm hq2
      refine ⟨hin, ?_⟩
      rw [hcl, e4]
      cases hb : pt_b t i with
      | none =>
        refine br_t rfl (nm_e (ih mx (by omega) (fun q hq hs => hm q hq ?_) hq2))
        rcases pm_as_s hs with x | x
        · exact Or.inl x
        · rcases ((ht.2 q hq).2.2.2.2.2.2.2.2.2.2 i x).2.2 with y | y
          · exact Or.inr y
          · rw [hb] at y
            cases y
      | some cb =>
        have hcb := h9 cb (Or.inr hb)
        have hcin : vp_in (pr_oX (w * 8) (some cb)) 272 := pk_in (w * 8 + cb) 272 (by omega)
        have hccl : (pr_oX (w * 8) (some cb)).toNatClampNeg = w * 8 + cb := nI_clamp (by omega)
        have fin : ∀ x : Int32, x = pr_b (pt_mx t C cb) → wX_markMaximal_33 post (nI w) f_maxNodes f_maxRules f_ruleCount f_counterexample f_optimized f_nodeCount f_outputCount f_applications (i + 1) (nI (w * 8 + i) + (-1)) a_preRelation a_preVariable a_preConstant a_roomNeeded a_useCount a_treeSize a_treeKind a_treeValue a_treeA a_treeB a_treeResult a_constantValued (upd mx (w * 8 + cb) x) a_counterpart a_boundNode a_pending a_pendingCount a_nodeKind a_nodeValue a_nodeA a_nodeB a_nodeResult a_nodeUses a_outputNode a_seen a_order a_walkStack := by
          intro x hx
          refine ih _ (by omega) (mx_up hm hx fun q hq hs => ?_) (fun q hq => ?_)
          · rcases pm_as_s hs with y | y
            · exact Or.inr (Or.inl y)
            · rcases ((ht.2 q hq).2.2.2.2.2.2.2.2.2.2 i y).2.2 with z | z
              · exact Or.inr (Or.inr z)
              · rw [hb] at z
                cases z
                exact Or.inl rfl
          · rw [pk_un (by omega)]
            exact hq2 q hq
        refine br_f (pr_ne1 (by omega)) ⟨hin, hin, ?_⟩
        rw [hccl, hcv i hi', hcv cb (by omega)]
        have hv := mx_v (C := C) hcb.2
        refine br_c (fun h0 => ⟨hin, hcin, ?_⟩) (fun h0 => ⟨hcin, ?_⟩)
        · rw [(pr_b0 _).mp h0, Bool.not_false, Bool.and_true] at hv
          refine br_c (fun h1 => ⟨hcin, ?_⟩) (fun h1 => ⟨hcin, ?_⟩)
          · rw [pr_vb0]
            exact nm_e (nm_e (fin _ (by rw [hv]; exact h1.symm)))
          · rw [pr_vb1]
            refine nm_e (nm_e (fin _ ?_))
            rw [hv]
            cases hx : pt_cv t C cb with
            | true => rfl
            | false => rw [hx] at h1; exact absurd rfl h1
        · rw [pr_vb0]
          refine nm_e (nm_e (fin _ ?_))
          cases hx : pt_cv t C i with
          | true => rw [hv, hx, Bool.not_true, Bool.and_false]; rfl
          | false => rw [hx] at h0; exact absurd rfl h0
    rw [nx_m1]
    unfold wX_markMaximal_33
    refine x_firstOf ?_
    refine pk_lt (w * 8 + i) (w * 8) (fun h => absurd h (by omega)) (fun _ => ⟨hin, ?_⟩)
    rw [hcl, e3]
    cases ha : pt_a t i with
    | none =>
      refine br_t rfl (h95 mx (fun q hq hs => hm q hq ?_) hq2)
      rcases hs with x | x
      · exact x
      · rw [ha] at x
        cases x
    | some ca =>
      have hca := h9 ca (Or.inl ha)
      have hcin : vp_in (pr_oX (w * 8) (some ca)) 272 := pk_in (w * 8 + ca) 272 (by omega)
      have hccl : (pr_oX (w * 8) (some ca)).toNatClampNeg = w * 8 + ca := nI_clamp (by omega)
      have fin : ∀ x : Int32, vp_nar .boolean x = pr_b (pt_mx t C ca) → wX_markMaximal_94 post (wX_markMaximal_33 post (nI w) f_maxNodes f_maxRules f_ruleCount f_counterexample f_optimized f_nodeCount f_outputCount f_applications (i + 1)) (nI w) (nI (w * 8 + i)) x (pr_oX (w * 8) (some ca)) f_maxNodes f_maxRules f_ruleCount f_counterexample f_optimized f_nodeCount f_outputCount f_applications a_preRelation a_preVariable a_preConstant a_roomNeeded a_useCount a_treeSize a_treeKind a_treeValue a_treeA a_treeB a_treeResult a_constantValued mx a_counterpart a_boundNode a_pending a_pendingCount a_nodeKind a_nodeValue a_nodeA a_nodeB a_nodeResult a_nodeUses a_outputNode a_seen a_order a_walkStack := by
        intro x hx
        refine ⟨hcin, ?_⟩
        rw [hccl]
        refine nm_e (h95 _ (mx_up hm hx fun q _ hs => ?_) (fun q hq => ?_))
        · rcases hs with y | y
          · exact Or.inr y
          · rw [ha] at y
            cases y
            exact Or.inl rfl
        · rw [pk_un (by omega)]
          exact hq2 q hq
      refine br_f (pr_ne1 (by omega)) ⟨hin, hin, ?_⟩
      rw [hccl, hcv i hi', hcv ca (by omega)]
      have hv := mx_v (C := C) hca.2
      refine br_c (fun h0 => ⟨hin, hcin, ?_⟩) (fun h0 => ?_)
      · rw [(pr_b0 _).mp h0, Bool.not_false, Bool.and_true] at hv
        refine br_c (fun h1 => fin 0 ?_) (fun h1 => fin 1 ?_)
        · rw [pr_vb0, hv]
          exact h1.symm
        · rw [pr_vb1, hv]
          cases hx : pt_cv t C ca with
          | true => rfl
          | false => rw [hx] at h1; exact absurd rfl h1
      · refine fin 0 ?_
        rw [pr_vb0]
        cases hx : pt_cv t C i with
        | true => rw [hv, hx, Bool.not_true, Bool.and_false]; rfl
        | false => rw [hx] at h0; exact absurd rfl h0
theorem x_markMax (hr : r < 17) (ht : pt_ok t) (hf : pt_fin t) (hT : tr_at ((r * 2 + 1) * 8) (r * 2 + 1) t a_treeSize a_treeKind a_treeValue a_treeA a_treeB) (hcv : ∀ q, q < pt_n t → a_constantValued ((r * 2 + 1) * 8 + q) = pr_b (pt_cv t C q))
    (h : ∀ mx', (∀ q, q < pt_n t → mx' ((r * 2 + 1) * 8 + q) = pr_b (pt_mx t C q)) → (∀ q, q < (r * 2 + 1) * 8 ∨ (r * 2 + 1) * 8 + pt_n t ≤ q → mx' q = a_maximal q) → post (f_maxNodes, f_maxRules, f_ruleCount, f_counterexample, f_optimized, f_nodeCount, f_outputCount, f_applications, a_preRelation, a_preVariable, a_preConstant, a_roomNeeded, a_useCount, a_treeSize, a_treeKind, a_treeValue, a_treeA, a_treeB, a_treeResult, a_constantValued, mx', a_counterpart, a_boundNode, a_pending, a_pendingCount, a_nodeKind, a_nodeValue, a_nodeA, a_nodeB, a_nodeResult, a_nodeUses, a_outputNode, a_seen, a_order, a_walkStack)) :
    wpX_markMaximal post (f_maxNodes, f_maxRules, f_ruleCount, f_counterexample, f_optimized, f_nodeCount, f_outputCount, f_applications, a_preRelation, a_preVariable, a_preConstant, a_roomNeeded, a_useCount, a_treeSize, a_treeKind, a_treeValue, a_treeA, a_treeB, a_treeResult, a_constantValued, a_maximal, a_counterpart, a_boundNode, a_pending, a_pendingCount, a_nodeKind, a_nodeValue, a_nodeA, a_nodeB, a_nodeResult, a_nodeUses, a_outputNode, a_seen, a_order, a_walkStack) (nI r) := by
  have h8 := ht.1
  have h0 := hf.1
  have e1 : nI ((r * 2 + 1) * 8 + pt_n t) - 1 = nI ((r * 2 + 1) * 8 + (pt_n t - 1)) := by
    rw [pr_s1 (by omega)]
    exact congrArg nI (by omega)
  have e2 : nI ((r * 2 + 1) * 8 + (pt_n t - 1)) = nI ((r * 2 + 1) * 8 + pt_n t) + (-1) := by
    rw [pr_m1 (by omega)]
    exact congrArg nI (by omega)
  unfold wpX_markMaximal
  refine x_treeOf r 1 ?_
  refine x_endOf (by omega) hT.1 ?_
  rw [e1]
  refine ⟨pk_in ((r * 2 + 1) * 8 + (pt_n t - 1)) 272 (by omega), pk_in ((r * 2 + 1) * 8 + (pt_n t - 1)) 272 (by omega), ?_⟩
  rw [nI_clamp (by omega), hcv _ (by omega), pr_nb]
  refine nm_e (nm_r e2 ⟨pt_n t + 1, ?_⟩)
  refine x_markMax33 (by omega) (by omega) ht hf hT hcv h (pt_n t) _ (Nat.le_refl _) ?_ (fun q hq => pk_un (by omega))
  intro q hq hs
  have e : q + 1 = pt_n t := by
    rcases hs with x | ⟨p, x1, x2, _⟩
    · exact x
    · omega
  rw [show pt_n t - 1 = q by omega, pk_us]
  unfold pt_mx
  have hp := hf.2.1
  rw [show pt_n t - 1 = q by omega] at hp
  rw [hp]
  show _ = pr_b (pt_cv t C q && true)
  rw [Bool.and_true]
end XE
section XF
variable {f_maxNodes f_maxRules f_ruleCount f_counterexample f_optimized f_nodeCount f_outputCount f_applications : Int32} {a_preRelation a_preVariable a_preConstant a_roomNeeded a_useCount a_treeSize a_treeKind a_treeValue a_treeA a_treeB a_treeResult a_constantValued a_maximal a_counterpart a_boundNode a_pending a_pendingCount a_nodeKind a_nodeValue a_nodeA a_nodeB a_nodeResult a_nodeUses a_outputNode a_seen a_order a_walkStack : Nat → Int32}
variable {post : Int32 → Prop} {r w : Nat} {t : pr_PT} {C : Nat → Bool}
theorem x_patW21 (hw : w < 34) (ht : pt_ok t) (hT : tr_at (w * 8) w t a_treeSize a_treeKind a_treeValue a_treeA a_treeB) (h : post (nI (pt_pw t))) :
    ∀ d i, i + d = pt_n t → wX_patternWeight_21 post (nI (w * 8 + pt_n t)) f_maxNodes f_maxRules f_ruleCount f_counterexample f_optimized f_nodeCount f_outputCount f_applications a_preRelation a_preVariable a_preConstant a_roomNeeded a_useCount a_treeSize a_treeKind a_treeValue a_treeA a_treeB a_treeResult a_constantValued a_maximal a_counterpart a_boundNode a_pending a_pendingCount a_nodeKind a_nodeValue a_nodeA a_nodeB a_nodeResult a_nodeUses a_outputNode a_seen a_order a_walkStack (d + 1) (nI (pr_rs (fun i => pr_w (pt_k t i)) 0 i)) (nI (w * 8 + i)) := by
  intro d
  have h8 := ht.1
  induction d with
  | zero =>
    intro i hi
    refine pk_le (w * 8 + pt_n t) (w * 8 + i) (fun _ => ?_) (fun h => absurd h (by omega))
    rw [show i = pt_n t by omega]
    exact h
  | succ d ih =>
    intro i hi
    have hi' : i < pt_n t := by omega
    obtain ⟨e1, _⟩ := hT.2 i hi'
    have hs := pt_sm ht i hi'
    refine pk_le (w * 8 + pt_n t) (w * 8 + i) (fun h => absurd h (by omega)) (fun _ => ⟨pk_in (w * 8 + i) 272 (by omega), ?_⟩)
    rw [nI_clamp (by omega), e1]
    refine x_weight (by omega) (nm_r (nI_add _ _) (nm_r (nI_1 _) ?_))
    have := ih (i + 1) (by omega)
    rw [show pr_rs (fun i => pr_w (pt_k t i)) 0 (i + 1) = pr_rs (fun i => pr_w (pt_k t i)) 0 i + pr_w (pt_k t (0 + i)) from rfl, Nat.zero_add] at this
    exact this
theorem x_patW (hr : r < 17) (ht : pt_ok t) (hT : tr_at ((r * 2 + 0) * 8) (r * 2 + 0) t a_treeSize a_treeKind a_treeValue a_treeA a_treeB) (h : post (nI (pt_pw t))) : wpX_patternWeight post (f_maxNodes, f_maxRules, f_ruleCount, f_counterexample, f_optimized, f_nodeCount, f_outputCount, f_applications, a_preRelation, a_preVariable, a_preConstant, a_roomNeeded, a_useCount, a_treeSize, a_treeKind, a_treeValue, a_treeA, a_treeB, a_treeResult, a_constantValued, a_maximal, a_counterpart, a_boundNode, a_pending, a_pendingCount, a_nodeKind, a_nodeValue, a_nodeA, a_nodeB, a_nodeResult, a_nodeUses, a_outputNode, a_seen, a_order, a_walkStack) (nI r) := by
  unfold wpX_patternWeight
  refine x_treeOf r 0 ?_
  refine x_endOf (by omega) hT.1 ?_
  refine x_firstOf ⟨pt_n t + 1, ?_⟩
  exact x_patW21 (by omega) ht hT h (pt_n t) 0 (by omega)
theorem x_repW21 (hw : w < 34) (ht : pt_ok t) (hT : tr_at (w * 8) w t a_treeSize a_treeKind a_treeValue a_treeA a_treeB) (hcv : ∀ q, q < pt_n t → a_constantValued (w * 8 + q) = pr_b (pt_cv t C q)) (h : post (nI (pt_rw t C))) :
    ∀ d i, i + d = pt_n t → wX_replacementWeight_21 post (nI (w * 8 + pt_n t)) f_maxNodes f_maxRules f_ruleCount f_counterexample f_optimized f_nodeCount f_outputCount f_applications a_preRelation a_preVariable a_preConstant a_roomNeeded a_useCount a_treeSize a_treeKind a_treeValue a_treeA a_treeB a_treeResult a_constantValued a_maximal a_counterpart a_boundNode a_pending a_pendingCount a_nodeKind a_nodeValue a_nodeA a_nodeB a_nodeResult a_nodeUses a_outputNode a_seen a_order a_walkStack (d + 1) (nI (pr_rs (fun i => if pt_cv t C i then 0 else pr_w (pt_k t i)) 0 i)) (nI (w * 8 + i)) := by
  intro d
  have h8 := ht.1
  induction d with
  | zero =>
    intro i hi
    refine pk_le (w * 8 + pt_n t) (w * 8 + i) (fun _ => ?_) (fun h => absurd h (by omega))
    rw [show i = pt_n t by omega]
    exact h
  | succ d ih =>
    intro i hi
    have hi' : i < pt_n t := by omega
    obtain ⟨e1, _⟩ := hT.2 i hi'
    have hs := pt_sm ht i hi'
    have hh := ih (i + 1) (by omega)
    rw [show pr_rs (fun i => if pt_cv t C i then 0 else pr_w (pt_k t i)) 0 (i + 1) = pr_rs (fun i => if pt_cv t C i then 0 else pr_w (pt_k t i)) 0 i + (if pt_cv t C (0 + i) then 0 else pr_w (pt_k t (0 + i))) from rfl, Nat.zero_add] at hh
    refine pk_le (w * 8 + pt_n t) (w * 8 + i) (fun h => absurd h (by omega)) (fun _ => ⟨pk_in (w * 8 + i) 272 (by omega), ?_⟩)
    rw [nI_clamp (by omega), hcv i hi']
    refine br_c (fun h0 => ⟨pk_in (w * 8 + i) 272 (by omega), ?_⟩) (fun h0 => nm_r (nI_1 _) ?_)
    · rw [e1]
      rw [(pr_b0 _).mp h0, if_neg (by decide)] at hh
      exact x_weight (by omega) (nm_r (nI_add _ _) (nm_r (nI_1 _) hh))
    · have hx : pt_cv t C i = true := by
        cases hx : pt_cv t C i with
        | true => rfl
        | false => rw [hx] at h0; exact absurd rfl h0
      rw [hx, if_pos rfl, Nat.add_zero] at hh
      exact hh
theorem x_repW (hr : r < 17) (ht : pt_ok t) (hT : tr_at ((r * 2 + 1) * 8) (r * 2 + 1) t a_treeSize a_treeKind a_treeValue a_treeA a_treeB) (hcv : ∀ q, q < pt_n t → a_constantValued ((r * 2 + 1) * 8 + q) = pr_b (pt_cv t C q)) (h : post (nI (pt_rw t C))) : wpX_replacementWeight post (f_maxNodes, f_maxRules, f_ruleCount, f_counterexample, f_optimized, f_nodeCount, f_outputCount, f_applications, a_preRelation, a_preVariable, a_preConstant, a_roomNeeded, a_useCount, a_treeSize, a_treeKind, a_treeValue, a_treeA, a_treeB, a_treeResult, a_constantValued, a_maximal, a_counterpart, a_boundNode, a_pending, a_pendingCount, a_nodeKind, a_nodeValue, a_nodeA, a_nodeB, a_nodeResult, a_nodeUses, a_outputNode, a_seen, a_order, a_walkStack) (nI r) := by
  unfold wpX_replacementWeight
  refine x_treeOf r 1 ?_
  refine x_endOf (by omega) hT.1 ?_
  refine x_firstOf ⟨pt_n t + 1, ?_⟩
  exact x_repW21 (by omega) ht hT hcv h (pt_n t) 0 (by omega)
theorem x_room21 (hw : w < 34) (ht : pt_ok t) (hT : tr_at (w * 8) w t a_treeSize a_treeKind a_treeValue a_treeA a_treeB) (hcv : ∀ q, q < pt_n t → a_constantValued (w * 8 + q) = pr_b (pt_cv t C q)) (hmx : ∀ q, q < pt_n t → a_maximal (w * 8 + q) = pr_b (pt_mx t C q)) (h : post (nI (pt_rm t C))) :
    ∀ d i, i + d = pt_n t → wX_countRoomNeeded_21 post (nI (w * 8 + pt_n t)) f_maxNodes f_maxRules f_ruleCount f_counterexample f_optimized f_nodeCount f_outputCount f_applications a_preRelation a_preVariable a_preConstant a_roomNeeded a_useCount a_treeSize a_treeKind a_treeValue a_treeA a_treeB a_treeResult a_constantValued a_maximal a_counterpart a_boundNode a_pending a_pendingCount a_nodeKind a_nodeValue a_nodeA a_nodeB a_nodeResult a_nodeUses a_outputNode a_seen a_order a_walkStack (d + 1) (nI (pr_rs (pt_rm1 t C) 0 i)) (nI (w * 8 + i)) := by
  intro d
  have h8 := ht.1
  induction d with
  | zero =>
    intro i hi
    refine pk_le (w * 8 + pt_n t) (w * 8 + i) (fun _ => ?_) (fun h => absurd h (by omega))
    rw [show i = pt_n t by omega]
    exact h
  | succ d ih =>
    intro i hi
    have hi' : i < pt_n t := by omega
    obtain ⟨e1, _⟩ := hT.2 i hi'
    have hs := pt_sm ht i hi'
    have hh := ih (i + 1) (by omega)
    rw [show pr_rs (pt_rm1 t C) 0 (i + 1) = pr_rs (pt_rm1 t C) 0 i + pt_rm1 t C (0 + i) from rfl, Nat.zero_add] at hh
    unfold pt_rm1 at hh
    have hin : vp_in (nI (w * 8 + i)) 272 := pk_in (w * 8 + i) 272 (by omega)
    refine pk_le (w * 8 + pt_n t) (w * 8 + i) (fun h => absurd h (by omega)) (fun _ => ⟨hin, ?_⟩)
    rw [nI_clamp (by omega), hcv i hi']
    refine br_c (fun h0 => ?_) (fun h0 => ⟨hin, ?_⟩)
    · rw [if_pos (Or.inl ((pr_b0 _).mp h0))] at hh
      exact nm_r (nI_1 _) (nm_r (nI_1 _) hh)
    · rw [hmx i hi']
      have hc : ¬ pt_cv t C i = false := fun hx => by rw [hx] at h0; exact h0 rfl
      refine br_c (fun h1 => ?_) (fun h1 => ⟨hin, ?_⟩)
      · rw [if_neg (fun hx => by
          rcases hx with hx | hx
          · exact hc hx
          · have := (pr_b0 _).mp h1
            rw [hx.1] at this
            cases this), Nat.add_zero] at hh
        exact nm_r (nI_1 _) hh
      · rw [e1]
        have hm : pt_mx t C i = true := by
          cases hx : pt_mx t C i with
          | true => rfl
          | false => rw [hx] at h1; exact absurd rfl h1
        refine pk_eq (pt_k t i) 13 (fun h2 => ?_) (fun h2 => ?_)
        · rw [if_neg (fun hx => by
            rcases hx with hx | hx
            · exact hc hx
            · exact hx.2 h2), Nat.add_zero] at hh
          exact nm_r (nI_1 _) hh
        · rw [if_pos (Or.inr ⟨hm, h2⟩)] at hh
          exact nm_r (nI_1 _) (nm_r (nI_1 _) hh)
theorem x_room (hr : r < 17) (ht : pt_ok t) (hT : tr_at ((r * 2 + 1) * 8) (r * 2 + 1) t a_treeSize a_treeKind a_treeValue a_treeA a_treeB) (hcv : ∀ q, q < pt_n t → a_constantValued ((r * 2 + 1) * 8 + q) = pr_b (pt_cv t C q)) (hmx : ∀ q, q < pt_n t → a_maximal ((r * 2 + 1) * 8 + q) = pr_b (pt_mx t C q)) (h : post (nI (pt_rm t C))) : wpX_countRoomNeeded post (f_maxNodes, f_maxRules, f_ruleCount, f_counterexample, f_optimized, f_nodeCount, f_outputCount, f_applications, a_preRelation, a_preVariable, a_preConstant, a_roomNeeded, a_useCount, a_treeSize, a_treeKind, a_treeValue, a_treeA, a_treeB, a_treeResult, a_constantValued, a_maximal, a_counterpart, a_boundNode, a_pending, a_pendingCount, a_nodeKind, a_nodeValue, a_nodeA, a_nodeB, a_nodeResult, a_nodeUses, a_outputNode, a_seen, a_order, a_walkStack) (nI r) := by
  unfold wpX_countRoomNeeded
  refine x_treeOf r 1 ?_
  refine x_endOf (by omega) hT.1 ?_
  refine x_firstOf ⟨pt_n t + 1, ?_⟩
  exact x_room21 (by omega) ht hT hcv hmx h (pt_n t) 0 (by omega)
end XF
end
section
/-! X: the walk over a graph -/
def gr_at (lo : Nat) (K : Nat → Nat) (V : Nat → Int32) (A B : Nat → Option Nat) (ka va aa ba : Nat → Int32) : Prop :=
  ∀ n, pr_T lo K n → ka n = nI (K n) ∧ va n = V n ∧ aa n = pr_oI (A n) ∧ ba n = pr_oI (B n)
def pr_ls (od : Nat → Int32) (L : List Nat) : Prop := ∀ i, i < L.length → od i = nI (L.getD i 0)
theorem pr_gd_l {L M : List Nat} {i : Nat} (h : i < L.length) : (L ++ M).getD i 0 = L.getD i 0 := by
  rw [List.getD_eq_getElem?_getD, List.getD_eq_getElem?_getD, List.getElem?_append_left h]
theorem pr_gd_s {L : List Nat} {n : Nat} : (L ++ [n]).getD L.length 0 = n := by
  simp [List.getD_eq_getElem?_getD]
theorem pr_gd_m {L : List Nat} {i : Nat} (h : i < L.length) : L.getD i 0 ∈ L := by
  rw [List.getD_eq_getElem?_getD, List.getElem?_eq_getElem h]
  exact List.getElem_mem h
theorem pr_ls_s {od : Nat → Int32} {L : List Nat} {n : Nat} (h : pr_ls od L) : pr_ls (upd od L.length (nI n)) (L ++ [n]) := by
  intro i hi
  rw [List.length_append, List.length_singleton] at hi
  by_cases e : i = L.length
  · rw [e, pk_us, pr_gd_s]
  · rw [pk_un e, pr_gd_l (by omega)]
    exact h i (by omega)
section XG
variable {f_maxNodes f_maxRules f_ruleCount f_counterexample f_optimized f_nodeCount f_outputCount f_applications : Int32} {a_preRelation a_preVariable a_preConstant a_roomNeeded a_useCount a_treeSize a_treeKind a_treeValue a_treeA a_treeB a_treeResult a_constantValued a_maximal a_counterpart a_boundNode a_pending a_pendingCount a_nodeKind a_nodeValue a_nodeA a_nodeB a_nodeResult a_nodeUses a_outputNode a_seen a_order a_walkStack : Nat → Int32}
variable {lo : Nat} {K : Nat → Nat} {V : Nat → Int32} {A B : Nat → Option Nat} {rk : Nat → Nat}
theorem x_un_31B {post : Int32 → Prop} (hlo : lo ≤ 32) (hg : gr_at lo K V A B a_nodeKind a_nodeValue a_nodeA a_nodeB) {n c : Nat} (hn : pr_T lo K n) (hc : pr_T lo K c) (e : B n = some c) (h0 : a_seen c = 0) (h : post (nI c)) : wX_unseenOperand_31 post (nI n) f_maxNodes f_maxRules f_ruleCount f_counterexample f_optimized f_nodeCount f_outputCount f_applications a_preRelation a_preVariable a_preConstant a_roomNeeded a_useCount a_treeSize a_treeKind a_treeValue a_treeA a_treeB a_treeResult a_constantValued a_maximal a_counterpart a_boundNode a_pending a_pendingCount a_nodeKind a_nodeValue a_nodeA a_nodeB a_nodeResult a_nodeUses a_outputNode a_seen a_order a_walkStack := by
  have hn2 := hn.2.1
  have hc2 := hc.2.1
  have hin : vp_in (nI n) 64 := pk_in n 64 (by omega)
  refine ⟨hin, ?_⟩
  rw [nI_clamp (by omega), (hg n hn).2.2.2, e]
  refine br_f (pr_ne1 (by omega)) ⟨hin, pk_in c 64 (by omega), ?_⟩
  rw [show (pr_oI (some c)).toNatClampNeg = c from nI_clamp (by omega)]
  exact br_t h0 ⟨hin, h⟩
theorem x_un_31N {post : Int32 → Prop} (hlo : lo ≤ 32) (hg : gr_at lo K V A B a_nodeKind a_nodeValue a_nodeA a_nodeB) (hT : ∀ n c, pr_T lo K n → (A n = some c ∨ B n = some c) → pr_T lo K c ∧ rk c < rk n) {n : Nat} (hn : pr_T lo K n) (h0 : ∀ c, B n = some c → a_seen c ≠ 0) (h : post (-1)) : wX_unseenOperand_31 post (nI n) f_maxNodes f_maxRules f_ruleCount f_counterexample f_optimized f_nodeCount f_outputCount f_applications a_preRelation a_preVariable a_preConstant a_roomNeeded a_useCount a_treeSize a_treeKind a_treeValue a_treeA a_treeB a_treeResult a_constantValued a_maximal a_counterpart a_boundNode a_pending a_pendingCount a_nodeKind a_nodeValue a_nodeA a_nodeB a_nodeResult a_nodeUses a_outputNode a_seen a_order a_walkStack := by
  have hn2 := hn.2.1
  have hin : vp_in (nI n) 64 := pk_in n 64 (by omega)
  refine ⟨hin, ?_⟩
  rw [nI_clamp (by omega), (hg n hn).2.2.2]
  cases e : B n with
  | none => exact br_t rfl h
  | some c =>
    have hc2 := (hT n c hn (Or.inr e)).1.2.1
    refine br_f (pr_ne1 (by omega)) ⟨hin, pk_in c 64 (by omega), ?_⟩
    rw [show (pr_oI (some c)).toNatClampNeg = c from nI_clamp (by omega)]
    exact br_f (h0 c e) h
theorem x_un_A {post : Int32 → Prop} (hlo : lo ≤ 32) (hg : gr_at lo K V A B a_nodeKind a_nodeValue a_nodeA a_nodeB) {n c : Nat} (hn : pr_T lo K n) (hc : pr_T lo K c) (e : A n = some c) (h0 : a_seen c = 0) (h : post (nI c)) : wpX_unseenOperand post (f_maxNodes, f_maxRules, f_ruleCount, f_counterexample, f_optimized, f_nodeCount, f_outputCount, f_applications, a_preRelation, a_preVariable, a_preConstant, a_roomNeeded, a_useCount, a_treeSize, a_treeKind, a_treeValue, a_treeA, a_treeB, a_treeResult, a_constantValued, a_maximal, a_counterpart, a_boundNode, a_pending, a_pendingCount, a_nodeKind, a_nodeValue, a_nodeA, a_nodeB, a_nodeResult, a_nodeUses, a_outputNode, a_seen, a_order, a_walkStack) (nI n) := by
  have hn2 := hn.2.1
  have hc2 := hc.2.1
  have hin : vp_in (nI n) 64 := pk_in n 64 (by omega)
  unfold wpX_unseenOperand
  refine ⟨hin, ?_⟩
  rw [nI_clamp (by omega), (hg n hn).2.2.1, e]
  refine br_f (pr_ne1 (by omega)) ⟨hin, pk_in c 64 (by omega), ?_⟩
  rw [show (pr_oI (some c)).toNatClampNeg = c from nI_clamp (by omega)]
  exact br_t h0 ⟨hin, h⟩
theorem x_un_31 {post : Int32 → Prop} (hlo : lo ≤ 32) (hg : gr_at lo K V A B a_nodeKind a_nodeValue a_nodeA a_nodeB) (hT : ∀ n c, pr_T lo K n → (A n = some c ∨ B n = some c) → pr_T lo K c ∧ rk c < rk n) {n : Nat} (hn : pr_T lo K n) (h0 : ∀ c, A n = some c → a_seen c ≠ 0) (h : wX_unseenOperand_31 post (nI n) f_maxNodes f_maxRules f_ruleCount f_counterexample f_optimized f_nodeCount f_outputCount f_applications a_preRelation a_preVariable a_preConstant a_roomNeeded a_useCount a_treeSize a_treeKind a_treeValue a_treeA a_treeB a_treeResult a_constantValued a_maximal a_counterpart a_boundNode a_pending a_pendingCount a_nodeKind a_nodeValue a_nodeA a_nodeB a_nodeResult a_nodeUses a_outputNode a_seen a_order a_walkStack) : wpX_unseenOperand post (f_maxNodes, f_maxRules, f_ruleCount, f_counterexample, f_optimized, f_nodeCount, f_outputCount, f_applications, a_preRelation, a_preVariable, a_preConstant, a_roomNeeded, a_useCount, a_treeSize, a_treeKind, a_treeValue, a_treeA, a_treeB, a_treeResult, a_constantValued, a_maximal, a_counterpart, a_boundNode, a_pending, a_pendingCount, a_nodeKind, a_nodeValue, a_nodeA, a_nodeB, a_nodeResult, a_nodeUses, a_outputNode, a_seen, a_order, a_walkStack) (nI n) := by
  have hn2 := hn.2.1
  have hin : vp_in (nI n) 64 := pk_in n 64 (by omega)
  unfold wpX_unseenOperand
  refine ⟨hin, ?_⟩
  rw [nI_clamp (by omega), (hg n hn).2.2.1]
  cases e : A n with
  | none => exact br_t rfl h
  | some c =>
    have hc2 := (hT n c hn (Or.inl e)).1.2.1
    refine br_f (pr_ne1 (by omega)) ⟨hin, pk_in c 64 (by omega), ?_⟩
    rw [show (pr_oI (some c)).toNatClampNeg = c from nI_clamp (by omega)]
    exact br_f (h0 c e) h
end XG
section XH
variable {f_maxNodes f_maxRules f_ruleCount f_counterexample f_optimized f_nodeCount f_outputCount f_applications : Int32} {a_preRelation a_preVariable a_preConstant a_roomNeeded a_useCount a_treeSize a_treeKind a_treeValue a_treeA a_treeB a_treeResult a_constantValued a_maximal a_counterpart a_boundNode a_pending a_pendingCount a_nodeKind a_nodeValue a_nodeA a_nodeB a_nodeResult a_nodeUses a_outputNode a_seen a_order a_walkStack : Nat → Int32}
variable {lo : Nat} {K : Nat → Nat} {V : Nat → Int32} {A B : Nat → Option Nat} {rk : Nat → Nat} {post : Int32 → SX → Prop}
theorem x_lb_pop {f c d step n : Nat} {se od st : Nat → Int32} (hc : c < 32) (hd : d < 32) (hs : step < 64) (htop : st d = nI n)
    (hu : ∀ P : Int32 → Prop, P (-1) → wpX_unseenOperand P (f_maxNodes, f_maxRules, f_ruleCount, f_counterexample, f_optimized, f_nodeCount, f_outputCount, f_applications, a_preRelation, a_preVariable, a_preConstant, a_roomNeeded, a_useCount, a_treeSize, a_treeKind, a_treeValue, a_treeA, a_treeB, a_treeResult, a_constantValued, a_maximal, a_counterpart, a_boundNode, a_pending, a_pendingCount, a_nodeKind, a_nodeValue, a_nodeA, a_nodeB, a_nodeResult, a_nodeUses, a_outputNode, se, od, st) (nI n))
    (h : wX_listBelow_22 post f_maxNodes f_maxRules f_ruleCount f_counterexample f_optimized f_nodeCount f_outputCount f_applications f (nI (c + 1)) (nI d) (nI (step + 1)) a_preRelation a_preVariable a_preConstant a_roomNeeded a_useCount a_treeSize a_treeKind a_treeValue a_treeA a_treeB a_treeResult a_constantValued a_maximal a_counterpart a_boundNode a_pending a_pendingCount a_nodeKind a_nodeValue a_nodeA a_nodeB a_nodeResult a_nodeUses a_outputNode se (upd od c (nI n)) st) :
    wX_listBelow_22 post f_maxNodes f_maxRules f_ruleCount f_counterexample f_optimized f_nodeCount f_outputCount f_applications (f + 1) (nI c) (nI (d + 1)) (nI step) a_preRelation a_preVariable a_preConstant a_roomNeeded a_useCount a_treeSize a_treeKind a_treeValue a_treeA a_treeB a_treeResult a_constantValued a_maximal a_counterpart a_boundNode a_pending a_pendingCount a_nodeKind a_nodeValue a_nodeA a_nodeB a_nodeResult a_nodeUses a_outputNode se od st := by
  refine pk_le 64 step (fun h => absurd h (by omega)) (fun _ => pk_le (d + 1) 0 (fun h => absurd h (by omega)) (fun _ => ?_))
  rw [nI_pred]
  refine ⟨pk_in d 32 hd, ?_⟩
  rw [nI_clamp (by omega)]
  refine nm_r htop (hu _ (br_t rfl ⟨pk_in c 32 hc, ?_⟩))
  rw [nI_clamp (by omega)]
  exact nm_e (nm_r (nI_1 _) (nm_r (pk_m1 _) (nm_r (nI_1 _) h)))
theorem x_lb_push {f c d step n x : Nat} {se od st : Nat → Int32} (hx : x < 64) (hd : d + 1 < 32) (hs : step < 64) (htop : st d = nI n)
    (hu : ∀ P : Int32 → Prop, P (nI x) → wpX_unseenOperand P (f_maxNodes, f_maxRules, f_ruleCount, f_counterexample, f_optimized, f_nodeCount, f_outputCount, f_applications, a_preRelation, a_preVariable, a_preConstant, a_roomNeeded, a_useCount, a_treeSize, a_treeKind, a_treeValue, a_treeA, a_treeB, a_treeResult, a_constantValued, a_maximal, a_counterpart, a_boundNode, a_pending, a_pendingCount, a_nodeKind, a_nodeValue, a_nodeA, a_nodeB, a_nodeResult, a_nodeUses, a_outputNode, se, od, st) (nI n))
    (h : wX_listBelow_22 post f_maxNodes f_maxRules f_ruleCount f_counterexample f_optimized f_nodeCount f_outputCount f_applications f (nI c) (nI (d + 1 + 1)) (nI (step + 1)) a_preRelation a_preVariable a_preConstant a_roomNeeded a_useCount a_treeSize a_treeKind a_treeValue a_treeA a_treeB a_treeResult a_constantValued a_maximal a_counterpart a_boundNode a_pending a_pendingCount a_nodeKind a_nodeValue a_nodeA a_nodeB a_nodeResult a_nodeUses a_outputNode (upd se x 1) od (upd st (d + 1) (nI x))) :
    wX_listBelow_22 post f_maxNodes f_maxRules f_ruleCount f_counterexample f_optimized f_nodeCount f_outputCount f_applications (f + 1) (nI c) (nI (d + 1)) (nI step) a_preRelation a_preVariable a_preConstant a_roomNeeded a_useCount a_treeSize a_treeKind a_treeValue a_treeA a_treeB a_treeResult a_constantValued a_maximal a_counterpart a_boundNode a_pending a_pendingCount a_nodeKind a_nodeValue a_nodeA a_nodeB a_nodeResult a_nodeUses a_outputNode se od st := by
  refine pk_le 64 step (fun h => absurd h (by omega)) (fun _ => pk_le (d + 1) 0 (fun h => absurd h (by omega)) (fun _ => ?_))
  rw [nI_pred]
  refine ⟨pk_in d 32 (by omega), ?_⟩
  rw [nI_clamp (by omega)]
  refine nm_r htop (hu _ (br_f (pr_ne1 (by omega)) ⟨pk_in (d + 1) 32 hd, ?_⟩))
  rw [nI_clamp (n := d + 1) (by omega), nI_clamp (n := x) (by omega), pr_vb1]
  exact nm_e ⟨pk_in x 64 hx, nm_e (nm_r (nI_1 _) (nm_r (nI_1 _) h))⟩
def x_sn (T : Nat → Prop) (rk : Nat → Nat) (L : List Nat) (n : Nat) (se : Nat → Int32) : Prop := ∀ c, T c → rk c < rk n → (se c = 0 ↔ c ∉ L)
def x_sk (L L' : List Nat) (se se' : Nat → Int32) : Prop := ∀ c, (c ∈ L' → c ∉ L → se' c ≠ 0) ∧ ((c ∈ L ∨ c ∉ L') → se' c = se c)
theorem x_visit (hlo : lo ≤ 32) (hG : pr_gw lo K V A B rk) (hg : gr_at lo K V A B a_nodeKind a_nodeValue a_nodeA a_nodeB) :
    ∀ q n, rk n < q → pr_T lo K n → ∀ L : List Nat, L.Nodup → pr_cl A B (fun x => x ∈ L) → n ∉ L → (∀ x, x ∈ L → lo ≤ x ∧ x < lo + 32) →
      ∀ f d step se od st, 65 ≤ f + step → d + rk n < 32 → step + 2 * (pr_po A B q n L).length ≤ 64 + 2 * L.length → st d = nI n → pr_ls od L → x_sn (pr_T lo K) rk L n se → se n ≠ 0 →
      (∀ f' se' od' st', 65 + 2 * L.length + 1 ≤ f' + step + 2 * (pr_po A B q n L).length → (∀ i, i < d → st' i = st i) → pr_ls od' (pr_po A B q n L) → x_sk L (pr_po A B q n L) se se' →
        wX_listBelow_22 post f_maxNodes f_maxRules f_ruleCount f_counterexample f_optimized f_nodeCount f_outputCount f_applications f' (nI (pr_po A B q n L).length) (nI d) (nI (step + 2 * (pr_po A B q n L).length - 2 * L.length - 1)) a_preRelation a_preVariable a_preConstant a_roomNeeded a_useCount a_treeSize a_treeKind a_treeValue a_treeA a_treeB a_treeResult a_constantValued a_maximal a_counterpart a_boundNode a_pending a_pendingCount a_nodeKind a_nodeValue a_nodeA a_nodeB a_nodeResult a_nodeUses a_outputNode se' od' st') →
      wX_listBelow_22 post f_maxNodes f_maxRules f_ruleCount f_counterexample f_optimized f_nodeCount f_outputCount f_applications f (nI L.length) (nI (d + 1)) (nI step) a_preRelation a_preVariable a_preConstant a_roomNeeded a_useCount a_treeSize a_treeKind a_treeValue a_treeA a_treeB a_treeResult a_constantValued a_maximal a_counterpart a_boundNode a_pending a_pendingCount a_nodeKind a_nodeValue a_nodeA a_nodeB a_nodeResult a_nodeUses a_outputNode se od st := by
  intro q
  have hT := pr_gw_T hG
  induction q with
  | zero =>
    intro n h
    omega
  | succ q ih =>
    intro n hq tn L nd cl hnL hreg f d step se od st hf hd hst htop hls hsn hsn0 hk
    have hgA : gr_at lo K V A B a_nodeKind a_nodeValue a_nodeA a_nodeB := hg
    -- the three lists
    have ep : pr_po A B (q + 1) n L = pr_oc (pr_po A B q) (B n) (pr_oc (pr_po A B q) (A n) L) ++ [n] := by
      show (if n ∈ L then L else _) = _
      rw [if_neg hnL]
    obtain ⟨M1, e1, a1, b1, c1, d1⟩ := pr_oc_ok (T := pr_T lo K) (rk := rk) (g := pr_po A B q) (o := A n) (L := L) (fun c hc => pr_po_ok hT q c (by have := (hT n c tn (Or.inl hc)).2; omega) (hT n c tn (Or.inl hc)).1) nd cl
    obtain ⟨M2, e2, a2, b2, c2, d2⟩ := pr_oc_ok (T := pr_T lo K) (rk := rk) (g := pr_po A B q) (o := B n) (L := L ++ M1) (fun c hc => pr_po_ok hT q c (by have := (hT n c tn (Or.inr hc)).2; omega) (hT n c tn (Or.inr hc)).1) a1 b1
    rw [e1, e2] at ep
    have reg1 : ∀ x, x ∈ L ++ M1 → lo ≤ x ∧ x < lo + 32 := by
      intro x hx
      rcases List.mem_append.mp hx with hx | hx
      · exact hreg x hx
      · exact ⟨(d1 x hx).1.1, (d1 x hx).1.2.1⟩
    have reg2 : ∀ x, x ∈ L ++ M1 ++ M2 → lo ≤ x ∧ x < lo + 32 := by
      intro x hx
      rcases List.mem_append.mp hx with hx | hx
      · exact reg1 x hx
      · exact ⟨(d2 x hx).1.1, (d2 x hx).1.2.1⟩
    have r1 : ∀ x, x ∈ M1 → rk x < rk n := by
      intro x hx
      obtain ⟨_, c, hc, hr, _⟩ := d1 x hx
      have := (hT n c tn (Or.inl hc)).2
      omega
    have r2 : ∀ x, x ∈ M2 → rk x < rk n := by
      intro x hx
      obtain ⟨_, c, hc, hr, _⟩ := d2 x hx
      have := (hT n c tn (Or.inr hc)).2
      omega
    have n1 : n ∉ L ++ M1 := by
      intro h
      rcases List.mem_append.mp h with h | h
      · exact hnL h
      · exact Nat.lt_irrefl _ (r1 n h)
    have n2 : n ∉ L ++ M1 ++ M2 := by
      intro h
      rcases List.mem_append.mp h with h | h
      · exact n1 h
      · exact Nat.lt_irrefl _ (r2 n h)
    have len1 : (L ++ M1).length = L.length + M1.length := List.length_append
    have len2 : (L ++ M1 ++ M2).length = L.length + M1.length + M2.length := by rw [List.length_append, len1]
    have lenP : (pr_po A B (q + 1) n L).length = L.length + M1.length + M2.length + 1 := by
      rw [ep, List.length_append, len2]
      rfl
    have hnd3 : (L ++ M1 ++ M2 ++ [n]).Nodup := by
      rw [List.nodup_append]
      refine ⟨a2, by simp, fun x hx y hy e => ?_⟩
      rw [List.mem_singleton] at hy
      subst e
      subst hy
      exact n2 hx
    have l2le := pr_len (lo := lo) (n := 32) hnd3 (fun x hx => by
      rcases List.mem_append.mp hx with hx | hx
      · exact reg2 x hx
      · rw [List.mem_singleton] at hx
        subst hx
        exact ⟨tn.1, tn.2.1⟩)
    rw [List.length_append, len2, List.length_singleton] at l2le
    have hdn : d < 32 := by omega
    -- the pop
    have hpop : ∀ f' se' od' st', 65 ≤ f' + (step + 2 * (M1.length + M2.length)) → (∀ i, i < d + 1 → st' i = st i) → pr_ls od' (L ++ M1 ++ M2) → x_sk L (L ++ M1 ++ M2) se se' →
        wX_listBelow_22 post f_maxNodes f_maxRules f_ruleCount f_counterexample f_optimized f_nodeCount f_outputCount f_applications f' (nI (L ++ M1 ++ M2).length) (nI (d + 1)) (nI (step + 2 * (M1.length + M2.length))) a_preRelation a_preVariable a_preConstant a_roomNeeded a_useCount a_treeSize a_treeKind a_treeValue a_treeA a_treeB a_treeResult a_constantValued a_maximal a_counterpart a_boundNode a_pending a_pendingCount a_nodeKind a_nodeValue a_nodeA a_nodeB a_nodeResult a_nodeUses a_outputNode se' od' st' := by
      intro f' se' od' st' hf' hst' hls' hsk'
      obtain ⟨g, rfl⟩ : ∃ g, f' = g + 1 := ⟨f' - 1, by omega⟩
      have hseen : ∀ c, c ∈ L ++ M1 ++ M2 → pr_T lo K c → rk c < rk n → se' c ≠ 0 := by
        intro c hc tc rc
        by_cases hcl : c ∈ L
        · rw [(hsk' c).2 (Or.inl hcl)]
          intro h0
          exact (hsn c tc rc).mp h0 hcl
        · exact (hsk' c).1 hc hcl
      rw [len2]
      refine x_lb_pop (n := n) (by omega) hdn (by omega) (by rw [hst' d (by omega)]; exact htop) (fun P hP => ?_) ?_
      · refine x_un_31 hlo hgA hT tn (fun c hc => ?_) (x_un_31N hlo hgA hT tn (fun c hc => ?_) hP)
        · exact hseen c (List.mem_append_left _ (c1 c hc)) (hT n c tn (Or.inl hc)).1 (hT n c tn (Or.inl hc)).2
        · exact hseen c (c2 c hc) (hT n c tn (Or.inr hc)).1 (hT n c tn (Or.inr hc)).2
      · have hh := hk g se' (upd od' (L.length + M1.length + M2.length) (nI n)) st' (by omega) (fun i hi => hst' i (by omega)) (by
          rw [ep]
          have := pr_ls_s (n := n) hls'
          rw [len2] at this
          exact this) (by
          rw [ep]
          intro c
          constructor
          · intro h1 h2
            rcases List.mem_append.mp h1 with h1 | h1
            · exact (hsk' c).1 h1 h2
            · rw [List.mem_singleton] at h1
              subst h1
              rw [(hsk' c).2 (Or.inr n2)]
              exact hsn0
          · intro h1
            refine (hsk' c).2 ?_
            rcases h1 with h1 | h1
            · exact Or.inl h1
            · exact Or.inr fun h2 => h1 (List.mem_append_left _ h2))
        rw [lenP] at hh
        rw [show step + 2 * (M1.length + M2.length) + 1 = step + 2 * (L.length + M1.length + M2.length + 1) - 2 * L.length - 1 by omega]
        exact hh
    -- operand B
    have hB : ∀ f' se' od' st', 65 ≤ f' + (step + 2 * M1.length) → (∀ i, i < d + 1 → st' i = st i) → pr_ls od' (L ++ M1) → x_sk L (L ++ M1) se se' →
        wX_listBelow_22 post f_maxNodes f_maxRules f_ruleCount f_counterexample f_optimized f_nodeCount f_outputCount f_applications f' (nI (L ++ M1).length) (nI (d + 1)) (nI (step + 2 * M1.length)) a_preRelation a_preVariable a_preConstant a_roomNeeded a_useCount a_treeSize a_treeKind a_treeValue a_treeA a_treeB a_treeResult a_constantValued a_maximal a_counterpart a_boundNode a_pending a_pendingCount a_nodeKind a_nodeValue a_nodeA a_nodeB a_nodeResult a_nodeUses a_outputNode se' od' st' := by
      intro f' se' od' st' hf' hst' hls' hsk'
      by_cases hb : ∃ c, B n = some c ∧ c ∉ L ++ M1
      · obtain ⟨c, hc, hcn⟩ := hb
        have tc := hT n c tn (Or.inr hc)
        have ec : L ++ M1 ++ M2 = pr_po A B q c (L ++ M1) := by
          rw [← e2, hc]
          rfl
        obtain ⟨g, rfl⟩ : ∃ g, f' = g + 1 := ⟨f' - 1, by omega⟩
        have tc2 := tc.1.2.1
        have hseq : ∀ x, pr_T lo K x → rk x < rk n → (se' x = 0 ↔ x ∉ L ++ M1) := by
          intro x tx rx
          by_cases hx : x ∈ L ++ M1
          · refine ⟨fun h0 => ?_, fun h => absurd hx h⟩
            exfalso
            by_cases hxl : x ∈ L
            · rw [(hsk' x).2 (Or.inl hxl)] at h0
              exact (hsn x tx rx).mp h0 hxl
            · exact (hsk' x).1 hx hxl h0
          · refine ⟨fun _ => hx, fun _ => ?_⟩
            rw [(hsk' x).2 (Or.inr hx)]
            exact (hsn x tx rx).mpr fun h => hx (List.mem_append_left _ h)
        have hM2 : 1 ≤ M2.length := by
          have hin : c ∈ L ++ M1 ++ M2 := c2 c hc
          rcases List.mem_append.mp hin with h | h
          · exact absurd h hcn
          · exact List.length_pos_of_mem h
        refine x_lb_push (n := n) (x := c) (by omega) (by omega) (by omega) (by rw [hst' d (by omega)]; exact htop) (fun P hP => ?_) ?_
        · refine x_un_31 hlo hgA hT tn (fun x hx => ?_) (x_un_31B hlo hgA tn tc.1 hc ((hseq c tc.1 tc.2).mpr hcn) hP)
          have tx := hT n x tn (Or.inl hx)
          exact fun h0 => (hseq x tx.1 tx.2).mp h0 (c1 x hx)
        · refine ih c (by omega) tc.1 (L ++ M1) a1 b1 hcn reg1 g (d + 1) (step + 2 * M1.length + 1) (upd se' c 1) od' (upd st' (d + 1) (nI c)) (by omega) (by omega) ?_ pk_us hls' ?_ ?_ ?_
          · rw [← ec, len2, len1]
            omega
          · intro x tx rx
            rw [pk_un (fun e => by rw [e] at rx; omega)]
            exact hseq x tx (by omega)
          · rw [pk_us]
            decide
          · rw [← ec]
            intro f2 se2 od2 st2 hf2 hst2 hls2 hsk2
            rw [len2, len1] at hf2
            have := hpop f2 se2 od2 st2 (by omega) (fun i hi => by rw [hst2 i hi, pk_un (by omega)]; exact hst' i (by omega)) hls2 (by
              intro x
              constructor
              · intro h1 h2
                by_cases hx : x ∈ L ++ M1
                · rw [(hsk2 x).2 (Or.inl hx)]
                  by_cases e : x = c
                  · rw [e, pk_us]
                    decide
                  · rw [pk_un e]
                    exact (hsk' x).1 hx h2
                · exact (hsk2 x).1 h1 hx
              · intro h1
                have hxc : x ≠ c := by
                  intro e
                  subst e
                  rcases h1 with h1 | h1
                  · exact hcn (List.mem_append_left _ h1)
                  · exact h1 (c2 x hc)
                have hx1 : se2 x = upd se' c 1 x := (hsk2 x).2 (by
                  rcases h1 with h1 | h1
                  · exact Or.inl (List.mem_append_left _ h1)
                  · exact Or.inr h1)
                rw [hx1, pk_un hxc]
                refine (hsk' x).2 ?_
                rcases h1 with h1 | h1
                · exact Or.inl h1
                · exact Or.inr fun h => h1 (List.mem_append_left _ h))
            rw [show step + 2 * M1.length + 1 + 2 * (L ++ M1 ++ M2).length - 2 * (L ++ M1).length - 1 = step + 2 * (M1.length + M2.length) by rw [len2, len1]; omega]
            exact this
      · have hM2 : M2 = [] := by
          have : pr_oc (pr_po A B q) (B n) (L ++ M1) = L ++ M1 := by
            cases hb' : B n with
            | none => rfl
            | some c =>
              have hcm : c ∈ L ++ M1 := by
                apply Classical.byContradiction
                intro hcn
                exact hb ⟨c, hb', hcn⟩
              show pr_po A B q c (L ++ M1) = L ++ M1
              cases q with
              | zero => rfl
              | succ q => exact if_pos hcm
          rw [this] at e2
          have := congrArg List.length e2
          rw [len2, len1] at this
          exact List.eq_nil_of_length_eq_zero (by omega)
        subst hM2
        rw [List.append_nil] at hpop
        exact hpop f' se' od' st' (by simpa using hf') hst' hls' hsk'
    -- operand A
    by_cases ha : ∃ c, A n = some c ∧ c ∉ L
    · obtain ⟨c, hc, hcn⟩ := ha
      have tc := hT n c tn (Or.inl hc)
      have ec : L ++ M1 = pr_po A B q c L := by
        rw [← e1, hc]
        rfl
      obtain ⟨g, rfl⟩ : ∃ g, f = g + 1 := ⟨f - 1, by omega⟩
      have tc2 := tc.1.2.1
      have hM1 : 1 ≤ M1.length := by
        have hin : c ∈ L ++ M1 := c1 c hc
        rcases List.mem_append.mp hin with h | h
        · exact absurd h hcn
        · exact List.length_pos_of_mem h
      refine x_lb_push (n := n) (x := c) (by omega) (by omega) (by omega) htop (fun P hP => x_un_A hlo hgA tn tc.1 hc ((hsn c tc.1 tc.2).mpr hcn) hP) ?_
      refine ih c (by omega) tc.1 L nd cl hcn hreg g (d + 1) (step + 1) (upd se c 1) od (upd st (d + 1) (nI c)) (by omega) (by omega) ?_ pk_us hls ?_ ?_ ?_
      · rw [← ec, len1]
        omega
      · intro x tx rx
        rw [pk_un (fun e => by rw [e] at rx; omega)]
        exact hsn x tx (by omega)
      · rw [pk_us]
        decide
      · rw [← ec]
        intro f2 se2 od2 st2 hf2 hst2 hls2 hsk2
        rw [len1] at hf2
        have := hB f2 se2 od2 st2 (by omega) (fun i hi => by rw [hst2 i hi, pk_un (by omega)]) hls2 (by
          intro x
          constructor
          · intro h1 h2
            exact (hsk2 x).1 h1 h2
          · intro h1
            have hxc : x ≠ c := by
              intro e
              subst e
              rcases h1 with h1 | h1
              · exact hcn h1
              · exact h1 (c1 x hc)
            rw [(hsk2 x).2 h1, pk_un hxc])
        rw [show step + 1 + 2 * (L ++ M1).length - 2 * L.length - 1 = step + 2 * M1.length by rw [len1]; omega]
        exact this
    · have hM1 : M1 = [] := by
        have : pr_oc (pr_po A B q) (A n) L = L := by
          cases ha' : A n with
          | none => rfl
          | some c =>
            have hcm : c ∈ L := by
              apply Classical.byContradiction
              intro hcn
              exact ha ⟨c, ha', hcn⟩
            show pr_po A B q c L = L
            cases q with
            | zero => rfl
            | succ q => exact if_pos hcm
        rw [this] at e1
        have := congrArg List.length e1
        rw [len1] at this
        exact List.eq_nil_of_length_eq_zero (by omega)
      subst hM1
      rw [List.append_nil] at hB
      exact hB f se od st (by simpa using hf) (fun i _ => rfl) hls (fun x => ⟨fun h1 h2 => absurd h1 h2, fun _ => rfl⟩)
end XH
end
section
/-! X: listLive and what reads its list -/
section XI
variable {f_maxNodes f_maxRules f_ruleCount f_counterexample f_optimized f_nodeCount f_outputCount f_applications : Int32} {a_preRelation a_preVariable a_preConstant a_roomNeeded a_useCount a_treeSize a_treeKind a_treeValue a_treeA a_treeB a_treeResult a_constantValued a_maximal a_counterpart a_boundNode a_pending a_pendingCount a_nodeKind a_nodeValue a_nodeA a_nodeB a_nodeResult a_nodeUses a_outputNode a_seen a_order a_walkStack : Nat → Int32}
variable {lo : Nat} {K : Nat → Nat} {V : Nat → Int32} {A B : Nat → Option Nat} {rk O : Nat → Nat} {post : Int32 → SX → Prop}
theorem x_listBelow (hlo : lo ≤ 32) (hG : pr_gw lo K V A B rk) (hg : gr_at lo K V A B a_nodeKind a_nodeValue a_nodeA a_nodeB) {n : Nat} (tn : pr_T lo K n) {L : List Nat} (nd : L.Nodup) (cl : pr_cl A B (fun x => x ∈ L)) (hnL : n ∉ L) (hreg : ∀ x, x ∈ L → lo ≤ x ∧ x < lo + 32)
    (hls : pr_ls a_order L) (hse : ∀ c, c < 64 → (a_seen c = 0 ↔ c ∉ L))
    (h : ∀ se' od' st', (∀ c, c < 64 → (se' c = 0 ↔ c ∉ pr_po A B 32 n L)) → pr_ls od' (pr_po A B 32 n L) → post (nI (pr_po A B 32 n L).length) (f_maxNodes, f_maxRules, f_ruleCount, f_counterexample, f_optimized, f_nodeCount, f_outputCount, f_applications, a_preRelation, a_preVariable, a_preConstant, a_roomNeeded, a_useCount, a_treeSize, a_treeKind, a_treeValue, a_treeA, a_treeB, a_treeResult, a_constantValued, a_maximal, a_counterpart, a_boundNode, a_pending, a_pendingCount, a_nodeKind, a_nodeValue, a_nodeA, a_nodeB, a_nodeResult, a_nodeUses, a_outputNode, se', od', st')) :
    wpX_listBelow post (f_maxNodes, f_maxRules, f_ruleCount, f_counterexample, f_optimized, f_nodeCount, f_outputCount, f_applications, a_preRelation, a_preVariable, a_preConstant, a_roomNeeded, a_useCount, a_treeSize, a_treeKind, a_treeValue, a_treeA, a_treeB, a_treeResult, a_constantValued, a_maximal, a_counterpart, a_boundNode, a_pending, a_pendingCount, a_nodeKind, a_nodeValue, a_nodeA, a_nodeB, a_nodeResult, a_nodeUses, a_outputNode, a_seen, a_order, a_walkStack) (nI n) (nI L.length) := by
  have tn2 := tn.2.1
  have hT := pr_gw_T hG
  have hrk := pr_gw_r hG n tn
  obtain ⟨M, eM, m1, m2, m3, m4⟩ := pr_po_ok hT 32 n hrk tn L nd cl
  have hlen : (L ++ M).length ≤ 32 := pr_len m1 (lo := lo) (fun x hx => by
    rcases List.mem_append.mp hx with hx | hx
    · exact hreg x hx
    · exact ⟨(m4 x hx).1.1, (m4 x hx).1.2.1⟩)
  unfold wpX_listBelow
  refine nm_e ⟨pk_in n 64 (by omega), ?_⟩
  rw [nI_clamp (by omega), pr_vb1]
  refine nm_e ⟨65, ?_⟩
  refine x_visit hlo hG hg 32 n hrk tn L nd cl hnL hreg 65 0 0 (upd a_seen n 1) a_order (upd a_walkStack 0 (nI n)) (by omega) (by omega) ?_ pk_us hls ?_ ?_ ?_
  · rw [eM]
    omega
  · intro c tc rc
    rw [pk_un (fun e => by rw [e] at rc; omega)]
    have := tc.2.1
    exact hse c (by omega)
  · rw [pk_us]
    decide
  · intro f' se' od' st' hf' _ hls' hsk
    obtain ⟨g, rfl⟩ : ∃ g, f' = g + 1 := ⟨f' - 1, by rw [eM] at hf'; omega⟩
    have hpost := h se' od' st' (fun c hc => ?_) hls'
    · by_cases h64 : (64 : Int32) ≤ nI (0 + 2 * (pr_po A B 32 n L).length - 2 * L.length - 1)
      · exact br_t h64 hpost
      · exact br_f h64 (br_t (by decide) hpost)
    · by_cases hx : c ∈ pr_po A B 32 n L
      · refine ⟨fun h0 => ?_, fun hn => absurd hx hn⟩
        exfalso
        by_cases hl : c ∈ L
        · have hcn : c ≠ n := fun e => hnL (e ▸ hl)
          rw [(hsk c).2 (Or.inl hl), pk_un hcn] at h0
          exact (hse c hc).mp h0 hl
        · exact (hsk c).1 hx hl h0
      · refine ⟨fun _ => hx, fun _ => ?_⟩
        have hcn : c ≠ n := fun e => hx (by rw [e, eM]; exact m3)
        rw [(hsk c).2 (Or.inr hx), pk_un hcn]
        exact (hse c hc).mpr fun hl => hx (by rw [eM]; exact List.mem_append_left _ hl)
theorem x_live25 {g oc : Nat} (hlo : lo ≤ 32) (hG : pr_gw lo K V A B rk) (hg : gr_at lo K V A B a_nodeKind a_nodeValue a_nodeA a_nodeB) (hgc : g < 2) (hoc : oc ≤ 4) (hO : ∀ k, k < oc → pr_T lo K (O (g * 4 + k)) ∧ a_outputNode (g * 4 + k) = nI (O (g * 4 + k)))
    (h : ∀ se' od' st', (∀ c, c < 64 → (se' c = 0 ↔ c ∉ pr_lv A B O (g * 4) oc)) → pr_ls od' (pr_lv A B O (g * 4) oc) → post (nI (pr_lv A B O (g * 4) oc).length) (f_maxNodes, f_maxRules, f_ruleCount, f_counterexample, f_optimized, f_nodeCount, (nI oc), f_applications, a_preRelation, a_preVariable, a_preConstant, a_roomNeeded, a_useCount, a_treeSize, a_treeKind, a_treeValue, a_treeA, a_treeB, a_treeResult, a_constantValued, a_maximal, a_counterpart, a_boundNode, a_pending, a_pendingCount, a_nodeKind, a_nodeValue, a_nodeA, a_nodeB, a_nodeResult, a_nodeUses, a_outputNode, se', od', st')) :
    ∀ d i se od st, i + d = oc → (∀ c, c < 64 → (se c = 0 ↔ c ∉ pr_lv A B O (g * 4) i)) → pr_ls od (pr_lv A B O (g * 4) i) → wX_listLive_25 post (nI g) (d + 1) (nI (pr_lv A B O (g * 4) i).length) (nI i) f_maxNodes f_maxRules f_ruleCount f_counterexample f_optimized f_nodeCount (nI oc) f_applications a_preRelation a_preVariable a_preConstant a_roomNeeded a_useCount a_treeSize a_treeKind a_treeValue a_treeA a_treeB a_treeResult a_constantValued a_maximal a_counterpart a_boundNode a_pending a_pendingCount a_nodeKind a_nodeValue a_nodeA a_nodeB a_nodeResult a_nodeUses a_outputNode se od st := by
  intro d
  have hT := pr_gw_T hG
  induction d with
  | zero =>
    intro i se od st hi hse hls
    refine pk_le oc i (fun _ => ?_) (fun h => absurd h (by omega))
    have e : i = oc := by omega
    subst e
    exact h se od st hse hls
  | succ d ih =>
    intro i se od st hi hse hls
    obtain ⟨to, eo⟩ := hO i (by omega)
    have to2 := to.2.1
    obtain ⟨l1, l2, l3, l4⟩ := pr_lv_ok (O := O) (ob := g * 4) hT (pr_gw_r hG) i (fun k hk => (hO k (by omega)).1)
    have e4 : nI g * 4 + nI i = nI (g * 4 + i) := by
      rw [show (4 : Int32) = nI 4 from rfl, pk_mul, nI_add]
    refine pk_le oc i (fun h => absurd h (by omega)) (fun _ => ?_)
    rw [e4]
    refine ⟨pk_in (g * 4 + i) 8 (by omega), ?_⟩
    rw [nI_clamp (by omega)]
    refine nm_r eo ⟨pk_in (O (g * 4 + i)) 64 (by omega), ?_⟩
    rw [nI_clamp (by omega)]
    refine br_c (fun h0 => ?_) (fun h0 => ?_)
    · have hnl := (hse _ (by omega)).mp h0
      refine x_listBelow hlo hG hg to l1 l2 hnl (fun x hx => ⟨(l4 x hx).1.1, (l4 x hx).1.2.1⟩) hls hse (fun se' od' st' h1 h2 => ?_)
      exact nm_r (nI_1 _) (ih (i + 1) se' od' st' (by omega) h1 h2)
    · have hin : O (g * 4 + i) ∈ pr_lv A B O (g * 4) i := by
        apply Classical.byContradiction
        intro hn
        exact h0 ((hse _ (by omega)).mpr hn)
      have ee : pr_lv A B O (g * 4) (i + 1) = pr_lv A B O (g * 4) i := by
        show (if O (g * 4 + i) ∈ pr_lv A B O (g * 4) i then pr_lv A B O (g * 4) i else _) = _
        rw [if_pos hin]
      have := ih (i + 1) se od st (by omega) (by rw [ee]; exact hse) (by rw [ee]; exact hls)
      rw [ee] at this
      exact nm_r (nI_1 _) this
theorem x_listLive {g oc : Nat} (hlo : lo ≤ 32) (hG : pr_gw lo K V A B rk) (hg : gr_at lo K V A B a_nodeKind a_nodeValue a_nodeA a_nodeB) (hgc : g < 2) (hoc : oc ≤ 4) (hO : ∀ k, k < oc → pr_T lo K (O (g * 4 + k)) ∧ a_outputNode (g * 4 + k) = nI (O (g * 4 + k)))
    (h : ∀ se' od' st', (∀ c, c < 64 → (se' c = 0 ↔ c ∉ pr_lv A B O (g * 4) oc)) → pr_ls od' (pr_lv A B O (g * 4) oc) → post (nI (pr_lv A B O (g * 4) oc).length) (f_maxNodes, f_maxRules, f_ruleCount, f_counterexample, f_optimized, f_nodeCount, (nI oc), f_applications, a_preRelation, a_preVariable, a_preConstant, a_roomNeeded, a_useCount, a_treeSize, a_treeKind, a_treeValue, a_treeA, a_treeB, a_treeResult, a_constantValued, a_maximal, a_counterpart, a_boundNode, a_pending, a_pendingCount, a_nodeKind, a_nodeValue, a_nodeA, a_nodeB, a_nodeResult, a_nodeUses, a_outputNode, se', od', st')) :
    wpX_listLive post (f_maxNodes, f_maxRules, f_ruleCount, f_counterexample, f_optimized, f_nodeCount, (nI oc), f_applications, a_preRelation, a_preVariable, a_preConstant, a_roomNeeded, a_useCount, a_treeSize, a_treeKind, a_treeValue, a_treeA, a_treeB, a_treeResult, a_constantValued, a_maximal, a_counterpart, a_boundNode, a_pending, a_pendingCount, a_nodeKind, a_nodeValue, a_nodeA, a_nodeB, a_nodeResult, a_nodeUses, a_outputNode, a_seen, a_order, a_walkStack) (nI g) := by
  have l2 : ∀ d i se, i + d = 64 → (∀ c, c < i → se c = 0) → wX_listLive_2 post (nI g) f_maxNodes f_maxRules f_ruleCount f_counterexample f_optimized f_nodeCount (nI oc) f_applications (d + 1) (nI i) a_preRelation a_preVariable a_preConstant a_roomNeeded a_useCount a_treeSize a_treeKind a_treeValue a_treeA a_treeB a_treeResult a_constantValued a_maximal a_counterpart a_boundNode a_pending a_pendingCount a_nodeKind a_nodeValue a_nodeA a_nodeB a_nodeResult a_nodeUses a_outputNode se a_order a_walkStack := by
    intro d
    induction d with
    | zero =>
      intro i se hi hse
      refine pk_le 64 i (fun _ => ⟨oc + 1, ?_⟩) (fun h => absurd h (by omega))
      refine x_live25 hlo hG hg hgc hoc hO h oc 0 se a_order a_walkStack (by omega) (fun c hc => ⟨fun _ hx => (by cases hx), fun _ => hse c (by omega)⟩) (fun i hi => absurd hi (by show ¬ i < 0; omega))
    | succ d ih =>
      intro i se hi hse
      refine pk_le 64 i (fun h => absurd h (by omega)) (fun _ => ⟨pk_in i 64 (by omega), ?_⟩)
      rw [nI_clamp (by omega), pr_vb0]
      refine nm_e (nm_r (nI_1 _) (ih (i + 1) _ (by omega) fun c hc => ?_))
      by_cases e : c = i
      · rw [e, pk_us]
      · rw [pk_un e]
        exact hse c (by omega)
  exact ⟨65, l2 64 0 a_seen (by omega) (fun c hc => absurd hc (by omega))⟩
end XI
end
section
/-! X: what reads the list: cost, count, uses, deletion, values -/
section XJ
variable {f_maxNodes f_maxRules f_ruleCount f_counterexample f_optimized f_nodeCount f_outputCount f_applications : Int32} {a_preRelation a_preVariable a_preConstant a_roomNeeded a_useCount a_treeSize a_treeKind a_treeValue a_treeA a_treeB a_treeResult a_constantValued a_maximal a_counterpart a_boundNode a_pending a_pendingCount a_nodeKind a_nodeValue a_nodeA a_nodeB a_nodeResult a_nodeUses a_outputNode a_seen a_order a_walkStack : Nat → Int32}
variable {lo : Nat} {K : Nat → Nat} {V : Nat → Int32} {A B : Nat → Option Nat} {rk O : Nat → Nat} {L : List Nat}
theorem pr_sm_tk (w : Nat → Nat) : ∀ (L : List Nat) (i : Nat), i < L.length → pr_sm w (L.take (i + 1)) = pr_sm w (L.take i) + w (L.getD i 0)
  | [], i, h => absurd h (by show ¬ i < 0; omega)
  | x :: L, 0, _ => by
    show w x + pr_sm w (L.take 0) = 0 + w x
    rw [List.take_zero]
    show w x + 0 = 0 + w x
    omega
  | x :: L, i + 1, h => by
    have hi : i < L.length := by
      rw [List.length_cons] at h
      omega
    have := pr_sm_tk w L i hi
    show w x + pr_sm w (L.take (i + 1)) = w x + pr_sm w (L.take i) + w (L.getD i 0)
    omega
theorem pr_sm_all (w : Nat → Nat) (L : List Nat) : pr_sm w (L.take L.length) = pr_sm w L := by
  rw [List.take_length]
theorem x_liveCost11 {post : Int32 → SX → Prop} (hlo : lo ≤ 32) (hG : pr_gw lo K V A B rk) (hg : gr_at lo K V A B a_nodeKind a_nodeValue a_nodeA a_nodeB) (hLT : ∀ x, x ∈ L → pr_T lo K x) (hlen : L.length ≤ 32) (hls : pr_ls a_order L) (h : post (nI (pr_sm (fun s => pr_w (K s)) L)) (f_maxNodes, f_maxRules, f_ruleCount, f_counterexample, f_optimized, f_nodeCount, f_outputCount, f_applications, a_preRelation, a_preVariable, a_preConstant, a_roomNeeded, a_useCount, a_treeSize, a_treeKind, a_treeValue, a_treeA, a_treeB, a_treeResult, a_constantValued, a_maximal, a_counterpart, a_boundNode, a_pending, a_pendingCount, a_nodeKind, a_nodeValue, a_nodeA, a_nodeB, a_nodeResult, a_nodeUses, a_outputNode, a_seen, a_order, a_walkStack)) :
    ∀ d i, i + d = L.length → wX_liveCost_11 post (nI L.length) f_maxNodes f_maxRules f_ruleCount f_counterexample f_optimized f_nodeCount f_outputCount f_applications a_preRelation a_preVariable a_preConstant a_roomNeeded a_useCount a_treeSize a_treeKind a_treeValue a_treeA a_treeB a_treeResult a_constantValued a_maximal a_counterpart a_boundNode a_pending a_pendingCount a_nodeKind a_nodeValue a_nodeA a_nodeB a_nodeResult a_nodeUses a_outputNode a_seen a_order a_walkStack (d + 1) (nI (pr_sm (fun s => pr_w (K s)) (L.take i))) (nI i) := by
  intro d
  induction d with
  | zero =>
    intro i hi
    refine pk_le L.length i (fun _ => ?_) (fun h => absurd h (by omega))
    rw [show i = L.length by omega, pr_sm_all]
    exact h
  | succ d ih =>
    intro i hi
    have hi' : i < L.length := by omega
    have tx := hLT _ (pr_gd_m hi')
    have tx2 := tx.2.1
    have hh := ih (i + 1) (by omega)
    rw [pr_sm_tk _ L i hi'] at hh
    refine pk_le L.length i (fun h => absurd h (by omega)) (fun _ => ⟨pk_in i 32 (by omega), ?_⟩)
    rw [nI_clamp (n := i) (by omega), hls i hi']
    refine ⟨pk_in (L.getD i 0) 64 (by omega), ?_⟩
    rw [nI_clamp (by omega), (hg _ tx).1]
    have := (hG _ tx).1
    exact x_weight (by omega) (nm_r (nI_add _ _) (nm_r (nI_1 _) hh))
theorem x_liveCost {post : Int32 → SX → Prop} {g oc : Nat} (hG : pr_gw (g * 32) K V A B rk) (hg : gr_at (g * 32) K V A B a_nodeKind a_nodeValue a_nodeA a_nodeB) (hgc : g < 2) (hoc : oc ≤ 4) (hO : ∀ k, k < oc → pr_T (g * 32) K (O (g * 4 + k)) ∧ a_outputNode (g * 4 + k) = nI (O (g * 4 + k))) (hL : L = pr_lv A B O (g * 4) oc)
    (h : ∀ se' od' st', post (nI (pr_sm (fun s => pr_w (K s)) L)) (f_maxNodes, f_maxRules, f_ruleCount, f_counterexample, f_optimized, f_nodeCount, (nI oc), f_applications, a_preRelation, a_preVariable, a_preConstant, a_roomNeeded, a_useCount, a_treeSize, a_treeKind, a_treeValue, a_treeA, a_treeB, a_treeResult, a_constantValued, a_maximal, a_counterpart, a_boundNode, a_pending, a_pendingCount, a_nodeKind, a_nodeValue, a_nodeA, a_nodeB, a_nodeResult, a_nodeUses, a_outputNode, se', od', st')) : wpX_liveCost post (f_maxNodes, f_maxRules, f_ruleCount, f_counterexample, f_optimized, f_nodeCount, (nI oc), f_applications, a_preRelation, a_preVariable, a_preConstant, a_roomNeeded, a_useCount, a_treeSize, a_treeKind, a_treeValue, a_treeA, a_treeB, a_treeResult, a_constantValued, a_maximal, a_counterpart, a_boundNode, a_pending, a_pendingCount, a_nodeKind, a_nodeValue, a_nodeA, a_nodeB, a_nodeResult, a_nodeUses, a_outputNode, a_seen, a_order, a_walkStack) (nI g) := by
  have hlk := pr_lv_ok (O := O) (ob := g * 4) (pr_gw_T hG) (pr_gw_r hG) oc (fun k hk => (hO k hk).1)
  have hlen := pr_len hlk.1 (fun x hx => ⟨(hlk.2.2.2 x hx).1.1, (hlk.2.2.2 x hx).1.2.1⟩)
  unfold wpX_liveCost
  refine x_listLive (by omega) hG hg hgc hoc hO (fun se' od' st' h1 h2 => ⟨(pr_lv A B O (g * 4) oc).length + 1, ?_⟩)
  exact x_liveCost11 (by omega) hG hg (fun x hx => (hlk.2.2.2 x hx).1) hlen h2 (by rw [← hL]; exact h se' od' st') _ 0 (by omega)
theorem x_countOp24 {post : Int32 → SX → Prop} {κ : Nat} (hκ : κ < 100) (hlo : lo ≤ 32) (hG : pr_gw lo K V A B rk) (hg : gr_at lo K V A B a_nodeKind a_nodeValue a_nodeA a_nodeB) (hLT : ∀ x, x ∈ L → pr_T lo K x) (hlen : L.length ≤ 32) (hls : pr_ls a_order L) (h : post (nI (pr_sm (fun s => if K s = κ then 1 else 0) L)) (f_maxNodes, f_maxRules, f_ruleCount, f_counterexample, f_optimized, f_nodeCount, f_outputCount, f_applications, a_preRelation, a_preVariable, a_preConstant, a_roomNeeded, a_useCount, a_treeSize, a_treeKind, a_treeValue, a_treeA, a_treeB, a_treeResult, a_constantValued, a_maximal, a_counterpart, a_boundNode, a_pending, a_pendingCount, a_nodeKind, a_nodeValue, a_nodeA, a_nodeB, a_nodeResult, a_nodeUses, a_outputNode, a_seen, a_order, a_walkStack)) :
    ∀ d i, i + d = L.length → wX_countOp_24 post (nI κ) (nI L.length) f_maxNodes f_maxRules f_ruleCount f_counterexample f_optimized f_nodeCount f_outputCount f_applications a_preRelation a_preVariable a_preConstant a_roomNeeded a_useCount a_treeSize a_treeKind a_treeValue a_treeA a_treeB a_treeResult a_constantValued a_maximal a_counterpart a_boundNode a_pending a_pendingCount a_nodeKind a_nodeValue a_nodeA a_nodeB a_nodeResult a_nodeUses a_outputNode a_seen a_order a_walkStack (d + 1) (nI (pr_sm (fun s => if K s = κ then 1 else 0) (L.take i))) (nI i) := by
  intro d
  induction d with
  | zero =>
    intro i hi
    refine pk_le L.length i (fun _ => ?_) (fun h => absurd h (by omega))
    rw [show i = L.length by omega, pr_sm_all]
    exact h
  | succ d ih =>
    intro i hi
    have hi' : i < L.length := by omega
    have tx := hLT _ (pr_gd_m hi')
    have tx2 := tx.2.1
    have hh := ih (i + 1) (by omega)
    rw [pr_sm_tk _ L i hi'] at hh
    refine pk_le L.length i (fun h => absurd h (by omega)) (fun _ => ⟨pk_in i 32 (by omega), ?_⟩)
    rw [nI_clamp (n := i) (by omega), hls i hi']
    refine ⟨pk_in (L.getD i 0) 64 (by omega), ?_⟩
    rw [nI_clamp (by omega), (hg _ tx).1]
    have := (hG _ tx).1
    refine pk_eq (K (L.getD i 0)) κ (fun e => ?_) (fun e => ?_)
    · rw [if_pos e] at hh
      exact nm_r (nI_1 _) (nm_r (nI_1 _) hh)
    · rw [if_neg e] at hh
      exact nm_r (nI_1 _) hh
/-! values along the order -/
theorem x_evaluateNode {post : SX → Prop} {ar : Int32} {n : Nat} (hlo : lo ≤ 32) (hG : pr_gw lo K V A B rk) (hg : gr_at lo K V A B a_nodeKind a_nodeValue a_nodeA a_nodeB) (tn : pr_T lo K n) (hch : ∀ c, A n = some c ∨ B n = some c → a_nodeResult c = pr_ev K V A B ar 32 c)
    (h : post (f_maxNodes, f_maxRules, f_ruleCount, f_counterexample, f_optimized, f_nodeCount, f_outputCount, f_applications, a_preRelation, a_preVariable, a_preConstant, a_roomNeeded, a_useCount, a_treeSize, a_treeKind, a_treeValue, a_treeA, a_treeB, a_treeResult, a_constantValued, a_maximal, a_counterpart, a_boundNode, a_pending, a_pendingCount, a_nodeKind, a_nodeValue, a_nodeA, a_nodeB, (upd a_nodeResult n (pr_ev K V A B ar 32 n)), a_nodeUses, a_outputNode, a_seen, a_order, a_walkStack)) : wpX_evaluateNode post (f_maxNodes, f_maxRules, f_ruleCount, f_counterexample, f_optimized, f_nodeCount, f_outputCount, f_applications, a_preRelation, a_preVariable, a_preConstant, a_roomNeeded, a_useCount, a_treeSize, a_treeKind, a_treeValue, a_treeA, a_treeB, a_treeResult, a_constantValued, a_maximal, a_counterpart, a_boundNode, a_pending, a_pendingCount, a_nodeKind, a_nodeValue, a_nodeA, a_nodeB, a_nodeResult, a_nodeUses, a_outputNode, a_seen, a_order, a_walkStack) (nI n) ar := by
  have tn2 := tn.2.1
  obtain ⟨g1, g2, g3, g4, g5, g6, g7, g8, g9, g10⟩ := hG n tn
  obtain ⟨k1, k2, k3, k4⟩ := hg n tn
  have hK0 := tn.2.2
  have hin : vp_in (nI n) 64 := pk_in n 64 (by omega)
  have hcl : (nI n).toNatClampNeg = n := nI_clamp (by omega)
  rw [pr_ev_eq hG tn] at h
  unfold pr_en at h
  unfold wpX_evaluateNode
  refine ⟨hin, ?_⟩
  rw [hcl]
  refine nm_r k1 (pk_eq (K n) 11 (fun e => ⟨hin, hin, ?_⟩) (fun n11 => pk_eq (K n) 12 (fun e => ⟨hin, hin, ?_⟩) (fun n12 => ⟨hin, ?_⟩)))
  · rw [if_pos e] at h
    rw [k2]
    exact nm_e h
  · rw [if_neg n11, if_pos e] at h
    rw [k2]
    exact nm_e h
  · rw [if_neg n11, if_neg n12] at h
    obtain ⟨ca, hca⟩ := g8 (by omega)
    have tca := (g10 ca (Or.inl hca)).1.2.1
    rw [hca] at h
    have h83 : ∀ b, b = pr_ov (pr_ev K V A B ar 32) (B n) → wX_evaluateNode_83 post (nI n) (nI (K n)) b f_maxNodes f_maxRules f_ruleCount f_counterexample f_optimized f_nodeCount f_outputCount f_applications a_preRelation a_preVariable a_preConstant a_roomNeeded a_useCount a_treeSize a_treeKind a_treeValue a_treeA a_treeB a_treeResult a_constantValued a_maximal a_counterpart a_boundNode a_pending a_pendingCount a_nodeKind a_nodeValue a_nodeA a_nodeB a_nodeResult a_nodeUses a_outputNode a_seen a_order a_walkStack := by
      intro b hb
      subst hb
      refine ⟨hin, ?_⟩
      rw [hcl, k3, hca]
      refine ⟨pk_in ca 64 (by omega), ?_⟩
      rw [show (pr_oI (some ca)).toNatClampNeg = ca from nI_clamp (by omega), hch ca (Or.inl hca)]
      exact x_compute (by omega) (by omega) ⟨hin, nm_e h⟩
    rw [k4]
    cases hb : B n with
    | none => exact br_t rfl (h83 _ (by rw [hb]; rfl))
    | some cb =>
      have tcb := (g10 cb (Or.inr hb)).1.2.1
      refine br_f (pr_ne1 (by omega)) ⟨hin, pk_in cb 64 (by omega), ?_⟩
      rw [show (pr_oI (some cb)).toNatClampNeg = cb from nI_clamp (by omega)]
      exact h83 _ (by rw [hb, hch cb (Or.inr hb)]; rfl)
end XJ
/-- in a postorder list the operands of a node stand before it -/
def pr_pre (A B : Nat → Option Nat) (L : List Nat) : Prop := ∀ i, i < L.length → ∀ c, A (L.getD i 0) = some c ∨ B (L.getD i 0) = some c → ∃ k, k < i ∧ L.getD k 0 = c
theorem pr_pre_oc {T : Nat → Prop} {A B : Nat → Option Nat} {rk : Nat → Nat} {g : Nat → List Nat → List Nat} {o : Option Nat} {L : List Nat} (hg : ∀ c, o = some c → ∀ L : List Nat, L.Nodup → pr_cl A B (fun x => x ∈ L) → pr_pre A B L → pr_pre A B (g c L)) (h1 : L.Nodup) (h2 : pr_cl A B (fun x => x ∈ L)) (h3 : pr_pre A B L) : pr_pre A B (pr_oc g o L) := by
  cases o with
  | none => exact h3
  | some c => exact hg c rfl L h1 h2 h3
theorem pr_gd_ex {L : List Nat} {x : Nat} (h : x ∈ L) : ∃ k, k < L.length ∧ L.getD k 0 = x := by
  obtain ⟨k, hk, e⟩ := List.getElem_of_mem h
  refine ⟨k, hk, ?_⟩
  rw [List.getD_eq_getElem?_getD, List.getElem?_eq_getElem hk]
  exact e
theorem pr_pre_po {T : Nat → Prop} {A B : Nat → Option Nat} {rk : Nat → Nat} (hT : ∀ n c, T n → (A n = some c ∨ B n = some c) → T c ∧ rk c < rk n) :
    ∀ f n, rk n < f → T n → ∀ L : List Nat, L.Nodup → pr_cl A B (fun x => x ∈ L) → pr_pre A B L → pr_pre A B (pr_po A B f n L) := by
  intro f
  induction f with
  | zero =>
    intro n h
    omega
  | succ f ih =>
    intro n hn tn L h1 h2 h3
    show pr_pre A B (if n ∈ L then L else pr_oc (pr_po A B f) (B n) (pr_oc (pr_po A B f) (A n) L) ++ [n])
    by_cases hm : n ∈ L
    · rw [if_pos hm]
      exact h3
    · rw [if_neg hm]
      obtain ⟨M1, e1, a1, b1, c1, d1⟩ := pr_oc_ok (T := T) (rk := rk) (g := pr_po A B f) (o := A n) (L := L) (fun c hc => pr_po_ok hT f c (by have := (hT n c tn (Or.inl hc)).2; omega) (hT n c tn (Or.inl hc)).1) h1 h2
      obtain ⟨M2, e2, a2, b2, c2, d2⟩ := pr_oc_ok (T := T) (rk := rk) (g := pr_po A B f) (o := B n) (L := L ++ M1) (fun c hc => pr_po_ok hT f c (by have := (hT n c tn (Or.inr hc)).2; omega) (hT n c tn (Or.inr hc)).1) a1 b1
      have p1 : pr_pre A B (L ++ M1) := by
        rw [← e1]
        exact pr_pre_oc (T := T) (rk := rk) (fun c hc => ih c (by have := (hT n c tn (Or.inl hc)).2; omega) (hT n c tn (Or.inl hc)).1) h1 h2 h3
      have p2 : pr_pre A B (L ++ M1 ++ M2) := by
        rw [← e2]
        exact pr_pre_oc (T := T) (rk := rk) (fun c hc => ih c (by have := (hT n c tn (Or.inr hc)).2; omega) (hT n c tn (Or.inr hc)).1) a1 b1 p1
      rw [e1, e2]
      intro i hi c hc
      rw [List.length_append, List.length_singleton] at hi
      by_cases e : i = (L ++ M1 ++ M2).length
      · rw [e, pr_gd_s] at hc
        have hin : c ∈ L ++ M1 ++ M2 := by
          rcases hc with hc | hc
          · exact List.mem_append_left _ (c1 c hc)
          · exact c2 c hc
        obtain ⟨k, hk, ek⟩ := pr_gd_ex hin
        exact ⟨k, by omega, by rw [pr_gd_l hk]; exact ek⟩
      · rw [pr_gd_l (by omega)] at hc
        obtain ⟨k, hk, ek⟩ := p2 i (by omega) c hc
        exact ⟨k, hk, by rw [pr_gd_l (by omega)]; exact ek⟩
theorem pr_pre_lv {T : Nat → Prop} {A B : Nat → Option Nat} {rk O : Nat → Nat} {ob : Nat} (hT : ∀ n c, T n → (A n = some c ∨ B n = some c) → T c ∧ rk c < rk n) (hr : ∀ n, T n → rk n < 32) :
    ∀ k, (∀ i, i < k → T (O (ob + i))) → pr_pre A B (pr_lv A B O ob k)
  | 0, _ => fun i hi => absurd hi (by show ¬ i < 0; omega)
  | k + 1, ho => by
    have hl := pr_lv_ok (O := O) (ob := ob) hT hr k (fun i hi => ho i (by omega))
    exact pr_pre_po hT 32 _ (hr _ (ho k (by omega))) (ho k (by omega)) _ hl.1 hl.2.1 (pr_pre_lv hT hr k (fun i hi => ho i (by omega)))
section XK
variable {f_maxNodes f_maxRules f_ruleCount f_counterexample f_optimized f_nodeCount f_outputCount f_applications : Int32} {a_preRelation a_preVariable a_preConstant a_roomNeeded a_useCount a_treeSize a_treeKind a_treeValue a_treeA a_treeB a_treeResult a_constantValued a_maximal a_counterpart a_boundNode a_pending a_pendingCount a_nodeKind a_nodeValue a_nodeA a_nodeB a_nodeResult a_nodeUses a_outputNode a_seen a_order a_walkStack : Nat → Int32}
variable {K : Nat → Nat} {V : Nat → Int32} {A B : Nat → Option Nat} {rk O : Nat → Nat} {L : List Nat} {post : Int32 → SX → Prop}
theorem x_eval39 {g k oc : Nat} {ar : Int32} (hgc : g < 2) (hk : k < oc) (hoc : oc ≤ 4) (hG : pr_gw (g * 32) K V A B rk) (hg : gr_at (g * 32) K V A B a_nodeKind a_nodeValue a_nodeA a_nodeB) (hO : ∀ k, k < oc → pr_T (g * 32) K (O (g * 4 + k)) ∧ a_outputNode (g * 4 + k) = nI (O (g * 4 + k)))
    (hL : pr_lk (pr_T (g * 32) K) A B O (g * 4) oc L) (hpre : pr_pre A B L) (hls : pr_ls a_order L)
    (h : ∀ nr', post (pr_ev K V A B ar 32 (O (g * 4 + k))) (f_maxNodes, f_maxRules, f_ruleCount, f_counterexample, f_optimized, f_nodeCount, f_outputCount, f_applications, a_preRelation, a_preVariable, a_preConstant, a_roomNeeded, a_useCount, a_treeSize, a_treeKind, a_treeValue, a_treeA, a_treeB, a_treeResult, a_constantValued, a_maximal, a_counterpart, a_boundNode, a_pending, a_pendingCount, a_nodeKind, a_nodeValue, a_nodeA, a_nodeB, nr', a_nodeUses, a_outputNode, a_seen, a_order, a_walkStack)) :
    ∀ d i nr, i + d = L.length → (∀ q, q < i → nr (L.getD q 0) = pr_ev K V A B ar 32 (L.getD q 0)) → wX_eval_39 post (nI k) ar (nI g) (nI L.length) (d + 1) (nI i) f_maxNodes f_maxRules f_ruleCount f_counterexample f_optimized f_nodeCount f_outputCount f_applications a_preRelation a_preVariable a_preConstant a_roomNeeded a_useCount a_treeSize a_treeKind a_treeValue a_treeA a_treeB a_treeResult a_constantValued a_maximal a_counterpart a_boundNode a_pending a_pendingCount a_nodeKind a_nodeValue a_nodeA a_nodeB nr a_nodeUses a_outputNode a_seen a_order a_walkStack := by
  intro d
  have hlen := pr_len hL.1 (fun x hx => ⟨(hL.2.2.2 x hx).1.1, (hL.2.2.2 x hx).1.2.1⟩)
  induction d with
  | zero =>
    intro i nr hi hq
    have e4 : nI g * 4 + nI k = nI (g * 4 + k) := by
      rw [show (4 : Int32) = nI 4 from rfl, pk_mul, nI_add]
    obtain ⟨to, eo⟩ := hO k hk
    have to2 := to.2.1
    refine pk_le L.length i (fun _ => ?_) (fun h => absurd h (by omega))
    rw [e4]
    refine ⟨pk_in (g * 4 + k) 8 (by omega), ?_⟩
    rw [nI_clamp (by omega), eo]
    refine ⟨pk_in (O (g * 4 + k)) 64 (by omega), ?_⟩
    rw [nI_clamp (by omega)]
    obtain ⟨q, hq1, hq2⟩ := pr_gd_ex (hL.2.2.1 k hk)
    have := hq q (by omega)
    rw [hq2] at this
    rw [this]
    exact h nr
  | succ d ih =>
    intro i nr hi hq
    have hi' : i < L.length := by omega
    have tx := (hL.2.2.2 _ (pr_gd_m hi')).1
    refine pk_le L.length i (fun h => absurd h (by omega)) (fun _ => ⟨pk_in i 32 (by omega), ?_⟩)
    rw [nI_clamp (by omega), hls i hi']
    refine x_evaluateNode (by omega) hG hg tx (fun c hc => ?_) (nm_r (nI_1 _) (ih (i + 1) _ (by omega) fun q hq' => ?_))
    · obtain ⟨q, q1, q2⟩ := hpre i hi' c hc
      have := hq q q1
      rw [q2] at this
      exact this
    · by_cases e : L.getD q 0 = L.getD i 0
      · rw [e, pk_us]
      · rw [pk_un e]
        refine hq q ?_
        have : q ≠ i := fun hx => e (by rw [hx])
        omega
theorem x_eval26 {g k oc : Nat} {ar : Int32} (hgc : g < 2) (hk : k < oc) (hoc : oc ≤ 4) (hG : pr_gw (g * 32) K V A B rk) (hg : gr_at (g * 32) K V A B a_nodeKind a_nodeValue a_nodeA a_nodeB) (hO : ∀ k, k < oc → pr_T (g * 32) K (O (g * 4 + k)) ∧ a_outputNode (g * 4 + k) = nI (O (g * 4 + k)))
    (h : ∀ nr' se' od' st', post (pr_ev K V A B ar 32 (O (g * 4 + k))) (f_maxNodes, f_maxRules, f_ruleCount, f_counterexample, f_optimized, f_nodeCount, (nI oc), f_applications, a_preRelation, a_preVariable, a_preConstant, a_roomNeeded, a_useCount, a_treeSize, a_treeKind, a_treeValue, a_treeA, a_treeB, a_treeResult, a_constantValued, a_maximal, a_counterpart, a_boundNode, a_pending, a_pendingCount, a_nodeKind, a_nodeValue, a_nodeA, a_nodeB, nr', a_nodeUses, a_outputNode, se', od', st')) :
    wX_eval_26 post (nI k) ar (nI g) f_maxNodes f_maxRules f_ruleCount f_counterexample f_optimized f_nodeCount (nI oc) f_applications a_preRelation a_preVariable a_preConstant a_roomNeeded a_useCount a_treeSize a_treeKind a_treeValue a_treeA a_treeB a_treeResult a_constantValued a_maximal a_counterpart a_boundNode a_pending a_pendingCount a_nodeKind a_nodeValue a_nodeA a_nodeB a_nodeResult a_nodeUses a_outputNode a_seen a_order a_walkStack := by
  have hlk := pr_lv_ok (O := O) (ob := g * 4) (pr_gw_T hG) (pr_gw_r hG) oc (fun k hk => (hO k hk).1)
  have hpre := pr_pre_lv (O := O) (ob := g * 4) (pr_gw_T hG) (pr_gw_r hG) oc (fun k hk => (hO k hk).1)
  unfold wX_eval_26
  refine x_listLive (by omega) hG hg hgc hoc hO (fun se' od' st' h1 h2 => ⟨(pr_lv A B O (g * 4) oc).length + 1, ?_⟩)
  exact x_eval39 hgc hk hoc hG hg hO hlk hpre h2 (fun nr' => h nr' se' od' st') _ 0 a_nodeResult (by omega) (fun q hq => absurd hq (by omega))
end XK
end
section
/-! Y: small methods, trees read -/
section YB
variable {f_maxNodes f_maxRules f_phase f_nCount f_outCnt f_apps f_ruleCount f_cex f_curLive f_orderN : Int32} {a_alive a_nKind a_nVal a_nA a_nB a_lv a_nd a_nv a_outs a_tKind a_tVal a_tA a_tB a_tN a_preRel a_preJ a_preK a_ruleUse a_pend a_pendN a_tv a_cv a_mx a_par a_mp a_res a_bnd a_order a_stk a_stSt : Nat → Int32}
variable {post : Int32 → Prop} {w n κ j : Nat} {t : pr_PT} {u : SY}
theorem y_isBin_t (h1 : 1 ≤ κ) (h8 : κ ≤ 8) (h : post 1) : wpY_isBin post u (nI κ) := by
  obtain ⟨f_maxNodes, f_maxRules, f_phase, f_nCount, f_outCnt, f_apps, f_ruleCount, f_cex, f_curLive, f_orderN, a_alive, a_nKind, a_nVal, a_nA, a_nB, a_lv, a_nd, a_nv, a_outs, a_tKind, a_tVal, a_tA, a_tB, a_tN, a_preRel, a_preJ, a_preK, a_ruleUse, a_pend, a_pendN, a_tv, a_cv, a_mx, a_par, a_mp, a_res, a_bnd, a_order, a_stk, a_stSt⟩ := u
  exact pk_lt κ 1 (fun h => absurd h (by omega)) (fun _ => pk_lt 8 κ (fun h => absurd h (by omega)) (fun _ => h))
theorem y_isBin_f (hκ : κ < 2 ^ 31) (h0 : κ = 0 ∨ 9 ≤ κ) (h : post 0) : wpY_isBin post u (nI κ) := by
  obtain ⟨f_maxNodes, f_maxRules, f_phase, f_nCount, f_outCnt, f_apps, f_ruleCount, f_cex, f_curLive, f_orderN, a_alive, a_nKind, a_nVal, a_nA, a_nB, a_lv, a_nd, a_nv, a_outs, a_tKind, a_tVal, a_tA, a_tB, a_tN, a_preRel, a_preJ, a_preK, a_ruleUse, a_pend, a_pendN, a_tv, a_cv, a_mx, a_par, a_mp, a_res, a_bnd, a_order, a_stk, a_stSt⟩ := u
  exact pk_lt κ 1 (fun _ => h) (fun _ => pk_lt 8 κ (fun _ => h) (fun h => absurd h (by omega)))
theorem y_isUn_t (h1 : κ = 9 ∨ κ = 10) (h : post 1) : wpY_isUn post u (nI κ) := by
  obtain ⟨f_maxNodes, f_maxRules, f_phase, f_nCount, f_outCnt, f_apps, f_ruleCount, f_cex, f_curLive, f_orderN, a_alive, a_nKind, a_nVal, a_nA, a_nB, a_lv, a_nd, a_nv, a_outs, a_tKind, a_tVal, a_tA, a_tB, a_tN, a_preRel, a_preJ, a_preK, a_ruleUse, a_pend, a_pendN, a_tv, a_cv, a_mx, a_par, a_mp, a_res, a_bnd, a_order, a_stk, a_stSt⟩ := u
  exact pk_eq κ 9 (fun _ => h) (fun _ => pk_eq κ 10 (fun _ => h) (fun h => absurd h (by omega)))
theorem y_isUn_f (hκ : κ < 2 ^ 31) (h0 : κ ≠ 9 ∧ κ ≠ 10) (h : post 0) : wpY_isUn post u (nI κ) := by
  obtain ⟨f_maxNodes, f_maxRules, f_phase, f_nCount, f_outCnt, f_apps, f_ruleCount, f_cex, f_curLive, f_orderN, a_alive, a_nKind, a_nVal, a_nA, a_nB, a_lv, a_nd, a_nv, a_outs, a_tKind, a_tVal, a_tA, a_tB, a_tN, a_preRel, a_preJ, a_preK, a_ruleUse, a_pend, a_pendN, a_tv, a_cv, a_mx, a_par, a_mp, a_res, a_bnd, a_order, a_stk, a_stSt⟩ := u
  exact pk_eq κ 9 (fun h => absurd h h0.1) (fun _ => pk_eq κ 10 (fun h => absurd h h0.2) (fun _ => h))
theorem y_weight (hκ : κ < 2 ^ 31) (h : post (nI (pr_w κ))) : wpY_weight post u (nI κ) := by
  obtain ⟨f_maxNodes, f_maxRules, f_phase, f_nCount, f_outCnt, f_apps, f_ruleCount, f_cex, f_curLive, f_orderN, a_alive, a_nKind, a_nVal, a_nA, a_nB, a_lv, a_nd, a_nv, a_outs, a_tKind, a_tVal, a_tA, a_tB, a_tN, a_preRel, a_preJ, a_preK, a_ruleUse, a_pend, a_pendN, a_tv, a_cv, a_mx, a_par, a_mp, a_res, a_bnd, a_order, a_stk, a_stSt⟩ := u
  unfold pr_w at h
  refine pk_eq κ 3 (fun e => ?_) (fun e => pk_lt κ 1 (fun h1 => ?_) (fun h1 => pk_lt 10 κ (fun h2 => ?_) (fun h2 => ?_)))
  · rw [if_pos e] at h
    exact h
  · rw [if_neg e, if_neg (by omega)] at h
    exact h
  · rw [if_neg e, if_neg (by omega)] at h
    exact h
  · rw [if_neg e, if_pos (by omega)] at h
    exact h
theorem y_op {a b : Int32} (h1 : 1 ≤ κ) (h10 : κ ≤ 10) (h : post (pr_op κ a b)) : wpY_op post u (nI κ) a b := by
  obtain ⟨f_maxNodes, f_maxRules, f_phase, f_nCount, f_outCnt, f_apps, f_ruleCount, f_cex, f_curLive, f_orderN, a_alive, a_nKind, a_nVal, a_nA, a_nB, a_lv, a_nd, a_nv, a_outs, a_tKind, a_tVal, a_tA, a_tB, a_tN, a_preRel, a_preJ, a_preK, a_ruleUse, a_pend, a_pendN, a_tv, a_cv, a_mx, a_par, a_mp, a_res, a_bnd, a_order, a_stk, a_stSt⟩ := u
  unfold pr_op at h
  refine pk_eq κ 1 (fun e => ?_) (fun n1 => pk_eq κ 2 (fun e => ?_) (fun n2 => pk_eq κ 3 (fun e => ?_) (fun n3 => pk_eq κ 4 (fun e => ?_) (fun n4 => pk_eq κ 5 (fun e => ?_) (fun n5 => pk_eq κ 6 (fun e => ?_) (fun n6 => pk_eq κ 7 (fun e => ?_) (fun n7 => pk_eq κ 8 (fun e => ?_) (fun n8 => pk_eq κ 9 (fun e => ?_) (fun n9 => ?_)))))))))
  · rw [if_pos e] at h; exact h
  · rw [if_neg n1, if_pos e] at h; exact h
  · rw [if_neg n1, if_neg n2, if_pos e] at h; exact h
  · rw [if_neg n1, if_neg n2, if_neg n3, if_pos e] at h; exact h
  · rw [if_neg n1, if_neg n2, if_neg n3, if_neg n4, if_pos e] at h; exact h
  · rw [if_neg n1, if_neg n2, if_neg n3, if_neg n4, if_neg n5, if_pos e] at h; exact h
  · rw [if_neg n1, if_neg n2, if_neg n3, if_neg n4, if_neg n5, if_neg n6, if_pos e] at h
    by_cases hb : b < 8
    · rw [if_pos hb] at h
      exact br_f (Int32.not_le.mpr hb) h
    · rw [if_neg hb] at h
      exact br_t (Int32.not_lt.mp hb) h
  · rw [if_neg n1, if_neg n2, if_neg n3, if_neg n4, if_neg n5, if_neg n6, if_neg n7, if_pos e] at h
    by_cases hb : b < 8
    · rw [if_pos hb] at h
      exact br_f (Int32.not_le.mpr hb) h
    · rw [if_neg hb] at h
      exact br_t (Int32.not_lt.mp hb) h
  · rw [if_neg n1, if_neg n2, if_neg n3, if_neg n4, if_neg n5, if_neg n6, if_neg n7, if_neg n8, if_pos e] at h; exact h
  · rw [if_neg n1, if_neg n2, if_neg n3, if_neg n4, if_neg n5, if_neg n6, if_neg n7, if_neg n8, if_neg n9] at h; exact h
theorem y_has3 {o : Nat} (hw : w < 34) (ht : pt_n t ≤ 8) (hT : tr_at o w t a_tN a_tKind a_tVal a_tA a_tB) (hk : ∀ i, i < pt_n t → pt_k t i < 100 ∧ pt_v t i < 1000) (hκ : κ < 100) (hj : j < 1000) (h : post (pr_b (pt_has t κ j))) :
    ∀ d i, i + d = pt_n t → pt_hs t κ j i = false → wY_has_3 post (nI w) (nI κ) (nI j) f_maxNodes f_maxRules f_phase f_nCount f_outCnt f_apps f_ruleCount f_cex f_curLive f_orderN a_alive a_nKind a_nVal a_nA a_nB a_lv a_nd a_nv a_outs a_tKind a_tVal a_tA a_tB a_tN a_preRel a_preJ a_preK a_ruleUse a_pend a_pendN a_tv a_cv a_mx a_par a_mp a_res a_bnd a_order a_stk a_stSt (d + 1) (nI i) := by
  intro d
  induction d with
  | zero =>
    intro i hi hs
    refine ⟨pk_in w 34 hw, ?_⟩
    rw [nI_clamp (by omega), hT.1]
    refine pk_le (pt_n t) i (fun _ => ?_) (fun h => absurd h (by omega))
    have e : i = pt_n t := by omega
    unfold pt_has at h
    rw [← e, hs] at h
    exact h
  | succ d ih =>
    intro i hi hs
    have hi' : i < pt_n t := by omega
    obtain ⟨e1, e2, _, _⟩ := hT.2 i hi'
    have hk' := hk i hi'
    have hcl : (nI (w * 8 + i)).toNatClampNeg = w * 8 + i := nI_clamp (by omega)
    have hnx : ¬ (pt_k t i = κ ∧ pt_v t i = j) → wY_has_3 post (nI w) (nI κ) (nI j) f_maxNodes f_maxRules f_phase f_nCount f_outCnt f_apps f_ruleCount f_cex f_curLive f_orderN a_alive a_nKind a_nVal a_nA a_nB a_lv a_nd a_nv a_outs a_tKind a_tVal a_tA a_tB a_tN a_preRel a_preJ a_preK a_ruleUse a_pend a_pendN a_tv a_cv a_mx a_par a_mp a_res a_bnd a_order a_stk a_stSt (d + 1) (nI i + 1) := by
      intro hx
      rw [nI_1]
      refine ih (i + 1) (by omega) ?_
      show (pt_hs t κ j i || (decide (pt_k t i = κ) && decide (pt_v t i = j))) = false
      rw [hs, Bool.false_or, Bool.and_eq_false_iff, decide_eq_false_iff_not, decide_eq_false_iff_not]
      by_cases h1 : pt_k t i = κ
      · exact Or.inr fun h2 => hx ⟨h1, h2⟩
      · exact Or.inl h1
    refine ⟨pk_in w 34 hw, ?_⟩
    rw [nI_clamp (n := w) (by omega), hT.1]
    refine pk_le (pt_n t) i (fun h => absurd h (by omega)) (fun _ => pk_le 8 i (fun h => absurd h (by omega)) (fun _ => ?_))
    rw [nx_8, hcl, e1]
    refine ⟨pk_in (w * 8 + i) 272 (by omega), ?_⟩
    refine pk_eq (pt_k t i) κ (fun h1 => ⟨pk_in (w * 8 + i) 272 (by omega), ?_⟩) (fun h1 => nm_e (hnx fun hx => h1 hx.1))
    rw [e2]
    refine pk_eq (pt_v t i) j (fun h2 => ?_) (fun h2 => nm_e (hnx fun hx => h2 hx.2))
    rw [pt_has_t.mpr ⟨i, hi', h1, h2⟩] at h
    exact h
theorem y_has {o : Nat} (hw : w < 34) (ht : pt_ok t) (hT : tr_at o w t a_tN a_tKind a_tVal a_tA a_tB) (hκ : κ < 100) (hj : j < 1000) (h : post (pr_b (pt_has t κ j))) : wpY_has post (f_maxNodes, f_maxRules, f_phase, f_nCount, f_outCnt, f_apps, f_ruleCount, f_cex, f_curLive, f_orderN, a_alive, a_nKind, a_nVal, a_nA, a_nB, a_lv, a_nd, a_nv, a_outs, a_tKind, a_tVal, a_tA, a_tB, a_tN, a_preRel, a_preJ, a_preK, a_ruleUse, a_pend, a_pendN, a_tv, a_cv, a_mx, a_par, a_mp, a_res, a_bnd, a_order, a_stk, a_stSt) (nI w) (nI κ) (nI j) :=
  ⟨pt_n t + 1, y_has3 hw ht.1 hT (pt_sm ht) hκ hj h (pt_n t) 0 (by omega) rfl⟩
end YB
section YC
variable {f_maxNodes f_maxRules f_phase f_nCount f_outCnt f_apps f_ruleCount f_cex f_curLive f_orderN : Int32} {a_alive a_nKind a_nVal a_nA a_nB a_lv a_nd a_nv a_outs a_tKind a_tVal a_tA a_tB a_tN a_preRel a_preJ a_preK a_ruleUse a_pend a_pendN a_tv a_cv a_mx a_par a_mp a_res a_bnd a_order a_stk a_stSt : Nat → Int32}
variable {post : Int32 → SY → Prop} {w : Nat} {t : pr_PT} {v0 v1 : Int32}
theorem y_evalTree11 (hw : w < 34) (ht : pt_ok t) (h0 : 0 < pt_n t) (hT : tr_at 0 w t a_tN a_tKind a_tVal a_tA a_tB) (h : ∀ tv', (∀ q, q < pt_n t → tv' q = pt_tv t v0 v1 q) → post (pt_tv t v0 v1 (pt_n t - 1)) (f_maxNodes, f_maxRules, f_phase, f_nCount, f_outCnt, f_apps, f_ruleCount, f_cex, f_curLive, f_orderN, a_alive, a_nKind, a_nVal, a_nA, a_nB, a_lv, a_nd, a_nv, a_outs, a_tKind, a_tVal, a_tA, a_tB, a_tN, a_preRel, a_preJ, a_preK, a_ruleUse, a_pend, a_pendN, tv', a_cv, a_mx, a_par, a_mp, a_res, a_bnd, a_order, a_stk, a_stSt)) :
    ∀ d i tv, i + d = pt_n t → (∀ q, q < i → tv q = pt_tv t v0 v1 q) → wY_evalTree_11 post (nI w) v0 v1 (nI (pt_n t)) f_maxNodes f_maxRules f_phase f_nCount f_outCnt f_apps f_ruleCount f_cex f_curLive f_orderN (d + 1) (nI i) a_alive a_nKind a_nVal a_nA a_nB a_lv a_nd a_nv a_outs a_tKind a_tVal a_tA a_tB a_tN a_preRel a_preJ a_preK a_ruleUse a_pend a_pendN tv a_cv a_mx a_par a_mp a_res a_bnd a_order a_stk a_stSt := by
  intro d
  have h8 := ht.1
  induction d with
  | zero =>
    intro i tv hi hq
    refine pk_le (pt_n t) i (fun _ => ?_) (fun h => absurd h (by omega))
    refine pk_le (pt_n t) 0 (fun h => absurd h (by omega)) (fun _ => pk_lt 8 (pt_n t) (fun h => absurd h (by omega)) (fun _ => ?_))
    rw [pr_s1 h0]
    refine ⟨pk_in (pt_n t - 1) 8 (by omega), ?_⟩
    rw [nI_clamp (by omega), hq _ (by omega)]
    exact h tv fun q hq' => hq q (by omega)
  | succ d ih =>
    intro i tv hi hq
    have hi' : i < pt_n t := by omega
    obtain ⟨e1, e2, e3, e4⟩ := hT.2 i hi'
    have hn := ht.2 i hi'
    have h9 := hn.2.2.2.2.2.2.2.2.1
    have hs := pt_sm ht i hi'
    have hcl : (nI (w * 8 + i)).toNatClampNeg = w * 8 + i := nI_clamp (by omega)
    have hci : (nI i).toNatClampNeg = i := nI_clamp (by omega)
    have hnx : ∀ x : Int32, x = pt_tv t v0 v1 i → wY_evalTree_11 post (nI w) v0 v1 (nI (pt_n t)) f_maxNodes f_maxRules f_phase f_nCount f_outCnt f_apps f_ruleCount f_cex f_curLive f_orderN (d + 1) (nI i + 1) a_alive a_nKind a_nVal a_nA a_nB a_lv a_nd a_nv a_outs a_tKind a_tVal a_tA a_tB a_tN a_preRel a_preJ a_preK a_ruleUse a_pend a_pendN (upd tv i x) a_cv a_mx a_par a_mp a_res a_bnd a_order a_stk a_stSt := by
      intro x hx
      rw [nI_1]
      refine ih (i + 1) _ (by omega) fun q hq' => ?_
      by_cases e : q = i
      · rw [e, pk_us, hx]
      · rw [pk_un e]
        exact hq q (by omega)
    have heq := pt_tv_eq (v0 := v0) (v1 := v1) ht hi'
    unfold pt_vF at heq
    refine pk_le (pt_n t) i (fun h => absurd h (by omega)) (fun _ => pk_le 8 i (fun h => absurd h (by omega)) (fun _ => ?_))
    refine nm_r (nx_8 w i) ⟨pk_in (w * 8 + i) 272 (by omega), ?_⟩
    rw [hcl]
    refine nm_r e1 ?_
    have hin : vp_in (nI (w * 8 + i)) 272 := pk_in (w * 8 + i) 272 (by omega)
    have hin8 : vp_in (nI i) 8 := pk_in i 8 (by omega)
    have h1314 : 13 ≤ pt_k t i → wY_evalTree_81 post (wY_evalTree_11 post (nI w) v0 v1 (nI (pt_n t)) f_maxNodes f_maxRules f_phase f_nCount f_outCnt f_apps f_ruleCount f_cex f_curLive f_orderN (d + 1)) (nI w) v0 v1 (nI (pt_n t)) (nI i) (nI (w * 8 + i)) f_maxNodes f_maxRules f_phase f_nCount f_outCnt f_apps f_ruleCount f_cex f_curLive f_orderN a_alive a_nKind a_nVal a_nA a_nB a_lv a_nd a_nv a_outs a_tKind a_tVal a_tA a_tB a_tN a_preRel a_preJ a_preK a_ruleUse a_pend a_pendN tv a_cv a_mx a_par a_mp a_res a_bnd a_order a_stk a_stSt := by
      intro h13
      rw [if_neg (by omega), if_pos h13] at heq
      refine ⟨hin, ?_⟩
      rw [hcl, e2]
      refine pk_eq (pt_v t i) 0 (fun e => ⟨hin8, ?_⟩) (fun e => ⟨hin8, ?_⟩)
      · rw [hci]
        rw [if_pos e] at heq
        exact nm_e (nm_e (hnx _ heq.symm))
      · rw [hci]
        rw [if_neg e] at heq
        exact nm_e (nm_e (hnx _ heq.symm))
    refine pk_eq (pt_k t i) 11 (fun e => ⟨hin, hin8, ?_⟩) (fun n11 => pk_eq (pt_k t i) 13 (fun e => h1314 (by omega)) (fun n13 => pk_eq (pt_k t i) 14 (fun e => h1314 (by omega)) (fun n14 => ?_)))
    · rw [if_pos e] at heq
      rw [hci, e2]
      exact nm_e (nm_e (hnx _ heq.symm))
    · have hk : pt_k t i ≤ 10 := by have := hn.1; omega
      rw [if_neg n11, if_neg (by omega)] at heq
      obtain ⟨ca, hca⟩ := hn.2.2.2.2.2.2.1 hk
      have hca' := h9 ca (Or.inl hca)
      have eA : a_tA (w * 8 + i) = nI ca := by
        rw [e3, hca]
        show nI (0 + ca) = nI ca
        rw [Nat.zero_add]
      rw [hca] at heq
      by_cases hb : pt_k t i ≤ 8
      · obtain ⟨cb, hcb⟩ := hn.2.2.2.2.2.2.2.1 hb
        have hcb' := h9 cb (Or.inr hcb)
        have eB : a_tB (w * 8 + i) = nI cb := by
          rw [e4, hcb]
          show nI (0 + cb) = nI cb
          rw [Nat.zero_add]
        rw [hcb] at heq
        refine y_isBin_t hn.1.1 hb (br_f (by decide) ⟨hin, ?_⟩)
        rw [eA, eB, nI_clamp (n := ca) (by omega), nI_clamp (n := cb) (by omega)]
        refine ⟨pk_in ca 8 (by omega), hin, pk_in cb 8 (by omega), y_op hn.1.1 hk ⟨hin8, ?_⟩⟩
        rw [hci]
        refine nm_e (nm_e (hnx _ ?_))
        rw [heq, hq ca (by omega), hq cb (by omega)]
        rfl
      · rw [hn.2.2.2.2.2.1 (by omega)] at heq
        refine y_isBin_f (by omega) (by omega) (br_t rfl ⟨hin, ?_⟩)
        rw [eA, nI_clamp (n := ca) (by omega)]
        refine ⟨pk_in ca 8 (by omega), y_op hn.1.1 hk ⟨hin8, ?_⟩⟩
        rw [hci]
        refine nm_e (nm_e (hnx _ ?_))
        rw [heq, hq ca (by omega)]
        rfl
theorem y_evalTree (hw : w < 34) (ht : pt_ok t) (h0 : 0 < pt_n t) (hT : tr_at 0 w t a_tN a_tKind a_tVal a_tA a_tB) (h : ∀ tv', (∀ q, q < pt_n t → tv' q = pt_tv t v0 v1 q) → post (pt_tv t v0 v1 (pt_n t - 1)) (f_maxNodes, f_maxRules, f_phase, f_nCount, f_outCnt, f_apps, f_ruleCount, f_cex, f_curLive, f_orderN, a_alive, a_nKind, a_nVal, a_nA, a_nB, a_lv, a_nd, a_nv, a_outs, a_tKind, a_tVal, a_tA, a_tB, a_tN, a_preRel, a_preJ, a_preK, a_ruleUse, a_pend, a_pendN, tv', a_cv, a_mx, a_par, a_mp, a_res, a_bnd, a_order, a_stk, a_stSt)) :
    wpY_evalTree post (f_maxNodes, f_maxRules, f_phase, f_nCount, f_outCnt, f_apps, f_ruleCount, f_cex, f_curLive, f_orderN, a_alive, a_nKind, a_nVal, a_nA, a_nB, a_lv, a_nd, a_nv, a_outs, a_tKind, a_tVal, a_tA, a_tB, a_tN, a_preRel, a_preJ, a_preK, a_ruleUse, a_pend, a_pendN, a_tv, a_cv, a_mx, a_par, a_mp, a_res, a_bnd, a_order, a_stk, a_stSt) (nI w) v0 v1 := by
  unfold wpY_evalTree
  refine ⟨pk_in w 34 hw, ?_⟩
  rw [nI_clamp (by omega)]
  refine nm_r hT.1 ⟨pt_n t + 1, ?_⟩
  exact y_evalTree11 hw ht h0 hT h (pt_n t) 0 a_tv (by omega) (fun q hq => absurd hq (by omega))
end YC
end
section
/-! Y: constFlags -/
def pr_pi (i : Nat) (o : Option Nat) : Int32 := match o with
  | none => -1
  | some p => if p < i then nI p else -1
theorem pr_pi_up {i : Nat} {o : Option Nat} (h : o ≠ some i) : pr_pi (i + 1) o = pr_pi i o := by
  cases o with
  | none => rfl
  | some p =>
    have : p ≠ i := fun e => h (by rw [e])
    show (if p < i + 1 then nI p else -1) = (if p < i then nI p else -1)
    by_cases hp : p < i
    · rw [if_pos hp, if_pos (by omega)]
    · rw [if_neg hp, if_neg (by omega)]
theorem pr_pi_s (i : Nat) : pr_pi (i + 1) (some i) = nI i := by
  show (if i < i + 1 then nI i else -1) = nI i
  rw [if_pos (by omega)]
section YD
variable {f_maxNodes f_maxRules f_phase f_nCount f_outCnt f_apps f_ruleCount f_cex f_curLive f_orderN : Int32} {a_alive a_nKind a_nVal a_nA a_nB a_lv a_nd a_nv a_outs a_tKind a_tVal a_tA a_tB a_tN a_preRel a_preJ a_preK a_ruleUse a_pend a_pendN a_tv a_cv a_mx a_par a_mp a_res a_bnd a_order a_stk a_stSt : Nat → Int32}
variable {post : SY → Prop} {r wp w : Nat} {p t : pr_PT} {C : Nat → Bool}
theorem y_flags246 (ht : pt_ok t) (hcv : ∀ q, q < pt_n t → a_cv q = pr_b (pt_cv t C q)) (hpar : ∀ q, q < pt_n t → a_par q = pr_pi (pt_n t) (pt_p t q))
    (h : ∀ mx', (∀ q, q < pt_n t → mx' q = pr_b (pt_mx t C q)) → post (f_maxNodes, f_maxRules, f_phase, f_nCount, f_outCnt, f_apps, f_ruleCount, f_cex, f_curLive, f_orderN, a_alive, a_nKind, a_nVal, a_nA, a_nB, a_lv, a_nd, a_nv, a_outs, a_tKind, a_tVal, a_tA, a_tB, a_tN, a_preRel, a_preJ, a_preK, a_ruleUse, a_pend, a_pendN, a_tv, a_cv, mx', a_par, a_mp, a_res, a_bnd, a_order, a_stk, a_stSt)) :
    ∀ d i mx, i + d = pt_n t → (∀ q, q < i → mx q = pr_b (pt_mx t C q)) → wY_constFlags_246 post (nI (pt_n t)) f_maxNodes f_maxRules f_phase f_nCount f_outCnt f_apps f_ruleCount f_cex f_curLive f_orderN (d + 1) (nI i) a_alive a_nKind a_nVal a_nA a_nB a_lv a_nd a_nv a_outs a_tKind a_tVal a_tA a_tB a_tN a_preRel a_preJ a_preK a_ruleUse a_pend a_pendN a_tv a_cv mx a_par a_mp a_res a_bnd a_order a_stk a_stSt := by
  intro d
  have h8 := ht.1
  induction d with
  | zero =>
    intro i mx hi hq
    refine pk_le (pt_n t) i (fun _ => ?_) (fun h => absurd h (by omega))
    exact h mx fun q hq' => hq q (by omega)
  | succ d ih =>
    intro i mx hi hq
    have hi' : i < pt_n t := by omega
    have hin : vp_in (nI i) 8 := pk_in i 8 (by omega)
    have hcl : (nI i).toNatClampNeg = i := nI_clamp (by omega)
    have hnx : ∀ x : Int32, x = pr_b (pt_mx t C i) → wY_constFlags_246 post (nI (pt_n t)) f_maxNodes f_maxRules f_phase f_nCount f_outCnt f_apps f_ruleCount f_cex f_curLive f_orderN (d + 1) (nI i + 1) a_alive a_nKind a_nVal a_nA a_nB a_lv a_nd a_nv a_outs a_tKind a_tVal a_tA a_tB a_tN a_preRel a_preJ a_preK a_ruleUse a_pend a_pendN a_tv a_cv (upd mx i x) a_par a_mp a_res a_bnd a_order a_stk a_stSt := by
      intro x hx
      rw [nI_1]
      refine ih (i + 1) _ (by omega) fun q hq' => ?_
      by_cases e : q = i
      · rw [e, pk_us, hx]
      · rw [pk_un e]
        exact hq q (by omega)
    refine pk_le (pt_n t) i (fun h => absurd h (by omega)) (fun _ => pk_le 8 i (fun h => absurd h (by omega)) (fun _ => ⟨hin, ?_⟩))
    rw [hcl, hcv i hi']
    unfold pt_mx at hnx
    refine br_c (fun h0 => ⟨hin, ?_⟩) (fun h0 => ⟨hin, ?_⟩)
    · rw [pr_vb0]
      refine nm_e (nm_e (hnx _ ?_))
      rw [(pr_b0 _).mp h0, Bool.false_and]
      rfl
    · have hx : pt_cv t C i = true := by
        cases hx : pt_cv t C i with
        | true => rfl
        | false => rw [hx] at h0; exact absurd rfl h0
      rw [hx, Bool.true_and] at hnx
      rw [hpar i hi']
      cases hp : pt_p t i with
      | none =>
        rw [hp] at hnx
        refine br_t (show (-1 : Int32) < 0 by decide) ⟨hin, ?_⟩
        rw [pr_vb1]
        exact nm_e (nm_e (hnx _ rfl))
      | some x =>
        rw [hp] at hnx
        have hx' := (ht.2 i hi').2.2.2.2.2.2.2.2.2.2 x hp
        have e : pr_pi (pt_n t) (some x) = nI x := by
          show (if x < pt_n t then nI x else -1) = nI x
          rw [if_pos hx'.2.1]
        rw [e]
        refine br_f (nI_pos (by omega)) ⟨hin, pk_in x 8 (by omega), ?_⟩
        rw [nI_clamp (n := x) (by omega), hcv x hx'.2.1]
        refine br_c (fun h1 => ⟨hin, ?_⟩) (fun h1 => ⟨hin, ?_⟩)
        · rw [pr_vb1]
          refine nm_e (nm_e (hnx _ ?_))
          show 1 = pr_b (!pt_cv t C x)
          rw [(pr_b0 _).mp h1]
          rfl
        · rw [pr_vb0]
          refine nm_e (nm_e (hnx _ ?_))
          show 0 = pr_b (!pt_cv t C x)
          cases hy : pt_cv t C x with
          | true => rfl
          | false => rw [hy] at h1; exact absurd rfl h1
theorem y_flags40 (hwp : wp < 34) (hw : w < 34) (hp : pt_ok p) (ht : pt_ok t) (h14 : ∀ i, i < pt_n t → pt_k t i ≠ 14) (hC : C = pt_has p 14) (hr : nI wp = 2 * nI r) (hP : tr_at 0 wp p a_tN a_tKind a_tVal a_tA a_tB) (hT : tr_at 0 w t a_tN a_tKind a_tVal a_tA a_tB)
    (h : ∀ cv' mx' par', (∀ q, q < pt_n t → cv' q = pr_b (pt_cv t C q)) → (∀ q, q < pt_n t → mx' q = pr_b (pt_mx t C q)) → post (f_maxNodes, f_maxRules, f_phase, f_nCount, f_outCnt, f_apps, f_ruleCount, f_cex, f_curLive, f_orderN, a_alive, a_nKind, a_nVal, a_nA, a_nB, a_lv, a_nd, a_nv, a_outs, a_tKind, a_tVal, a_tA, a_tB, a_tN, a_preRel, a_preJ, a_preK, a_ruleUse, a_pend, a_pendN, a_tv, cv', mx', par', a_mp, a_res, a_bnd, a_order, a_stk, a_stSt)) :
    ∀ d i cv par, i + d = pt_n t → (∀ q, q < i → cv q = pr_b (pt_cv t C q)) → (∀ q, q < pt_n t → par q = pr_pi i (pt_p t q)) → wY_constFlags_40 post (nI r) (nI w) (nI (pt_n t)) f_maxNodes f_maxRules f_phase f_nCount f_outCnt f_apps f_ruleCount f_cex f_curLive f_orderN (d + 1) (nI i) a_alive a_nKind a_nVal a_nA a_nB a_lv a_nd a_nv a_outs a_tKind a_tVal a_tA a_tB a_tN a_preRel a_preJ a_preK a_ruleUse a_pend a_pendN a_tv cv a_mx par a_mp a_res a_bnd a_order a_stk a_stSt := by
  intro d
  have h8 := ht.1
  induction d with
  | zero =>
    intro i cv par hi hq hpar
    refine pk_le (pt_n t) i (fun _ => ⟨pt_n t + 1, ?_⟩) (fun h => absurd h (by omega))
    have e : i = pt_n t := by omega
    rw [e] at hq hpar
    exact y_flags246 ht hq hpar (fun mx' hm => h cv mx' par hq hm) (pt_n t) 0 a_mx (by omega) (fun q hq => absurd hq (by omega))
  | succ d ih =>
    intro i cv par hi hq hpar
    have hi' : i < pt_n t := by omega
    obtain ⟨e1, e2, e3, e4⟩ := hT.2 i hi'
    have hn := ht.2 i hi'
    have h9 := hn.2.2.2.2.2.2.2.2.1
    have hs := pt_sm ht i hi'
    have hcl : (nI (w * 8 + i)).toNatClampNeg = w * 8 + i := nI_clamp (by omega)
    have hci : (nI i).toNatClampNeg = i := nI_clamp (by omega)
    have hin : vp_in (nI (w * 8 + i)) 272 := pk_in (w * 8 + i) 272 (by omega)
    have hin8 : vp_in (nI i) 8 := pk_in i 8 (by omega)
    have hnx : ∀ (x : Int32) par', x = pr_b (pt_cv t C i) → (∀ q, q < pt_n t → par' q = pr_pi (i + 1) (pt_p t q)) → wY_constFlags_40 post (nI r) (nI w) (nI (pt_n t)) f_maxNodes f_maxRules f_phase f_nCount f_outCnt f_apps f_ruleCount f_cex f_curLive f_orderN (d + 1) (nI i + 1) a_alive a_nKind a_nVal a_nA a_nB a_lv a_nd a_nv a_outs a_tKind a_tVal a_tA a_tB a_tN a_preRel a_preJ a_preK a_ruleUse a_pend a_pendN a_tv (upd cv i x) a_mx par' a_mp a_res a_bnd a_order a_stk a_stSt := by
      intro x par' hx hp'
      rw [nI_1]
      refine ih (i + 1) _ _ (by omega) (fun q hq' => ?_) hp'
      by_cases e : q = i
      · rw [e, pk_us, hx]
      · rw [pk_un e]
        exact hq q (by omega)
    have hleaf : 11 ≤ pt_k t i → ∀ q, q < pt_n t → par q = pr_pi (i + 1) (pt_p t q) := by
      intro h11 q hq'
      rw [hpar q hq', pr_pi_up]
      intro hx
      rcases ((ht.2 q hq').2.2.2.2.2.2.2.2.2.2 i hx).2.2 with y | y
      · rw [hn.2.2.2.2.1 h11] at y
        cases y
      · rw [hn.2.2.2.2.2.1 (by omega)] at y
        cases y
    have heq := pt_cv_eq (C := C) ht hi'
    unfold pt_cF at heq
    refine pk_le (pt_n t) i (fun h => absurd h (by omega)) (fun _ => pk_le 8 i (fun h => absurd h (by omega)) (fun _ => ?_))
    refine nm_r (nx_8 w i) ⟨hin, ?_⟩
    rw [hcl]
    refine nm_r e1 ?_
    refine pk_eq (pt_k t i) 11 (fun e => ⟨hin8, ?_⟩) (fun n11 => pk_eq (pt_k t i) 13 (fun e => ⟨hin, ?_⟩) (fun n13 => ?_))
    · rw [hci, pr_vb1]
      refine nm_e (nm_e (hnx _ _ ?_ (hleaf (by omega))))
      rw [if_neg (by omega), hn.2.2.2.2.1 (by omega), hn.2.2.2.2.2.1 (by omega)] at heq
      rw [heq]
      rfl
    · rw [e2, ← hr]
      refine y_has hwp hp hP (by decide) hs.2 ⟨hin8, ?_⟩
      rw [hci, pr_nb]
      refine nm_e (nm_e (hnx _ _ ?_ (hleaf (by omega))))
      rw [if_pos e] at heq
      rw [heq, hC]
    · have hk : pt_k t i ≤ 10 := by
        have := h14 i hi'
        have := hn.1
        omega
      rw [if_neg n13] at heq
      obtain ⟨ca, hca⟩ := hn.2.2.2.2.2.2.1 hk
      have hca' := h9 ca (Or.inl hca)
      have eA : a_tA (w * 8 + i) = nI ca := by
        rw [e3, hca]
        show nI (0 + ca) = nI ca
        rw [Nat.zero_add]
      rw [hca] at heq
      have hina : vp_in (nI ca) 8 := pk_in ca 8 (by omega)
      have hcla : (nI ca).toNatClampNeg = ca := nI_clamp (by omega)
      by_cases hb : pt_k t i ≤ 8
      · obtain ⟨cb, hcb⟩ := hn.2.2.2.2.2.2.2.1 hb
        have hcb' := h9 cb (Or.inr hcb)
        have eB : a_tB (w * 8 + i) = nI cb := by
          rw [e4, hcb]
          show nI (0 + cb) = nI cb
          rw [Nat.zero_add]
        rw [hcb] at heq
        have hinb : vp_in (nI cb) 8 := pk_in cb 8 (by omega)
        have hclb : (nI cb).toNatClampNeg = cb := nI_clamp (by omega)
        replace heq : pt_cv t C i = (pt_cv t C ca && pt_cv t C cb) := heq
        have h172 : ∀ x : Int32, vp_nar .boolean x = pr_b (pt_cv t C i) → wY_constFlags_172 post (wY_constFlags_40 post (nI r) (nI w) (nI (pt_n t)) f_maxNodes f_maxRules f_phase f_nCount f_outCnt f_apps f_ruleCount f_cex f_curLive f_orderN (d + 1)) (nI r) (nI w) (nI (pt_n t)) (nI i) (nI (w * 8 + i)) x (nI i) f_maxNodes f_maxRules f_phase f_nCount f_outCnt f_apps f_ruleCount f_cex f_curLive f_orderN a_alive a_nKind a_nVal a_nA a_nB a_lv a_nd a_nv a_outs a_tKind a_tVal a_tA a_tB a_tN a_preRel a_preJ a_preK a_ruleUse a_pend a_pendN a_tv cv a_mx par a_mp a_res a_bnd a_order a_stk a_stSt := by
          intro x hx
          refine ⟨hin8, ?_⟩
          rw [hci, hcl, eA, eB, hcla, hclb]
          refine nm_e ⟨hin, hina, nm_e ⟨hin, hinb, nm_e (nm_e (hnx _ _ hx fun q hq' => ?_))⟩⟩
          by_cases q1 : q = cb
          · rw [q1, pk_us, hcb'.2, pr_pi_s]
          · rw [pk_un q1]
            by_cases q2 : q = ca
            · rw [q2, pk_us, hca'.2, pr_pi_s]
            · rw [pk_un q2, hpar q hq', pr_pi_up]
              intro hx'
              rcases ((ht.2 q hq').2.2.2.2.2.2.2.2.2.2 i hx').2.2 with y | y
              · rw [hca] at y
                cases y
                exact q2 rfl
              · rw [hcb] at y
                cases y
                exact q1 rfl
        refine y_isBin_t hn.1.1 hb (br_f (by decide) ⟨hin, ?_⟩)
        rw [eA, eB, hcla, hclb, hq ca (by omega), hq cb (by omega)]
        refine ⟨hina, br_c (fun h0 => h172 0 ?_) (fun h0 => ⟨hin, hinb, br_c (fun h1 => h172 0 ?_) (fun h1 => h172 1 ?_)⟩)⟩
        · rw [pr_vb0, heq, (pr_b0 _).mp h0, Bool.false_and]
          rfl
        · rw [pr_vb0, heq, (pr_b0 _).mp h1, Bool.and_false]
          rfl
        · rw [pr_vb1, heq]
          cases hx : pt_cv t C ca with
          | false => rw [hx] at h0; exact absurd rfl h0
          | true =>
            cases hy : pt_cv t C cb with
            | false => rw [hy] at h1; exact absurd rfl h1
            | true => rfl
      · rw [hn.2.2.2.2.2.1 (by omega)] at heq
        replace heq : pt_cv t C i = (pt_cv t C ca && true) := heq
        rw [Bool.and_true] at heq
        refine y_isBin_f (by omega) (by omega) (br_t rfl ⟨hin, ?_⟩)
        rw [eA, hcla, hq ca (by omega), pr_nb]
        refine ⟨hina, hin8, ?_⟩
        rw [hci]
        refine nm_e ⟨hin, hina, nm_e (nm_e (hnx _ _ (by rw [heq]) fun q hq' => ?_))⟩
        by_cases q2 : q = ca
        · rw [q2, pk_us, hca'.2, pr_pi_s]
        · rw [pk_un q2, hpar q hq', pr_pi_up]
          intro hx'
          rcases ((ht.2 q hq').2.2.2.2.2.2.2.2.2.2 i hx').2.2 with y | y
          · rw [hca] at y
            cases y
            exact q2 rfl
          · rw [hn.2.2.2.2.2.1 (by omega)] at y
            cases y
theorem y_flags16 {x1 x2 x3 : Int32} (h : ∀ par', (∀ q, q < 8 → par' q = -1) → ∃ n, wY_constFlags_40 post x1 x2 x3 f_maxNodes f_maxRules f_phase f_nCount f_outCnt f_apps f_ruleCount f_cex f_curLive f_orderN n 0 a_alive a_nKind a_nVal a_nA a_nB a_lv a_nd a_nv a_outs a_tKind a_tVal a_tA a_tB a_tN a_preRel a_preJ a_preK a_ruleUse a_pend a_pendN a_tv a_cv a_mx par' a_mp a_res a_bnd a_order a_stk a_stSt) :
    ∀ d i par, i + d = 8 → (∀ q, q < i → par q = -1) → wY_constFlags_16 post x1 x2 x3 f_maxNodes f_maxRules f_phase f_nCount f_outCnt f_apps f_ruleCount f_cex f_curLive f_orderN (d + 1) (nI i) a_alive a_nKind a_nVal a_nA a_nB a_lv a_nd a_nv a_outs a_tKind a_tVal a_tA a_tB a_tN a_preRel a_preJ a_preK a_ruleUse a_pend a_pendN a_tv a_cv a_mx par a_mp a_res a_bnd a_order a_stk a_stSt := by
  intro d
  induction d with
  | zero =>
    intro i par hi hq
    exact pk_le 8 i (fun _ => h par fun q hq' => hq q (by omega)) (fun h => absurd h (by omega))
  | succ d ih =>
    intro i par hi hq
    refine pk_le 8 i (fun h => absurd h (by omega)) (fun _ => ⟨pk_in i 8 (by omega), ?_⟩)
    rw [nI_clamp (by omega)]
    refine nm_e (nm_r (nI_1 _) (ih (i + 1) _ (by omega) fun q hq' => ?_))
    by_cases e : q = i
    · rw [e, pk_us]
    · rw [pk_un e]
      exact hq q (by omega)
theorem y_constFlags (hr : r < 17) (hp : pt_ok p) (ht : pt_ok t) (h14 : ∀ i, i < pt_n t → pt_k t i ≠ 14) (hC : C = pt_has p 14) (hP : tr_at 0 (r * 2) p a_tN a_tKind a_tVal a_tA a_tB) (hT : tr_at 0 (r * 2 + 1) t a_tN a_tKind a_tVal a_tA a_tB)
    (h : ∀ cv' mx' par', (∀ q, q < pt_n t → cv' q = pr_b (pt_cv t C q)) → (∀ q, q < pt_n t → mx' q = pr_b (pt_mx t C q)) → post (f_maxNodes, f_maxRules, f_phase, f_nCount, f_outCnt, f_apps, f_ruleCount, f_cex, f_curLive, f_orderN, a_alive, a_nKind, a_nVal, a_nA, a_nB, a_lv, a_nd, a_nv, a_outs, a_tKind, a_tVal, a_tA, a_tB, a_tN, a_preRel, a_preJ, a_preK, a_ruleUse, a_pend, a_pendN, a_tv, cv', mx', par', a_mp, a_res, a_bnd, a_order, a_stk, a_stSt)) : wpY_constFlags post (f_maxNodes, f_maxRules, f_phase, f_nCount, f_outCnt, f_apps, f_ruleCount, f_cex, f_curLive, f_orderN, a_alive, a_nKind, a_nVal, a_nA, a_nB, a_lv, a_nd, a_nv, a_outs, a_tKind, a_tVal, a_tA, a_tB, a_tN, a_preRel, a_preJ, a_preK, a_ruleUse, a_pend, a_pendN, a_tv, a_cv, a_mx, a_par, a_mp, a_res, a_bnd, a_order, a_stk, a_stSt) (nI r) := by
  have e2 : 2 * nI r = nI (r * 2) := by
    rw [show (2 : Int32) = nI 2 from rfl, pk_mul, Nat.mul_comm]
  have e3 : (2 * nI r) + 1 = nI (r * 2 + 1) := by
    rw [e2, nI_1]
  unfold wpY_constFlags
  refine nm_r e3 ⟨pk_in (r * 2 + 1) 34 (by omega), ?_⟩
  rw [nI_clamp (by omega)]
  refine nm_r hT.1 ⟨9, ?_⟩
  refine y_flags16 (fun par' hp' => ⟨pt_n t + 1, ?_⟩) 8 0 a_par (by omega) (fun q hq => absurd hq (by omega))
  refine y_flags40 (wp := r * 2) (by omega) (by omega) hp ht h14 hC e2.symm hP hT h (pt_n t) 0 a_cv par' (by omega) (fun q hq => absurd hq (by omega)) (fun q hq => ?_)
  have := ht.1
  rw [hp' q (by omega)]
  cases pt_p t q with
  | none => rfl
  | some x =>
    show -1 = (if x < 0 then nI x else -1)
    rw [if_neg (by omega)]
end YD
end
section
/-! Y: the order of the nodes -/
section YE
variable {f_maxNodes f_maxRules f_phase f_nCount f_outCnt f_apps f_ruleCount f_cex f_curLive f_orderN : Int32} {a_alive a_nKind a_nVal a_nA a_nB a_lv a_nd a_nv a_outs a_tKind a_tVal a_tA a_tB a_tN a_preRel a_preJ a_preK a_ruleUse a_pend a_pendN a_tv a_cv a_mx a_par a_mp a_res a_bnd a_order a_stk a_stSt : Nat → Int32}
variable {K : Nat → Nat} {V : Nat → Int32} {A B : Nat → Option Nat} {rk : Nat → Nat} {post : SY → Prop} {J28 : Int32 → Int32 → (Nat → Int32) → (Nat → Int32) → (Nat → Int32) → (Nat → Int32) → (Nat → Int32) → (Nat → Int32) → (Nat → Int32) → (Nat → Int32) → (Nat → Int32) → (Nat → Int32) → (Nat → Int32) → (Nat → Int32) → (Nat → Int32) → (Nat → Int32) → (Nat → Int32) → (Nat → Int32) → (Nat → Int32) → (Nat → Int32) → (Nat → Int32) → (Nat → Int32) → (Nat → Int32) → (Nat → Int32) → (Nat → Int32) → (Nat → Int32) → (Nat → Int32) → (Nat → Int32) → (Nat → Int32) → (Nat → Int32) → (Nat → Int32) → (Nat → Int32) → Prop} {x1 : Int32}
theorem y_199_skip {J100 : Int32 → Int32 → Int32 → (Nat → Int32) → (Nat → Int32) → (Nat → Int32) → (Nat → Int32) → (Nat → Int32) → (Nat → Int32) → (Nat → Int32) → (Nat → Int32) → (Nat → Int32) → (Nat → Int32) → (Nat → Int32) → (Nat → Int32) → (Nat → Int32) → (Nat → Int32) → (Nat → Int32) → (Nat → Int32) → (Nat → Int32) → (Nat → Int32) → (Nat → Int32) → (Nat → Int32) → (Nat → Int32) → (Nat → Int32) → (Nat → Int32) → (Nat → Int32) → (Nat → Int32) → (Nat → Int32) → (Nat → Int32) → (Nat → Int32) → (Nat → Int32) → (Nat → Int32) → Prop} {d step s : Nat} {x4 : Int32} {o : Option Nat} (hs : s < 2) (hd : d < 40) (ho : ∀ c, o = some c → c < 32 ∧ a_nd c ≠ 0)
    (h : J100 (nI (d + 1)) (nI (step + 1)) f_orderN a_alive a_nKind a_nVal a_nA a_nB a_lv a_nd a_nv a_outs a_tKind a_tVal a_tA a_tB a_tN a_preRel a_preJ a_preK a_ruleUse a_pend a_pendN a_tv a_cv a_mx a_par a_mp a_res a_bnd a_order a_stk (upd a_stSt d (nI (s + 1)))) : wY_buildOrder_199 post J28 J100 x1 (nI (d + 1)) (nI step) x4 (nI s) (pr_oI o) f_maxNodes f_maxRules f_phase f_nCount f_outCnt f_apps f_ruleCount f_cex f_curLive f_orderN a_alive a_nKind a_nVal a_nA a_nB a_lv a_nd a_nv a_outs a_tKind a_tVal a_tA a_tB a_tN a_preRel a_preJ a_preK a_ruleUse a_pend a_pendN a_tv a_cv a_mx a_par a_mp a_res a_bnd a_order a_stk a_stSt := by
  refine pk_eq s 2 (fun h => absurd h (by omega)) (fun _ => ?_)
  rw [nI_pred]
  refine ⟨pk_in d 40 hd, ?_⟩
  rw [nI_clamp (by omega), nI_1]
  refine nm_e ?_
  cases o with
  | none => exact br_t (by decide) (nm_r (nI_1 _) h)
  | some c =>
    have hc := ho c rfl
    refine br_f (nI_pos (by omega)) (pk_le 32 c (fun h => absurd h (by omega)) (fun _ => ⟨pk_in c 64 (by omega), ?_⟩))
    rw [show (pr_oI (some c)).toNatClampNeg = c from nI_clamp (by omega)]
    exact br_f hc.2 (nm_r (nI_1 _) h)
theorem y_199_push {J100 : Int32 → Int32 → Int32 → (Nat → Int32) → (Nat → Int32) → (Nat → Int32) → (Nat → Int32) → (Nat → Int32) → (Nat → Int32) → (Nat → Int32) → (Nat → Int32) → (Nat → Int32) → (Nat → Int32) → (Nat → Int32) → (Nat → Int32) → (Nat → Int32) → (Nat → Int32) → (Nat → Int32) → (Nat → Int32) → (Nat → Int32) → (Nat → Int32) → (Nat → Int32) → (Nat → Int32) → (Nat → Int32) → (Nat → Int32) → (Nat → Int32) → (Nat → Int32) → (Nat → Int32) → (Nat → Int32) → (Nat → Int32) → (Nat → Int32) → (Nat → Int32) → (Nat → Int32) → Prop} {d step s c : Nat} {x4 : Int32} (hs : s < 2) (hd : d < 39) (hc : c < 32) (h0 : a_nd c = 0)
    (h : J100 (nI (d + 1 + 1)) (nI (step + 1)) f_orderN a_alive a_nKind a_nVal a_nA a_nB a_lv a_nd a_nv a_outs a_tKind a_tVal a_tA a_tB a_tN a_preRel a_preJ a_preK a_ruleUse a_pend a_pendN a_tv a_cv a_mx a_par a_mp a_res a_bnd a_order (upd a_stk (d + 1) (nI c)) (upd (upd a_stSt d (nI (s + 1))) (d + 1) 0)) : wY_buildOrder_199 post J28 J100 x1 (nI (d + 1)) (nI step) x4 (nI s) (pr_oI (some c)) f_maxNodes f_maxRules f_phase f_nCount f_outCnt f_apps f_ruleCount f_cex f_curLive f_orderN a_alive a_nKind a_nVal a_nA a_nB a_lv a_nd a_nv a_outs a_tKind a_tVal a_tA a_tB a_tN a_preRel a_preJ a_preK a_ruleUse a_pend a_pendN a_tv a_cv a_mx a_par a_mp a_res a_bnd a_order a_stk a_stSt := by
  refine pk_eq s 2 (fun h => absurd h (by omega)) (fun _ => ?_)
  rw [nI_pred]
  refine ⟨pk_in d 40 (by omega), ?_⟩
  rw [nI_clamp (by omega), nI_1]
  refine nm_e ?_
  refine br_f (nI_pos (by omega)) (pk_le 32 c (fun h => absurd h (by omega)) (fun _ => ⟨pk_in c 64 (by omega), ?_⟩))
  rw [show (pr_oI (some c)).toNatClampNeg = c from nI_clamp (by omega)]
  refine br_t h0 (pk_le 40 (d + 1) (fun h => absurd h (by omega)) (fun _ => ⟨pk_in (d + 1) 40 (by omega), ?_⟩))
  rw [nI_clamp (by omega)]
  exact nm_e ⟨pk_in (d + 1) 40 (by omega), nm_e (nm_r (nI_1 _) (nm_r (nI_1 _) h))⟩
theorem y_199_pop {J100 : Int32 → Int32 → Int32 → (Nat → Int32) → (Nat → Int32) → (Nat → Int32) → (Nat → Int32) → (Nat → Int32) → (Nat → Int32) → (Nat → Int32) → (Nat → Int32) → (Nat → Int32) → (Nat → Int32) → (Nat → Int32) → (Nat → Int32) → (Nat → Int32) → (Nat → Int32) → (Nat → Int32) → (Nat → Int32) → (Nat → Int32) → (Nat → Int32) → (Nat → Int32) → (Nat → Int32) → (Nat → Int32) → (Nat → Int32) → (Nat → Int32) → (Nat → Int32) → (Nat → Int32) → (Nat → Int32) → (Nat → Int32) → (Nat → Int32) → (Nat → Int32) → (Nat → Int32) → Prop} {d step n k : Nat} {x7 : Int32} (hn : n < 64) (h0 : a_nd n = 0) (hk : k < 32)
    (h : J100 (nI d) (nI (step + 1)) (nI (k + 1)) a_alive a_nKind a_nVal a_nA a_nB a_lv (upd a_nd n 1) a_nv a_outs a_tKind a_tVal a_tA a_tB a_tN a_preRel a_preJ a_preK a_ruleUse a_pend a_pendN a_tv a_cv a_mx a_par a_mp a_res a_bnd (upd a_order k (nI n)) a_stk a_stSt) : wY_buildOrder_199 post J28 J100 x1 (nI (d + 1)) (nI step) (nI n) (nI 2) x7 f_maxNodes f_maxRules f_phase f_nCount f_outCnt f_apps f_ruleCount f_cex f_curLive (nI k) a_alive a_nKind a_nVal a_nA a_nB a_lv a_nd a_nv a_outs a_tKind a_tVal a_tA a_tB a_tN a_preRel a_preJ a_preK a_ruleUse a_pend a_pendN a_tv a_cv a_mx a_par a_mp a_res a_bnd a_order a_stk a_stSt := by
  refine br_t rfl (nm_r (pk_m1 _) ⟨pk_in n 64 hn, ?_⟩)
  rw [nI_clamp (by omega)]
  refine br_t h0 (pk_le 32 k (fun h => absurd h (by omega)) (fun _ => ⟨pk_in n 64 hn, ?_⟩))
  rw [pr_vb1, nI_clamp (by omega)]
  exact nm_e ⟨pk_in k 32 hk, nm_e (nm_r (nI_1 _) (nm_r (nI_1 _) h))⟩
/-- one step of the loop, the top being n in state s: to the join at 199 with the operand of that state -/
theorem y_bo_step (hG : pr_gw 0 K V A B rk) (hg : gr_at 0 K V A B a_nKind a_nVal a_nA a_nB) {f d step n s : Nat} (tn : pr_T 0 K n) (hd : d < 40) (hst : step < 200) (hs : s < 3) (htop : a_stk d = nI n) (hss : a_stSt d = nI s)
    (h : wY_buildOrder_199 post J28 (wY_buildOrder_100 post J28 x1 f_maxNodes f_maxRules f_phase f_nCount f_outCnt f_apps f_ruleCount f_cex f_curLive f) x1 (nI (d + 1)) (nI step) (nI n) (nI s) (pr_oI (if s = 0 then A n else if s = 1 then B n else none)) f_maxNodes f_maxRules f_phase f_nCount f_outCnt f_apps f_ruleCount f_cex f_curLive f_orderN a_alive a_nKind a_nVal a_nA a_nB a_lv a_nd a_nv a_outs a_tKind a_tVal a_tA a_tB a_tN a_preRel a_preJ a_preK a_ruleUse a_pend a_pendN a_tv a_cv a_mx a_par a_mp a_res a_bnd a_order a_stk a_stSt) :
    wY_buildOrder_100 post J28 x1 f_maxNodes f_maxRules f_phase f_nCount f_outCnt f_apps f_ruleCount f_cex f_curLive (f + 1) (nI (d + 1)) (nI step) f_orderN a_alive a_nKind a_nVal a_nA a_nB a_lv a_nd a_nv a_outs a_tKind a_tVal a_tA a_tB a_tN a_preRel a_preJ a_preK a_ruleUse a_pend a_pendN a_tv a_cv a_mx a_par a_mp a_res a_bnd a_order a_stk a_stSt := by
  have tn2 := tn.2.1
  obtain ⟨g1, g2, g3, g4, g5, g6, g7, g8, g9, g10⟩ := hG n tn
  obtain ⟨k1, k2, k3, k4⟩ := hg n tn
  have hk0 : K n ≠ 0 := tn.2.2
  refine pk_le 200 step (fun h => absurd h (by omega)) (fun _ => pk_le (d + 1) 0 (fun h => absurd h (by omega)) (fun _ => ?_))
  rw [nI_pred]
  refine ⟨pk_in d 40 hd, ?_⟩
  rw [nI_clamp (n := d) (by omega)]
  refine nm_r htop ⟨pk_in n 64 (by omega), ?_⟩
  rw [nI_clamp (n := n) (by omega)]
  refine nm_r k1 ⟨pk_in d 40 hd, nm_r hss ?_⟩
  refine pk_eq s 0 (fun e => ?_) (fun ne => ?_)
  · subst e
    rw [if_pos rfl] at h
    have h175 : ∀ x7, x7 = pr_oI (A n) → wY_buildOrder_175 post J28 (wY_buildOrder_100 post J28 x1 f_maxNodes f_maxRules f_phase f_nCount f_outCnt f_apps f_ruleCount f_cex f_curLive f) x1 (nI (d + 1)) (nI step) (nI n) (nI (K n)) (nI 0) x7 f_maxNodes f_maxRules f_phase f_nCount f_outCnt f_apps f_ruleCount f_cex f_curLive f_orderN a_alive a_nKind a_nVal a_nA a_nB a_lv a_nd a_nv a_outs a_tKind a_tVal a_tA a_tB a_tN a_preRel a_preJ a_preK a_ruleUse a_pend a_pendN a_tv a_cv a_mx a_par a_mp a_res a_bnd a_order a_stk a_stSt := by
      intro x7 hx
      rw [hx]
      exact br_f (by decide) h
    have h166 : wY_buildOrder_166 post J28 (wY_buildOrder_100 post J28 x1 f_maxNodes f_maxRules f_phase f_nCount f_outCnt f_apps f_ruleCount f_cex f_curLive f) x1 (nI (d + 1)) (nI step) (nI n) (nI (K n)) (nI 0) f_maxNodes f_maxRules f_phase f_nCount f_outCnt f_apps f_ruleCount f_cex f_curLive f_orderN a_alive a_nKind a_nVal a_nA a_nB a_lv a_nd a_nv a_outs a_tKind a_tVal a_tA a_tB a_tN a_preRel a_preJ a_preK a_ruleUse a_pend a_pendN a_tv a_cv a_mx a_par a_mp a_res a_bnd a_order a_stk a_stSt := by
      refine ⟨pk_in n 64 (by omega), ?_⟩
      rw [nI_clamp (n := n) (by omega)]
      exact nm_r k3 (h175 _ rfl)
    by_cases hb : K n ≤ 8
    · exact y_isBin_t (by omega) hb (br_f (by decide) h166)
    · refine y_isBin_f (by omega) (by omega) (br_t rfl ?_)
      by_cases hu : K n ≤ 10
      · exact y_isUn_t (by omega) (br_f (by decide) h166)
      · refine y_isUn_f (by omega) (by omega) (br_t rfl (h175 _ ?_))
        rw [g6 (by omega)]
        rfl
  · rw [if_neg ne] at h
    refine pk_eq s 1 (fun e => ?_) (fun ne1 => ?_)
    · subst e
      rw [if_pos rfl] at h
      by_cases hb : K n ≤ 8
      · refine y_isBin_t (by omega) hb (br_f (by decide) ⟨pk_in n 64 (by omega), ?_⟩)
        rw [nI_clamp (n := n) (by omega)]
        exact nm_r k4 h
      · refine y_isBin_f (by omega) (by omega) (br_t rfl ?_)
        rw [g7 (by omega)] at h
        exact h
    · rw [if_neg ne1] at h
      exact h
end YE
section YF
variable {f_maxNodes f_maxRules f_phase f_nCount f_outCnt f_apps f_ruleCount f_cex f_curLive f_orderN : Int32} {a_alive a_nKind a_nVal a_nA a_nB a_lv a_nd a_nv a_outs a_tKind a_tVal a_tA a_tB a_tN a_preRel a_preJ a_preK a_ruleUse a_pend a_pendN a_tv a_cv a_mx a_par a_mp a_res a_bnd a_order a_stk a_stSt : Nat → Int32}
variable {K : Nat → Nat} {V : Nat → Int32} {A B : Nat → Option Nat} {rk : Nat → Nat} {post : SY → Prop} {J28 : Int32 → Int32 → (Nat → Int32) → (Nat → Int32) → (Nat → Int32) → (Nat → Int32) → (Nat → Int32) → (Nat → Int32) → (Nat → Int32) → (Nat → Int32) → (Nat → Int32) → (Nat → Int32) → (Nat → Int32) → (Nat → Int32) → (Nat → Int32) → (Nat → Int32) → (Nat → Int32) → (Nat → Int32) → (Nat → Int32) → (Nat → Int32) → (Nat → Int32) → (Nat → Int32) → (Nat → Int32) → (Nat → Int32) → (Nat → Int32) → (Nat → Int32) → (Nat → Int32) → (Nat → Int32) → (Nat → Int32) → (Nat → Int32) → (Nat → Int32) → (Nat → Int32) → Prop} {x1 : Int32}
def y_nd (T : Nat → Prop) (L : List Nat) (nd : Nat → Int32) : Prop := ∀ c, T c → (nd c = 0 ↔ c ∉ L)
theorem y_visit (hG : pr_gw 0 K V A B rk) (hg : gr_at 0 K V A B a_nKind a_nVal a_nA a_nB) :
    ∀ q n, rk n < q → pr_T 0 K n → ∀ L : List Nat, L.Nodup → pr_cl A B (fun x => x ∈ L) → n ∉ L → (∀ x, x ∈ L → pr_T 0 K x) →
      ∀ f d step nd od stk ss, 201 ≤ f + step → d + rk n < 32 → step + 3 * (pr_po A B q n L).length ≤ 200 + 3 * L.length → stk d = nI n → ss d = nI 0 → pr_ls od L → y_nd (pr_T 0 K) L nd →
      (∀ f' nd' od' stk' ss', 201 + 3 * L.length ≤ f' + step + 3 * (pr_po A B q n L).length → (∀ i, i < d → stk' i = stk i ∧ ss' i = ss i) → pr_ls od' (pr_po A B q n L) → y_nd (pr_T 0 K) (pr_po A B q n L) nd' →
        wY_buildOrder_100 post J28 x1 f_maxNodes f_maxRules f_phase f_nCount f_outCnt f_apps f_ruleCount f_cex f_curLive f' (nI d) (nI (step + 3 * (pr_po A B q n L).length - 3 * L.length)) (nI (pr_po A B q n L).length) a_alive a_nKind a_nVal a_nA a_nB a_lv nd' a_nv a_outs a_tKind a_tVal a_tA a_tB a_tN a_preRel a_preJ a_preK a_ruleUse a_pend a_pendN a_tv a_cv a_mx a_par a_mp a_res a_bnd od' stk' ss') →
      wY_buildOrder_100 post J28 x1 f_maxNodes f_maxRules f_phase f_nCount f_outCnt f_apps f_ruleCount f_cex f_curLive f (nI (d + 1)) (nI step) (nI L.length) a_alive a_nKind a_nVal a_nA a_nB a_lv nd a_nv a_outs a_tKind a_tVal a_tA a_tB a_tN a_preRel a_preJ a_preK a_ruleUse a_pend a_pendN a_tv a_cv a_mx a_par a_mp a_res a_bnd od stk ss := by
  intro q
  have hT := pr_gw_T hG
  induction q with
  | zero =>
    intro n h
    omega
  | succ q ih =>
    intro n hq tn L nd0 cl hnL hreg f d step nd od stk ss hf hd hst htop hss hls hnd hk
    have hgA : gr_at 0 K V A B a_nKind a_nVal a_nA a_nB := hg
    have ep : pr_po A B (q + 1) n L = pr_oc (pr_po A B q) (B n) (pr_oc (pr_po A B q) (A n) L) ++ [n] := by
      show (if n ∈ L then L else _) = _
      rw [if_neg hnL]
    obtain ⟨M1, e1, a1, b1, c1, d1⟩ := pr_oc_ok (T := pr_T 0 K) (rk := rk) (g := pr_po A B q) (o := A n) (L := L) (fun c hc => pr_po_ok hT q c (by have := (hT n c tn (Or.inl hc)).2; omega) (hT n c tn (Or.inl hc)).1) nd0 cl
    obtain ⟨M2, e2, a2, b2, c2, d2⟩ := pr_oc_ok (T := pr_T 0 K) (rk := rk) (g := pr_po A B q) (o := B n) (L := L ++ M1) (fun c hc => pr_po_ok hT q c (by have := (hT n c tn (Or.inr hc)).2; omega) (hT n c tn (Or.inr hc)).1) a1 b1
    rw [e1, e2] at ep
    have reg1 : ∀ x, x ∈ L ++ M1 → pr_T 0 K x := by
      intro x hx
      rcases List.mem_append.mp hx with hx | hx
      · exact hreg x hx
      · exact (d1 x hx).1
    have reg2 : ∀ x, x ∈ L ++ M1 ++ M2 → pr_T 0 K x := by
      intro x hx
      rcases List.mem_append.mp hx with hx | hx
      · exact reg1 x hx
      · exact (d2 x hx).1
    have r1 : ∀ x, x ∈ M1 → rk x < rk n := by
      intro x hx
      obtain ⟨_, c, hc, hr, _⟩ := d1 x hx
      have := (hT n c tn (Or.inl hc)).2
      omega
    have r2 : ∀ x, x ∈ M2 → rk x < rk n := by
      intro x hx
      obtain ⟨_, c, hc, hr, _⟩ := d2 x hx
      have := (hT n c tn (Or.inr hc)).2
      omega
    have n1 : n ∉ L ++ M1 := by
      intro h
      rcases List.mem_append.mp h with h | h
      · exact hnL h
      · exact Nat.lt_irrefl _ (r1 n h)
    have n2 : n ∉ L ++ M1 ++ M2 := by
      intro h
      rcases List.mem_append.mp h with h | h
      · exact n1 h
      · exact Nat.lt_irrefl _ (r2 n h)
    have len1 : (L ++ M1).length = L.length + M1.length := List.length_append
    have len2 : (L ++ M1 ++ M2).length = L.length + M1.length + M2.length := by rw [List.length_append, len1]
    have lenP : (pr_po A B (q + 1) n L).length = L.length + M1.length + M2.length + 1 := by
      rw [ep, List.length_append, len2]
      rfl
    have hnd3 : (L ++ M1 ++ M2 ++ [n]).Nodup := by
      rw [List.nodup_append]
      refine ⟨a2, by simp, fun x hx y hy e => ?_⟩
      rw [List.mem_singleton] at hy
      subst e
      subst hy
      exact n2 hx
    have l3le := pr_len (lo := 0) (n := 32) hnd3 (fun x hx => by
      rcases List.mem_append.mp hx with hx | hx
      · exact ⟨(reg2 x hx).1, (reg2 x hx).2.1⟩
      · rw [List.mem_singleton] at hx
        subst hx
        exact ⟨tn.1, tn.2.1⟩)
    rw [List.length_append, len2, List.length_singleton] at l3le
    have tn2 := tn.2.1
    -- the pop
    have hpop : ∀ f' nd' od' stk' ss', 201 ≤ f' + (step + 2 + 3 * (M1.length + M2.length)) → (∀ i, i < d → stk' i = stk i ∧ ss' i = ss i) → stk' d = nI n → ss' d = nI 2 → pr_ls od' (L ++ M1 ++ M2) → y_nd (pr_T 0 K) (L ++ M1 ++ M2) nd' →
        wY_buildOrder_100 post J28 x1 f_maxNodes f_maxRules f_phase f_nCount f_outCnt f_apps f_ruleCount f_cex f_curLive f' (nI (d + 1)) (nI (step + 2 + 3 * (M1.length + M2.length))) (nI (L.length + M1.length + M2.length)) a_alive a_nKind a_nVal a_nA a_nB a_lv nd' a_nv a_outs a_tKind a_tVal a_tA a_tB a_tN a_preRel a_preJ a_preK a_ruleUse a_pend a_pendN a_tv a_cv a_mx a_par a_mp a_res a_bnd od' stk' ss' := by
      intro f' nd' od' stk' ss' hf' hst' htop' hss' hls' hnd'
      obtain ⟨g, rfl⟩ : ∃ g, f' = g + 1 := ⟨f' - 1, by omega⟩
      refine y_bo_step hG hgA (s := 2) tn (by omega) (by omega) (by omega) htop' hss' ?_
      refine y_199_pop (by omega) ((hnd' n tn).mpr n2) (by omega) ?_
      have hh := hk g (upd nd' n 1) (upd od' (L.length + M1.length + M2.length) (nI n)) stk' ss' (by omega) hst' (by
        rw [ep]
        have := pr_ls_s (n := n) hls'
        rw [len2] at this
        exact this) (by
        rw [ep]
        intro c tc
        by_cases e : c = n
        · subst e
          rw [pk_us]
          exact ⟨fun h => absurd h (by decide), fun h => absurd (by simp) h⟩
        · rw [pk_un e, hnd' c tc, List.mem_append (t := [n]), List.mem_singleton]
          exact ⟨fun h h' => h'.elim h e, fun h h' => h (Or.inl h')⟩)
      rw [lenP] at hh
      rw [show step + 2 + 3 * (M1.length + M2.length) + 1 = step + 3 * (L.length + M1.length + M2.length + 1) - 3 * L.length by omega]
      exact hh
    -- operand B
    have hB : ∀ f' nd' od' stk' ss', 201 ≤ f' + (step + 1 + 3 * M1.length) → (∀ i, i < d → stk' i = stk i ∧ ss' i = ss i) → stk' d = nI n → ss' d = nI 1 → pr_ls od' (L ++ M1) → y_nd (pr_T 0 K) (L ++ M1) nd' →
        wY_buildOrder_100 post J28 x1 f_maxNodes f_maxRules f_phase f_nCount f_outCnt f_apps f_ruleCount f_cex f_curLive f' (nI (d + 1)) (nI (step + 1 + 3 * M1.length)) (nI (L.length + M1.length)) a_alive a_nKind a_nVal a_nA a_nB a_lv nd' a_nv a_outs a_tKind a_tVal a_tA a_tB a_tN a_preRel a_preJ a_preK a_ruleUse a_pend a_pendN a_tv a_cv a_mx a_par a_mp a_res a_bnd od' stk' ss' := by
      intro f' nd' od' stk' ss' hf' hst' htop' hss' hls' hnd'
      obtain ⟨g, rfl⟩ : ∃ g, f' = g + 1 := ⟨f' - 1, by omega⟩
      refine y_bo_step hG hgA (s := 1) tn (by omega) (by omega) (by omega) htop' hss' ?_
      rw [if_neg (by omega), if_pos rfl]
      by_cases hb : ∃ c, B n = some c ∧ c ∉ L ++ M1
      · obtain ⟨c, hc, hcn⟩ := hb
        have tc := hT n c tn (Or.inr hc)
        have tc2 := tc.1.2.1
        have ec : L ++ M1 ++ M2 = pr_po A B q c (L ++ M1) := by
          rw [← e2, hc]
          rfl
        rw [hc]
        refine y_199_push (s := 1) (by omega) (by omega) (by omega) ((hnd' c tc.1).mpr hcn) ?_
        have hM2 : 1 ≤ M2.length := by
          have hin : c ∈ L ++ M1 ++ M2 := c2 c hc
          rcases List.mem_append.mp hin with h | h
          · exact absurd h hcn
          · exact List.length_pos_of_mem h
        rw [← len1]
        refine ih c (by omega) tc.1 (L ++ M1) a1 b1 hcn reg1 g (d + 1) (step + 1 + 3 * M1.length + 1) nd' od' _ _ (by omega) (by omega) ?_ pk_us pk_us hls' hnd' ?_
        · rw [← ec, len2, len1]
          omega
        · rw [← ec]
          intro f2 nd2 od2 stk2 ss2 hf2 hst2 hls2 hnd2
          rw [len2, len1] at hf2
          have := hpop f2 nd2 od2 stk2 ss2 (by omega) (fun i hi => by
            have h2 := hst2 i (by omega)
            rw [h2.1, h2.2, pk_un (by omega), pk_un (by omega), pk_un (by omega)]
            exact hst' i hi) (by rw [(hst2 d (by omega)).1, pk_un (by omega)]; exact htop') (by rw [(hst2 d (by omega)).2, pk_un (by omega), pk_us]) hls2 hnd2
          rw [show step + 1 + 3 * M1.length + 1 + 3 * (L ++ M1 ++ M2).length - 3 * (L ++ M1).length = step + 2 + 3 * (M1.length + M2.length) by rw [len2, len1]; omega, len2]
          exact this
      · have hM2 : M2 = [] := by
          have : pr_oc (pr_po A B q) (B n) (L ++ M1) = L ++ M1 := by
            cases hb' : B n with
            | none => rfl
            | some c =>
              have hcm : c ∈ L ++ M1 := by
                apply Classical.byContradiction
                intro hcn
                exact hb ⟨c, hb', hcn⟩
              show pr_po A B q c (L ++ M1) = L ++ M1
              cases q with
              | zero => rfl
              | succ q => exact if_pos hcm
          rw [this] at e2
          have := congrArg List.length e2
          rw [len2, len1] at this
          exact List.eq_nil_of_length_eq_zero (by omega)
        subst hM2
        rw [List.append_nil] at hpop
        refine y_199_skip (s := 1) (by omega) (by omega) (fun c hc => ?_) ?_
        · have tc := hT n c tn (Or.inr hc)
          refine ⟨by have := tc.1.2.1; omega, fun h0 => ?_⟩
          exact hb ⟨c, hc, (hnd' c tc.1).mp h0⟩
        · have := hpop g nd' od' stk' (upd ss' d (nI 2)) (by simp only [List.length_nil]; omega) (fun i hi => by rw [pk_un (by omega)]; exact hst' i hi) htop' pk_us hls' hnd'
          rw [show step + 1 + 3 * M1.length + 1 = step + 2 + 3 * (M1.length + ([] : List Nat).length) by simp only [List.length_nil]; omega]
          exact this
    -- operand A
    obtain ⟨g, rfl⟩ : ∃ g, f = g + 1 := ⟨f - 1, by omega⟩
    refine y_bo_step hG hgA (s := 0) tn (by omega) (by omega) (by omega) htop hss ?_
    rw [if_pos rfl]
    by_cases ha : ∃ c, A n = some c ∧ c ∉ L
    · obtain ⟨c, hc, hcn⟩ := ha
      have tc := hT n c tn (Or.inl hc)
      have tc2 := tc.1.2.1
      have ec : L ++ M1 = pr_po A B q c L := by
        rw [← e1, hc]
        rfl
      rw [hc]
      refine y_199_push (s := 0) (by omega) (by omega) (by omega) ((hnd c tc.1).mpr hcn) ?_
      refine ih c (by omega) tc.1 L nd0 cl hcn hreg g (d + 1) (step + 1) nd od _ _ (by omega) (by omega) ?_ pk_us pk_us hls hnd ?_
      · rw [← ec, len1]
        omega
      · rw [← ec]
        intro f2 nd2 od2 stk2 ss2 hf2 hst2 hls2 hnd2
        rw [len1] at hf2
        have := hB f2 nd2 od2 stk2 ss2 (by omega) (fun i hi => by
          have h2 := hst2 i (by omega)
          rw [h2.1, h2.2, pk_un (by omega), pk_un (by omega), pk_un (by omega)]
          exact ⟨rfl, rfl⟩) (by rw [(hst2 d (by omega)).1, pk_un (by omega)]; exact htop) (by rw [(hst2 d (by omega)).2, pk_un (by omega), pk_us]) hls2 hnd2
        rw [show step + 1 + 3 * (L ++ M1).length - 3 * L.length = step + 1 + 3 * M1.length by rw [len1]; omega, len1]
        exact this
    · have hM1 : M1 = [] := by
        have : pr_oc (pr_po A B q) (A n) L = L := by
          cases ha' : A n with
          | none => rfl
          | some c =>
            have hcm : c ∈ L := by
              apply Classical.byContradiction
              intro hcn
              exact ha ⟨c, ha', hcn⟩
            show pr_po A B q c L = L
            cases q with
            | zero => rfl
            | succ q => exact if_pos hcm
        rw [this] at e1
        have := congrArg List.length e1
        rw [len1] at this
        exact List.eq_nil_of_length_eq_zero (by omega)
      subst hM1
      rw [List.append_nil] at hB
      refine y_199_skip (s := 0) (by omega) (by omega) (fun c hc => ?_) ?_
      · have tc := hT n c tn (Or.inl hc)
        refine ⟨by have := tc.1.2.1; omega, fun h0 => ?_⟩
        exact ha ⟨c, hc, (hnd c tc.1).mp h0⟩
      · have := hB g nd od stk (upd ss d (nI 1)) (by simp only [List.length_nil]; omega) (fun i hi => by rw [pk_un (by omega)]; exact ⟨rfl, rfl⟩) htop pk_us hls hnd
        rw [show step + 1 = step + 1 + 3 * ([] : List Nat).length from rfl]
        exact this
end YF
end
section
/-! Y: liveMark, liveSum, deleteDead -/
def al_at (lo : Nat) (K : Nat → Nat) (al : Nat → Int32) : Prop := ∀ n, lo ≤ n → n < lo + 32 → al n = (if K n = 0 then 0 else 1)
def pr_mk (o : Option Nat) (lv : Nat → Int32) : Nat → Int32 := match o with
  | none => lv
  | some c => upd lv c 1
theorem pr_mk_mono {o : Option Nat} {lv : Nat → Int32} {x : Nat} (h : lv x ≠ 0) : pr_mk o lv x ≠ 0 := by
  cases o with
  | none => exact h
  | some c =>
    show upd lv c 1 x ≠ 0
    by_cases e : x = c
    · rw [e, pk_us]
      decide
    · rw [pk_un e]
      exact h
theorem pr_mk_s {lv : Nat → Int32} {c : Nat} {o : Option Nat} (h : o = some c) : pr_mk o lv c ≠ 0 := by
  subst h
  show upd lv c 1 c ≠ 0
  rw [pk_us]
  decide
theorem pr_mk_inv {o : Option Nat} {lv : Nat → Int32} {x : Nat} (h : pr_mk o lv x ≠ 0) : lv x ≠ 0 ∨ o = some x := by
  cases o with
  | none => exact Or.inl h
  | some c =>
    replace h : upd lv c 1 x ≠ 0 := h
    by_cases e : x = c
    · exact Or.inr (by rw [e])
    · rw [pk_un e] at h
      exact Or.inl h
/-- a listed node is an output or an operand of a listed node -/
theorem pr_lk_pred {T : Nat → Prop} {A B : Nat → Option Nat} {O : Nat → Nat} {ob k : Nat} {L : List Nat} (h : pr_lk T A B O ob k L) : ∀ c, c ∈ L → (∃ i, i < k ∧ O (ob + i) = c) ∨ ∃ x, x ∈ L ∧ (A x = some c ∨ B x = some c) := by
  obtain ⟨h1, h2, h3, h4⟩ := h
  intro c hc
  have := (h4 c hc).2 (fun c => c ∈ L ∧ ((∃ i, i < k ∧ O (ob + i) = c) ∨ ∃ x, x ∈ L ∧ (A x = some c ∨ B x = some c))) (fun x y hx hy => ⟨h2 x y hx.1 hy, Or.inr ⟨x, hx.1, hy⟩⟩) (fun i hi => ⟨h3 i hi, Or.inl ⟨i, hi, rfl⟩⟩)
  exact this.2
section YG
variable {f_maxNodes f_maxRules f_phase f_nCount f_outCnt f_apps f_ruleCount f_cex f_curLive f_orderN : Int32} {a_alive a_nKind a_nVal a_nA a_nB a_lv a_nd a_nv a_outs a_tKind a_tVal a_tA a_tB a_tN a_preRel a_preJ a_preK a_ruleUse a_pend a_pendN a_tv a_cv a_mx a_par a_mp a_res a_bnd a_order a_stk a_stSt : Nat → Int32}
variable {lo : Nat} {K : Nat → Nat} {V : Nat → Int32} {A B : Nat → Option Nat} {rk O : Nat → Nat} {post : SY → Prop} {L : List Nat}
theorem y_mark {c : Nat} (hc : c < 64) (h : post (f_maxNodes, f_maxRules, f_phase, f_nCount, f_outCnt, f_apps, f_ruleCount, f_cex, f_curLive, f_orderN, a_alive, a_nKind, a_nVal, a_nA, a_nB, (upd a_lv c 1), a_nd, a_nv, a_outs, a_tKind, a_tVal, a_tA, a_tB, a_tN, a_preRel, a_preJ, a_preK, a_ruleUse, a_pend, a_pendN, a_tv, a_cv, a_mx, a_par, a_mp, a_res, a_bnd, a_order, a_stk, a_stSt)) : wpY_mark post (f_maxNodes, f_maxRules, f_phase, f_nCount, f_outCnt, f_apps, f_ruleCount, f_cex, f_curLive, f_orderN, a_alive, a_nKind, a_nVal, a_nA, a_nB, a_lv, a_nd, a_nv, a_outs, a_tKind, a_tVal, a_tA, a_tB, a_tN, a_preRel, a_preJ, a_preK, a_ruleUse, a_pend, a_pendN, a_tv, a_cv, a_mx, a_par, a_mp, a_res, a_bnd, a_order, a_stk, a_stSt) (nI c) := by
  unfold wpY_mark
  refine br_f (nI_pos (by omega)) (pk_le 64 c (fun h => absurd h (by omega)) (fun _ => ⟨pk_in c 64 hc, ?_⟩))
  rw [nI_clamp (by omega), pr_vb1]
  exact nm_e h
theorem y_lm_body {J68 : Int32 → Int32 → Int32 → Int32 → Int32 → Int32 → Int32 → Int32 → Int32 → Int32 → Int32 → (Nat → Int32) → (Nat → Int32) → (Nat → Int32) → (Nat → Int32) → (Nat → Int32) → (Nat → Int32) → (Nat → Int32) → (Nat → Int32) → (Nat → Int32) → (Nat → Int32) → (Nat → Int32) → (Nat → Int32) → (Nat → Int32) → (Nat → Int32) → (Nat → Int32) → (Nat → Int32) → (Nat → Int32) → (Nat → Int32) → (Nat → Int32) → (Nat → Int32) → (Nat → Int32) → (Nat → Int32) → (Nat → Int32) → (Nat → Int32) → (Nat → Int32) → (Nat → Int32) → (Nat → Int32) → (Nat → Int32) → (Nat → Int32) → (Nat → Int32) → Prop} {f s x3 : Nat} (hlo : lo ≤ 32) (hG : pr_gw lo K V A B rk) (hg : gr_at lo K V A B a_nKind a_nVal a_nA a_nB) (hal : al_at lo K a_alive) (h1 : lo ≤ s) (h2 : s < lo + 32)
    (h : wY_liveMark_77 post J68 (nI lo) (nI x3) f (nI (s + 1)) f_maxNodes f_maxRules f_phase f_nCount f_outCnt f_apps f_ruleCount f_cex f_curLive f_orderN a_alive a_nKind a_nVal a_nA a_nB (if K s = 0 ∨ a_lv s = 0 then a_lv else pr_mk (B s) (pr_mk (A s) a_lv)) a_nd a_nv a_outs a_tKind a_tVal a_tA a_tB a_tN a_preRel a_preJ a_preK a_ruleUse a_pend a_pendN a_tv a_cv a_mx a_par a_mp a_res a_bnd a_order a_stk a_stSt) :
    wY_liveMark_77 post J68 (nI lo) (nI x3) (f + 1) (nI s) f_maxNodes f_maxRules f_phase f_nCount f_outCnt f_apps f_ruleCount f_cex f_curLive f_orderN a_alive a_nKind a_nVal a_nA a_nB a_lv a_nd a_nv a_outs a_tKind a_tVal a_tA a_tB a_tN a_preRel a_preJ a_preK a_ruleUse a_pend a_pendN a_tv a_cv a_mx a_par a_mp a_res a_bnd a_order a_stk a_stSt := by
  have hin : vp_in (nI s) 64 := pk_in s 64 (by omega)
  have hcl : (nI s).toNatClampNeg = s := nI_clamp (by omega)
  have e32 : nI lo + 32 = nI (lo + 32) := nI_add lo 32
  have hals := hal s h1 h2
  show ((nI lo + 32) ≤ nI s → _) ∧ (¬ (nI lo + 32) ≤ nI s → _)
  rw [e32]
  refine pk_le (lo + 32) s (fun h => absurd h (by omega)) (fun _ => ⟨hin, ?_⟩)
  rw [hcl]
  by_cases hK : K s = 0
  · rw [if_pos hK] at hals
    rw [if_pos (Or.inl hK)] at h
    refine br_t hals ⟨hin, ?_⟩
    rw [hcl]
    exact br_t hals (nm_r (nI_1 _) h)
  · rw [if_neg hK] at hals
    have hal1 : ¬ a_alive s = 0 := by
      rw [hals]
      decide
    by_cases hl : a_lv s = 0
    · rw [if_pos (Or.inr hl)] at h
      refine br_f hal1 ⟨hin, br_t hl ⟨hin, ?_⟩⟩
      rw [hcl]
      exact br_f hal1 ⟨hin, br_t hl (nm_r (nI_1 _) h)⟩
    · rw [if_neg (fun hx => hx.elim hK hl)] at h
      have ts : pr_T lo K s := ⟨h1, h2, hK⟩
      have hK1 : 1 ≤ K s := Nat.pos_of_ne_zero hK
      obtain ⟨g1, g2, g3, g4, g5, g6, g7, g8, g9, g10⟩ := hG s ts
      obtain ⟨k1, k2, k3, k4⟩ := hg s ts
      have h145 : ∀ lv, lv s ≠ 0 → wY_liveMark_77 post J68 (nI lo) (nI x3) f (nI (s + 1)) f_maxNodes f_maxRules f_phase f_nCount f_outCnt f_apps f_ruleCount f_cex f_curLive f_orderN a_alive a_nKind a_nVal a_nA a_nB (pr_mk (B s) lv) a_nd a_nv a_outs a_tKind a_tVal a_tA a_tB a_tN a_preRel a_preJ a_preK a_ruleUse a_pend a_pendN a_tv a_cv a_mx a_par a_mp a_res a_bnd a_order a_stk a_stSt → wY_liveMark_145 post J68 (wY_liveMark_77 post J68 (nI lo) (nI x3) f) (nI lo) (nI x3) (nI s) f_maxNodes f_maxRules f_phase f_nCount f_outCnt f_apps f_ruleCount f_cex f_curLive f_orderN a_alive a_nKind a_nVal a_nA a_nB lv a_nd a_nv a_outs a_tKind a_tVal a_tA a_tB a_tN a_preRel a_preJ a_preK a_ruleUse a_pend a_pendN a_tv a_cv a_mx a_par a_mp a_res a_bnd a_order a_stk a_stSt := by
        intro lv hlv hh
        refine ⟨hin, ?_⟩
        rw [hcl]
        refine br_f hal1 ⟨hin, br_f hlv ⟨hin, ?_⟩⟩
        rw [k1]
        by_cases hb : K s ≤ 8
        · obtain ⟨c, hc⟩ := g9 hb
          have tc := (g10 c (Or.inr hc)).1.2.1
          refine y_isBin_t hK1 hb (br_f (by decide) ⟨hin, ?_⟩)
          rw [k4, hc]
          rw [hc] at hh
          exact y_mark (by omega) (nm_r (nI_1 _) hh)
        · rw [g7 (by omega)] at hh
          exact y_isBin_f (by omega) (by omega) (br_t rfl (nm_r (nI_1 _) hh))
      have h134 : K s ≤ 10 → wY_liveMark_134 post J68 (wY_liveMark_77 post J68 (nI lo) (nI x3) f) (nI lo) (nI x3) (nI s) f_maxNodes f_maxRules f_phase f_nCount f_outCnt f_apps f_ruleCount f_cex f_curLive f_orderN a_alive a_nKind a_nVal a_nA a_nB a_lv a_nd a_nv a_outs a_tKind a_tVal a_tA a_tB a_tN a_preRel a_preJ a_preK a_ruleUse a_pend a_pendN a_tv a_cv a_mx a_par a_mp a_res a_bnd a_order a_stk a_stSt := by
        intro hu
        obtain ⟨c, hc⟩ := g8 hu
        have tc := (g10 c (Or.inl hc)).1.2.1
        refine ⟨hin, ?_⟩
        rw [hcl, k3, hc]
        rw [hc] at h
        exact y_mark (by omega) (h145 _ (pr_mk_mono (o := some c) hl) h)
      refine br_f hal1 ⟨hin, br_f hl ⟨hin, ?_⟩⟩
      rw [k1]
      by_cases hb : K s ≤ 8
      · exact y_isBin_t hK1 hb (br_f (by decide) (h134 (Nat.le_trans hb (by decide))))
      · refine y_isBin_f (by omega) (by omega) (br_t rfl ⟨hin, ?_⟩)
        by_cases hu : K s ≤ 10
        · exact y_isUn_t (by omega) (br_f (by decide) (h134 hu))
        · refine y_isUn_f (by omega) (by omega) (br_t rfl (h145 _ hl ?_))
          rw [g6 (by omega)] at h
          exact h
def y_lvs (lo : Nat) (L : List Nat) (lv : Nat → Int32) : Prop := ∀ c, lo ≤ c → c < lo + 32 → lv c ≠ 0 → c ∈ L
theorem y_lm_pass {J68 : Int32 → Int32 → Int32 → Int32 → Int32 → Int32 → Int32 → Int32 → Int32 → Int32 → Int32 → (Nat → Int32) → (Nat → Int32) → (Nat → Int32) → (Nat → Int32) → (Nat → Int32) → (Nat → Int32) → (Nat → Int32) → (Nat → Int32) → (Nat → Int32) → (Nat → Int32) → (Nat → Int32) → (Nat → Int32) → (Nat → Int32) → (Nat → Int32) → (Nat → Int32) → (Nat → Int32) → (Nat → Int32) → (Nat → Int32) → (Nat → Int32) → (Nat → Int32) → (Nat → Int32) → (Nat → Int32) → (Nat → Int32) → (Nat → Int32) → (Nat → Int32) → (Nat → Int32) → (Nat → Int32) → (Nat → Int32) → (Nat → Int32) → (Nat → Int32) → Prop} {x3 : Nat} {lv0 : Nat → Int32} (hlo : lo ≤ 32) (hG : pr_gw lo K V A B rk) (hg : gr_at lo K V A B a_nKind a_nVal a_nA a_nB) (hal : al_at lo K a_alive) (hcl : pr_cl A B (fun x => x ∈ L))
    (hLT : ∀ x, x ∈ L → pr_T lo K x)
    (h : ∀ lv', y_lvs lo L lv' → (∀ c, lv0 c ≠ 0 → lv' c ≠ 0) → (∀ x, lo ≤ x → x < lo + 32 → K x ≠ 0 → lv0 x ≠ 0 → ∀ c, A x = some c ∨ B x = some c → lv' c ≠ 0) → J68 (nI (x3 + 1)) f_maxNodes f_maxRules f_phase f_nCount f_outCnt f_apps f_ruleCount f_cex f_curLive f_orderN a_alive a_nKind a_nVal a_nA a_nB lv' a_nd a_nv a_outs a_tKind a_tVal a_tA a_tB a_tN a_preRel a_preJ a_preK a_ruleUse a_pend a_pendN a_tv a_cv a_mx a_par a_mp a_res a_bnd a_order a_stk a_stSt) :
    ∀ d s lv, s + d = lo + 32 → lo ≤ s → y_lvs lo L lv → (∀ c, lv0 c ≠ 0 → lv c ≠ 0) → (∀ x, lo ≤ x → x < s → K x ≠ 0 → lv0 x ≠ 0 → ∀ c, A x = some c ∨ B x = some c → lv c ≠ 0) → wY_liveMark_77 post J68 (nI lo) (nI x3) (d + 1) (nI s) f_maxNodes f_maxRules f_phase f_nCount f_outCnt f_apps f_ruleCount f_cex f_curLive f_orderN a_alive a_nKind a_nVal a_nA a_nB lv a_nd a_nv a_outs a_tKind a_tVal a_tA a_tB a_tN a_preRel a_preJ a_preK a_ruleUse a_pend a_pendN a_tv a_cv a_mx a_par a_mp a_res a_bnd a_order a_stk a_stSt := by
  intro d
  induction d with
  | zero =>
    intro s lv hs h0 h1 h2 h3
    have e32 : nI lo + 32 = nI (lo + 32) := nI_add lo 32
    show ((nI lo + 32) ≤ nI s → _) ∧ (¬ (nI lo + 32) ≤ nI s → _)
    rw [e32]
    refine pk_le (lo + 32) s (fun _ => nm_r (nI_1 _) (h lv h1 h2 fun x a b => h3 x a (by omega))) (fun h => absurd h (by omega))
  | succ d ih =>
    intro s lv hs h0 h1 h2 h3
    refine y_lm_body hlo hG hg hal h0 (by omega) ?_
    refine ih (s + 1) _ (by omega) (by omega) ?_ ?_ ?_
    · intro c c1 c2 hc
      by_cases hx : K s = 0 ∨ lv s = 0
      · rw [if_pos hx] at hc
        exact h1 c c1 c2 hc
      · rw [if_neg hx] at hc
        have hsL : s ∈ L := h1 s h0 (by omega) fun h => hx (Or.inr h)
        rcases pr_mk_inv hc with hc | hc
        · rcases pr_mk_inv hc with hc | hc
          · exact h1 c c1 c2 hc
          · exact hcl s c hsL (Or.inl hc)
        · exact hcl s c hsL (Or.inr hc)
    · intro c hc
      by_cases hx : K s = 0 ∨ lv s = 0
      · rw [if_pos hx]
        exact h2 c hc
      · rw [if_neg hx]
        exact pr_mk_mono (pr_mk_mono (h2 c hc))
    · intro x x1 x2 hK hx c hc
      by_cases e : x = s
      · subst e
        rw [if_neg (fun hh => hh.elim hK (h2 x hx))]
        rcases hc with hc | hc
        · exact pr_mk_mono (pr_mk_s hc)
        · exact pr_mk_s hc
      · have := h3 x x1 (by omega) hK hx c hc
        by_cases hx : K s = 0 ∨ lv s = 0
        · rw [if_pos hx]
          exact this
        · rw [if_neg hx]
          exact pr_mk_mono (pr_mk_mono this)
theorem y_lm_passes {ob oc : Nat} (hlo : lo ≤ 32) (hG : pr_gw lo K V A B rk) (hg : gr_at lo K V A B a_nKind a_nVal a_nA a_nB) (hal : al_at lo K a_alive) (hL : pr_lk (pr_T lo K) A B O ob oc L)
    (h : ∀ lv', (∀ c, lo ≤ c → c < lo + 32 → (lv' c = 0 ↔ c ∉ L)) → post (f_maxNodes, f_maxRules, f_phase, f_nCount, f_outCnt, f_apps, f_ruleCount, f_cex, f_curLive, f_orderN, a_alive, a_nKind, a_nVal, a_nA, a_nB, lv', a_nd, a_nv, a_outs, a_tKind, a_tVal, a_tA, a_tB, a_tN, a_preRel, a_preJ, a_preK, a_ruleUse, a_pend, a_pendN, a_tv, a_cv, a_mx, a_par, a_mp, a_res, a_bnd, a_order, a_stk, a_stSt)) :
    ∀ d p lv, p + d = 34 → y_lvs lo L lv → (∀ i, i < oc → lv (O (ob + i)) ≠ 0) → (∀ c, c ∈ L → 32 ≤ rk c + p → lv c ≠ 0) → wY_liveMark_68 post (nI lo) (d + 1) (nI p) f_maxNodes f_maxRules f_phase f_nCount f_outCnt f_apps f_ruleCount f_cex f_curLive f_orderN a_alive a_nKind a_nVal a_nA a_nB lv a_nd a_nv a_outs a_tKind a_tVal a_tA a_tB a_tN a_preRel a_preJ a_preK a_ruleUse a_pend a_pendN a_tv a_cv a_mx a_par a_mp a_res a_bnd a_order a_stk a_stSt := by
  intro d
  induction d with
  | zero =>
    intro p lv hp h1 h2 h3
    refine pk_le 34 p (fun _ => h lv fun c c1 c2 => ⟨fun h0 hc => h3 c hc (by omega) h0, fun hc => ?_⟩) (fun h => absurd h (by omega))
    apply Classical.byContradiction
    intro h0
    exact hc (h1 c c1 c2 h0)
  | succ d ih =>
    intro p lv hp h1 h2 h3
    refine pk_le 34 p (fun h => absurd h (by omega)) (fun _ => ⟨33, ?_⟩)
    refine y_lm_pass (L := L) (lv0 := lv) hlo hG hg hal hL.2.1 (fun x hx => (hL.2.2.2 x hx).1) (fun lv' k1 k2 k3 => ?_) 32 lo lv (by omega) (by omega) h1 (fun c hc => hc) (fun x a b => absurd b (by omega))
    refine ih (p + 1) lv' (by omega) k1 (fun i hi => k2 _ (h2 i hi)) (fun c hc hr => ?_)
    rcases pr_lk_pred hL c hc with ⟨i, hi, e⟩ | ⟨x, hx, he⟩
    · rw [← e]
      exact k2 _ (h2 i hi)
    · have tx := (hL.2.2.2 x hx).1
      have hrx := (pr_gw_T hG x c tx he).2
      exact k3 x tx.1 tx.2.1 tx.2.2 (h3 x hx (by omega)) c he
theorem y_liveMark {g oc : Nat} (hgc : g < 2) (hG : pr_gw (g * 32) K V A B rk) (hg : gr_at (g * 32) K V A B a_nKind a_nVal a_nA a_nB) (hal : al_at (g * 32) K a_alive) (hoc : oc ≤ 4) (hO : ∀ k, k < oc → pr_T (g * 32) K (O (g * 4 + k)) ∧ a_outs (g * 4 + k) = nI (O (g * 4 + k))) (hL : L = pr_lv A B O (g * 4) oc)
    (h : ∀ lv', (∀ c, g * 32 ≤ c → c < g * 32 + 32 → (lv' c = 0 ↔ c ∉ L)) → post (f_maxNodes, f_maxRules, f_phase, f_nCount, (nI oc), f_apps, f_ruleCount, f_cex, f_curLive, f_orderN, a_alive, a_nKind, a_nVal, a_nA, a_nB, lv', a_nd, a_nv, a_outs, a_tKind, a_tVal, a_tA, a_tB, a_tN, a_preRel, a_preJ, a_preK, a_ruleUse, a_pend, a_pendN, a_tv, a_cv, a_mx, a_par, a_mp, a_res, a_bnd, a_order, a_stk, a_stSt)) : wpY_liveMark post (f_maxNodes, f_maxRules, f_phase, f_nCount, (nI oc), f_apps, f_ruleCount, f_cex, f_curLive, f_orderN, a_alive, a_nKind, a_nVal, a_nA, a_nB, a_lv, a_nd, a_nv, a_outs, a_tKind, a_tVal, a_tA, a_tB, a_tN, a_preRel, a_preJ, a_preK, a_ruleUse, a_pend, a_pendN, a_tv, a_cv, a_mx, a_par, a_mp, a_res, a_bnd, a_order, a_stk, a_stSt) (nI (g * 32)) := by
  have hlk := pr_lv_ok (O := O) (ob := g * 4) (pr_gw_T hG) (pr_gw_r hG) oc (fun k hk => (hO k hk).1)
  rw [← hL] at hlk
  have l35 : ∀ d i lv, i + d = oc → y_lvs (g * 32) L lv → (∀ k, k < i → lv (O (g * 4 + k)) ≠ 0) → wY_liveMark_35 post (nI (g * 32)) (nI (g * 4)) (d + 1) (nI i) f_maxNodes f_maxRules f_phase f_nCount (nI oc) f_apps f_ruleCount f_cex f_curLive f_orderN a_alive a_nKind a_nVal a_nA a_nB lv a_nd a_nv a_outs a_tKind a_tVal a_tA a_tB a_tN a_preRel a_preJ a_preK a_ruleUse a_pend a_pendN a_tv a_cv a_mx a_par a_mp a_res a_bnd a_order a_stk a_stSt := by
    intro d
    induction d with
    | zero =>
      intro i lv hi h1 h2
      refine pk_le oc i (fun _ => ⟨35, ?_⟩) (fun h => absurd h (by omega))
      have e : i = oc := by omega
      rw [e] at h2
      exact y_lm_passes (by omega) hG hg hal hlk h 34 0 lv (by omega) h1 h2 (fun c hc hr => absurd (pr_gw_r hG c (hlk.2.2.2 c hc).1) (by omega))
    | succ d ih =>
      intro i lv hi h1 h2
      obtain ⟨to, eo⟩ := hO i (by omega)
      have to2 := to.2.1
      refine pk_le oc i (fun h => absurd h (by omega)) (fun _ => pk_le 4 i (fun h => absurd h (by omega)) (fun _ => ?_))
      rw [nI_add]
      refine ⟨pk_in (g * 4 + i) 8 (by omega), ?_⟩
      rw [nI_clamp (by omega), eo]
      refine y_mark (by omega) (nm_r (nI_1 _) (ih (i + 1) _ (by omega) (fun c c1 c2 hc => ?_) (fun k hk => ?_)))
      · by_cases e : c = O (g * 4 + i)
        · rw [e]
          exact hlk.2.2.1 i (by omega)
        · rw [pk_un e] at hc
          exact h1 c c1 c2 hc
      · by_cases e : O (g * 4 + k) = O (g * 4 + i)
        · rw [e, pk_us]
          decide
        · rw [pk_un e]
          refine h2 k ?_
          have : k ≠ i := fun hx => e (by rw [hx])
          omega
  have l2 : ∀ d s lv, s + d = g * 32 + 32 → g * 32 ≤ s → (∀ c, g * 32 ≤ c → c < s → lv c = 0) → wY_liveMark_2 post (nI (g * 32)) f_maxNodes f_maxRules f_phase f_nCount (nI oc) f_apps f_ruleCount f_cex f_curLive f_orderN (d + 1) (nI s) a_alive a_nKind a_nVal a_nA a_nB lv a_nd a_nv a_outs a_tKind a_tVal a_tA a_tB a_tN a_preRel a_preJ a_preK a_ruleUse a_pend a_pendN a_tv a_cv a_mx a_par a_mp a_res a_bnd a_order a_stk a_stSt := by
    intro d
    have e32 : nI (g * 32) + 32 = nI (g * 32 + 32) := nI_add (g * 32) 32
    induction d with
    | zero =>
      intro s lv hs h0 h1
      show ((nI (g * 32) + 32) ≤ nI s → _) ∧ (¬ (nI (g * 32) + 32) ≤ nI s → _)
      rw [e32]
      refine pk_le (g * 32 + 32) s (fun _ => ?_) (fun h => absurd h (by omega))
      have hh := l35 oc 0 lv (by omega) (fun c c1 c2 hc => absurd (h1 c c1 (by omega)) hc) (fun k hk => absurd hk (by omega))
      refine pk_eq (g * 32) 0 (fun e => ⟨oc + 1, ?_⟩) (fun e => ⟨oc + 1, ?_⟩)
      · have : g = 0 := by omega
        subst this
        exact hh
      · have : g = 1 := by omega
        subst this
        exact hh
    | succ d ih =>
      intro s lv hs h0 h1
      show ((nI (g * 32) + 32) ≤ nI s → _) ∧ (¬ (nI (g * 32) + 32) ≤ nI s → _)
      rw [e32]
      refine pk_le (g * 32 + 32) s (fun h => absurd h (by omega)) (fun _ => ⟨pk_in s 64 (by omega), ?_⟩)
      rw [nI_clamp (by omega), pr_vb0]
      refine nm_e (nm_r (nI_1 _) (ih (s + 1) _ (by omega) (by omega) fun c c1 c2 => ?_))
      by_cases e : c = s
      · rw [e, pk_us]
      · rw [pk_un e]
        exact h1 c c1 (by omega)
  exact ⟨33, l2 32 (g * 32) a_lv (by omega) (by omega) (fun c c1 c2 => absurd c2 (by omega))⟩
end YG
end
section
/-! Y: sums over the marked nodes; uses; deleteDead -/
section YH
variable {f_maxNodes f_maxRules f_phase f_nCount f_outCnt f_apps f_ruleCount f_cex f_curLive f_orderN : Int32} {a_alive a_nKind a_nVal a_nA a_nB a_lv a_nd a_nv a_outs a_tKind a_tVal a_tA a_tB a_tN a_preRel a_preJ a_preK a_ruleUse a_pend a_pendN a_tv a_cv a_mx a_par a_mp a_res a_bnd a_order a_stk a_stSt : Nat → Int32}
variable {K : Nat → Nat} {V : Nat → Int32} {A B : Nat → Option Nat} {rk O : Nat → Nat} {L : List Nat}
def y_wt (K : Nat → Nat) (cost : Nat) (s : Nat) : Nat := if cost = 0 then 1 else pr_w (K s)
theorem y_liveSum10 {post : Int32 → SY → Prop} {g cost : Nat} (hc : cost < 2) (hgc : g < 2) (hG : pr_gw (g * 32) K V A B rk) (hg : gr_at (g * 32) K V A B a_nKind a_nVal a_nA a_nB) (hal : al_at (g * 32) K a_alive) (hLT : ∀ x, x ∈ L → pr_T (g * 32) K x)
    (hlv : ∀ c, g * 32 ≤ c → c < g * 32 + 32 → (a_lv c = 0 ↔ c ∉ L))
    (h : post (nI (pr_rs (fun s => if s ∈ L then y_wt K cost s else 0) (g * 32) 32)) (f_maxNodes, f_maxRules, f_phase, f_nCount, f_outCnt, f_apps, f_ruleCount, f_cex, f_curLive, f_orderN, a_alive, a_nKind, a_nVal, a_nA, a_nB, a_lv, a_nd, a_nv, a_outs, a_tKind, a_tVal, a_tA, a_tB, a_tN, a_preRel, a_preJ, a_preK, a_ruleUse, a_pend, a_pendN, a_tv, a_cv, a_mx, a_par, a_mp, a_res, a_bnd, a_order, a_stk, a_stSt)) :
    ∀ d i, i + d = 32 → wY_liveSum_10 post (nI (g * 32)) (nI cost) f_maxNodes f_maxRules f_phase f_nCount f_outCnt f_apps f_ruleCount f_cex f_curLive f_orderN a_alive a_nKind a_nVal a_nA a_nB a_lv a_nd a_nv a_outs a_tKind a_tVal a_tA a_tB a_tN a_preRel a_preJ a_preK a_ruleUse a_pend a_pendN a_tv a_cv a_mx a_par a_mp a_res a_bnd a_order a_stk a_stSt (d + 1) (nI (pr_rs (fun s => if s ∈ L then y_wt K cost s else 0) (g * 32) i)) (nI (g * 32 + i)) := by
  intro d
  have e32 : nI (g * 32) + 32 = nI (g * 32 + 32) := nI_add (g * 32) 32
  induction d with
  | zero =>
    intro i hi
    show ((nI (g * 32) + 32) ≤ _ → _) ∧ (¬ (nI (g * 32) + 32) ≤ _ → _)
    rw [e32]
    refine pk_le (g * 32 + 32) (g * 32 + i) (fun _ => ?_) (fun h => absurd h (by omega))
    rw [show i = 32 by omega]
    exact h
  | succ d ih =>
    intro i hi
    have hh := ih (i + 1) (by omega)
    rw [show pr_rs (fun s => if s ∈ L then y_wt K cost s else 0) (g * 32) (i + 1) = pr_rs (fun s => if s ∈ L then y_wt K cost s else 0) (g * 32) i + (if g * 32 + i ∈ L then y_wt K cost (g * 32 + i) else 0) from rfl] at hh
    have hin : vp_in (nI (g * 32 + i)) 64 := pk_in (g * 32 + i) 64 (by omega)
    have hals := hal (g * 32 + i) (by omega) (by omega)
    have hlvs := hlv (g * 32 + i) (by omega) (by omega)
    show ((nI (g * 32) + 32) ≤ _ → _) ∧ (¬ (nI (g * 32) + 32) ≤ _ → _)
    rw [e32]
    refine pk_le (g * 32 + 32) (g * 32 + i) (fun h => absurd h (by omega)) (fun _ => ⟨hin, ?_⟩)
    rw [nI_clamp (by omega)]
    by_cases hL : g * 32 + i ∈ L
    · have ts := hLT _ hL
      rw [if_neg ts.2.2] at hals
      rw [if_pos hL] at hh
      refine br_f (by rw [hals]; decide) ⟨hin, br_f (fun h0 => hlvs.mp h0 hL) ?_⟩
      unfold y_wt at hh
      refine pk_eq cost 0 (fun e => ?_) (fun e => ⟨hin, ?_⟩)
      · rw [if_pos e] at hh
        exact nm_r (nI_1 _) (nm_r (nI_1 _) hh)
      · rw [if_neg e] at hh
        rw [(hg _ ts).1]
        have := (hG _ ts).1
        exact y_weight (by omega) (nm_r (nI_add _ _) (nm_r (nI_1 _) hh))
    · rw [if_neg hL, Nat.add_zero] at hh
      by_cases h0 : a_alive (g * 32 + i) = 0
      · exact br_t h0 (nm_r (nI_1 _) hh)
      · exact br_f h0 ⟨hin, br_t (hlvs.mpr hL) (nm_r (nI_1 _) hh)⟩
theorem y_liveSum {post : Int32 → SY → Prop} {g cost oc : Nat} (hc : cost < 2) (hgc : g < 2) (hG : pr_gw (g * 32) K V A B rk) (hg : gr_at (g * 32) K V A B a_nKind a_nVal a_nA a_nB) (hal : al_at (g * 32) K a_alive) (hoc : oc ≤ 4) (hO : ∀ k, k < oc → pr_T (g * 32) K (O (g * 4 + k)) ∧ a_outs (g * 4 + k) = nI (O (g * 4 + k))) (hL : L = pr_lv A B O (g * 4) oc)
    (h : ∀ lv', (∀ c, g * 32 ≤ c → c < g * 32 + 32 → (lv' c = 0 ↔ c ∉ L)) → post (nI (pr_sm (y_wt K cost) L)) (f_maxNodes, f_maxRules, f_phase, f_nCount, (nI oc), f_apps, f_ruleCount, f_cex, f_curLive, f_orderN, a_alive, a_nKind, a_nVal, a_nA, a_nB, lv', a_nd, a_nv, a_outs, a_tKind, a_tVal, a_tA, a_tB, a_tN, a_preRel, a_preJ, a_preK, a_ruleUse, a_pend, a_pendN, a_tv, a_cv, a_mx, a_par, a_mp, a_res, a_bnd, a_order, a_stk, a_stSt)) : wpY_liveSum post (f_maxNodes, f_maxRules, f_phase, f_nCount, (nI oc), f_apps, f_ruleCount, f_cex, f_curLive, f_orderN, a_alive, a_nKind, a_nVal, a_nA, a_nB, a_lv, a_nd, a_nv, a_outs, a_tKind, a_tVal, a_tA, a_tB, a_tN, a_preRel, a_preJ, a_preK, a_ruleUse, a_pend, a_pendN, a_tv, a_cv, a_mx, a_par, a_mp, a_res, a_bnd, a_order, a_stk, a_stSt) (nI (g * 32)) (nI cost) := by
  have hlk := pr_lv_ok (O := O) (ob := g * 4) (pr_gw_T hG) (pr_gw_r hG) oc (fun k hk => (hO k hk).1)
  rw [← hL] at hlk
  unfold wpY_liveSum
  refine y_liveMark hgc hG hg hal hoc hO hL (fun lv' hlv => ⟨33, ?_⟩)
  have e := pr_rs_list (w := y_wt K cost) (lo := g * 32) (n := 32) hlk.1 (fun x hx => ⟨(hlk.2.2.2 x hx).1.1, (hlk.2.2.2 x hx).1.2.1⟩)
  exact y_liveSum10 hc hgc hG hg hal (fun x hx => (hlk.2.2.2 x hx).1) hlv (by rw [e]; exact h lv' hlv) 32 0 (by omega)
theorem y_countOp22 {post : Int32 → SY → Prop} {κ : Nat} (hκ : κ < 100) (hG : pr_gw 0 K V A B rk) (hg : gr_at 0 K V A B a_nKind a_nVal a_nA a_nB) (hal : al_at 0 K a_alive) (hLT : ∀ x, x ∈ L → pr_T 0 K x)
    (hlv : ∀ c, 0 ≤ c → c < 0 + 32 → (a_lv c = 0 ↔ c ∉ L))
    (h : post (nI (pr_rs (fun s => if s ∈ L then (if K s = κ then 1 else 0) else 0) 0 32)) (f_maxNodes, f_maxRules, f_phase, f_nCount, f_outCnt, f_apps, f_ruleCount, f_cex, f_curLive, f_orderN, a_alive, a_nKind, a_nVal, a_nA, a_nB, a_lv, a_nd, a_nv, a_outs, a_tKind, a_tVal, a_tA, a_tB, a_tN, a_preRel, a_preJ, a_preK, a_ruleUse, a_pend, a_pendN, a_tv, a_cv, a_mx, a_par, a_mp, a_res, a_bnd, a_order, a_stk, a_stSt)) :
    ∀ d i, i + d = 32 → wY_countOp_22 post (nI κ) f_maxNodes f_maxRules f_phase f_nCount f_outCnt f_apps f_ruleCount f_cex f_curLive f_orderN a_alive a_nKind a_nVal a_nA a_nB a_lv a_nd a_nv a_outs a_tKind a_tVal a_tA a_tB a_tN a_preRel a_preJ a_preK a_ruleUse a_pend a_pendN a_tv a_cv a_mx a_par a_mp a_res a_bnd a_order a_stk a_stSt (d + 1) (nI (pr_rs (fun s => if s ∈ L then (if K s = κ then 1 else 0) else 0) 0 i)) (nI i) := by
  intro d
  induction d with
  | zero =>
    intro i hi
    refine pk_le 32 i (fun _ => ?_) (fun h => absurd h (by omega))
    rw [show i = 32 by omega]
    exact h
  | succ d ih =>
    intro i hi
    have hh := ih (i + 1) (by omega)
    rw [show pr_rs (fun s => if s ∈ L then (if K s = κ then 1 else 0) else 0) 0 (i + 1) = pr_rs (fun s => if s ∈ L then (if K s = κ then 1 else 0) else 0) 0 i + (if 0 + i ∈ L then (if K (0 + i) = κ then 1 else 0) else 0) from rfl, Nat.zero_add] at hh
    have hin : vp_in (nI i) 64 := pk_in i 64 (by omega)
    have hals := hal i (by omega) (by omega)
    have hlvs := hlv i (by omega) (by omega)
    refine pk_le 32 i (fun h => absurd h (by omega)) (fun _ => ⟨hin, ?_⟩)
    rw [nI_clamp (by omega)]
    by_cases hL : i ∈ L
    · have ts := hLT _ hL
      rw [if_neg ts.2.2] at hals
      rw [if_pos hL] at hh
      have := (hG _ ts).1
      refine br_f (by rw [hals]; decide) ⟨hin, br_f (fun h0 => hlvs.mp h0 hL) ⟨hin, ?_⟩⟩
      rw [(hg _ ts).1]
      refine pk_eq (K i) κ (fun e => ?_) (fun e => ?_)
      · rw [if_pos e] at hh
        exact nm_r (nI_1 _) (nm_r (nI_1 _) hh)
      · rw [if_neg e] at hh
        exact nm_r (nI_1 _) hh
    · rw [if_neg hL, Nat.add_zero] at hh
      by_cases h0 : a_alive i = 0
      · exact br_t h0 (nm_r (nI_1 _) hh)
      · exact br_f h0 ⟨hin, br_t (hlvs.mpr hL) (nm_r (nI_1 _) hh)⟩
/-- deleteDead: what stays alive -/
theorem y_del7 {post : SY → Prop} (hal : al_at 0 K a_alive) (hlv : ∀ c, 0 ≤ c → c < 0 + 32 → (a_lv c = 0 ↔ c ∉ L))
    (h : ∀ al', al_at 0 (pa_K L K) al' → (∀ c, 32 ≤ c → al' c = a_alive c) → post (f_maxNodes, f_maxRules, f_phase, f_nCount, f_outCnt, f_apps, f_ruleCount, f_cex, f_curLive, f_orderN, al', a_nKind, a_nVal, a_nA, a_nB, a_lv, a_nd, a_nv, a_outs, a_tKind, a_tVal, a_tA, a_tB, a_tN, a_preRel, a_preJ, a_preK, a_ruleUse, a_pend, a_pendN, a_tv, a_cv, a_mx, a_par, a_mp, a_res, a_bnd, a_order, a_stk, a_stSt)) :
    ∀ d i al, i + d = 32 → (∀ c, c < i → al c = (if pa_K L K c = 0 then 0 else 1)) → (∀ c, i ≤ c → al c = a_alive c) → wY_deleteDead_7 post f_maxNodes f_maxRules f_phase f_nCount f_outCnt f_apps f_ruleCount f_cex f_curLive f_orderN (d + 1) (nI i) al a_nKind a_nVal a_nA a_nB a_lv a_nd a_nv a_outs a_tKind a_tVal a_tA a_tB a_tN a_preRel a_preJ a_preK a_ruleUse a_pend a_pendN a_tv a_cv a_mx a_par a_mp a_res a_bnd a_order a_stk a_stSt := by
  intro d
  induction d with
  | zero =>
    intro i al hi h1 h2
    refine pk_le 32 i (fun _ => h al (fun c _ hc => h1 c (by omega)) (fun c hc => h2 c (by omega))) (fun h => absurd h (by omega))
  | succ d ih =>
    intro i al hi h1 h2
    have hin : vp_in (nI i) 64 := pk_in i 64 (by omega)
    have hals := hal i (by omega) (by omega)
    have hlvs := hlv i (by omega) (by omega)
    have step : ∀ al', al' i = (if pa_K L K i = 0 then 0 else 1) → (∀ c, c ≠ i → al' c = al c) → wY_deleteDead_7 post f_maxNodes f_maxRules f_phase f_nCount f_outCnt f_apps f_ruleCount f_cex f_curLive f_orderN (d + 1) (nI (i + 1)) al' a_nKind a_nVal a_nA a_nB a_lv a_nd a_nv a_outs a_tKind a_tVal a_tA a_tB a_tN a_preRel a_preJ a_preK a_ruleUse a_pend a_pendN a_tv a_cv a_mx a_par a_mp a_res a_bnd a_order a_stk a_stSt := by
      intro al' k1 k2
      refine ih (i + 1) al' (by omega) (fun c hc => ?_) (fun c hc => ?_)
      · by_cases e : c = i
        · rw [e]
          exact k1
        · rw [k2 c e]
          exact h1 c (by omega)
      · rw [k2 c (by omega)]
        exact h2 c (by omega)
    refine pk_le 32 i (fun h => absurd h (by omega)) (fun _ => ⟨hin, ?_⟩)
    rw [nI_clamp (by omega)]
    have ei : al i = a_alive i := h2 i (by omega)
    rw [ei, hals]
    have e0 : i ∉ L → pa_K L K i = 0 := fun h => if_pos ⟨by omega, h⟩
    have eL : i ∈ L → pa_K L K i = K i := fun h => if_neg (fun hx => hx.2 h)
    by_cases hK : K i = 0
    · rw [if_pos hK]
      refine br_t rfl (nm_r (nI_1 _) (step al ?_ (fun _ _ => rfl)))
      rw [ei, hals, if_pos hK]
      by_cases hx : i ∈ L
      · rw [if_pos (by rw [eL hx]; exact hK)]
      · rw [if_pos (e0 hx)]
    · rw [if_neg hK]
      refine br_f (by decide) ⟨hin, ?_⟩
      by_cases hL : i ∈ L
      · refine br_f (fun h0 => hlvs.mp h0 hL) (nm_r (nI_1 _) (step al ?_ (fun _ _ => rfl)))
        rw [ei, hals, if_neg hK, if_neg (by rw [eL hL]; exact hK)]
      · refine br_t (hlvs.mpr hL) ⟨hin, ?_⟩
        rw [pr_vb0]
        refine nm_e (nm_r (nI_1 _) (step _ ?_ (fun c hc => pk_un hc)))
        rw [pk_us, if_pos (e0 hL)]
theorem y_deleteDead {post : SY → Prop} {oc : Nat} (hG : pr_gw 0 K V A B rk) (hg : gr_at 0 K V A B a_nKind a_nVal a_nA a_nB) (hal : al_at 0 K a_alive) (hoc : oc ≤ 4) (hO : ∀ k, k < oc → pr_T 0 K (O k) ∧ a_outs k = nI (O k)) (hL : L = pr_lv A B O 0 oc)
    (h : ∀ al' lv', al_at 0 (pa_K L K) al' → (∀ c, 32 ≤ c → al' c = a_alive c) → post (f_maxNodes, f_maxRules, f_phase, f_nCount, (nI oc), f_apps, f_ruleCount, f_cex, f_curLive, f_orderN, al', a_nKind, a_nVal, a_nA, a_nB, lv', a_nd, a_nv, a_outs, a_tKind, a_tVal, a_tA, a_tB, a_tN, a_preRel, a_preJ, a_preK, a_ruleUse, a_pend, a_pendN, a_tv, a_cv, a_mx, a_par, a_mp, a_res, a_bnd, a_order, a_stk, a_stSt)) : wpY_deleteDead post (f_maxNodes, f_maxRules, f_phase, f_nCount, (nI oc), f_apps, f_ruleCount, f_cex, f_curLive, f_orderN, a_alive, a_nKind, a_nVal, a_nA, a_nB, a_lv, a_nd, a_nv, a_outs, a_tKind, a_tVal, a_tA, a_tB, a_tN, a_preRel, a_preJ, a_preK, a_ruleUse, a_pend, a_pendN, a_tv, a_cv, a_mx, a_par, a_mp, a_res, a_bnd, a_order, a_stk, a_stSt) := by
  unfold wpY_deleteDead
  refine y_liveMark (g := 0) (O := O) (L := L) (by omega) hG hg hal hoc (fun k hk => by have := hO k hk; simpa using this) (by simpa using hL) (fun lv' hlv => ⟨33, ?_⟩)
  exact y_del7 hal (fun c a b => hlv c (by omega) (by omega)) (fun al' k1 k2 => h al' lv' k1 k2) 32 0 a_alive (by omega) (fun c hc => absurd hc (by omega)) (fun c _ => rfl)
theorem y_uses119 {post : Int32 → Prop} {dn oc : Nat} (hd : dn < 64) (hoc : oc ≤ 4) (hO : ∀ k, k < oc → pr_T 0 K (O k) ∧ a_outs k = nI (O k)) {c0 : Nat} (h : post (nI (c0 + pr_rs (fun k => if O k = dn then 1 else 0) 0 oc))) :
    ∀ d i, i + d = oc → wY_uses_119 post (nI dn) f_maxNodes f_maxRules f_phase f_nCount (nI oc) f_apps f_ruleCount f_cex f_curLive f_orderN a_alive a_nKind a_nVal a_nA a_nB a_lv a_nd a_nv a_outs a_tKind a_tVal a_tA a_tB a_tN a_preRel a_preJ a_preK a_ruleUse a_pend a_pendN a_tv a_cv a_mx a_par a_mp a_res a_bnd a_order a_stk a_stSt (d + 1) (nI (c0 + pr_rs (fun k => if O k = dn then 1 else 0) 0 i)) (nI i) := by
  intro d
  induction d with
  | zero =>
    intro i hi
    refine pk_le oc i (fun _ => ?_) (fun h => absurd h (by omega))
    rw [show i = oc by omega]
    exact h
  | succ d ih =>
    intro i hi
    have hh := ih (i + 1) (by omega)
    rw [show pr_rs (fun k => if O k = dn then 1 else 0) 0 (i + 1) = pr_rs (fun k => if O k = dn then 1 else 0) 0 i + (if O (0 + i) = dn then 1 else 0) from rfl, Nat.zero_add] at hh
    obtain ⟨to, eo⟩ := hO i (by omega)
    have to2 := to.2.1
    refine pk_le oc i (fun h => absurd h (by omega)) (fun _ => pk_le 4 i (fun h => absurd h (by omega)) (fun _ => ⟨pk_in i 8 (by omega), ?_⟩))
    rw [nI_clamp (by omega), eo]
    refine pk_eq (O i) dn (fun e => ?_) (fun e => ?_)
    · rw [if_pos e] at hh
      exact nm_r (nI_1 _) (nm_r (nI_1 _) hh)
    · rw [if_neg e] at hh
      exact nm_r (nI_1 _) hh
theorem y_uses4 {post : Int32 → Prop} {dn : Nat} (hd : dn < 64) (hG : pr_gw 0 K V A B rk) (hg : gr_at 0 K V A B a_nKind a_nVal a_nA a_nB) (hal : al_at 0 K a_alive) (hLT : ∀ x, x ∈ L → pr_T 0 K x) (hlv : ∀ c, 0 ≤ c → c < 0 + 32 → (a_lv c = 0 ↔ c ∉ L))
    (h : ∃ f, wY_uses_119 post (nI dn) f_maxNodes f_maxRules f_phase f_nCount f_outCnt f_apps f_ruleCount f_cex f_curLive f_orderN a_alive a_nKind a_nVal a_nA a_nB a_lv a_nd a_nv a_outs a_tKind a_tVal a_tA a_tB a_tN a_preRel a_preJ a_preK a_ruleUse a_pend a_pendN a_tv a_cv a_mx a_par a_mp a_res a_bnd a_order a_stk a_stSt f (nI (pr_rs (fun s => if s ∈ L then pr_e1 A B dn s else 0) 0 32)) 0) :
    ∀ d i, i + d = 32 → wY_uses_4 post (nI dn) f_maxNodes f_maxRules f_phase f_nCount f_outCnt f_apps f_ruleCount f_cex f_curLive f_orderN a_alive a_nKind a_nVal a_nA a_nB a_lv a_nd a_nv a_outs a_tKind a_tVal a_tA a_tB a_tN a_preRel a_preJ a_preK a_ruleUse a_pend a_pendN a_tv a_cv a_mx a_par a_mp a_res a_bnd a_order a_stk a_stSt (d + 1) (nI (pr_rs (fun s => if s ∈ L then pr_e1 A B dn s else 0) 0 i)) (nI i) := by
  intro d
  induction d with
  | zero =>
    intro i hi
    refine pk_le 32 i (fun _ => ?_) (fun h => absurd h (by omega))
    rw [show i = 32 by omega]
    exact h
  | succ d ih =>
    intro i hi
    have hh := ih (i + 1) (by omega)
    rw [show pr_rs (fun s => if s ∈ L then pr_e1 A B dn s else 0) 0 (i + 1) = pr_rs (fun s => if s ∈ L then pr_e1 A B dn s else 0) 0 i + (if 0 + i ∈ L then pr_e1 A B dn (0 + i) else 0) from rfl, Nat.zero_add] at hh
    generalize pr_rs (fun s => if s ∈ L then pr_e1 A B dn s else 0) 0 i = q at hh ⊢
    have hin : vp_in (nI i) 64 := pk_in i 64 (by omega)
    have hcl : (nI i).toNatClampNeg = i := nI_clamp (by omega)
    have hals := hal i (by omega) (by omega)
    have hlvs := hlv i (by omega) (by omega)
    refine pk_le 32 i (fun h => absurd h (by omega)) (fun _ => ⟨hin, ?_⟩)
    rw [hcl]
    by_cases hL : i ∈ L
    · have ts := hLT _ hL
      obtain ⟨g1, g2, g3, g4, g5, g6, g7, g8, g9, g10⟩ := hG i ts
      obtain ⟨k1, k2, k3, k4⟩ := hg i ts
      have hK0 := ts.2.2
      have hK1 : 1 ≤ K i := Nat.pos_of_ne_zero hK0
      rw [if_neg hK0] at hals
      have ha : ¬ a_alive i = 0 := by
        rw [hals]
        decide
      have hl : ¬ a_lv i = 0 := fun h0 => hlvs.mp h0 hL
      rw [if_pos hL] at hh
      unfold pr_e1 at hh
      have h67 : ∀ q', wY_uses_4 post (nI dn) f_maxNodes f_maxRules f_phase f_nCount f_outCnt f_apps f_ruleCount f_cex f_curLive f_orderN a_alive a_nKind a_nVal a_nA a_nB a_lv a_nd a_nv a_outs a_tKind a_tVal a_tA a_tB a_tN a_preRel a_preJ a_preK a_ruleUse a_pend a_pendN a_tv a_cv a_mx a_par a_mp a_res a_bnd a_order a_stk a_stSt (d + 1) (nI (q' + (if B i = some dn then 1 else 0))) (nI (i + 1)) → wY_uses_67 post (wY_uses_4 post (nI dn) f_maxNodes f_maxRules f_phase f_nCount f_outCnt f_apps f_ruleCount f_cex f_curLive f_orderN a_alive a_nKind a_nVal a_nA a_nB a_lv a_nd a_nv a_outs a_tKind a_tVal a_tA a_tB a_tN a_preRel a_preJ a_preK a_ruleUse a_pend a_pendN a_tv a_cv a_mx a_par a_mp a_res a_bnd a_order a_stk a_stSt (d + 1)) (nI dn) (nI q') (nI i) f_maxNodes f_maxRules f_phase f_nCount f_outCnt f_apps f_ruleCount f_cex f_curLive f_orderN a_alive a_nKind a_nVal a_nA a_nB a_lv a_nd a_nv a_outs a_tKind a_tVal a_tA a_tB a_tN a_preRel a_preJ a_preK a_ruleUse a_pend a_pendN a_tv a_cv a_mx a_par a_mp a_res a_bnd a_order a_stk a_stSt := by
        intro q' hq
        refine ⟨hin, ?_⟩
        rw [hcl]
        refine br_f ha ⟨hin, br_f hl ⟨hin, ?_⟩⟩
        rw [k1]
        by_cases hb : K i ≤ 8
        · obtain ⟨c, hc⟩ := g9 hb
          have tc := (g10 c (Or.inr hc)).1.2.1
          refine y_isBin_t hK1 hb (br_f (by decide) ⟨hin, ?_⟩)
          rw [k4, hc]
          refine pk_eq c dn (fun e => ?_) (fun e => ?_)
          · rw [hc, e, if_pos rfl] at hq
            exact nm_r (nI_1 _) (nm_r (nI_1 _) hq)
          · rw [hc, if_neg (fun h => e (Option.some.inj h))] at hq
            exact nm_r (nI_1 _) hq
        · rw [g7 (by omega), if_neg (fun h => nomatch h)] at hq
          exact y_isBin_f (by omega) (by omega) (br_t rfl (nm_r (nI_1 _) hq))
      have h54 : K i ≤ 10 → wY_uses_54 post (wY_uses_4 post (nI dn) f_maxNodes f_maxRules f_phase f_nCount f_outCnt f_apps f_ruleCount f_cex f_curLive f_orderN a_alive a_nKind a_nVal a_nA a_nB a_lv a_nd a_nv a_outs a_tKind a_tVal a_tA a_tB a_tN a_preRel a_preJ a_preK a_ruleUse a_pend a_pendN a_tv a_cv a_mx a_par a_mp a_res a_bnd a_order a_stk a_stSt (d + 1)) (nI dn) (nI q) (nI i) f_maxNodes f_maxRules f_phase f_nCount f_outCnt f_apps f_ruleCount f_cex f_curLive f_orderN a_alive a_nKind a_nVal a_nA a_nB a_lv a_nd a_nv a_outs a_tKind a_tVal a_tA a_tB a_tN a_preRel a_preJ a_preK a_ruleUse a_pend a_pendN a_tv a_cv a_mx a_par a_mp a_res a_bnd a_order a_stk a_stSt := by
        intro hu
        obtain ⟨c, hc⟩ := g8 hu
        have tc := (g10 c (Or.inl hc)).1.2.1
        refine ⟨hin, ?_⟩
        rw [hcl, k3, hc]
        refine pk_eq c dn (fun e => ?_) (fun e => ?_)
        · rw [hc, e, if_pos rfl] at hh
          refine nm_r (nI_1 _) (h67 (q + 1) ?_)
          rw [Nat.add_assoc]
          exact hh
        · rw [hc, if_neg (fun h => e (Option.some.inj h)), Nat.zero_add] at hh
          exact h67 q hh
      refine br_f ha ⟨hin, br_f hl ⟨hin, ?_⟩⟩
      rw [k1]
      by_cases hb : K i ≤ 8
      · exact y_isBin_t hK1 hb (br_f (by decide) (h54 (Nat.le_trans hb (by decide))))
      · refine y_isBin_f (by omega) (by omega) (br_t rfl ⟨hin, ?_⟩)
        by_cases hu : K i ≤ 10
        · exact y_isUn_t (by omega) (br_f (by decide) (h54 hu))
        · refine y_isUn_f (by omega) (by omega) (br_t rfl (h67 q ?_))
          rw [g6 (by omega), if_neg (fun h => nomatch h), Nat.zero_add] at hh
          exact hh
    · rw [if_neg hL, Nat.add_zero] at hh
      have h67 : wY_uses_67 post (wY_uses_4 post (nI dn) f_maxNodes f_maxRules f_phase f_nCount f_outCnt f_apps f_ruleCount f_cex f_curLive f_orderN a_alive a_nKind a_nVal a_nA a_nB a_lv a_nd a_nv a_outs a_tKind a_tVal a_tA a_tB a_tN a_preRel a_preJ a_preK a_ruleUse a_pend a_pendN a_tv a_cv a_mx a_par a_mp a_res a_bnd a_order a_stk a_stSt (d + 1)) (nI dn) (nI q) (nI i) f_maxNodes f_maxRules f_phase f_nCount f_outCnt f_apps f_ruleCount f_cex f_curLive f_orderN a_alive a_nKind a_nVal a_nA a_nB a_lv a_nd a_nv a_outs a_tKind a_tVal a_tA a_tB a_tN a_preRel a_preJ a_preK a_ruleUse a_pend a_pendN a_tv a_cv a_mx a_par a_mp a_res a_bnd a_order a_stk a_stSt := by
        refine ⟨hin, ?_⟩
        rw [hcl]
        by_cases h0 : a_alive i = 0
        · exact br_t h0 (nm_r (nI_1 _) hh)
        · exact br_f h0 ⟨hin, br_t (hlvs.mpr hL) (nm_r (nI_1 _) hh)⟩
      by_cases h0 : a_alive i = 0
      · exact br_t h0 h67
      · exact br_f h0 ⟨hin, br_t (hlvs.mpr hL) h67⟩
theorem y_uses {post : Int32 → Prop} {dn oc : Nat} (hd : dn < 64) (hG : pr_gw 0 K V A B rk) (hg : gr_at 0 K V A B a_nKind a_nVal a_nA a_nB) (hal : al_at 0 K a_alive) (hoc : oc ≤ 4) (hO : ∀ k, k < oc → pr_T 0 K (O k) ∧ a_outs k = nI (O k)) (hL : L = pr_lv A B O 0 oc)
    (hlv : ∀ c, 0 ≤ c → c < 0 + 32 → (a_lv c = 0 ↔ c ∉ L)) (h : post (nI (pr_us A B O L oc dn))) : wpY_uses post (f_maxNodes, f_maxRules, f_phase, f_nCount, (nI oc), f_apps, f_ruleCount, f_cex, f_curLive, f_orderN, a_alive, a_nKind, a_nVal, a_nA, a_nB, a_lv, a_nd, a_nv, a_outs, a_tKind, a_tVal, a_tA, a_tB, a_tN, a_preRel, a_preJ, a_preK, a_ruleUse, a_pend, a_pendN, a_tv, a_cv, a_mx, a_par, a_mp, a_res, a_bnd, a_order, a_stk, a_stSt) (nI dn) := by
  have hlk := pr_lv_ok (O := O) (ob := 0) (pr_gw_T hG) (pr_gw_r hG) oc (fun k hk => by rw [Nat.zero_add]; exact (hO k hk).1)
  rw [← hL] at hlk
  have e := pr_rs_list (w := pr_e1 A B dn) (lo := 0) (n := 32) hlk.1 (fun x hx => ⟨(hlk.2.2.2 x hx).1.1, (hlk.2.2.2 x hx).1.2.1⟩)
  refine ⟨33, y_uses4 hd hG hg hal (fun x hx => (hlk.2.2.2 x hx).1) hlv ⟨oc + 1, ?_⟩ 32 0 (by omega)⟩
  rw [e]
  exact y_uses119 hd hoc hO (c0 := pr_sm (pr_e1 A B dn) L) h oc 0 (by omega)
end YH
end
section
/-! Y: eval by passes -/
section YI
variable {f_maxNodes f_maxRules f_phase f_nCount f_outCnt f_apps f_ruleCount f_cex f_curLive f_orderN : Int32} {a_alive a_nKind a_nVal a_nA a_nB a_lv a_nd a_nv a_outs a_tKind a_tVal a_tA a_tB a_tN a_preRel a_preJ a_preK a_ruleUse a_pend a_pendN a_tv a_cv a_mx a_par a_mp a_res a_bnd a_order a_stk a_stSt : Nat → Int32}
variable {lo : Nat} {K : Nat → Nat} {V : Nat → Int32} {A B : Nat → Option Nat} {rk O : Nat → Nat} {ar : Int32}
def y_snd (T : Nat → Prop) (ev : Nat → Int32) (nd nv : Nat → Int32) : Prop := ∀ c, T c → nd c ≠ 0 → nv c = ev c
theorem y_evalStep {post : SY → Prop} {n : Nat} (hlo : lo ≤ 32) (hG : pr_gw lo K V A B rk) (hg : gr_at lo K V A B a_nKind a_nVal a_nA a_nB) (tn : pr_T lo K n) (hs : y_snd (pr_T lo K) (pr_ev K V A B ar 32) a_nd a_nv)
    (hy : (∀ c, A n = some c ∨ B n = some c → a_nd c ≠ 0) → post (f_maxNodes, f_maxRules, f_phase, f_nCount, f_outCnt, f_apps, f_ruleCount, f_cex, f_curLive, f_orderN, a_alive, a_nKind, a_nVal, a_nA, a_nB, a_lv, (upd a_nd n 1), (upd a_nv n (pr_ev K V A B ar 32 n)), a_outs, a_tKind, a_tVal, a_tA, a_tB, a_tN, a_preRel, a_preJ, a_preK, a_ruleUse, a_pend, a_pendN, a_tv, a_cv, a_mx, a_par, a_mp, a_res, a_bnd, a_order, a_stk, a_stSt)) (hno : (∃ c, (A n = some c ∨ B n = some c) ∧ a_nd c = 0) → post (f_maxNodes, f_maxRules, f_phase, f_nCount, f_outCnt, f_apps, f_ruleCount, f_cex, f_curLive, f_orderN, a_alive, a_nKind, a_nVal, a_nA, a_nB, a_lv, a_nd, a_nv, a_outs, a_tKind, a_tVal, a_tA, a_tB, a_tN, a_preRel, a_preJ, a_preK, a_ruleUse, a_pend, a_pendN, a_tv, a_cv, a_mx, a_par, a_mp, a_res, a_bnd, a_order, a_stk, a_stSt)) : wpY_evalStep post (f_maxNodes, f_maxRules, f_phase, f_nCount, f_outCnt, f_apps, f_ruleCount, f_cex, f_curLive, f_orderN, a_alive, a_nKind, a_nVal, a_nA, a_nB, a_lv, a_nd, a_nv, a_outs, a_tKind, a_tVal, a_tA, a_tB, a_tN, a_preRel, a_preJ, a_preK, a_ruleUse, a_pend, a_pendN, a_tv, a_cv, a_mx, a_par, a_mp, a_res, a_bnd, a_order, a_stk, a_stSt) (nI n) ar := by
  have tn2 := tn.2.1
  obtain ⟨g1, g2, g3, g4, g5, g6, g7, g8, g9, g10⟩ := hG n tn
  obtain ⟨k1, k2, k3, k4⟩ := hg n tn
  have hK0 := tn.2.2
  have hK1 : 1 ≤ K n := Nat.pos_of_ne_zero hK0
  have hin : vp_in (nI n) 64 := pk_in n 64 (by omega)
  have hcl : (nI n).toNatClampNeg = n := nI_clamp (by omega)
  have hev := pr_ev_eq (ar := ar) hG tn
  unfold pr_en at hev
  unfold wpY_evalStep
  refine ⟨hin, ?_⟩
  rw [hcl]
  refine nm_r k1 ⟨hin, nm_r k3 ⟨hin, nm_r k4 ?_⟩⟩
  refine pk_eq (K n) 11 (fun e => ⟨hin, hin, ?_⟩) (fun n11 => pk_eq (K n) 12 (fun e => ⟨hin, hin, ?_⟩) (fun n12 => ?_))
  · rw [if_pos e] at hev
    rw [k2, pr_vb1, ← hev]
    exact nm_e ⟨hin, nm_e (hy fun c hc => by rw [g6 (by omega), g7 (by omega)] at hc; rcases hc with x | x <;> cases x)⟩
  · rw [if_neg n11, if_pos e] at hev
    unfold pr_ag at hev
    rw [k2, pr_vb1, ← hev]
    exact nm_e ⟨hin, nm_e (hy fun c hc => by rw [g6 (by omega), g7 (by omega)] at hc; rcases hc with x | x <;> cases x)⟩
  · rw [if_neg n11, if_neg n12] at hev
    obtain ⟨ca, hca⟩ := g8 (by omega)
    have tca := (g10 ca (Or.inl hca)).1
    have tca2 := tca.2.1
    rw [hca] at hev ⊢
    have hina : vp_in (nI ca) 64 := pk_in ca 64 (by omega)
    have hcla : (nI ca).toNatClampNeg = ca := nI_clamp (by omega)
    by_cases hb : K n ≤ 8
    · obtain ⟨cb, hcb⟩ := g9 hb
      have tcb := (g10 cb (Or.inr hcb)).1
      have tcb2 := tcb.2.1
      rw [hcb] at hev ⊢
      have hinb : vp_in (nI cb) 64 := pk_in cb 64 (by omega)
      have hclb : (nI cb).toNatClampNeg = cb := nI_clamp (by omega)
      refine y_isUn_f (by omega) (by omega) (br_t rfl (y_isBin_t hK1 hb (br_f (by decide) ?_)))
      show (nI ca < 0 → _) ∧ (¬ nI ca < 0 → _)
      refine br_f (nI_pos (by omega)) (pk_le 64 ca (fun h => absurd h (by omega)) (fun _ => ?_))
      show (nI cb < 0 → _) ∧ (¬ nI cb < 0 → _)
      refine br_f (nI_pos (by omega)) (pk_le 64 cb (fun h => absurd h (by omega)) (fun _ => ⟨hina, ?_⟩))
      show (a_nd (nI ca).toNatClampNeg = 0 → _) ∧ (¬ a_nd (nI ca).toNatClampNeg = 0 → _)
      rw [hcla]
      refine br_c (fun h0 => hno ⟨ca, Or.inl hca, h0⟩) (fun h0 => ⟨hinb, ?_⟩)
      show (a_nd (nI cb).toNatClampNeg = 0 → _) ∧ (¬ a_nd (nI cb).toNatClampNeg = 0 → _)
      rw [hclb]
      refine br_c (fun h1 => hno ⟨cb, Or.inr hcb, h1⟩) (fun h1 => ⟨hina, hinb, y_op (by omega) (by omega) ⟨hin, ?_⟩⟩)
      show ∀ x, x = upd a_nv (nI n).toNatClampNeg (pr_op (K n) (a_nv (nI ca).toNatClampNeg) (a_nv (nI cb).toNatClampNeg)) → _
      rw [hcl, hcla, hclb, pr_vb1, hs ca tca h0, hs cb tcb h1]
      replace hev : pr_ev K V A B ar 32 n = pr_op (K n) (pr_ev K V A B ar 32 ca) (pr_ev K V A B ar 32 cb) := hev
      rw [← hev]
      refine nm_e ⟨hin, nm_e (hy fun c hc => ?_)⟩
      rcases hc with x | x
      · rw [hca] at x
        cases x
        exact h0
      · rw [hcb] at x
        cases x
        exact h1
    · have hB := g7 (by omega)
      rw [hB] at hev ⊢
      refine y_isUn_t (by omega) (br_f (by decide) ?_)
      show (nI ca < 0 → _) ∧ (¬ nI ca < 0 → _)
      refine br_f (nI_pos (by omega)) (pk_le 64 ca (fun h => absurd h (by omega)) (fun _ => ⟨hina, ?_⟩))
      show (a_nd (nI ca).toNatClampNeg = 0 → _) ∧ (¬ a_nd (nI ca).toNatClampNeg = 0 → _)
      rw [hcla]
      refine br_c (fun h0 => y_isBin_f (by omega) (by omega) (br_t rfl (hno ⟨ca, Or.inl hca, h0⟩))) (fun h0 => ⟨hina, y_op (by omega) (by omega) ⟨hin, ?_⟩⟩)
      show ∀ x, x = upd a_nv n (pr_op (K n) (a_nv (nI ca).toNatClampNeg) 0) → _
      rw [hcla, pr_vb1, hs ca tca h0]
      replace hev : pr_ev K V A B ar 32 n = pr_op (K n) (pr_ev K V A B ar 32 ca) 0 := hev
      rw [← hev]
      refine nm_e ⟨hin, nm_e (hy fun c hc => ?_)⟩
      rcases hc with x | x
      · rw [hca] at x
        cases x
        exact h0
      · rw [hB] at x
        cases x
theorem y_eval76 {post : Int32 → SY → Prop} {J65 : Int32 → Int32 → Int32 → Int32 → Int32 → Int32 → Int32 → Int32 → Int32 → Int32 → Int32 → (Nat → Int32) → (Nat → Int32) → (Nat → Int32) → (Nat → Int32) → (Nat → Int32) → (Nat → Int32) → (Nat → Int32) → (Nat → Int32) → (Nat → Int32) → (Nat → Int32) → (Nat → Int32) → (Nat → Int32) → (Nat → Int32) → (Nat → Int32) → (Nat → Int32) → (Nat → Int32) → (Nat → Int32) → (Nat → Int32) → (Nat → Int32) → (Nat → Int32) → (Nat → Int32) → (Nat → Int32) → (Nat → Int32) → (Nat → Int32) → (Nat → Int32) → (Nat → Int32) → (Nat → Int32) → (Nat → Int32) → (Nat → Int32) → (Nat → Int32) → Prop} {p : Nat} {x1 : Int32} {nd0 : Nat → Int32} (hlo : lo ≤ 32) (hG : pr_gw lo K V A B rk) (hg : gr_at lo K V A B a_nKind a_nVal a_nA a_nB) (hal : al_at lo K a_alive)
    (h : ∀ nd' nv', y_snd (pr_T lo K) (pr_ev K V A B ar 32) nd' nv' → (∀ x, pr_T lo K x → (∀ c, A x = some c ∨ B x = some c → nd0 c ≠ 0) → nd' x ≠ 0) → J65 (nI (p + 1)) f_maxNodes f_maxRules f_phase f_nCount f_outCnt f_apps f_ruleCount f_cex f_curLive f_orderN a_alive a_nKind a_nVal a_nA a_nB a_lv nd' nv' a_outs a_tKind a_tVal a_tA a_tB a_tN a_preRel a_preJ a_preK a_ruleUse a_pend a_pendN a_tv a_cv a_mx a_par a_mp a_res a_bnd a_order a_stk a_stSt) :
    ∀ d s nd nv, s + d = lo + 32 → lo ≤ s → y_snd (pr_T lo K) (pr_ev K V A B ar 32) nd nv → (∀ c, nd0 c ≠ 0 → nd c ≠ 0) → (∀ x, x < s → pr_T lo K x → (∀ c, A x = some c ∨ B x = some c → nd0 c ≠ 0) → nd x ≠ 0) → wY_eval_76 post J65 x1 ar (nI lo) (nI p) (d + 1) (nI s) f_maxNodes f_maxRules f_phase f_nCount f_outCnt f_apps f_ruleCount f_cex f_curLive f_orderN a_alive a_nKind a_nVal a_nA a_nB a_lv nd nv a_outs a_tKind a_tVal a_tA a_tB a_tN a_preRel a_preJ a_preK a_ruleUse a_pend a_pendN a_tv a_cv a_mx a_par a_mp a_res a_bnd a_order a_stk a_stSt := by
  intro d
  have e32 : nI lo + 32 = nI (lo + 32) := nI_add lo 32
  induction d with
  | zero =>
    intro s nd nv hs h0 h1 h2 h3
    show ((nI lo + 32) ≤ nI s → _) ∧ (¬ (nI lo + 32) ≤ nI s → _)
    rw [e32]
    exact pk_le (lo + 32) s (fun _ => nm_r (nI_1 _) (h nd nv h1 fun x tx => h3 x (by have := tx.2.1; omega) tx)) (fun h => absurd h (by omega))
  | succ d ih =>
    intro s nd nv hs h0 h1 h2 h3
    have hin : vp_in (nI s) 64 := pk_in s 64 (by omega)
    have hals := hal s h0 (by omega)
    show ((nI lo + 32) ≤ nI s → _) ∧ (¬ (nI lo + 32) ≤ nI s → _)
    rw [e32]
    refine pk_le (lo + 32) s (fun h => absurd h (by omega)) (fun _ => ⟨hin, ?_⟩)
    rw [nI_clamp (by omega)]
    by_cases hK : K s = 0
    · rw [if_pos hK] at hals
      refine br_t hals (nm_r (nI_1 _) (ih (s + 1) nd nv (by omega) (by omega) h1 h2 fun x hx tx => ?_))
      refine h3 x ?_ tx
      have : x ≠ s := fun e => tx.2.2 (e ▸ hK)
      omega
    · rw [if_neg hK] at hals
      have ts : pr_T lo K s := ⟨h0, by omega, hK⟩
      refine br_f (by rw [hals]; decide) ⟨hin, br_c (fun hz => ?_) (fun hz => nm_r (nI_1 _) (ih (s + 1) nd nv (by omega) (by omega) h1 h2 fun x hx tx hx0 => ?_))⟩
      · refine y_evalStep hlo hG hg ts h1 (fun hy => nm_r (nI_1 _) (ih (s + 1) _ _ (by omega) (by omega) (fun c tc hc => ?_) (fun c hc => ?_) (fun x hx tx hx0 => ?_))) (fun hno => nm_r (nI_1 _) (ih (s + 1) nd nv (by omega) (by omega) h1 h2 fun x hx tx hx0 => ?_))
        · by_cases e : c = s
          · rw [e, pk_us]
          · rw [pk_un e] at hc ⊢
            exact h1 c tc hc
        · by_cases e : c = s
          · rw [e, pk_us]
            decide
          · rw [pk_un e]
            exact h2 c hc
        · by_cases e : x = s
          · rw [e, pk_us]
            decide
          · rw [pk_un e]
            exact h3 x (by omega) tx hx0
        · by_cases e : x = s
          · subst e
            obtain ⟨c, hc, hc0⟩ := hno
            exact absurd hc0 (h2 c (hx0 c hc))
          · exact h3 x (by omega) tx hx0
      · by_cases e : x = s
        · rw [e]
          exact hz
        · exact h3 x (by omega) tx hx0
theorem y_eval65 {post : Int32 → SY → Prop} {g k oc : Nat} (hgc : g < 2) (hk : k < oc) (hoc : oc ≤ 4) (hG : pr_gw (g * 32) K V A B rk) (hg : gr_at (g * 32) K V A B a_nKind a_nVal a_nA a_nB) (hal : al_at (g * 32) K a_alive) (hO : ∀ k, k < oc → pr_T (g * 32) K (O (g * 4 + k)) ∧ a_outs (g * 4 + k) = nI (O (g * 4 + k)))
    (h : ∀ nd' nv', post (pr_ev K V A B ar 32 (O (g * 4 + k))) (f_maxNodes, f_maxRules, f_phase, f_nCount, f_outCnt, f_apps, f_ruleCount, f_cex, f_curLive, f_orderN, a_alive, a_nKind, a_nVal, a_nA, a_nB, a_lv, nd', nv', a_outs, a_tKind, a_tVal, a_tA, a_tB, a_tN, a_preRel, a_preJ, a_preK, a_ruleUse, a_pend, a_pendN, a_tv, a_cv, a_mx, a_par, a_mp, a_res, a_bnd, a_order, a_stk, a_stSt)) :
    ∀ d p nd nv, p + d = 34 → y_snd (pr_T (g * 32) K) (pr_ev K V A B ar 32) nd nv → (∀ c, pr_T (g * 32) K c → rk c < p → nd c ≠ 0) → wY_eval_65 post (nI k) ar (nI (g * 32)) (d + 1) (nI p) f_maxNodes f_maxRules f_phase f_nCount f_outCnt f_apps f_ruleCount f_cex f_curLive f_orderN a_alive a_nKind a_nVal a_nA a_nB a_lv nd nv a_outs a_tKind a_tVal a_tA a_tB a_tN a_preRel a_preJ a_preK a_ruleUse a_pend a_pendN a_tv a_cv a_mx a_par a_mp a_res a_bnd a_order a_stk a_stSt := by
  intro d
  induction d with
  | zero =>
    intro p nd nv hp h1 h2
    obtain ⟨to, eo⟩ := hO k hk
    have to2 := to.2.1
    have h139 : wY_eval_139 post (nI k) (nI (g * 4)) f_maxNodes f_maxRules f_phase f_nCount f_outCnt f_apps f_ruleCount f_cex f_curLive f_orderN a_alive a_nKind a_nVal a_nA a_nB a_lv nd nv a_outs a_tKind a_tVal a_tA a_tB a_tN a_preRel a_preJ a_preK a_ruleUse a_pend a_pendN a_tv a_cv a_mx a_par a_mp a_res a_bnd a_order a_stk a_stSt := by
      show vp_in (nI (g * 4) + nI k) 8 ∧ _
      rw [nI_add]
      refine ⟨pk_in (g * 4 + k) 8 (by omega), ?_⟩
      rw [nI_clamp (by omega)]
      refine nm_r eo (br_f (nI_pos (by omega)) (pk_le 64 (O (g * 4 + k)) (fun h => absurd h (by omega)) (fun _ => ⟨pk_in (O (g * 4 + k)) 64 (by omega), ?_⟩)))
      have hr := pr_gw_r hG _ to
      rw [nI_clamp (by omega), h1 _ to (h2 _ to (by omega)), pr_by_id (pr_ev_by hG 32 _ to hr)]
      exact h nd nv
    refine pk_le 34 p (fun _ => pk_eq (g * 32) 0 (fun e => ?_) (fun e => ?_)) (fun h => absurd h (by omega))
    · have : g = 0 := by omega
      subst this
      exact h139
    · have : g = 1 := by omega
      subst this
      exact h139
  | succ d ih =>
    intro p nd nv hp h1 h2
    refine pk_le 34 p (fun h => absurd h (by omega)) (fun _ => ⟨33, ?_⟩)
    refine y_eval76 (nd0 := nd) (by omega) hG hg hal (fun nd' nv' k1 k2 => ?_) 32 (g * 32) nd nv (by omega) (by omega) h1 (fun c hc => hc) (fun x hx tx => absurd tx.1 (by omega))
    refine ih (p + 1) nd' nv' (by omega) k1 (fun c tc hr => k2 c tc fun x hx => ?_)
    have := pr_gw_T hG c x tc hx
    exact h2 x this.1 (by omega)
theorem y_eval38 {post : Int32 → SY → Prop} {g k oc : Nat} (hgc : g < 2) (hk : k < oc) (hoc : oc ≤ 4) (hG : pr_gw (g * 32) K V A B rk) (hg : gr_at (g * 32) K V A B a_nKind a_nVal a_nA a_nB) (hal : al_at (g * 32) K a_alive) (hO : ∀ k, k < oc → pr_T (g * 32) K (O (g * 4 + k)) ∧ a_outs (g * 4 + k) = nI (O (g * 4 + k)))
    (h : ∀ nd' nv', post (pr_ev K V A B ar 32 (O (g * 4 + k))) (f_maxNodes, f_maxRules, f_phase, f_nCount, f_outCnt, f_apps, f_ruleCount, f_cex, f_curLive, f_orderN, a_alive, a_nKind, a_nVal, a_nA, a_nB, a_lv, nd', nv', a_outs, a_tKind, a_tVal, a_tA, a_tB, a_tN, a_preRel, a_preJ, a_preK, a_ruleUse, a_pend, a_pendN, a_tv, a_cv, a_mx, a_par, a_mp, a_res, a_bnd, a_order, a_stk, a_stSt)) :
    ∃ n, wY_eval_38 post (nI k) ar (nI (g * 32)) f_maxNodes f_maxRules f_phase f_nCount f_outCnt f_apps f_ruleCount f_cex f_curLive f_orderN n (nI (g * 32)) a_alive a_nKind a_nVal a_nA a_nB a_lv a_nd a_nv a_outs a_tKind a_tVal a_tA a_tB a_tN a_preRel a_preJ a_preK a_ruleUse a_pend a_pendN a_tv a_cv a_mx a_par a_mp a_res a_bnd a_order a_stk a_stSt := by
  have e32 : nI (g * 32) + 32 = nI (g * 32 + 32) := nI_add (g * 32) 32
  have l : ∀ d s nd, s + d = g * 32 + 32 → g * 32 ≤ s → (∀ c, g * 32 ≤ c → c < s → nd c = 0) → wY_eval_38 post (nI k) ar (nI (g * 32)) f_maxNodes f_maxRules f_phase f_nCount f_outCnt f_apps f_ruleCount f_cex f_curLive f_orderN (d + 1) (nI s) a_alive a_nKind a_nVal a_nA a_nB a_lv nd a_nv a_outs a_tKind a_tVal a_tA a_tB a_tN a_preRel a_preJ a_preK a_ruleUse a_pend a_pendN a_tv a_cv a_mx a_par a_mp a_res a_bnd a_order a_stk a_stSt := by
    intro d
    induction d with
    | zero =>
      intro s nd hs h0 h1
      show ((nI (g * 32) + 32) ≤ nI s → _) ∧ (¬ (nI (g * 32) + 32) ≤ nI s → _)
      rw [e32]
      refine pk_le (g * 32 + 32) s (fun _ => ⟨35, ?_⟩) (fun h => absurd h (by omega))
      exact y_eval65 hgc hk hoc hG hg hal hO h 34 0 nd a_nv (by omega) (fun c tc hc => absurd (h1 c tc.1 (by have := tc.2.1; omega)) hc) (fun c _ hr => absurd hr (by omega))
    | succ d ih =>
      intro s nd hs h0 h1
      show ((nI (g * 32) + 32) ≤ nI s → _) ∧ (¬ (nI (g * 32) + 32) ≤ nI s → _)
      rw [e32]
      refine pk_le (g * 32 + 32) s (fun h => absurd h (by omega)) (fun _ => ⟨pk_in s 64 (by omega), ?_⟩)
      rw [nI_clamp (by omega), pr_vb0]
      refine nm_e (nm_r (nI_1 _) (ih (s + 1) _ (by omega) (by omega) fun c c1 c2 => ?_))
      by_cases e : c = s
      · rw [e, pk_us]
      · rw [pk_un e]
        exact h1 c c1 (by omega)
  exact ⟨33, l 32 (g * 32) a_nd (by omega) (by omega) (fun c c1 c2 => absurd c2 (by omega))⟩
end YI
end
section
/-! the relation: one pure state, both sides related to it -/
def pr_rule (P R : pr_PT) (rl rj rK : Nat) : Prop :=
  pt_ok P ∧ pt_fin P ∧ pt_k P (pt_n P - 1) ≤ 10 ∧ pt_ok R ∧ pt_fin R ∧ (∀ i, i < pt_n R → pt_k R i ≠ 14) ∧ (∀ q, q < pt_n R → pt_k R q = 13 → ∃ p, p < pt_n P ∧ 13 ≤ pt_k P p ∧ pt_v P p = pt_v R q) ∧
  rl ≤ 4 ∧ (rl ≠ 0 → rj < 2 ∧ rK < 256 ∧ pt_has P 14 rj = true) ∧ pt_rw R (pt_has P 14) < pt_pw P ∧ (∀ j, pt_has P 13 j = true → pt_has P 14 j = false)
def sp_dr (D : Nat → pr_PT) (ps : Nat → Nat → Nat) (dc : Nat → Nat) (dl dj dk : Nat) : Prop :=
  (∀ s, s < 2 → pt_ok (D s) ∧ pd_ok (D s) (ps s) (dc s)) ∧ (∀ i, i < pt_n (D 1) → pt_k (D 1) i ≠ 14) ∧ dl ≤ 4 ∧ (dl ≠ 0 → dj < 2 ∧ dk < 256)
def sp_gr (mN ph nc oc : Nat) (K : Nat → Nat) (V : Nat → Int32) (A B : Nat → Option Nat) (O : Nat → Nat) : Prop :=
  ∃ rk rk2 : Nat → Nat, pr_gw 0 K V A B rk ∧ (∀ k, k < oc → pr_T 0 K (O k)) ∧ (ph = 0 → (rk = fun n => n) ∧ nc ≤ mN ∧ ∀ n, n < 32 → (K n = 0 ↔ nc ≤ n)) ∧ (ph = 1 → pr_gw 32 K V A B rk2 ∧ (∀ k, k < oc → pr_T 32 K (O (4 + k))) ∧ ∀ x, pr_T 0 K x → x ∈ pr_lv A B O 0 oc)
def sp_ok (mN : Nat) (mR : Nat) (rc : Nat) (ph : Nat) (nc : Nat) (oc : Nat) (cx : Int32) (ap : Int32) (P : Nat → pr_PT) (R : Nat → pr_PT) (rl : Nat → Nat) (rj : Nat → Nat) (rK : Nat → Nat) (uc : Nat → Int32) (D : Nat → pr_PT) (ps : Nat → Nat → Nat) (dc : Nat → Nat) (dl : Nat) (dj : Nat) (dk : Nat) (K : Nat → Nat) (V : Nat → Int32) (A : Nat → Option Nat) (B : Nat → Option Nat) (O : Nat → Nat) : Prop :=
  8 ≤ mN ∧ mN ≤ 32 ∧ 1 ≤ mR ∧ mR ≤ 16 ∧ rc ≤ mR ∧ ph ≤ 1 ∧ oc ≤ 4 ∧ (∀ r, r < rc → pr_rule (P r) (R r) (rl r) (rj r) (rK r)) ∧ sp_dr D ps dc dl dj dk ∧ sp_gr mN ph nc oc K V A B O
/-- a precondition kept in arrays at the place x -/
def pe_at (x rl rj rK : Nat) (pr pv pc : Nat → Int32) : Prop := pr x = nI rl ∧ (rl ≠ 0 → pv x = nI rj ∧ pc x = nI rK)
def xr_rule (r : Nat) (P R : pr_PT) (sz kd vl ta tb cv mx rn : Nat → Int32) : Prop :=
  tr_at ((r * 2 + 0) * 8) (r * 2 + 0) P sz kd vl ta tb ∧ tr_at ((r * 2 + 1) * 8) (r * 2 + 1) R sz kd vl ta tb ∧ (∀ q, q < pt_n R → cv ((r * 2 + 1) * 8 + q) = pr_b (pt_cv R (pt_has P 14) q)) ∧ (∀ q, q < pt_n R → mx ((r * 2 + 1) * 8 + q) = pr_b (pt_mx R (pt_has P 14) q)) ∧ rn r = nI (pt_rm R (pt_has P 14))
/-- the draft in the rule slot x, its pending subtrees as places from the offset o s on -/
def dr_at (x : Nat) (o : Nat → Nat) (D : Nat → pr_PT) (ps : Nat → Nat → Nat) (dc : Nat → Nat) (sz kd vl ta tb pn pc : Nat → Int32) : Prop :=
  ∀ s, s < 2 → tr_at (o s) (x * 2 + s) (D s) sz kd vl ta tb ∧ pc s = nI (dc s) ∧ ∀ q, q < dc s → pn (s * 8 + q) = nI (o s + ps s q)
def gr_all (ph oc : Nat) (K : Nat → Nat) (V : Nat → Int32) (A B : Nat → Option Nat) (O : Nat → Nat) (nk nv na nb ou : Nat → Int32) : Prop :=
  gr_at 0 K V A B nk nv na nb ∧ (∀ k, k < oc → ou k = nI (O k)) ∧ (ph = 1 → gr_at 32 K V A B nk nv na nb ∧ ∀ k, k < oc → ou (4 + k) = nI (O (4 + k)))
def rx (mN : Nat) (mR : Nat) (rc : Nat) (ph : Nat) (nc : Nat) (oc : Nat) (cx : Int32) (ap : Int32) (P : Nat → pr_PT) (R : Nat → pr_PT) (rl : Nat → Nat) (rj : Nat → Nat) (rK : Nat → Nat) (uc : Nat → Int32) (D : Nat → pr_PT) (ps : Nat → Nat → Nat) (dc : Nat → Nat) (dl : Nat) (dj : Nat) (dk : Nat) (K : Nat → Nat) (V : Nat → Int32) (A : Nat → Option Nat) (B : Nat → Option Nat) (O : Nat → Nat) (u : SX) : Prop := match u with
  | (f_maxNodes, f_maxRules, f_ruleCount, f_counterexample, f_optimized, f_nodeCount, f_outputCount, f_applications, a_preRelation, a_preVariable, a_preConstant, a_roomNeeded, a_useCount, a_treeSize, a_treeKind, a_treeValue, a_treeA, a_treeB, a_treeResult, a_constantValued, a_maximal, a_counterpart, a_boundNode, a_pending, a_pendingCount, a_nodeKind, a_nodeValue, a_nodeA, a_nodeB, a_nodeResult, a_nodeUses, a_outputNode, a_seen, a_order, a_walkStack) => f_maxNodes = nI mN ∧ f_maxRules = nI mR ∧ f_ruleCount = nI rc ∧ f_counterexample = cx ∧ f_optimized = nI ph ∧ f_nodeCount = nI nc ∧ f_outputCount = nI oc ∧ f_applications = ap ∧
    (∀ r, r < rc → xr_rule r (P r) (R r) a_treeSize a_treeKind a_treeValue a_treeA a_treeB a_constantValued a_maximal a_roomNeeded ∧ pe_at r (rl r) (rj r) (rK r) a_preRelation a_preVariable a_preConstant ∧ a_useCount r = uc r) ∧
    dr_at rc (fun s => (rc * 2 + s) * 8) D ps dc a_treeSize a_treeKind a_treeValue a_treeA a_treeB a_pending a_pendingCount ∧ pe_at rc dl dj dk a_preRelation a_preVariable a_preConstant ∧
    gr_all ph oc K V A B O a_nodeKind a_nodeValue a_nodeA a_nodeB a_outputNode
def ry (mN : Nat) (mR : Nat) (rc : Nat) (ph : Nat) (nc : Nat) (oc : Nat) (cx : Int32) (ap : Int32) (P : Nat → pr_PT) (R : Nat → pr_PT) (rl : Nat → Nat) (rj : Nat → Nat) (rK : Nat → Nat) (uc : Nat → Int32) (D : Nat → pr_PT) (ps : Nat → Nat → Nat) (dc : Nat → Nat) (dl : Nat) (dj : Nat) (dk : Nat) (K : Nat → Nat) (V : Nat → Int32) (A : Nat → Option Nat) (B : Nat → Option Nat) (O : Nat → Nat) (v : SY) : Prop := match v with
  | (f_maxNodes, f_maxRules, f_phase, f_nCount, f_outCnt, f_apps, f_ruleCount, f_cex, f_curLive, f_orderN, a_alive, a_nKind, a_nVal, a_nA, a_nB, a_lv, a_nd, a_nv, a_outs, a_tKind, a_tVal, a_tA, a_tB, a_tN, a_preRel, a_preJ, a_preK, a_ruleUse, a_pend, a_pendN, a_tv, a_cv, a_mx, a_par, a_mp, a_res, a_bnd, a_order, a_stk, a_stSt) => f_maxNodes = nI mN ∧ f_maxRules = nI mR ∧ f_phase = nI ph ∧ f_nCount = nI nc ∧ f_outCnt = nI oc ∧ f_apps = ap ∧ f_ruleCount = nI rc ∧ f_cex = cx ∧
    (∀ r, r < rc → tr_at 0 (r * 2) (P r) a_tN a_tKind a_tVal a_tA a_tB ∧ tr_at 0 (r * 2 + 1) (R r) a_tN a_tKind a_tVal a_tA a_tB ∧ pe_at r (rl r) (rj r) (rK r) a_preRel a_preJ a_preK ∧ a_ruleUse r = uc r) ∧
    dr_at 16 (fun _ => 0) D ps dc a_tN a_tKind a_tVal a_tA a_tB a_pend a_pendN ∧ pe_at 16 dl dj dk a_preRel a_preJ a_preK ∧
    gr_all ph oc K V A B O a_nKind a_nVal a_nA a_nB a_outs ∧ al_at 0 K a_alive ∧ (ph = 1 → al_at 32 K a_alive)
def i_Rel (_ : Nat) (u : SX) (v : SY) : Prop := ∃ (mN : Nat) (mR : Nat) (rc : Nat) (ph : Nat) (nc : Nat) (oc : Nat) (cx : Int32) (ap : Int32) (P : Nat → pr_PT) (R : Nat → pr_PT) (rl : Nat → Nat) (rj : Nat → Nat) (rK : Nat → Nat) (uc : Nat → Int32) (D : Nat → pr_PT) (ps : Nat → Nat → Nat) (dc : Nat → Nat) (dl : Nat) (dj : Nat) (dk : Nat) (K : Nat → Nat) (V : Nat → Int32) (A : Nat → Option Nat) (B : Nat → Option Nat) (O : Nat → Nat), sp_ok mN mR rc ph nc oc cx ap P R rl rj rK uc D ps dc dl dj dk K V A B O ∧ rx mN mR rc ph nc oc cx ap P R rl rj rK uc D ps dc dl dj dk K V A B O u ∧ ry mN mR rc ph nc oc cx ap P R rl rj rK uc D ps dc dl dj dk K V A B O v
theorem i_up {k : Nat} {u : SX} {v : SY} (h : i_Rel k u v) : i_Rel (k + 4) u v := h
theorem gr_0 {ph oc : Nat} {K : Nat → Nat} {V : Nat → Int32} {A B : Nat → Option Nat} {O : Nat → Nat} {nk nv na nb ou : Nat → Int32} (h : gr_all ph oc K V A B O nk nv na nb ou) (hO : ∀ k, k < oc → pr_T 0 K (O k)) : ∀ k, k < oc → pr_T (0 * 32) K (O (0 * 4 + k)) ∧ ou (0 * 4 + k) = nI (O (0 * 4 + k)) := by
  intro k hk
  have h1 := hO k hk
  have h2 := h.2.1 k hk
  rw [show 0 * 4 + k = k by omega]
  exact ⟨h1, h2⟩
theorem gr_1 {ph oc : Nat} {K : Nat → Nat} {V : Nat → Int32} {A B : Nat → Option Nat} {O : Nat → Nat} {nk nv na nb ou : Nat → Int32} (h : gr_all ph oc K V A B O nk nv na nb ou) (hp : ph = 1) (hO : ∀ k, k < oc → pr_T 32 K (O (4 + k))) : ∀ k, k < oc → pr_T (1 * 32) K (O (1 * 4 + k)) ∧ ou (1 * 4 + k) = nI (O (1 * 4 + k)) :=
  fun k hk => ⟨hO k hk, (h.2.2 hp).2 k hk⟩
theorem i_vc0 (k0 : Int32) (k1 : Int32) : wpX_init (fun u => wpY_init (fun v => i_Rel 2 u v) k0 k1) k0 k1 := by
  have main : ∀ mN mR : Nat, 8 ≤ mN → mN ≤ 32 → 1 ≤ mR → mR ≤ 16 → i_Rel 2 (nI mN, nI mR, 0, (-1), 0, 0, 0, 0, (fun _ => 0), (fun _ => 0), (fun _ => 0), (fun _ => 0), (fun _ => 0), (fun _ => 0), (fun _ => 0), (fun _ => 0), (fun _ => 0), (fun _ => 0), (fun _ => 0), (fun _ => 0), (fun _ => 0), (fun _ => 0), (fun _ => 0), (fun _ => 0), (fun _ => 0), (fun _ => 0), (fun _ => 0), (fun _ => 0), (fun _ => 0), (fun _ => 0), (fun _ => 0), (fun _ => 0), (fun _ => 0), (fun _ => 0), (fun _ => 0)) ((nI mN), (nI mR), 0, 0, 0, 0, 0, (-1), 0, 0, (fun _ => 0), (fun _ => 0), (fun _ => 0), (fun _ => 0), (fun _ => 0), (fun _ => 0), (fun _ => 0), (fun _ => 0), (fun _ => 0), (fun _ => 0), (fun _ => 0), (fun _ => 0), (fun _ => 0), (fun _ => 0), (fun _ => 0), (fun _ => 0), (fun _ => 0), (fun _ => 0), (fun _ => 0), (fun _ => 0), (fun _ => 0), (fun _ => 0), (fun _ => 0), (fun _ => 0), (fun _ => 0), (fun _ => 0), (fun _ => 0), (fun _ => 0), (fun _ => 0), (fun _ => 0)) := by
    intro mN mR h1 h2 h3 h4
    have n0 : ∀ q : Nat, ¬ q < pt_n pt_0 := fun q h => absurd h (by show ¬ q < 0; omega)
    have hnT : ∀ lo n, ¬ pr_T lo (fun _ => 0) n := fun lo n h => h.2.2 rfl
    refine ⟨mN, mR, 0, 0, 0, 0, -1, 0, fun _ => pt_0, fun _ => pt_0, fun _ => 0, fun _ => 0, fun _ => 0, fun _ => 0, fun _ => pt_0, fun _ _ => 0, fun _ => 0, 0, 0, 0, fun _ => 0, fun _ => 0, fun _ => none, fun _ => none, fun _ => 0, ?_, ?_, ?_⟩
    · refine ⟨h1, h2, h3, h4, by omega, by omega, by omega, fun r hr => absurd hr (by omega), ⟨fun s _ => ⟨pt_0_ok, pd_0_ok _⟩, fun i hi => absurd hi (n0 i), by omega, fun h => absurd rfl h⟩, fun n => n, fun n => n, fun n hn => absurd hn (hnT 0 n), fun k hk => absurd hk (by omega), fun _ => ⟨rfl, by omega, fun n _ => ⟨fun _ => Nat.zero_le n, fun _ => rfl⟩⟩, fun h => absurd h (by omega)⟩
    · refine ⟨rfl, rfl, rfl, rfl, rfl, rfl, rfl, rfl, fun r hr => absurd hr (by omega), fun s hs => ⟨⟨rfl, fun i hi => absurd hi (n0 i)⟩, rfl, fun q hq => absurd hq (Nat.not_lt_zero q)⟩, ⟨rfl, fun h => absurd rfl h⟩, fun n hn => absurd hn (hnT 0 n), fun k hk => absurd hk (by omega), fun h => absurd h (by omega)⟩
    · refine ⟨rfl, rfl, rfl, rfl, rfl, rfl, rfl, rfl, fun r hr => absurd hr (by omega), fun s hs => ⟨⟨rfl, fun i hi => absurd hi (n0 i)⟩, rfl, fun q hq => absurd hq (Nat.not_lt_zero q)⟩, ⟨rfl, fun h => absurd rfl h⟩, ⟨fun n hn => absurd hn (hnT 0 n), fun k hk => absurd hk (by omega), fun h => absurd h (by omega)⟩, fun n _ _ => rfl, fun h => absurd h (by omega)⟩
  have hN : ∀ (lo hi : Nat) (x : Int32) (post : Int32 → Prop), lo ≤ hi → hi < 2 ^ 31 → (∀ m, lo ≤ m → m ≤ hi → ((nI lo ≤ x ∧ x ≤ nI hi ∧ nI m = x) ∨ (nI lo ≤ x ∧ ¬ x ≤ nI hi ∧ m = hi) ∨ (¬ nI lo ≤ x ∧ m = lo)) → post (nI m)) → wpX_clamp post x (nI lo) (nI hi) := by
    intro lo hi x post h1 h2 h
    refine br_c (fun a => br_c (fun b => ?_) (fun b => ?_)) (fun a => ?_)
    · have h0 : ¬ x < 0 := fun hx => by
        have := Int32.lt_of_le_of_lt a hx
        exact nI_pos (by omega) this
      obtain ⟨j, hj, rfl⟩ := nI_of h0
      rw [nI_leI (by omega) hj] at a
      rw [nI_leI hj (by omega)] at b
      exact h j a b (Or.inl ⟨nI_le a hj, nI_le b h2, rfl⟩)
    · exact h hi h1 (Nat.le_refl _) (Or.inr (Or.inl ⟨a, b, rfl⟩))
    · exact h lo (Nat.le_refl _) h1 (Or.inr (Or.inr ⟨a, rfl⟩))
  unfold wpX_init
  refine hN 8 32 k0 _ (by omega) (by omega) (fun m m1 m2 hm => ?_)
  refine hN 1 16 k1 _ (by omega) (by omega) (fun r r1 r2 hr => ?_)
  have fin := main m r m1 m2 r1 r2
  have h270 : wY_init_270 (fun v => i_Rel 2 (nI m, nI r, 0, (-1), 0, 0, 0, 0, (fun _ => 0), (fun _ => 0), (fun _ => 0), (fun _ => 0), (fun _ => 0), (fun _ => 0), (fun _ => 0), (fun _ => 0), (fun _ => 0), (fun _ => 0), (fun _ => 0), (fun _ => 0), (fun _ => 0), (fun _ => 0), (fun _ => 0), (fun _ => 0), (fun _ => 0), (fun _ => 0), (fun _ => 0), (fun _ => 0), (fun _ => 0), (fun _ => 0), (fun _ => 0), (fun _ => 0), (fun _ => 0), (fun _ => 0), (fun _ => 0)) v) k1 (nI m) 0 0 0 0 0 0 0 0 0 0 (fun _ => 0) (fun _ => 0) (fun _ => 0) (fun _ => 0) (fun _ => 0) (fun _ => 0) (fun _ => 0) (fun _ => 0) (fun _ => 0) (fun _ => 0) (fun _ => 0) (fun _ => 0) (fun _ => 0) (fun _ => 0) (fun _ => 0) (fun _ => 0) (fun _ => 0) (fun _ => 0) (fun _ => 0) (fun _ => 0) (fun _ => 0) (fun _ => 0) (fun _ => 0) (fun _ => 0) (fun _ => 0) (fun _ => 0) (fun _ => 0) (fun _ => 0) (fun _ => 0) (fun _ => 0) := by
    rcases hr with ⟨a, b, e⟩ | ⟨a, b, e⟩ | ⟨a, e⟩
    · refine br_t a (br_t b ?_)
      rw [← e]
      exact fin
    · refine br_t a (br_f b ?_)
      subst e
      exact fin
    · refine br_f a ?_
      subst e
      exact fin
  rcases hm with ⟨a, b, e⟩ | ⟨a, b, e⟩ | ⟨a, e⟩
  · refine br_t a (br_t b ?_)
    rw [← e]
    exact h270
  · refine br_t a (br_f b ?_)
    subst e
    exact h270
  · refine br_f a ?_
    subst e
    exact h270
end
section
/-! the draft: emptied, appended to, its precondition -/
theorem tr_cong {o w : Nat} {t : pr_PT} {sz kd vl ta tb sz' kd' vl' ta' tb' : Nat → Int32} (h : tr_at o w t sz kd vl ta tb) (e : sz' w = sz w) (hi : ∀ i, i < pt_n t → kd' (w * 8 + i) = kd (w * 8 + i) ∧ vl' (w * 8 + i) = vl (w * 8 + i) ∧ ta' (w * 8 + i) = ta (w * 8 + i) ∧ tb' (w * 8 + i) = tb (w * 8 + i)) : tr_at o w t sz' kd' vl' ta' tb' := by
  refine ⟨e.trans h.1, fun i hi' => ?_⟩
  obtain ⟨a, b, c, d⟩ := hi i hi'
  rw [a, b, c, d]
  exact h.2 i hi'
theorem up_up {f : Nat → Int32} {k : Nat} {a b : Int32} : upd (upd f k a) k b = upd f k b := by
  funext j
  by_cases e : j = k
  · rw [e, pk_us, pk_us]
  · rw [pk_un e, pk_un e, pk_un e]
def ac_ok (n c : Nat) (p1 p2 : Int32) (κ v : Nat) : Prop :=
  p1 = nI κ ∧ 1 ≤ κ ∧ κ ≤ 14 ∧ κ ≠ 12 ∧ n < 8 ∧ pr_ar κ ≤ c ∧ (κ = 11 → p2 = nI v ∧ v < 256) ∧ (13 ≤ κ → p2 = nI v ∧ v < 2) ∧ (κ ≤ 10 → v = 0)
theorem ac_u {n c : Nat} {p1 p2 : Int32} {κ v κ' v' : Nat} (h : ac_ok n c p1 p2 κ v) (h' : ac_ok n c p1 p2 κ' v') : κ = κ' ∧ v = v' := by
  obtain ⟨a1, a2, a3, a4, a5, a6, a7, a8, a9⟩ := h
  obtain ⟨b1, b2, b3, b4, b5, b6, b7, b8, b9⟩ := h'
  have e : κ = κ' := pr_im (a1.symm.trans b1) (by omega) (by omega)
  subst e
  refine ⟨rfl, ?_⟩
  by_cases h1 : κ ≤ 10
  · rw [a9 h1, b9 h1]
  · by_cases h2 : κ = 11
    · have x := a7 h2
      have y := b7 h2
      exact pr_im (x.1.symm.trans y.1) (by omega) (by omega)
    · have x := a8 (by omega)
      have y := b8 (by omega)
      exact pr_im (x.1.symm.trans y.1) (by omega) (by omega)
/-- the draft's arrays after an accepted append -/
theorem dr_add {x s κ v : Nat} {o : Nat → Nat} {D : Nat → pr_PT} {ps : Nat → Nat → Nat} {dc : Nat → Nat} {sz kd vl ta tb pn pc : Nat → Int32} (hs : s < 2) (h8 : ∀ s, s < 2 → pt_n (D s) ≤ 8 ∧ dc s ≤ pt_n (D s)) (hn : pt_n (D s) < 8) (hc : pr_ar κ ≤ dc s) (hv0 : κ ≤ 10 → v = 0) (hk1 : 1 ≤ κ)
    (h : dr_at x o D ps dc sz kd vl ta tb pn pc) :
    dr_at x o (pr_st D s (pt_add (D s) (ps s) (dc s) κ v)) (pr_st ps s (pd_add (D s) (ps s) (dc s) κ)) (pr_st dc s (dc s - pr_ar κ + 1))
      (upd sz (x * 2 + s) (nI (pt_n (D s) + 1))) (upd kd ((x * 2 + s) * 8 + pt_n (D s)) (nI κ)) (upd vl ((x * 2 + s) * 8 + pt_n (D s)) (nI v)) (upd ta ((x * 2 + s) * 8 + pt_n (D s)) (pr_oX (o s) (pt_a0 (ps s) (dc s) κ))) (upd tb ((x * 2 + s) * 8 + pt_n (D s)) (pr_oX (o s) (pt_b0 (ps s) (dc s) κ)))
      (upd pn (s * 8 + (dc s - pr_ar κ)) (nI (o s + pt_n (D s)))) (upd pc s (nI (dc s - pr_ar κ + 1))) := by
  intro s' hs'
  have hh := h s' hs'
  have h8s := h8 s hs
  have h8' := h8 s' hs'
  by_cases e : s' = s
  · subst e
    rw [pr_st_s, pr_st_s, pr_st_s]
    refine ⟨⟨?_, fun i hi => ?_⟩, pk_us, fun q hq => ?_⟩
    · rw [pk_us]
      rfl
    · have hi' : i < pt_n (D s') + 1 := hi
      show _ = nI (pr_st (pt_k (D s')) (pt_n (D s')) κ i) ∧ _ = nI (pr_st (pt_v (D s')) (pt_n (D s')) (if pr_ar κ = 0 then v else 0) i) ∧ _ = pr_oX (o s') (pr_st (pt_a (D s')) (pt_n (D s')) (pt_a0 (ps s') (dc s') κ) i) ∧ _ = pr_oX (o s') (pr_st (pt_b (D s')) (pt_n (D s')) (pt_b0 (ps s') (dc s') κ) i)
      by_cases ei : i = pt_n (D s')
      · rw [ei, pk_us, pk_us, pk_us, pk_us, pr_st_s, pr_st_s, pr_st_s, pr_st_s]
        refine ⟨rfl, ?_, rfl, rfl⟩
        by_cases h0 : pr_ar κ = 0
        · rw [if_pos h0]
        · rw [if_neg h0, hv0]
          rcases pr_ar_c κ with y | y | y <;> omega
      · rw [pr_st_n ei, pr_st_n ei, pr_st_n ei, pr_st_n ei, pk_un (by omega), pk_un (by omega), pk_un (by omega), pk_un (by omega)]
        exact hh.1.2 i (by omega)
    · unfold pd_add
      by_cases eq : q = dc s' - pr_ar κ
      · rw [eq, pk_us, pr_st_s]
      · rw [pr_st_n eq, pk_un (by omega)]
        exact hh.2.2 q (by omega)
  · rw [pr_st_n e, pr_st_n e, pr_st_n e]
    refine ⟨tr_cong hh.1 (pk_un (by omega)) (fun i hi => ?_), ?_, fun q hq => ?_⟩
    · exact ⟨pk_un (by omega), pk_un (by omega), pk_un (by omega), pk_un (by omega)⟩
    · rw [pk_un e]
      exact hh.2.1
    · rw [pk_un (by omega)]
      exact hh.2.2 q hq
section XDr
variable {f_maxNodes f_maxRules f_ruleCount f_counterexample f_optimized f_nodeCount f_outputCount f_applications : Int32} {a_preRelation a_preVariable a_preConstant a_roomNeeded a_useCount a_treeSize a_treeKind a_treeValue a_treeA a_treeB a_treeResult a_constantValued a_maximal a_counterpart a_boundNode a_pending a_pendingCount a_nodeKind a_nodeValue a_nodeA a_nodeB a_nodeResult a_nodeUses a_outputNode a_seen a_order a_walkStack : Nat → Int32}
variable {rc : Nat}
theorem x_emptyDraft {post : SX → Prop} (hrc : rc ≤ 16) (h : post (f_maxNodes, f_maxRules, (nI rc), f_counterexample, f_optimized, f_nodeCount, f_outputCount, f_applications, (upd a_preRelation rc 0), a_preVariable, a_preConstant, a_roomNeeded, a_useCount, (upd (upd a_treeSize (rc * 2 + 0) 0) (rc * 2 + 1) 0), a_treeKind, a_treeValue, a_treeA, a_treeB, a_treeResult, a_constantValued, a_maximal, a_counterpart, a_boundNode, a_pending, (upd (upd a_pendingCount 0 0) 1 0), a_nodeKind, a_nodeValue, a_nodeA, a_nodeB, a_nodeResult, a_nodeUses, a_outputNode, a_seen, a_order, a_walkStack)) : wpX_emptyDraft post (f_maxNodes, f_maxRules, (nI rc), f_counterexample, f_optimized, f_nodeCount, f_outputCount, f_applications, a_preRelation, a_preVariable, a_preConstant, a_roomNeeded, a_useCount, a_treeSize, a_treeKind, a_treeValue, a_treeA, a_treeB, a_treeResult, a_constantValued, a_maximal, a_counterpart, a_boundNode, a_pending, a_pendingCount, a_nodeKind, a_nodeValue, a_nodeA, a_nodeB, a_nodeResult, a_nodeUses, a_outputNode, a_seen, a_order, a_walkStack) := by
  unfold wpX_emptyDraft
  refine ⟨3, ?_⟩
  refine br_f (by decide) (x_treeOf rc 0 ⟨pk_in (rc * 2 + 0) 34 (by omega), ?_⟩)
  rw [nI_clamp (by omega)]
  refine nm_e ⟨pk_in 0 2 (by omega), nm_e (nm_r (show (0 : Int32) + 1 = 1 by decide) ?_)⟩
  refine br_f (by decide) (x_treeOf rc 1 ⟨pk_in (rc * 2 + 1) 34 (by omega), ?_⟩)
  rw [nI_clamp (by omega)]
  refine nm_e ⟨pk_in 1 2 (by omega), nm_e (nm_r (show (1 : Int32) + 1 = 2 by decide) ?_)⟩
  refine br_t (by decide) ⟨pk_in rc 17 (by omega), ?_⟩
  rw [nI_clamp (by omega)]
  exact nm_e h
theorem x_append {post : Int32 → SX → Prop} {s n c : Nat} {pst : Nat → Nat} {p1 p2 : Int32} (hrc : rc ≤ 16) (hs : s < 2) (hn : n ≤ 8) (hc : c ≤ n) (e1 : a_treeSize (rc * 2 + s) = nI n) (e2 : a_pendingCount s = nI c) (e3 : ∀ q, q < c → a_pending (s * 8 + q) = nI ((rc * 2 + s) * 8 + pst q))
    (hy : ∀ κ v, ac_ok n c p1 p2 κ v → post 1 (f_maxNodes, f_maxRules, (nI rc), f_counterexample, f_optimized, f_nodeCount, f_outputCount, f_applications, a_preRelation, a_preVariable, a_preConstant, a_roomNeeded, a_useCount, (upd a_treeSize (rc * 2 + s) (nI (n + 1))), (upd a_treeKind ((rc * 2 + s) * 8 + n) (nI κ)), (upd a_treeValue ((rc * 2 + s) * 8 + n) (nI v)), (upd a_treeA ((rc * 2 + s) * 8 + n) (pr_oX ((rc * 2 + s) * 8) (pt_a0 pst c κ))), (upd a_treeB ((rc * 2 + s) * 8 + n) (pr_oX ((rc * 2 + s) * 8) (pt_b0 pst c κ))), a_treeResult, a_constantValued, a_maximal, a_counterpart, a_boundNode, (upd a_pending (s * 8 + (c - pr_ar κ)) (nI ((rc * 2 + s) * 8 + n))), (upd a_pendingCount s (nI (c - pr_ar κ + 1))), a_nodeKind, a_nodeValue, a_nodeA, a_nodeB, a_nodeResult, a_nodeUses, a_outputNode, a_seen, a_order, a_walkStack))
    (hno : (∀ κ v, ¬ ac_ok n c p1 p2 κ v) → post 0 (f_maxNodes, f_maxRules, (nI rc), f_counterexample, f_optimized, f_nodeCount, f_outputCount, f_applications, a_preRelation, a_preVariable, a_preConstant, a_roomNeeded, a_useCount, a_treeSize, a_treeKind, a_treeValue, a_treeA, a_treeB, a_treeResult, a_constantValued, a_maximal, a_counterpart, a_boundNode, a_pending, a_pendingCount, a_nodeKind, a_nodeValue, a_nodeA, a_nodeB, a_nodeResult, a_nodeUses, a_outputNode, a_seen, a_order, a_walkStack)) : wpX_appendTreeNode post (f_maxNodes, f_maxRules, (nI rc), f_counterexample, f_optimized, f_nodeCount, f_outputCount, f_applications, a_preRelation, a_preVariable, a_preConstant, a_roomNeeded, a_useCount, a_treeSize, a_treeKind, a_treeValue, a_treeA, a_treeB, a_treeResult, a_constantValued, a_maximal, a_counterpart, a_boundNode, a_pending, a_pendingCount, a_nodeKind, a_nodeValue, a_nodeA, a_nodeB, a_nodeResult, a_nodeUses, a_outputNode, a_seen, a_order, a_walkStack) (nI s) p1 p2 := by
  unfold wpX_appendTreeNode
  refine x_treeOf rc s ?_
  have hin2 : vp_in (nI s) 2 := pk_in s 2 hs
  have hcs : (nI s).toNatClampNeg = s := nI_clamp (by omega)
  have hin34 : vp_in (nI (rc * 2 + s)) 34 := pk_in (rc * 2 + s) 34 (by omega)
  have hcw : (nI (rc * 2 + s)).toNatClampNeg = rc * 2 + s := nI_clamp (by omega)
  rcases pk_ix p1 (n := 15) (by omega) with hp | hp | ⟨κ, hκ, rfl⟩
  · have hno' := hno fun κ v h => by
      have := h.1
      rw [this] at hp
      exact nI_pos (by have := h.2.2.1; omega) hp
    refine x_arity_o (Or.inl hp) ⟨hin2, ?_⟩
    rw [hcs, hcw]
    refine nm_r e2 ⟨hin34, ?_⟩
    have hne : ∀ q : Nat, q < 2 ^ 31 → ¬ p1 = nI q := fun q hq e => by
      rw [e] at hp
      exact nI_pos hq hp
    refine br_c (fun _ => hno') (fun _ => br_f (hne 11 (by omega)) (br_f (hne 13 (by omega)) (br_f (hne 14 (by omega)) (x_arity_o (Or.inl hp) (br_t (by decide) (br_t rfl hno'))))))
  · have hne : ∀ q : Nat, q < 15 → ¬ p1 = nI q := fun q hq e => by
      rw [e, nI_leI (by omega) (by omega)] at hp
      omega
    have hno' := hno fun κ v h => hne κ (by have := h.2.2.1; omega) h.1
    refine x_arity_o (Or.inr hp) ⟨hin2, ?_⟩
    rw [hcs, hcw]
    refine nm_r e2 ⟨hin34, ?_⟩
    refine br_c (fun _ => hno') (fun _ => br_f (hne 11 (by omega)) (br_f (hne 13 (by omega)) (br_f (hne 14 (by omega)) (x_arity_o (Or.inr hp) (br_t (by decide) (br_t rfl hno'))))))
  · have hino : ∀ (P : Nat → Nat → Prop), (∀ κ' v, ac_ok n c (nI κ) p2 κ' v → κ' = κ) := fun _ κ' v h => (pr_im h.1 (by omega) (by have := h.2.2.1; omega)).symm
    have hk : ∀ κ' v, ac_ok n c (nI κ) p2 κ' v → κ' = κ := hino (fun _ _ => True)
    refine x_arity (by omega) ⟨hin2, ?_⟩
    rw [hcs, hcw, e1]
    refine nm_r e2 ⟨hin34, ?_⟩
    refine pk_eq n 8 (fun e => hno fun κ' v h => absurd h.2.2.2.2.1 (by omega)) (fun ne8 => ?_)
    -- a node that may stand in a tree
    have hgo : ∀ v, 1 ≤ κ → κ ≠ 12 → (κ = 11 → p2 = nI v ∧ v < 256) → (13 ≤ κ → p2 = nI v ∧ v < 2) → (κ ≤ 10 → v = 0) →
        ((nI (pr_ar κ) ≤ nI c → wpX_endOf (fun r_10 => ∀ x8_46 : Int32, x8_46 = ((nI s * 8) + nI c) - nI (pr_ar κ) → (vp_in r_10 272 ∧ ∀ a_treeKind_48 : Nat → Int32, a_treeKind_48 = upd a_treeKind r_10.toNatClampNeg (nI κ) → ((nI (pr_ar κ) = 0 → (wX_appendTreeNode_97 post (nI s) (nI (rc * 2 + s)) (nI (pr_ar κ)) (nI c) r_10 x8_46 p2 r_10 f_maxNodes f_maxRules (nI rc) f_counterexample f_optimized f_nodeCount f_outputCount f_applications a_preRelation a_preVariable a_preConstant a_roomNeeded a_useCount a_treeSize a_treeKind_48 a_treeValue a_treeA a_treeB a_treeResult a_constantValued a_maximal a_counterpart a_boundNode a_pending a_pendingCount a_nodeKind a_nodeValue a_nodeA a_nodeB a_nodeResult a_nodeUses a_outputNode a_seen a_order a_walkStack)) ∧ (¬ nI (pr_ar κ) = 0 → (wX_appendTreeNode_97 post (nI s) (nI (rc * 2 + s)) (nI (pr_ar κ)) (nI c) r_10 x8_46 0 r_10 f_maxNodes f_maxRules (nI rc) f_counterexample f_optimized f_nodeCount f_outputCount f_applications a_preRelation a_preVariable a_preConstant a_roomNeeded a_useCount a_treeSize a_treeKind_48 a_treeValue a_treeA a_treeB a_treeResult a_constantValued a_maximal a_counterpart a_boundNode a_pending a_pendingCount a_nodeKind a_nodeValue a_nodeA a_nodeB a_nodeResult a_nodeUses a_outputNode a_seen a_order a_walkStack))))) (f_maxNodes, f_maxRules, (nI rc), f_counterexample, f_optimized, f_nodeCount, f_outputCount, f_applications, a_preRelation, a_preVariable, a_preConstant, a_roomNeeded, a_useCount, a_treeSize, a_treeKind, a_treeValue, a_treeA, a_treeB, a_treeResult, a_constantValued, a_maximal, a_counterpart, a_boundNode, a_pending, a_pendingCount, a_nodeKind, a_nodeValue, a_nodeA, a_nodeB, a_nodeResult, a_nodeUses, a_outputNode, a_seen, a_order, a_walkStack) (nI (rc * 2 + s))) ∧ (¬ nI (pr_ar κ) ≤ nI c → post 0 (f_maxNodes, f_maxRules, (nI rc), f_counterexample, f_optimized, f_nodeCount, f_outputCount, f_applications, a_preRelation, a_preVariable, a_preConstant, a_roomNeeded, a_useCount, a_treeSize, a_treeKind, a_treeValue, a_treeA, a_treeB, a_treeResult, a_constantValued, a_maximal, a_counterpart, a_boundNode, a_pending, a_pendingCount, a_nodeKind, a_nodeValue, a_nodeA, a_nodeB, a_nodeResult, a_nodeUses, a_outputNode, a_seen, a_order, a_walkStack))) := by
      intro v k1 k12 k11 k13 k10
      have har := pr_ar_c κ
      refine pk_le (pr_ar κ) c (fun hle => ?_) (fun hlt => hno fun κ' v' h => ?_)
      · have hacc : ac_ok n c (nI κ) p2 κ v := ⟨rfl, k1, by omega, k12, by omega, hle, k11, k13, k10⟩
        have hfin := hy κ v hacc
        refine x_endOf (by omega) e1 ?_
        have e8 : ((nI s * 8) + nI c) - nI (pr_ar κ) = nI (s * 8 + (c - pr_ar κ)) := by
          rw [nx_8, pk_sub (by omega)]
          exact congrArg nI (by omega)
        refine nm_r e8 ⟨pk_in ((rc * 2 + s) * 8 + n) 272 (by omega), ?_⟩
        have hcp : (nI ((rc * 2 + s) * 8 + n)).toNatClampNeg = (rc * 2 + s) * 8 + n := nI_clamp (by omega)
        have hinp : vp_in (nI ((rc * 2 + s) * 8 + n)) 272 := pk_in ((rc * 2 + s) * 8 + n) 272 (by omega)
        rw [hcp]
        refine nm_e ?_
        have hco : (nI (s * 8 + (c - pr_ar κ))).toNatClampNeg = s * 8 + (c - pr_ar κ) := nI_clamp (by omega)
        have h97 : ∀ x, x = nI v → wX_appendTreeNode_97 post (nI s) (nI (rc * 2 + s)) (nI (pr_ar κ)) (nI c) (nI ((rc * 2 + s) * 8 + n)) (nI (s * 8 + (c - pr_ar κ))) x (nI ((rc * 2 + s) * 8 + n)) f_maxNodes f_maxRules (nI rc) f_counterexample f_optimized f_nodeCount f_outputCount f_applications a_preRelation a_preVariable a_preConstant a_roomNeeded a_useCount a_treeSize (upd a_treeKind ((rc * 2 + s) * 8 + n) (nI κ)) a_treeValue a_treeA a_treeB a_treeResult a_constantValued a_maximal a_counterpart a_boundNode a_pending a_pendingCount a_nodeKind a_nodeValue a_nodeA a_nodeB a_nodeResult a_nodeUses a_outputNode a_seen a_order a_walkStack := by
          intro x hx
          subst hx
          refine ⟨hinp, ?_⟩
          rw [hcp]
          refine nm_e ?_
          have h147 : ∀ z, z = pr_oX ((rc * 2 + s) * 8) (pt_b0 pst c κ) → wX_appendTreeNode_147 post (nI s) (nI (rc * 2 + s)) (nI (pr_ar κ)) (nI c) (nI ((rc * 2 + s) * 8 + n)) (nI (s * 8 + (c - pr_ar κ))) z (nI ((rc * 2 + s) * 8 + n)) f_maxNodes f_maxRules (nI rc) f_counterexample f_optimized f_nodeCount f_outputCount f_applications a_preRelation a_preVariable a_preConstant a_roomNeeded a_useCount a_treeSize (upd a_treeKind ((rc * 2 + s) * 8 + n) (nI κ)) (upd a_treeValue ((rc * 2 + s) * 8 + n) (nI v)) (upd a_treeA ((rc * 2 + s) * 8 + n) (pr_oX ((rc * 2 + s) * 8) (pt_a0 pst c κ))) a_treeB a_treeResult a_constantValued a_maximal a_counterpart a_boundNode a_pending a_pendingCount a_nodeKind a_nodeValue a_nodeA a_nodeB a_nodeResult a_nodeUses a_outputNode a_seen a_order a_walkStack := by
            intro z hz
            subst hz
            have ec : (nI c - nI (pr_ar κ)) + 1 = nI (c - pr_ar κ + 1) := by
              rw [pk_sub hle, nI_1]
            refine ⟨hinp, ?_⟩
            rw [hcp, hcw, hco, hcs, ec, e1, nI_1]
            exact nm_e ⟨hin34, hin34, nm_e ⟨pk_in (s * 8 + (c - pr_ar κ)) 16 (by omega), nm_e ⟨hin2, nm_e hfin⟩⟩⟩
          have h121 : ∀ z, z = pr_oX ((rc * 2 + s) * 8) (pt_a0 pst c κ) → wX_appendTreeNode_121 post (nI s) (nI (rc * 2 + s)) (nI (pr_ar κ)) (nI c) (nI ((rc * 2 + s) * 8 + n)) (nI (s * 8 + (c - pr_ar κ))) z (nI ((rc * 2 + s) * 8 + n)) f_maxNodes f_maxRules (nI rc) f_counterexample f_optimized f_nodeCount f_outputCount f_applications a_preRelation a_preVariable a_preConstant a_roomNeeded a_useCount a_treeSize (upd a_treeKind ((rc * 2 + s) * 8 + n) (nI κ)) (upd a_treeValue ((rc * 2 + s) * 8 + n) (nI v)) a_treeA a_treeB a_treeResult a_constantValued a_maximal a_counterpart a_boundNode a_pending a_pendingCount a_nodeKind a_nodeValue a_nodeA a_nodeB a_nodeResult a_nodeUses a_outputNode a_seen a_order a_walkStack := by
            intro z hz
            subst hz
            refine ⟨hinp, ?_⟩
            rw [hcp]
            refine nm_e (pk_eq (pr_ar κ) 2 (fun h2 => ?_) (fun h2 => ?_))
            · have e9 : nI (s * 8 + (c - pr_ar κ)) + 1 = nI (s * 8 + (c - pr_ar κ + 1)) := nI_1 _
              rw [e9]
              refine ⟨pk_in (s * 8 + (c - pr_ar κ + 1)) 16 (by omega), h147 _ ?_⟩
              rw [nI_clamp (by omega), e3 _ (by omega)]
              unfold pt_b0
              rw [if_pos h2]
              rfl
            · refine h147 _ ?_
              unfold pt_b0
              rw [if_neg h2]
              rfl
          refine pk_lt (pr_ar κ) 1 (fun h1 => h121 _ ?_) (fun h1 => ⟨pk_in (s * 8 + (c - pr_ar κ)) 16 (by omega), h121 _ ?_⟩)
          · unfold pt_a0
            rw [if_neg (by omega)]
            rfl
          · rw [hco, e3 _ (by omega)]
            unfold pt_a0
            rw [if_pos h1]
            rfl
        refine pk_eq (pr_ar κ) 0 (fun h0 => h97 _ ?_) (fun h0 => h97 _ ?_)
        · by_cases h11 : κ = 11
          · exact (k11 h11).1
          · exact (k13 (by omega)).1
        · rw [k10 (by omega)]
          rfl
      · have := hk κ' v' h
        subst this
        have := h.2.2.2.2.2.1
        omega
    have hbad : (∀ v, ¬ ac_ok n c (nI κ) p2 κ v) → post 0 (f_maxNodes, f_maxRules, (nI rc), f_counterexample, f_optimized, f_nodeCount, f_outputCount, f_applications, a_preRelation, a_preVariable, a_preConstant, a_roomNeeded, a_useCount, a_treeSize, a_treeKind, a_treeValue, a_treeA, a_treeB, a_treeResult, a_constantValued, a_maximal, a_counterpart, a_boundNode, a_pending, a_pendingCount, a_nodeKind, a_nodeValue, a_nodeA, a_nodeB, a_nodeResult, a_nodeUses, a_outputNode, a_seen, a_order, a_walkStack) := fun hb => hno fun κ' v h => by
      have := hk κ' v h
      subst this
      exact hb v h
    refine pk_eq κ 11 (fun h11 => ?_) (fun n11 => pk_eq κ 13 (fun h13 => ?_) (fun n13 => pk_eq κ 14 (fun h14 => ?_) (fun n14 => ?_)))
    · rcases pk_ix p2 (n := 256) (by omega) with hq | hq | ⟨v, hv, rfl⟩
      · exact x_isWord_f (Or.inl hq) ⟨by decide, br_t rfl (hbad fun v h => by
          have := h.2.2.2.2.2.2.1 h11
          rw [this.1] at hq
          exact nI_pos (by omega) hq)⟩
      · exact x_isWord_f (Or.inr hq) ⟨by decide, br_t rfl (hbad fun v h => by
          have := h.2.2.2.2.2.2.1 h11
          rw [this.1, nI_leI (by omega) (by omega)] at hq
          omega)⟩
      · exact x_isWord_t hv ⟨by decide, br_f (by decide) (hgo v (by omega) (by omega) (fun _ => ⟨rfl, hv⟩) (fun h => absurd h (by omega)) (fun h => absurd h (by omega)))⟩
    · rcases pk_ix p2 (n := 2) (by omega) with hq | hq | ⟨v, hv, rfl⟩
      · exact x_isVariable_f (Or.inl hq) ⟨by decide, br_t rfl (hbad fun v h => by
          have := h.2.2.2.2.2.2.2.1 (by omega)
          rw [this.1] at hq
          exact nI_pos (by omega) hq)⟩
      · exact x_isVariable_f (Or.inr hq) ⟨by decide, br_t rfl (hbad fun v h => by
          have := h.2.2.2.2.2.2.2.1 (by omega)
          rw [this.1, nI_leI (by omega) (by omega)] at hq
          omega)⟩
      · exact x_isVariable_t hv ⟨by decide, br_f (by decide) (hgo v (by omega) (by omega) (fun h => absurd h (by omega)) (fun _ => ⟨rfl, hv⟩) (fun h => absurd h (by omega)))⟩
    · rcases pk_ix p2 (n := 2) (by omega) with hq | hq | ⟨v, hv, rfl⟩
      · exact x_isVariable_f (Or.inl hq) ⟨by decide, br_t rfl (hbad fun v h => by
          have := h.2.2.2.2.2.2.2.1 (by omega)
          rw [this.1] at hq
          exact nI_pos (by omega) hq)⟩
      · exact x_isVariable_f (Or.inr hq) ⟨by decide, br_t rfl (hbad fun v h => by
          have := h.2.2.2.2.2.2.2.1 (by omega)
          rw [this.1, nI_leI (by omega) (by omega)] at hq
          omega)⟩
      · exact x_isVariable_t hv ⟨by decide, br_f (by decide) (hgo v (by omega) (by omega) (fun h => absurd h (by omega)) (fun _ => ⟨rfl, hv⟩) (fun h => absurd h (by omega)))⟩
    · refine x_arity (by omega) (pk_le (pr_ar κ) 0 (fun h0 => br_t rfl (hbad fun v h => ?_)) (fun h0 => br_f (by decide) (hgo 0 ?_ ?_ ?_ ?_ (fun _ => rfl))) rfl rfl ?_)
      · have har := pr_ar_c κ
        have := h.2.1
        have := h.2.2.2.1
        omega
      · have har := pr_ar_c κ
        omega
      · have har := pr_ar_c κ
        omega
      · intro h
        exact absurd h n11
      · intro h
        have har := pr_ar_c κ
        omega
      · have har := pr_ar_c κ
        omega
end XDr
end
section
/-! Y: the draft -/
section YDr
variable {f_maxNodes f_maxRules f_phase f_nCount f_outCnt f_apps f_ruleCount f_cex f_curLive f_orderN : Int32} {a_alive a_nKind a_nVal a_nA a_nB a_lv a_nd a_nv a_outs a_tKind a_tVal a_tA a_tB a_tN a_preRel a_preJ a_preK a_ruleUse a_pend a_pendN a_tv a_cv a_mx a_par a_mp a_res a_bnd a_order a_stk a_stSt : Nat → Int32}
theorem y_ruleBegin {post : SY → Prop} (h : post (f_maxNodes, f_maxRules, f_phase, f_nCount, f_outCnt, f_apps, f_ruleCount, f_cex, f_curLive, f_orderN, a_alive, a_nKind, a_nVal, a_nA, a_nB, a_lv, a_nd, a_nv, a_outs, a_tKind, a_tVal, a_tA, a_tB, (upd (upd a_tN 32 0) 33 0), (upd a_preRel 16 0), (upd a_preJ 16 0), (upd a_preK 16 0), a_ruleUse, a_pend, (upd (upd a_pendN 0 0) 1 0), a_tv, a_cv, a_mx, a_par, a_mp, a_res, a_bnd, a_order, a_stk, a_stSt)) : wpY_ruleBegin post (f_maxNodes, f_maxRules, f_phase, f_nCount, f_outCnt, f_apps, f_ruleCount, f_cex, f_curLive, f_orderN, a_alive, a_nKind, a_nVal, a_nA, a_nB, a_lv, a_nd, a_nv, a_outs, a_tKind, a_tVal, a_tA, a_tB, a_tN, a_preRel, a_preJ, a_preK, a_ruleUse, a_pend, a_pendN, a_tv, a_cv, a_mx, a_par, a_mp, a_res, a_bnd, a_order, a_stk, a_stSt) := by
  unfold wpY_ruleBegin
  exact nm_e (nm_e (nm_e (nm_e (nm_e (nm_e (nm_e h))))))
theorem y_append {post : Int32 → SY → Prop} {s n c κ : Nat} {pst : Nat → Nat} {p2 : Int32} (hs : s < 2) (hn : n ≤ 8) (hc : c ≤ n) (h1 : 1 ≤ κ) (h14 : κ ≤ 14) (h12 : κ ≠ 12) (e1 : a_tN (16 * 2 + s) = nI n) (e2 : a_pendN s = nI c) (e3 : ∀ q, q < c → a_pend (s * 8 + q) = nI (0 + pst q))
    (hy : ∀ v, ac_ok n c (nI κ) p2 κ v → post 1 (f_maxNodes, f_maxRules, f_phase, f_nCount, f_outCnt, f_apps, f_ruleCount, f_cex, f_curLive, f_orderN, a_alive, a_nKind, a_nVal, a_nA, a_nB, a_lv, a_nd, a_nv, a_outs, (upd a_tKind ((16 * 2 + s) * 8 + n) (nI κ)), (upd a_tVal ((16 * 2 + s) * 8 + n) (nI v)), (upd a_tA ((16 * 2 + s) * 8 + n) (pr_oX 0 (pt_a0 pst c κ))), (upd a_tB ((16 * 2 + s) * 8 + n) (pr_oX 0 (pt_b0 pst c κ))), (upd a_tN (16 * 2 + s) (nI (n + 1))), a_preRel, a_preJ, a_preK, a_ruleUse, (upd a_pend (s * 8 + (c - pr_ar κ)) (nI (0 + n))), (upd a_pendN s (nI (c - pr_ar κ + 1))), a_tv, a_cv, a_mx, a_par, a_mp, a_res, a_bnd, a_order, a_stk, a_stSt))
    (hno : (∀ v, ¬ ac_ok n c (nI κ) p2 κ v) → post 0 (f_maxNodes, f_maxRules, f_phase, f_nCount, f_outCnt, f_apps, f_ruleCount, f_cex, f_curLive, f_orderN, a_alive, a_nKind, a_nVal, a_nA, a_nB, a_lv, a_nd, a_nv, a_outs, a_tKind, a_tVal, a_tA, a_tB, a_tN, a_preRel, a_preJ, a_preK, a_ruleUse, a_pend, a_pendN, a_tv, a_cv, a_mx, a_par, a_mp, a_res, a_bnd, a_order, a_stk, a_stSt)) : wpY_append post (f_maxNodes, f_maxRules, f_phase, f_nCount, f_outCnt, f_apps, f_ruleCount, f_cex, f_curLive, f_orderN, a_alive, a_nKind, a_nVal, a_nA, a_nB, a_lv, a_nd, a_nv, a_outs, a_tKind, a_tVal, a_tA, a_tB, a_tN, a_preRel, a_preJ, a_preK, a_ruleUse, a_pend, a_pendN, a_tv, a_cv, a_mx, a_par, a_mp, a_res, a_bnd, a_order, a_stk, a_stSt) (nI (16 * 2 + s)) (nI κ) p2 := by
  have har := pr_ar_c κ
  have hin2 : vp_in (nI s) 2 := pk_in s 2 hs
  have hcs : (nI s).toNatClampNeg = s := nI_clamp (by omega)
  have hin34 : vp_in (nI (16 * 2 + s)) 34 := pk_in (16 * 2 + s) 34 (by omega)
  have hcw : (nI (16 * 2 + s)).toNatClampNeg = 16 * 2 + s := nI_clamp (by omega)
  have es : nI (16 * 2 + s) - 32 = nI s := by
    rw [show (32 : Int32) = nI 32 from rfl, pk_sub (by omega)]
    exact congrArg nI (by omega)
  unfold wpY_append
  refine nm_r es ⟨hin34, ?_⟩
  rw [hcw]
  refine nm_r e1 (pk_lt n 8 (fun hn8 => ?_) (fun hn8 => hno fun v h => absurd h.2.2.2.2.1 (by omega)))
  -- from the pending test on
  have h65 : ∀ v, (κ = 11 → p2 = nI v ∧ v < 256) → (13 ≤ κ → p2 = nI v ∧ v < 2) → (κ ≤ 10 → v = 0) → wY_append_65 post (nI (16 * 2 + s)) (nI κ) p2 (nI s) (nI n) f_maxNodes f_maxRules f_phase f_nCount f_outCnt f_apps f_ruleCount f_cex f_curLive f_orderN a_alive a_nKind a_nVal a_nA a_nB a_lv a_nd a_nv a_outs a_tKind a_tVal a_tA a_tB a_tN a_preRel a_preJ a_preK a_ruleUse a_pend a_pendN a_tv a_cv a_mx a_par a_mp a_res a_bnd a_order a_stk a_stSt := by
    intro v k11 k13 k10
    have hp : (nI ((16 * 2 + s) * 8 + n)).toNatClampNeg = (16 * 2 + s) * 8 + n := nI_clamp (by omega)
    have hinp : vp_in (nI ((16 * 2 + s) * 8 + n)) 272 := pk_in ((16 * 2 + s) * 8 + n) 272 (by omega)
    have h107 : pr_ar κ ≤ c → wY_append_107 post (nI (16 * 2 + s)) (nI κ) p2 (nI s) (nI n) f_maxNodes f_maxRules f_phase f_nCount f_outCnt f_apps f_ruleCount f_cex f_curLive f_orderN a_alive a_nKind a_nVal a_nA a_nB a_lv a_nd a_nv a_outs a_tKind a_tVal a_tA a_tB a_tN a_preRel a_preJ a_preK a_ruleUse a_pend a_pendN a_tv a_cv a_mx a_par a_mp a_res a_bnd a_order a_stk a_stSt := by
      intro hle
      have hfin := hy v ⟨rfl, h1, h14, h12, hn8, hle, k11, k13, k10⟩
      rw [show (0 : Nat) + n = n by omega] at hfin
      have e7 : nI s * 8 = nI (s * 8) := pk_mul s 8
      refine nm_r (nx_8 (16 * 2 + s) n) (nm_r e7 ⟨hinp, ?_⟩)
      rw [hp]
      refine nm_e ?_
      have h278 : ∀ pn tA tB, pn s = nI (c - pr_ar κ) → upd pn s (nI (c - pr_ar κ + 1)) = upd a_pendN s (nI (c - pr_ar κ + 1)) → tA = upd a_tA ((16 * 2 + s) * 8 + n) (pr_oX 0 (pt_a0 pst c κ)) → tB = upd a_tB ((16 * 2 + s) * 8 + n) (pr_oX 0 (pt_b0 pst c κ)) → wY_append_278 post (nI (16 * 2 + s)) (nI s) (nI n) (nI (s * 8)) f_maxNodes f_maxRules f_phase f_nCount f_outCnt f_apps f_ruleCount f_cex f_curLive f_orderN a_alive a_nKind a_nVal a_nA a_nB a_lv a_nd a_nv a_outs (upd a_tKind ((16 * 2 + s) * 8 + n) (nI κ)) (upd a_tVal ((16 * 2 + s) * 8 + n) (nI v)) tA tB a_tN a_preRel a_preJ a_preK a_ruleUse a_pend pn a_tv a_cv a_mx a_par a_mp a_res a_bnd a_order a_stk a_stSt := by
        intro pn tA tB ep eu eA eB
        subst eA eB
        refine ⟨hin2, ?_⟩
        rw [hcs, ep, nI_add, nI_clamp (n := s * 8 + (c - pr_ar κ)) (by omega), nI_1, nI_1, hcw, eu]
        exact ⟨pk_in (s * 8 + (c - pr_ar κ)) 16 (by omega), nm_e ⟨hin2, hin2, nm_e ⟨hin34, nm_e hfin⟩⟩⟩
      have h148 : ∀ x, x = nI v → wY_append_148 post (nI (16 * 2 + s)) (nI κ) (nI s) (nI n) (nI ((16 * 2 + s) * 8 + n)) (nI (s * 8)) x (nI ((16 * 2 + s) * 8 + n)) f_maxNodes f_maxRules f_phase f_nCount f_outCnt f_apps f_ruleCount f_cex f_curLive f_orderN a_alive a_nKind a_nVal a_nA a_nB a_lv a_nd a_nv a_outs (upd a_tKind ((16 * 2 + s) * 8 + n) (nI κ)) a_tVal a_tA a_tB a_tN a_preRel a_preJ a_preK a_ruleUse a_pend a_pendN a_tv a_cv a_mx a_par a_mp a_res a_bnd a_order a_stk a_stSt := by
        intro x hx
        subst hx
        refine ⟨hinp, ?_⟩
        rw [hp]
        refine nm_e ⟨hinp, nm_e ⟨hinp, nm_e ?_⟩⟩
        by_cases hb : κ ≤ 8
        · have ha2 := pr_ar_2 h1 hb
          refine y_isBin_t h1 hb (br_f (by decide) ⟨hin2, ?_⟩)
          rw [hcs, e2, nI_add]
          have q1 : nI (s * 8 + c) - 1 = nI (s * 8 + (c - 1)) := by
            rw [pr_s1 (by omega)]
            exact congrArg nI (by omega)
          have q2 : nI (s * 8 + c) - 2 = nI (s * 8 + (c - 2)) := by
            rw [show (2 : Int32) = nI 2 from rfl, pk_sub (by omega)]
            exact congrArg nI (by omega)
          have q3 : nI c - 2 = nI (c - pr_ar κ) := by
            rw [show (2 : Int32) = nI 2 from rfl, pk_sub (by omega), ha2]
          rw [q1, q2, q3, nI_clamp (n := s * 8 + (c - 1)) (by omega), nI_clamp (n := s * 8 + (c - 2)) (by omega), e3 _ (by omega), e3 _ (by omega)]
          refine ⟨pk_in (s * 8 + (c - 1)) 16 (by omega), hinp, nm_e ⟨hin2, pk_in (s * 8 + (c - 2)) 16 (by omega), hinp, nm_e ⟨hin2, hin2, nm_e (h278 _ _ _ pk_us up_up ?_ ?_)⟩⟩⟩
          · rw [up_up]
            unfold pt_a0
            rw [if_pos (by omega), ha2]
            rfl
          · rw [up_up]
            unfold pt_b0
            rw [if_pos ha2, ha2, show c - 2 + 1 = c - 1 by omega]
            rfl
        · refine y_isBin_f (by omega) (by omega) (br_t rfl ?_)
          by_cases hu : κ ≤ 10
          · have ha1 := pr_ar_1 (κ := κ) (by omega)
            refine y_isUn_t (by omega) (br_f (by decide) ⟨hin2, ?_⟩)
            rw [hcs, e2, nI_add]
            have q1 : nI (s * 8 + c) - 1 = nI (s * 8 + (c - 1)) := by
              rw [pr_s1 (by omega)]
              exact congrArg nI (by omega)
            have q3 : nI c - 1 = nI (c - pr_ar κ) := by
              rw [pr_s1 (by omega), ha1]
            rw [q1, q3, nI_clamp (n := s * 8 + (c - 1)) (by omega), e3 _ (by omega)]
            refine ⟨pk_in (s * 8 + (c - 1)) 16 (by omega), hinp, nm_e ⟨hin2, hin2, nm_e (h278 _ _ _ pk_us up_up ?_ ?_)⟩⟩
            · rw [up_up]
              unfold pt_a0
              rw [if_pos (by omega), ha1]
              rfl
            · unfold pt_b0
              rw [if_neg (by omega)]
              rfl
          · have ha0 := pr_ar_0 (κ := κ) (by omega)
            refine y_isUn_f (by omega) (by omega) (br_t rfl (h278 _ _ _ ?_ rfl ?_ ?_))
            · rw [ha0]
              exact e2
            · unfold pt_a0
              rw [if_neg (by omega)]
              rfl
            · unfold pt_b0
              rw [if_neg (by omega)]
              rfl
      refine pk_lt κ 11 (fun h => h148 _ ?_) (fun h => h148 _ ?_)
      · rw [k10 (by omega)]
        rfl
      · by_cases h11 : κ = 11
        · exact (k11 h11).1
        · exact (k13 (by omega)).1
    have hbad : ¬ pr_ar κ ≤ c → post 0 (f_maxNodes, f_maxRules, f_phase, f_nCount, f_outCnt, f_apps, f_ruleCount, f_cex, f_curLive, f_orderN, a_alive, a_nKind, a_nVal, a_nA, a_nB, a_lv, a_nd, a_nv, a_outs, a_tKind, a_tVal, a_tA, a_tB, a_tN, a_preRel, a_preJ, a_preK, a_ruleUse, a_pend, a_pendN, a_tv, a_cv, a_mx, a_par, a_mp, a_res, a_bnd, a_order, a_stk, a_stSt) := fun hb => hno fun v h => hb h.2.2.2.2.2.1
    by_cases hb : κ ≤ 8
    · have ha2 := pr_ar_2 h1 hb
      refine y_isBin_t h1 hb (br_f (by decide) ⟨hin2, ?_⟩)
      rw [hcs, e2]
      refine pk_le 2 c (fun h => ?_) (fun h => hbad (by omega))
      exact y_isUn_f (by omega) (by omega) (br_t rfl (h107 (by omega)))
    · refine y_isBin_f (by omega) (by omega) (br_t rfl ?_)
      by_cases hu : κ ≤ 10
      · have ha1 := pr_ar_1 (κ := κ) (by omega)
        refine y_isUn_t (by omega) (br_f (by decide) ⟨hin2, ?_⟩)
        rw [hcs, e2]
        exact pk_le 1 c (fun h => h107 (by omega)) (fun h => hbad (by omega))
      · have ha0 := pr_ar_0 (κ := κ) (by omega)
        exact y_isUn_f (by omega) (by omega) (br_t rfl (h107 (by omega)))
  have h54 : 13 ≤ κ → wY_append_54 post (nI (16 * 2 + s)) (nI κ) p2 (nI s) (nI n) f_maxNodes f_maxRules f_phase f_nCount f_outCnt f_apps f_ruleCount f_cex f_curLive f_orderN a_alive a_nKind a_nVal a_nA a_nB a_lv a_nd a_nv a_outs a_tKind a_tVal a_tA a_tB a_tN a_preRel a_preJ a_preK a_ruleUse a_pend a_pendN a_tv a_cv a_mx a_par a_mp a_res a_bnd a_order a_stk a_stSt := by
    intro h13
    by_cases hq : p2 < 0
    · refine br_t hq (hno fun v h => ?_)
      have := h.2.2.2.2.2.2.2.1 h13
      rw [this.1] at hq
      exact nI_pos (by omega) hq
    · refine br_f hq ?_
      obtain ⟨v, hv, rfl⟩ := nI_of hq
      refine pk_le v 1 (fun h => h65 v (fun h => absurd h (by omega)) (fun _ => ⟨rfl, by omega⟩) (fun h => absurd h (by omega))) (fun hv1 => hno fun v' h => ?_)
      have := h.2.2.2.2.2.2.2.1 h13
      have := pr_im this.1 hv (by omega)
      omega
  have h42 : ∀ v, (κ = 11 → p2 = nI v ∧ v < 256) → (κ ≤ 10 → v = 0) → wY_append_42 post (nI (16 * 2 + s)) (nI κ) p2 (nI s) (nI n) f_maxNodes f_maxRules f_phase f_nCount f_outCnt f_apps f_ruleCount f_cex f_curLive f_orderN a_alive a_nKind a_nVal a_nA a_nB a_lv a_nd a_nv a_outs a_tKind a_tVal a_tA a_tB a_tN a_preRel a_preJ a_preK a_ruleUse a_pend a_pendN a_tv a_cv a_mx a_par a_mp a_res a_bnd a_order a_stk a_stSt := by
    intro v k11 k10
    exact pk_eq κ 13 (fun e => h54 (by omega)) (fun n13 => pk_eq κ 14 (fun e => h54 (by omega)) (fun n14 => h65 v k11 (fun h => absurd h (by omega)) k10))
  refine pk_eq κ 11 (fun e => ?_) (fun n11 => h42 0 (fun h => absurd h n11) (fun _ => rfl))
  by_cases hq : p2 < 0
  · refine br_t hq (hno fun v h => ?_)
    have := h.2.2.2.2.2.2.1 e
    rw [this.1] at hq
    exact nI_pos (by omega) hq
  · refine br_f hq ?_
    obtain ⟨v, hv, rfl⟩ := nI_of hq
    refine pk_le v 255 (fun h => h42 v (fun _ => ⟨rfl, by omega⟩) (fun h => absurd h (by omega))) (fun hv1 => hno fun v' h => ?_)
    have := h.2.2.2.2.2.2.1 e
    have := pr_im this.1 hv (by omega)
    omega
end YDr
end
section
/-! ruleBegin, rulePat, ruleRep, rulePre -/
theorem pr_rule_n {P R : pr_PT} {rl rj rK : Nat} (h : pr_rule P R rl rj rK) : pt_n P ≤ 8 ∧ pt_n R ≤ 8 := ⟨h.1.1, h.2.2.2.1.1⟩
theorem xr_cong {rc : Nat} {P R : Nat → pr_PT} {sz kd vl ta tb cv mx rn sz' kd' vl' ta' tb' cv' mx' rn' : Nat → Int32} (hn : ∀ r, r < rc → pt_n (P r) ≤ 8 ∧ pt_n (R r) ≤ 8) (h : ∀ r, r < rc → xr_rule r (P r) (R r) sz kd vl ta tb cv mx rn)
    (h1 : ∀ w, w < rc * 2 → sz' w = sz w) (h2 : ∀ p, p < rc * 16 → kd' p = kd p ∧ vl' p = vl p ∧ ta' p = ta p ∧ tb' p = tb p ∧ cv' p = cv p ∧ mx' p = mx p) (h3 : ∀ r, r < rc → rn' r = rn r) : ∀ r, r < rc → xr_rule r (P r) (R r) sz' kd' vl' ta' tb' cv' mx' rn' := by
  intro r hr
  obtain ⟨a, b, c, d, e⟩ := h r hr
  have hn' := hn r hr
  refine ⟨tr_cong a (h1 _ (by omega)) (fun i hi => ?_), tr_cong b (h1 _ (by omega)) (fun i hi => ?_), fun q hq => ?_, fun q hq => ?_, ?_⟩
  · have := h2 ((r * 2 + 0) * 8 + i) (by omega)
    exact ⟨this.1, this.2.1, this.2.2.1, this.2.2.2.1⟩
  · have := h2 ((r * 2 + 1) * 8 + i) (by omega)
    exact ⟨this.1, this.2.1, this.2.2.1, this.2.2.2.1⟩
  · rw [(h2 ((r * 2 + 1) * 8 + q) (by omega)).2.2.2.2.1]
    exact c q hq
  · rw [(h2 ((r * 2 + 1) * 8 + q) (by omega)).2.2.2.2.2]
    exact d q hq
  · rw [h3 r hr]
    exact e
theorem pe_cong {x rl rj rK : Nat} {pr pv pc pr' pv' pc' : Nat → Int32} (h : pe_at x rl rj rK pr pv pc) (h1 : pr' x = pr x) (h2 : pv' x = pv x) (h3 : pc' x = pc x) : pe_at x rl rj rK pr' pv' pc' := by
  unfold pe_at
  rw [h1, h2, h3]
  exact h
section VDx
variable {f_maxNodes f_maxRules f_ruleCount f_counterexample f_optimized f_nodeCount f_outputCount f_applications : Int32} {a_preRelation a_preVariable a_preConstant a_roomNeeded a_useCount a_treeSize a_treeKind a_treeValue a_treeA a_treeB a_treeResult a_constantValued a_maximal a_counterpart a_boundNode a_pending a_pendingCount a_nodeKind a_nodeValue a_nodeA a_nodeB a_nodeResult a_nodeUses a_outputNode a_seen a_order a_walkStack : Nat → Int32}
variable {mN : Nat} {mR : Nat} {rc : Nat} {ph : Nat} {nc : Nat} {oc : Nat} {cx : Int32} {ap : Int32} {P : Nat → pr_PT} {R : Nat → pr_PT} {rl : Nat → Nat} {rj : Nat → Nat} {rK : Nat → Nat} {uc : Nat → Int32} {D : Nat → pr_PT} {ps : Nat → Nat → Nat} {dc : Nat → Nat} {dl : Nat} {dj : Nat} {dk : Nat} {K : Nat → Nat} {V : Nat → Int32} {A : Nat → Option Nat} {B : Nat → Option Nat} {O : Nat → Nat}
theorem rx_empty (hn : ∀ r, r < rc → pt_n (P r) ≤ 8 ∧ pt_n (R r) ≤ 8)
    (hr : ∀ r, r < rc → xr_rule r (P r) (R r) a_treeSize a_treeKind a_treeValue a_treeA a_treeB a_constantValued a_maximal a_roomNeeded ∧ pe_at r (rl r) (rj r) (rK r) a_preRelation a_preVariable a_preConstant ∧ a_useCount r = uc r)
    (hg : gr_all ph oc K V A B O a_nodeKind a_nodeValue a_nodeA a_nodeB a_outputNode) :
    rx mN mR rc ph nc oc cx ap P R rl rj rK uc (fun _ => pt_0) ps (fun _ => 0) 0 dj dk K V A B O ((nI mN), (nI mR), (nI rc), cx, (nI ph), (nI nc), (nI oc), ap, (upd a_preRelation rc 0), a_preVariable, a_preConstant, a_roomNeeded, a_useCount, (upd (upd a_treeSize (rc * 2 + 0) 0) (rc * 2 + 1) 0), a_treeKind, a_treeValue, a_treeA, a_treeB, a_treeResult, a_constantValued, a_maximal, a_counterpart, a_boundNode, a_pending, (upd (upd a_pendingCount 0 0) 1 0), a_nodeKind, a_nodeValue, a_nodeA, a_nodeB, a_nodeResult, a_nodeUses, a_outputNode, a_seen, a_order, a_walkStack) := by
  refine ⟨rfl, rfl, rfl, rfl, rfl, rfl, rfl, rfl, fun r hr' => ⟨xr_cong hn (fun r hr' => (hr r hr').1) (fun w hw => ?_) (fun p hp => ⟨rfl, rfl, rfl, rfl, rfl, rfl⟩) (fun _ _ => rfl) r hr', pe_cong (hr r hr').2.1 (pk_un (by omega)) rfl rfl, (hr r hr').2.2⟩, fun s hs => ⟨⟨?_, fun i hi => absurd hi (Nat.not_lt_zero i)⟩, ?_, fun q hq => absurd hq (Nat.not_lt_zero q)⟩, ⟨pk_us, fun h => absurd rfl h⟩, hg⟩
  · rw [pk_un (by omega), pk_un (by omega)]
  · have : s = 0 ∨ s = 1 := by omega
    rcases this with e | e
    · subst e
      rw [pk_un (by omega), pk_us]
      rfl
    · subst e
      rw [pk_us]
      rfl
  · have : s = 0 ∨ s = 1 := by omega
    rcases this with e | e
    · subst e
      rw [pk_un (by omega), pk_us]
      rfl
    · subst e
      rw [pk_us]
      rfl
theorem rx_append {u : SX} {post : Int32 → SX → Prop} {s : Nat} {p1 p2 : Int32} (hok : sp_ok mN mR rc ph nc oc cx ap P R rl rj rK uc D ps dc dl dj dk K V A B O) (hs : s < 2) (hx : rx mN mR rc ph nc oc cx ap P R rl rj rK uc D ps dc dl dj dk K V A B O u)
    (hy : ∀ κ v u', ac_ok (pt_n (D s)) (dc s) p1 p2 κ v → rx mN mR rc ph nc oc cx ap P R rl rj rK uc (pr_st D s (pt_add (D s) (ps s) (dc s) κ v)) (pr_st ps s (pd_add (D s) (ps s) (dc s) κ)) (pr_st dc s (dc s - pr_ar κ + 1)) dl dj dk K V A B O u' → post 1 u')
    (hno : (∀ κ v, ¬ ac_ok (pt_n (D s)) (dc s) p1 p2 κ v) → post 0 u) : wpX_appendTreeNode post u (nI s) p1 p2 := by
  obtain ⟨f_maxNodes, f_maxRules, f_ruleCount, f_counterexample, f_optimized, f_nodeCount, f_outputCount, f_applications, a_preRelation, a_preVariable, a_preConstant, a_roomNeeded, a_useCount, a_treeSize, a_treeKind, a_treeValue, a_treeA, a_treeB, a_treeResult, a_constantValued, a_maximal, a_counterpart, a_boundNode, a_pending, a_pendingCount, a_nodeKind, a_nodeValue, a_nodeA, a_nodeB, a_nodeResult, a_nodeUses, a_outputNode, a_seen, a_order, a_walkStack⟩ := u
  obtain ⟨e1, e2, e3, e4, e5, e6, e7, e8, h9, h10, h11, h12⟩ := hx
  subst e1 e2 e3 e4 e5 e6 e7 e8
  obtain ⟨o1, o2, o3, o4, o5, o6, o7, o8, o9, o10⟩ := hok
  have hd := o9.1 s hs
  have h10s := h10 s hs
  refine x_append (pst := ps s) (n := pt_n (D s)) (c := dc s) (by omega) hs hd.1.1 hd.2.1 h10s.1.1 h10s.2.1 h10s.2.2 (fun κ v hac => hy κ v _ hac ?_) hno
  refine ⟨rfl, rfl, rfl, rfl, rfl, rfl, rfl, rfl, fun r hr => ⟨xr_cong (fun r hr => pr_rule_n (o8 r hr)) (fun r hr => (h9 r hr).1) (fun w hw => pk_un (by omega)) (fun p hp => ⟨pk_un (by omega), pk_un (by omega), pk_un (by omega), pk_un (by omega), rfl, rfl⟩) (fun _ _ => rfl) r hr, (h9 r hr).2⟩, ?_, h11, h12⟩
  exact dr_add hs (fun s hs => ⟨(o9.1 s hs).1.1, (o9.1 s hs).2.1⟩) hac.2.2.2.2.1 hac.2.2.2.2.2.1 hac.2.2.2.2.2.2.2.2 hac.2.1 h10
end VDx
section VDy
variable {f_maxNodes f_maxRules f_phase f_nCount f_outCnt f_apps f_ruleCount f_cex f_curLive f_orderN : Int32} {a_alive a_nKind a_nVal a_nA a_nB a_lv a_nd a_nv a_outs a_tKind a_tVal a_tA a_tB a_tN a_preRel a_preJ a_preK a_ruleUse a_pend a_pendN a_tv a_cv a_mx a_par a_mp a_res a_bnd a_order a_stk a_stSt : Nat → Int32}
variable {mN : Nat} {mR : Nat} {rc : Nat} {ph : Nat} {nc : Nat} {oc : Nat} {cx : Int32} {ap : Int32} {P : Nat → pr_PT} {R : Nat → pr_PT} {rl : Nat → Nat} {rj : Nat → Nat} {rK : Nat → Nat} {uc : Nat → Int32} {D : Nat → pr_PT} {ps : Nat → Nat → Nat} {dc : Nat → Nat} {dl : Nat} {dj : Nat} {dk : Nat} {K : Nat → Nat} {V : Nat → Int32} {A : Nat → Option Nat} {B : Nat → Option Nat} {O : Nat → Nat}
theorem ry_empty (hn : ∀ r, r < rc → pt_n (P r) ≤ 8 ∧ pt_n (R r) ≤ 8) (hrc : rc ≤ 16)
    (hr : ∀ r, r < rc → tr_at 0 (r * 2) (P r) a_tN a_tKind a_tVal a_tA a_tB ∧ tr_at 0 (r * 2 + 1) (R r) a_tN a_tKind a_tVal a_tA a_tB ∧ pe_at r (rl r) (rj r) (rK r) a_preRel a_preJ a_preK ∧ a_ruleUse r = uc r)
    (hg : gr_all ph oc K V A B O a_nKind a_nVal a_nA a_nB a_outs ∧ al_at 0 K a_alive ∧ (ph = 1 → al_at 32 K a_alive)) :
    ry mN mR rc ph nc oc cx ap P R rl rj rK uc (fun _ => pt_0) ps (fun _ => 0) 0 dj dk K V A B O ((nI mN), (nI mR), (nI ph), (nI nc), (nI oc), ap, (nI rc), cx, f_curLive, f_orderN, a_alive, a_nKind, a_nVal, a_nA, a_nB, a_lv, a_nd, a_nv, a_outs, a_tKind, a_tVal, a_tA, a_tB, (upd (upd a_tN 32 0) 33 0), (upd a_preRel 16 0), (upd a_preJ 16 0), (upd a_preK 16 0), a_ruleUse, a_pend, (upd (upd a_pendN 0 0) 1 0), a_tv, a_cv, a_mx, a_par, a_mp, a_res, a_bnd, a_order, a_stk, a_stSt) := by
  refine ⟨rfl, rfl, rfl, rfl, rfl, rfl, rfl, rfl, fun r hr' => ⟨tr_cong (hr r hr').1 ?_ (fun i hi => ⟨rfl, rfl, rfl, rfl⟩), tr_cong (hr r hr').2.1 ?_ (fun i hi => ⟨rfl, rfl, rfl, rfl⟩), pe_cong (hr r hr').2.2.1 (pk_un (by omega)) (pk_un (by omega)) (pk_un (by omega)), (hr r hr').2.2.2⟩, fun s hs => ⟨⟨?_, fun i hi => absurd hi (Nat.not_lt_zero i)⟩, ?_, fun q hq => absurd hq (Nat.not_lt_zero q)⟩, ⟨pk_us, fun h => absurd rfl h⟩, hg⟩
  · rw [pk_un (by omega), pk_un (by omega)]
  · rw [pk_un (by omega), pk_un (by omega)]
  · have : s = 0 ∨ s = 1 := by omega
    rcases this with e | e
    · subst e
      rw [pk_un (by omega), pk_us]
      rfl
    · subst e
      rw [pk_us]
      rfl
  · have : s = 0 ∨ s = 1 := by omega
    rcases this with e | e
    · subst e
      rw [pk_un (by omega), pk_us]
      rfl
    · subst e
      rw [pk_us]
      rfl
theorem ry_append {u : SY} {post : Int32 → SY → Prop} {s κ : Nat} {p2 : Int32} (hok : sp_ok mN mR rc ph nc oc cx ap P R rl rj rK uc D ps dc dl dj dk K V A B O) (hs : s < 2) (h1 : 1 ≤ κ) (h14 : κ ≤ 14) (h12 : κ ≠ 12) (hx : ry mN mR rc ph nc oc cx ap P R rl rj rK uc D ps dc dl dj dk K V A B O u)
    (hy : ∀ v u', ac_ok (pt_n (D s)) (dc s) (nI κ) p2 κ v → ry mN mR rc ph nc oc cx ap P R rl rj rK uc (pr_st D s (pt_add (D s) (ps s) (dc s) κ v)) (pr_st ps s (pd_add (D s) (ps s) (dc s) κ)) (pr_st dc s (dc s - pr_ar κ + 1)) dl dj dk K V A B O u' → post 1 u')
    (hno : (∀ v, ¬ ac_ok (pt_n (D s)) (dc s) (nI κ) p2 κ v) → post 0 u) : wpY_append post u (nI (16 * 2 + s)) (nI κ) p2 := by
  obtain ⟨f_maxNodes, f_maxRules, f_phase, f_nCount, f_outCnt, f_apps, f_ruleCount, f_cex, f_curLive, f_orderN, a_alive, a_nKind, a_nVal, a_nA, a_nB, a_lv, a_nd, a_nv, a_outs, a_tKind, a_tVal, a_tA, a_tB, a_tN, a_preRel, a_preJ, a_preK, a_ruleUse, a_pend, a_pendN, a_tv, a_cv, a_mx, a_par, a_mp, a_res, a_bnd, a_order, a_stk, a_stSt⟩ := u
  obtain ⟨e1, e2, e3, e4, e5, e6, e7, e8, h9, h10, h11, h12'⟩ := hx
  subst e1 e2 e3 e4 e5 e6 e7 e8
  obtain ⟨o1, o2, o3, o4, o5, o6, o7, o8, o9, o10⟩ := hok
  have hd := o9.1 s hs
  have h10s := h10 s hs
  refine y_append (pst := ps s) (n := pt_n (D s)) (c := dc s) hs hd.1.1 hd.2.1 h1 h14 h12 h10s.1.1 h10s.2.1 h10s.2.2 (fun v hac => hy v _ hac ?_) hno
  refine ⟨rfl, rfl, rfl, rfl, rfl, rfl, rfl, rfl, fun r hr => ?_, ?_, h11, h12'⟩
  · have hnr := pr_rule_n (o8 r hr)
    exact ⟨tr_cong (h9 r hr).1 (pk_un (by omega)) (fun i hi => ⟨pk_un (by omega), pk_un (by omega), pk_un (by omega), pk_un (by omega)⟩), tr_cong (h9 r hr).2.1 (pk_un (by omega)) (fun i hi => ⟨pk_un (by omega), pk_un (by omega), pk_un (by omega), pk_un (by omega)⟩), (h9 r hr).2.2⟩
  · exact dr_add hs (fun s hs => ⟨(o9.1 s hs).1.1, (o9.1 s hs).2.1⟩) hac.2.2.2.2.1 hac.2.2.2.2.2.1 hac.2.2.2.2.2.2.2.2 hac.2.1 h10
end VDy
section VDs
variable {mN : Nat} {mR : Nat} {rc : Nat} {ph : Nat} {nc : Nat} {oc : Nat} {cx : Int32} {ap : Int32} {P : Nat → pr_PT} {R : Nat → pr_PT} {rl : Nat → Nat} {rj : Nat → Nat} {rK : Nat → Nat} {uc : Nat → Int32} {D : Nat → pr_PT} {ps : Nat → Nat → Nat} {dc : Nat → Nat} {dl : Nat} {dj : Nat} {dk : Nat} {K : Nat → Nat} {V : Nat → Int32} {A : Nat → Option Nat} {B : Nat → Option Nat} {O : Nat → Nat}
theorem sp_empty (h : sp_ok mN mR rc ph nc oc cx ap P R rl rj rK uc D ps dc dl dj dk K V A B O) : sp_ok mN mR rc ph nc oc cx ap P R rl rj rK uc (fun _ => pt_0) ps (fun _ => 0) 0 dj dk K V A B O := by
  obtain ⟨o1, o2, o3, o4, o5, o6, o7, o8, o9, o10⟩ := h
  exact ⟨o1, o2, o3, o4, o5, o6, o7, o8, ⟨fun s _ => ⟨pt_0_ok, pd_0_ok _⟩, fun i hi => absurd hi (Nat.not_lt_zero i), by omega, fun h => absurd rfl h⟩, o10⟩
theorem sp_append {s κ v : Nat} {p1 p2 : Int32} (h : sp_ok mN mR rc ph nc oc cx ap P R rl rj rK uc D ps dc dl dj dk K V A B O) (hs : s < 2) (hac : ac_ok (pt_n (D s)) (dc s) p1 p2 κ v) (h14 : s = 1 → κ ≠ 14) : sp_ok mN mR rc ph nc oc cx ap P R rl rj rK uc (pr_st D s (pt_add (D s) (ps s) (dc s) κ v)) (pr_st ps s (pd_add (D s) (ps s) (dc s) κ)) (pr_st dc s (dc s - pr_ar κ + 1)) dl dj dk K V A B O := by
  obtain ⟨o1, o2, o3, o4, o5, o6, o7, o8, ⟨d1, d2, d3, d4⟩, o10⟩ := h
  obtain ⟨c1, c2, c3, c4, c5, c6, c7, c8, c9⟩ := hac
  have hadd := pt_add_ok (d1 s hs).1 (d1 s hs).2 c5 ⟨c2, c3, c4⟩ (fun h => (c7 h).2) (fun h => (c8 h).2) c6
  refine ⟨o1, o2, o3, o4, o5, o6, o7, o8, ⟨fun s' hs' => ?_, fun i hi => ?_, d3, d4⟩, o10⟩
  · by_cases e : s' = s
    · subst e
      rw [pr_st_s, pr_st_s, pr_st_s]
      exact hadd
    · rw [pr_st_n e, pr_st_n e, pr_st_n e]
      exact d1 s' hs'
  · by_cases e : 1 = s
    · subst e
      rw [pr_st_s] at hi ⊢
      show pr_st (pt_k (D 1)) (pt_n (D 1)) κ i ≠ 14
      by_cases ei : i = pt_n (D 1)
      · rw [ei, pr_st_s]
        exact h14 rfl
      · rw [pr_st_n ei]
        have hi' : i < pt_n (D 1) + 1 := hi
        exact d2 i (by omega)
    · rw [pr_st_n e] at hi ⊢
      exact d2 i hi
end VDs
theorem i_vc_ruleBegin {k : Nat} {u : SX} {v : SY} (I : i_Rel k u v) (hk : k + 4 ≤ 2050) : wpX_ruleBegin (fun u' => wpY_ruleBegin (fun v' => i_Rel (k + 4) u' v') v) u := by
  obtain ⟨mN, mR, rc, ph, nc, oc, cx, ap, P, R, rl, rj, rK, uc, D, ps, dc, dl, dj, dk, K, V, A, B, O, hok, hx, hy⟩ := I
  obtain ⟨f_maxNodes, f_maxRules, f_ruleCount, f_counterexample, f_optimized, f_nodeCount, f_outputCount, f_applications, a_preRelation, a_preVariable, a_preConstant, a_roomNeeded, a_useCount, a_treeSize, a_treeKind, a_treeValue, a_treeA, a_treeB, a_treeResult, a_constantValued, a_maximal, a_counterpart, a_boundNode, a_pending, a_pendingCount, a_nodeKind, a_nodeValue, a_nodeA, a_nodeB, a_nodeResult, a_nodeUses, a_outputNode, a_seen, a_order, a_walkStack⟩ := u
  obtain ⟨f_maxNodes', f_maxRules', f_phase', f_nCount', f_outCnt', f_apps', f_ruleCount', f_cex', f_curLive', f_orderN', a_alive', a_nKind', a_nVal', a_nA', a_nB', a_lv', a_nd', a_nv', a_outs', a_tKind', a_tVal', a_tA', a_tB', a_tN', a_preRel', a_preJ', a_preK', a_ruleUse', a_pend', a_pendN', a_tv', a_cv', a_mx', a_par', a_mp', a_res', a_bnd', a_order', a_stk', a_stSt'⟩ := v
  obtain ⟨e1, e2, e3, e4, e5, e6, e7, e8, h9, h10, h11, h12⟩ := hx
  obtain ⟨d1, d2, d3, d4, d5, d6, d7, d8, g9, g10, g11, g12⟩ := hy
  subst e1 e2 e3 e4 e5 e6 e7 e8 d1 d2 d3 d4 d5 d6 d7 d8
  have hn : ∀ r, r < rc → pt_n (P r) ≤ 8 ∧ pt_n (R r) ≤ 8 := fun r hr => pr_rule_n (hok.2.2.2.2.2.2.2.1 r hr)
  have hrc : rc ≤ 16 := by
    have := hok.2.2.2.1
    have := hok.2.2.2.2.1
    omega
  unfold wpX_ruleBegin
  refine x_emptyDraft hrc ?_
  refine y_ruleBegin ?_
  exact ⟨_, _, _, _, _, _, _, _, _, _, _, _, _, _, _, _, _, _, _, _, _, _, _, _, _, sp_empty hok, rx_empty hn h9 h12, ry_empty hn hrc g9 g12⟩
theorem i_vc_rulePat {k : Nat} {u : SX} {v : SY} (I : i_Rel k u v) (hk : k + 4 ≤ 2050) (v1 : Int32) (v2 : Int32) : wpX_rulePat (fun r u' => wpY_rulePat (fun r' v' => r' = r ∧ i_Rel (k + 4) u' v') v v1 v2) u v1 v2 := by
  obtain ⟨mN, mR, rc, ph, nc, oc, cx, ap, P, R, rl, rj, rK, uc, D, ps, dc, dl, dj, dk, K, V, A, B, O, hok, hx, hy⟩ := I
  have hI : i_Rel (k + 4) u v := ⟨mN, mR, rc, ph, nc, oc, cx, ap, P, R, rl, rj, rK, uc, D, ps, dc, dl, dj, dk, K, V, A, B, O, hok, hx, hy⟩
  obtain ⟨f_maxNodes, f_maxRules, f_ruleCount, f_counterexample, f_optimized, f_nodeCount, f_outputCount, f_applications, a_preRelation, a_preVariable, a_preConstant, a_roomNeeded, a_useCount, a_treeSize, a_treeKind, a_treeValue, a_treeA, a_treeB, a_treeResult, a_constantValued, a_maximal, a_counterpart, a_boundNode, a_pending, a_pendingCount, a_nodeKind, a_nodeValue, a_nodeA, a_nodeB, a_nodeResult, a_nodeUses, a_outputNode, a_seen, a_order, a_walkStack⟩ := u
  obtain ⟨f_maxNodes', f_maxRules', f_phase', f_nCount', f_outCnt', f_apps', f_ruleCount', f_cex', f_curLive', f_orderN', a_alive', a_nKind', a_nVal', a_nA', a_nB', a_lv', a_nd', a_nv', a_outs', a_tKind', a_tVal', a_tA', a_tB', a_tN', a_preRel', a_preJ', a_preK', a_ruleUse', a_pend', a_pendN', a_tv', a_cv', a_mx', a_par', a_mp', a_res', a_bnd', a_order', a_stk', a_stSt'⟩ := v
  unfold wpX_rulePat
  refine rx_append (s := 0) hok (by omega) hx (fun κ w u' hac hx' => ?_) (fun hno => ?_)
  · obtain ⟨f_maxNodes'', f_maxRules'', f_ruleCount'', f_counterexample'', f_optimized'', f_nodeCount'', f_outputCount'', f_applications'', a_preRelation'', a_preVariable'', a_preConstant'', a_roomNeeded'', a_useCount'', a_treeSize'', a_treeKind'', a_treeValue'', a_treeA'', a_treeB'', a_treeResult'', a_constantValued'', a_maximal'', a_counterpart'', a_boundNode'', a_pending'', a_pendingCount'', a_nodeKind'', a_nodeValue'', a_nodeA'', a_nodeB'', a_nodeResult'', a_nodeUses'', a_outputNode'', a_seen'', a_order'', a_walkStack''⟩ := u'
    refine And.intro (by decide) ?_
    have hv1 := hac.1
    have h14 := hac.2.2.1
    subst hv1
    unfold wpY_rulePat
    refine pk_lt κ 1 (fun h => absurd hac.2.1 (by omega)) (fun _ => pk_lt 14 κ (fun h => absurd h (by omega)) (fun _ => pk_eq κ 12 (fun h => absurd h hac.2.2.2.1) (fun _ => ?_)))
    refine ry_append (s := 0) hok (by omega) hac.2.1 h14 hac.2.2.2.1 hy (fun w' v' hac' hy' => ?_) (fun hno => absurd hac (hno w))
    obtain ⟨f_maxNodes'', f_maxRules'', f_phase'', f_nCount'', f_outCnt'', f_apps'', f_ruleCount'', f_cex'', f_curLive'', f_orderN'', a_alive'', a_nKind'', a_nVal'', a_nA'', a_nB'', a_lv'', a_nd'', a_nv'', a_outs'', a_tKind'', a_tVal'', a_tA'', a_tB'', a_tN'', a_preRel'', a_preJ'', a_preK'', a_ruleUse'', a_pend'', a_pendN'', a_tv'', a_cv'', a_mx'', a_par'', a_mp'', a_res'', a_bnd'', a_order'', a_stk'', a_stSt''⟩ := v'
    have e := (ac_u hac hac').2
    subst e
    exact ⟨by decide, rfl, ⟨_, _, _, _, _, _, _, _, _, _, _, _, _, _, _, _, _, _, _, _, _, _, _, _, _, sp_append hok (by omega) hac (fun h => absurd h (by omega)), hx', hy'⟩⟩
  · refine And.intro (by decide) ?_
    unfold wpY_rulePat
    rcases pk_ix v1 (n := 15) (by omega) with hp | hp | ⟨κ, hκ, rfl⟩
    · exact br_t (Int32.lt_trans hp (by decide)) ⟨rfl, hI⟩
    · have h1 : ¬ v1 < 1 := fun h => absurd (Int32.lt_of_le_of_lt hp h) (by decide)
      exact br_f h1 (br_t (Int32.lt_of_lt_of_le (b := nI 15) (by decide) hp) ⟨rfl, hI⟩)
    · refine pk_lt κ 1 (fun _ => ⟨rfl, hI⟩) (fun h1 => pk_lt 14 κ (fun _ => ⟨rfl, hI⟩) (fun h14 => pk_eq κ 12 (fun _ => ⟨rfl, hI⟩) (fun h12 => ?_)))
      exact ry_append (s := 0) hok (by omega) h1 h14 h12 hy (fun w' v' hac' hy' => absurd hac' (hno _ _)) (fun _ => ⟨by decide, rfl, hI⟩)
theorem i_vc_ruleRep {k : Nat} {u : SX} {v : SY} (I : i_Rel k u v) (hk : k + 4 ≤ 2050) (v1 : Int32) (v2 : Int32) : wpX_ruleRep (fun r u' => wpY_ruleRep (fun r' v' => r' = r ∧ i_Rel (k + 4) u' v') v v1 v2) u v1 v2 := by
  obtain ⟨mN, mR, rc, ph, nc, oc, cx, ap, P, R, rl, rj, rK, uc, D, ps, dc, dl, dj, dk, K, V, A, B, O, hok, hx, hy⟩ := I
  have hI : i_Rel (k + 4) u v := ⟨mN, mR, rc, ph, nc, oc, cx, ap, P, R, rl, rj, rK, uc, D, ps, dc, dl, dj, dk, K, V, A, B, O, hok, hx, hy⟩
  obtain ⟨f_maxNodes, f_maxRules, f_ruleCount, f_counterexample, f_optimized, f_nodeCount, f_outputCount, f_applications, a_preRelation, a_preVariable, a_preConstant, a_roomNeeded, a_useCount, a_treeSize, a_treeKind, a_treeValue, a_treeA, a_treeB, a_treeResult, a_constantValued, a_maximal, a_counterpart, a_boundNode, a_pending, a_pendingCount, a_nodeKind, a_nodeValue, a_nodeA, a_nodeB, a_nodeResult, a_nodeUses, a_outputNode, a_seen, a_order, a_walkStack⟩ := u
  obtain ⟨f_maxNodes', f_maxRules', f_phase', f_nCount', f_outCnt', f_apps', f_ruleCount', f_cex', f_curLive', f_orderN', a_alive', a_nKind', a_nVal', a_nA', a_nB', a_lv', a_nd', a_nv', a_outs', a_tKind', a_tVal', a_tA', a_tB', a_tN', a_preRel', a_preJ', a_preK', a_ruleUse', a_pend', a_pendN', a_tv', a_cv', a_mx', a_par', a_mp', a_res', a_bnd', a_order', a_stk', a_stSt'⟩ := v
  unfold wpX_ruleRep
  refine br_c (fun e14 => ?_) (fun n14 => ?_)
  · subst e14
    unfold wpY_ruleRep
    exact br_f (by decide) (br_t (by decide) ⟨rfl, hI⟩)
  · refine rx_append (s := 1) hok (by omega) hx (fun κ w u' hac hx' => ?_) (fun hno => ?_)
    · obtain ⟨f_maxNodes'', f_maxRules'', f_ruleCount'', f_counterexample'', f_optimized'', f_nodeCount'', f_outputCount'', f_applications'', a_preRelation'', a_preVariable'', a_preConstant'', a_roomNeeded'', a_useCount'', a_treeSize'', a_treeKind'', a_treeValue'', a_treeA'', a_treeB'', a_treeResult'', a_constantValued'', a_maximal'', a_counterpart'', a_boundNode'', a_pending'', a_pendingCount'', a_nodeKind'', a_nodeValue'', a_nodeA'', a_nodeB'', a_nodeResult'', a_nodeUses'', a_outputNode'', a_seen'', a_order'', a_walkStack''⟩ := u'
      refine br_f (by decide) ?_
      have hv1 := hac.1
      have h14 := hac.2.2.1
      subst hv1
      have hne : κ ≠ 14 := fun e => n14 (by rw [e]; rfl)
      unfold wpY_ruleRep
      refine pk_lt κ 1 (fun h => absurd hac.2.1 (by omega)) (fun _ => pk_lt 13 κ (fun h => absurd h (by omega)) (fun _ => pk_eq κ 12 (fun h => absurd h hac.2.2.2.1) (fun _ => ?_)))
      refine ry_append (s := 1) hok (by omega) hac.2.1 h14 hac.2.2.2.1 hy (fun w' v' hac' hy' => ?_) (fun hno => absurd hac (hno w))
      obtain ⟨f_maxNodes'', f_maxRules'', f_phase'', f_nCount'', f_outCnt'', f_apps'', f_ruleCount'', f_cex'', f_curLive'', f_orderN'', a_alive'', a_nKind'', a_nVal'', a_nA'', a_nB'', a_lv'', a_nd'', a_nv'', a_outs'', a_tKind'', a_tVal'', a_tA'', a_tB'', a_tN'', a_preRel'', a_preJ'', a_preK'', a_ruleUse'', a_pend'', a_pendN'', a_tv'', a_cv'', a_mx'', a_par'', a_mp'', a_res'', a_bnd'', a_order'', a_stk'', a_stSt''⟩ := v'
      have e := (ac_u hac hac').2
      subst e
      exact ⟨by decide, rfl, ⟨_, _, _, _, _, _, _, _, _, _, _, _, _, _, _, _, _, _, _, _, _, _, _, _, _, sp_append hok (by omega) hac (fun _ => hne), hx', hy'⟩⟩
    · refine br_t rfl ?_
      unfold wpY_ruleRep
      rcases pk_ix v1 (n := 15) (by omega) with hp | hp | ⟨κ, hκ, rfl⟩
      · exact br_t (Int32.lt_trans hp (by decide)) ⟨rfl, hI⟩
      · have h1 : ¬ v1 < 1 := fun h => absurd (Int32.lt_of_le_of_lt hp h) (by decide)
        exact br_f h1 (br_t (Int32.lt_of_lt_of_le (b := nI 15) (by decide) hp) ⟨rfl, hI⟩)
      · refine pk_lt κ 1 (fun _ => ⟨rfl, hI⟩) (fun h1 => pk_lt 13 κ (fun _ => ⟨rfl, hI⟩) (fun h14 => pk_eq κ 12 (fun _ => ⟨rfl, hI⟩) (fun h12 => ?_)))
        exact ry_append (s := 1) hok (by omega) h1 (by omega) h12 hy (fun w' v' hac' hy' => absurd hac' (hno _ _)) (fun _ => ⟨by decide, rfl, hI⟩)
end
section
/-! rulePre, addNode, addOutput, clearDag, ruleUses -/
section VSx
variable {f_maxNodes f_maxRules f_ruleCount f_counterexample f_optimized f_nodeCount f_outputCount f_applications : Int32} {a_preRelation a_preVariable a_preConstant a_roomNeeded a_useCount a_treeSize a_treeKind a_treeValue a_treeA a_treeB a_treeResult a_constantValued a_maximal a_counterpart a_boundNode a_pending a_pendingCount a_nodeKind a_nodeValue a_nodeA a_nodeB a_nodeResult a_nodeUses a_outputNode a_seen a_order a_walkStack : Nat → Int32}
variable {mN : Nat} {mR : Nat} {rc : Nat} {ph : Nat} {nc : Nat} {oc : Nat} {cx : Int32} {ap : Int32} {P : Nat → pr_PT} {R : Nat → pr_PT} {rl : Nat → Nat} {rj : Nat → Nat} {rK : Nat → Nat} {uc : Nat → Int32} {D : Nat → pr_PT} {ps : Nat → Nat → Nat} {dc : Nat → Nat} {dl : Nat} {dj : Nat} {dk : Nat} {K : Nat → Nat} {V : Nat → Int32} {A : Nat → Option Nat} {B : Nat → Option Nat} {O : Nat → Nat}
theorem sp_pre {ρ j c : Nat} (h : sp_ok mN mR rc ph nc oc cx ap P R rl rj rK uc D ps dc dl dj dk K V A B O) (h4 : ρ ≤ 4) (hj : ρ ≠ 0 → j < 2 ∧ c < 256) : sp_ok mN mR rc ph nc oc cx ap P R rl rj rK uc D ps dc ρ j c K V A B O := by
  obtain ⟨o1, o2, o3, o4, o5, o6, o7, o8, ⟨d1, d2, d3, d4⟩, o10⟩ := h
  exact ⟨o1, o2, o3, o4, o5, o6, o7, o8, ⟨d1, d2, h4, hj⟩, o10⟩
theorem x_pre31 {post : Int32 → SX → Prop} {ρ j c : Nat} {x2 x3 : Int32} (hok : sp_ok mN mR rc ph nc oc cx ap P R rl rj rK uc D ps dc dl dj dk K V A B O) (hx : rx mN mR rc ph nc oc cx ap P R rl rj rK uc D ps dc dl dj dk K V A B O (f_maxNodes, f_maxRules, f_ruleCount, f_counterexample, f_optimized, f_nodeCount, f_outputCount, f_applications, a_preRelation, a_preVariable, a_preConstant, a_roomNeeded, a_useCount, a_treeSize, a_treeKind, a_treeValue, a_treeA, a_treeB, a_treeResult, a_constantValued, a_maximal, a_counterpart, a_boundNode, a_pending, a_pendingCount, a_nodeKind, a_nodeValue, a_nodeA, a_nodeB, a_nodeResult, a_nodeUses, a_outputNode, a_seen, a_order, a_walkStack)) (hj : ρ ≠ 0 → x2 = nI j ∧ x3 = nI c) (h : ∀ u', rx mN mR rc ph nc oc cx ap P R rl rj rK uc D ps dc ρ j c K V A B O u' → post 1 u') : wX_rulePre_31 post (nI ρ) x2 x3 f_maxNodes f_maxRules f_ruleCount f_counterexample f_optimized f_nodeCount f_outputCount f_applications a_preRelation a_preVariable a_preConstant a_roomNeeded a_useCount a_treeSize a_treeKind a_treeValue a_treeA a_treeB a_treeResult a_constantValued a_maximal a_counterpart a_boundNode a_pending a_pendingCount a_nodeKind a_nodeValue a_nodeA a_nodeB a_nodeResult a_nodeUses a_outputNode a_seen a_order a_walkStack := by
  obtain ⟨e1, e2, e3, e4, e5, e6, e7, e8, h9, h10, h11, h12⟩ := hx
  subst e1 e2 e3 e4 e5 e6 e7 e8
  have hrc : rc ≤ 16 := by
    have := hok.2.2.2.1
    have := hok.2.2.2.2.1
    omega
  have hin : vp_in (nI rc) 17 := pk_in rc 17 (by omega)
  refine ⟨hin, ?_⟩
  rw [nI_clamp (by omega)]
  refine nm_e ⟨hin, nm_e ⟨hin, nm_e (h _ ?_)⟩⟩
  refine ⟨rfl, rfl, rfl, rfl, rfl, rfl, rfl, rfl, fun r hr => ⟨(h9 r hr).1, pe_cong (h9 r hr).2.1 (pk_un (by omega)) (pk_un (by omega)) (pk_un (by omega)), (h9 r hr).2.2⟩, h10, ⟨pk_us, fun hρ => ?_⟩, h12⟩
  rw [pk_us, pk_us]
  exact hj hρ
theorem sp_node {κ : Nat} {x : Int32} {a b : Option Nat} (h : sp_ok mN mR rc ph nc oc cx ap P R rl rj rK uc D ps dc dl dj dk K V A B O) (hph : ph = 0) (hnc : nc < mN) (h1 : 1 ≤ κ) (h12 : κ ≤ 12) (hv : pr_by x) (hv12 : κ = 12 → ∃ i, i < 4 ∧ x = nI i) (hv0 : κ ≤ 10 → x = 0) (ha : 11 ≤ κ → a = none) (hb : 9 ≤ κ → b = none) (ha' : κ ≤ 10 → ∃ c, a = some c) (hb' : κ ≤ 8 → ∃ c, b = some c) (hc : ∀ c, a = some c ∨ b = some c → c < nc) :
    sp_ok mN mR rc ph (nc + 1) oc cx ap P R rl rj rK uc D ps dc dl dj dk (pr_st K nc κ) (pr_st V nc x) (pr_st A nc a) (pr_st B nc b) O := by
  obtain ⟨o1, o2, o3, o4, o5, o6, o7, o8, o9, rk, rk2, g1, g2, g3, g4⟩ := h
  obtain ⟨g5, g6, g7⟩ := g3 hph
  subst g5
  have hT : ∀ n, pr_T 0 K n → pr_T 0 (pr_st K nc κ) n ∧ n ≠ nc := by
    intro n hn
    have hne : n ≠ nc := by
      intro e
      have := (g7 n (by have := hn.2.1; omega)).mpr (by omega)
      exact hn.2.2 this
    exact ⟨⟨hn.1, hn.2.1, by rw [pr_st_n hne]; exact hn.2.2⟩, hne⟩
  have hTn : ∀ c, c < nc → pr_T 0 (pr_st K nc κ) c := by
    intro c hc
    have h0 : K c ≠ 0 := fun h => by
      have := (g7 c (by omega)).mp h
      omega
    exact (hT c ⟨by omega, by omega, h0⟩).1
  refine ⟨o1, o2, o3, o4, o5, o6, o7, o8, o9, fun n => n, rk2, fun n hn => ?_, fun k hk => (hT _ (g2 k hk)).1, fun _ => ⟨rfl, by omega, fun n hn => ?_⟩, fun h => absurd h (by omega)⟩
  · by_cases e : n = nc
    · subst e
      rw [pr_st_s, pr_st_s, pr_st_s, pr_st_s]
      refine ⟨h12, by have := hn.2.1; omega, hv, hv12, hv0, ha, hb, ha', hb', fun c hc' => ⟨hTn c (hc c hc'), hc c hc'⟩⟩
    · have hn' : pr_T 0 K n := ⟨hn.1, hn.2.1, by have := hn.2.2; rw [pr_st_n e] at this; exact this⟩
      rw [pr_st_n e, pr_st_n e, pr_st_n e, pr_st_n e]
      obtain ⟨k1, k2, k3, k4, k5, k6, k7, k8, k9, k10⟩ := g1 n hn'
      exact ⟨k1, k2, k3, k4, k5, k6, k7, k8, k9, fun c hc' => ⟨(hT c (k10 c hc').1).1, (k10 c hc').2⟩⟩
  · by_cases e : n = nc
    · rw [e, pr_st_s]
      exact ⟨fun h => absurd h (by omega), fun h => absurd h (by omega)⟩
    · rw [pr_st_n e, g7 n hn]
      omega
theorem gr_node {nc κ oc : Nat} {K : Nat → Nat} {V : Nat → Int32} {A B : Nat → Option Nat} {O : Nat → Nat} {x : Int32} {a b : Option Nat} {nk nv na nb ou : Nat → Int32} (h : gr_all 0 oc K V A B O nk nv na nb ou) :
    gr_all 0 oc (pr_st K nc κ) (pr_st V nc x) (pr_st A nc a) (pr_st B nc b) O (upd nk nc (nI κ)) (upd nv nc x) (upd na nc (pr_oI a)) (upd nb nc (pr_oI b)) ou := by
  refine ⟨fun n hn => ?_, h.2.1, fun h => absurd h (by omega)⟩
  by_cases e : n = nc
  · subst e
    rw [pk_us, pk_us, pk_us, pk_us, pr_st_s, pr_st_s, pr_st_s, pr_st_s]
    exact ⟨rfl, rfl, rfl, rfl⟩
  · rw [pk_un e, pk_un e, pk_un e, pk_un e, pr_st_n e, pr_st_n e, pr_st_n e, pr_st_n e]
    exact h.1 n ⟨hn.1, hn.2.1, by have := hn.2.2; rw [pr_st_n e] at this; exact this⟩
theorem x_setNode {post : SX → Prop} {n : Nat} {p1 p2 p3 p4 : Int32} (hn : n < 64) (h : post (f_maxNodes, f_maxRules, f_ruleCount, f_counterexample, f_optimized, f_nodeCount, f_outputCount, f_applications, a_preRelation, a_preVariable, a_preConstant, a_roomNeeded, a_useCount, a_treeSize, a_treeKind, a_treeValue, a_treeA, a_treeB, a_treeResult, a_constantValued, a_maximal, a_counterpart, a_boundNode, a_pending, a_pendingCount, (upd a_nodeKind n p1), (upd a_nodeValue n p2), (upd a_nodeA n p3), (upd a_nodeB n p4), a_nodeResult, a_nodeUses, a_outputNode, a_seen, a_order, a_walkStack)) : wpX_setNode post (f_maxNodes, f_maxRules, f_ruleCount, f_counterexample, f_optimized, f_nodeCount, f_outputCount, f_applications, a_preRelation, a_preVariable, a_preConstant, a_roomNeeded, a_useCount, a_treeSize, a_treeKind, a_treeValue, a_treeA, a_treeB, a_treeResult, a_constantValued, a_maximal, a_counterpart, a_boundNode, a_pending, a_pendingCount, a_nodeKind, a_nodeValue, a_nodeA, a_nodeB, a_nodeResult, a_nodeUses, a_outputNode, a_seen, a_order, a_walkStack) (nI n) p1 p2 p3 p4 := by
  have hin : vp_in (nI n) 64 := pk_in n 64 hn
  unfold wpX_setNode
  refine ⟨hin, ?_⟩
  rw [nI_clamp (by omega)]
  exact nm_e ⟨hin, nm_e ⟨hin, nm_e ⟨hin, nm_e h⟩⟩⟩
theorem x_isAdded_t {post : Int32 → Prop} {a : Nat} (ha : a < nc) (hnc : nc < 2 ^ 31) (h : post 1) : wpX_isAddedNode post (f_maxNodes, f_maxRules, f_ruleCount, f_counterexample, f_optimized, (nI nc), f_outputCount, f_applications, a_preRelation, a_preVariable, a_preConstant, a_roomNeeded, a_useCount, a_treeSize, a_treeKind, a_treeValue, a_treeA, a_treeB, a_treeResult, a_constantValued, a_maximal, a_counterpart, a_boundNode, a_pending, a_pendingCount, a_nodeKind, a_nodeValue, a_nodeA, a_nodeB, a_nodeResult, a_nodeUses, a_outputNode, a_seen, a_order, a_walkStack) (nI a) := by
  unfold wpX_isAddedNode
  exact br_f (nI_pos (by omega)) (pk_le nc a (fun h => absurd h (by omega)) (fun _ => h))
theorem x_isAdded_f {post : Int32 → Prop} {p : Int32} (hp : p < 0 ∨ nI nc ≤ p) (h : post 0) : wpX_isAddedNode post (f_maxNodes, f_maxRules, f_ruleCount, f_counterexample, f_optimized, (nI nc), f_outputCount, f_applications, a_preRelation, a_preVariable, a_preConstant, a_roomNeeded, a_useCount, a_treeSize, a_treeKind, a_treeValue, a_treeA, a_treeB, a_treeResult, a_constantValued, a_maximal, a_counterpart, a_boundNode, a_pending, a_pendingCount, a_nodeKind, a_nodeValue, a_nodeA, a_nodeB, a_nodeResult, a_nodeUses, a_outputNode, a_seen, a_order, a_walkStack) p := by
  unfold wpX_isAddedNode
  by_cases h0 : p < 0
  · exact br_t h0 h
  · refine br_f h0 (br_t ?_ h)
    rcases hp with hp | hp
    · exact absurd hp h0
    · exact hp
end VSx
theorem i_vc_rulePre {k : Nat} {u : SX} {v : SY} (I : i_Rel k u v) (hk : k + 4 ≤ 2050) (v1 : Int32) (v2 : Int32) (v3 : Int32) : wpX_rulePre (fun r u' => wpY_rulePre (fun r' v' => r' = r ∧ i_Rel (k + 4) u' v') v v1 v2 v3) u v1 v2 v3 := by
  obtain ⟨mN, mR, rc, ph, nc, oc, cx, ap, P, R, rl, rj, rK, uc, D, ps, dc, dl, dj, dk, K, V, A, B, O, hok, hx, hy⟩ := I
  have hI : i_Rel (k + 4) u v := ⟨mN, mR, rc, ph, nc, oc, cx, ap, P, R, rl, rj, rK, uc, D, ps, dc, dl, dj, dk, K, V, A, B, O, hok, hx, hy⟩
  obtain ⟨f_maxNodes, f_maxRules, f_ruleCount, f_counterexample, f_optimized, f_nodeCount, f_outputCount, f_applications, a_preRelation, a_preVariable, a_preConstant, a_roomNeeded, a_useCount, a_treeSize, a_treeKind, a_treeValue, a_treeA, a_treeB, a_treeResult, a_constantValued, a_maximal, a_counterpart, a_boundNode, a_pending, a_pendingCount, a_nodeKind, a_nodeValue, a_nodeA, a_nodeB, a_nodeResult, a_nodeUses, a_outputNode, a_seen, a_order, a_walkStack⟩ := u
  obtain ⟨f_maxNodes', f_maxRules', f_phase', f_nCount', f_outCnt', f_apps', f_ruleCount', f_cex', f_curLive', f_orderN', a_alive', a_nKind', a_nVal', a_nA', a_nB', a_lv', a_nd', a_nv', a_outs', a_tKind', a_tVal', a_tA', a_tB', a_tN', a_preRel', a_preJ', a_preK', a_ruleUse', a_pend', a_pendN', a_tv', a_cv', a_mx', a_par', a_mp', a_res', a_bnd', a_order', a_stk', a_stSt'⟩ := v
  have hno : (v1 < 0 ∨ nI 5 ≤ v1) → wpX_rulePre (fun r u' => wpY_rulePre (fun r' v' => r' = r ∧ i_Rel (k + 4) u' v') (f_maxNodes', f_maxRules', f_phase', f_nCount', f_outCnt', f_apps', f_ruleCount', f_cex', f_curLive', f_orderN', a_alive', a_nKind', a_nVal', a_nA', a_nB', a_lv', a_nd', a_nv', a_outs', a_tKind', a_tVal', a_tA', a_tB', a_tN', a_preRel', a_preJ', a_preK', a_ruleUse', a_pend', a_pendN', a_tv', a_cv', a_mx', a_par', a_mp', a_res', a_bnd', a_order', a_stk', a_stSt') v1 v2 v3) (f_maxNodes, f_maxRules, f_ruleCount, f_counterexample, f_optimized, f_nodeCount, f_outputCount, f_applications, a_preRelation, a_preVariable, a_preConstant, a_roomNeeded, a_useCount, a_treeSize, a_treeKind, a_treeValue, a_treeA, a_treeB, a_treeResult, a_constantValued, a_maximal, a_counterpart, a_boundNode, a_pending, a_pendingCount, a_nodeKind, a_nodeValue, a_nodeA, a_nodeB, a_nodeResult, a_nodeUses, a_outputNode, a_seen, a_order, a_walkStack) v1 v2 v3 := by
    intro hp
    by_cases h0 : v1 < 0
    · exact br_t h0 (br_t h0 ⟨rfl, hI⟩)
    · have h5 : ¬ v1 ≤ 4 := by
        rcases hp with hp | hp
        · exact absurd hp h0
        · intro h
          exact absurd (Int32.le_trans hp h) (by decide)
      exact br_f h0 (br_f h5 (br_f h0 (br_f h5 ⟨rfl, hI⟩)))
  rcases pk_ix v1 (n := 5) (by omega) with hp | hp | ⟨ρ, hρ, rfl⟩
  · exact hno (Or.inl hp)
  · exact hno (Or.inr hp)
  · have h0 : ¬ nI ρ < 0 := nI_pos (by omega)
    have h4 : nI ρ ≤ 4 := nI_le (b := 4) (by omega) (by decide)
    have hY : ∀ (u' : SX) (j c : Nat) (x2 x3 : Int32), (ρ ≠ 0 → x2 = nI j ∧ x3 = nI c ∧ j < 2 ∧ c < 256) → rx mN mR rc ph nc oc cx ap P R rl rj rK uc D ps dc ρ j c K V A B O u' → wY_rulePre_37 (fun r' v' => r' = 1 ∧ i_Rel (k + 4) u' v') (nI ρ) x2 x3 f_maxNodes' f_maxRules' f_phase' f_nCount' f_outCnt' f_apps' f_ruleCount' f_cex' f_curLive' f_orderN' a_alive' a_nKind' a_nVal' a_nA' a_nB' a_lv' a_nd' a_nv' a_outs' a_tKind' a_tVal' a_tA' a_tB' a_tN' a_preRel' a_preJ' a_preK' a_ruleUse' a_pend' a_pendN' a_tv' a_cv' a_mx' a_par' a_mp' a_res' a_bnd' a_order' a_stk' a_stSt' := by
      intro u' j c x2 x3 hj hx'
      obtain ⟨d1, d2, d3, d4, d5, d6, d7, d8, g9, g10, g11, g12⟩ := hy
      subst d1 d2 d3 d4 d5 d6 d7 d8
      have hrc : rc ≤ 16 := by
        have := hok.2.2.2.1
        have := hok.2.2.2.2.1
        omega
      have fin : ∀ pj pk : Nat → Int32, (∀ r, r < 16 → pj r = a_preJ' r ∧ pk r = a_preK' r) → (ρ ≠ 0 → pj 16 = nI j ∧ pk 16 = nI c) → i_Rel (k + 4) u' (nI mN, nI mR, nI ph, nI nc, nI oc, f_apps', nI rc, f_cex', f_curLive', f_orderN', a_alive', a_nKind', a_nVal', a_nA', a_nB', a_lv', a_nd', a_nv', a_outs', a_tKind', a_tVal', a_tA', a_tB', a_tN', upd a_preRel' 16 (nI ρ), pj, pk, a_ruleUse', a_pend', a_pendN', a_tv', a_cv', a_mx', a_par', a_mp', a_res', a_bnd', a_order', a_stk', a_stSt') := by
        intro pj pk hpj hp16
        refine ⟨_, _, _, _, _, _, _, _, _, _, _, _, _, _, _, _, _, _, _, _, _, _, _, _, _, sp_pre hok (by omega) (fun h => (hj h).2.2), hx', ?_⟩
        exact ⟨rfl, rfl, rfl, rfl, rfl, rfl, rfl, rfl, fun r hr => ⟨(g9 r hr).1, (g9 r hr).2.1, pe_cong (g9 r hr).2.2.1 (pk_un (by omega)) (hpj r (by omega)).1 (hpj r (by omega)).2, (g9 r hr).2.2.2⟩, g10, ⟨pk_us, hp16⟩, g12⟩
      refine nm_e (pk_eq ρ 0 (fun e => ⟨pk_in 16 17 (by omega), nm_e (pk_eq ρ 0 (fun _ => nm_e ⟨rfl, fin _ _ ?_ ?_⟩) (fun h => absurd e h))⟩) (fun e => ⟨pk_in 16 17 (by omega), nm_e (pk_eq ρ 0 (fun h => absurd h e) (fun _ => nm_e ⟨rfl, fin _ _ ?_ ?_⟩))⟩))
      · intro r hr
        exact ⟨pk_un (fun h => by rw [h] at hr; exact absurd hr (by decide)), pk_un (by omega)⟩
      · intro h
        exact absurd e h
      · intro r hr
        exact ⟨pk_un (fun h => by rw [h] at hr; exact absurd hr (by decide)), pk_un (by omega)⟩
      · intro h
        exact ⟨by rw [show (16 : Nat) = (16 : Int32).toNatClampNeg from rfl, pk_us]; exact (hj h).1, by rw [pk_us]; exact (hj h).2.1⟩
    refine br_f h0 (br_t h4 (pk_eq ρ 0 (fun e => ?_) (fun ne => ?_)))
    · exact x_pre31 (ρ := ρ) (j := 0) (c := 0) hok hx (fun h => absurd e h) (fun u' hx' => br_f h0 (br_t h4 (pk_eq ρ 0 (fun _ => hY u' 0 0 v2 v3 (fun h => absurd e h) hx') (fun h => absurd e h))))
    · rcases pk_ix v2 (n := 2) (by omega) with hq | hq | ⟨j, hj, rfl⟩
      · exact x_isVariable_f (Or.inl hq) (br_t rfl (br_f h0 (br_t h4 (pk_eq ρ 0 (fun h => absurd h ne) (fun _ => br_t hq ⟨rfl, hI⟩)))))
      · have q0 : ¬ v2 < 0 := fun h => absurd (Int32.lt_of_le_of_lt hq h) (by decide)
        exact x_isVariable_f (Or.inr hq) (br_t rfl (br_f h0 (br_t h4 (pk_eq ρ 0 (fun h => absurd h ne) (fun _ => br_f q0 (br_t (Int32.lt_of_lt_of_le (b := nI 2) (by decide) hq) ⟨rfl, hI⟩))))))
      · have q0 : ¬ nI j < 0 := nI_pos (by omega)
        have q1 : ¬ (1 : Int32) < nI j := nI_nlt (a := 1) (by omega) (by omega)
        refine x_isVariable_t hj (br_f (by decide) ?_)
        rcases pk_ix v3 (n := 256) (by omega) with hc | hc | ⟨c, hc, rfl⟩
        · exact x_isWord_f (Or.inl hc) (br_t rfl (br_f h0 (br_t h4 (pk_eq ρ 0 (fun h => absurd h ne) (fun _ => br_f q0 (br_f q1 (br_t hc ⟨rfl, hI⟩)))))))
        · have c0 : ¬ v3 < 0 := fun h => absurd (Int32.lt_of_le_of_lt hc h) (by decide)
          have c5 : ¬ v3 ≤ 255 := fun h => absurd (Int32.le_trans hc h) (by decide)
          exact x_isWord_f (Or.inr hc) (br_t rfl (br_f h0 (br_t h4 (pk_eq ρ 0 (fun h => absurd h ne) (fun _ => br_f q0 (br_f q1 (br_f c0 (br_f c5 ⟨rfl, hI⟩))))))))
        · have c0 : ¬ nI c < 0 := nI_pos (by omega)
          have c5 : nI c ≤ 255 := nI_le (b := 255) (by omega) (by decide)
          exact x_isWord_t hc (br_f (by decide) (x_pre31 (ρ := ρ) (j := j) (c := c) hok hx (fun _ => ⟨rfl, rfl⟩) (fun u' hx' => br_f h0 (br_t h4 (pk_eq ρ 0 (fun h => absurd h ne) (fun _ => br_f q0 (br_f q1 (br_f c0 (br_t c5 (hY u' j c _ _ (fun _ => ⟨rfl, rfl, hj, hc⟩) hx'))))))))))
theorem i_vc_ruleUses {k : Nat} {u : SX} {v : SY} (I : i_Rel k u v) (hk : k + 4 ≤ 2050) (v1 : Int32) : wpX_ruleUses (fun r => wpY_ruleUses (fun r' => r' = r ∧ i_Rel (k + 4) u v) v v1) u v1 := by
  obtain ⟨mN, mR, rc, ph, nc, oc, cx, ap, P, R, rl, rj, rK, uc, D, ps, dc, dl, dj, dk, K, V, A, B, O, hok, hx, hy⟩ := I
  have hI : i_Rel (k + 4) u v := ⟨mN, mR, rc, ph, nc, oc, cx, ap, P, R, rl, rj, rK, uc, D, ps, dc, dl, dj, dk, K, V, A, B, O, hok, hx, hy⟩
  obtain ⟨f_maxNodes, f_maxRules, f_ruleCount, f_counterexample, f_optimized, f_nodeCount, f_outputCount, f_applications, a_preRelation, a_preVariable, a_preConstant, a_roomNeeded, a_useCount, a_treeSize, a_treeKind, a_treeValue, a_treeA, a_treeB, a_treeResult, a_constantValued, a_maximal, a_counterpart, a_boundNode, a_pending, a_pendingCount, a_nodeKind, a_nodeValue, a_nodeA, a_nodeB, a_nodeResult, a_nodeUses, a_outputNode, a_seen, a_order, a_walkStack⟩ := u
  obtain ⟨f_maxNodes', f_maxRules', f_phase', f_nCount', f_outCnt', f_apps', f_ruleCount', f_cex', f_curLive', f_orderN', a_alive', a_nKind', a_nVal', a_nA', a_nB', a_lv', a_nd', a_nv', a_outs', a_tKind', a_tVal', a_tA', a_tB', a_tN', a_preRel', a_preJ', a_preK', a_ruleUse', a_pend', a_pendN', a_tv', a_cv', a_mx', a_par', a_mp', a_res', a_bnd', a_order', a_stk', a_stSt'⟩ := v
  obtain ⟨e1, e2, e3, e4, e5, e6, e7, e8, h9, h10, h11, h12⟩ := hx
  obtain ⟨d1, d2, d3, d4, d5, d6, d7, d8, g9, g10, g11, g12⟩ := hy
  subst e3 d7
  have hrc : rc ≤ 16 := by
    have := hok.2.2.2.1
    have := hok.2.2.2.2.1
    omega
  by_cases h0 : v1 < 0
  · exact br_t h0 (br_t h0 ⟨rfl, hI⟩)
  · obtain ⟨r, hr, rfl⟩ := nI_of h0
    refine br_f h0 (pk_lt r rc (fun hl => ⟨pk_in r 17 (by omega), ?_⟩) (fun hl => br_f h0 (pk_lt r rc (fun h => absurd h (by omega)) (fun _ => ⟨rfl, hI⟩))))
    refine br_f h0 (pk_lt r rc (fun _ => ⟨pk_in r 16 (by omega), ?_, hI⟩) (fun h => absurd h (by omega)))
    rw [nI_clamp (by omega), (h9 r hl).2.2, (g9 r hl).2.2.2]
theorem i_vc_addOutput {k : Nat} {u : SX} {v : SY} (I : i_Rel k u v) (hk : k + 4 ≤ 2050) (v1 : Int32) : wpX_addOutput (fun r u' => wpY_addOutput (fun r' v' => r' = r ∧ i_Rel (k + 4) u' v') v v1) u v1 := by
  obtain ⟨mN, mR, rc, ph, nc, oc, cx, ap, P, R, rl, rj, rK, uc, D, ps, dc, dl, dj, dk, K, V, A, B, O, hok, hx, hy⟩ := I
  have hI : i_Rel (k + 4) u v := ⟨mN, mR, rc, ph, nc, oc, cx, ap, P, R, rl, rj, rK, uc, D, ps, dc, dl, dj, dk, K, V, A, B, O, hok, hx, hy⟩
  obtain ⟨f_maxNodes, f_maxRules, f_ruleCount, f_counterexample, f_optimized, f_nodeCount, f_outputCount, f_applications, a_preRelation, a_preVariable, a_preConstant, a_roomNeeded, a_useCount, a_treeSize, a_treeKind, a_treeValue, a_treeA, a_treeB, a_treeResult, a_constantValued, a_maximal, a_counterpart, a_boundNode, a_pending, a_pendingCount, a_nodeKind, a_nodeValue, a_nodeA, a_nodeB, a_nodeResult, a_nodeUses, a_outputNode, a_seen, a_order, a_walkStack⟩ := u
  obtain ⟨f_maxNodes', f_maxRules', f_phase', f_nCount', f_outCnt', f_apps', f_ruleCount', f_cex', f_curLive', f_orderN', a_alive', a_nKind', a_nVal', a_nA', a_nB', a_lv', a_nd', a_nv', a_outs', a_tKind', a_tVal', a_tA', a_tB', a_tN', a_preRel', a_preJ', a_preK', a_ruleUse', a_pend', a_pendN', a_tv', a_cv', a_mx', a_par', a_mp', a_res', a_bnd', a_order', a_stk', a_stSt'⟩ := v
  obtain ⟨e1, e2, e3, e4, e5, e6, e7, e8, h9, h10, h11, h12⟩ := hx
  obtain ⟨d1, d2, d3, d4, d5, d6, d7, d8, g9, g10, g11, g12⟩ := hy
  subst e1 e2 e3 e4 e5 e6 e7 e8 d1 d2 d3 d4 d5 d6 d7 d8
  obtain ⟨o1, o2, o3, o4, o5, o6, o7, o8, o9, rk, rk2, q1, q2, q3, q4⟩ := hok
  unfold wpX_addOutput wpY_addOutput
  refine pk_eq ph 0 (fun hp => ?_) (fun hp => pk_eq ph 0 (fun h => absurd h hp) (fun _ => ⟨rfl, hI⟩))
  subst hp
  obtain ⟨q5, q6, q7⟩ := q3 rfl
  refine pk_eq oc 4 (fun ho => br_t rfl (pk_le 4 oc (fun _ => ⟨rfl, hI⟩) (fun h => absurd h (by omega)))) (fun ho => ?_)
  rcases pk_ix v1 (n := nc) (by omega) with hp | hp | ⟨n, hn, rfl⟩
  · exact x_isAdded_f (nc := nc) (Or.inl hp) (br_t rfl (br_t rfl (pk_le 4 oc (fun h => absurd h (by omega)) (fun _ => br_t hp ⟨rfl, hI⟩))))
  · have h0 : ¬ v1 < 0 := fun h => nI_pos (n := nc) (by omega) (Int32.lt_of_le_of_lt hp h)
    exact x_isAdded_f (nc := nc) (Or.inr hp) (br_t rfl (br_t rfl (pk_le 4 oc (fun h => absurd h (by omega)) (fun _ => br_f h0 (br_f (Int32.not_lt.mpr hp) ⟨rfl, hI⟩)))))
  · refine x_isAdded_t (nc := nc) hn (by omega) (br_f (by decide) ⟨pk_in oc 8 (by omega), ?_⟩)
    rw [nI_clamp (by omega)]
    refine nm_e (nm_r (nI_1 _) ?_)
    refine br_t rfl (pk_le 4 oc (fun h => absurd h (by omega)) (fun _ => br_f (nI_pos (by omega)) (pk_lt n nc (fun _ => ⟨pk_in oc 8 (by omega), ?_⟩) (fun h => absurd h (by omega)))))
    rw [nI_clamp (by omega)]
    refine nm_e (nm_r (nI_1 _) ⟨rfl, ?_⟩)
    have hTn : pr_T 0 K n := by
      refine ⟨by omega, by omega, fun h => ?_⟩
      have := (q7 n (by omega)).mp h
      omega
    have hout : ∀ f : Nat → Int32, (∀ k, k < oc → f k = nI (O k)) → ∀ k, k < oc + 1 → upd f oc (nI n) k = nI (pr_st O oc n k) := by
      intro f hf k hk
      by_cases e : k = oc
      · rw [e, pk_us, pr_st_s]
      · rw [pk_un e, pr_st_n e]
        exact hf k (by omega)
    refine ⟨mN, mR, rc, 0, nc, oc + 1, _, _, P, R, rl, rj, rK, uc, D, ps, dc, dl, dj, dk, K, V, A, B, pr_st O oc n, ⟨o1, o2, o3, o4, o5, o6, by omega, o8, o9, rk, rk2, q1, fun k hk => ?_, fun _ => ⟨q5, q6, q7⟩, fun h => absurd h (by omega)⟩, ⟨rfl, rfl, rfl, rfl, rfl, rfl, rfl, rfl, h9, h10, h11, h12.1, hout _ h12.2.1, fun h => absurd h (by omega)⟩, ⟨rfl, rfl, rfl, rfl, rfl, rfl, rfl, rfl, g9, g10, g11, ⟨g12.1.1, hout _ g12.1.2.1, fun h => absurd h (by omega)⟩, g12.2⟩⟩
    by_cases e : k = oc
    · rw [e, pr_st_s]
      exact hTn
    · rw [pr_st_n e]
      exact q2 k (by omega)
end
section
/-! addNode, clearDag, nodeAt -/
theorem i_vc_addNode {k : Nat} {u : SX} {v : SY} (I : i_Rel k u v) (hk : k + 4 ≤ 2050) (v1 : Int32) (v2 : Int32) (v3 : Int32) : wpX_addNode (fun r u' => wpY_addNode (fun r' v' => r' = r ∧ i_Rel (k + 4) u' v') v v1 v2 v3) u v1 v2 v3 := by
  obtain ⟨mN, mR, rc, ph, nc, oc, cx, ap, P, R, rl, rj, rK, uc, D, ps, dc, dl, dj, dk, K, V, A, B, O, hok, hx, hy⟩ := I
  have hI : i_Rel (k + 4) u v := ⟨mN, mR, rc, ph, nc, oc, cx, ap, P, R, rl, rj, rK, uc, D, ps, dc, dl, dj, dk, K, V, A, B, O, hok, hx, hy⟩
  obtain ⟨f_maxNodes, f_maxRules, f_ruleCount, f_counterexample, f_optimized, f_nodeCount, f_outputCount, f_applications, a_preRelation, a_preVariable, a_preConstant, a_roomNeeded, a_useCount, a_treeSize, a_treeKind, a_treeValue, a_treeA, a_treeB, a_treeResult, a_constantValued, a_maximal, a_counterpart, a_boundNode, a_pending, a_pendingCount, a_nodeKind, a_nodeValue, a_nodeA, a_nodeB, a_nodeResult, a_nodeUses, a_outputNode, a_seen, a_order, a_walkStack⟩ := u
  obtain ⟨f_maxNodes', f_maxRules', f_phase', f_nCount', f_outCnt', f_apps', f_ruleCount', f_cex', f_curLive', f_orderN', a_alive', a_nKind', a_nVal', a_nA', a_nB', a_lv', a_nd', a_nv', a_outs', a_tKind', a_tVal', a_tA', a_tB', a_tN', a_preRel', a_preJ', a_preK', a_ruleUse', a_pend', a_pendN', a_tv', a_cv', a_mx', a_par', a_mp', a_res', a_bnd', a_order', a_stk', a_stSt'⟩ := v
  obtain ⟨e1, e2, e3, e4, e5, e6, e7, e8, h9, h10, h11, h12⟩ := hx
  obtain ⟨d1, d2, d3, d4, d5, d6, d7, d8, g9, g10, g11, g12⟩ := hy
  subst e1 e2 e3 e4 e5 e6 e7 e8 d1 d2 d3 d4 d5 d6 d7 d8
  have hmN := hok.2.1
  have hph := hok.2.2.2.2.2.1
  have hncs : ph = 0 → nc ≤ mN := fun h => by
    obtain ⟨_, _, _, _, q3, _⟩ := hok.2.2.2.2.2.2.2.2.2
    exact (q3 h).2.1
  unfold wpX_addNode wpY_addNode
  refine pk_eq ph 0 (fun hp => ?_) (fun hp => pk_eq ph 0 (fun h => absurd h hp) (fun _ => ⟨rfl, hI⟩))
  subst hp
  have hnc := hncs rfl
  refine pk_eq nc mN (fun hm => br_t rfl (pk_le mN nc (fun _ => ⟨rfl, hI⟩) (fun h => absurd h (by omega)))) (fun hm => ?_)
  have hno1 : ∀ {A B C : Prop}, B → (nI 0 = 0 → (nI mN ≤ nI nc → A) ∧ (¬ nI mN ≤ nI nc → B)) ∧ (¬ nI 0 = 0 → C) := fun b => br_t rfl (pk_le mN nc (fun h => absurd h (by omega)) (fun _ => b))
  rcases pk_ix v1 (n := 13) (by omega) with hp | hp | ⟨κ, hκ, rfl⟩
  · have h1 : v1 < 1 := Int32.lt_trans hp (by decide)
    exact br_t h1 (hno1 (br_t h1 ⟨rfl, hI⟩))
  · have h1 : ¬ v1 < 1 := fun h => absurd (Int32.lt_of_le_of_lt hp h) (by decide)
    have h12 : ¬ v1 ≤ 12 := fun h => absurd (Int32.le_trans hp h) (by decide)
    exact br_f h1 (br_f h12 (hno1 (br_f h1 (br_f h12 ⟨rfl, hI⟩))))
  · refine pk_lt κ 1 (fun h1 => hno1 (br_t (nI_lt (b := 1) h1 (by decide)) ⟨rfl, hI⟩)) (fun h1 => br_t (nI_le (b := 12) (by omega) (by decide)) ?_)
    have hY1 : ∀ {A B C : Prop}, A → (nI κ < 1 → B) ∧ (¬ nI κ < 1 → (nI κ ≤ 12 → A) ∧ (¬ nI κ ≤ 12 → C)) := fun a => br_f (nI_nlt (b := 1) h1 (by omega)) (br_t (nI_le (b := 12) (by omega) (by decide)) a)
    -- both sides set the node
    have hlt : nc < mN := by omega
    have hk12 : κ ≤ 12 := by omega
    have fin : ∀ (x : Int32) (a b : Option Nat), pr_by x → (κ = 12 → ∃ i, i < 4 ∧ x = nI i) → (κ ≤ 10 → x = 0) → (11 ≤ κ → a = none) → (9 ≤ κ → b = none) → (κ ≤ 10 → ∃ c, a = some c) → (κ ≤ 8 → ∃ c, b = some c) → (∀ c, a = some c ∨ b = some c → c < nc) →
        wY_addNode_121 (fun r' v' => r' = nI nc ∧ i_Rel (k + 4) ((nI mN), (nI mR), (nI rc), f_cex', (nI 0), (nI (nc + 1)), (nI oc), f_apps', a_preRelation, a_preVariable, a_preConstant, a_roomNeeded, a_useCount, a_treeSize, a_treeKind, a_treeValue, a_treeA, a_treeB, a_treeResult, a_constantValued, a_maximal, a_counterpart, a_boundNode, a_pending, a_pendingCount, (upd a_nodeKind nc (nI κ)), (upd a_nodeValue nc x), (upd a_nodeA nc (pr_oI a)), (upd a_nodeB nc (pr_oI b)), a_nodeResult, a_nodeUses, a_outputNode, a_seen, a_order, a_walkStack) v') (nI κ) (pr_oI a) (pr_oI b) x (nI mN) (nI mR) (nI 0) (nI nc) (nI oc) f_apps' (nI rc) f_cex' f_curLive' f_orderN' a_alive' a_nKind' a_nVal' a_nA' a_nB' a_lv' a_nd' a_nv' a_outs' a_tKind' a_tVal' a_tA' a_tB' a_tN' a_preRel' a_preJ' a_preK' a_ruleUse' a_pend' a_pendN' a_tv' a_cv' a_mx' a_par' a_mp' a_res' a_bnd' a_order' a_stk' a_stSt' := by
      intro x a b hv hv12 hv0 ha hb ha' hb' hc
      have hin : vp_in (nI nc) 64 := pk_in nc 64 (by omega)
      refine ⟨hin, ?_⟩
      rw [nI_clamp (by omega), pr_vb1]
      refine nm_e ⟨hin, nm_e ⟨hin, nm_e ⟨hin, nm_e ⟨hin, nm_e (nm_r (nI_1 _) ⟨rfl, ?_⟩)⟩⟩⟩⟩
      refine ⟨_, _, _, _, _, _, _, _, _, _, _, _, _, _, _, _, _, _, _, _, _, _, _, _, _, sp_node hok rfl hlt h1 hk12 hv hv12 hv0 ha hb ha' hb' hc, ⟨rfl, rfl, rfl, rfl, rfl, rfl, rfl, rfl, h9, h10, h11, gr_node h12⟩, ⟨rfl, rfl, rfl, rfl, rfl, rfl, rfl, rfl, g9, g10, g11, gr_node g12.1, fun n h0 hn => ?_, fun h => absurd h (by omega)⟩⟩
      by_cases e : n = nc
      · rw [e, pk_us, pr_st_s, if_neg (by omega)]
      · rw [pk_un e, pr_st_n e]
        exact g12.2.1 n h0 hn
    have hcl : nI nc + 1 = nI (nc + 1) := nI_1 nc
    have har := pr_ar_c κ
    refine pk_eq κ 12 (fun e12 => ?_) (fun n12 => ?_)
    · subst e12
      by_cases q0 : v2 < 0
      · exact br_t q0 (hno1 (hY1 (br_f (by decide) (br_t rfl (br_t q0 ⟨rfl, hI⟩)))))
      · obtain ⟨a, ha, rfl⟩ := nI_of q0
        refine br_f q0 (pk_lt a 4 (fun h4 => ?_) (fun h4 => hno1 (hY1 (br_f (by decide) (br_t rfl (br_f q0 (pk_le a 3 (fun h => absurd h (by omega)) (fun _ => ⟨rfl, hI⟩))))))))
        refine x_arity (κ := 12) (by decide) (br_t (by decide) (br_f (by decide) ?_))
        refine nm_r hcl (br_t rfl (x_setNode (by omega) ?_))
        refine hno1 (hY1 (br_f (by decide) (br_t rfl (br_f q0 (pk_le a 3 (fun _ => ?_) (fun h => absurd h (by omega)))))))
        have eb : nI a &&& 255 = nI a := pr_by_id ⟨a, by omega, rfl⟩
        rw [eb]
        exact fin (nI a) none none ⟨a, by omega, rfl⟩ (fun _ => ⟨a, h4, rfl⟩) (fun h => absurd h (by omega)) (fun _ => rfl) (fun _ => rfl) (fun h => absurd h (by omega)) (fun h => absurd h (by omega)) (fun c hc => by rcases hc with y | y <;> cases y)
    · by_cases e11 : κ = 11
      · subst e11
        refine x_arity (κ := 11) (by decide) (br_t (by decide) (br_f (by decide) ?_))
        refine nm_r hcl (br_t rfl (x_setNode (by omega) ?_))
        refine hno1 (hY1 (br_t rfl (nm_e ?_)))
        exact fin (v2 &&& 255) none none (pr_by_and _) (fun h => absurd h (by omega)) (fun h => absurd h (by omega)) (fun _ => rfl) (fun _ => rfl) (fun h => absurd h (by omega)) (fun h => absurd h (by omega)) (fun c hc => by rcases hc with y | y <;> cases y)
      · have hk10 : κ ≤ 10 := by omega
        have hY2 : ∀ {A B C : Prop}, C → (nI κ = 11 → A) ∧ (¬ nI κ = 11 → (nI κ = 12 → B) ∧ (¬ nI κ = 12 → C)) := fun c => pk_eq κ 11 (fun h => absurd h e11) (fun _ => pk_eq κ 12 (fun h => absurd h n12) (fun _ => c))
        refine x_arity (by omega) (pk_lt (pr_ar κ) 1 (fun h => absurd h (by omega)) (fun _ => ?_))
        rcases pk_ix v2 (n := nc) (by omega) with hq | hq | ⟨a, ha, rfl⟩
        · exact x_isAdded_f (nc := nc) (Or.inl hq) (br_t rfl (hno1 (hY1 (hY2 (br_t hq ⟨rfl, hI⟩)))))
        · have q0 : ¬ v2 < 0 := fun h => nI_pos (n := nc) (by omega) (Int32.lt_of_le_of_lt hq h)
          exact x_isAdded_f (nc := nc) (Or.inr hq) (br_t rfl (hno1 (hY1 (hY2 (br_f q0 (br_f (Int32.not_lt.mpr hq) ⟨rfl, hI⟩))))))
        · have a0 : ¬ nI a < 0 := nI_pos (by omega)
          have aL : nI a < nI nc := nI_lt ha (by omega)
          refine x_isAdded_t (nc := nc) ha (by omega) (br_f (by decide) ?_)
          by_cases hb : κ ≤ 8
          · have ha2 := pr_ar_2 h1 hb
            rw [ha2]
            refine br_t rfl ?_
            rcases pk_ix v3 (n := nc) (by omega) with hq | hq | ⟨b, hb', rfl⟩
            · exact x_isAdded_f (nc := nc) (Or.inl hq) (br_t rfl (hno1 (hY1 (hY2 (br_f a0 (br_t aL (y_isBin_t h1 hb (br_f (by decide) (br_t hq ⟨rfl, hI⟩)))))))))
            · have q0 : ¬ v3 < 0 := fun h => nI_pos (n := nc) (by omega) (Int32.lt_of_le_of_lt hq h)
              exact x_isAdded_f (nc := nc) (Or.inr hq) (br_t rfl (hno1 (hY1 (hY2 (br_f a0 (br_t aL (y_isBin_t h1 hb (br_f (by decide) (br_f q0 (br_f (Int32.not_lt.mpr hq) ⟨rfl, hI⟩))))))))))
            · refine x_isAdded_t (nc := nc) hb' (by omega) (br_f (by decide) ?_)
              refine nm_r hcl (br_f (by decide) (br_t rfl (x_setNode (by omega) ?_)))
              refine hno1 (hY1 (hY2 (br_f a0 (br_t aL (y_isBin_t h1 hb (br_f (by decide) (br_f (nI_pos (by omega)) (br_t (nI_lt hb' (by omega)) ?_))))))))
              exact fin 0 (some a) (some b) pr_by_0 (fun h => absurd h n12) (fun _ => rfl) (fun h => absurd h (by omega)) (fun h => absurd h (by omega)) (fun _ => ⟨a, rfl⟩) (fun _ => ⟨b, rfl⟩) (fun c hc => by
                rcases hc with y | y
                · cases y
                  exact ha
                · cases y
                  exact hb')
          · have ha1 := pr_ar_1 (κ := κ) (by omega)
            rw [ha1]
            refine br_f (by decide) ?_
            refine nm_r hcl (br_f (by decide) (br_f (by decide) (x_setNode (by omega) ?_)))
            refine hno1 (hY1 (hY2 (br_f a0 (br_t aL (y_isBin_f (by omega) (by omega) (br_t rfl ?_))))))
            exact fin 0 (some a) none pr_by_0 (fun h => absurd h n12) (fun _ => rfl) (fun h => absurd h (by omega)) (fun _ => rfl) (fun _ => ⟨a, rfl⟩) (fun h => absurd h hb) (fun c hc => by
              rcases hc with y | y
              · cases y
                exact ha
              · cases y)
theorem i_vc_clearDag {k : Nat} {u : SX} {v : SY} (I : i_Rel k u v) (hk : k + 4 ≤ 2050) : wpX_clearDag (fun u' => wpY_clearDag (fun v' => i_Rel (k + 4) u' v') v) u := by
  obtain ⟨mN, mR, rc, ph, nc, oc, cx, ap, P, R, rl, rj, rK, uc, D, ps, dc, dl, dj, dk, K, V, A, B, O, hok, hx, hy⟩ := I
  obtain ⟨f_maxNodes, f_maxRules, f_ruleCount, f_counterexample, f_optimized, f_nodeCount, f_outputCount, f_applications, a_preRelation, a_preVariable, a_preConstant, a_roomNeeded, a_useCount, a_treeSize, a_treeKind, a_treeValue, a_treeA, a_treeB, a_treeResult, a_constantValued, a_maximal, a_counterpart, a_boundNode, a_pending, a_pendingCount, a_nodeKind, a_nodeValue, a_nodeA, a_nodeB, a_nodeResult, a_nodeUses, a_outputNode, a_seen, a_order, a_walkStack⟩ := u
  obtain ⟨f_maxNodes', f_maxRules', f_phase', f_nCount', f_outCnt', f_apps', f_ruleCount', f_cex', f_curLive', f_orderN', a_alive', a_nKind', a_nVal', a_nA', a_nB', a_lv', a_nd', a_nv', a_outs', a_tKind', a_tVal', a_tA', a_tB', a_tN', a_preRel', a_preJ', a_preK', a_ruleUse', a_pend', a_pendN', a_tv', a_cv', a_mx', a_par', a_mp', a_res', a_bnd', a_order', a_stk', a_stSt'⟩ := v
  obtain ⟨e1, e2, e3, e4, e5, e6, e7, e8, h9, h10, h11, h12⟩ := hx
  obtain ⟨d1, d2, d3, d4, d5, d6, d7, d8, g9, g10, g11, g12⟩ := hy
  subst e1 e2 e3 e4 e5 e6 e7 e8 d1 d2 d3 d4 d5 d6 d7 d8
  obtain ⟨o1, o2, o3, o4, o5, o6, o7, o8, o9, o10⟩ := hok
  have hnT : ∀ lo n, ¬ pr_T lo (fun _ => 0) n := fun lo n h => h.2.2 rfl
  have lx : ∀ (post : SX → Prop) (d i : Nat) (us : Nat → Int32), (∀ us', (∀ r, r < 17 → us' r = 0) → post ((nI mN), (nI mR), (nI rc), f_cex', 0, 0, 0, 0, a_preRelation, a_preVariable, a_preConstant, a_roomNeeded, us', a_treeSize, a_treeKind, a_treeValue, a_treeA, a_treeB, a_treeResult, a_constantValued, a_maximal, a_counterpart, a_boundNode, a_pending, a_pendingCount, a_nodeKind, a_nodeValue, a_nodeA, a_nodeB, a_nodeResult, a_nodeUses, a_outputNode, a_seen, a_order, a_walkStack)) → i + d = 17 → (∀ r, r < i → us r = 0) → wX_clearDag_22 post (nI mN) (nI mR) (nI rc) f_cex' 0 0 0 0 (d + 1) (nI i) a_preRelation a_preVariable a_preConstant a_roomNeeded us a_treeSize a_treeKind a_treeValue a_treeA a_treeB a_treeResult a_constantValued a_maximal a_counterpart a_boundNode a_pending a_pendingCount a_nodeKind a_nodeValue a_nodeA a_nodeB a_nodeResult a_nodeUses a_outputNode a_seen a_order a_walkStack := by
    intro post d
    induction d with
    | zero =>
      intro i us h hi hu
      exact pk_le 17 i (fun _ => h us fun r hr => hu r (by omega)) (fun h => absurd h (by omega))
    | succ d ih =>
      intro i us h hi hu
      refine pk_le 17 i (fun h => absurd h (by omega)) (fun _ => ⟨pk_in i 17 (by omega), ?_⟩)
      rw [nI_clamp (by omega)]
      refine nm_e (nm_r (nI_1 _) (ih (i + 1) _ h (by omega) fun r hr => ?_))
      by_cases e : r = i
      · rw [e, pk_us]
      · rw [pk_un e]
        exact hu r (by omega)
  have ly : ∀ (post : SY → Prop) (al : Nat → Int32) (d i : Nat) (us : Nat → Int32), (∀ us', (∀ r, r < 16 → us' r = 0) → post ((nI mN), (nI mR), 0, 0, 0, 0, (nI rc), f_cex', f_curLive', f_orderN', al, a_nKind', a_nVal', a_nA', a_nB', a_lv', a_nd', a_nv', a_outs', a_tKind', a_tVal', a_tA', a_tB', a_tN', a_preRel', a_preJ', a_preK', us', a_pend', a_pendN', a_tv', a_cv', a_mx', a_par', a_mp', a_res', a_bnd', a_order', a_stk', a_stSt')) → i + d = 16 → (∀ r, r < i → us r = 0) → wY_clearDag_23 post (nI mN) (nI mR) (nI ph) (nI nc) (nI oc) f_apps' (nI rc) f_cex' f_curLive' f_orderN' (d + 1) (nI i) al a_nKind' a_nVal' a_nA' a_nB' a_lv' a_nd' a_nv' a_outs' a_tKind' a_tVal' a_tA' a_tB' a_tN' a_preRel' a_preJ' a_preK' us a_pend' a_pendN' a_tv' a_cv' a_mx' a_par' a_mp' a_res' a_bnd' a_order' a_stk' a_stSt' := by
    intro post al d
    induction d with
    | zero =>
      intro i us h hi hu
      exact pk_le 16 i (fun _ => h us fun r hr => hu r (by omega)) (fun h => absurd h (by omega))
    | succ d ih =>
      intro i us h hi hu
      refine pk_le 16 i (fun h => absurd h (by omega)) (fun _ => ⟨pk_in i 16 (by omega), ?_⟩)
      rw [nI_clamp (by omega)]
      refine nm_e (nm_r (nI_1 _) (ih (i + 1) _ h (by omega) fun r hr => ?_))
      by_cases e : r = i
      · rw [e, pk_us]
      · rw [pk_un e]
        exact hu r (by omega)
  have ly2 : ∀ (post : SY → Prop) (d i : Nat) (al : Nat → Int32), (∀ al' us', (∀ r, r < 64 → al' r = 0) → (∀ r, r < 16 → us' r = 0) → post ((nI mN), (nI mR), 0, 0, 0, 0, (nI rc), f_cex', f_curLive', f_orderN', al', a_nKind', a_nVal', a_nA', a_nB', a_lv', a_nd', a_nv', a_outs', a_tKind', a_tVal', a_tA', a_tB', a_tN', a_preRel', a_preJ', a_preK', us', a_pend', a_pendN', a_tv', a_cv', a_mx', a_par', a_mp', a_res', a_bnd', a_order', a_stk', a_stSt')) → i + d = 64 → (∀ r, r < i → al r = 0) → wY_clearDag_2 post (nI mN) (nI mR) (nI ph) (nI nc) (nI oc) f_apps' (nI rc) f_cex' f_curLive' f_orderN' (d + 1) (nI i) al a_nKind' a_nVal' a_nA' a_nB' a_lv' a_nd' a_nv' a_outs' a_tKind' a_tVal' a_tA' a_tB' a_tN' a_preRel' a_preJ' a_preK' a_ruleUse' a_pend' a_pendN' a_tv' a_cv' a_mx' a_par' a_mp' a_res' a_bnd' a_order' a_stk' a_stSt' := by
    intro post d
    induction d with
    | zero =>
      intro i al h hi hu
      exact pk_le 64 i (fun _ => ⟨17, ly post al 16 0 _ (fun us' hu' => h al us' (fun r hr => hu r (by omega)) hu') (by omega) (fun r hr => absurd hr (by omega))⟩) (fun h => absurd h (by omega))
    | succ d ih =>
      intro i al h hi hu
      refine pk_le 64 i (fun h => absurd h (by omega)) (fun _ => ⟨pk_in i 64 (by omega), ?_⟩)
      rw [nI_clamp (by omega), pr_vb0]
      refine nm_e (nm_r (nI_1 _) (ih (i + 1) _ h (by omega) fun r hr => ?_))
      by_cases e : r = i
      · rw [e, pk_us]
      · rw [pk_un e]
        exact hu r (by omega)
  refine ⟨18, lx _ 17 0 _ (fun us' hu' => ?_) (by omega) (fun r hr => absurd hr (by omega))⟩
  refine ⟨65, ly2 _ 64 0 _ (fun al' us'' hal hu'' => ?_) (by omega) (fun r hr => absurd hr (by omega))⟩
  refine ⟨mN, mR, rc, 0, 0, 0, _, 0, P, R, rl, rj, rK, fun _ => 0, D, ps, dc, dl, dj, dk, fun _ => 0, fun _ => 0, fun _ => none, fun _ => none, fun _ => 0, ⟨o1, o2, o3, o4, o5, by omega, by omega, o8, o9, fun n => n, fun n => n, fun n hn => absurd hn (hnT 0 n), fun k hk => absurd hk (by omega), fun _ => ⟨rfl, by omega, fun n _ => ⟨fun _ => Nat.zero_le n, fun _ => rfl⟩⟩, fun h => absurd h (by omega)⟩, ⟨rfl, rfl, rfl, rfl, rfl, rfl, rfl, rfl, fun r hr => ⟨(h9 r hr).1, (h9 r hr).2.1, hu' r (by omega)⟩, h10, h11, fun n hn => absurd hn (hnT 0 n), fun k hk => absurd hk (by omega), fun h => absurd h (by omega)⟩, ⟨rfl, rfl, rfl, rfl, rfl, rfl, rfl, rfl, fun r hr => ⟨(g9 r hr).1, (g9 r hr).2.1, (g9 r hr).2.2.1, hu'' r (by omega)⟩, g10, g11, ⟨fun n hn => absurd hn (hnT 0 n), fun k hk => absurd hk (by omega), fun h => absurd h (by omega)⟩, fun n _ hn => hal n (by omega), fun h => absurd h (by omega)⟩⟩
section VNat
variable {f_maxNodes f_maxRules f_ruleCount f_counterexample f_optimized f_nodeCount f_outputCount f_applications : Int32} {a_preRelation a_preVariable a_preConstant a_roomNeeded a_useCount a_treeSize a_treeKind a_treeValue a_treeA a_treeB a_treeResult a_constantValued a_maximal a_counterpart a_boundNode a_pending a_pendingCount a_nodeKind a_nodeValue a_nodeA a_nodeB a_nodeResult a_nodeUses a_outputNode a_seen a_order a_walkStack : Nat → Int32}
variable {f_maxNodes' f_maxRules' f_phase' f_nCount' f_outCnt' f_apps' f_ruleCount' f_cex' f_curLive' f_orderN' : Int32} {a_alive' a_nKind' a_nVal' a_nA' a_nB' a_lv' a_nd' a_nv' a_outs' a_tKind' a_tVal' a_tA' a_tB' a_tN' a_preRel' a_preJ' a_preK' a_ruleUse' a_pend' a_pendN' a_tv' a_cv' a_mx' a_par' a_mp' a_res' a_bnd' a_order' a_stk' a_stSt' : Nat → Int32}
variable {K : Nat → Nat} {V : Nat → Int32} {A B : Nat → Option Nat} {rk : Nat → Nat}
theorem xy_nodeAt (hG : pr_gw 0 K V A B rk) (hg : gr_at 0 K V A B a_nodeKind a_nodeValue a_nodeA a_nodeB) (hg' : gr_at 0 K V A B a_nKind' a_nVal' a_nA' a_nB') {x2 : Int32} {dp : Nat} (hdp : dp ≤ 8) :
    ∀ d i n, i + d = dp → pr_T 0 K n → ∃ r : Int32, (∀ post : Int32 → Prop, post r → wX_nodeAt_31 post x2 (nI dp) f_maxNodes f_maxRules f_ruleCount f_counterexample f_optimized f_nodeCount f_outputCount f_applications a_preRelation a_preVariable a_preConstant a_roomNeeded a_useCount a_treeSize a_treeKind a_treeValue a_treeA a_treeB a_treeResult a_constantValued a_maximal a_counterpart a_boundNode a_pending a_pendingCount a_nodeKind a_nodeValue a_nodeA a_nodeB a_nodeResult a_nodeUses a_outputNode a_seen a_order a_walkStack (d + 1) (nI n) (nI i)) ∧ (∀ post : Int32 → Prop, post r → wY_nodeAt_49 post x2 (nI dp) f_maxNodes' f_maxRules' f_phase' f_nCount' f_outCnt' f_apps' f_ruleCount' f_cex' f_curLive' f_orderN' a_alive' a_nKind' a_nVal' a_nA' a_nB' a_lv' a_nd' a_nv' a_outs' a_tKind' a_tVal' a_tA' a_tB' a_tN' a_preRel' a_preJ' a_preK' a_ruleUse' a_pend' a_pendN' a_tv' a_cv' a_mx' a_par' a_mp' a_res' a_bnd' a_order' a_stk' a_stSt' (d + 1) (nI n) (nI i)) := by
  intro d
  induction d with
  | zero =>
    intro i n hi tn
    have tn2 := tn.2.1
    have hin : vp_in (nI n) 64 := pk_in n 64 (by omega)
    have hcl : (nI n).toNatClampNeg = n := nI_clamp (by omega)
    obtain ⟨k1, k2, k3, k4⟩ := hg n tn
    obtain ⟨l1, l2, l3, l4⟩ := hg' n tn
    obtain ⟨q1, q2, q3, q4, q5, q6, q7, q8, q9, q10⟩ := hG n tn
    refine ⟨nI (K n) * 256 + V n, fun post h => ?_, fun post h => ?_⟩
    · refine pk_le dp i (fun _ => ⟨hin, hin, ?_⟩) (fun h => absurd h (by omega))
      rw [hcl, k1, k2]
      exact h
    · refine pk_le dp i (fun _ => ⟨hin, ?_⟩) (fun h => absurd h (by omega))
      rw [hcl]
      have h168 : wY_nodeAt_168 post (nI n) (nI (K n)) f_maxNodes' f_maxRules' f_phase' f_nCount' f_outCnt' f_apps' f_ruleCount' f_cex' f_curLive' f_orderN' a_alive' a_nKind' a_nVal' a_nA' a_nB' a_lv' a_nd' a_nv' a_outs' a_tKind' a_tVal' a_tA' a_tB' a_tN' a_preRel' a_preJ' a_preK' a_ruleUse' a_pend' a_pendN' a_tv' a_cv' a_mx' a_par' a_mp' a_res' a_bnd' a_order' a_stk' a_stSt' := by
        refine ⟨hin, ?_⟩
        rw [hcl, l2]
        exact h
      refine nm_r l1 (pk_eq (K n) 11 (fun _ => h168) (fun n11 => pk_eq (K n) 12 (fun _ => h168) (fun n12 => ?_)))
      rw [q5 (by omega), Int32.add_zero] at h
      exact h
  | succ d ih =>
    intro i n hi tn
    have tn2 := tn.2.1
    have hin : vp_in (nI n) 64 := pk_in n 64 (by omega)
    have hcl : (nI n).toNatClampNeg = n := nI_clamp (by omega)
    obtain ⟨k1, k2, k3, k4⟩ := hg n tn
    obtain ⟨l1, l2, l3, l4⟩ := hg' n tn
    obtain ⟨q1, q2, q3, q4, q5, q6, q7, q8, q9, q10⟩ := hG n tn
    have hK1 : 1 ≤ K n := Nat.pos_of_ne_zero tn.2.2
    by_cases hbit : (((x2.toUInt32 >>> ((nI i).toUInt32 &&& Int32.toUInt32 31)).toInt32) &&& 1) = 0
    · by_cases hu : K n ≤ 10
      · obtain ⟨c, hc⟩ := q8 hu
        have tc := (q10 c (Or.inl hc)).1
        have tc2 := tc.2.1
        obtain ⟨r, hX, hY⟩ := ih (i + 1) c (by omega) tc
        refine ⟨r, fun post h => ?_, fun post h => ?_⟩
        · refine pk_le dp i (fun h => absurd h (by omega)) (fun _ => br_t hbit ⟨hin, ?_⟩)
          rw [hcl, k3, hc]
          exact br_f (pr_ne1 (by omega)) (nm_r (nI_1 _) (hX post h))
        · refine pk_le dp i (fun h => absurd h (by omega)) (fun _ => ⟨hin, ?_⟩)
          rw [hcl]
          have h93 : wY_nodeAt_93 post (wY_nodeAt_49 post x2 (nI dp) f_maxNodes' f_maxRules' f_phase' f_nCount' f_outCnt' f_apps' f_ruleCount' f_cex' f_curLive' f_orderN' a_alive' a_nKind' a_nVal' a_nA' a_nB' a_lv' a_nd' a_nv' a_outs' a_tKind' a_tVal' a_tA' a_tB' a_tN' a_preRel' a_preJ' a_preK' a_ruleUse' a_pend' a_pendN' a_tv' a_cv' a_mx' a_par' a_mp' a_res' a_bnd' a_order' a_stk' a_stSt' (d + 1)) x2 (nI dp) (nI n) (nI i) f_maxNodes' f_maxRules' f_phase' f_nCount' f_outCnt' f_apps' f_ruleCount' f_cex' f_curLive' f_orderN' a_alive' a_nKind' a_nVal' a_nA' a_nB' a_lv' a_nd' a_nv' a_outs' a_tKind' a_tVal' a_tA' a_tB' a_tN' a_preRel' a_preJ' a_preK' a_ruleUse' a_pend' a_pendN' a_tv' a_cv' a_mx' a_par' a_mp' a_res' a_bnd' a_order' a_stk' a_stSt' := by
            refine ⟨hin, ?_⟩
            rw [hcl]
            refine nm_r l3 ?_
            rw [hc]
            exact br_f (nI_pos (by omega)) (br_t (nI_lt (b := 32) (by omega) (by decide)) (nm_r (nI_1 _) (hY post h)))
          refine nm_r l1 (br_t hbit ?_)
          by_cases hb : K n ≤ 8
          · exact y_isBin_t hK1 hb (br_f (by decide) h93)
          · exact y_isBin_f (by omega) (by omega) (br_t rfl (y_isUn_t (by omega) (br_f (by decide) h93)))
      · refine ⟨-1, fun post h => ?_, fun post h => ?_⟩
        · refine pk_le dp i (fun h => absurd h (by omega)) (fun _ => br_t hbit ⟨hin, ?_⟩)
          rw [hcl, k3, q6 (by omega)]
          exact br_t rfl h
        · refine pk_le dp i (fun h => absurd h (by omega)) (fun _ => ⟨hin, ?_⟩)
          rw [hcl]
          exact nm_r l1 (br_t hbit (y_isBin_f (by omega) (by omega) (br_t rfl (y_isUn_f (by omega) (by omega) (br_t rfl h)))))
    · by_cases hb : K n ≤ 8
      · obtain ⟨c, hc⟩ := q9 hb
        have tc := (q10 c (Or.inr hc)).1
        have tc2 := tc.2.1
        obtain ⟨r, hX, hY⟩ := ih (i + 1) c (by omega) tc
        refine ⟨r, fun post h => ?_, fun post h => ?_⟩
        · refine pk_le dp i (fun h => absurd h (by omega)) (fun _ => br_f hbit ⟨hin, ?_⟩)
          rw [hcl, k4, hc]
          exact br_f (pr_ne1 (by omega)) (nm_r (nI_1 _) (hX post h))
        · refine pk_le dp i (fun h => absurd h (by omega)) (fun _ => ⟨hin, ?_⟩)
          rw [hcl]
          refine nm_r l1 (br_f hbit (y_isBin_t hK1 hb (br_f (by decide) ⟨hin, ?_⟩)))
          refine nm_r l4 ?_
          rw [hc]
          exact br_f (nI_pos (by omega)) (br_t (nI_lt (b := 32) (by omega) (by decide)) (nm_r (nI_1 _) (hY post h)))
      · refine ⟨-1, fun post h => ?_, fun post h => ?_⟩
        · refine pk_le dp i (fun h => absurd h (by omega)) (fun _ => br_f hbit ⟨hin, ?_⟩)
          rw [hcl, k4, q7 (by omega)]
          exact br_t rfl h
        · refine pk_le dp i (fun h => absurd h (by omega)) (fun _ => ⟨hin, ?_⟩)
          rw [hcl]
          exact nm_r l1 (br_f hbit (y_isBin_f (by omega) (by omega) (br_t rfl h)))
end VNat
theorem i_vc_nodeAt {k : Nat} {u : SX} {v : SY} (I : i_Rel k u v) (hk : k + 4 ≤ 2050) (v1 : Int32) (v2 : Int32) (v3 : Int32) : wpX_nodeAt (fun r => wpY_nodeAt (fun r' => r' = r ∧ i_Rel (k + 4) u v) v v1 v2 v3) u v1 v2 v3 := by
  obtain ⟨mN, mR, rc, ph, nc, oc, cx, ap, P, R, rl, rj, rK, uc, D, ps, dc, dl, dj, dk, K, V, A, B, O, hok, hx, hy⟩ := I
  have hI : i_Rel (k + 4) u v := ⟨mN, mR, rc, ph, nc, oc, cx, ap, P, R, rl, rj, rK, uc, D, ps, dc, dl, dj, dk, K, V, A, B, O, hok, hx, hy⟩
  obtain ⟨f_maxNodes, f_maxRules, f_ruleCount, f_counterexample, f_optimized, f_nodeCount, f_outputCount, f_applications, a_preRelation, a_preVariable, a_preConstant, a_roomNeeded, a_useCount, a_treeSize, a_treeKind, a_treeValue, a_treeA, a_treeB, a_treeResult, a_constantValued, a_maximal, a_counterpart, a_boundNode, a_pending, a_pendingCount, a_nodeKind, a_nodeValue, a_nodeA, a_nodeB, a_nodeResult, a_nodeUses, a_outputNode, a_seen, a_order, a_walkStack⟩ := u
  obtain ⟨f_maxNodes', f_maxRules', f_phase', f_nCount', f_outCnt', f_apps', f_ruleCount', f_cex', f_curLive', f_orderN', a_alive', a_nKind', a_nVal', a_nA', a_nB', a_lv', a_nd', a_nv', a_outs', a_tKind', a_tVal', a_tA', a_tB', a_tN', a_preRel', a_preJ', a_preK', a_ruleUse', a_pend', a_pendN', a_tv', a_cv', a_mx', a_par', a_mp', a_res', a_bnd', a_order', a_stk', a_stSt'⟩ := v
  obtain ⟨e1, e2, e3, e4, e5, e6, e7, e8, h9, h10, h11, h12⟩ := hx
  obtain ⟨d1, d2, d3, d4, d5, d6, d7, d8, g9, g10, g11, g12⟩ := hy
  subst e7 d5
  obtain ⟨o1, o2, o3, o4, o5, o6, o7, o8, o9, rk, rk2, q1, q2, q3, q4⟩ := hok
  by_cases h0 : v1 < 0
  · exact br_t h0 (br_t rfl (br_t h0 ⟨rfl, hI⟩))
  · obtain ⟨n, hn, rfl⟩ := nI_of h0
    refine br_f h0 (pk_le oc n (fun h => br_t rfl (br_f h0 (pk_le oc n (fun _ => ⟨rfl, hI⟩) (fun h => absurd h (by omega))))) (fun hno => br_f (by decide) ?_))
    have hY1 : ∀ {A B C : Prop}, C → (nI n < 0 → A) ∧ (¬ nI n < 0 → (nI oc ≤ nI n → B) ∧ (¬ nI oc ≤ nI n → C)) := fun c => br_f h0 (pk_le oc n (fun h => absurd h (by omega)) (fun _ => c))
    by_cases p0 : v3 < 0
    · exact br_t p0 (hY1 (br_t p0 ⟨rfl, hI⟩))
    · obtain ⟨dp, hdp, rfl⟩ := nI_of p0
      refine br_f p0 (pk_le dp 8 (fun hd => ⟨pk_in n 8 (by omega), ?_⟩) (fun hd => hY1 (br_f p0 (pk_le dp 8 (fun h => absurd h (by omega)) (fun _ => ⟨rfl, hI⟩)))))
      have to := q2 n hno
      have to2 := to.2.1
      rw [nI_clamp (by omega)]
      obtain ⟨r, hX, hY⟩ := xy_nodeAt (x2 := v2) (dp := dp) q1 h12.1 g12.1.1 hd dp 0 (O n) (by omega) to
      refine nm_r (h12.2.1 n hno) ⟨dp + 1, hX _ ?_⟩
      refine hY1 (br_f p0 (pk_le dp 8 (fun _ => ⟨pk_in n 8 (by omega), ?_⟩) (fun h => absurd h (by omega))))
      rw [nI_clamp (by omega)]
      exact nm_r (g12.1.2.1 n hno) (br_f (nI_pos (by omega)) (br_t (nI_lt (b := 32) (by omega) (by decide)) ⟨dp + 1, hY _ ⟨rfl, hI⟩⟩))
end
section
/-! countOp, stat, eval -/
theorem pr_sm_1 {K : Nat → Nat} : ∀ L : List Nat, pr_sm (y_wt K 0) L = L.length
  | [] => rfl
  | x :: L => by
    show 1 + pr_sm (y_wt K 0) L = L.length + 1
    rw [pr_sm_1 L]
    omega
theorem pr_sm_w {K : Nat → Nat} : ∀ L : List Nat, pr_sm (y_wt K 1) L = pr_sm (fun s => pr_w (K s)) L
  | [] => rfl
  | x :: L => by
    show pr_w (K x) + pr_sm (y_wt K 1) L = pr_w (K x) + pr_sm (fun s => pr_w (K s)) L
    rw [pr_sm_w L]
section VQx
variable {f_maxNodes f_maxRules f_ruleCount f_counterexample f_optimized f_nodeCount f_outputCount f_applications : Int32} {a_preRelation a_preVariable a_preConstant a_roomNeeded a_useCount a_treeSize a_treeKind a_treeValue a_treeA a_treeB a_treeResult a_constantValued a_maximal a_counterpart a_boundNode a_pending a_pendingCount a_nodeKind a_nodeValue a_nodeA a_nodeB a_nodeResult a_nodeUses a_outputNode a_seen a_order a_walkStack : Nat → Int32}
variable {mN : Nat} {mR : Nat} {rc : Nat} {ph : Nat} {nc : Nat} {oc : Nat} {cx : Int32} {ap : Int32} {P : Nat → pr_PT} {R : Nat → pr_PT} {rl : Nat → Nat} {rj : Nat → Nat} {rK : Nat → Nat} {uc : Nat → Int32} {D : Nat → pr_PT} {ps : Nat → Nat → Nat} {dc : Nat → Nat} {dl : Nat} {dj : Nat} {dk : Nat} {K : Nat → Nat} {V : Nat → Int32} {A : Nat → Option Nat} {B : Nat → Option Nat} {O : Nat → Nat}
theorem rx_live {u : SX} {post : Int32 → SX → Prop} (hok : sp_ok mN mR rc ph nc oc cx ap P R rl rj rK uc D ps dc dl dj dk K V A B O) (hx : rx mN mR rc ph nc oc cx ap P R rl rj rK uc D ps dc dl dj dk K V A B O u) (h : ∀ u', rx mN mR rc ph nc oc cx ap P R rl rj rK uc D ps dc dl dj dk K V A B O u' → post (nI (pr_lv A B O 0 oc).length) u') : wpX_listLive post u 0 := by
  obtain ⟨f_maxNodes, f_maxRules, f_ruleCount, f_counterexample, f_optimized, f_nodeCount, f_outputCount, f_applications, a_preRelation, a_preVariable, a_preConstant, a_roomNeeded, a_useCount, a_treeSize, a_treeKind, a_treeValue, a_treeA, a_treeB, a_treeResult, a_constantValued, a_maximal, a_counterpart, a_boundNode, a_pending, a_pendingCount, a_nodeKind, a_nodeValue, a_nodeA, a_nodeB, a_nodeResult, a_nodeUses, a_outputNode, a_seen, a_order, a_walkStack⟩ := u
  obtain ⟨e1, e2, e3, e4, e5, e6, e7, e8, h9, h10, h11, h12⟩ := hx
  subst e1 e2 e3 e4 e5 e6 e7 e8
  obtain ⟨o1, o2, o3, o4, o5, o6, o7, o8, o9, rk, rk2, q1, q2, q3, q4⟩ := hok
  exact x_listLive (lo := 0) (g := 0) (O := O) (by omega) q1 h12.1 (by omega) o7 (gr_0 h12 q2) (fun se' od' st' _ _ => h _ ⟨rfl, rfl, rfl, rfl, rfl, rfl, rfl, rfl, h9, h10, h11, h12⟩)
theorem rx_cost {u : SX} {post : Int32 → SX → Prop} {g : Nat} (hg : g < 2) (hg1 : g = 1 → ph = 1) (hok : sp_ok mN mR rc ph nc oc cx ap P R rl rj rK uc D ps dc dl dj dk K V A B O) (hx : rx mN mR rc ph nc oc cx ap P R rl rj rK uc D ps dc dl dj dk K V A B O u) (h : ∀ u', rx mN mR rc ph nc oc cx ap P R rl rj rK uc D ps dc dl dj dk K V A B O u' → post (nI (pr_sm (fun s => pr_w (K s)) (pr_lv A B O (g * 4) oc))) u') : wpX_liveCost post u (nI g) := by
  obtain ⟨f_maxNodes, f_maxRules, f_ruleCount, f_counterexample, f_optimized, f_nodeCount, f_outputCount, f_applications, a_preRelation, a_preVariable, a_preConstant, a_roomNeeded, a_useCount, a_treeSize, a_treeKind, a_treeValue, a_treeA, a_treeB, a_treeResult, a_constantValued, a_maximal, a_counterpart, a_boundNode, a_pending, a_pendingCount, a_nodeKind, a_nodeValue, a_nodeA, a_nodeB, a_nodeResult, a_nodeUses, a_outputNode, a_seen, a_order, a_walkStack⟩ := u
  obtain ⟨e1, e2, e3, e4, e5, e6, e7, e8, h9, h10, h11, h12⟩ := hx
  subst e1 e2 e3 e4 e5 e6 e7 e8
  obtain ⟨o1, o2, o3, o4, o5, o6, o7, o8, o9, rk, rk2, q1, q2, q3, q4⟩ := hok
  have : g = 0 ∨ g = 1 := by omega
  rcases this with e | e
  · subst e
    exact x_liveCost (g := 0) (O := O) q1 h12.1 (by omega) o7 (gr_0 h12 q2) rfl (fun se' od' st' => h _ ⟨rfl, rfl, rfl, rfl, rfl, rfl, rfl, rfl, h9, h10, h11, h12⟩)
  · subst e
    have hp := hg1 rfl
    obtain ⟨w1, w2, w3⟩ := q4 hp
    exact x_liveCost (g := 1) (O := O) w1 (h12.2.2 hp).1 (by omega) o7 (gr_1 h12 hp w2) rfl (fun se' od' st' => h _ ⟨rfl, rfl, rfl, rfl, rfl, rfl, rfl, rfl, h9, h10, h11, h12⟩)
end VQx
section VQy
variable {f_maxNodes f_maxRules f_phase f_nCount f_outCnt f_apps f_ruleCount f_cex f_curLive f_orderN : Int32} {a_alive a_nKind a_nVal a_nA a_nB a_lv a_nd a_nv a_outs a_tKind a_tVal a_tA a_tB a_tN a_preRel a_preJ a_preK a_ruleUse a_pend a_pendN a_tv a_cv a_mx a_par a_mp a_res a_bnd a_order a_stk a_stSt : Nat → Int32}
variable {mN : Nat} {mR : Nat} {rc : Nat} {ph : Nat} {nc : Nat} {oc : Nat} {cx : Int32} {ap : Int32} {P : Nat → pr_PT} {R : Nat → pr_PT} {rl : Nat → Nat} {rj : Nat → Nat} {rK : Nat → Nat} {uc : Nat → Int32} {D : Nat → pr_PT} {ps : Nat → Nat → Nat} {dc : Nat → Nat} {dl : Nat} {dj : Nat} {dk : Nat} {K : Nat → Nat} {V : Nat → Int32} {A : Nat → Option Nat} {B : Nat → Option Nat} {O : Nat → Nat}
theorem ry_sum {u : SY} {post : Int32 → SY → Prop} {g cost : Nat} (hg : g < 2) (hc : cost < 2) (hg1 : g = 1 → ph = 1) (hok : sp_ok mN mR rc ph nc oc cx ap P R rl rj rK uc D ps dc dl dj dk K V A B O) (hx : ry mN mR rc ph nc oc cx ap P R rl rj rK uc D ps dc dl dj dk K V A B O u) (h : ∀ u', ry mN mR rc ph nc oc cx ap P R rl rj rK uc D ps dc dl dj dk K V A B O u' → post (nI (pr_sm (y_wt K cost) (pr_lv A B O (g * 4) oc))) u') : wpY_liveSum post u (nI (g * 32)) (nI cost) := by
  obtain ⟨f_maxNodes, f_maxRules, f_phase, f_nCount, f_outCnt, f_apps, f_ruleCount, f_cex, f_curLive, f_orderN, a_alive, a_nKind, a_nVal, a_nA, a_nB, a_lv, a_nd, a_nv, a_outs, a_tKind, a_tVal, a_tA, a_tB, a_tN, a_preRel, a_preJ, a_preK, a_ruleUse, a_pend, a_pendN, a_tv, a_cv, a_mx, a_par, a_mp, a_res, a_bnd, a_order, a_stk, a_stSt⟩ := u
  obtain ⟨e1, e2, e3, e4, e5, e6, e7, e8, h9, h10, h11, h12⟩ := hx
  subst e1 e2 e3 e4 e5 e6 e7 e8
  obtain ⟨o1, o2, o3, o4, o5, o6, o7, o8, o9, rk, rk2, q1, q2, q3, q4⟩ := hok
  have : g = 0 ∨ g = 1 := by omega
  rcases this with e | e
  · subst e
    exact y_liveSum (g := 0) (O := O) hc (by omega) q1 h12.1.1 h12.2.1 o7 (gr_0 h12.1 q2) rfl (fun lv' _ => h _ ⟨rfl, rfl, rfl, rfl, rfl, rfl, rfl, rfl, h9, h10, h11, h12⟩)
  · subst e
    have hp := hg1 rfl
    obtain ⟨w1, w2, w3⟩ := q4 hp
    exact y_liveSum (g := 1) (O := O) hc (by omega) w1 (h12.1.2.2 hp).1 (h12.2.2 hp) o7 (gr_1 h12.1 hp w2) rfl (fun lv' _ => h _ ⟨rfl, rfl, rfl, rfl, rfl, rfl, rfl, rfl, h9, h10, h11, h12⟩)
end VQy
theorem i_vc_countOp {k : Nat} {u : SX} {v : SY} (I : i_Rel k u v) (hk : k + 4 ≤ 2050) (v1 : Int32) : wpX_countOp (fun r u' => wpY_countOp (fun r' v' => r' = r ∧ i_Rel (k + 4) u' v') v v1) u v1 := by
  obtain ⟨mN, mR, rc, ph, nc, oc, cx, ap, P, R, rl, rj, rK, uc, D, ps, dc, dl, dj, dk, K, V, A, B, O, hok, hx, hy⟩ := I
  have hI : i_Rel (k + 4) u v := ⟨mN, mR, rc, ph, nc, oc, cx, ap, P, R, rl, rj, rK, uc, D, ps, dc, dl, dj, dk, K, V, A, B, O, hok, hx, hy⟩
  obtain ⟨f_maxNodes, f_maxRules, f_ruleCount, f_counterexample, f_optimized, f_nodeCount, f_outputCount, f_applications, a_preRelation, a_preVariable, a_preConstant, a_roomNeeded, a_useCount, a_treeSize, a_treeKind, a_treeValue, a_treeA, a_treeB, a_treeResult, a_constantValued, a_maximal, a_counterpart, a_boundNode, a_pending, a_pendingCount, a_nodeKind, a_nodeValue, a_nodeA, a_nodeB, a_nodeResult, a_nodeUses, a_outputNode, a_seen, a_order, a_walkStack⟩ := u
  obtain ⟨f_maxNodes', f_maxRules', f_phase', f_nCount', f_outCnt', f_apps', f_ruleCount', f_cex', f_curLive', f_orderN', a_alive', a_nKind', a_nVal', a_nA', a_nB', a_lv', a_nd', a_nv', a_outs', a_tKind', a_tVal', a_tA', a_tB', a_tN', a_preRel', a_preJ', a_preK', a_ruleUse', a_pend', a_pendN', a_tv', a_cv', a_mx', a_par', a_mp', a_res', a_bnd', a_order', a_stk', a_stSt'⟩ := v
  rcases pk_ix v1 (n := 13) (by omega) with hp | hp | ⟨κ, hκ, rfl⟩
  · have h1 : v1 < 1 := Int32.lt_trans hp (by decide)
    exact br_t h1 (br_t h1 ⟨rfl, hI⟩)
  · have h1 : ¬ v1 < 1 := fun h => absurd (Int32.lt_of_le_of_lt hp h) (by decide)
    have h12 : ¬ v1 ≤ 12 := fun h => absurd (Int32.le_trans hp h) (by decide)
    exact br_f h1 (br_f h12 (br_f h1 (br_f h12 ⟨rfl, hI⟩)))
  · unfold wpX_countOp wpY_countOp
    refine pk_lt κ 1 (fun h1 => br_t (nI_lt (b := 1) h1 (by decide)) ⟨rfl, hI⟩) (fun h1 => br_t (nI_le (b := 12) (by omega) (by decide)) ?_)
    obtain ⟨e1, e2, e3, e4, e5, e6, e7, e8, h9, h10, h11, h12⟩ := hx
    obtain ⟨d1, d2, d3, d4, d5, d6, d7, d8, g9, g10, g11, g12⟩ := hy
    subst e1 e2 e3 e4 e5 e6 e7 e8 d1 d2 d3 d4 d5 d6 d7 d8
    have hok' := hok
    obtain ⟨o1, o2, o3, o4, o5, o6, o7, o8, o9, rk, rk2, q1, q2, q3, q4⟩ := hok
    have hlk := pr_lv_ok (O := O) (ob := 0) (pr_gw_T q1) (pr_gw_r q1) oc (fun k hk => by rw [Nat.zero_add]; exact q2 k hk)
    have hlen := pr_len hlk.1 (fun x hx => ⟨(hlk.2.2.2 x hx).1.1, (hlk.2.2.2 x hx).1.2.1⟩)
    have hrs := pr_rs_list (w := fun s => if K s = κ then 1 else 0) (lo := 0) (n := 32) hlk.1 (fun x hx => ⟨(hlk.2.2.2 x hx).1.1, (hlk.2.2.2 x hx).1.2.1⟩)
    refine x_listLive (lo := 0) (g := 0) (O := O) (by omega) q1 h12.1 (by omega) o7 (gr_0 h12 q2) (fun se' od' st' _ hls => ⟨(pr_lv A B O (0 * 4) oc).length + 1, ?_⟩)
    refine x_countOp24 (lo := 0) (L := pr_lv A B O (0 * 4) oc) (by omega) (by omega) q1 h12.1 (fun x hx => (hlk.2.2.2 x hx).1) hlen hls ?_ _ 0 (Nat.zero_add _)
    refine br_f (nI_nlt (b := 1) h1 (by omega)) (br_t (nI_le (b := 12) (by omega) (by decide)) ?_)
    refine y_liveMark (g := 0) (O := O) (L := pr_lv A B O 0 oc) (by omega) q1 g12.1.1 g12.2.1 o7 (gr_0 g12.1 q2) rfl (fun lv' hlv => ⟨33, ?_⟩)
    refine y_countOp22 (by omega) q1 g12.1.1 g12.2.1 (fun x hx => (hlk.2.2.2 x hx).1) (fun c a b => hlv c (by omega) (by omega)) ?_ 32 0 (by omega)
    rw [hrs]
    exact ⟨rfl, ⟨_, _, _, _, _, _, _, _, _, _, _, _, _, _, _, _, _, _, _, _, _, _, _, _, _, hok', ⟨rfl, rfl, rfl, rfl, rfl, rfl, rfl, rfl, h9, h10, h11, h12⟩, ⟨rfl, rfl, rfl, rfl, rfl, rfl, rfl, rfl, g9, g10, g11, g12⟩⟩⟩
theorem i_vc_stat {k : Nat} {u : SX} {v : SY} (I : i_Rel k u v) (hk : k + 4 ≤ 2050) (v1 : Int32) : wpX_stat (fun r u' => wpY_stat (fun r' v' => r' = r ∧ i_Rel (k + 4) u' v') v v1) u v1 := by
  obtain ⟨mN, mR, rc, ph, nc, oc, cx, ap, P, R, rl, rj, rK, uc, D, ps, dc, dl, dj, dk, K, V, A, B, O, hok, hx, hy⟩ := I
  have hI : i_Rel (k + 4) u v := ⟨mN, mR, rc, ph, nc, oc, cx, ap, P, R, rl, rj, rK, uc, D, ps, dc, dl, dj, dk, K, V, A, B, O, hok, hx, hy⟩
  have hph := hok.2.2.2.2.2.1
  have hlive : ∀ post : Int32 → SX → Prop, (∀ u', rx mN mR rc ph nc oc cx ap P R rl rj rK uc D ps dc dl dj dk K V A B O u' → post (nI (pr_lv A B O 0 oc).length) u') → wpX_listLive post u 0 := fun post h => rx_live hok hx h
  have hcost : ∀ (g : Nat) (post : Int32 → SX → Prop), g < 2 → (g = 1 → ph = 1) → (∀ u', rx mN mR rc ph nc oc cx ap P R rl rj rK uc D ps dc dl dj dk K V A B O u' → post (nI (pr_sm (fun s => pr_w (K s)) (pr_lv A B O (g * 4) oc))) u') → wpX_liveCost post u (nI g) := fun g post h1 h2 h => rx_cost h1 h2 hok hx h
  have ylive : ∀ post : Int32 → SY → Prop, (∀ v', ry mN mR rc ph nc oc cx ap P R rl rj rK uc D ps dc dl dj dk K V A B O v' → post (nI (pr_lv A B O 0 oc).length) v') → wpY_liveSum post v 0 0 := fun post h => ry_sum (g := 0) (cost := 0) (by omega) (by omega) (fun h => absurd h (by omega)) hok hy (fun v' hv => by rw [pr_sm_1]; exact h v' hv)
  have ycost : ∀ (g : Nat) (post : Int32 → SY → Prop), g < 2 → (g = 1 → ph = 1) → (∀ v', ry mN mR rc ph nc oc cx ap P R rl rj rK uc D ps dc dl dj dk K V A B O v' → post (nI (pr_sm (fun s => pr_w (K s)) (pr_lv A B O (g * 4) oc))) v') → wpY_liveSum post v (nI (g * 32)) 1 := fun g post h1 h2 h => ry_sum (g := g) (cost := 1) h1 (by omega) h2 hok hy (fun v' hv => by rw [pr_sm_w]; exact h v' hv)
  obtain ⟨f_maxNodes, f_maxRules, f_ruleCount, f_counterexample, f_optimized, f_nodeCount, f_outputCount, f_applications, a_preRelation, a_preVariable, a_preConstant, a_roomNeeded, a_useCount, a_treeSize, a_treeKind, a_treeValue, a_treeA, a_treeB, a_treeResult, a_constantValued, a_maximal, a_counterpart, a_boundNode, a_pending, a_pendingCount, a_nodeKind, a_nodeValue, a_nodeA, a_nodeB, a_nodeResult, a_nodeUses, a_outputNode, a_seen, a_order, a_walkStack⟩ := u
  obtain ⟨f_maxNodes', f_maxRules', f_phase', f_nCount', f_outCnt', f_apps', f_ruleCount', f_cex', f_curLive', f_orderN', a_alive', a_nKind', a_nVal', a_nA', a_nB', a_lv', a_nd', a_nv', a_outs', a_tKind', a_tVal', a_tA', a_tB', a_tN', a_preRel', a_preJ', a_preK', a_ruleUse', a_pend', a_pendN', a_tv', a_cv', a_mx', a_par', a_mp', a_res', a_bnd', a_order', a_stk', a_stSt'⟩ := v
  obtain ⟨e1, e2, e3, e4, e5, e6, e7, e8, h9, h10, h11, h12⟩ := hx
  obtain ⟨d1, d2, d3, d4, d5, d6, d7, d8, g9, g10, g11, g12⟩ := hy
  subst e1 e2 e3 e4 e5 e6 e7 e8 d1 d2 d3 d4 d5 d6 d7 d8
  have hR : ∀ (u' : SX) (v' : SY), rx mN mR rc ph nc oc f_cex' f_apps' P R rl rj rK uc D ps dc dl dj dk K V A B O u' → ry mN mR rc ph nc oc f_cex' f_apps' P R rl rj rK uc D ps dc dl dj dk K V A B O v' → i_Rel (k + 4) u' v' := fun u' v' a b => ⟨_, _, _, _, _, _, _, _, _, _, _, _, _, _, _, _, _, _, _, _, _, _, _, _, _, hok, a, b⟩
  have hne : ∀ q : Nat, q < 9 → (v1 < 0 ∨ nI 9 ≤ v1) → ¬ v1 = nI q := by
    intro q hq hp e
    rw [e] at hp
    rcases hp with hp | hp
    · exact nI_pos (by omega) hp
    · rw [nI_leI (by omega) (by omega)] at hp
      omega
  have hyno : (v1 < 0 ∨ nI 9 ≤ v1) → wpY_stat (fun r' v' => r' = -1 ∧ i_Rel (k + 4) ((nI mN), (nI mR), (nI rc), f_cex', (nI ph), (nI nc), (nI oc), f_apps', a_preRelation, a_preVariable, a_preConstant, a_roomNeeded, a_useCount, a_treeSize, a_treeKind, a_treeValue, a_treeA, a_treeB, a_treeResult, a_constantValued, a_maximal, a_counterpart, a_boundNode, a_pending, a_pendingCount, a_nodeKind, a_nodeValue, a_nodeA, a_nodeB, a_nodeResult, a_nodeUses, a_outputNode, a_seen, a_order, a_walkStack) v') ((nI mN), (nI mR), (nI ph), (nI nc), (nI oc), f_apps', (nI rc), f_cex', f_curLive', f_orderN', a_alive', a_nKind', a_nVal', a_nA', a_nB', a_lv', a_nd', a_nv', a_outs', a_tKind', a_tVal', a_tA', a_tB', a_tN', a_preRel', a_preJ', a_preK', a_ruleUse', a_pend', a_pendN', a_tv', a_cv', a_mx', a_par', a_mp', a_res', a_bnd', a_order', a_stk', a_stSt') v1 := fun hp =>
    br_f (hne 0 (by omega) hp) (br_f (hne 1 (by omega) hp) (br_f (hne 2 (by omega) hp) (br_f (hne 3 (by omega) hp) (br_f (hne 4 (by omega) hp) (br_f (hne 5 (by omega) hp) (br_f (hne 6 (by omega) hp) (br_f (hne 7 (by omega) hp) (br_f (hne 8 (by omega) hp) ⟨rfl, hI⟩))))))))
  unfold wpX_stat
  rcases pk_ix v1 (n := 9) (by omega) with hp | hp | ⟨q, hq, rfl⟩
  · exact br_t hp (hyno (Or.inl hp))
  · have h0 : ¬ v1 < 0 := fun h => absurd (Int32.lt_of_le_of_lt hp h) (by decide)
    exact br_f h0 (br_t (Int32.lt_of_lt_of_le (b := nI 9) (by decide) hp) (hyno (Or.inr hp)))
  · refine br_f (nI_pos (by omega)) (pk_lt 8 q (fun h => absurd h (by omega)) (fun _ => ?_))
    have hc : q = 0 ∨ q = 1 ∨ q = 2 ∨ q = 3 ∨ q = 4 ∨ q = 5 ∨ q = 6 ∨ q = 7 ∨ q = 8 := by omega
    unfold wpY_stat
    rcases hc with e | e | e | e | e | e | e | e | e
    · subst e
      refine br_t rfl (hlive _ (fun u' hu' => ?_))
      obtain ⟨f_maxNodes'', f_maxRules'', f_ruleCount'', f_counterexample'', f_optimized'', f_nodeCount'', f_outputCount'', f_applications'', a_preRelation'', a_preVariable'', a_preConstant'', a_roomNeeded'', a_useCount'', a_treeSize'', a_treeKind'', a_treeValue'', a_treeA'', a_treeB'', a_treeResult'', a_constantValued'', a_maximal'', a_counterpart'', a_boundNode'', a_pending'', a_pendingCount'', a_nodeKind'', a_nodeValue'', a_nodeA'', a_nodeB'', a_nodeResult'', a_nodeUses'', a_outputNode'', a_seen'', a_order'', a_walkStack''⟩ := u'
      refine br_t rfl (ylive _ (fun v' hv' => ?_))
      obtain ⟨f_maxNodes'', f_maxRules'', f_phase'', f_nCount'', f_outCnt'', f_apps'', f_ruleCount'', f_cex'', f_curLive'', f_orderN'', a_alive'', a_nKind'', a_nVal'', a_nA'', a_nB'', a_lv'', a_nd'', a_nv'', a_outs'', a_tKind'', a_tVal'', a_tA'', a_tB'', a_tN'', a_preRel'', a_preJ'', a_preK'', a_ruleUse'', a_pend'', a_pendN'', a_tv'', a_cv'', a_mx'', a_par'', a_mp'', a_res'', a_bnd'', a_order'', a_stk'', a_stSt''⟩ := v'
      exact ⟨rfl, hR _ _ hu' hv'⟩
    · subst e
      refine br_f (by decide) (br_t rfl (hcost 0 _ (by omega) (fun h => absurd h (by omega)) (fun u' hu' => ?_)))
      obtain ⟨f_maxNodes'', f_maxRules'', f_ruleCount'', f_counterexample'', f_optimized'', f_nodeCount'', f_outputCount'', f_applications'', a_preRelation'', a_preVariable'', a_preConstant'', a_roomNeeded'', a_useCount'', a_treeSize'', a_treeKind'', a_treeValue'', a_treeA'', a_treeB'', a_treeResult'', a_constantValued'', a_maximal'', a_counterpart'', a_boundNode'', a_pending'', a_pendingCount'', a_nodeKind'', a_nodeValue'', a_nodeA'', a_nodeB'', a_nodeResult'', a_nodeUses'', a_outputNode'', a_seen'', a_order'', a_walkStack''⟩ := u'
      refine br_f (by decide) (br_t rfl (ycost 0 _ (by omega) (fun h => absurd h (by omega)) (fun v' hv' => ?_)))
      obtain ⟨f_maxNodes'', f_maxRules'', f_phase'', f_nCount'', f_outCnt'', f_apps'', f_ruleCount'', f_cex'', f_curLive'', f_orderN'', a_alive'', a_nKind'', a_nVal'', a_nA'', a_nB'', a_lv'', a_nd'', a_nv'', a_outs'', a_tKind'', a_tVal'', a_tA'', a_tB'', a_tN'', a_preRel'', a_preJ'', a_preK'', a_ruleUse'', a_pend'', a_pendN'', a_tv'', a_cv'', a_mx'', a_par'', a_mp'', a_res'', a_bnd'', a_order'', a_stk'', a_stSt''⟩ := v'
      exact ⟨rfl, hR _ _ hu' hv'⟩
    · subst e
      refine br_f (by decide) (br_f (by decide) (br_t rfl ?_))
      have hp : ph = 0 ∨ ph = 1 := by omega
      rcases hp with hp | hp
      · subst hp
        refine br_t rfl (hcost 0 _ (by omega) (fun h => absurd h (by omega)) (fun u' hu' => ?_))
        obtain ⟨f_maxNodes'', f_maxRules'', f_ruleCount'', f_counterexample'', f_optimized'', f_nodeCount'', f_outputCount'', f_applications'', a_preRelation'', a_preVariable'', a_preConstant'', a_roomNeeded'', a_useCount'', a_treeSize'', a_treeKind'', a_treeValue'', a_treeA'', a_treeB'', a_treeResult'', a_constantValued'', a_maximal'', a_counterpart'', a_boundNode'', a_pending'', a_pendingCount'', a_nodeKind'', a_nodeValue'', a_nodeA'', a_nodeB'', a_nodeResult'', a_nodeUses'', a_outputNode'', a_seen'', a_order'', a_walkStack''⟩ := u'
        refine br_f (by decide) (br_f (by decide) (br_t rfl (br_f (by decide) (ycost 0 _ (by omega) (fun h => absurd h (by omega)) (fun v' hv' => ?_)))))
        obtain ⟨f_maxNodes'', f_maxRules'', f_phase'', f_nCount'', f_outCnt'', f_apps'', f_ruleCount'', f_cex'', f_curLive'', f_orderN'', a_alive'', a_nKind'', a_nVal'', a_nA'', a_nB'', a_lv'', a_nd'', a_nv'', a_outs'', a_tKind'', a_tVal'', a_tA'', a_tB'', a_tN'', a_preRel'', a_preJ'', a_preK'', a_ruleUse'', a_pend'', a_pendN'', a_tv'', a_cv'', a_mx'', a_par'', a_mp'', a_res'', a_bnd'', a_order'', a_stk'', a_stSt''⟩ := v'
        exact ⟨rfl, hR _ _ hu' hv'⟩
      · subst hp
        refine br_f (by decide) (hcost 1 _ (by omega) (fun _ => rfl) (fun u' hu' => ?_))
        obtain ⟨f_maxNodes'', f_maxRules'', f_ruleCount'', f_counterexample'', f_optimized'', f_nodeCount'', f_outputCount'', f_applications'', a_preRelation'', a_preVariable'', a_preConstant'', a_roomNeeded'', a_useCount'', a_treeSize'', a_treeKind'', a_treeValue'', a_treeA'', a_treeB'', a_treeResult'', a_constantValued'', a_maximal'', a_counterpart'', a_boundNode'', a_pending'', a_pendingCount'', a_nodeKind'', a_nodeValue'', a_nodeA'', a_nodeB'', a_nodeResult'', a_nodeUses'', a_outputNode'', a_seen'', a_order'', a_walkStack''⟩ := u'
        refine br_f (by decide) (br_f (by decide) (br_t rfl (br_t rfl (ycost 1 _ (by omega) (fun _ => rfl) (fun v' hv' => ?_)))))
        obtain ⟨f_maxNodes'', f_maxRules'', f_phase'', f_nCount'', f_outCnt'', f_apps'', f_ruleCount'', f_cex'', f_curLive'', f_orderN'', a_alive'', a_nKind'', a_nVal'', a_nA'', a_nB'', a_lv'', a_nd'', a_nv'', a_outs'', a_tKind'', a_tVal'', a_tA'', a_tB'', a_tN'', a_preRel'', a_preJ'', a_preK'', a_ruleUse'', a_pend'', a_pendN'', a_tv'', a_cv'', a_mx'', a_par'', a_mp'', a_res'', a_bnd'', a_order'', a_stk'', a_stSt''⟩ := v'
        exact ⟨rfl, hR _ _ hu' hv'⟩
    · subst e
      exact br_f (by decide) (br_f (by decide) (br_f (by decide) (br_t rfl (br_f (by decide) (br_f (by decide) (br_f (by decide) (br_t rfl ⟨rfl, hI⟩)))))))
    · subst e
      exact br_f (by decide) (br_f (by decide) (br_f (by decide) (br_f (by decide) (br_t rfl (br_f (by decide) (br_f (by decide) (br_f (by decide) (br_f (by decide) (br_t rfl ⟨rfl, hI⟩)))))))))
    · subst e
      exact br_f (by decide) (br_f (by decide) (br_f (by decide) (br_f (by decide) (br_f (by decide) (br_t rfl (br_f (by decide) (br_f (by decide) (br_f (by decide) (br_f (by decide) (br_f (by decide) (br_t rfl ⟨rfl, hI⟩)))))))))))
    · subst e
      exact br_f (by decide) (br_f (by decide) (br_f (by decide) (br_f (by decide) (br_f (by decide) (br_f (by decide) (br_t rfl (br_f (by decide) (br_f (by decide) (br_f (by decide) (br_f (by decide) (br_f (by decide) (br_f (by decide) (br_t rfl ⟨rfl, hI⟩)))))))))))))
    · subst e
      refine br_f (by decide) (br_f (by decide) (br_f (by decide) (br_f (by decide) (br_f (by decide) (br_f (by decide) (br_f (by decide) (br_t rfl ?_)))))))
      have hp : ph = 0 ∨ ph = 1 := by omega
      rcases hp with hp | hp
      · subst hp
        exact br_t rfl (br_f (by decide) (br_f (by decide) (br_f (by decide) (br_f (by decide) (br_f (by decide) (br_f (by decide) (br_f (by decide) (br_t rfl ⟨rfl, hI⟩))))))))
      · subst hp
        exact br_f (by decide) (br_f (by decide) (br_f (by decide) (br_f (by decide) (br_f (by decide) (br_f (by decide) (br_f (by decide) (br_f (by decide) (br_t rfl ⟨rfl, hI⟩))))))))
    · subst e
      refine br_f (by decide) (br_f (by decide) (br_f (by decide) (br_f (by decide) (br_f (by decide) (br_f (by decide) (br_f (by decide) (br_f (by decide) (br_t rfl ?_))))))))
      have hp : ph = 0 ∨ ph = 1 := by omega
      rcases hp with hp | hp
      · subst hp
        exact br_t rfl (br_f (by decide) (br_f (by decide) (br_f (by decide) (br_f (by decide) (br_f (by decide) (br_f (by decide) (br_f (by decide) (br_f (by decide) (br_t rfl (br_t rfl ⟨rfl, hI⟩))))))))))
      · subst hp
        refine br_f (by decide) (hlive _ (fun u' hu' => ?_))
        obtain ⟨f_maxNodes'', f_maxRules'', f_ruleCount'', f_counterexample'', f_optimized'', f_nodeCount'', f_outputCount'', f_applications'', a_preRelation'', a_preVariable'', a_preConstant'', a_roomNeeded'', a_useCount'', a_treeSize'', a_treeKind'', a_treeValue'', a_treeA'', a_treeB'', a_treeResult'', a_constantValued'', a_maximal'', a_counterpart'', a_boundNode'', a_pending'', a_pendingCount'', a_nodeKind'', a_nodeValue'', a_nodeA'', a_nodeB'', a_nodeResult'', a_nodeUses'', a_outputNode'', a_seen'', a_order'', a_walkStack''⟩ := u'
        refine br_f (by decide) (br_f (by decide) (br_f (by decide) (br_f (by decide) (br_f (by decide) (br_f (by decide) (br_f (by decide) (br_f (by decide) (br_t rfl (br_f (by decide) (ylive _ (fun v' hv' => ?_)))))))))))
        obtain ⟨f_maxNodes'', f_maxRules'', f_phase'', f_nCount'', f_outCnt'', f_apps'', f_ruleCount'', f_cex'', f_curLive'', f_orderN'', a_alive'', a_nKind'', a_nVal'', a_nA'', a_nB'', a_lv'', a_nd'', a_nv'', a_outs'', a_tKind'', a_tVal'', a_tA'', a_tB'', a_tN'', a_preRel'', a_preJ'', a_preK'', a_ruleUse'', a_pend'', a_pendN'', a_tv'', a_cv'', a_mx'', a_par'', a_mp'', a_res'', a_bnd'', a_order'', a_stk'', a_stSt''⟩ := v'
        exact ⟨rfl, hR _ _ hu' hv'⟩
theorem i_vc_eval {k : Nat} {u : SX} {v : SY} (I : i_Rel k u v) (hk : k + 4 ≤ 2050) (v1 : Int32) (v2 : Int32) (v3 : Int32) : wpX_eval (fun r u' => wpY_eval (fun r' v' => r' = r ∧ i_Rel (k + 4) u' v') v v1 v2 (lw_bz v3)) u v1 v2 (lw_bz v3) := by
  obtain ⟨mN, mR, rc, ph, nc, oc, cx, ap, P, R, rl, rj, rK, uc, D, ps, dc, dl, dj, dk, K, V, A, B, O, hok, hx, hy⟩ := I
  have hI : i_Rel (k + 4) u v := ⟨mN, mR, rc, ph, nc, oc, cx, ap, P, R, rl, rj, rK, uc, D, ps, dc, dl, dj, dk, K, V, A, B, O, hok, hx, hy⟩
  have hph := hok.2.2.2.2.2.1
  obtain ⟨f_maxNodes, f_maxRules, f_ruleCount, f_counterexample, f_optimized, f_nodeCount, f_outputCount, f_applications, a_preRelation, a_preVariable, a_preConstant, a_roomNeeded, a_useCount, a_treeSize, a_treeKind, a_treeValue, a_treeA, a_treeB, a_treeResult, a_constantValued, a_maximal, a_counterpart, a_boundNode, a_pending, a_pendingCount, a_nodeKind, a_nodeValue, a_nodeA, a_nodeB, a_nodeResult, a_nodeUses, a_outputNode, a_seen, a_order, a_walkStack⟩ := u
  obtain ⟨f_maxNodes', f_maxRules', f_phase', f_nCount', f_outCnt', f_apps', f_ruleCount', f_cex', f_curLive', f_orderN', a_alive', a_nKind', a_nVal', a_nA', a_nB', a_lv', a_nd', a_nv', a_outs', a_tKind', a_tVal', a_tA', a_tB', a_tN', a_preRel', a_preJ', a_preK', a_ruleUse', a_pend', a_pendN', a_tv', a_cv', a_mx', a_par', a_mp', a_res', a_bnd', a_order', a_stk', a_stSt'⟩ := v
  obtain ⟨e1, e2, e3, e4, e5, e6, e7, e8, h9, h10, h11, h12⟩ := hx
  obtain ⟨d1, d2, d3, d4, d5, d6, d7, d8, g9, g10, g11, g12⟩ := hy
  subst e1 e2 e3 e4 e5 e6 e7 e8 d1 d2 d3 d4 d5 d6 d7 d8
  have hok' := hok
  obtain ⟨o1, o2, o3, o4, o5, o6, o7, o8, o9, rk, rk2, q1, q2, q3, q4⟩ := hok
  by_cases h0 : v1 < 0
  · exact br_t h0 (br_t rfl (br_t h0 ⟨rfl, hI⟩))
  · obtain ⟨n, hn, rfl⟩ := nI_of h0
    refine br_f h0 (pk_le oc n (fun h => br_t rfl (br_f h0 (pk_lt n oc (fun h => absurd h (by omega)) (fun _ => ⟨rfl, hI⟩)))) (fun hno => br_f (by decide) ?_))
    have hY1 : ∀ {A B C : Prop}, B → (nI n < 0 → A) ∧ (¬ nI n < 0 → (nI n < nI oc → B) ∧ (¬ nI n < nI oc → C)) := fun b => br_f h0 (pk_lt n oc (fun _ => b) (fun h => absurd h (by omega)))
    have x0 : ∀ post : Int32 → SX → Prop, (∀ u', rx mN mR rc ph nc oc f_cex' f_apps' P R rl rj rK uc D ps dc dl dj dk K V A B O u' → post (pr_ev K V A B v2 32 (O (0 * 4 + n))) u') → wX_eval_25 post (nI n) v2 (nI mN) (nI mR) (nI rc) f_cex' (nI ph) (nI nc) (nI oc) f_apps' a_preRelation a_preVariable a_preConstant a_roomNeeded a_useCount a_treeSize a_treeKind a_treeValue a_treeA a_treeB a_treeResult a_constantValued a_maximal a_counterpart a_boundNode a_pending a_pendingCount a_nodeKind a_nodeValue a_nodeA a_nodeB a_nodeResult a_nodeUses a_outputNode a_seen a_order a_walkStack := fun post h =>
      x_eval26 (g := 0) (O := O) (by omega) hno o7 q1 h12.1 (gr_0 h12 q2) (fun nr' se' od' st' => h _ ⟨rfl, rfl, rfl, rfl, rfl, rfl, rfl, rfl, h9, h10, h11, h12⟩)
    have x1 : ph = 1 → ∀ post : Int32 → SX → Prop, (∀ u', rx mN mR rc ph nc oc f_cex' f_apps' P R rl rj rK uc D ps dc dl dj dk K V A B O u' → post (pr_ev K V A B v2 32 (O (1 * 4 + n))) u') → wX_eval_26 post (nI n) v2 1 (nI mN) (nI mR) (nI rc) f_cex' (nI ph) (nI nc) (nI oc) f_apps' a_preRelation a_preVariable a_preConstant a_roomNeeded a_useCount a_treeSize a_treeKind a_treeValue a_treeA a_treeB a_treeResult a_constantValued a_maximal a_counterpart a_boundNode a_pending a_pendingCount a_nodeKind a_nodeValue a_nodeA a_nodeB a_nodeResult a_nodeUses a_outputNode a_seen a_order a_walkStack := fun hp post h =>
      x_eval26 (g := 1) (O := O) (by omega) hno o7 (q4 hp).1 (h12.2.2 hp).1 (gr_1 h12 hp (q4 hp).2.1) (fun nr' se' od' st' => h _ ⟨rfl, rfl, rfl, rfl, rfl, rfl, rfl, rfl, h9, h10, h11, h12⟩)
    have y0 : ∀ u', rx mN mR rc ph nc oc f_cex' f_apps' P R rl rj rK uc D ps dc dl dj dk K V A B O u' → ∃ f, wY_eval_38 (fun r' v' => r' = pr_ev K V A B v2 32 (O (0 * 4 + n)) ∧ i_Rel (k + 4) u' v') (nI n) v2 0 (nI mN) (nI mR) (nI ph) (nI nc) (nI oc) f_apps' (nI rc) f_cex' f_curLive' f_orderN' f 0 a_alive' a_nKind' a_nVal' a_nA' a_nB' a_lv' a_nd' a_nv' a_outs' a_tKind' a_tVal' a_tA' a_tB' a_tN' a_preRel' a_preJ' a_preK' a_ruleUse' a_pend' a_pendN' a_tv' a_cv' a_mx' a_par' a_mp' a_res' a_bnd' a_order' a_stk' a_stSt' := fun u' hu' =>
      y_eval38 (g := 0) (O := O) (by omega) hno o7 q1 g12.1.1 g12.2.1 (gr_0 g12.1 q2) (fun nd' nv' => ⟨rfl, ⟨_, _, _, _, _, _, _, _, _, _, _, _, _, _, _, _, _, _, _, _, _, _, _, _, _, hok', hu', ⟨rfl, rfl, rfl, rfl, rfl, rfl, rfl, rfl, g9, g10, g11, g12⟩⟩⟩)
    have y1 : ph = 1 → ∀ u', rx mN mR rc ph nc oc f_cex' f_apps' P R rl rj rK uc D ps dc dl dj dk K V A B O u' → ∃ f, wY_eval_38 (fun r' v' => r' = pr_ev K V A B v2 32 (O (1 * 4 + n)) ∧ i_Rel (k + 4) u' v') (nI n) v2 32 (nI mN) (nI mR) (nI ph) (nI nc) (nI oc) f_apps' (nI rc) f_cex' f_curLive' f_orderN' f 32 a_alive' a_nKind' a_nVal' a_nA' a_nB' a_lv' a_nd' a_nv' a_outs' a_tKind' a_tVal' a_tA' a_tB' a_tN' a_preRel' a_preJ' a_preK' a_ruleUse' a_pend' a_pendN' a_tv' a_cv' a_mx' a_par' a_mp' a_res' a_bnd' a_order' a_stk' a_stSt' := fun hp u' hu' =>
      y_eval38 (g := 1) (O := O) (by omega) hno o7 (q4 hp).1 (g12.1.2.2 hp).1 (g12.2.2 hp) (gr_1 g12.1 hp (q4 hp).2.1) (fun nd' nv' => ⟨rfl, ⟨_, _, _, _, _, _, _, _, _, _, _, _, _, _, _, _, _, _, _, _, _, _, _, _, _, hok', hu', ⟨rfl, rfl, rfl, rfl, rfl, rfl, rfl, rfl, g9, g10, g11, g12⟩⟩⟩)
    rcases lw_bz_01 v3 with hb | hb
    · rw [hb]
      exact br_t rfl (x0 _ fun u' hu' => hY1 (br_t rfl (y0 u' hu')))
    · rw [hb]
      have hp : ph = 0 ∨ ph = 1 := by omega
      rcases hp with hp | hp
      · exact br_f (by decide) (br_t (by rw [hp]; rfl) (x0 _ fun u' hu' => hY1 (br_f (by decide) (br_f (by rw [hp]; decide) (y0 u' hu')))))
      · exact br_f (by decide) (br_f (by rw [hp]; decide) (x1 hp _ fun u' hu' => hY1 (br_f (by decide) (br_t (by rw [hp]; rfl) (y1 hp u' hu')))))
end
section
/-! judging the draft: the pure verdict; X -/
def pr_ph (rl rj rK : Nat) (v0 v1 : Int32) : Bool :=
  if rl = 1 then decide ((if rj = 0 then v0 else v1) = nI rK) else if rl = 2 then !decide ((if rj = 0 then v0 else v1) = nI rK) else if rl = 3 then !decide (nI rK ≤ (if rj = 0 then v0 else v1)) else if rl = 4 then !decide ((if rj = 0 then v0 else v1) < nI rK) else true
def jd_sh (P : pr_PT) (c0 c1 : Nat) : Prop := c0 = 1 ∧ c1 = 1 ∧ pt_k P (pt_n P - 1) ≤ 10
def jd_vf (P R : pr_PT) : Prop := ∀ j, j < 2 → ¬ (pt_has P 13 j = true ∧ pt_has P 14 j = true) ∧ (pt_has P 13 j = false → pt_has P 14 j = false → pt_has R 13 j = false)
def jd_pf (P : pr_PT) (dl dj : Nat) : Prop := dl ≠ 0 → pt_has P 14 dj = true
def jd_hi (P : pr_PT) (j : Nat) : Nat := if pt_has P 13 j = true ∨ pt_has P 14 j = true then 255 else 0
def jd_bad (P R : pr_PT) (dl dj dk a b : Nat) : Prop := pr_ph dl dj dk (nI a) (nI b) = true ∧ pt_tv P (nI a) (nI b) (pt_n P - 1) ≠ pt_tv R (nI a) (nI b) (pt_n R - 1)
def jd_first (P R : pr_PT) (dl dj dk a b : Nat) : Prop := a ≤ jd_hi P 0 ∧ b ≤ jd_hi P 1 ∧ jd_bad P R dl dj dk a b ∧ (∀ a' b', a' < a → b' ≤ jd_hi P 1 → ¬ jd_bad P R dl dj dk a' b') ∧ ∀ b', b' < b → ¬ jd_bad P R dl dj dk a b'
def jd_none (P R : pr_PT) (dl dj dk : Nat) : Prop := ∀ a b, a ≤ jd_hi P 0 → b ≤ jd_hi P 1 → ¬ jd_bad P R dl dj dk a b
def jd_ok (rc mR : Nat) (P R : pr_PT) (c0 c1 dl dj dk : Nat) (q : Nat) : Prop :=
  (1 ≤ q → rc ≠ mR) ∧ (2 ≤ q → jd_sh P c0 c1) ∧ (3 ≤ q → jd_vf P R) ∧ (4 ≤ q → jd_pf P dl dj) ∧ (5 ≤ q → pt_rw R (pt_has P 14) < pt_pw P)
/-- the verdict v with the counterexample c -/
def jd_v (rc mR : Nat) (P R : pr_PT) (c0 c1 dl dj dk : Nat) (v : Nat) (c : Int32) : Prop :=
  (v = 1 ∧ c = -1 ∧ rc = mR) ∨ (v = 2 ∧ c = -1 ∧ jd_ok rc mR P R c0 c1 dl dj dk 1 ∧ ¬ jd_sh P c0 c1) ∨ (v = 3 ∧ c = -1 ∧ jd_ok rc mR P R c0 c1 dl dj dk 2 ∧ ¬ jd_vf P R) ∨ (v = 4 ∧ c = -1 ∧ jd_ok rc mR P R c0 c1 dl dj dk 3 ∧ ¬ jd_pf P dl dj) ∨
  (v = 5 ∧ c = -1 ∧ jd_ok rc mR P R c0 c1 dl dj dk 4 ∧ ¬ pt_rw R (pt_has P 14) < pt_pw P) ∨ (v = 6 ∧ jd_ok rc mR P R c0 c1 dl dj dk 5 ∧ ∃ a b, jd_first P R dl dj dk a b ∧ c = nI a + 256 * nI b) ∨ (v = 0 ∧ c = -1 ∧ jd_ok rc mR P R c0 c1 dl dj dk 5 ∧ jd_none P R dl dj dk)
theorem jd_first_u {P R : pr_PT} {dl dj dk a b a' b' : Nat} (h : jd_first P R dl dj dk a b) (h' : jd_first P R dl dj dk a' b') : a = a' ∧ b = b' := by
  obtain ⟨h1, h2, h3, h4, h5⟩ := h
  obtain ⟨k1, k2, k3, k4, k5⟩ := h'
  have e : a = a' := by
    apply Classical.byContradiction
    intro hne
    by_cases hl : a < a'
    · exact k4 a b hl h2 h3
    · exact h4 a' b' (by omega) k2 k3
  subst e
  refine ⟨rfl, ?_⟩
  apply Classical.byContradiction
  intro hne
  by_cases hl : b < b'
  · exact k5 b hl h3
  · exact h5 b' (by omega) k3
theorem jd_u {rc mR : Nat} {P R : pr_PT} {c0 c1 dl dj dk v v' : Nat} {c c' : Int32} (h : jd_v rc mR P R c0 c1 dl dj dk v c) (h' : jd_v rc mR P R c0 c1 dl dj dk v' c') : v = v' ∧ c = c' := by
  rcases h with ⟨e, ec, x⟩ | ⟨e, ec, x, x'⟩ | ⟨e, ec, x, x'⟩ | ⟨e, ec, x, x'⟩ | ⟨e, ec, x, x'⟩ | ⟨e, x, a, b, x', ec⟩ | ⟨e, ec, x, x'⟩ <;>
  rcases h' with ⟨f, fc, y⟩ | ⟨f, fc, y, y'⟩ | ⟨f, fc, y, y'⟩ | ⟨f, fc, y, y'⟩ | ⟨f, fc, y, y'⟩ | ⟨f, y, a', b', y', fc⟩ | ⟨f, fc, y, y'⟩
  all_goals first
    | exact ⟨e.trans f.symm, ec.trans fc.symm⟩
    | exact absurd x (y.1 (by omega))
    | exact absurd y (x.1 (by omega))
    | exact absurd (y.2.1 (by omega)) x'
    | exact absurd (x.2.1 (by omega)) y'
    | exact absurd (y.2.2.1 (by omega)) x'
    | exact absurd (x.2.2.1 (by omega)) y'
    | exact absurd (y.2.2.2.1 (by omega)) x'
    | exact absurd (x.2.2.2.1 (by omega)) y'
    | exact absurd (y.2.2.2.2 (by omega)) x'
    | exact absurd (x.2.2.2.2 (by omega)) y'
    | exact absurd y'.2.2.1 (x' a' b' y'.1 y'.2.1)
    | exact absurd x'.2.2.1 (y' a b x'.1 x'.2.1)
    | (obtain ⟨e1, e2⟩ := jd_first_u x' y'
       subst e1 e2
       exact ⟨e.trans f.symm, ec.trans fc.symm⟩)
section XQ
variable {f_maxNodes f_maxRules f_ruleCount f_counterexample f_optimized f_nodeCount f_outputCount f_applications : Int32} {a_preRelation a_preVariable a_preConstant a_roomNeeded a_useCount a_treeSize a_treeKind a_treeValue a_treeA a_treeB a_treeResult a_constantValued a_maximal a_counterpart a_boundNode a_pending a_pendingCount a_nodeKind a_nodeValue a_nodeA a_nodeB a_nodeResult a_nodeUses a_outputNode a_seen a_order a_walkStack : Nat → Int32}
variable {post : Int32 → Prop} {r rl rj rK : Nat} {v0 v1 : Int32}
theorem x_preHolds (hr : r < 17) (h4 : rl ≤ 4) (hj : rl ≠ 0 → rj < 2) (hpe : pe_at r rl rj rK a_preRelation a_preVariable a_preConstant) (h : post (pr_b (pr_ph rl rj rK v0 v1))) : wpX_preconditionHolds post (f_maxNodes, f_maxRules, f_ruleCount, f_counterexample, f_optimized, f_nodeCount, f_outputCount, f_applications, a_preRelation, a_preVariable, a_preConstant, a_roomNeeded, a_useCount, a_treeSize, a_treeKind, a_treeValue, a_treeA, a_treeB, a_treeResult, a_constantValued, a_maximal, a_counterpart, a_boundNode, a_pending, a_pendingCount, a_nodeKind, a_nodeValue, a_nodeA, a_nodeB, a_nodeResult, a_nodeUses, a_outputNode, a_seen, a_order, a_walkStack) (nI r) v0 v1 := by
  have hin : vp_in (nI r) 17 := pk_in r 17 hr
  have hcl : (nI r).toNatClampNeg = r := nI_clamp (by omega)
  have h14 : ∀ z, (rl ≠ 0 → z = (if rj = 0 then v0 else v1)) → wX_preconditionHolds_14 post (nI r) z f_maxNodes f_maxRules f_ruleCount f_counterexample f_optimized f_nodeCount f_outputCount f_applications a_preRelation a_preVariable a_preConstant a_roomNeeded a_useCount a_treeSize a_treeKind a_treeValue a_treeA a_treeB a_treeResult a_constantValued a_maximal a_counterpart a_boundNode a_pending a_pendingCount a_nodeKind a_nodeValue a_nodeA a_nodeB a_nodeResult a_nodeUses a_outputNode a_seen a_order a_walkStack := by
    intro z hz
    unfold pr_ph at h
    refine ⟨hin, ?_⟩
    rw [hcl]
    refine nm_e ⟨hin, nm_r hpe.1 ?_⟩
    refine pk_lt rl 1 (fun h1 => ?_) (fun h1 => pk_lt 4 rl (fun h => absurd h (by omega)) (fun _ => ?_))
    · rw [if_neg (by omega), if_neg (by omega), if_neg (by omega), if_neg (by omega)] at h
      exact h
    · rw [(hpe.2 (by omega)).2]
      rw [← hz (by omega)] at h
      refine pk_eq rl 1 (fun e => ?_) (fun n1 => pk_eq rl 2 (fun e => ?_) (fun n2 => pk_eq rl 3 (fun e => ?_) (fun n3 => pk_eq rl 4 (fun e => ?_) (fun _ => trivial))))
      · rw [if_pos e] at h
        refine br_c (fun hc => ?_) (fun hc => ?_)
        · rw [decide_eq_true hc] at h
          exact h
        · rw [decide_eq_false hc] at h
          exact h
      · rw [if_neg n1, if_pos e] at h
        refine br_c (fun hc => ?_) (fun hc => ?_)
        · rw [decide_eq_true hc] at h
          exact h
        · rw [decide_eq_false hc] at h
          exact h
      · rw [if_neg n1, if_neg n2, if_pos e] at h
        refine br_c (fun hc => ?_) (fun hc => ?_)
        · rw [decide_eq_true hc] at h
          exact h
        · rw [decide_eq_false hc] at h
          exact h
      · rw [if_neg n1, if_neg n2, if_neg n3, if_pos e] at h
        refine br_c (fun hc => ?_) (fun hc => ?_)
        · rw [decide_eq_true hc] at h
          exact h
        · rw [decide_eq_false hc] at h
          exact h
  unfold wpX_preconditionHolds
  refine ⟨hin, ?_⟩
  rw [hcl]
  refine br_c (fun hz => h14 _ fun hl => ?_) (fun hz => h14 _ fun hl => ?_)
  · have := (hpe.2 hl).1
    rw [this, pr_eq0 (by have := hj hl; omega)] at hz
    rw [if_pos hz]
  · have := (hpe.2 hl).1
    rw [this, pr_eq0 (by have := hj hl; omega)] at hz
    rw [if_neg hz]
end XQ
section XR
variable {f_maxNodes f_maxRules f_ruleCount f_counterexample f_optimized f_nodeCount f_outputCount f_applications : Int32} {a_preRelation a_preVariable a_preConstant a_roomNeeded a_useCount a_treeSize a_treeKind a_treeValue a_treeA a_treeB a_treeResult a_constantValued a_maximal a_counterpart a_boundNode a_pending a_pendingCount a_nodeKind a_nodeValue a_nodeA a_nodeB a_nodeResult a_nodeUses a_outputNode a_seen a_order a_walkStack : Nat → Int32}
variable {rc : Nat} {P R : pr_PT} {c0 c1 dl dj dk : Nat}
theorem x_shape {post : Int32 → Prop} (hrc : rc ≤ 16) (hP : pt_ok P) (hT : tr_at ((rc * 2 + 0) * 8) (rc * 2 + 0) P a_treeSize a_treeKind a_treeValue a_treeA a_treeB) (e0 : a_pendingCount 0 = nI c0) (e1 : a_pendingCount 1 = nI c1) (hc0 : c0 ≤ pt_n P) (hc1 : c1 ≤ 8)
    (hy : jd_sh P c0 c1 → post 1) (hno : ¬ jd_sh P c0 c1 → post 0) : wpX_draftHasShape post (f_maxNodes, f_maxRules, (nI rc), f_counterexample, f_optimized, f_nodeCount, f_outputCount, f_applications, a_preRelation, a_preVariable, a_preConstant, a_roomNeeded, a_useCount, a_treeSize, a_treeKind, a_treeValue, a_treeA, a_treeB, a_treeResult, a_constantValued, a_maximal, a_counterpart, a_boundNode, a_pending, a_pendingCount, a_nodeKind, a_nodeValue, a_nodeA, a_nodeB, a_nodeResult, a_nodeUses, a_outputNode, a_seen, a_order, a_walkStack) := by
  have h8 := hP.1
  unfold wpX_draftHasShape
  refine pk_eq c0 1 (fun h0 => pk_eq c1 1 (fun h1 => ?_) (fun h1 => hno fun h => h1 h.2.1) e1) (fun h0 => hno fun h => h0 h.1) e0
  refine x_treeOf rc 0 ?_
  refine x_endOf (by omega) hT.1 ?_
  have e : nI ((rc * 2 + 0) * 8 + pt_n P) - 1 = nI ((rc * 2 + 0) * 8 + (pt_n P - 1)) := by
    rw [pr_s1 (by omega)]
    exact congrArg nI (by omega)
  rw [e]
  refine ⟨pk_in ((rc * 2 + 0) * 8 + (pt_n P - 1)) 272 (by omega), ?_⟩
  rw [nI_clamp (by omega), (hT.2 (pt_n P - 1) (by omega)).1]
  have hn := (hP.2 (pt_n P - 1) (by omega)).1
  have har := pr_ar_c (pt_k P (pt_n P - 1))
  refine x_arity (by omega) (pk_le (pr_ar (pt_k P (pt_n P - 1))) 0 (fun ha => hno fun h => ?_) (fun ha => hy ⟨h0, h1, by omega⟩) rfl rfl (by omega))
  have := h.2.2
  omega
theorem x_varFit {post : Int32 → Prop} (hrc : rc ≤ 16) (hP : pt_ok P) (hR : pt_ok R) (hT : tr_at ((rc * 2 + 0) * 8) (rc * 2 + 0) P a_treeSize a_treeKind a_treeValue a_treeA a_treeB) (hU : tr_at ((rc * 2 + 1) * 8) (rc * 2 + 1) R a_treeSize a_treeKind a_treeValue a_treeA a_treeB)
    (hy : jd_vf P R → post 1) (hno : ¬ jd_vf P R → post 0) : wpX_variablesFit post (f_maxNodes, f_maxRules, f_ruleCount, f_counterexample, f_optimized, f_nodeCount, f_outputCount, f_applications, a_preRelation, a_preVariable, a_preConstant, a_roomNeeded, a_useCount, a_treeSize, a_treeKind, a_treeValue, a_treeA, a_treeB, a_treeResult, a_constantValued, a_maximal, a_counterpart, a_boundNode, a_pending, a_pendingCount, a_nodeKind, a_nodeValue, a_nodeA, a_nodeB, a_nodeResult, a_nodeUses, a_outputNode, a_seen, a_order, a_walkStack) (nI rc) := by
  unfold wpX_variablesFit
  refine x_treeOf rc 0 ?_
  refine x_treeOf rc 1 ⟨3, ?_⟩
  have step : ∀ d j, j + d = 2 → (∀ i, i < j → ¬ (pt_has P 13 i = true ∧ pt_has P 14 i = true) ∧ (pt_has P 13 i = false → pt_has P 14 i = false → pt_has R 13 i = false)) → wX_variablesFit_15 post (nI (rc * 2 + 0)) (nI (rc * 2 + 1)) f_maxNodes f_maxRules f_ruleCount f_counterexample f_optimized f_nodeCount f_outputCount f_applications a_preRelation a_preVariable a_preConstant a_roomNeeded a_useCount a_treeSize a_treeKind a_treeValue a_treeA a_treeB a_treeResult a_constantValued a_maximal a_counterpart a_boundNode a_pending a_pendingCount a_nodeKind a_nodeValue a_nodeA a_nodeB a_nodeResult a_nodeUses a_outputNode a_seen a_order a_walkStack (d + 1) (nI j) := by
    intro d
    induction d with
    | zero =>
      intro j hj h
      exact pk_le 2 j (fun _ => hy fun i hi => h i (by omega)) (fun h => absurd h (by omega))
    | succ d ih =>
      intro j hj h
      refine pk_le 2 j (fun h => absurd h (by omega)) (fun _ => ?_)
      refine x_occurs (by omega) hP hT (by decide) (by omega) ?_
      refine x_occurs (by omega) hP hT (by decide) (by omega) ?_
      have h55 : ¬ (pt_has P 13 j = true ∧ pt_has P 14 j = true) → wX_variablesFit_55 post (wX_variablesFit_15 post (nI (rc * 2 + 0)) (nI (rc * 2 + 1)) f_maxNodes f_maxRules f_ruleCount f_counterexample f_optimized f_nodeCount f_outputCount f_applications a_preRelation a_preVariable a_preConstant a_roomNeeded a_useCount a_treeSize a_treeKind a_treeValue a_treeA a_treeB a_treeResult a_constantValued a_maximal a_counterpart a_boundNode a_pending a_pendingCount a_nodeKind a_nodeValue a_nodeA a_nodeB a_nodeResult a_nodeUses a_outputNode a_seen a_order a_walkStack (d + 1)) (nI (rc * 2 + 0)) (nI (rc * 2 + 1)) (nI j) (pr_b (pt_has P 13 j)) (pr_b (pt_has P 14 j)) f_maxNodes f_maxRules f_ruleCount f_counterexample f_optimized f_nodeCount f_outputCount f_applications a_preRelation a_preVariable a_preConstant a_roomNeeded a_useCount a_treeSize a_treeKind a_treeValue a_treeA a_treeB a_treeResult a_constantValued a_maximal a_counterpart a_boundNode a_pending a_pendingCount a_nodeKind a_nodeValue a_nodeA a_nodeB a_nodeResult a_nodeUses a_outputNode a_seen a_order a_walkStack := by
        intro hn
        have nx : (pt_has P 13 j = false → pt_has P 14 j = false → pt_has R 13 j = false) → wX_variablesFit_15 post (nI (rc * 2 + 0)) (nI (rc * 2 + 1)) f_maxNodes f_maxRules f_ruleCount f_counterexample f_optimized f_nodeCount f_outputCount f_applications a_preRelation a_preVariable a_preConstant a_roomNeeded a_useCount a_treeSize a_treeKind a_treeValue a_treeA a_treeB a_treeResult a_constantValued a_maximal a_counterpart a_boundNode a_pending a_pendingCount a_nodeKind a_nodeValue a_nodeA a_nodeB a_nodeResult a_nodeUses a_outputNode a_seen a_order a_walkStack (d + 1) (nI (j + 1)) := by
          intro hj2
          refine ih (j + 1) (by omega) fun i hi => ?_
          by_cases e : i = j
          · rw [e]
            exact ⟨hn, hj2⟩
          · exact h i (by omega)
        refine br_c (fun z0 => br_c (fun z1 => ?_) (fun z1 => nm_r (nI_1 _) (nx fun _ hh => absurd (by rw [hh]; rfl) z1))) (fun z0 => nm_r (nI_1 _) (nx fun hh _ => absurd (by rw [hh]; rfl) z0))
        refine x_occurs (by omega) hR hU (by decide) (by omega) ?_
        refine br_c (fun z2 => nm_r (nI_1 _) (nx fun _ _ => (pr_b0 _).mp z2)) (fun z2 => hno fun hv => ?_)
        have := (hv j (by omega)).2 ((pr_b0 _).mp z0) ((pr_b0 _).mp z1)
        rw [this] at z2
        exact z2 rfl
      refine br_c (fun z0 => h55 fun hh => ?_) (fun z0 => br_c (fun z1 => h55 fun hh => ?_) (fun z1 => hno fun hv => (hv j (by omega)).1 ⟨?_, ?_⟩))
      · have := (pr_b0 _).mp z0
        rw [hh.1] at this
        cases this
      · have := (pr_b0 _).mp z1
        rw [hh.2] at this
        cases this
      · cases hx : pt_has P 13 j with
        | true => rfl
        | false => rw [hx] at z0; exact absurd rfl z0
      · cases hx : pt_has P 14 j with
        | true => rfl
        | false => rw [hx] at z1; exact absurd rfl z1
  exact step 2 0 (by omega) (fun i hi => absurd hi (by omega))
theorem x_preFit {post : Int32 → Prop} (hrc : rc ≤ 16) (hP : pt_ok P) (hd : dl ≠ 0 → dj < 2) (hdl : dl ≤ 4) (hT : tr_at ((rc * 2 + 0) * 8) (rc * 2 + 0) P a_treeSize a_treeKind a_treeValue a_treeA a_treeB) (hpe : pe_at rc dl dj dk a_preRelation a_preVariable a_preConstant)
    (hy : jd_pf P dl dj → post 1) (hno : ¬ jd_pf P dl dj → post 0) : wpX_preconditionFits post (f_maxNodes, f_maxRules, f_ruleCount, f_counterexample, f_optimized, f_nodeCount, f_outputCount, f_applications, a_preRelation, a_preVariable, a_preConstant, a_roomNeeded, a_useCount, a_treeSize, a_treeKind, a_treeValue, a_treeA, a_treeB, a_treeResult, a_constantValued, a_maximal, a_counterpart, a_boundNode, a_pending, a_pendingCount, a_nodeKind, a_nodeValue, a_nodeA, a_nodeB, a_nodeResult, a_nodeUses, a_outputNode, a_seen, a_order, a_walkStack) (nI rc) := by
  have hin : vp_in (nI rc) 17 := pk_in rc 17 (by omega)
  unfold wpX_preconditionFits
  refine x_treeOf rc 0 ⟨hin, ?_⟩
  rw [nI_clamp (by omega), hpe.1]
  refine pk_eq dl 0 (fun e => hy fun h => absurd e h) (fun e => ⟨hin, ?_⟩)
  rw [(hpe.2 e).1]
  have hj := hd e
  refine x_occurs (by omega) hP hT (by decide) (by omega) (br_c (fun z => hno fun h => ?_) (fun z => hy fun _ => ?_))
  · have := h e
    rw [(pr_b0 _).mp z] at this
    cases this
  · cases hx : pt_has P 14 dj with
    | true => rfl
    | false => rw [hx] at z; exact absurd rfl z
theorem x_lastV {post : Int32 → Prop} {j : Nat} (hj : j < 2) (hrc : rc ≤ 16) (hP : pt_ok P) (hT : tr_at ((rc * 2 + 0) * 8) (rc * 2 + 0) P a_treeSize a_treeKind a_treeValue a_treeA a_treeB) (h : post (nI (jd_hi P j))) : wpX_lastValueOf post (f_maxNodes, f_maxRules, f_ruleCount, f_counterexample, f_optimized, f_nodeCount, f_outputCount, f_applications, a_preRelation, a_preVariable, a_preConstant, a_roomNeeded, a_useCount, a_treeSize, a_treeKind, a_treeValue, a_treeA, a_treeB, a_treeResult, a_constantValued, a_maximal, a_counterpart, a_boundNode, a_pending, a_pendingCount, a_nodeKind, a_nodeValue, a_nodeA, a_nodeB, a_nodeResult, a_nodeUses, a_outputNode, a_seen, a_order, a_walkStack) (nI rc) (nI j) := by
  unfold wpX_lastValueOf
  unfold jd_hi at h
  refine x_treeOf rc 0 ?_
  refine x_occurs (by omega) hP hT (by decide) (by omega) (br_c (fun z => ?_) (fun z => ?_))
  · refine x_occurs (by omega) hP hT (by decide) (by omega) (br_c (fun z1 => ?_) (fun z1 => ?_))
    · rw [if_neg (fun hh => by
        rw [(pr_b0 _).mp z, (pr_b0 _).mp z1] at hh
        rcases hh with y | y <;> cases y)] at h
      exact h
    · rw [if_pos (Or.inr (by
        cases hx : pt_has P 14 j with
        | true => rfl
        | false => rw [hx] at z1; exact absurd rfl z1))] at h
      exact h
  · rw [if_pos (Or.inl (by
      cases hx : pt_has P 13 j with
      | true => rfl
      | false => rw [hx] at z; exact absurd rfl z))] at h
    exact h
theorem jd_hi_le (P : pr_PT) (j : Nat) : jd_hi P j ≤ 255 := by
  unfold jd_hi
  by_cases h : pt_has P 13 j = true ∨ pt_has P 14 j = true
  · rw [if_pos h]
    omega
  · rw [if_neg h]
    omega
end XR
section XS
variable {f_maxNodes f_maxRules f_ruleCount f_counterexample f_optimized f_nodeCount f_outputCount f_applications : Int32} {a_preRelation a_preVariable a_preConstant a_roomNeeded a_useCount a_treeSize a_treeKind a_treeValue a_treeA a_treeB a_treeResult a_constantValued a_maximal a_counterpart a_boundNode a_pending a_pendingCount a_nodeKind a_nodeValue a_nodeA a_nodeB a_nodeResult a_nodeUses a_outputNode a_seen a_order a_walkStack : Nat → Int32}
variable {rc : Nat} {P R : pr_PT} {dl dj dk : Nat} {post : Int32 → SX → Prop}
theorem x_ff41 {J31 : Int32 → Int32 → Int32 → Int32 → Int32 → Int32 → Int32 → Int32 → Int32 → (Nat → Int32) → (Nat → Int32) → (Nat → Int32) → (Nat → Int32) → (Nat → Int32) → (Nat → Int32) → (Nat → Int32) → (Nat → Int32) → (Nat → Int32) → (Nat → Int32) → (Nat → Int32) → (Nat → Int32) → (Nat → Int32) → (Nat → Int32) → (Nat → Int32) → (Nat → Int32) → (Nat → Int32) → (Nat → Int32) → (Nat → Int32) → (Nat → Int32) → (Nat → Int32) → (Nat → Int32) → (Nat → Int32) → (Nat → Int32) → (Nat → Int32) → (Nat → Int32) → (Nat → Int32) → Prop} {a : Nat} {x4 : Int32} (hrc : rc ≤ 16) (hP : pt_ok P) (hR : pt_ok R) (hP0 : 0 < pt_n P) (hR0 : 0 < pt_n R) (hd : dl ≠ 0 → dj < 2) (hdl : dl ≤ 4) (hT : tr_at ((rc * 2 + 0) * 8) (rc * 2 + 0) P a_treeSize a_treeKind a_treeValue a_treeA a_treeB) (hU : tr_at ((rc * 2 + 1) * 8) (rc * 2 + 1) R a_treeSize a_treeKind a_treeValue a_treeA a_treeB) (hpe : pe_at rc dl dj dk a_preRelation a_preVariable a_preConstant)
    (hJ : ∀ tr', (∀ b, b ≤ jd_hi P 1 → ¬ jd_bad P R dl dj dk a b) → J31 (nI (a + 1)) f_maxNodes f_maxRules f_ruleCount f_counterexample f_optimized f_nodeCount f_outputCount f_applications a_preRelation a_preVariable a_preConstant a_roomNeeded a_useCount a_treeSize a_treeKind a_treeValue a_treeA a_treeB tr' a_constantValued a_maximal a_counterpart a_boundNode a_pending a_pendingCount a_nodeKind a_nodeValue a_nodeA a_nodeB a_nodeResult a_nodeUses a_outputNode a_seen a_order a_walkStack)
    (hb : ∀ b tr', b ≤ jd_hi P 1 → jd_bad P R dl dj dk a b → (∀ b', b' < b → ¬ jd_bad P R dl dj dk a b') → post (nI a + 256 * nI b) (f_maxNodes, f_maxRules, f_ruleCount, f_counterexample, f_optimized, f_nodeCount, f_outputCount, f_applications, a_preRelation, a_preVariable, a_preConstant, a_roomNeeded, a_useCount, a_treeSize, a_treeKind, a_treeValue, a_treeA, a_treeB, tr', a_constantValued, a_maximal, a_counterpart, a_boundNode, a_pending, a_pendingCount, a_nodeKind, a_nodeValue, a_nodeA, a_nodeB, a_nodeResult, a_nodeUses, a_outputNode, a_seen, a_order, a_walkStack)) :
    ∀ d b tr, b + d = jd_hi P 1 + 1 → (∀ b', b' < b → ¬ jd_bad P R dl dj dk a b') → wX_firstFailure_41 post J31 (nI rc) (nI (rc * 2 + 0)) (nI (rc * 2 + 1)) x4 (nI (jd_hi P 1)) (nI a) (d + 1) (nI b) f_maxNodes f_maxRules f_ruleCount f_counterexample f_optimized f_nodeCount f_outputCount f_applications a_preRelation a_preVariable a_preConstant a_roomNeeded a_useCount a_treeSize a_treeKind a_treeValue a_treeA a_treeB tr a_constantValued a_maximal a_counterpart a_boundNode a_pending a_pendingCount a_nodeKind a_nodeValue a_nodeA a_nodeB a_nodeResult a_nodeUses a_outputNode a_seen a_order a_walkStack := by
  intro d
  have hh := jd_hi_le P 1
  induction d with
  | zero =>
    intro b tr hb' h
    exact pk_lt (jd_hi P 1) b (fun _ => nm_r (nI_1 _) (hJ tr fun b hb'' => h b (by omega))) (fun h => absurd h (by omega))
  | succ d ih =>
    intro b tr hb' h
    refine pk_lt (jd_hi P 1) b (fun h => absurd h (by omega)) (fun _ => ?_)
    have nx : ∀ tr', ¬ jd_bad P R dl dj dk a b → wX_firstFailure_41 post J31 (nI rc) (nI (rc * 2 + 0)) (nI (rc * 2 + 1)) x4 (nI (jd_hi P 1)) (nI a) (d + 1) (nI (b + 1)) f_maxNodes f_maxRules f_ruleCount f_counterexample f_optimized f_nodeCount f_outputCount f_applications a_preRelation a_preVariable a_preConstant a_roomNeeded a_useCount a_treeSize a_treeKind a_treeValue a_treeA a_treeB tr' a_constantValued a_maximal a_counterpart a_boundNode a_pending a_pendingCount a_nodeKind a_nodeValue a_nodeA a_nodeB a_nodeResult a_nodeUses a_outputNode a_seen a_order a_walkStack := by
      intro tr' hn
      refine ih (b + 1) tr' (by omega) fun b' hb'' => ?_
      by_cases e : b' = b
      · rw [e]
        exact hn
      · exact h b' (by omega)
    refine x_preHolds (by omega) hdl hd hpe (br_c (fun z => nm_r (nI_1 _) (nx tr fun hx => ?_)) (fun z => ?_))
    · have := hx.1
      rw [(pr_b0 _).mp z] at this
      cases this
    · have hph : pr_ph dl dj dk (nI a) (nI b) = true := by
        cases hx : pr_ph dl dj dk (nI a) (nI b) with
        | true => rfl
        | false => rw [hx] at z; exact absurd rfl z
      refine x_evaluateTree (by omega) hP hP0 hT (fun tr1 _ => ?_)
      refine x_evaluateTree (by omega) hR hR0 hU (fun tr2 _ => ?_)
      refine br_c (fun e => nm_r (nI_1 _) (nx tr2 fun hx => hx.2 e)) (fun e => hb b tr2 (by omega) ⟨hph, e⟩ h)
theorem x_ff (hrc : rc ≤ 16) (hP : pt_ok P) (hR : pt_ok R) (hP0 : 0 < pt_n P) (hR0 : 0 < pt_n R) (hd : dl ≠ 0 → dj < 2) (hdl : dl ≤ 4) (hT : tr_at ((rc * 2 + 0) * 8) (rc * 2 + 0) P a_treeSize a_treeKind a_treeValue a_treeA a_treeB) (hU : tr_at ((rc * 2 + 1) * 8) (rc * 2 + 1) R a_treeSize a_treeKind a_treeValue a_treeA a_treeB) (hpe : pe_at rc dl dj dk a_preRelation a_preVariable a_preConstant)
    (hn : ∀ tr', jd_none P R dl dj dk → post (-1) (f_maxNodes, f_maxRules, f_ruleCount, f_counterexample, f_optimized, f_nodeCount, f_outputCount, f_applications, a_preRelation, a_preVariable, a_preConstant, a_roomNeeded, a_useCount, a_treeSize, a_treeKind, a_treeValue, a_treeA, a_treeB, tr', a_constantValued, a_maximal, a_counterpart, a_boundNode, a_pending, a_pendingCount, a_nodeKind, a_nodeValue, a_nodeA, a_nodeB, a_nodeResult, a_nodeUses, a_outputNode, a_seen, a_order, a_walkStack))
    (hb : ∀ a b tr', jd_first P R dl dj dk a b → post (nI a + 256 * nI b) (f_maxNodes, f_maxRules, f_ruleCount, f_counterexample, f_optimized, f_nodeCount, f_outputCount, f_applications, a_preRelation, a_preVariable, a_preConstant, a_roomNeeded, a_useCount, a_treeSize, a_treeKind, a_treeValue, a_treeA, a_treeB, tr', a_constantValued, a_maximal, a_counterpart, a_boundNode, a_pending, a_pendingCount, a_nodeKind, a_nodeValue, a_nodeA, a_nodeB, a_nodeResult, a_nodeUses, a_outputNode, a_seen, a_order, a_walkStack)) : wpX_firstFailure post (f_maxNodes, f_maxRules, f_ruleCount, f_counterexample, f_optimized, f_nodeCount, f_outputCount, f_applications, a_preRelation, a_preVariable, a_preConstant, a_roomNeeded, a_useCount, a_treeSize, a_treeKind, a_treeValue, a_treeA, a_treeB, a_treeResult, a_constantValued, a_maximal, a_counterpart, a_boundNode, a_pending, a_pendingCount, a_nodeKind, a_nodeValue, a_nodeA, a_nodeB, a_nodeResult, a_nodeUses, a_outputNode, a_seen, a_order, a_walkStack) (nI rc) := by
  have hh := jd_hi_le P 0
  have l31 : ∀ d a tr, a + d = jd_hi P 0 + 1 → (∀ a' b', a' < a → b' ≤ jd_hi P 1 → ¬ jd_bad P R dl dj dk a' b') → wX_firstFailure_31 post (nI rc) (nI (rc * 2 + 0)) (nI (rc * 2 + 1)) (nI (jd_hi P 0)) (nI (jd_hi P 1)) (d + 1) (nI a) f_maxNodes f_maxRules f_ruleCount f_counterexample f_optimized f_nodeCount f_outputCount f_applications a_preRelation a_preVariable a_preConstant a_roomNeeded a_useCount a_treeSize a_treeKind a_treeValue a_treeA a_treeB tr a_constantValued a_maximal a_counterpart a_boundNode a_pending a_pendingCount a_nodeKind a_nodeValue a_nodeA a_nodeB a_nodeResult a_nodeUses a_outputNode a_seen a_order a_walkStack := by
    intro d
    induction d with
    | zero =>
      intro a tr ha h
      exact pk_lt (jd_hi P 0) a (fun _ => hn tr fun a' b' h1 h2 => h a' b' (by omega) h2) (fun h => absurd h (by omega))
    | succ d ih =>
      intro a tr ha h
      refine pk_lt (jd_hi P 0) a (fun h => absurd h (by omega)) (fun _ => ⟨jd_hi P 1 + 1 + 1, ?_⟩)
      refine x_ff41 hrc hP hR hP0 hR0 hd hdl hT hU hpe (fun tr' h' => ih (a + 1) tr' (by omega) fun a' b' h1 h2 => ?_) (fun b tr' h1 h2 h3 => hb a b tr' ⟨by omega, h1, h2, h, h3⟩) (jd_hi P 1 + 1) 0 tr (by omega) (fun b' h => absurd h (by omega))
      by_cases e : a' = a
      · rw [e]
        exact h' b' h2
      · exact h a' b' (by omega) h2
  unfold wpX_firstFailure
  refine x_treeOf rc 0 ?_
  refine x_treeOf rc 1 ?_
  refine x_lastV (j := 0) (by omega) hrc hP hT ?_
  refine x_lastV (j := 1) (by omega) hrc hP hT ⟨jd_hi P 0 + 1 + 1, ?_⟩
  exact l31 (jd_hi P 0 + 1) 0 a_treeResult (by omega) (fun a' b' h => absurd h (by omega))
end XS
section XT
variable {f_maxNodes f_maxRules f_ruleCount f_counterexample f_optimized f_nodeCount f_outputCount f_applications : Int32} {a_preRelation a_preVariable a_preConstant a_roomNeeded a_useCount a_treeSize a_treeKind a_treeValue a_treeA a_treeB a_treeResult a_constantValued a_maximal a_counterpart a_boundNode a_pending a_pendingCount a_nodeKind a_nodeValue a_nodeA a_nodeB a_nodeResult a_nodeUses a_outputNode a_seen a_order a_walkStack : Nat → Int32}
variable {rc mR : Nat} {P R : pr_PT} {c0 c1 dl dj dk : Nat} {post : Int32 → SX → Prop}
theorem x_judge {ps0 ps1 : Nat → Nat} (hrc : rc ≤ mR) (hmR : mR ≤ 16) (hP : pt_ok P) (hR : pt_ok R) (hp0 : pd_ok P ps0 c0) (hp1 : pd_ok R ps1 c1) (h14 : ∀ i, i < pt_n R → pt_k R i ≠ 14) (hd : dl ≠ 0 → dj < 2) (hdl : dl ≤ 4) (hT : tr_at ((rc * 2 + 0) * 8) (rc * 2 + 0) P a_treeSize a_treeKind a_treeValue a_treeA a_treeB) (hU : tr_at ((rc * 2 + 1) * 8) (rc * 2 + 1) R a_treeSize a_treeKind a_treeValue a_treeA a_treeB) (hpe : pe_at rc dl dj dk a_preRelation a_preVariable a_preConstant)
    (e0 : a_pendingCount 0 = nI c0) (e1 : a_pendingCount 1 = nI c1)
    (h : ∀ v c cv' mx' tr', jd_v rc mR P R c0 c1 dl dj dk v c → (v = 0 → (∀ q, q < pt_n R → cv' ((rc * 2 + 1) * 8 + q) = pr_b (pt_cv R (pt_has P 14) q)) ∧ (∀ q, q < pt_n R → mx' ((rc * 2 + 1) * 8 + q) = pr_b (pt_mx R (pt_has P 14) q))) → (∀ q, q < rc * 16 → cv' q = a_constantValued q ∧ mx' q = a_maximal q) → post (nI v) (f_maxNodes, (nI mR), (nI rc), c, f_optimized, f_nodeCount, f_outputCount, f_applications, a_preRelation, a_preVariable, a_preConstant, a_roomNeeded, a_useCount, a_treeSize, a_treeKind, a_treeValue, a_treeA, a_treeB, tr', cv', mx', a_counterpart, a_boundNode, a_pending, a_pendingCount, a_nodeKind, a_nodeValue, a_nodeA, a_nodeB, a_nodeResult, a_nodeUses, a_outputNode, a_seen, a_order, a_walkStack)) :
    wpX_judgeDraft post (f_maxNodes, (nI mR), (nI rc), (-1), f_optimized, f_nodeCount, f_outputCount, f_applications, a_preRelation, a_preVariable, a_preConstant, a_roomNeeded, a_useCount, a_treeSize, a_treeKind, a_treeValue, a_treeA, a_treeB, a_treeResult, a_constantValued, a_maximal, a_counterpart, a_boundNode, a_pending, a_pendingCount, a_nodeKind, a_nodeValue, a_nodeA, a_nodeB, a_nodeResult, a_nodeUses, a_outputNode, a_seen, a_order, a_walkStack) := by
  have triv : ∀ q, q < rc * 16 → a_constantValued q = a_constantValued q ∧ a_maximal q = a_maximal q := fun _ _ => ⟨rfl, rfl⟩
  unfold wpX_judgeDraft
  refine pk_eq rc mR (fun e => h 1 (-1) _ _ _ (Or.inl ⟨rfl, rfl, e⟩) (fun h => absurd h (by omega)) triv) (fun ne => ?_)
  refine x_shape (by omega) hP hT e0 e1 hp0.1 (by have := hp1.1; have := hR.1; omega) (fun hsh => br_f (by decide) ?_) (fun hsh => br_t rfl (h 2 (-1) _ _ _ (Or.inr (Or.inl ⟨rfl, rfl, ⟨fun _ => ne, fun h => absurd h (by omega), fun h => absurd h (by omega), fun h => absurd h (by omega), fun h => absurd h (by omega)⟩, hsh⟩)) (fun h => absurd h (by omega)) triv))
  have hfP : pt_fin P := by
    have e := hsh.1
    subst e
    exact pd_fin hp0
  have hfR : pt_fin R := by
    have e := hsh.2.1
    subst e
    exact pd_fin hp1
  refine x_varFit (by omega) hP hR hT hU (fun hvf => br_f (by decide) ?_) (fun hvf => br_t rfl (h 3 (-1) _ _ _ (Or.inr (Or.inr (Or.inl ⟨rfl, rfl, ⟨fun _ => ne, fun _ => hsh, fun h => absurd h (by omega), fun h => absurd h (by omega), fun h => absurd h (by omega)⟩, hvf⟩))) (fun h => absurd h (by omega)) triv))
  refine x_preFit (by omega) hP hd hdl hT hpe (fun hpf => br_f (by decide) ?_) (fun hpf => br_t rfl (h 4 (-1) _ _ _ (Or.inr (Or.inr (Or.inr (Or.inl ⟨rfl, rfl, ⟨fun _ => ne, fun _ => hsh, fun _ => hvf, fun h => absurd h (by omega), fun h => absurd h (by omega)⟩, hpf⟩)))) (fun h => absurd h (by omega)) triv))
  refine x_markConst (by omega) hP hR h14 rfl hT hU (fun cv' k1 k2 => ?_)
  refine x_markMax (by omega) hR hfR hU k1 (fun mx' m1 m2 => ?_)
  have hkeep : ∀ q, q < rc * 16 → cv' q = a_constantValued q ∧ mx' q = a_maximal q := fun q hq => ⟨k2 q (Or.inl (by omega)), m2 q (Or.inl (by omega))⟩
  refine x_repW (by omega) hR hU k1 ?_
  refine x_patW (by omega) hP hT ?_
  have w1 : pt_rw R (pt_has P 14) < 2 ^ 31 := by
    have h8 := hR.1
    have : pt_rw R (pt_has P 14) ≤ pt_n R * 3 := pr_rs_bound (fun x _ _ => by
      show (if pt_cv R (pt_has P 14) x = true then 0 else pr_w (pt_k R x)) ≤ 3
      have := pr_w_le (pt_k R x)
      by_cases hx : pt_cv R (pt_has P 14) x = true
      · rw [if_pos hx]
        omega
      · rw [if_neg hx]
        exact this)
    omega
  have w2 : pt_pw P < 2 ^ 31 := by
    have h8 := hP.1
    have : pt_pw P ≤ pt_n P * 3 := pr_rs_bound (fun x _ _ => pr_w_le (pt_k P x))
    omega
  refine pk_lt (pt_rw R (pt_has P 14)) (pt_pw P) (fun hco => ?_) (fun hco => h 5 (-1) cv' mx' _ (Or.inr (Or.inr (Or.inr (Or.inr (Or.inl ⟨rfl, rfl, ⟨fun _ => ne, fun _ => hsh, fun _ => hvf, fun _ => hpf, fun h => absurd h (by omega)⟩, by omega⟩))))) (fun h => absurd h (by omega)) hkeep) rfl rfl w1 w2
  have hok5 : jd_ok rc mR P R c0 c1 dl dj dk 5 := ⟨fun _ => ne, fun _ => hsh, fun _ => hvf, fun _ => hpf, fun _ => hco⟩
  refine x_ff (by omega) hP hR hfP.1 hfR.1 hd hdl hT hU hpe (fun tr' hn => br_t rfl (h 0 (-1) cv' mx' tr' (Or.inr (Or.inr (Or.inr (Or.inr (Or.inr (Or.inr ⟨rfl, rfl, hok5, hn⟩)))))) (fun _ => ⟨k1, m1⟩) hkeep)) (fun a b tr' hf => br_f ?_ (h 6 _ cv' mx' tr' (Or.inr (Or.inr (Or.inr (Or.inr (Or.inr (Or.inl ⟨rfl, hok5, a, b, hf, rfl⟩)))))) (fun h => absurd h (by omega)) hkeep))
  have ha := Nat.le_trans hf.1 (jd_hi_le P 0)
  have hb := Nat.le_trans hf.2.1 (jd_hi_le P 1)
  have e : nI a + 256 * nI b = nI (a + 256 * b) := by
    rw [show (256 : Int32) = nI 256 from rfl, pk_mul, nI_add]
  rw [e]
  exact pr_ne1 (by omega)
end XT
end
section
/-! Y: check -/
section YQ
variable {f_maxNodes f_maxRules f_phase f_nCount f_outCnt f_apps f_ruleCount f_cex f_curLive f_orderN : Int32} {a_alive a_nKind a_nVal a_nA a_nB a_lv a_nd a_nv a_outs a_tKind a_tVal a_tA a_tB a_tN a_preRel a_preJ a_preK a_ruleUse a_pend a_pendN a_tv a_cv a_mx a_par a_mp a_res a_bnd a_order a_stk a_stSt : Nat → Int32}
variable {r rl rj rK : Nat} {v0 v1 : Int32}
theorem y_preOk {post : Int32 → Prop} (hr : r < 17) (h4 : rl ≤ 4) (hj : rl ≠ 0 → rj < 2) (hpe : pe_at r rl rj rK a_preRel a_preJ a_preK) (h : post (pr_b (pr_ph rl rj rK v0 v1))) : wpY_preOk post (f_maxNodes, f_maxRules, f_phase, f_nCount, f_outCnt, f_apps, f_ruleCount, f_cex, f_curLive, f_orderN, a_alive, a_nKind, a_nVal, a_nA, a_nB, a_lv, a_nd, a_nv, a_outs, a_tKind, a_tVal, a_tA, a_tB, a_tN, a_preRel, a_preJ, a_preK, a_ruleUse, a_pend, a_pendN, a_tv, a_cv, a_mx, a_par, a_mp, a_res, a_bnd, a_order, a_stk, a_stSt) (nI r) v0 v1 := by
  have hin : vp_in (nI r) 17 := pk_in r 17 hr
  have hcl : (nI r).toNatClampNeg = r := nI_clamp (by omega)
  have h14 : ∀ z, (rl ≠ 0 → z = (if rj = 0 then v0 else v1)) → wY_preOk_14 post (nI r) z f_maxNodes f_maxRules f_phase f_nCount f_outCnt f_apps f_ruleCount f_cex f_curLive f_orderN a_alive a_nKind a_nVal a_nA a_nB a_lv a_nd a_nv a_outs a_tKind a_tVal a_tA a_tB a_tN a_preRel a_preJ a_preK a_ruleUse a_pend a_pendN a_tv a_cv a_mx a_par a_mp a_res a_bnd a_order a_stk a_stSt := by
    intro z hz
    unfold pr_ph at h
    refine ⟨hin, ?_⟩
    rw [hcl]
    refine nm_e ⟨hin, nm_r hpe.1 ?_⟩
    by_cases h1 : rl = 0
    · rw [if_neg (by omega), if_neg (by omega), if_neg (by omega), if_neg (by omega)] at h
      exact pk_eq rl 1 (fun h => absurd h (by omega)) (fun _ => pk_eq rl 2 (fun h => absurd h (by omega)) (fun _ => pk_eq rl 3 (fun h => absurd h (by omega)) (fun _ => pk_eq rl 4 (fun h => absurd h (by omega)) (fun _ => h))))
    · rw [(hpe.2 (by omega)).2]
      rw [← hz (by omega)] at h
      refine pk_eq rl 1 (fun e => ?_) (fun n1 => pk_eq rl 2 (fun e => ?_) (fun n2 => pk_eq rl 3 (fun e => ?_) (fun n3 => pk_eq rl 4 (fun e => ?_) (fun _ => absurd h1 (by omega)))))
      · rw [if_pos e] at h
        refine br_c (fun hc => ?_) (fun hc => ?_)
        · rw [decide_eq_true hc] at h
          exact h
        · rw [decide_eq_false hc] at h
          exact h
      · rw [if_neg n1, if_pos e] at h
        refine br_c (fun hc => ?_) (fun hc => ?_)
        · rw [decide_eq_true hc] at h
          exact h
        · rw [decide_eq_false hc] at h
          exact h
      · rw [if_neg n1, if_neg n2, if_pos e] at h
        refine br_c (fun hc => ?_) (fun hc => ?_)
        · rw [decide_eq_true hc] at h
          exact h
        · rw [decide_eq_false hc] at h
          exact h
      · rw [if_neg n1, if_neg n2, if_neg n3, if_pos e] at h
        refine br_c (fun hc => ?_) (fun hc => ?_)
        · rw [decide_eq_true hc] at h
          exact h
        · rw [decide_eq_false hc] at h
          exact h
  unfold wpY_preOk
  refine ⟨hin, ?_⟩
  rw [hcl]
  refine br_c (fun hz => h14 _ fun hl => ?_) (fun hz => h14 _ fun hl => ?_)
  · have := (hpe.2 hl).1
    rw [this, pr_eq0 (by have := hj hl; omega)] at hz
    rw [if_pos hz]
  · have := (hpe.2 hl).1
    rw [this, pr_eq0 (by have := hj hl; omega)] at hz
    rw [if_neg hz]
end YQ
section YR
variable {f_maxNodes f_maxRules f_phase f_nCount f_outCnt f_apps f_ruleCount f_cex f_curLive f_orderN : Int32} {a_alive a_nKind a_nVal a_nA a_nB a_lv a_nd a_nv a_outs a_tKind a_tVal a_tA a_tB a_tN a_preRel a_preJ a_preK a_ruleUse a_pend a_pendN a_tv a_cv a_mx a_par a_mp a_res a_bnd a_order a_stk a_stSt : Nat → Int32}
variable {P R : pr_PT} {dl dj dk : Nat} {post : Int32 → SY → Prop}
theorem y_ff413 {J404 : Int32 → Int32 → Int32 → Int32 → Int32 → Int32 → Int32 → Int32 → Int32 → Int32 → Int32 → (Nat → Int32) → (Nat → Int32) → (Nat → Int32) → (Nat → Int32) → (Nat → Int32) → (Nat → Int32) → (Nat → Int32) → (Nat → Int32) → (Nat → Int32) → (Nat → Int32) → (Nat → Int32) → (Nat → Int32) → (Nat → Int32) → (Nat → Int32) → (Nat → Int32) → (Nat → Int32) → (Nat → Int32) → (Nat → Int32) → (Nat → Int32) → (Nat → Int32) → (Nat → Int32) → (Nat → Int32) → (Nat → Int32) → (Nat → Int32) → (Nat → Int32) → (Nat → Int32) → (Nat → Int32) → (Nat → Int32) → (Nat → Int32) → (Nat → Int32) → Prop} {a : Nat} {x3 : Int32} (hP : pt_ok P) (hR : pt_ok R) (hP0 : 0 < pt_n P) (hR0 : 0 < pt_n R) (hd : dl ≠ 0 → dj < 2) (hdl : dl ≤ 4) (hT : tr_at 0 32 P a_tN a_tKind a_tVal a_tA a_tB) (hU : tr_at 0 33 R a_tN a_tKind a_tVal a_tA a_tB) (hpe : pe_at 16 dl dj dk a_preRel a_preJ a_preK)
    (hJ : ∀ tv', (∀ b, b ≤ jd_hi P 1 → ¬ jd_bad P R dl dj dk a b) → J404 (nI (a + 1)) f_maxNodes f_maxRules f_phase f_nCount f_outCnt f_apps f_ruleCount f_cex f_curLive f_orderN a_alive a_nKind a_nVal a_nA a_nB a_lv a_nd a_nv a_outs a_tKind a_tVal a_tA a_tB a_tN a_preRel a_preJ a_preK a_ruleUse a_pend a_pendN tv' a_cv a_mx a_par a_mp a_res a_bnd a_order a_stk a_stSt)
    (hb : ∀ b tv', b ≤ jd_hi P 1 → jd_bad P R dl dj dk a b → (∀ b', b' < b → ¬ jd_bad P R dl dj dk a b') → post 6 (f_maxNodes, f_maxRules, f_phase, f_nCount, f_outCnt, f_apps, f_ruleCount, (nI a + 256 * nI b), f_curLive, f_orderN, a_alive, a_nKind, a_nVal, a_nA, a_nB, a_lv, a_nd, a_nv, a_outs, a_tKind, a_tVal, a_tA, a_tB, a_tN, a_preRel, a_preJ, a_preK, a_ruleUse, a_pend, a_pendN, tv', a_cv, a_mx, a_par, a_mp, a_res, a_bnd, a_order, a_stk, a_stSt)) :
    ∀ d b tv, b + d = jd_hi P 1 + 1 → (∀ b', b' < b → ¬ jd_bad P R dl dj dk a b') → wY_check_413 post J404 x3 (nI (jd_hi P 1)) (nI a) (d + 1) (nI b) f_maxNodes f_maxRules f_phase f_nCount f_outCnt f_apps f_ruleCount f_cex f_curLive f_orderN a_alive a_nKind a_nVal a_nA a_nB a_lv a_nd a_nv a_outs a_tKind a_tVal a_tA a_tB a_tN a_preRel a_preJ a_preK a_ruleUse a_pend a_pendN tv a_cv a_mx a_par a_mp a_res a_bnd a_order a_stk a_stSt := by
  intro d
  have hh := jd_hi_le P 1
  induction d with
  | zero =>
    intro b tv hb' h
    exact pk_lt (jd_hi P 1) b (fun _ => nm_r (nI_1 _) (hJ tv fun b hb'' => h b (by omega))) (fun h => absurd h (by omega))
  | succ d ih =>
    intro b tv hb' h
    refine pk_lt (jd_hi P 1) b (fun h => absurd h (by omega)) (fun _ => ?_)
    have nx : ∀ tv', ¬ jd_bad P R dl dj dk a b → wY_check_413 post J404 x3 (nI (jd_hi P 1)) (nI a) (d + 1) (nI (b + 1)) f_maxNodes f_maxRules f_phase f_nCount f_outCnt f_apps f_ruleCount f_cex f_curLive f_orderN a_alive a_nKind a_nVal a_nA a_nB a_lv a_nd a_nv a_outs a_tKind a_tVal a_tA a_tB a_tN a_preRel a_preJ a_preK a_ruleUse a_pend a_pendN tv' a_cv a_mx a_par a_mp a_res a_bnd a_order a_stk a_stSt := by
      intro tv' hn
      refine ih (b + 1) tv' (by omega) fun b' hb'' => ?_
      by_cases e : b' = b
      · rw [e]
        exact hn
      · exact h b' (by omega)
    refine y_preOk (r := 16) (by omega) hdl hd hpe (br_c (fun z => nm_r (nI_1 _) (nx tv fun hx => ?_)) (fun z => ?_))
    · have := hx.1
      rw [(pr_b0 _).mp z] at this
      cases this
    · have hph : pr_ph dl dj dk (nI a) (nI b) = true := by
        cases hx : pr_ph dl dj dk (nI a) (nI b) with
        | true => rfl
        | false => rw [hx] at z; exact absurd rfl z
      refine y_evalTree (w := 32) (by omega) hP hP0 hT (fun tv1 _ => ?_)
      refine y_evalTree (w := 33) (by omega) hR hR0 hU (fun tv2 _ => ?_)
      exact br_c (fun e => nm_r (nI_1 _) (nx tv2 fun hx => hx.2 e)) (fun e => nm_e (hb b tv2 (by omega) ⟨hph, e⟩ h))
theorem y_ff404 (hP : pt_ok P) (hR : pt_ok R) (hP0 : 0 < pt_n P) (hR0 : 0 < pt_n R) (hd : dl ≠ 0 → dj < 2) (hdl : dl ≤ 4) (hT : tr_at 0 32 P a_tN a_tKind a_tVal a_tA a_tB) (hU : tr_at 0 33 R a_tN a_tKind a_tVal a_tA a_tB) (hpe : pe_at 16 dl dj dk a_preRel a_preJ a_preK)
    (hn : ∀ tv', jd_none P R dl dj dk → post 0 (f_maxNodes, f_maxRules, f_phase, f_nCount, f_outCnt, f_apps, f_ruleCount, f_cex, f_curLive, f_orderN, a_alive, a_nKind, a_nVal, a_nA, a_nB, a_lv, a_nd, a_nv, a_outs, a_tKind, a_tVal, a_tA, a_tB, a_tN, a_preRel, a_preJ, a_preK, a_ruleUse, a_pend, a_pendN, tv', a_cv, a_mx, a_par, a_mp, a_res, a_bnd, a_order, a_stk, a_stSt))
    (hb : ∀ a b tv', jd_first P R dl dj dk a b → post 6 (f_maxNodes, f_maxRules, f_phase, f_nCount, f_outCnt, f_apps, f_ruleCount, (nI a + 256 * nI b), f_curLive, f_orderN, a_alive, a_nKind, a_nVal, a_nA, a_nB, a_lv, a_nd, a_nv, a_outs, a_tKind, a_tVal, a_tA, a_tB, a_tN, a_preRel, a_preJ, a_preK, a_ruleUse, a_pend, a_pendN, tv', a_cv, a_mx, a_par, a_mp, a_res, a_bnd, a_order, a_stk, a_stSt)) : ∃ n, wY_check_404 post (nI (jd_hi P 0)) (nI (jd_hi P 1)) n 0 f_maxNodes f_maxRules f_phase f_nCount f_outCnt f_apps f_ruleCount f_cex f_curLive f_orderN a_alive a_nKind a_nVal a_nA a_nB a_lv a_nd a_nv a_outs a_tKind a_tVal a_tA a_tB a_tN a_preRel a_preJ a_preK a_ruleUse a_pend a_pendN a_tv a_cv a_mx a_par a_mp a_res a_bnd a_order a_stk a_stSt := by
  have hh := jd_hi_le P 0
  have l31 : ∀ d a tv, a + d = jd_hi P 0 + 1 → (∀ a' b', a' < a → b' ≤ jd_hi P 1 → ¬ jd_bad P R dl dj dk a' b') → wY_check_404 post (nI (jd_hi P 0)) (nI (jd_hi P 1)) (d + 1) (nI a) f_maxNodes f_maxRules f_phase f_nCount f_outCnt f_apps f_ruleCount f_cex f_curLive f_orderN a_alive a_nKind a_nVal a_nA a_nB a_lv a_nd a_nv a_outs a_tKind a_tVal a_tA a_tB a_tN a_preRel a_preJ a_preK a_ruleUse a_pend a_pendN tv a_cv a_mx a_par a_mp a_res a_bnd a_order a_stk a_stSt := by
    intro d
    induction d with
    | zero =>
      intro a tv ha h
      exact pk_lt (jd_hi P 0) a (fun _ => hn tv fun a' b' h1 h2 => h a' b' (by omega) h2) (fun h => absurd h (by omega))
    | succ d ih =>
      intro a tv ha h
      refine pk_lt (jd_hi P 0) a (fun h => absurd h (by omega)) (fun _ => ⟨jd_hi P 1 + 1 + 1, ?_⟩)
      refine y_ff413 hP hR hP0 hR0 hd hdl hT hU hpe (fun tv' h' => ih (a + 1) tv' (by omega) fun a' b' h1 h2 => ?_) (fun b tv' h1 h2 h3 => hb a b tv' ⟨by omega, h1, h2, h, h3⟩) (jd_hi P 1 + 1) 0 tv (by omega) (fun b' h => absurd h (by omega))
      by_cases e : a' = a
      · rw [e]
        exact h' b' h2
      · exact h a' b' (by omega) h2
  exact ⟨jd_hi P 0 + 1 + 1, l31 (jd_hi P 0 + 1) 0 a_tv (by omega) (fun a' b' h => absurd h (by omega))⟩
theorem y_367 {z0 : Nat} (hP : pt_ok P) (hT : tr_at 0 32 P a_tN a_tKind a_tVal a_tA a_tB) (h : ∃ n, wY_check_404 post (nI z0) (nI (jd_hi P 1)) n 0 f_maxNodes f_maxRules f_phase f_nCount f_outCnt f_apps f_ruleCount f_cex f_curLive f_orderN a_alive a_nKind a_nVal a_nA a_nB a_lv a_nd a_nv a_outs a_tKind a_tVal a_tA a_tB a_tN a_preRel a_preJ a_preK a_ruleUse a_pend a_pendN a_tv a_cv a_mx a_par a_mp a_res a_bnd a_order a_stk a_stSt) : wY_check_367 post (nI z0) f_maxNodes f_maxRules f_phase f_nCount f_outCnt f_apps f_ruleCount f_cex f_curLive f_orderN a_alive a_nKind a_nVal a_nA a_nB a_lv a_nd a_nv a_outs a_tKind a_tVal a_tA a_tB a_tN a_preRel a_preJ a_preK a_ruleUse a_pend a_pendN a_tv a_cv a_mx a_par a_mp a_res a_bnd a_order a_stk a_stSt := by
  unfold jd_hi at h
  refine y_has (w := 32) (κ := 13) (j := 1) (by omega) hP hT (by decide) (by omega) (br_c (fun z => ?_) (fun z => ?_))
  · refine y_has (w := 32) (κ := 14) (j := 1) (by omega) hP hT (by decide) (by omega) (br_c (fun z1 => ?_) (fun z1 => ?_))
    · rw [if_neg (fun hh => by
        rw [(pr_b0 _).mp z, (pr_b0 _).mp z1] at hh
        rcases hh with y | y <;> cases y)] at h
      exact h
    · rw [if_pos (Or.inr (by
        cases hx : pt_has P 14 1 with
        | true => rfl
        | false => rw [hx] at z1; exact absurd rfl z1))] at h
      exact h
  · rw [if_pos (Or.inl (by
      cases hx : pt_has P 13 1 with
      | true => rfl
      | false => rw [hx] at z; exact absurd rfl z))] at h
    exact h
theorem y_329 {x1 x2 : Nat} (h1 : x1 < 2 ^ 31) (h2 : x2 < 2 ^ 31) (hP : pt_ok P) (hT : tr_at 0 32 P a_tN a_tKind a_tVal a_tA a_tB) (h : x2 < x1 → ∃ n, wY_check_404 post (nI (jd_hi P 0)) (nI (jd_hi P 1)) n 0 f_maxNodes f_maxRules f_phase f_nCount f_outCnt f_apps f_ruleCount f_cex f_curLive f_orderN a_alive a_nKind a_nVal a_nA a_nB a_lv a_nd a_nv a_outs a_tKind a_tVal a_tA a_tB a_tN a_preRel a_preJ a_preK a_ruleUse a_pend a_pendN a_tv a_cv a_mx a_par a_mp a_res a_bnd a_order a_stk a_stSt) (hno : x1 ≤ x2 → post 5 (f_maxNodes, f_maxRules, f_phase, f_nCount, f_outCnt, f_apps, f_ruleCount, f_cex, f_curLive, f_orderN, a_alive, a_nKind, a_nVal, a_nA, a_nB, a_lv, a_nd, a_nv, a_outs, a_tKind, a_tVal, a_tA, a_tB, a_tN, a_preRel, a_preJ, a_preK, a_ruleUse, a_pend, a_pendN, a_tv, a_cv, a_mx, a_par, a_mp, a_res, a_bnd, a_order, a_stk, a_stSt)) : wY_check_329 post (nI x1) (nI x2) f_maxNodes f_maxRules f_phase f_nCount f_outCnt f_apps f_ruleCount f_cex f_curLive f_orderN a_alive a_nKind a_nVal a_nA a_nB a_lv a_nd a_nv a_outs a_tKind a_tVal a_tA a_tB a_tN a_preRel a_preJ a_preK a_ruleUse a_pend a_pendN a_tv a_cv a_mx a_par a_mp a_res a_bnd a_order a_stk a_stSt := by
  refine pk_lt x2 x1 (fun hc => ?_) hno rfl rfl h2 h1
  have h' := h hc
  have e0 : ∀ q, jd_hi P 0 = q → wY_check_367 post (nI q) f_maxNodes f_maxRules f_phase f_nCount f_outCnt f_apps f_ruleCount f_cex f_curLive f_orderN a_alive a_nKind a_nVal a_nA a_nB a_lv a_nd a_nv a_outs a_tKind a_tVal a_tA a_tB a_tN a_preRel a_preJ a_preK a_ruleUse a_pend a_pendN a_tv a_cv a_mx a_par a_mp a_res a_bnd a_order a_stk a_stSt := fun q hq => y_367 hP hT (by rw [← hq]; exact h')
  unfold jd_hi at e0
  refine y_has (w := 32) (κ := 13) (j := 0) (by omega) hP hT (by decide) (by omega) (br_c (fun z => ?_) (fun z => ?_))
  · refine y_has (w := 32) (κ := 14) (j := 0) (by omega) hP hT (by decide) (by omega) (br_c (fun z1 => ?_) (fun z1 => ?_))
    · refine e0 0 (if_neg fun hh => ?_)
      rw [(pr_b0 _).mp z, (pr_b0 _).mp z1] at hh
      rcases hh with y | y <;> cases y
    · refine e0 255 (if_pos (Or.inr ?_))
      cases hx : pt_has P 14 0 with
      | true => rfl
      | false => rw [hx] at z1; exact absurd rfl z1
  · refine e0 255 (if_pos (Or.inl ?_))
    cases hx : pt_has P 13 0 with
    | true => rfl
    | false => rw [hx] at z; exact absurd rfl z
theorem y_280 {x1 : Nat} {C : Nat → Bool} (hR : pt_ok R) (hU : tr_at 0 33 R a_tN a_tKind a_tVal a_tA a_tB) (hcv : ∀ q, q < pt_n R → a_cv q = pr_b (pt_cv R C q)) (h : wY_check_329 post (nI x1) (nI (pt_rw R C)) f_maxNodes f_maxRules f_phase f_nCount f_outCnt f_apps f_ruleCount f_cex f_curLive f_orderN a_alive a_nKind a_nVal a_nA a_nB a_lv a_nd a_nv a_outs a_tKind a_tVal a_tA a_tB a_tN a_preRel a_preJ a_preK a_ruleUse a_pend a_pendN a_tv a_cv a_mx a_par a_mp a_res a_bnd a_order a_stk a_stSt) :
    ∀ d i, i + d = pt_n R → wY_check_280 post (nI x1) f_maxNodes f_maxRules f_phase f_nCount f_outCnt f_apps f_ruleCount f_cex f_curLive f_orderN a_alive a_nKind a_nVal a_nA a_nB a_lv a_nd a_nv a_outs a_tKind a_tVal a_tA a_tB a_tN a_preRel a_preJ a_preK a_ruleUse a_pend a_pendN a_tv a_cv a_mx a_par a_mp a_res a_bnd a_order a_stk a_stSt (d + 1) (nI (pr_rs (fun i => if pt_cv R C i then 0 else pr_w (pt_k R i)) 0 i)) (nI i) := by
  intro d
  have h8 := hR.1
  have eN : a_tN 33 = nI (pt_n R) := hU.1
  induction d with
  | zero =>
    intro i hi
    refine pk_le (pt_n R) i (fun _ => ?_) (fun h => absurd h (by omega)) eN
    rw [show i = pt_n R by omega]
    exact h
  | succ d ih =>
    intro i hi
    have hi' : i < pt_n R := by omega
    obtain ⟨k1, _⟩ := hU.2 i hi'
    have hs := pt_sm hR i hi'
    have hh := ih (i + 1) (by omega)
    rw [show pr_rs (fun i => if pt_cv R C i then 0 else pr_w (pt_k R i)) 0 (i + 1) = pr_rs (fun i => if pt_cv R C i then 0 else pr_w (pt_k R i)) 0 i + (if pt_cv R C (0 + i) then 0 else pr_w (pt_k R (0 + i))) from rfl, Nat.zero_add] at hh
    have e4 : (264 : Int32) + nI i = nI (33 * 8 + i) := nI_add 264 i
    refine pk_le (pt_n R) i (fun h => absurd h (by omega)) (fun _ => pk_le 8 i (fun h => absurd h (by omega)) (fun _ => ⟨pk_in i 8 (by omega), ?_⟩)) eN
    rw [nI_clamp (n := i) (by omega), hcv i hi', e4]
    refine br_c (fun h0 => ⟨pk_in (33 * 8 + i) 272 (by omega), ?_⟩) (fun h0 => nm_r (nI_1 _) ?_)
    · rw [nI_clamp (by omega), k1]
      rw [(pr_b0 _).mp h0, if_neg (by decide)] at hh
      exact y_weight (by omega) (nm_r (nI_add _ _) (nm_r (nI_1 _) hh))
    · have hx : pt_cv R C i = true := by
        cases hx : pt_cv R C i with
        | true => rfl
        | false => rw [hx] at h0; exact absurd rfl h0
      rw [hx, if_pos rfl, Nat.add_zero] at hh
      exact hh
theorem y_232 (hP : pt_ok P) (hT : tr_at 0 32 P a_tN a_tKind a_tVal a_tA a_tB) (h : wY_check_272 post (nI (pt_pw P)) 0 f_maxNodes f_maxRules f_phase f_nCount f_outCnt f_apps f_ruleCount f_cex f_curLive f_orderN a_alive a_nKind a_nVal a_nA a_nB a_lv a_nd a_nv a_outs a_tKind a_tVal a_tA a_tB a_tN a_preRel a_preJ a_preK a_ruleUse a_pend a_pendN a_tv a_cv a_mx a_par a_mp a_res a_bnd a_order a_stk a_stSt) :
    ∀ d i, i + d = pt_n P → wY_check_232 post 0 f_maxNodes f_maxRules f_phase f_nCount f_outCnt f_apps f_ruleCount f_cex f_curLive f_orderN a_alive a_nKind a_nVal a_nA a_nB a_lv a_nd a_nv a_outs a_tKind a_tVal a_tA a_tB a_tN a_preRel a_preJ a_preK a_ruleUse a_pend a_pendN a_tv a_cv a_mx a_par a_mp a_res a_bnd a_order a_stk a_stSt (d + 1) (nI (pr_rs (fun i => pr_w (pt_k P i)) 0 i)) (nI i) := by
  intro d
  have h8 := hP.1
  have eN : a_tN 32 = nI (pt_n P) := hT.1
  induction d with
  | zero =>
    intro i hi
    refine pk_le (pt_n P) i (fun _ => ?_) (fun h => absurd h (by omega)) eN
    rw [show i = pt_n P by omega]
    exact h
  | succ d ih =>
    intro i hi
    have hi' : i < pt_n P := by omega
    obtain ⟨k1, _⟩ := hT.2 i hi'
    have hs := pt_sm hP i hi'
    have hh := ih (i + 1) (by omega)
    rw [show pr_rs (fun i => pr_w (pt_k P i)) 0 (i + 1) = pr_rs (fun i => pr_w (pt_k P i)) 0 i + pr_w (pt_k P (0 + i)) from rfl, Nat.zero_add] at hh
    have e4 : (256 : Int32) + nI i = nI (32 * 8 + i) := nI_add 256 i
    refine pk_le (pt_n P) i (fun h => absurd h (by omega)) (fun _ => pk_le 8 i (fun h => absurd h (by omega)) (fun _ => ?_)) eN
    rw [e4]
    refine ⟨pk_in (32 * 8 + i) 272 (by omega), ?_⟩
    rw [nI_clamp (by omega), k1]
    exact y_weight (by omega) (nm_r (nI_add _ _) (nm_r (nI_1 _) hh))
theorem y_121 (hP : pt_ok P) (hR : pt_ok R) (hT : tr_at 0 32 P a_tN a_tKind a_tVal a_tA a_tB) (hU : tr_at 0 33 R a_tN a_tKind a_tVal a_tA a_tB)
    (hy : (∀ i, i < pt_n R → pt_k R i = 13 → pt_has P 13 (pt_v R i) = true ∨ pt_has P 14 (pt_v R i) = true) → wY_check_196 post f_maxNodes f_maxRules f_phase f_nCount f_outCnt f_apps f_ruleCount f_cex f_curLive f_orderN a_alive a_nKind a_nVal a_nA a_nB a_lv a_nd a_nv a_outs a_tKind a_tVal a_tA a_tB a_tN a_preRel a_preJ a_preK a_ruleUse a_pend a_pendN a_tv a_cv a_mx a_par a_mp a_res a_bnd a_order a_stk a_stSt) (hno : (∃ i, i < pt_n R ∧ pt_k R i = 13 ∧ pt_has P 13 (pt_v R i) = false ∧ pt_has P 14 (pt_v R i) = false) → post 3 (f_maxNodes, f_maxRules, f_phase, f_nCount, f_outCnt, f_apps, f_ruleCount, f_cex, f_curLive, f_orderN, a_alive, a_nKind, a_nVal, a_nA, a_nB, a_lv, a_nd, a_nv, a_outs, a_tKind, a_tVal, a_tA, a_tB, a_tN, a_preRel, a_preJ, a_preK, a_ruleUse, a_pend, a_pendN, a_tv, a_cv, a_mx, a_par, a_mp, a_res, a_bnd, a_order, a_stk, a_stSt)) :
    ∀ d i, i + d = pt_n R → (∀ q, q < i → pt_k R q = 13 → pt_has P 13 (pt_v R q) = true ∨ pt_has P 14 (pt_v R q) = true) → wY_check_121 post f_maxNodes f_maxRules f_phase f_nCount f_outCnt f_apps f_ruleCount f_cex f_curLive f_orderN a_alive a_nKind a_nVal a_nA a_nB a_lv a_nd a_nv a_outs a_tKind a_tVal a_tA a_tB a_tN a_preRel a_preJ a_preK a_ruleUse a_pend a_pendN a_tv a_cv a_mx a_par a_mp a_res a_bnd a_order a_stk a_stSt (d + 1) (nI i) := by
  intro d
  have h8 := hR.1
  have eN : a_tN 33 = nI (pt_n R) := hU.1
  induction d with
  | zero =>
    intro i hi h
    exact pk_le (pt_n R) i (fun _ => hy fun q hq => h q (by omega)) (fun h => absurd h (by omega)) eN
  | succ d ih =>
    intro i hi h
    have hi' : i < pt_n R := by omega
    obtain ⟨k1, k2, _⟩ := hU.2 i hi'
    have hs := pt_sm hR i hi'
    have e4 : (264 : Int32) + nI i = nI (33 * 8 + i) := nI_add 264 i
    have hin : vp_in (nI (33 * 8 + i)) 272 := pk_in (33 * 8 + i) 272 (by omega)
    have nx : (pt_k R i = 13 → pt_has P 13 (pt_v R i) = true ∨ pt_has P 14 (pt_v R i) = true) → wY_check_121 post f_maxNodes f_maxRules f_phase f_nCount f_outCnt f_apps f_ruleCount f_cex f_curLive f_orderN a_alive a_nKind a_nVal a_nA a_nB a_lv a_nd a_nv a_outs a_tKind a_tVal a_tA a_tB a_tN a_preRel a_preJ a_preK a_ruleUse a_pend a_pendN a_tv a_cv a_mx a_par a_mp a_res a_bnd a_order a_stk a_stSt (d + 1) (nI (i + 1)) := by
      intro hx
      refine ih (i + 1) (by omega) fun q hq => ?_
      by_cases e : q = i
      · rw [e]
        exact hx
      · exact h q (by omega)
    refine pk_le (pt_n R) i (fun h => absurd h (by omega)) (fun _ => pk_le 8 i (fun h => absurd h (by omega)) (fun _ => ?_)) eN
    rw [e4]
    refine ⟨hin, ?_⟩
    rw [nI_clamp (by omega)]
    refine nm_r k2 ⟨hin, ?_⟩
    rw [k1]
    refine pk_eq (pt_k R i) 13 (fun e => ?_) (fun e => nm_r (nI_1 _) (nx fun h => absurd h e))
    refine y_has (w := 32) (κ := 13) (by omega) hP hT (by decide) hs.2 (br_c (fun z => ?_) (fun z => nm_r (nI_1 _) (nx fun _ => Or.inl ?_)))
    · refine y_has (w := 32) (κ := 14) (by omega) hP hT (by decide) hs.2 (br_c (fun z1 => hno ⟨i, hi', e, (pr_b0 _).mp z, (pr_b0 _).mp z1⟩) (fun z1 => nm_r (nI_1 _) (nx fun _ => Or.inr ?_)))
      cases hx : pt_has P 14 (pt_v R i) with
      | true => rfl
      | false => rw [hx] at z1; exact absurd rfl z1
    · cases hx : pt_has P 13 (pt_v R i) with
      | true => rfl
      | false => rw [hx] at z; exact absurd rfl z
theorem y_82 (hP : pt_ok P) (hT : tr_at 0 32 P a_tN a_tKind a_tVal a_tA a_tB) (hy : (∀ j, j < 2 → ¬ (pt_has P 13 j = true ∧ pt_has P 14 j = true)) → ∃ n, wY_check_121 post f_maxNodes f_maxRules f_phase f_nCount f_outCnt f_apps f_ruleCount f_cex f_curLive f_orderN a_alive a_nKind a_nVal a_nA a_nB a_lv a_nd a_nv a_outs a_tKind a_tVal a_tA a_tB a_tN a_preRel a_preJ a_preK a_ruleUse a_pend a_pendN a_tv a_cv a_mx a_par a_mp a_res a_bnd a_order a_stk a_stSt n 0) (hno : (∃ j, j < 2 ∧ pt_has P 13 j = true ∧ pt_has P 14 j = true) → post 3 (f_maxNodes, f_maxRules, f_phase, f_nCount, f_outCnt, f_apps, f_ruleCount, f_cex, f_curLive, f_orderN, a_alive, a_nKind, a_nVal, a_nA, a_nB, a_lv, a_nd, a_nv, a_outs, a_tKind, a_tVal, a_tA, a_tB, a_tN, a_preRel, a_preJ, a_preK, a_ruleUse, a_pend, a_pendN, a_tv, a_cv, a_mx, a_par, a_mp, a_res, a_bnd, a_order, a_stk, a_stSt)) :
    ∀ d j, j + d = 2 → (∀ i, i < j → ¬ (pt_has P 13 i = true ∧ pt_has P 14 i = true)) → wY_check_82 post f_maxNodes f_maxRules f_phase f_nCount f_outCnt f_apps f_ruleCount f_cex f_curLive f_orderN a_alive a_nKind a_nVal a_nA a_nB a_lv a_nd a_nv a_outs a_tKind a_tVal a_tA a_tB a_tN a_preRel a_preJ a_preK a_ruleUse a_pend a_pendN a_tv a_cv a_mx a_par a_mp a_res a_bnd a_order a_stk a_stSt (d + 1) (nI j) := by
  intro d
  induction d with
  | zero =>
    intro j hj h
    exact pk_le 2 j (fun _ => hy fun i hi => h i (by omega)) (fun h => absurd h (by omega))
  | succ d ih =>
    intro j hj h
    have nx : ¬ (pt_has P 13 j = true ∧ pt_has P 14 j = true) → wY_check_82 post f_maxNodes f_maxRules f_phase f_nCount f_outCnt f_apps f_ruleCount f_cex f_curLive f_orderN a_alive a_nKind a_nVal a_nA a_nB a_lv a_nd a_nv a_outs a_tKind a_tVal a_tA a_tB a_tN a_preRel a_preJ a_preK a_ruleUse a_pend a_pendN a_tv a_cv a_mx a_par a_mp a_res a_bnd a_order a_stk a_stSt (d + 1) (nI (j + 1)) := by
      intro hn
      refine ih (j + 1) (by omega) fun i hi => ?_
      by_cases e : i = j
      · rw [e]
        exact hn
      · exact h i (by omega)
    refine pk_le 2 j (fun h => absurd h (by omega)) (fun _ => ?_)
    refine y_has (w := 32) (κ := 13) (by omega) hP hT (by decide) (by omega) (br_c (fun z => nm_r (nI_1 _) (nx fun hx => ?_)) (fun z => ?_))
    · rw [(pr_b0 _).mp z] at hx
      cases hx.1
    · refine y_has (w := 32) (κ := 14) (by omega) hP hT (by decide) (by omega) (br_c (fun z1 => nm_r (nI_1 _) (nx fun hx => ?_)) (fun z1 => hno ⟨j, by omega, ?_, ?_⟩))
      · rw [(pr_b0 _).mp z1] at hx
        cases hx.2
      · cases hx : pt_has P 13 j with
        | true => rfl
        | false => rw [hx] at z; exact absurd rfl z
      · cases hx : pt_has P 14 j with
        | true => rfl
        | false => rw [hx] at z1; exact absurd rfl z1
theorem jd_vf_iff (hR : pt_ok R) : jd_vf P R ↔ (∀ j, j < 2 → ¬ (pt_has P 13 j = true ∧ pt_has P 14 j = true)) ∧ ∀ i, i < pt_n R → pt_k R i = 13 → pt_has P 13 (pt_v R i) = true ∨ pt_has P 14 (pt_v R i) = true := by
  constructor
  · intro h
    refine ⟨fun j hj => (h j hj).1, fun i hi hk => ?_⟩
    have hv := (hR.2 i hi).2.2.1 (by omega)
    cases h1 : pt_has P 13 (pt_v R i) with
    | true => exact Or.inl rfl
    | false =>
      cases h2 : pt_has P 14 (pt_v R i) with
      | true => exact Or.inr rfl
      | false =>
        have := (h _ hv).2 h1 h2
        rw [pt_has_t.mpr ⟨i, hi, hk, rfl⟩] at this
        cases this
  · rintro ⟨h1, h2⟩ j hj
    refine ⟨h1 j hj, fun a b => ?_⟩
    rw [pt_has_f]
    rintro i hi ⟨hk, hv⟩
    rcases h2 i hi hk with y | y
    · rw [hv, a] at y
      cases y
    · rw [hv, b] at y
      cases y
theorem y_check {rc mR c0 c1 : Nat} {ps0 ps1 : Nat → Nat} (hrc : rc ≤ mR) (hmR : mR ≤ 16) (hP : pt_ok P) (hR : pt_ok R) (hp0 : pd_ok P ps0 c0) (hp1 : pd_ok R ps1 c1) (h14 : ∀ i, i < pt_n R → pt_k R i ≠ 14) (hd : dl ≠ 0 → dj < 2) (hdl : dl ≤ 4) (hT : tr_at 0 32 P a_tN a_tKind a_tVal a_tA a_tB) (hU : tr_at 0 33 R a_tN a_tKind a_tVal a_tA a_tB) (hpe : pe_at 16 dl dj dk a_preRel a_preJ a_preK)
    (e0 : a_pendN 0 = nI c0) (e1 : a_pendN 1 = nI c1)
    (h : ∀ v c tv' cv' mx' par', jd_v rc mR P R c0 c1 dl dj dk v c → post (nI v) (f_maxNodes, (nI mR), f_phase, f_nCount, f_outCnt, f_apps, (nI rc), (if v = 6 then c else f_cex), f_curLive, f_orderN, a_alive, a_nKind, a_nVal, a_nA, a_nB, a_lv, a_nd, a_nv, a_outs, a_tKind, a_tVal, a_tA, a_tB, a_tN, a_preRel, a_preJ, a_preK, a_ruleUse, a_pend, a_pendN, tv', cv', mx', par', a_mp, a_res, a_bnd, a_order, a_stk, a_stSt)) :
    wpY_check post (f_maxNodes, (nI mR), f_phase, f_nCount, f_outCnt, f_apps, (nI rc), f_cex, f_curLive, f_orderN, a_alive, a_nKind, a_nVal, a_nA, a_nB, a_lv, a_nd, a_nv, a_outs, a_tKind, a_tVal, a_tA, a_tB, a_tN, a_preRel, a_preJ, a_preK, a_ruleUse, a_pend, a_pendN, a_tv, a_cv, a_mx, a_par, a_mp, a_res, a_bnd, a_order, a_stk, a_stSt) := by
  have h8P := hP.1
  have h8R := hR.1
  have hc0 := hp0.1
  have hc1 := hp1.1
  have eN : a_tN 32 = nI (pt_n P) := hT.1
  have eM : a_tN 33 = nI (pt_n R) := hU.1
  unfold wpY_check
  refine pk_lt rc mR (fun hlt => ?_) (fun hge => h 1 (-1) _ _ _ _ (Or.inl ⟨rfl, rfl, by omega⟩))
  have no2 : ¬ jd_sh P c0 c1 → post 2 (f_maxNodes, (nI mR), f_phase, f_nCount, f_outCnt, f_apps, (nI rc), f_cex, f_curLive, f_orderN, a_alive, a_nKind, a_nVal, a_nA, a_nB, a_lv, a_nd, a_nv, a_outs, a_tKind, a_tVal, a_tA, a_tB, a_tN, a_preRel, a_preJ, a_preK, a_ruleUse, a_pend, a_pendN, a_tv, a_cv, a_mx, a_par, a_mp, a_res, a_bnd, a_order, a_stk, a_stSt) := fun hsh => h 2 (-1) _ _ _ _ (Or.inr (Or.inl ⟨rfl, rfl, ⟨fun _ => by omega, fun h => absurd h (by omega), fun h => absurd h (by omega), fun h => absurd h (by omega), fun h => absurd h (by omega)⟩, hsh⟩))
  refine pk_eq (pt_n P) 0 (fun e => no2 fun hs => by have := hs.1; omega) (fun nP => ?_) eN
  refine pk_eq (pt_n R) 0 (fun e => no2 fun hs => by have := hs.2.1; omega) (fun nR => ?_) eM
  refine pk_eq c0 1 (fun h0 => pk_eq c1 1 (fun h1 => ?_) (fun h1 => no2 fun hs => h1 hs.2.1) e1) (fun h0 => no2 fun hs => h0 hs.1) e0
  have ek : ((256 : Int32) + a_tN 32) - 1 = nI (32 * 8 + (pt_n P - 1)) := by
    rw [eN, show (256 : Int32) = nI 256 from rfl, nI_add, pr_s1 (by omega)]
    exact congrArg nI (by omega)
  show vp_in (((256 : Int32) + a_tN 32) - 1) 272 ∧ ((a_tKind (((256 : Int32) + a_tN 32) - 1).toNatClampNeg < 11 → _) ∧ (¬ a_tKind (((256 : Int32) + a_tN 32) - 1).toNatClampNeg < 11 → _))
  rw [ek]
  refine ⟨pk_in (32 * 8 + (pt_n P - 1)) 272 (by omega), ?_⟩
  rw [nI_clamp (by omega), (hT.2 (pt_n P - 1) (by omega)).1]
  have hkP := (hP.2 (pt_n P - 1) (by omega)).1
  refine pk_lt (pt_k P (pt_n P - 1)) 11 (fun hk => ?_) (fun hk => no2 fun hs => by have := hs.2.2; omega)
  have hsh : jd_sh P c0 c1 := ⟨h0, h1, by omega⟩
  have hvf := jd_vf_iff (P := P) hR
  have no3 : ¬ jd_vf P R → post 3 (f_maxNodes, (nI mR), f_phase, f_nCount, f_outCnt, f_apps, (nI rc), f_cex, f_curLive, f_orderN, a_alive, a_nKind, a_nVal, a_nA, a_nB, a_lv, a_nd, a_nv, a_outs, a_tKind, a_tVal, a_tA, a_tB, a_tN, a_preRel, a_preJ, a_preK, a_ruleUse, a_pend, a_pendN, a_tv, a_cv, a_mx, a_par, a_mp, a_res, a_bnd, a_order, a_stk, a_stSt) := fun hn => h 3 (-1) _ _ _ _ (Or.inr (Or.inr (Or.inl ⟨rfl, rfl, ⟨fun _ => by omega, fun _ => hsh, fun h => absurd h (by omega), fun h => absurd h (by omega), fun h => absurd h (by omega)⟩, hn⟩)))
  refine ⟨3, y_82 hP hT (fun hv1 => ⟨pt_n R + 1, ?_⟩) (fun ⟨j, j1, j2, j3⟩ => no3 fun hv => (hvf.mp hv).1 j j1 ⟨j2, j3⟩) 2 0 (by omega) (fun i hi => absurd hi (by omega))⟩
  refine y_121 hP hR hT hU (fun hv2 => ?_) (fun ⟨i, i1, i2, i3, i4⟩ => no3 fun hv => ?_) (pt_n R) 0 (by omega) (fun q hq => absurd hq (by omega))
  · have hv : jd_vf P R := hvf.mpr ⟨hv1, hv2⟩
    have h232 : jd_pf P dl dj → ∃ n, wY_check_232 post 0 f_maxNodes (nI mR) f_phase f_nCount f_outCnt f_apps (nI rc) f_cex f_curLive f_orderN a_alive a_nKind a_nVal a_nA a_nB a_lv a_nd a_nv a_outs a_tKind a_tVal a_tA a_tB a_tN a_preRel a_preJ a_preK a_ruleUse a_pend a_pendN a_tv a_cv a_mx a_par a_mp a_res a_bnd a_order a_stk a_stSt n 0 0 := by
      intro hpf
      refine ⟨pt_n P + 1, y_232 hP hT ?_ (pt_n P) 0 (by omega)⟩
      refine y_constFlags (r := 16) (C := pt_has P 14) (by omega) hP hR h14 rfl hT hU (fun cv' mx' par' k1 k2 => ⟨pt_n R + 1, ?_⟩)
      have w1 : pt_rw R (pt_has P 14) < 2 ^ 31 := by
        have : pt_rw R (pt_has P 14) ≤ pt_n R * 3 := pr_rs_bound (fun x _ _ => by
          show (if pt_cv R (pt_has P 14) x = true then 0 else pr_w (pt_k R x)) ≤ 3
          have := pr_w_le (pt_k R x)
          by_cases hx : pt_cv R (pt_has P 14) x = true
          · rw [if_pos hx]
            omega
          · rw [if_neg hx]
            exact this)
        omega
      have w2 : pt_pw P < 2 ^ 31 := by
        have : pt_pw P ≤ pt_n P * 3 := pr_rs_bound (fun x _ _ => pr_w_le (pt_k P x))
        omega
      refine y_280 (C := pt_has P 14) hR hU k1 ?_ (pt_n R) 0 (by omega)
      refine y_329 w2 w1 hP hT (fun hco => ?_) (fun hco => h 5 (-1) _ cv' mx' par' (Or.inr (Or.inr (Or.inr (Or.inr (Or.inl ⟨rfl, rfl, ⟨fun _ => by omega, fun _ => hsh, fun _ => hv, fun _ => hpf, fun h => absurd h (by omega)⟩, by omega⟩))))))
      have hok5 : jd_ok rc mR P R c0 c1 dl dj dk 5 := ⟨fun _ => by omega, fun _ => hsh, fun _ => hv, fun _ => hpf, fun _ => hco⟩
      exact y_ff404 hP hR (by omega) (by omega) hd hdl hT hU hpe (fun tv' hn => h 0 (-1) tv' cv' mx' par' (Or.inr (Or.inr (Or.inr (Or.inr (Or.inr (Or.inr ⟨rfl, rfl, hok5, hn⟩))))))) (fun a b tv' hf => h 6 _ tv' cv' mx' par' (Or.inr (Or.inr (Or.inr (Or.inr (Or.inr (Or.inl ⟨rfl, hok5, a, b, hf, rfl⟩)))))))
    refine pk_eq dl 0 (fun e => h232 fun hx => absurd e hx) (fun ne => ?_) hpe.1
    have hj := hd ne
    have eJ : a_preJ 16 = nI dj := (hpe.2 ne).1
    rw [eJ]
    refine y_has (w := 32) (κ := 14) (by omega) hP hT (by decide) (by omega) (br_c (fun z => h 4 (-1) _ _ _ _ (Or.inr (Or.inr (Or.inr (Or.inl ⟨rfl, rfl, ⟨fun _ => by omega, fun _ => hsh, fun _ => hv, fun h => absurd h (by omega), fun h => absurd h (by omega)⟩, fun hpf => ?_⟩))))) (fun z => h232 fun _ => ?_))
    · have := hpf ne
      rw [(pr_b0 _).mp z] at this
      cases this
    · cases hx : pt_has P 14 dj with
      | true => rfl
      | false => rw [hx] at z; exact absurd rfl z
  · rcases (hvf.mp hv).2 i i1 i2 with y | y
    · rw [i3] at y
      cases y
    · rw [i4] at y
      cases y
end YR
end
section
/-! ruleCommit -/
section VCs
variable {mN : Nat} {mR : Nat} {rc : Nat} {ph : Nat} {nc : Nat} {oc : Nat} {cx : Int32} {ap : Int32} {P : Nat → pr_PT} {R : Nat → pr_PT} {rl : Nat → Nat} {rj : Nat → Nat} {rK : Nat → Nat} {uc : Nat → Int32} {D : Nat → pr_PT} {ps : Nat → Nat → Nat} {dc : Nat → Nat} {dl : Nat} {dj : Nat} {dk : Nat} {K : Nat → Nat} {V : Nat → Int32} {A : Nat → Option Nat} {B : Nat → Option Nat} {O : Nat → Nat}
theorem sp_commit {c : Int32} (h : sp_ok mN mR rc ph nc oc cx ap P R rl rj rK uc D ps dc dl dj dk K V A B O) (hv : jd_v rc mR (D 0) (D 1) (dc 0) (dc 1) dl dj dk 0 c) : rc < mR ∧ c = -1 ∧ sp_ok mN mR (rc + 1) ph nc oc c ap (pr_st P rc (D 0)) (pr_st R rc (D 1)) (pr_st rl rc dl) (pr_st rj rc dj) (pr_st rK rc dk) (pr_st uc rc 0) D ps dc dl dj dk K V A B O := by
  obtain ⟨o1, o2, o3, o4, o5, o6, o7, o8, ⟨d1, d2, d3, d4⟩, o10⟩ := h
  have hk : c = -1 ∧ jd_ok rc mR (D 0) (D 1) (dc 0) (dc 1) dl dj dk 5 := by
    rcases hv with ⟨e, _⟩ | ⟨e, _⟩ | ⟨e, _⟩ | ⟨e, _⟩ | ⟨e, _⟩ | ⟨e, _⟩ | ⟨e, ec, x, x'⟩
    · omega
    · omega
    · omega
    · omega
    · omega
    · omega
    · exact ⟨ec, x⟩
  obtain ⟨hc, k1, k2, k3, k4, k5⟩ := hk
  have ne := k1 (by omega)
  have hsh := k2 (by omega)
  have hvf := k3 (by omega)
  have hpf := k4 (by omega)
  have hco := k5 (by omega)
  have hf0 : pt_fin (D 0) := by
    have h1 := (d1 0 (by omega)).2
    rw [hsh.1] at h1
    exact pd_fin h1
  have hf1 : pt_fin (D 1) := by
    have h1 := (d1 1 (by omega)).2
    rw [hsh.2.1] at h1
    exact pd_fin h1
  have hok0 := (d1 0 (by omega)).1
  have hok1 := (d1 1 (by omega)).1
  refine ⟨by omega, hc, o1, o2, o3, o4, by omega, o6, o7, fun r hr => ?_, ⟨d1, d2, d3, d4⟩, o10⟩
  by_cases e : r = rc
  · subst e
    rw [pr_st_s, pr_st_s, pr_st_s, pr_st_s, pr_st_s]
    refine ⟨hok0, hf0, hsh.2.2, hok1, hf1, d2, fun q hq hk => ?_, d3, fun hl => ⟨(d4 hl).1, (d4 hl).2, hpf hl⟩, hco, fun j hj => ?_⟩
    · rcases ((jd_vf_iff (P := D 0) hok1).mp hvf).2 q hq hk with y | y
      · obtain ⟨p, p1, p2, p3⟩ := pt_has_t.mp y
        exact ⟨p, p1, by omega, p3⟩
      · obtain ⟨p, p1, p2, p3⟩ := pt_has_t.mp y
        exact ⟨p, p1, by omega, p3⟩
    · obtain ⟨p, p1, p2, p3⟩ := pt_has_t.mp hj
      have hv2 := (hok0.2 p p1).2.2.1 (by omega)
      cases hx : pt_has (D 0) 14 j with
      | false => rfl
      | true => exact absurd ⟨hj, hx⟩ (hvf j (by omega)).1
  · rw [pr_st_n e, pr_st_n e, pr_st_n e, pr_st_n e, pr_st_n e]
    exact o8 r (by omega)
theorem sp_cx {c : Int32} (h : sp_ok mN mR rc ph nc oc cx ap P R rl rj rK uc D ps dc dl dj dk K V A B O) : sp_ok mN mR rc ph nc oc c ap P R rl rj rK uc D ps dc dl dj dk K V A B O := h
end VCs
section VCy
variable {f_maxNodes f_maxRules f_phase f_nCount f_outCnt f_apps f_ruleCount f_cex f_curLive f_orderN : Int32} {a_alive a_nKind a_nVal a_nA a_nB a_lv a_nd a_nv a_outs a_tKind a_tVal a_tA a_tB a_tN a_preRel a_preJ a_preK a_ruleUse a_pend a_pendN a_tv a_cv a_mx a_par a_mp a_res a_bnd a_order a_stk a_stSt : Nat → Int32}
theorem y_copy {post : Int32 → SY → Prop} {rc : Nat} (hrc : rc ≤ 15)
    (h : ∀ tk tv ta tb, (∀ q, q < 8 → tk (rc * 16 + q) = a_tKind (256 + q) ∧ tv (rc * 16 + q) = a_tVal (256 + q) ∧ ta (rc * 16 + q) = a_tA (256 + q) ∧ tb (rc * 16 + q) = a_tB (256 + q) ∧ tk (rc * 16 + 8 + q) = a_tKind (264 + q) ∧ tv (rc * 16 + 8 + q) = a_tVal (264 + q) ∧ ta (rc * 16 + 8 + q) = a_tA (264 + q) ∧ tb (rc * 16 + 8 + q) = a_tB (264 + q)) →
      (∀ x, x < rc * 16 ∨ rc * 16 + 16 ≤ x → tk x = a_tKind x ∧ tv x = a_tVal x ∧ ta x = a_tA x ∧ tb x = a_tB x) →
      wY_ruleCommit_277 post 0 f_maxNodes f_maxRules f_phase f_nCount f_outCnt f_apps (nI (rc + 1)) f_cex f_curLive f_orderN a_alive a_nKind a_nVal a_nA a_nB a_lv a_nd a_nv a_outs tk tv ta tb (upd (upd a_tN (rc * 2) (a_tN 32)) (rc * 2 + 1) (a_tN 33)) (upd a_preRel rc (a_preRel 16)) (upd a_preJ rc (a_preJ 16)) (upd a_preK rc (a_preK 16)) (upd a_ruleUse rc 0) a_pend a_pendN a_tv a_cv a_mx a_par a_mp a_res a_bnd a_order a_stk a_stSt) :
    ∀ d i tk tv ta tb, i + d = 8 → (∀ q, q < i → tk (rc * 16 + q) = a_tKind (256 + q) ∧ tv (rc * 16 + q) = a_tVal (256 + q) ∧ ta (rc * 16 + q) = a_tA (256 + q) ∧ tb (rc * 16 + q) = a_tB (256 + q) ∧ tk (rc * 16 + 8 + q) = a_tKind (264 + q) ∧ tv (rc * 16 + 8 + q) = a_tVal (264 + q) ∧ ta (rc * 16 + 8 + q) = a_tA (264 + q) ∧ tb (rc * 16 + 8 + q) = a_tB (264 + q)) →
      (∀ x, x < rc * 16 ∨ rc * 16 + 16 ≤ x → tk x = a_tKind x ∧ tv x = a_tVal x ∧ ta x = a_tA x ∧ tb x = a_tB x) →
      wY_ruleCommit_11 post 0 f_maxNodes f_maxRules f_phase f_nCount f_outCnt f_apps (nI rc) f_cex f_curLive f_orderN (d + 1) (nI i) a_alive a_nKind a_nVal a_nA a_nB a_lv a_nd a_nv a_outs tk tv ta tb a_tN a_preRel a_preJ a_preK a_ruleUse a_pend a_pendN a_tv a_cv a_mx a_par a_mp a_res a_bnd a_order a_stk a_stSt := by
  intro d
  have e2 : (2 : Int32) * nI rc = nI (rc * 2) := by
    rw [show (2 : Int32) = nI 2 from rfl, pk_mul, Nat.mul_comm]
  have e16 : nI rc * 16 = nI (rc * 16) := pk_mul rc 16
  induction d with
  | zero =>
    intro i tk tv ta tb hi h1 h2
    refine pk_le 8 i (fun _ => ?_) (fun h => absurd h (by omega))
    have hcc : (nI rc).toNatClampNeg = rc := nI_clamp (by omega)
    rw [e2, nI_1]
    refine ⟨pk_in (rc * 2) 34 (by omega), ?_⟩
    rw [nI_clamp (n := rc * 2) (by omega), nI_clamp (n := rc * 2 + 1) (by omega), hcc]
    refine nm_e ⟨pk_in (rc * 2 + 1) 34 (by omega), ?_⟩
    rw [pk_un (show 33 ≠ rc * 2 by omega)]
    exact nm_e ⟨pk_in rc 17 (by omega), nm_e ⟨pk_in rc 17 (by omega), nm_e ⟨pk_in rc 17 (by omega), nm_e ⟨pk_in rc 16 (by omega), nm_e (nm_r (nI_1 _) (h tk tv ta tb (fun q hq => h1 q (by omega)) h2))⟩⟩⟩⟩
  | succ d ih =>
    intro i tk tv ta tb hi h1 h2
    have ea : (nI rc * 16) + nI i = nI (rc * 16 + i) := by rw [e16, nI_add]
    have eb : nI (rc * 16 + i) + 8 = nI (rc * 16 + 8 + i) := by
      rw [show (8 : Int32) = nI 8 from rfl, nI_add]
      exact congrArg nI (by omega)
    have ec : (256 : Int32) + nI i = nI (256 + i) := nI_add 256 i
    have ed : (264 : Int32) + nI i = nI (264 + i) := nI_add 264 i
    have i1 : vp_in (nI (256 + i)) 272 := pk_in (256 + i) 272 (by omega)
    have i2 : vp_in (nI (264 + i)) 272 := pk_in (264 + i) 272 (by omega)
    have i3 : vp_in (nI (rc * 16 + i)) 272 := pk_in (rc * 16 + i) 272 (by omega)
    have i4 : vp_in (nI (rc * 16 + 8 + i)) 272 := pk_in (rc * 16 + 8 + i) 272 (by omega)
    refine pk_le 8 i (fun h => absurd h (by omega)) (fun _ => nm_r ea (nm_r eb ?_))
    rw [ec, ed, nI_clamp (n := 256 + i) (by omega), nI_clamp (n := 264 + i) (by omega), nI_clamp (n := rc * 16 + i) (by omega), nI_clamp (n := rc * 16 + 8 + i) (by omega)]
    refine ⟨i1, i3, nm_e ⟨i1, i3, nm_e ⟨i1, i3, nm_e ⟨i1, i3, nm_e ⟨i2, i4, nm_e ⟨i2, i4, nm_e ⟨i2, i4, nm_e ⟨i2, i4, nm_e (nm_r (nI_1 _) (ih (i + 1) _ _ _ _ (by omega) (fun q hq => ?_) (fun x hx => ?_)))⟩⟩⟩⟩⟩⟩⟩⟩
    · have k2 := h2 (256 + i) (Or.inr (by omega))
      have k4 := h2 (264 + i) (Or.inr (by omega))
      by_cases e : q = i
      · subst e
        rw [pk_un (show rc * 16 + q ≠ rc * 16 + 8 + q by omega), pk_un (show rc * 16 + q ≠ rc * 16 + 8 + q by omega), pk_un (show rc * 16 + q ≠ rc * 16 + 8 + q by omega), pk_un (show rc * 16 + q ≠ rc * 16 + 8 + q by omega), pk_us, pk_us, pk_us, pk_us, pk_us, pk_us, pk_us, pk_us, pk_un (show 264 + q ≠ rc * 16 + q by omega), pk_un (show 264 + q ≠ rc * 16 + q by omega), pk_un (show 264 + q ≠ rc * 16 + q by omega), pk_un (show 264 + q ≠ rc * 16 + q by omega)]
        exact ⟨k2.1, k2.2.1, k2.2.2.1, k2.2.2.2, k4.1, k4.2.1, k4.2.2.1, k4.2.2.2⟩
      · have n1 : rc * 16 + q ≠ rc * 16 + 8 + i := by omega
        have n2 : rc * 16 + q ≠ rc * 16 + i := by omega
        have n3 : rc * 16 + 8 + q ≠ rc * 16 + 8 + i := by omega
        have n4 : rc * 16 + 8 + q ≠ rc * 16 + i := by omega
        rw [pk_un n1, pk_un n1, pk_un n1, pk_un n1, pk_un n2, pk_un n2, pk_un n2, pk_un n2, pk_un n3, pk_un n3, pk_un n3, pk_un n3, pk_un n4, pk_un n4, pk_un n4, pk_un n4]
        exact h1 q (by omega)
    · have n1 : x ≠ rc * 16 + 8 + i := by omega
      have n2 : x ≠ rc * 16 + i := by omega
      rw [pk_un n1, pk_un n1, pk_un n1, pk_un n1, pk_un n2, pk_un n2, pk_un n2, pk_un n2]
      exact h2 x hx
end VCy
theorem i_vc_ruleCommit {k : Nat} {u : SX} {v : SY} (I : i_Rel k u v) (hk : k + 4 ≤ 2050) : wpX_ruleCommit (fun r u' => wpY_ruleCommit (fun r' v' => r' = r ∧ i_Rel (k + 4) u' v') v) u := by
  obtain ⟨mN, mR, rc, ph, nc, oc, cx, ap, P, R, rl, rj, rK, uc, D, ps, dc, dl, dj, dk, K, V, A, B, O, hok, hx, hy⟩ := I
  obtain ⟨f_maxNodes, f_maxRules, f_ruleCount, f_counterexample, f_optimized, f_nodeCount, f_outputCount, f_applications, a_preRelation, a_preVariable, a_preConstant, a_roomNeeded, a_useCount, a_treeSize, a_treeKind, a_treeValue, a_treeA, a_treeB, a_treeResult, a_constantValued, a_maximal, a_counterpart, a_boundNode, a_pending, a_pendingCount, a_nodeKind, a_nodeValue, a_nodeA, a_nodeB, a_nodeResult, a_nodeUses, a_outputNode, a_seen, a_order, a_walkStack⟩ := u
  obtain ⟨f_maxNodes', f_maxRules', f_phase', f_nCount', f_outCnt', f_apps', f_ruleCount', f_cex', f_curLive', f_orderN', a_alive', a_nKind', a_nVal', a_nA', a_nB', a_lv', a_nd', a_nv', a_outs', a_tKind', a_tVal', a_tA', a_tB', a_tN', a_preRel', a_preJ', a_preK', a_ruleUse', a_pend', a_pendN', a_tv', a_cv', a_mx', a_par', a_mp', a_res', a_bnd', a_order', a_stk', a_stSt'⟩ := v
  obtain ⟨e1, e2, e3, e4, e5, e6, e7, e8, h9, h10, h11, h12⟩ := hx
  obtain ⟨d1, d2, d3, d4, d5, d6, d7, d8, g9, g10, g11, g12⟩ := hy
  subst e1 e2 e3 e4 e5 e6 e7 e8 d1 d2 d3 d4 d5 d6 d7 d8
  have hok' := hok
  obtain ⟨o1, o2, o3, o4, o5, o6, o7, o8, ⟨s1, s2, s3, s4⟩, o10⟩ := hok
  have hn : ∀ r, r < rc → pt_n (P r) ≤ 8 ∧ pt_n (R r) ≤ 8 := fun r hr => pr_rule_n (o8 r hr)
  have q0 := s1 0 (by omega)
  have q1 := s1 1 (by omega)
  have x0 := h10 0 (by omega)
  have x1 := h10 1 (by omega)
  have y0 := g10 0 (by omega)
  have y1 := g10 1 (by omega)
  unfold wpX_ruleCommit
  refine x_judge (P := D 0) (R := D 1) (c0 := dc 0) (c1 := dc 1) o5 o4 q0.1 q1.1 q0.2 q1.2 s2 (fun h => (s4 h).1) s3 x0.1 x1.1 h11 x0.2.1 x1.2.1 (fun w c cv' mx' tr' hv hcm hkeep => ?_)
  -- what Y does after its check, for the same verdict
  have hY : ∀ u' : SX, (w ≠ 0 → ∀ v', ry mN mR rc ph nc oc c f_apps' P R rl rj rK uc (fun _ => pt_0) ps (fun _ => 0) 0 dj dk K V A B O v' → i_Rel (k + 4) u' v') → (w = 0 → ∀ v', ry mN mR (rc + 1) ph nc oc c f_apps' (pr_st P rc (D 0)) (pr_st R rc (D 1)) (pr_st rl rc dl) (pr_st rj rc dj) (pr_st rK rc dk) (pr_st uc rc 0) (fun _ => pt_0) ps (fun _ => 0) 0 dj dk K V A B O v' → i_Rel (k + 4) u' v') →
      wpY_ruleCommit (fun r' v' => r' = nI w ∧ i_Rel (k + 4) u' v') ((nI mN), (nI mR), (nI ph), (nI nc), (nI oc), f_apps', (nI rc), f_cex', f_curLive', f_orderN', a_alive', a_nKind', a_nVal', a_nA', a_nB', a_lv', a_nd', a_nv', a_outs', a_tKind', a_tVal', a_tA', a_tB', a_tN', a_preRel', a_preJ', a_preK', a_ruleUse', a_pend', a_pendN', a_tv', a_cv', a_mx', a_par', a_mp', a_res', a_bnd', a_order', a_stk', a_stSt') := by
    intro u' hw hw0
    unfold wpY_ruleCommit
    refine y_check (P := D 0) (R := D 1) (c0 := dc 0) (c1 := dc 1) (dl := dl) (dj := dj) (dk := dk) o5 o4 q0.1 q1.1 q0.2 q1.2 s2 (fun h => (s4 h).1) s3 y0.1 y1.1 g11 y0.2.1 y1.2.1 (fun w' c' tv' cv'' mx'' par' hv' => ?_)
    obtain ⟨ew, ec⟩ := jd_u hv hv'
    subst ew ec
    have hw6 : w ≤ 6 := by
      rcases hv with ⟨e, _⟩ | ⟨e, _⟩ | ⟨e, _⟩ | ⟨e, _⟩ | ⟨e, _⟩ | ⟨e, _⟩ | ⟨e, _⟩ <;> omega
    have hc6 : w ≠ 6 → c = -1 := by
      intro h6
      rcases hv with ⟨e, ec, _⟩ | ⟨e, ec, _⟩ | ⟨e, ec, _⟩ | ⟨e, ec, _⟩ | ⟨e, ec, _⟩ | ⟨e, _⟩ | ⟨e, ec, _⟩
      · exact ec
      · exact ec
      · exact ec
      · exact ec
      · exact ec
      · exact absurd e h6
      · exact ec
    refine pk_eq w 0 (fun e0 => ?_) (fun ne0 => ?_)
    · subst e0
      obtain ⟨hlt, hcm1, _⟩ := sp_commit hok' hv
      refine ⟨9, y_copy (by omega) (fun tk tv ta tb k1 k2 => ?_) 8 0 _ _ _ _ (by omega) (fun q hq => absurd hq (by omega)) (fun x _ => ⟨rfl, rfl, rfl, rfl⟩)⟩
      refine br_f (by decide) (y_ruleBegin ⟨rfl, hw0 rfl _ ?_⟩)
      rw [← hcm1]
      refine ry_empty (fun r hr => ?_) (by omega) (fun r hr => ?_) g12
      · by_cases e : r = rc
        · rw [e, pr_st_s, pr_st_s]
          exact ⟨q0.1.1, q1.1.1⟩
        · rw [pr_st_n e, pr_st_n e]
          exact hn r (by omega)
      · by_cases e : r = rc
        · subst e
          rw [pr_st_s, pr_st_s, pr_st_s, pr_st_s, pr_st_s, pr_st_s, pk_us]
          have n0 := q0.1.1
          have n1 := q1.1.1
          refine ⟨⟨?_, fun i hi => ?_⟩, ⟨?_, fun i hi => ?_⟩, ⟨?_, fun hl => ?_⟩, rfl⟩
          · rw [pk_un (by omega), pk_us]
            exact y0.1.1
          · have := k1 i (by omega)
            rw [show r * 2 * 8 + i = r * 16 + i by omega, this.1, this.2.1, this.2.2.1, this.2.2.2.1]
            exact y0.1.2 i hi
          · rw [pk_us]
            exact y1.1.1
          · have := k1 i (by omega)
            rw [show (r * 2 + 1) * 8 + i = r * 16 + 8 + i by omega, this.2.2.2.2.1, this.2.2.2.2.2.1, this.2.2.2.2.2.2.1, this.2.2.2.2.2.2.2]
            exact y1.1.2 i hi
          · rw [pk_us]
            exact g11.1
          · rw [pk_us, pk_us]
            exact g11.2 hl
        · rw [pr_st_n e, pr_st_n e, pr_st_n e, pr_st_n e, pr_st_n e, pr_st_n e, pk_un e]
          obtain ⟨z1, z2, z3, z4⟩ := g9 r (by omega)
          have hnr := hn r (by omega)
          exact ⟨tr_cong z1 (by rw [pk_un (by omega), pk_un (by omega)]) (fun i hi => k2 _ (Or.inl (by omega))), tr_cong z2 (by rw [pk_un (by omega), pk_un (by omega)]) (fun i hi => k2 _ (Or.inl (by omega))), pe_cong z3 (pk_un e) (pk_un e) (pk_un e), z4⟩
    · refine pk_eq w 6 (fun e6 => ?_) (fun ne6 => ?_)
      · refine y_ruleBegin ⟨rfl, hw ne0 _ ?_⟩
        rw [if_pos e6]
        exact ry_empty hn (by omega) g9 g12
      · refine y_ruleBegin ⟨rfl, hw ne0 _ ?_⟩
        rw [← hc6 ne6]
        exact ry_empty hn (by omega) g9 g12
  have hw6 : w ≤ 6 := by
    rcases hv with ⟨e, _⟩ | ⟨e, _⟩ | ⟨e, _⟩ | ⟨e, _⟩ | ⟨e, _⟩ | ⟨e, _⟩ | ⟨e, _⟩ <;> omega
  refine pk_eq w 0 (fun e0 => ?_) (fun ne0 => ?_)
  · subst e0
    obtain ⟨hlt, hcm1, hsp⟩ := sp_commit hok' hv
    obtain ⟨cm1, cm2⟩ := hcm rfl
    refine x_room (by omega) q1.1 x1.1 cm1 cm2 ⟨pk_in rc 17 (by omega), ?_⟩
    rw [nI_clamp (by omega)]
    refine nm_e ⟨pk_in rc 17 (by omega), nm_e (nm_r (nI_1 _) (x_emptyDraft (by omega) (hY _ (fun h => absurd rfl h) (fun _ v' hv' => ?_))))⟩
    refine ⟨_, _, _, _, _, _, _, _, _, _, _, _, _, _, _, _, _, _, _, _, _, _, _, _, _, sp_empty hsp, rx_empty (fun r hr => ?_) (fun r hr => ?_) h12, hv'⟩
    · by_cases e : r = rc
      · rw [e, pr_st_s, pr_st_s]
        exact ⟨q0.1.1, q1.1.1⟩
      · rw [pr_st_n e, pr_st_n e]
        exact hn r (by omega)
    · by_cases e : r = rc
      · subst e
        rw [pr_st_s, pr_st_s, pr_st_s, pr_st_s, pr_st_s, pr_st_s, pk_us]
        exact ⟨⟨x0.1, x1.1, cm1, cm2, pk_us⟩, h11, rfl⟩
      · rw [pr_st_n e, pr_st_n e, pr_st_n e, pr_st_n e, pr_st_n e, pr_st_n e, pk_un e]
        have hr' : r < rc := by omega
        refine ⟨xr_cong hn (fun r hr => (h9 r hr).1) (fun _ _ => rfl) (fun p hp => ⟨rfl, rfl, rfl, rfl, (hkeep p hp).1, (hkeep p hp).2⟩) (fun r' hr' => pk_un (by omega)) r hr', (h9 r hr').2⟩
  · refine x_emptyDraft (by omega) (hY _ (fun _ v' hv' => ?_) (fun h => absurd h ne0))
    refine ⟨_, _, _, _, _, _, _, _, _, _, _, _, _, _, _, _, _, _, _, _, _, _, _, _, _, sp_empty (sp_cx (c := c) hok'), rx_empty hn (fun r hr => ?_) h12, hv'⟩
    exact ⟨xr_cong hn (fun r hr => (h9 r hr).1) (fun _ _ => rfl) (fun p hp => ⟨rfl, rfl, rfl, rfl, (hkeep p hp).1, (hkeep p hp).2⟩) (fun _ _ => rfl) r hr, (h9 r hr).2⟩
end
section
/-! X: deletion of what is not listed; uses counted -/
section XU
variable {f_maxNodes f_maxRules f_ruleCount f_counterexample f_optimized f_nodeCount f_outputCount f_applications : Int32} {a_preRelation a_preVariable a_preConstant a_roomNeeded a_useCount a_treeSize a_treeKind a_treeValue a_treeA a_treeB a_treeResult a_constantValued a_maximal a_counterpart a_boundNode a_pending a_pendingCount a_nodeKind a_nodeValue a_nodeA a_nodeB a_nodeResult a_nodeUses a_outputNode a_seen a_order a_walkStack : Nat → Int32}
variable {K : Nat → Nat} {V : Nat → Int32} {A B : Nat → Option Nat} {rk O : Nat → Nat} {L : List Nat} {post : SX → Prop}
theorem x_delete (hse : ∀ c, c < 64 → (a_seen c = 0 ↔ c ∉ L))
    (h : ∀ nk nv na nb, (∀ n, n < 32 → n ∉ L → nk n = 0) → (∀ n, n ∈ L ∨ 32 ≤ n → nk n = a_nodeKind n ∧ nv n = a_nodeValue n ∧ na n = a_nodeA n ∧ nb n = a_nodeB n) → post (f_maxNodes, f_maxRules, f_ruleCount, f_counterexample, f_optimized, f_nodeCount, f_outputCount, f_applications, a_preRelation, a_preVariable, a_preConstant, a_roomNeeded, a_useCount, a_treeSize, a_treeKind, a_treeValue, a_treeA, a_treeB, a_treeResult, a_constantValued, a_maximal, a_counterpart, a_boundNode, a_pending, a_pendingCount, nk, nv, na, nb, a_nodeResult, a_nodeUses, a_outputNode, a_seen, a_order, a_walkStack)) : wpX_deleteUnseenNodes post (f_maxNodes, f_maxRules, f_ruleCount, f_counterexample, f_optimized, f_nodeCount, f_outputCount, f_applications, a_preRelation, a_preVariable, a_preConstant, a_roomNeeded, a_useCount, a_treeSize, a_treeKind, a_treeValue, a_treeA, a_treeB, a_treeResult, a_constantValued, a_maximal, a_counterpart, a_boundNode, a_pending, a_pendingCount, a_nodeKind, a_nodeValue, a_nodeA, a_nodeB, a_nodeResult, a_nodeUses, a_outputNode, a_seen, a_order, a_walkStack) := by
  have l : ∀ d i nk nv na nb, i + d = 32 → (∀ n, n < i → n ∉ L → nk n = 0) → (∀ n, n ∈ L ∨ i ≤ n → nk n = a_nodeKind n ∧ nv n = a_nodeValue n ∧ na n = a_nodeA n ∧ nb n = a_nodeB n) → wX_deleteUnseenNodes_2 post (d + 1) (nI i) f_maxNodes f_maxRules f_ruleCount f_counterexample f_optimized f_nodeCount f_outputCount f_applications a_preRelation a_preVariable a_preConstant a_roomNeeded a_useCount a_treeSize a_treeKind a_treeValue a_treeA a_treeB a_treeResult a_constantValued a_maximal a_counterpart a_boundNode a_pending a_pendingCount nk nv na nb a_nodeResult a_nodeUses a_outputNode a_seen a_order a_walkStack := by
    intro d
    induction d with
    | zero =>
      intro i nk nv na nb hi h1 h2
      exact pk_le 32 i (fun _ => h nk nv na nb (fun n hn => h1 n (by omega)) (fun n hn => h2 n (by rcases hn with x | x; exact Or.inl x; exact Or.inr (by omega)))) (fun h => absurd h (by omega))
    | succ d ih =>
      intro i nk nv na nb hi h1 h2
      have hs := hse i (by omega)
      refine pk_le 32 i (fun h => absurd h (by omega)) (fun _ => ⟨pk_in i 64 (by omega), ?_⟩)
      rw [nI_clamp (by omega)]
      refine br_c (fun h0 => ?_) (fun h0 => nm_r (nI_1 _) (ih (i + 1) nk nv na nb (by omega) (fun n hn hl => ?_) (fun n hn => h2 n (by rcases hn with x | x; exact Or.inl x; exact Or.inr (by omega)))))
      · have hl := hs.mp h0
        refine x_setNode (by omega) (nm_r (nI_1 _) (ih (i + 1) _ _ _ _ (by omega) (fun n hn hnl => ?_) (fun n hn => ?_)))
        · by_cases e : n = i
          · rw [e, pk_us]
          · rw [pk_un e]
            exact h1 n (by omega) hnl
        · have e : n ≠ i := by
            intro e
            subst e
            rcases hn with x | x
            · exact hl x
            · omega
          rw [pk_un e, pk_un e, pk_un e, pk_un e]
          exact h2 n (by rcases hn with x | x; exact Or.inl x; exact Or.inr (by omega))
      · by_cases e : n = i
        · subst e
          exact absurd (hs.mpr hl) h0
        · exact h1 n (by omega) hl
  exact ⟨33, l 32 0 _ _ _ _ (by omega) (fun n hn => absurd hn (by omega)) (fun n _ => ⟨rfl, rfl, rfl, rfl⟩)⟩
theorem x_uses97 {oc : Nat} {us0 : Nat → Nat} (hoc : oc ≤ 4) (hO : ∀ k, k < oc → pr_T 0 K (O k) ∧ a_outputNode k = nI (O k)) (hOL : ∀ k, k < oc → O k ∈ L)
    (h : ∀ nu, (∀ d, d ∈ L → nu d = nI (us0 d + pr_rs (fun k => if O k = d then 1 else 0) 0 oc)) → post (f_maxNodes, f_maxRules, f_ruleCount, f_counterexample, f_optimized, f_nodeCount, (nI oc), f_applications, a_preRelation, a_preVariable, a_preConstant, a_roomNeeded, a_useCount, a_treeSize, a_treeKind, a_treeValue, a_treeA, a_treeB, a_treeResult, a_constantValued, a_maximal, a_counterpart, a_boundNode, a_pending, a_pendingCount, a_nodeKind, a_nodeValue, a_nodeA, a_nodeB, a_nodeResult, nu, a_outputNode, a_seen, a_order, a_walkStack)) :
    ∀ d i nu, i + d = oc → (∀ x, x ∈ L → nu x = nI (us0 x + pr_rs (fun k => if O k = x then 1 else 0) 0 i)) → wX_countUses_97 post f_maxNodes f_maxRules f_ruleCount f_counterexample f_optimized f_nodeCount (nI oc) f_applications (d + 1) (nI i) a_preRelation a_preVariable a_preConstant a_roomNeeded a_useCount a_treeSize a_treeKind a_treeValue a_treeA a_treeB a_treeResult a_constantValued a_maximal a_counterpart a_boundNode a_pending a_pendingCount a_nodeKind a_nodeValue a_nodeA a_nodeB a_nodeResult nu a_outputNode a_seen a_order a_walkStack := by
  intro d
  induction d with
  | zero =>
    intro i nu hi hu
    have e : i = oc := by omega
    subst e
    exact pk_le i i (fun _ => h nu hu) (fun h => absurd h (by omega))
  | succ d ih =>
    intro i nu hi hu
    obtain ⟨to, eo⟩ := hO i (by omega)
    have to2 := to.2.1
    have hin : vp_in (nI (O i)) 64 := pk_in (O i) 64 (by omega)
    refine pk_le oc i (fun h => absurd h (by omega)) (fun _ => ⟨pk_in i 8 (by omega), ?_⟩)
    rw [nI_clamp (n := i) (by omega), eo, nI_clamp (by omega), hu _ (hOL i (by omega)), nI_1]
    refine ⟨hin, hin, nm_e (nm_r (nI_1 _) (ih (i + 1) _ (by omega) fun x hx => ?_))⟩
    show _ = nI (us0 x + (pr_rs (fun k => if O k = x then 1 else 0) 0 i + (if O (0 + i) = x then 1 else 0)))
    rw [Nat.zero_add]
    by_cases e : x = O i
    · subst e
      rw [pk_us, if_pos rfl, Nat.add_assoc]
    · rw [pk_un e, if_neg (fun h => e h.symm), Nat.add_zero]
      exact hu x hx
theorem x_uses27 (hG : pr_gw 0 K V A B rk) (hg : gr_at 0 K V A B a_nodeKind a_nodeValue a_nodeA a_nodeB) (hLT : ∀ x, x ∈ L → pr_T 0 K x) (hcl : pr_cl A B (fun x => x ∈ L)) (hlen : L.length ≤ 32) (hls : pr_ls a_order L)
    (h : ∀ nu, (∀ d, d ∈ L → nu d = nI (pr_sm (pr_e1 A B d) L)) → ∃ n, wX_countUses_97 post f_maxNodes f_maxRules f_ruleCount f_counterexample f_optimized f_nodeCount f_outputCount f_applications n 0 a_preRelation a_preVariable a_preConstant a_roomNeeded a_useCount a_treeSize a_treeKind a_treeValue a_treeA a_treeB a_treeResult a_constantValued a_maximal a_counterpart a_boundNode a_pending a_pendingCount a_nodeKind a_nodeValue a_nodeA a_nodeB a_nodeResult nu a_outputNode a_seen a_order a_walkStack) :
    ∀ d i nu, i + d = L.length → (∀ x, x ∈ L → nu x = nI (pr_sm (pr_e1 A B x) (L.take i))) → wX_countUses_27 post (nI L.length) f_maxNodes f_maxRules f_ruleCount f_counterexample f_optimized f_nodeCount f_outputCount f_applications (d + 1) (nI i) a_preRelation a_preVariable a_preConstant a_roomNeeded a_useCount a_treeSize a_treeKind a_treeValue a_treeA a_treeB a_treeResult a_constantValued a_maximal a_counterpart a_boundNode a_pending a_pendingCount a_nodeKind a_nodeValue a_nodeA a_nodeB a_nodeResult nu a_outputNode a_seen a_order a_walkStack := by
  intro d
  induction d with
  | zero =>
    intro i nu hi hu
    refine pk_le L.length i (fun _ => h nu fun x hx => ?_) (fun h => absurd h (by omega))
    rw [hu x hx, show i = L.length by omega, pr_sm_all]
  | succ d ih =>
    intro i nu hi hu
    have hi' : i < L.length := by omega
    have hmem := pr_gd_m hi'
    have tx := hLT _ hmem
    have tx2 := tx.2.1
    obtain ⟨k1, k2, k3, k4⟩ := hg _ tx
    obtain ⟨g1, g2, g3, g4, g5, g6, g7, g8, g9, g10⟩ := hG _ tx
    have hin : vp_in (nI (L.getD i 0)) 64 := pk_in (L.getD i 0) 64 (by omega)
    have hcx : (nI (L.getD i 0)).toNatClampNeg = L.getD i 0 := nI_clamp (by omega)
    have nx : ∀ nu', (∀ x, x ∈ L → nu' x = nI (pr_sm (pr_e1 A B x) (L.take i) + pr_e1 A B x (L.getD i 0))) → wX_countUses_27 post (nI L.length) f_maxNodes f_maxRules f_ruleCount f_counterexample f_optimized f_nodeCount f_outputCount f_applications (d + 1) (nI (i + 1)) a_preRelation a_preVariable a_preConstant a_roomNeeded a_useCount a_treeSize a_treeKind a_treeValue a_treeA a_treeB a_treeResult a_constantValued a_maximal a_counterpart a_boundNode a_pending a_pendingCount a_nodeKind a_nodeValue a_nodeA a_nodeB a_nodeResult nu' a_outputNode a_seen a_order a_walkStack := by
      intro nu' hn'
      refine ih (i + 1) nu' (by omega) fun x hx => ?_
      rw [pr_sm_tk _ L i hi']
      exact hn' x hx
    have h64 : ∀ nu', (∀ x, x ∈ L → nu' x = nI (pr_sm (pr_e1 A B x) (L.take i) + (if A (L.getD i 0) = some x then 1 else 0))) → wX_countUses_64 post (wX_countUses_27 post (nI L.length) f_maxNodes f_maxRules f_ruleCount f_counterexample f_optimized f_nodeCount f_outputCount f_applications (d + 1)) (nI L.length) (nI i) (nI (L.getD i 0)) f_maxNodes f_maxRules f_ruleCount f_counterexample f_optimized f_nodeCount f_outputCount f_applications a_preRelation a_preVariable a_preConstant a_roomNeeded a_useCount a_treeSize a_treeKind a_treeValue a_treeA a_treeB a_treeResult a_constantValued a_maximal a_counterpart a_boundNode a_pending a_pendingCount a_nodeKind a_nodeValue a_nodeA a_nodeB a_nodeResult nu' a_outputNode a_seen a_order a_walkStack := by
      intro nu' hn'
      refine ⟨hin, ?_⟩
      rw [hcx, k4]
      cases hb : B (L.getD i 0) with
      | none =>
        refine br_t rfl (nm_r (nI_1 _) (nx nu' fun x hx => ?_))
        have e1 : pr_e1 A B x (L.getD i 0) = (if A (L.getD i 0) = some x then 1 else 0) + (if B (L.getD i 0) = some x then 1 else 0) := rfl
        rw [hb, if_neg (c := none = some x) (fun h => (nomatch h)), Nat.add_zero] at e1
        rw [hn' x hx, e1]
      | some c =>
        have hcL := hcl _ c hmem (Or.inr hb)
        have tc := (hLT c hcL).2.1
        have hinc : vp_in (nI c) 64 := pk_in c 64 (by omega)
        refine br_f (pr_ne1 (by omega)) ⟨hin, hinc, hinc, ?_⟩
        rw [show (pr_oI (some c)).toNatClampNeg = c from nI_clamp (by omega), hn' c hcL, nI_1]
        refine nm_e (nm_r (nI_1 _) (nx _ fun x hx => ?_))
        have e1 : pr_e1 A B x (L.getD i 0) = (if A (L.getD i 0) = some x then 1 else 0) + (if B (L.getD i 0) = some x then 1 else 0) := rfl
        rw [hb] at e1
        by_cases e : x = c
        · subst e
          rw [if_pos (c := some x = some x) rfl] at e1
          rw [pk_us, e1]
          exact congrArg nI (by omega)
        · rw [if_neg (c := some c = some x) (fun h => e (Option.some.inj h).symm), Nat.add_zero] at e1
          rw [pk_un e, hn' x hx, e1]
    refine pk_le L.length i (fun h => absurd h (by omega)) (fun _ => ⟨pk_in i 32 (by omega), ?_⟩)
    rw [nI_clamp (n := i) (by omega)]
    refine nm_r (hls i hi') ⟨hin, ?_⟩
    rw [hcx, k3]
    cases ha : A (L.getD i 0) with
    | none =>
      refine br_t rfl (h64 nu fun x hx => ?_)
      rw [ha, if_neg (fun h => (nomatch h)), Nat.add_zero]
      exact hu x hx
    | some c =>
      have hcL := hcl _ c hmem (Or.inl ha)
      have tc := (hLT c hcL).2.1
      have hinc : vp_in (nI c) 64 := pk_in c 64 (by omega)
      refine br_f (pr_ne1 (by omega)) ⟨hin, hinc, hinc, ?_⟩
      rw [show (pr_oI (some c)).toNatClampNeg = c from nI_clamp (by omega), hu c hcL, nI_1]
      refine nm_e (h64 _ fun x hx => ?_)
      rw [ha]
      by_cases e : x = c
      · subst e
        rw [pk_us, if_pos rfl]
      · rw [pk_un e, if_neg (fun h => e (Option.some.inj h).symm), Nat.add_zero]
        exact hu x hx
theorem x_countUses {oc : Nat} (hG : pr_gw 0 K V A B rk) (hg : gr_at 0 K V A B a_nodeKind a_nodeValue a_nodeA a_nodeB) (hL : pr_lk (pr_T 0 K) A B O 0 oc L) (hoc : oc ≤ 4) (hO : ∀ k, k < oc → pr_T 0 K (O k) ∧ a_outputNode k = nI (O k)) (hls : pr_ls a_order L)
    (h : ∀ nu, (∀ d, d ∈ L → nu d = nI (pr_us A B O L oc d)) → post (f_maxNodes, f_maxRules, f_ruleCount, f_counterexample, f_optimized, f_nodeCount, (nI oc), f_applications, a_preRelation, a_preVariable, a_preConstant, a_roomNeeded, a_useCount, a_treeSize, a_treeKind, a_treeValue, a_treeA, a_treeB, a_treeResult, a_constantValued, a_maximal, a_counterpart, a_boundNode, a_pending, a_pendingCount, a_nodeKind, a_nodeValue, a_nodeA, a_nodeB, a_nodeResult, nu, a_outputNode, a_seen, a_order, a_walkStack)) : wpX_countUses post (f_maxNodes, f_maxRules, f_ruleCount, f_counterexample, f_optimized, f_nodeCount, (nI oc), f_applications, a_preRelation, a_preVariable, a_preConstant, a_roomNeeded, a_useCount, a_treeSize, a_treeKind, a_treeValue, a_treeA, a_treeB, a_treeResult, a_constantValued, a_maximal, a_counterpart, a_boundNode, a_pending, a_pendingCount, a_nodeKind, a_nodeValue, a_nodeA, a_nodeB, a_nodeResult, a_nodeUses, a_outputNode, a_seen, a_order, a_walkStack) (nI L.length) := by
  have hLT : ∀ x, x ∈ L → pr_T 0 K x := fun x hx => (hL.2.2.2 x hx).1
  have hlen := pr_len (lo := 0) (n := 32) hL.1 (fun x hx => ⟨(hLT x hx).1, (hLT x hx).2.1⟩)
  have hOL : ∀ k, k < oc → O k ∈ L := fun k hk => by
    have := hL.2.2.1 k hk
    rw [Nat.zero_add] at this
    exact this
  have l2 : ∀ d i nu, i + d = L.length → (∀ q, q < i → nu (L.getD q 0) = 0) → wX_countUses_2 post (nI L.length) f_maxNodes f_maxRules f_ruleCount f_counterexample f_optimized f_nodeCount (nI oc) f_applications (d + 1) (nI i) a_preRelation a_preVariable a_preConstant a_roomNeeded a_useCount a_treeSize a_treeKind a_treeValue a_treeA a_treeB a_treeResult a_constantValued a_maximal a_counterpart a_boundNode a_pending a_pendingCount a_nodeKind a_nodeValue a_nodeA a_nodeB a_nodeResult nu a_outputNode a_seen a_order a_walkStack := by
    intro d
    induction d with
    | zero =>
      intro i nu hi hu
      refine pk_le L.length i (fun _ => ⟨L.length + 1, ?_⟩) (fun h => absurd h (by omega))
      refine x_uses27 hG hg hLT hL.2.1 hlen hls (fun nu' hn' => ⟨oc + 1, ?_⟩) L.length 0 nu (by omega) (fun x hx => ?_)
      · exact x_uses97 (us0 := fun d => pr_sm (pr_e1 A B d) L) hoc hO hOL (fun nu2 hn2 => h nu2 hn2) oc 0 nu' (by omega) hn'
      · obtain ⟨q, q1, q2⟩ := pr_gd_ex hx
        have := hu q (by omega)
        rw [q2] at this
        rw [this]
        rfl
    | succ d ih =>
      intro i nu hi hu
      have hi' : i < L.length := by omega
      have tx2 := (hLT _ (pr_gd_m hi')).2.1
      refine pk_le L.length i (fun h => absurd h (by omega)) (fun _ => ⟨pk_in i 32 (by omega), ?_⟩)
      rw [nI_clamp (n := i) (by omega), hls i hi']
      refine ⟨pk_in (L.getD i 0) 64 (by omega), ?_⟩
      rw [nI_clamp (by omega)]
      refine nm_e (nm_r (nI_1 _) (ih (i + 1) _ (by omega) fun q hq => ?_))
      by_cases e : L.getD q 0 = L.getD i 0
      · rw [e, pk_us]
      · rw [pk_un e]
        refine hu q ?_
        have : q ≠ i := fun hx => e (by rw [hx])
        omega
  exact ⟨L.length + 1, l2 L.length 0 a_nodeUses (by omega) (fun q hq => absurd hq (by omega))⟩
end XU
end
section
/-! X: matching -/
def bx_v (V : Nat → Int32) (bd : Nat → Option Nat) (j : Nat) : Int32 := match bd j with
  | none => 0
  | some d => V d
def by_v (K : Nat → Nat) (V : Nat → Int32) (bd : Nat → Option Nat) (j : Nat) : Int32 := match bd j with
  | none => 0
  | some d => if K d = 11 then V d else 0
theorem pm_bd {K : Nat → Nat} {V : Nat → Int32} {A B : Nat → Option Nat} {us : Nat → Nat} {P : pr_PT} {R i : Nat} {s : pm_S} (h : pm_inv K V A B us P R i s) {j d : Nat} (hj : s.2 j = some d) : pr_T 0 K d := by
  obtain ⟨q, h1, h2, h3, h4, h5⟩ := h.2.2.2 j d hj
  have := (h.2.1 q h1 h2).1
  rw [h5] at this
  exact this
section XV
variable {f_maxNodes f_maxRules f_ruleCount f_counterexample f_optimized f_nodeCount f_outputCount f_applications : Int32} {a_preRelation a_preVariable a_preConstant a_roomNeeded a_useCount a_treeSize a_treeKind a_treeValue a_treeA a_treeB a_treeResult a_constantValued a_maximal a_counterpart a_boundNode a_pending a_pendingCount a_nodeKind a_nodeValue a_nodeA a_nodeB a_nodeResult a_nodeUses a_outputNode a_seen a_order a_walkStack : Nat → Int32}
variable {K : Nat → Nat} {V : Nat → Int32} {A B : Nat → Option Nat} {us rk : Nat → Nat} {P : pr_PT} {Rn w : Nat}
theorem x_boundValue {post : Int32 → Prop} {bd : Nat → Option Nat} {j : Nat} (hj : j < 2) (hg : gr_at 0 K V A B a_nodeKind a_nodeValue a_nodeA a_nodeB) (hb : a_boundNode j = pr_oI (bd j)) (hT : ∀ d, bd j = some d → pr_T 0 K d) (h : post (bx_v V bd j)) : wpX_boundValue post (f_maxNodes, f_maxRules, f_ruleCount, f_counterexample, f_optimized, f_nodeCount, f_outputCount, f_applications, a_preRelation, a_preVariable, a_preConstant, a_roomNeeded, a_useCount, a_treeSize, a_treeKind, a_treeValue, a_treeA, a_treeB, a_treeResult, a_constantValued, a_maximal, a_counterpart, a_boundNode, a_pending, a_pendingCount, a_nodeKind, a_nodeValue, a_nodeA, a_nodeB, a_nodeResult, a_nodeUses, a_outputNode, a_seen, a_order, a_walkStack) (nI j) := by
  have hin : vp_in (nI j) 2 := pk_in j 2 hj
  unfold wpX_boundValue
  refine ⟨hin, ?_⟩
  rw [nI_clamp (by omega), hb]
  unfold bx_v at h
  cases e : bd j with
  | none =>
    rw [e] at h
    exact br_t rfl h
  | some d =>
    rw [e] at h
    have td := hT d e
    have td2 := td.2.1
    refine br_f (pr_ne1 (by omega)) ⟨hin, pk_in d 64 (by omega), ?_⟩
    rw [show (pr_oI (some d)).toNatClampNeg = d from nI_clamp (by omega), (hg d td).2.1]
    exact h
theorem x_leaf {post : Int32 → SX → Prop} {i : Nat} {s : pm_S} (hw : w < 34) (hP : pt_ok P) (hi : i < pt_n P) (hk : 11 ≤ pt_k P i) (hG : pr_gw 0 K V A B rk) (hg : gr_at 0 K V A B a_nodeKind a_nodeValue a_nodeA a_nodeB) (hT : tr_at (w * 8) w P a_treeSize a_treeKind a_treeValue a_treeA a_treeB) (td : pr_T 0 K (s.1 i)) (hbd : ∀ j d, s.2 j = some d → pr_T 0 K d) (hbn : ∀ j, j < 2 → a_boundNode j = pr_oI (s.2 j))
    (hno : pm_st K V A B us P i s = none → ∀ bn', post 0 (f_maxNodes, f_maxRules, f_ruleCount, f_counterexample, f_optimized, f_nodeCount, f_outputCount, f_applications, a_preRelation, a_preVariable, a_preConstant, a_roomNeeded, a_useCount, a_treeSize, a_treeKind, a_treeValue, a_treeA, a_treeB, a_treeResult, a_constantValued, a_maximal, a_counterpart, bn', a_pending, a_pendingCount, a_nodeKind, a_nodeValue, a_nodeA, a_nodeB, a_nodeResult, a_nodeUses, a_outputNode, a_seen, a_order, a_walkStack))
    (hy : ∀ s' bn', pm_st K V A B us P i s = some s' → s'.1 = s.1 → (∀ j, j < 2 → bn' j = pr_oI (s'.2 j)) → post 1 (f_maxNodes, f_maxRules, f_ruleCount, f_counterexample, f_optimized, f_nodeCount, f_outputCount, f_applications, a_preRelation, a_preVariable, a_preConstant, a_roomNeeded, a_useCount, a_treeSize, a_treeKind, a_treeValue, a_treeA, a_treeB, a_treeResult, a_constantValued, a_maximal, a_counterpart, bn', a_pending, a_pendingCount, a_nodeKind, a_nodeValue, a_nodeA, a_nodeB, a_nodeResult, a_nodeUses, a_outputNode, a_seen, a_order, a_walkStack)) : wpX_leafFits post (f_maxNodes, f_maxRules, f_ruleCount, f_counterexample, f_optimized, f_nodeCount, f_outputCount, f_applications, a_preRelation, a_preVariable, a_preConstant, a_roomNeeded, a_useCount, a_treeSize, a_treeKind, a_treeValue, a_treeA, a_treeB, a_treeResult, a_constantValued, a_maximal, a_counterpart, a_boundNode, a_pending, a_pendingCount, a_nodeKind, a_nodeValue, a_nodeA, a_nodeB, a_nodeResult, a_nodeUses, a_outputNode, a_seen, a_order, a_walkStack) (nI (w * 8 + i)) (nI (s.1 i)) := by
  have h8 := hP.1
  have td2 := td.2.1
  obtain ⟨e1, e2, _, _⟩ := hT.2 i hi
  have hn := hP.2 i hi
  have hs := pt_sm hP i hi
  obtain ⟨k1, k2, k3, k4⟩ := hg _ td
  have hK12 := (hG _ td).1
  have hin : vp_in (nI (w * 8 + i)) 272 := pk_in (w * 8 + i) 272 (by omega)
  have hcl : (nI (w * 8 + i)).toNatClampNeg = w * 8 + i := nI_clamp (by omega)
  have hinn : vp_in (nI (s.1 i)) 64 := pk_in (s.1 i) 64 (by omega)
  have hcn : (nI (s.1 i)).toNatClampNeg = s.1 i := nI_clamp (by omega)
  unfold pm_st at hno hy
  unfold wpX_leafFits
  refine ⟨hin, ?_⟩
  rw [hcl, hcn, k1, k2, e2]
  refine nm_r e1 (pk_eq (pt_k P i) 11 (fun e => ⟨hinn, ?_⟩) (fun n11 => ?_))
  · rw [if_pos e] at hno hy
    refine pk_eq (K (s.1 i)) 11 (fun hK => ⟨hinn, hin, br_c (fun hv => ?_) (fun hv => ?_)⟩) (fun hK => ?_)
    · exact hy s _ (if_pos ⟨hK, hv⟩) rfl hbn
    · exact hno (if_neg fun hh => hv hh.2) _
    · exact hno (if_neg fun hh => hK hh.1) _
  · rw [if_neg n11, if_pos (show 13 ≤ pt_k P i by have := hn.1; omega)] at hno hy
    have hv2 := hn.2.2.1 (by have := hn.1; omega)
    have h64 : ¬ (pt_k P i = 14 ∧ K (s.1 i) ≠ 11) → wX_leafFits_64 post (nI (w * 8 + i)) (nI (s.1 i)) f_maxNodes f_maxRules f_ruleCount f_counterexample f_optimized f_nodeCount f_outputCount f_applications a_preRelation a_preVariable a_preConstant a_roomNeeded a_useCount a_treeSize a_treeKind a_treeValue a_treeA a_treeB a_treeResult a_constantValued a_maximal a_counterpart a_boundNode a_pending a_pendingCount a_nodeKind a_nodeValue a_nodeA a_nodeB a_nodeResult a_nodeUses a_outputNode a_seen a_order a_walkStack := by
      intro h14
      rw [if_neg h14] at hno hy
      unfold pm_lf at hno hy
      have hinj : vp_in (nI (pt_v P i)) 2 := pk_in (pt_v P i) 2 hv2
      refine ⟨hin, ?_⟩
      rw [hcl]
      refine nm_r e2 ⟨hinj, ?_⟩
      rw [nI_clamp (by omega), hbn _ hv2]
      cases hb : s.2 (pt_v P i) with
      | none =>
        rw [hb] at hno hy
        refine br_t rfl ⟨hinj, nm_e ⟨hinj, ?_⟩⟩
        rw [nI_clamp (by omega), pk_us]
        refine br_t rfl (hy _ _ rfl rfl fun j hj => ?_)
        show upd a_boundNode (pt_v P i) (nI (s.1 i)) j = pr_oI (pr_st s.2 (pt_v P i) (some (s.1 i)) j)
        by_cases ej : j = pt_v P i
        · rw [ej, pk_us, pr_st_s]
          rfl
        · rw [pk_un ej, pr_st_n ej]
          exact hbn j hj
      | some x =>
        rw [hb] at hno hy
        have tx := (hbd _ x hb).2.1
        refine br_f (pr_ne1 (by omega)) ⟨hinj, ?_⟩
        rw [nI_clamp (by omega), hbn _ hv2, hb]
        refine pk_eq x (s.1 i) (fun ex => ?_) (fun ex => ?_)
        · exact hy s _ (if_pos ex) rfl hbn
        · exact hno (if_neg ex) _
    refine pk_eq (pt_k P i) 14 (fun e14 => ⟨hinn, ?_⟩) (fun n14 => h64 fun hh => n14 hh.1)
    refine pk_eq (K (s.1 i)) 11 (fun hK => h64 fun hh => hh.2 hK) (fun hK => ?_)
    rw [if_pos ⟨e14, hK⟩] at hno
    exact hno rfl _
theorem x_opf {post : Int32 → SX → Prop} {i : Nat} {s : pm_S} {z : Int32} (hw : w < 34) (hP : pt_ok P) (hi : i < pt_n P) (hk : pt_k P i ≤ 10) (hG : pr_gw 0 K V A B rk) (hg : gr_at 0 K V A B a_nodeKind a_nodeValue a_nodeA a_nodeB) (hT : tr_at (w * 8) w P a_treeSize a_treeKind a_treeValue a_treeA a_treeB) (td : pr_T 0 K (s.1 i)) (hu : a_nodeUses (s.1 i) = nI (us (s.1 i))) (hub : us (s.1 i) < 2 ^ 31) (hz : z = 0 ↔ i + 1 ≠ pt_n P) (hcp : ∀ q, q < pt_n P → pm_as P (i + 1) q → a_counterpart (w * 8 + q) = nI (s.1 q))
    (hno : pm_st K V A B us P i s = none → ∀ cp', post 0 (f_maxNodes, f_maxRules, f_ruleCount, f_counterexample, f_optimized, f_nodeCount, f_outputCount, f_applications, a_preRelation, a_preVariable, a_preConstant, a_roomNeeded, a_useCount, a_treeSize, a_treeKind, a_treeValue, a_treeA, a_treeB, a_treeResult, a_constantValued, a_maximal, cp', a_boundNode, a_pending, a_pendingCount, a_nodeKind, a_nodeValue, a_nodeA, a_nodeB, a_nodeResult, a_nodeUses, a_outputNode, a_seen, a_order, a_walkStack))
    (hy : ∀ s' cp', pm_st K V A B us P i s = some s' → s'.2 = s.2 → (∀ q, q < pt_n P → pm_as P i q → cp' (w * 8 + q) = nI (s'.1 q)) → post 1 (f_maxNodes, f_maxRules, f_ruleCount, f_counterexample, f_optimized, f_nodeCount, f_outputCount, f_applications, a_preRelation, a_preVariable, a_preConstant, a_roomNeeded, a_useCount, a_treeSize, a_treeKind, a_treeValue, a_treeA, a_treeB, a_treeResult, a_constantValued, a_maximal, cp', a_boundNode, a_pending, a_pendingCount, a_nodeKind, a_nodeValue, a_nodeA, a_nodeB, a_nodeResult, a_nodeUses, a_outputNode, a_seen, a_order, a_walkStack)) : wpX_operationFits post (f_maxNodes, f_maxRules, f_ruleCount, f_counterexample, f_optimized, f_nodeCount, f_outputCount, f_applications, a_preRelation, a_preVariable, a_preConstant, a_roomNeeded, a_useCount, a_treeSize, a_treeKind, a_treeValue, a_treeA, a_treeB, a_treeResult, a_constantValued, a_maximal, a_counterpart, a_boundNode, a_pending, a_pendingCount, a_nodeKind, a_nodeValue, a_nodeA, a_nodeB, a_nodeResult, a_nodeUses, a_outputNode, a_seen, a_order, a_walkStack) (nI (w * 8 + i)) (nI (s.1 i)) z := by
  have h8 := hP.1
  have td2 := td.2.1
  obtain ⟨e1, e2, e3, e4⟩ := hT.2 i hi
  have hn := hP.2 i hi
  have h9 := hn.2.2.2.2.2.2.2.2.1
  have h10 := hn.2.2.2.2.2.2.2.2.2.1
  have hs := pt_sm hP i hi
  obtain ⟨k1, k2, k3, k4⟩ := hg _ td
  obtain ⟨g1, g2, g3, g4, g5, g6, g7, g8, g9, g10⟩ := hG _ td
  have hin : vp_in (nI (w * 8 + i)) 272 := pk_in (w * 8 + i) 272 (by omega)
  have hcl : (nI (w * 8 + i)).toNatClampNeg = w * 8 + i := nI_clamp (by omega)
  have hinn : vp_in (nI (s.1 i)) 64 := pk_in (s.1 i) 64 (by omega)
  have hcn : (nI (s.1 i)).toNatClampNeg = s.1 i := nI_clamp (by omega)
  obtain ⟨ca, hca⟩ := hn.2.2.2.2.2.2.1 hk
  have hca' := h9 ca (Or.inl hca)
  unfold pm_st at hno hy
  rw [if_neg (by omega), if_neg (by omega)] at hno hy
  have h31 : K (s.1 i) = pt_k P i → (i + 1 = pt_n P ∨ us (s.1 i) = 1) → wX_operationFits_31 post (nI (w * 8 + i)) (nI (s.1 i)) f_maxNodes f_maxRules f_ruleCount f_counterexample f_optimized f_nodeCount f_outputCount f_applications a_preRelation a_preVariable a_preConstant a_roomNeeded a_useCount a_treeSize a_treeKind a_treeValue a_treeA a_treeB a_treeResult a_constantValued a_maximal a_counterpart a_boundNode a_pending a_pendingCount a_nodeKind a_nodeValue a_nodeA a_nodeB a_nodeResult a_nodeUses a_outputNode a_seen a_order a_walkStack := by
    intro hK hr
    have hy' := fun cp' => hy (pm_ch A B P i (s.1 i) s.1, s.2) cp' (if_pos ⟨hK, hr⟩) rfl
    obtain ⟨da, hda⟩ := g8 (by rw [hK]; exact hk)
    refine ⟨hin, hinn, ?_⟩
    rw [hcl, hcn, e3, e4, hca]
    refine ⟨pk_in (w * 8 + ca) 272 (by omega), ?_⟩
    rw [show (pr_oX (w * 8) (some ca)).toNatClampNeg = w * 8 + ca from nI_clamp (by omega), k3, hda]
    refine nm_e ⟨hin, ?_⟩
    cases hb : pt_b P i with
    | none =>
      refine br_t rfl (hy' _ fun q hq hq' => ?_)
      show upd a_counterpart (w * 8 + ca) (nI da) (w * 8 + q) = nI (pm_ch A B P i (s.1 i) s.1 q)
      unfold pm_ch
      by_cases e : q = ca
      · subst e
        rw [pk_us, if_pos hca, hda]
        rfl
      · rw [pk_un (by omega), if_neg (fun h => e (by rw [hca] at h; exact (Option.some.inj h).symm)), hb, if_neg (fun h => (nomatch h))]
        rcases pm_as_s hq' with y | y
        · exact hcp q hq y
        · rcases ((hP.2 q hq).2.2.2.2.2.2.2.2.2.2 i y).2.2 with z | z
          · rw [hca] at z
            exact absurd (Option.some.inj z).symm e
          · rw [hb] at z
            cases z
    | some cb =>
      have hcb' := h9 cb (Or.inr hb)
      have hk8 : pt_k P i ≤ 8 := by
        apply Classical.byContradiction
        intro hx
        rw [hn.2.2.2.2.2.1 (by omega)] at hb
        cases hb
      obtain ⟨db, hdb⟩ := g9 (by rw [hK]; exact hk8)
      refine br_f (pr_ne1 (by omega)) ⟨hin, hinn, pk_in (w * 8 + cb) 272 (by omega), ?_⟩
      rw [show (pr_oX (w * 8) (some cb)).toNatClampNeg = w * 8 + cb from nI_clamp (by omega), k4, hdb]
      have hab : ca ≠ cb := fun e => h10 ca hca (by rw [e]; exact hb)
      refine nm_e (hy' _ fun q hq hq' => ?_)
      show upd (upd a_counterpart (w * 8 + ca) (nI da)) (w * 8 + cb) (nI db) (w * 8 + q) = nI (pm_ch A B P i (s.1 i) s.1 q)
      unfold pm_ch
      by_cases e : q = cb
      · subst e
        rw [pk_us, if_neg (fun h => hab (by rw [hca] at h; exact Option.some.inj h)), if_pos hb, hdb]
        rfl
      · rw [pk_un (by omega)]
        by_cases e' : q = ca
        · subst e'
          rw [pk_us, if_pos hca, hda]
          rfl
        · rw [pk_un (by omega), if_neg (fun h => e' (by rw [hca] at h; exact (Option.some.inj h).symm)), if_neg (fun h => e (by rw [hb] at h; exact (Option.some.inj h).symm))]
          rcases pm_as_s hq' with y | y
          · exact hcp q hq y
          · rcases ((hP.2 q hq).2.2.2.2.2.2.2.2.2.2 i y).2.2 with z | z
            · rw [hca] at z
              exact absurd (Option.some.inj z).symm e'
            · rw [hb] at z
              exact absurd (Option.some.inj z).symm e
  unfold wpX_operationFits
  refine ⟨hinn, hin, ?_⟩
  rw [hcl, hcn, k1, e1, hu]
  refine pk_eq (K (s.1 i)) (pt_k P i) (fun hK => br_c (fun hz0 => ⟨hinn, ?_⟩) (fun hz1 => ?_)) (fun hK => hno (if_neg fun hh => hK hh.1) _)
  · have hne := hz.mp hz0
    refine pk_eq (us (s.1 i)) 1 (fun h1 => h31 hK (Or.inr h1)) (fun h1 => hno (if_neg fun hh => ?_) _)
    rcases hh.2 with y | y
    · exact hne y
    · exact h1 y
  · refine h31 hK (Or.inl ?_)
    apply Classical.byContradiction
    intro hne
    exact hz1 (hz.mpr hne)
theorem x_matches41 {post : Int32 → SX → Prop} {r rl rj rK : Nat} (hr : r < 17) (hw : w = r * 2 + 0) (hP : pt_ok P) (hf : pt_fin P) (hG : pr_gw 0 K V A B rk) (hg : gr_at 0 K V A B a_nodeKind a_nodeValue a_nodeA a_nodeB) (hT : tr_at (w * 8) w P a_treeSize a_treeKind a_treeValue a_treeA a_treeB) (hu : ∀ d, pr_T 0 K d → a_nodeUses d = nI (us d) ∧ us d < 2 ^ 31) (h4 : rl ≤ 4) (hj : rl ≠ 0 → rj < 2) (hpe : pe_at r rl rj rK a_preRelation a_preVariable a_preConstant) :
    ∀ i s cp bn, i ≤ pt_n P → pm_inv K V A B us P Rn i s → (∀ q, q < pt_n P → pm_as P i q → cp (w * 8 + q) = nI (s.1 q)) → (∀ j, j < 2 → bn j = pr_oI (s.2 j)) →
      (pm_run K V A B us P i s = none → ∀ cp' bn', post 0 (f_maxNodes, f_maxRules, f_ruleCount, f_counterexample, f_optimized, f_nodeCount, f_outputCount, f_applications, a_preRelation, a_preVariable, a_preConstant, a_roomNeeded, a_useCount, a_treeSize, a_treeKind, a_treeValue, a_treeA, a_treeB, a_treeResult, a_constantValued, a_maximal, cp', bn', a_pending, a_pendingCount, a_nodeKind, a_nodeValue, a_nodeA, a_nodeB, a_nodeResult, a_nodeUses, a_outputNode, a_seen, a_order, a_walkStack)) →
      (∀ s' cp' bn', pm_run K V A B us P i s = some s' → (∀ j, j < 2 → bn' j = pr_oI (s'.2 j)) → post (pr_b (pr_ph rl rj rK (bx_v V s'.2 0) (bx_v V s'.2 1))) (f_maxNodes, f_maxRules, f_ruleCount, f_counterexample, f_optimized, f_nodeCount, f_outputCount, f_applications, a_preRelation, a_preVariable, a_preConstant, a_roomNeeded, a_useCount, a_treeSize, a_treeKind, a_treeValue, a_treeA, a_treeB, a_treeResult, a_constantValued, a_maximal, cp', bn', a_pending, a_pendingCount, a_nodeKind, a_nodeValue, a_nodeA, a_nodeB, a_nodeResult, a_nodeUses, a_outputNode, a_seen, a_order, a_walkStack)) →
      wX_matches_41 post (nI r) (nI w) (nI (w * 8 + (pt_n P - 1))) (i + 1) (nI (w * 8 + i) + (-1)) f_maxNodes f_maxRules f_ruleCount f_counterexample f_optimized f_nodeCount f_outputCount f_applications a_preRelation a_preVariable a_preConstant a_roomNeeded a_useCount a_treeSize a_treeKind a_treeValue a_treeA a_treeB a_treeResult a_constantValued a_maximal cp bn a_pending a_pendingCount a_nodeKind a_nodeValue a_nodeA a_nodeB a_nodeResult a_nodeUses a_outputNode a_seen a_order a_walkStack := by
  intro i
  have h8 := hP.1
  induction i with
  | zero =>
    intro s cp bn hi hinv hcp hbn hno hy
    unfold wX_matches_41
    refine x_firstOf (br_t (nx_lt (a := w * 8) (by omega)) ?_)
    refine x_boundValue (j := 0) (bd := s.2) (by omega) hg (hbn 0 (by omega)) (fun d hd => pm_bd hinv hd) ?_
    refine x_boundValue (j := 1) (bd := s.2) (by omega) hg (hbn 1 (by omega)) (fun d hd => pm_bd hinv hd) ?_
    refine x_preHolds hr h4 hj hpe ⟨?_, hy s cp bn rfl hbn⟩
    cases pr_ph rl rj rK (bx_v V s.2 0) (bx_v V s.2 1) <;> decide
  | succ i ih =>
    intro s cp bn hi hinv hcp hbn hno hy
    have hi' : i < pt_n P := by omega
    obtain ⟨e1, e2, e3, e4⟩ := hT.2 i hi'
    have hn := hP.2 i hi'
    have has := pm_as_i hP hf hi'
    have td := hinv.2.2.1 i hi' has
    have hin : vp_in (nI (w * 8 + i)) 272 := pk_in (w * 8 + i) 272 (by omega)
    have hcl : (nI (w * 8 + i)).toNatClampNeg = w * 8 + i := nI_clamp (by omega)
    have hrun : pm_run K V A B us P (i + 1) s = (match pm_st K V A B us P i s with
      | none => none
      | some s' => pm_run K V A B us P i s') := rfl
    rw [nx_m1]
    unfold wX_matches_41
    refine x_firstOf (pk_lt (w * 8 + i) (w * 8) (fun h => absurd h (by omega)) (fun _ => ⟨hin, ?_⟩))
    rw [hcl]
    refine nm_r (hcp i hi' has) ⟨hin, ?_⟩
    rw [e3]
    by_cases hk : pt_k P i ≤ 10
    · obtain ⟨ca, hca⟩ := hn.2.2.2.2.2.2.1 hk
      have hca' := hn.2.2.2.2.2.2.2.2.1 ca (Or.inl hca)
      have h98 : ∀ z : Int32, (z = 0 ↔ i + 1 ≠ pt_n P) → wX_matches_98 post (wX_matches_41 post (nI r) (nI w) (nI (w * 8 + (pt_n P - 1))) (i + 1)) (nI r) (nI w) (nI (w * 8 + (pt_n P - 1))) (nI (w * 8 + i)) z (nI (s.1 i)) (nI (w * 8 + i)) f_maxNodes f_maxRules f_ruleCount f_counterexample f_optimized f_nodeCount f_outputCount f_applications a_preRelation a_preVariable a_preConstant a_roomNeeded a_useCount a_treeSize a_treeKind a_treeValue a_treeA a_treeB a_treeResult a_constantValued a_maximal cp bn a_pending a_pendingCount a_nodeKind a_nodeValue a_nodeA a_nodeB a_nodeResult a_nodeUses a_outputNode a_seen a_order a_walkStack := by
        intro z hz
        unfold wX_matches_98
        refine x_opf (us := us) (by omega) hP hi' hk hG hg hT td (hu _ td).1 (hu _ td).2 hz hcp (fun hs cp' => br_t rfl (hno (by rw [hrun, hs]) cp' bn)) (fun s' cp' hs h2 hc' => br_f (by decide) (nm_e ?_))
        exact ih s' cp' bn (by omega) (pm_step hP hf hG hi' hinv hs) hc' (fun j hj' => by rw [h2]; exact hbn j hj') (fun h => hno (by rw [hrun, hs]; exact h)) (fun s2 cp2 bn2 h => hy s2 cp2 bn2 (by rw [hrun, hs]; exact h))
      rw [hca]
      refine br_f (pr_ne1 (by omega)) (pk_eq (w * 8 + i) (w * 8 + (pt_n P - 1)) (fun e => h98 1 ⟨fun h => absurd h (by decide), fun h => absurd (by omega) h⟩) (fun e => h98 0 ⟨fun _ h => e (by omega), fun _ => rfl⟩))
    · rw [hn.2.2.2.2.1 (by omega)]
      refine br_t rfl ?_
      refine x_leaf (us := us) (by omega) hP hi' (by omega) hG hg hT td (fun j d hd => pm_bd hinv hd) hbn (fun hs bn' => br_t rfl (hno (by rw [hrun, hs]) cp bn')) (fun s' bn' hs h1 hb' => br_f (by decide) (nm_e ?_))
      refine ih s' cp bn' (by omega) (pm_step hP hf hG hi' hinv hs) (fun q hq hq' => ?_) hb' (fun h => hno (by rw [hrun, hs]; exact h)) (fun s2 cp2 bn2 h => hy s2 cp2 bn2 (by rw [hrun, hs]; exact h))
      rw [h1]
      rcases pm_as_s hq' with y | y
      · exact hcp q hq y
      · rcases ((hP.2 q hq).2.2.2.2.2.2.2.2.2.2 i y).2.2 with z | z
        · rw [hn.2.2.2.2.1 (by omega)] at z
          cases z
        · rw [hn.2.2.2.2.2.1 (by omega)] at z
          cases z
theorem x_matches {post : Int32 → SX → Prop} {r rl rj rK : Nat} (hr : r < 17) (hP : pt_ok P) (hf : pt_fin P) (hG : pr_gw 0 K V A B rk) (hg : gr_at 0 K V A B a_nodeKind a_nodeValue a_nodeA a_nodeB) (hT : tr_at ((r * 2 + 0) * 8) (r * 2 + 0) P a_treeSize a_treeKind a_treeValue a_treeA a_treeB) (hu : ∀ d, pr_T 0 K d → a_nodeUses d = nI (us d) ∧ us d < 2 ^ 31) (h4 : rl ≤ 4) (hj : rl ≠ 0 → rj < 2) (hpe : pe_at r rl rj rK a_preRelation a_preVariable a_preConstant) (tR : pr_T 0 K Rn)
    (hno : pm_run K V A B us P (pt_n P) (fun _ => Rn, fun _ => none) = none → ∀ cp' bn', post 0 (f_maxNodes, f_maxRules, f_ruleCount, f_counterexample, f_optimized, f_nodeCount, f_outputCount, f_applications, a_preRelation, a_preVariable, a_preConstant, a_roomNeeded, a_useCount, a_treeSize, a_treeKind, a_treeValue, a_treeA, a_treeB, a_treeResult, a_constantValued, a_maximal, cp', bn', a_pending, a_pendingCount, a_nodeKind, a_nodeValue, a_nodeA, a_nodeB, a_nodeResult, a_nodeUses, a_outputNode, a_seen, a_order, a_walkStack))
    (hy : ∀ s' cp' bn', pm_run K V A B us P (pt_n P) (fun _ => Rn, fun _ => none) = some s' → (∀ j, j < 2 → bn' j = pr_oI (s'.2 j)) → post (pr_b (pr_ph rl rj rK (bx_v V s'.2 0) (bx_v V s'.2 1))) (f_maxNodes, f_maxRules, f_ruleCount, f_counterexample, f_optimized, f_nodeCount, f_outputCount, f_applications, a_preRelation, a_preVariable, a_preConstant, a_roomNeeded, a_useCount, a_treeSize, a_treeKind, a_treeValue, a_treeA, a_treeB, a_treeResult, a_constantValued, a_maximal, cp', bn', a_pending, a_pendingCount, a_nodeKind, a_nodeValue, a_nodeA, a_nodeB, a_nodeResult, a_nodeUses, a_outputNode, a_seen, a_order, a_walkStack)) :
    wpX_matches post (f_maxNodes, f_maxRules, f_ruleCount, f_counterexample, f_optimized, f_nodeCount, f_outputCount, f_applications, a_preRelation, a_preVariable, a_preConstant, a_roomNeeded, a_useCount, a_treeSize, a_treeKind, a_treeValue, a_treeA, a_treeB, a_treeResult, a_constantValued, a_maximal, a_counterpart, a_boundNode, a_pending, a_pendingCount, a_nodeKind, a_nodeValue, a_nodeA, a_nodeB, a_nodeResult, a_nodeUses, a_outputNode, a_seen, a_order, a_walkStack) (nI r) (nI Rn) := by
  have h8 := hP.1
  have h0 := hf.1
  have e1 : nI ((r * 2 + 0) * 8 + pt_n P) - 1 = nI ((r * 2 + 0) * 8 + (pt_n P - 1)) := by
    rw [pr_s1 (by omega)]
    exact congrArg nI (by omega)
  have e2 : nI ((r * 2 + 0) * 8 + (pt_n P - 1)) = nI ((r * 2 + 0) * 8 + pt_n P) + (-1) := by
    rw [pr_m1 (by omega)]
    exact congrArg nI (by omega)
  unfold wpX_matches
  refine x_treeOf r 0 ?_
  refine x_endOf (by omega) hT.1 ?_
  refine nm_r e1 (nm_e (nm_e ⟨pk_in ((r * 2 + 0) * 8 + (pt_n P - 1)) 272 (by omega), ?_⟩))
  rw [nI_clamp (by omega)]
  refine nm_e ⟨pt_n P + 1, ?_⟩
  have := x_matches41 (w := r * 2 + 0) (Rn := Rn) (post := post) hr rfl hP hf hG hg hT hu h4 hj hpe (pt_n P) (fun _ => Rn, fun _ => none) (upd a_counterpart ((r * 2 + 0) * 8 + (pt_n P - 1)) (nI Rn)) (upd (upd a_boundNode 0 (-1)) 1 (-1)) (Nat.le_refl _) (pm_inv0 hf tR) (fun q hq hq' => by
    have e : q = pt_n P - 1 := by
      rcases hq' with y | ⟨p, y1, y2, _⟩
      · omega
      · omega
    rw [e, pk_us]) (fun j hj' => by
    have : j = 0 ∨ j = 1 := by omega
    rcases this with e | e
    · subst e
      rw [pk_un (by omega), pk_us]
      rfl
    · subst e
      rw [pk_us]
      rfl) hno hy
  rw [← e2] at this
  exact this
end XV
end
section
/-! Y: matching -/
section YV
variable {f_maxNodes f_maxRules f_phase f_nCount f_outCnt f_apps f_ruleCount f_cex f_curLive f_orderN : Int32} {a_alive a_nKind a_nVal a_nA a_nB a_lv a_nd a_nv a_outs a_tKind a_tVal a_tA a_tB a_tN a_preRel a_preJ a_preK a_ruleUse a_pend a_pendN a_tv a_cv a_mx a_par a_mp a_res a_bnd a_order a_stk a_stSt : Nat → Int32}
variable {K : Nat → Nat} {V : Nat → Int32} {A B : Nat → Option Nat} {us rk O : Nat → Nat} {P R : pr_PT} {Rn oc : Nat} {L : List Nat}
theorem y_bindConst {post : Int32 → Prop} {bd : Nat → Option Nat} {j : Nat} (hj : j < 2) (hG : pr_gw 0 K V A B rk) (hg : gr_at 0 K V A B a_nKind a_nVal a_nA a_nB) (hb : a_bnd j = pr_oI (bd j)) (hT : ∀ d, bd j = some d → pr_T 0 K d) (h : post (by_v K V bd j)) : wpY_bindConst post (f_maxNodes, f_maxRules, f_phase, f_nCount, f_outCnt, f_apps, f_ruleCount, f_cex, f_curLive, f_orderN, a_alive, a_nKind, a_nVal, a_nA, a_nB, a_lv, a_nd, a_nv, a_outs, a_tKind, a_tVal, a_tA, a_tB, a_tN, a_preRel, a_preJ, a_preK, a_ruleUse, a_pend, a_pendN, a_tv, a_cv, a_mx, a_par, a_mp, a_res, a_bnd, a_order, a_stk, a_stSt) (nI j) := by
  have hin : vp_in (nI j) 2 := pk_in j 2 hj
  unfold wpY_bindConst
  refine ⟨hin, ?_⟩
  rw [nI_clamp (by omega)]
  refine nm_r hb ?_
  unfold by_v at h
  cases e : bd j with
  | none =>
    rw [e] at h
    exact br_t (show (-1 : Int32) < 0 by decide) h
  | some d =>
    rw [e] at h
    have td := hT d e
    have td2 := td.2.1
    have hK := (hG d td).1
    have hin : vp_in (nI d) 64 := pk_in d 64 (by omega)
    refine br_f (nI_pos (by omega)) (pk_le 32 d (fun h => absurd h (by omega)) (fun _ => ⟨hin, ?_⟩))
    rw [show (pr_oI (some d)).toNatClampNeg = d from nI_clamp (by omega), (hg d td).1, (hg d td).2.1]
    refine pk_eq (K d) 11 (fun e11 => ⟨hin, ?_⟩) (fun e11 => ?_)
    · replace h : post (if K d = 11 then V d else 0) := h
      rw [if_pos e11] at h
      exact h
    · replace h : post (if K d = 11 then V d else 0) := h
      rw [if_neg e11] at h
      exact h
theorem y_411 {post : Int32 → SY → Prop} {r cl mN : Nat} {C : Nat → Bool} (hr : r < 16) (hcl : cl ≤ 32) (hmN : mN ≤ 32) (hR : pt_ok R) (hU : tr_at 0 (r * 2 + 1) R a_tN a_tKind a_tVal a_tA a_tB) (hcv : ∀ q, q < pt_n R → a_cv q = pr_b (pt_cv R C q)) (hmx : ∀ q, q < pt_n R → a_mx q = pr_b (pt_mx R C q))
    (h : post (pr_b (decide (cl + pt_rm R C ≤ mN))) ((nI mN), f_maxRules, f_phase, f_nCount, f_outCnt, f_apps, f_ruleCount, f_cex, (nI cl), f_orderN, a_alive, a_nKind, a_nVal, a_nA, a_nB, a_lv, a_nd, a_nv, a_outs, a_tKind, a_tVal, a_tA, a_tB, a_tN, a_preRel, a_preJ, a_preK, a_ruleUse, a_pend, a_pendN, a_tv, a_cv, a_mx, a_par, a_mp, a_res, a_bnd, a_order, a_stk, a_stSt)) :
    ∀ d i, i + d = pt_n R → wY_match_411 post (nI (r * 2)) (nI mN) f_maxRules f_phase f_nCount f_outCnt f_apps f_ruleCount f_cex (nI cl) f_orderN a_alive a_nKind a_nVal a_nA a_nB a_lv a_nd a_nv a_outs a_tKind a_tVal a_tA a_tB a_tN a_preRel a_preJ a_preK a_ruleUse a_pend a_pendN a_tv a_cv a_mx a_par a_mp a_res a_bnd a_order a_stk a_stSt (d + 1) (nI (pr_rs (pt_rm1 R C) 0 i)) (nI i) := by
  intro d
  have h8 := hR.1
  have hrm : pt_rm R C ≤ 8 := by
    have : pt_rm R C ≤ pt_n R * 1 := pr_rs_bound (fun x _ _ => by
      unfold pt_rm1
      by_cases hx : pt_cv R C x = false ∨ pt_mx R C x = true ∧ pt_k R x ≠ 13
      · rw [if_pos hx]
        omega
      · rw [if_neg hx]
        omega)
    omega
  have hin34 : vp_in (nI (r * 2 + 1)) 34 := pk_in (r * 2 + 1) 34 (by omega)
  have hc34 : (nI (r * 2 + 1)).toNatClampNeg = r * 2 + 1 := nI_clamp (by omega)
  have e1 : nI (r * 2) + 1 = nI (r * 2 + 1) := nI_1 _
  induction d with
  | zero =>
    intro i hi
    show vp_in (nI (r * 2) + 1) 34 ∧ _
    rw [e1]
    refine ⟨hin34, ?_⟩
    rw [hc34, hU.1]
    refine pk_le (pt_n R) i (fun _ => ?_) (fun h => absurd h (by omega))
    rw [show i = pt_n R by omega]
    show (nI mN < nI cl + nI (pt_rm R C) → _) ∧ (¬ nI mN < nI cl + nI (pt_rm R C) → _)
    rw [nI_add]
    refine pk_lt mN (cl + pt_rm R C) (fun hl => ?_) (fun hl => ?_)
    · rw [decide_eq_false (by omega)] at h
      exact h
    · rw [decide_eq_true (by omega)] at h
      exact h
  | succ d ih =>
    intro i hi
    have hi' : i < pt_n R := by omega
    obtain ⟨k1, _⟩ := hU.2 i hi'
    have hs := pt_sm hR i hi'
    have hh := ih (i + 1) (by omega)
    rw [show pr_rs (pt_rm1 R C) 0 (i + 1) = pr_rs (pt_rm1 R C) 0 i + pt_rm1 R C (0 + i) from rfl, Nat.zero_add] at hh
    unfold pt_rm1 at hh
    have hin : vp_in (nI i) 8 := pk_in i 8 (by omega)
    show vp_in (nI (r * 2) + 1) 34 ∧ _
    rw [e1]
    refine ⟨hin34, ?_⟩
    rw [hc34, hU.1, nx_8, nI_clamp (n := (r * 2 + 1) * 8 + i) (by omega), k1, nI_clamp (n := i) (by omega), hcv i hi', hmx i hi']
    refine pk_le (pt_n R) i (fun h => absurd h (by omega)) (fun _ => pk_le 8 i (fun h => absurd h (by omega)) (fun _ => ⟨hin, ?_⟩))
    refine br_c (fun h0 => ?_) (fun h0 => ⟨hin, ?_⟩)
    · rw [if_pos (Or.inl ((pr_b0 _).mp h0))] at hh
      exact nm_r (nI_1 _) (nm_r (nI_1 _) hh)
    · have hc : ¬ pt_cv R C i = false := fun hx => by rw [hx] at h0; exact h0 rfl
      refine br_c (fun h1 => ?_) (fun h1 => ⟨pk_in ((r * 2 + 1) * 8 + i) 272 (by omega), ?_⟩)
      · rw [if_neg (fun hx => by
          rcases hx with hx | hx
          · exact hc hx
          · have := (pr_b0 _).mp h1
            rw [hx.1] at this
            cases this), Nat.add_zero] at hh
        exact nm_r (nI_1 _) hh
      · have hm : pt_mx R C i = true := by
          cases hx : pt_mx R C i with
          | true => rfl
          | false => rw [hx] at h1; exact absurd rfl h1
        refine pk_eq (pt_k R i) 13 (fun h2 => ?_) (fun h2 => ?_)
        · rw [if_neg (fun hx => by
            rcases hx with hx | hx
            · exact hc hx
            · exact hx.2 h2), Nat.add_zero] at hh
          exact nm_r (nI_1 _) hh
        · rw [if_pos (Or.inr ⟨hm, h2⟩)] at hh
          exact nm_r (nI_1 _) (nm_r (nI_1 _) hh)
theorem y_match81 {post : Int32 → SY → Prop} {r rl rj rK cl mN : Nat} (hr : r < 16) (hcl : cl ≤ 32) (hmN : mN ≤ 32) (hP : pt_ok P) (hf : pt_fin P) (hR : pt_ok R) (h14 : ∀ i, i < pt_n R → pt_k R i ≠ 14) (hG : pr_gw 0 K V A B rk) (hg : gr_at 0 K V A B a_nKind a_nVal a_nA a_nB) (hal : al_at 0 K a_alive) (hoc : oc ≤ 4) (hO : ∀ k, k < oc → pr_T 0 K (O k) ∧ a_outs k = nI (O k)) (hL : L = pr_lv A B O 0 oc) (hlv : ∀ c, 0 ≤ c → c < 0 + 32 → (a_lv c = 0 ↔ c ∉ L)) (hus : us = pr_us A B O L oc) (hub : ∀ d, us d < 2 ^ 31)
    (hT : tr_at 0 (r * 2) P a_tN a_tKind a_tVal a_tA a_tB) (hU : tr_at 0 (r * 2 + 1) R a_tN a_tKind a_tVal a_tA a_tB) (h4 : rl ≤ 4) (hj : rl ≠ 0 → rj < 2) (hpe : pe_at r rl rj rK a_preRel a_preJ a_preK) :
    ∀ i s mp bn, i ≤ pt_n P → pm_inv K V A B us P Rn i s → (∀ q, q < pt_n P → pm_as P i q → mp q = nI (s.1 q)) → (∀ j, j < 2 → bn j = pr_oI (s.2 j)) →
      (pm_run K V A B us P i s = none → ∀ mp' bn', post 0 ((nI mN), f_maxRules, f_phase, f_nCount, (nI oc), f_apps, f_ruleCount, f_cex, (nI cl), f_orderN, a_alive, a_nKind, a_nVal, a_nA, a_nB, a_lv, a_nd, a_nv, a_outs, a_tKind, a_tVal, a_tA, a_tB, a_tN, a_preRel, a_preJ, a_preK, a_ruleUse, a_pend, a_pendN, a_tv, a_cv, a_mx, a_par, mp', a_res, bn', a_order, a_stk, a_stSt)) →
      (∀ s', pm_run K V A B us P i s = some s' → rl ≠ 0 → ∃ d, s'.2 rj = some d) →
      (∀ s' mp' bn' cv' mx' par', pm_run K V A B us P i s = some s' → (∀ j, j < 2 → bn' j = pr_oI (s'.2 j)) → post (pr_b (pr_ph rl rj rK (by_v K V s'.2 0) (by_v K V s'.2 1) && decide (cl + pt_rm R (pt_has P 14) ≤ mN))) ((nI mN), f_maxRules, f_phase, f_nCount, (nI oc), f_apps, f_ruleCount, f_cex, (nI cl), f_orderN, a_alive, a_nKind, a_nVal, a_nA, a_nB, a_lv, a_nd, a_nv, a_outs, a_tKind, a_tVal, a_tA, a_tB, a_tN, a_preRel, a_preJ, a_preK, a_ruleUse, a_pend, a_pendN, a_tv, cv', mx', par', mp', a_res, bn', a_order, a_stk, a_stSt)) →
      wY_match_81 post (nI r) (nI (r * 2)) (nI (pt_n P)) (nI mN) f_maxRules f_phase f_nCount (nI oc) f_apps f_ruleCount f_cex (nI cl) f_orderN (i + 1) (nI i + (-1)) a_alive a_nKind a_nVal a_nA a_nB a_lv a_nd a_nv a_outs a_tKind a_tVal a_tA a_tB a_tN a_preRel a_preJ a_preK a_ruleUse a_pend a_pendN a_tv a_cv a_mx a_par mp a_res bn a_order a_stk a_stSt := by
  intro i
  have h8 := hP.1
  have hinr : vp_in (nI r) 17 := pk_in r 17 (by omega)
  have hcr : (nI r).toNatClampNeg = r := nI_clamp (by omega)
  induction i with
  | zero =>
    intro s mp bn hi hinv hmp hbn hno hrj hy
    have h400 : pr_ph rl rj rK (by_v K V s.2 0) (by_v K V s.2 1) = true → wY_match_400 post (nI r) (nI (r * 2)) (nI mN) f_maxRules f_phase f_nCount (nI oc) f_apps f_ruleCount f_cex (nI cl) f_orderN a_alive a_nKind a_nVal a_nA a_nB a_lv a_nd a_nv a_outs a_tKind a_tVal a_tA a_tB a_tN a_preRel a_preJ a_preK a_ruleUse a_pend a_pendN a_tv a_cv a_mx a_par mp a_res bn a_order a_stk a_stSt := by
      intro hph
      unfold wY_match_400
      refine y_constFlags (C := pt_has P 14) (by omega) hP hR h14 rfl hT hU (fun cv' mx' par' k1 k2 => ⟨pt_n R + 1, ?_⟩)
      have := hy s mp bn cv' mx' par' rfl hbn
      rw [hph, Bool.true_and] at this
      exact y_411 hr hcl hmN hR hU k1 k2 this (pt_n R) 0 (by omega)
    refine br_t (by decide) ?_
    refine y_bindConst (j := 0) (bd := s.2) (by omega) hG hg (hbn 0 (by omega)) (fun d hd => pm_bd hinv hd) ?_
    refine y_bindConst (j := 1) (bd := s.2) (by omega) hG hg (hbn 1 (by omega)) (fun d hd => pm_bd hinv hd) ⟨hinr, ?_⟩
    rw [hcr, hpe.1]
    refine pk_eq rl 0 (fun e => h400 ?_) (fun ne => ⟨hinr, ?_⟩)
    · unfold pr_ph
      rw [if_neg (by omega), if_neg (by omega), if_neg (by omega), if_neg (by omega)]
    · have hj2 := hj ne
      rw [(hpe.2 ne).1, nI_clamp (by omega), hbn rj hj2]
      obtain ⟨d, hd⟩ := hrj s rfl ne
      have td := (pm_bd hinv hd).2.1
      rw [hd]
      refine ⟨pk_in rj 2 hj2, br_f (nI_pos (n := d) (by omega)) ?_⟩
      refine y_preOk (by omega) h4 hj hpe (br_c (fun z => ?_) (fun z => h400 ?_))
      · have := hy s mp bn a_cv a_mx a_par rfl hbn
        rw [(pr_b0 _).mp z, Bool.false_and] at this
        exact this
      · cases hx : pr_ph rl rj rK (by_v K V s.2 0) (by_v K V s.2 1) with
        | true => rfl
        | false => rw [hx] at z; exact absurd rfl z
  | succ i ih =>
    intro s mp bn hi hinv hmp hbn hno hrj hy
    have hi' : i < pt_n P := by omega
    obtain ⟨e1, e2, e3, e4⟩ := hT.2 i hi'
    have hn := hP.2 i hi'
    have h9 := hn.2.2.2.2.2.2.2.2.1
    have h10 := hn.2.2.2.2.2.2.2.2.2.1
    have hs := pt_sm hP i hi'
    have has := pm_as_i hP hf hi'
    have td := hinv.2.2.1 i hi' has
    have td2 := td.2.1
    obtain ⟨k1, k2, k3, k4⟩ := hg _ td
    obtain ⟨g1, g2, g3, g4, g5, g6, g7, g8, g9, g10⟩ := hG _ td
    have hin : vp_in (nI (r * 2 * 8 + i)) 272 := pk_in (r * 2 * 8 + i) 272 (by omega)
    have hclx : (nI (r * 2 * 8 + i)).toNatClampNeg = r * 2 * 8 + i := nI_clamp (by omega)
    have hinn : vp_in (nI (s.1 i)) 64 := pk_in (s.1 i) 64 (by omega)
    have hcn : (nI (s.1 i)).toNatClampNeg = s.1 i := nI_clamp (by omega)
    have hrun : pm_run K V A B us P (i + 1) s = (match pm_st K V A B us P i s with
      | none => none
      | some s' => pm_run K V A B us P i s') := rfl
    have hals := hal (s.1 i) td.1 td.2.1
    rw [if_neg td.2.2] at hals
    have nx : ∀ s' mp' bn', pm_st K V A B us P i s = some s' → (∀ q, q < pt_n P → pm_as P i q → mp' q = nI (s'.1 q)) → (∀ j, j < 2 → bn' j = pr_oI (s'.2 j)) → wY_match_81 post (nI r) (nI (r * 2)) (nI (pt_n P)) (nI mN) f_maxRules f_phase f_nCount (nI oc) f_apps f_ruleCount f_cex (nI cl) f_orderN (i + 1) (nI i + (-1)) a_alive a_nKind a_nVal a_nA a_nB a_lv a_nd a_nv a_outs a_tKind a_tVal a_tA a_tB a_tN a_preRel a_preJ a_preK a_ruleUse a_pend a_pendN a_tv a_cv a_mx a_par mp' a_res bn' a_order a_stk a_stSt := by
      intro s' mp' bn' hs' hm' hb'
      exact ih s' mp' bn' (by omega) (pm_step hP hf hG hi' hinv hs') hm' hb' (fun h => hno (by rw [hrun, hs']; exact h)) (fun s2 h => hrj s2 (by rw [hrun, hs']; exact h)) (fun s2 mp2 bn2 cv2 mx2 pa2 h => hy s2 mp2 bn2 cv2 mx2 pa2 (by rw [hrun, hs']; exact h))
    have bad : pm_st K V A B us P i s = none → ∀ mp' bn', post 0 ((nI mN), f_maxRules, f_phase, f_nCount, (nI oc), f_apps, f_ruleCount, f_cex, (nI cl), f_orderN, a_alive, a_nKind, a_nVal, a_nA, a_nB, a_lv, a_nd, a_nv, a_outs, a_tKind, a_tVal, a_tA, a_tB, a_tN, a_preRel, a_preJ, a_preK, a_ruleUse, a_pend, a_pendN, a_tv, a_cv, a_mx, a_par, mp', a_res, bn', a_order, a_stk, a_stSt) := fun hs' => hno (by rw [hrun, hs'])
    have keep : pt_k P i ≥ 11 → ∀ q, q < pt_n P → pm_as P i q → mp q = nI (s.1 q) := by
      intro hk q hq hq'
      rcases pm_as_s hq' with y | y
      · exact hmp q hq y
      · rcases ((hP.2 q hq).2.2.2.2.2.2.2.2.2.2 i y).2.2 with z | z
        · rw [hn.2.2.2.2.1 (by omega)] at z
          cases z
        · rw [hn.2.2.2.2.2.1 (by omega)] at z
          cases z
    rw [pk_m1]
    refine br_f (nI_pos (by omega)) (nm_r (nx_8 (r * 2) i) ⟨hin, ?_⟩)
    rw [hclx]
    refine nm_r e1 ⟨pk_in i 8 (by omega), ?_⟩
    rw [nI_clamp (n := i) (by omega)]
    refine nm_r (hmp i hi' has) (br_f (nI_pos (by omega)) (pk_le 32 (s.1 i) (fun h => absurd h (by omega)) (fun _ => ⟨hinn, ?_⟩)))
    rw [hcn, k1, k2, e2]
    refine br_f (by rw [hals]; decide) ?_
    unfold pm_st at nx bad
    refine pk_eq (pt_k P i) 11 (fun e => ⟨hinn, ?_⟩) (fun n11 => ?_)
    · rw [if_pos e] at nx bad
      refine pk_eq (K (s.1 i)) 11 (fun hK => ⟨hinn, hin, br_c (fun hv => nm_e (nx s mp bn (if_pos ⟨hK, hv⟩) (keep (by omega)) hbn)) (fun hv => bad (if_neg fun hh => hv hh.2) mp bn)⟩) (fun hK => bad (if_neg fun hh => hK hh.1) mp bn)
    · rw [if_neg n11] at nx bad
      have h189 : 13 ≤ pt_k P i → wY_match_189 post (wY_match_81 post (nI r) (nI (r * 2)) (nI (pt_n P)) (nI mN) f_maxRules f_phase f_nCount (nI oc) f_apps f_ruleCount f_cex (nI cl) f_orderN (i + 1)) (nI r) (nI (r * 2)) (nI (pt_n P)) (nI i) (nI (r * 2 * 8 + i)) (nI (pt_k P i)) (nI (s.1 i)) (nI mN) f_maxRules f_phase f_nCount (nI oc) f_apps f_ruleCount f_cex (nI cl) f_orderN a_alive a_nKind a_nVal a_nA a_nB a_lv a_nd a_nv a_outs a_tKind a_tVal a_tA a_tB a_tN a_preRel a_preJ a_preK a_ruleUse a_pend a_pendN a_tv a_cv a_mx a_par mp a_res bn a_order a_stk a_stSt := by
        intro h13
        rw [if_pos h13] at nx bad
        have hv2 := hn.2.2.1 h13
        have h210 : ¬ (pt_k P i = 14 ∧ K (s.1 i) ≠ 11) → wY_match_210 post (wY_match_81 post (nI r) (nI (r * 2)) (nI (pt_n P)) (nI mN) f_maxRules f_phase f_nCount (nI oc) f_apps f_ruleCount f_cex (nI cl) f_orderN (i + 1)) (nI r) (nI (r * 2)) (nI (pt_n P)) (nI i) (nI (r * 2 * 8 + i)) (nI (s.1 i)) (nI mN) f_maxRules f_phase f_nCount (nI oc) f_apps f_ruleCount f_cex (nI cl) f_orderN a_alive a_nKind a_nVal a_nA a_nB a_lv a_nd a_nv a_outs a_tKind a_tVal a_tA a_tB a_tN a_preRel a_preJ a_preK a_ruleUse a_pend a_pendN a_tv a_cv a_mx a_par mp a_res bn a_order a_stk a_stSt := by
          intro hx14
          rw [if_neg hx14] at nx bad
          unfold pm_lf at nx bad
          have hinj : vp_in (nI (pt_v P i)) 2 := pk_in (pt_v P i) 2 hv2
          refine ⟨hin, ?_⟩
          rw [hclx, e2, nI_clamp (by omega), hbn _ hv2]
          refine ⟨hinj, ?_⟩
          cases hb : s.2 (pt_v P i) with
          | none =>
            rw [hb] at nx bad
            refine br_f (show ¬ (0 : Int32) ≤ -1 by decide) ⟨hin, hinj, nm_e (nm_e (nx _ mp _ rfl (keep (by omega)) fun j hj' => ?_))⟩
            show upd bn (pt_v P i) (nI (s.1 i)) j = pr_oI (pr_st s.2 (pt_v P i) (some (s.1 i)) j)
            by_cases ej : j = pt_v P i
            · rw [ej, pk_us, pr_st_s]
              rfl
            · rw [pk_un ej, pr_st_n ej]
              exact hbn j hj'
          | some x =>
            rw [hb] at nx bad
            have tx := (pm_bd hinv hb).2.1
            refine br_t (nI_pos' (n := x) (by omega)) ⟨hin, hinj, ?_⟩
            refine pk_eq x (s.1 i) (fun ex => nm_e (nx s mp bn (if_pos ex) (keep (by omega)) hbn)) (fun ex => bad (if_neg ex) mp bn)
        refine pk_eq (pt_k P i) 14 (fun e14 => ⟨hinn, ?_⟩) (fun n14 => h210 fun hh => n14 hh.1)
        rw [hcn, k1]
        refine pk_eq (K (s.1 i)) 11 (fun hK => h210 fun hh => hh.2 hK) (fun hK => ?_)
        exact bad (if_pos ⟨e14, hK⟩) mp bn
      refine pk_eq (pt_k P i) 13 (fun e => h189 (by omega)) (fun n13 => pk_eq (pt_k P i) 14 (fun e => h189 (by omega)) (fun n14 => ⟨hinn, ?_⟩))
      have hk : pt_k P i ≤ 10 := by have := hn.1; omega
      rw [if_neg (by omega)] at nx bad
      obtain ⟨ca, hca⟩ := hn.2.2.2.2.2.2.1 hk
      have hca' := h9 ca (Or.inl hca)
      have h296 : K (s.1 i) = pt_k P i → (i + 1 = pt_n P ∨ us (s.1 i) = 1) → wY_match_296 post (wY_match_81 post (nI r) (nI (r * 2)) (nI (pt_n P)) (nI mN) f_maxRules f_phase f_nCount (nI oc) f_apps f_ruleCount f_cex (nI cl) f_orderN (i + 1)) (nI r) (nI (r * 2)) (nI (pt_n P)) (nI i) (nI (r * 2 * 8 + i)) (nI (pt_k P i)) (nI (s.1 i)) (nI mN) f_maxRules f_phase f_nCount (nI oc) f_apps f_ruleCount f_cex (nI cl) f_orderN a_alive a_nKind a_nVal a_nA a_nB a_lv a_nd a_nv a_outs a_tKind a_tVal a_tA a_tB a_tN a_preRel a_preJ a_preK a_ruleUse a_pend a_pendN a_tv a_cv a_mx a_par mp a_res bn a_order a_stk a_stSt := by
        intro hK hr'
        have nx' := fun mp' => nx (pm_ch A B P i (s.1 i) s.1, s.2) mp' bn (if_pos ⟨hK, hr'⟩)
        obtain ⟨da, hda⟩ := g8 (by rw [hK]; exact hk)
        have eA : a_tA (r * 2 * 8 + i) = nI ca := by
          rw [e3, hca]
          show nI (0 + ca) = nI ca
          rw [Nat.zero_add]
        refine ⟨hin, hinn, ?_⟩
        rw [hclx, hcn, eA, nI_clamp (by omega), k3, hda]
        refine ⟨pk_in ca 8 (by omega), nm_e ?_⟩
        cases hb : pt_b P i with
        | none =>
          have h9b : 9 ≤ pt_k P i := by
            apply Classical.byContradiction
            intro hx
            obtain ⟨c, hc⟩ := hn.2.2.2.2.2.2.2.1 (by omega)
            rw [hb] at hc
            cases hc
          refine y_isBin_f (by omega) (Or.inr h9b) (br_t rfl (nm_e (nx' _ (fun q hq hq' => ?_) hbn)))
          show upd mp ca (nI da) q = nI (pm_ch A B P i (s.1 i) s.1 q)
          unfold pm_ch
          by_cases e : q = ca
          · subst e
            rw [pk_us, if_pos hca, hda]
            rfl
          · rw [pk_un e, if_neg (fun h => e (by rw [hca] at h; exact (Option.some.inj h).symm)), hb, if_neg (fun h => (nomatch h))]
            rcases pm_as_s hq' with y | y
            · exact hmp q hq y
            · rcases ((hP.2 q hq).2.2.2.2.2.2.2.2.2.2 i y).2.2 with z | z
              · rw [hca] at z
                exact absurd (Option.some.inj z).symm e
              · rw [hb] at z
                cases z
        | some cb =>
          have hcb' := h9 cb (Or.inr hb)
          have hk8 : pt_k P i ≤ 8 := by
            apply Classical.byContradiction
            intro hx
            rw [hn.2.2.2.2.2.1 (by omega)] at hb
            cases hb
          obtain ⟨db, hdb⟩ := g9 (by rw [hK]; exact hk8)
          have eB : a_tB (r * 2 * 8 + i) = nI cb := by
            rw [e4, hb]
            show nI (0 + cb) = nI cb
            rw [Nat.zero_add]
          have hab : ca ≠ cb := fun e => h10 ca hca (by rw [e]; exact hb)
          refine y_isBin_t hn.1.1 hk8 (br_f (by decide) ⟨hin, hinn, ?_⟩)
          rw [eB, nI_clamp (by omega), k4, hdb]
          refine ⟨pk_in cb 8 (by omega), nm_e (nm_e (nx' _ (fun q hq hq' => ?_) hbn))⟩
          show upd (upd mp ca (nI da)) cb (nI db) q = nI (pm_ch A B P i (s.1 i) s.1 q)
          unfold pm_ch
          by_cases e : q = cb
          · subst e
            rw [pk_us, if_neg (fun h => hab (by rw [hca] at h; exact Option.some.inj h)), if_pos hb, hdb]
            rfl
          · rw [pk_un e]
            by_cases e' : q = ca
            · subst e'
              rw [pk_us, if_pos hca, hda]
              rfl
            · rw [pk_un e', if_neg (fun h => e' (by rw [hca] at h; exact (Option.some.inj h).symm)), if_neg (fun h => e (by rw [hb] at h; exact (Option.some.inj h).symm))]
              rcases pm_as_s hq' with y | y
              · exact hmp q hq y
              · rcases ((hP.2 q hq).2.2.2.2.2.2.2.2.2.2 i y).2.2 with z | z
                · rw [hca] at z
                  exact absurd (Option.some.inj z).symm e'
                · rw [hb] at z
                  exact absurd (Option.some.inj z).symm e
      have eR : nI (pt_n P) - 1 = nI (pt_n P - 1) := pr_s1 (by omega)
      rw [eR]
      refine pk_eq (K (s.1 i)) (pt_k P i) (fun hK => ?_) (fun hK => bad (if_neg fun hh => hK hh.1) mp bn)
      refine pk_eq i (pt_n P - 1) (fun ei => h296 hK (Or.inl (by omega))) (fun ei => ?_)
      refine y_uses (L := L) (O := O) (by omega) hG hg hal hoc hO hL hlv ?_
      rw [← hus]
      refine pk_eq (us (s.1 i)) 1 (fun h1 => h296 hK (Or.inr h1)) (fun h1 => bad (if_neg fun hh => ?_) mp bn) rfl rfl (hub _)
      rcases hh.2 with y | y
      · omega
      · exact h1 y
theorem y_match {post : Int32 → SY → Prop} {r rl rj rK cl mN : Nat} (hr : r < 16) (hcl : cl ≤ 32) (hmN : mN ≤ 32) (hP : pt_ok P) (hf : pt_fin P) (hR : pt_ok R) (h14 : ∀ i, i < pt_n R → pt_k R i ≠ 14) (hG : pr_gw 0 K V A B rk) (hg : gr_at 0 K V A B a_nKind a_nVal a_nA a_nB) (hal : al_at 0 K a_alive) (hoc : oc ≤ 4) (hO : ∀ k, k < oc → pr_T 0 K (O k) ∧ a_outs k = nI (O k)) (hL : L = pr_lv A B O 0 oc) (hlv : ∀ c, 0 ≤ c → c < 0 + 32 → (a_lv c = 0 ↔ c ∉ L)) (hus : us = pr_us A B O L oc) (hub : ∀ d, us d < 2 ^ 31)
    (hT : tr_at 0 (r * 2) P a_tN a_tKind a_tVal a_tA a_tB) (hU : tr_at 0 (r * 2 + 1) R a_tN a_tKind a_tVal a_tA a_tB) (h4 : rl ≤ 4) (hj : rl ≠ 0 → rj < 2) (hpe : pe_at r rl rj rK a_preRel a_preJ a_preK) (tR : pr_T 0 K Rn)
    (hno : pm_run K V A B us P (pt_n P) (fun _ => Rn, fun _ => none) = none → ∀ mp' bn', post 0 ((nI mN), f_maxRules, f_phase, f_nCount, (nI oc), f_apps, f_ruleCount, f_cex, (nI cl), f_orderN, a_alive, a_nKind, a_nVal, a_nA, a_nB, a_lv, a_nd, a_nv, a_outs, a_tKind, a_tVal, a_tA, a_tB, a_tN, a_preRel, a_preJ, a_preK, a_ruleUse, a_pend, a_pendN, a_tv, a_cv, a_mx, a_par, mp', a_res, bn', a_order, a_stk, a_stSt))
    (hrj : ∀ s', pm_run K V A B us P (pt_n P) (fun _ => Rn, fun _ => none) = some s' → rl ≠ 0 → ∃ d, s'.2 rj = some d)
    (hy : ∀ s' mp' bn' cv' mx' par', pm_run K V A B us P (pt_n P) (fun _ => Rn, fun _ => none) = some s' → (∀ j, j < 2 → bn' j = pr_oI (s'.2 j)) → post (pr_b (pr_ph rl rj rK (by_v K V s'.2 0) (by_v K V s'.2 1) && decide (cl + pt_rm R (pt_has P 14) ≤ mN))) ((nI mN), f_maxRules, f_phase, f_nCount, (nI oc), f_apps, f_ruleCount, f_cex, (nI cl), f_orderN, a_alive, a_nKind, a_nVal, a_nA, a_nB, a_lv, a_nd, a_nv, a_outs, a_tKind, a_tVal, a_tA, a_tB, a_tN, a_preRel, a_preJ, a_preK, a_ruleUse, a_pend, a_pendN, a_tv, cv', mx', par', mp', a_res, bn', a_order, a_stk, a_stSt)) :
    wpY_match post ((nI mN), f_maxRules, f_phase, f_nCount, (nI oc), f_apps, f_ruleCount, f_cex, (nI cl), f_orderN, a_alive, a_nKind, a_nVal, a_nA, a_nB, a_lv, a_nd, a_nv, a_outs, a_tKind, a_tVal, a_tA, a_tB, a_tN, a_preRel, a_preJ, a_preK, a_ruleUse, a_pend, a_pendN, a_tv, a_cv, a_mx, a_par, a_mp, a_res, a_bnd, a_order, a_stk, a_stSt) (nI r) (nI Rn) := by
  have h8 := hP.1
  have h0 := hf.1
  have e2 : 2 * nI r = nI (r * 2) := by
    rw [show (2 : Int32) = nI 2 from rfl, pk_mul, Nat.mul_comm]
  have en : nI (pt_n P) - 1 = nI (pt_n P - 1) := pr_s1 h0
  have en2 : nI (pt_n P - 1) = nI (pt_n P) + (-1) := by
    rw [pr_m1 h0]
  unfold wpY_match
  refine nm_r e2 ⟨pk_in (r * 2) 34 (by omega), ?_⟩
  rw [nI_clamp (by omega)]
  refine nm_r hT.1 (pk_lt (pt_n P) 1 (fun h => absurd h (by omega)) (fun _ => pk_le (pt_n P) 8 (fun _ => ⟨9, ?_⟩) (fun h => absurd h (by omega))))
  have l30 : ∀ d i mp, i + d = 8 → wY_match_30 post (nI r) (nI Rn) (nI (r * 2)) (nI (pt_n P)) (nI mN) f_maxRules f_phase f_nCount (nI oc) f_apps f_ruleCount f_cex (nI cl) f_orderN (d + 1) (nI i) a_alive a_nKind a_nVal a_nA a_nB a_lv a_nd a_nv a_outs a_tKind a_tVal a_tA a_tB a_tN a_preRel a_preJ a_preK a_ruleUse a_pend a_pendN a_tv a_cv a_mx a_par mp a_res a_bnd a_order a_stk a_stSt := by
    intro d
    induction d with
    | zero =>
      intro i mp hi
      refine pk_le 8 i (fun _ => nm_e (nm_e ?_)) (fun h => absurd h (by omega))
      rw [en]
      refine ⟨pk_in (pt_n P - 1) 8 (by omega), ?_⟩
      rw [nI_clamp (by omega)]
      refine nm_e (nm_r en2 ⟨pt_n P + 1, ?_⟩)
      refine y_match81 (Rn := Rn) hr hcl hmN hP hf hR h14 hG hg hal hoc hO hL hlv hus hub hT hU h4 hj hpe (pt_n P) (fun _ => Rn, fun _ => none) _ _ (Nat.le_refl _) (pm_inv0 hf tR) (fun q hq hq' => ?_) (fun j hj' => ?_) hno hrj hy
      · have e : q = pt_n P - 1 := by
          rcases hq' with y | ⟨p, y1, y2, _⟩
          · omega
          · omega
        rw [e, pk_us]
      · have : j = 0 ∨ j = 1 := by omega
        rcases this with e | e
        · subst e
          rw [pk_un (by omega), pk_us]
          rfl
        · subst e
          rw [pk_us]
          rfl
    | succ d ih =>
      intro i mp hi
      refine pk_le 8 i (fun h => absurd h (by omega)) (fun _ => ⟨pk_in i 8 (by omega), ?_⟩)
      rw [nI_clamp (by omega)]
      exact nm_e (nm_r (nI_1 _) (ih (i + 1) _ (by omega)))
  exact l30 8 0 a_mp (by omega)
end YV
end
section
/-! X: applying a rule -/
section PIV
variable {K : Nat → Nat} {V : Nat → Int32} {A B : Nat → Option Nat} {us rk : Nat → Nat} {P R : pr_PT} {Rn : Nat} {bd : Nat → Option Nat} {m : Nat → Nat} {tv : Nat → Int32}
theorem pa_inv (hG : pr_gw 0 K V A B rk) (hP : pt_ok P) (hPf : pt_fin P) (hPr : pt_k P (pt_n P - 1) ≤ 10) (hR : pt_ok R) (h14 : ∀ i, i < pt_n R → pt_k R i ≠ 14)
    (hv : ∀ q, q < pt_n R → pt_k R q = 13 → ∃ p, p < pt_n P ∧ 13 ≤ pt_k P p ∧ pt_v P p = pt_v R q)
    (hm : pm_inv K V A B us P Rn 0 (m, bd)) {C : Nat → Bool} (hct : pr_ct K + pt_rm R C ≤ 32) (htv : ∀ q, q < pt_n R → pr_by (tv q)) :
    ∃ Lo β, ∀ i, i ≤ pt_n R → ∃ ρ, pb_inv K V A B rk bd R C Lo β i (pb_run R C tv bd i (K, V, A, B, fun _ => none)) ρ := by
  have hRk : 1 ≤ pt_n P := hPf.1
  have hbr : ∀ j y, bd j = some y → pr_T 0 K y ∧ rk y < rk Rn := by
    intro j y hj
    obtain ⟨q, _, h2, h3, h4, h5⟩ := hm.2.2.2 j y hj
    have hq := hm.2.1 q (by omega) h2
    replace h5 : m q = y := h5
    have hne : q + 1 ≠ pt_n P := by
      intro e
      rw [show pt_n P - 1 = q by omega] at hPr
      omega
    have hr := pm_rk hP hPf hG hm (pt_n P - 1 - q) q (by omega) hne
    replace hr : rk (m q) < rk Rn := hr
    rw [h5] at hr
    have ht := hq.1
    replace ht : pr_T 0 K (m q) := ht
    rw [h5] at ht
    exact ⟨ht, hr⟩
  have hlo : ∀ x, x ∈ pm_lo P m (pt_n P) → K x ≠ 0 := by
    intro x hx
    obtain ⟨p, h1, h2, h3⟩ := pm_lo_m.mp hx
    have := (hm.2.1 p (by omega) h1).1.2.2
    replace this : K (m p) ≠ 0 := this
    rw [h3] at this
    exact this
  have hbd : ∀ q, q < pt_n R → pt_k R q = 13 → ∃ y, bd (pt_v R q) = some y ∧ pr_T 0 K y ∧ 16 * rk y ≤ 16 * rk Rn - 16 := by
    intro q hq hk
    obtain ⟨p, h1, h2, h3⟩ := hv q hq hk
    have := ((hm.2.1 p (by omega) h1).2.2.1 h2).1
    replace this : bd (pt_v P p) = some (m p) := this
    rw [h3] at this
    have hb := hbr _ _ this
    exact ⟨_, this, hb.1, by omega⟩
  exact ⟨pm_lo P m (pt_n P), 16 * rk Rn - 16, pb_all (K0 := K) (V0 := V) (A0 := A) (B0 := B) (rk := rk) (bd := bd) (R := R) (C := C) (Lo := pm_lo P m (pt_n P)) (β := 16 * rk Rn - 16) (tv := tv) hR h14 hct hlo htv hbd rfl⟩
end PIV
theorem pb_ch {R : pr_PT} {C : Nat → Bool} (hR : pt_ok R) {i c : Nat} (hi : i < pt_n R) (hc : pt_cv R C i = false) (h : pt_a R i = some c ∨ pt_b R i = some c) : ¬ pb_sk R C c ∧ c < i := by
  have h9 := (hR.2 i hi).2.2.2.2.2.2.2.2.1 c h
  refine ⟨fun hs => ?_, h9.1⟩
  have := hs.2
  unfold pt_mx at this
  rw [hs.1, h9.2] at this
  replace this : (true && !pt_cv R C i) = false := this
  rw [hc] at this
  cases this
theorem pr_fr_le (K : Nat → Nat) : pr_fr K < 32 := by
  have : ∀ f s, pr_lf K f s ≤ s + f := by
    intro f
    induction f with
    | zero => intro s; exact Nat.le_refl _
    | succ f ih =>
      intro s
      show (if K s = 0 then s else pr_lf K f (s + 1)) ≤ s + (f + 1)
      by_cases h : K s = 0
      · rw [if_pos h]
        omega
      · rw [if_neg h]
        have := ih (s + 1)
        omega
  have := this 31 0
  show pr_lf K 31 0 < 32
  omega
/-- what is known of a graph in the making -/
def pb_fx (R : pr_PT) (C : Nat → Bool) (i : Nat) (s : pb_S) : Prop := (∀ n, n < 32 → s.1 n < 100) ∧ ∀ q, q < i → ¬ pb_sk R C q → ∃ z, s.2.2.2.2 q = some z ∧ z < 32
theorem pb_fx_of {K0 : Nat → Nat} {V0 : Nat → Int32} {A0 B0 : Nat → Option Nat} {rk : Nat → Nat} {bd : Nat → Option Nat} {R : pr_PT} {C : Nat → Bool} {Lo : List Nat} {β i : Nat} {s : pb_S} {ρ : Nat → Nat} (hG : pr_gw 0 K0 V0 A0 B0 rk) (h : pb_inv K0 V0 A0 B0 rk bd R C Lo β i s ρ) : pb_fx R C i s := by
  obtain ⟨h1, h2, h3, h4, h5⟩ := h
  refine ⟨fun n hn => ?_, fun q hq hq' => ?_⟩
  · by_cases hK : K0 n = 0
    · by_cases hs : s.1 n = 0
      · rw [hs]
        omega
      · have := (h2 n hK hs).2.1
        omega
    · rw [(h1 n hK).1]
      have := (hG n ⟨by omega, by omega, hK⟩).1
      omega
  · obtain ⟨y, y1, y2, _⟩ := h3 q hq hq'
    exact ⟨y, y1, by have := y2.2.1; omega⟩
/-- the arrays of X while a replacement is built -/
def xb_at (w : Nat) (R : pr_PT) (C : Nat → Bool) (i : Nat) (s : pb_S) (nk0 nv0 na0 nb0 nk nv na nb cp : Nat → Int32) : Prop :=
  (∀ n, n < 32 → nk n = nI (s.1 n)) ∧ gr_at 0 s.1 s.2.1 s.2.2.1 s.2.2.2.1 nk nv na nb ∧ (∀ n, 32 ≤ n → nk n = nk0 n ∧ nv n = nv0 n ∧ na n = na0 n ∧ nb n = nb0 n) ∧ ∀ q, q < i → ¬ pb_sk R C q → cp (w * 8 + q) = pr_oI (s.2.2.2.2 q)
theorem xb_new {w i κ : Nat} {R : pr_PT} {C : Nat → Bool} {s : pb_S} {x : Int32} {a b : Option Nat} {nk0 nv0 na0 nb0 nk nv na nb cp : Nat → Int32} (h : xb_at w R C i s nk0 nv0 na0 nb0 nk nv na nb cp) :
    xb_at w R C (i + 1) (pb_new i κ x a b s) nk0 nv0 na0 nb0 (upd nk (pr_fr s.1) (nI κ)) (upd nv (pr_fr s.1) x) (upd na (pr_fr s.1) (pr_oI a)) (upd nb (pr_fr s.1) (pr_oI b)) (upd cp (w * 8 + i) (nI (pr_fr s.1))) := by
  obtain ⟨h1, h2, h3, h4⟩ := h
  have hfr := pr_fr_le s.1
  refine ⟨fun n hn => ?_, fun n hn => ?_, fun n hn => ?_, fun q hq hq' => ?_⟩
  · show upd nk (pr_fr s.1) (nI κ) n = nI (pr_st s.1 (pr_fr s.1) κ n)
    by_cases e : n = pr_fr s.1
    · rw [e, pk_us, pr_st_s]
    · rw [pk_un e, pr_st_n e]
      exact h1 n hn
  · show upd nk (pr_fr s.1) (nI κ) n = nI (pr_st s.1 (pr_fr s.1) κ n) ∧ upd nv (pr_fr s.1) x n = pr_st s.2.1 (pr_fr s.1) x n ∧ upd na (pr_fr s.1) (pr_oI a) n = pr_oI (pr_st s.2.2.1 (pr_fr s.1) a n) ∧ upd nb (pr_fr s.1) (pr_oI b) n = pr_oI (pr_st s.2.2.2.1 (pr_fr s.1) b n)
    by_cases e : n = pr_fr s.1
    · rw [e, pk_us, pk_us, pk_us, pk_us, pr_st_s, pr_st_s, pr_st_s, pr_st_s]
      exact ⟨rfl, rfl, rfl, rfl⟩
    · rw [pk_un e, pk_un e, pk_un e, pk_un e, pr_st_n e, pr_st_n e, pr_st_n e, pr_st_n e]
      refine h2 n ⟨hn.1, hn.2.1, ?_⟩
      have := hn.2.2
      replace this : pr_st s.1 (pr_fr s.1) κ n ≠ 0 := this
      rw [pr_st_n e] at this
      exact this
  · rw [pk_un (by omega), pk_un (by omega), pk_un (by omega), pk_un (by omega)]
    exact h3 n hn
  · show upd cp (w * 8 + i) (nI (pr_fr s.1)) (w * 8 + q) = pr_oI (pr_st s.2.2.2.2 i (some (pr_fr s.1)) q)
    by_cases e : q = i
    · rw [e, pk_us, pr_st_s]
      rfl
    · rw [pk_un (by omega), pr_st_n e]
      exact h4 q (by omega) hq'
section XW
variable {f_maxNodes f_maxRules f_ruleCount f_counterexample f_optimized f_nodeCount f_outputCount f_applications : Int32} {a_preRelation a_preVariable a_preConstant a_roomNeeded a_useCount a_treeSize a_treeKind a_treeValue a_treeA a_treeB a_treeResult a_constantValued a_maximal a_counterpart a_boundNode a_pending a_pendingCount a_nodeKind a_nodeValue a_nodeA a_nodeB a_nodeResult a_nodeUses a_outputNode a_seen a_order a_walkStack : Nat → Int32}
variable {R : pr_PT} {C : Nat → Bool} {tv : Nat → Int32} {bd : Nat → Option Nat} {w : Nat} {nk0 nv0 na0 nb0 : Nat → Int32}
theorem x_freeNode {post : Int32 → Prop} {K : Nat → Nat} (hk : ∀ n, n < 32 → a_nodeKind n = nI (K n)) (hK : ∀ n, n < 32 → K n < 100) (h : post (nI (pr_fr K))) : wpX_freeNode post (f_maxNodes, f_maxRules, f_ruleCount, f_counterexample, f_optimized, f_nodeCount, f_outputCount, f_applications, a_preRelation, a_preVariable, a_preConstant, a_roomNeeded, a_useCount, a_treeSize, a_treeKind, a_treeValue, a_treeA, a_treeB, a_treeResult, a_constantValued, a_maximal, a_counterpart, a_boundNode, a_pending, a_pendingCount, a_nodeKind, a_nodeValue, a_nodeA, a_nodeB, a_nodeResult, a_nodeUses, a_outputNode, a_seen, a_order, a_walkStack) := by
  have l : ∀ f s, s + f = 31 → post (nI (pr_lf K f s)) → wX_freeNode_2 post f_maxNodes f_maxRules f_ruleCount f_counterexample f_optimized f_nodeCount f_outputCount f_applications a_preRelation a_preVariable a_preConstant a_roomNeeded a_useCount a_treeSize a_treeKind a_treeValue a_treeA a_treeB a_treeResult a_constantValued a_maximal a_counterpart a_boundNode a_pending a_pendingCount a_nodeKind a_nodeValue a_nodeA a_nodeB a_nodeResult a_nodeUses a_outputNode a_seen a_order a_walkStack (f + 1) (nI s) := by
    intro f
    induction f with
    | zero =>
      intro s hs h
      have e : s = 31 := by omega
      subst e
      exact pk_le 31 31 (fun _ => h) (fun h => absurd h (by omega))
    | succ f ih =>
      intro s hs h
      replace h : post (nI (if K s = 0 then s else pr_lf K f (s + 1))) := h
      have := hK s (by omega)
      refine pk_le 31 s (fun h => absurd h (by omega)) (fun _ => ⟨pk_in s 64 (by omega), ?_⟩)
      rw [nI_clamp (by omega), hk s (by omega)]
      refine pk_eq (K s) 0 (fun e => ?_) (fun e => nm_r (nI_1 _) (ih (s + 1) (by omega) ?_))
      · rw [if_pos e] at h
        exact h
      · rw [if_neg e] at h
        exact h
  exact ⟨32, l 31 0 (by omega) h⟩
theorem x_buildNode {post : Int32 → SX → Prop} {i : Nat} {s : pb_S} (hw : w < 34) (hR : pt_ok R) (h14 : ∀ i, i < pt_n R → pt_k R i ≠ 14) (hi : i < pt_n R) (hU : tr_at (w * 8) w R a_treeSize a_treeKind a_treeValue a_treeA a_treeB) (hcv : ∀ q, q < pt_n R → a_constantValued (w * 8 + q) = pr_b (pt_cv R C q)) (hmx : ∀ q, q < pt_n R → a_maximal (w * 8 + q) = pr_b (pt_mx R C q)) (htr : ∀ q, q < pt_n R → pt_cv R C q = true → a_treeResult (w * 8 + q) = tv q) (hbn : ∀ j, j < 2 → a_boundNode j = pr_oI (bd j))
    (hfx : pb_fx R C i s) (hb : xb_at w R C i s nk0 nv0 na0 nb0 a_nodeKind a_nodeValue a_nodeA a_nodeB a_counterpart)
    (h : ∀ r nk nv na nb, xb_at w R C (i + 1) (pb_st R C tv bd i s) nk0 nv0 na0 nb0 nk nv na nb (upd a_counterpart (w * 8 + i) r) → post r (f_maxNodes, f_maxRules, f_ruleCount, f_counterexample, f_optimized, f_nodeCount, f_outputCount, f_applications, a_preRelation, a_preVariable, a_preConstant, a_roomNeeded, a_useCount, a_treeSize, a_treeKind, a_treeValue, a_treeA, a_treeB, a_treeResult, a_constantValued, a_maximal, a_counterpart, a_boundNode, a_pending, a_pendingCount, nk, nv, na, nb, a_nodeResult, a_nodeUses, a_outputNode, a_seen, a_order, a_walkStack)) : wpX_buildNode post (f_maxNodes, f_maxRules, f_ruleCount, f_counterexample, f_optimized, f_nodeCount, f_outputCount, f_applications, a_preRelation, a_preVariable, a_preConstant, a_roomNeeded, a_useCount, a_treeSize, a_treeKind, a_treeValue, a_treeA, a_treeB, a_treeResult, a_constantValued, a_maximal, a_counterpart, a_boundNode, a_pending, a_pendingCount, a_nodeKind, a_nodeValue, a_nodeA, a_nodeB, a_nodeResult, a_nodeUses, a_outputNode, a_seen, a_order, a_walkStack) (nI (w * 8 + i)) := by
  have h8 := hR.1
  obtain ⟨e1, e2, e3, e4⟩ := hU.2 i hi
  have hn := hR.2 i hi
  have h9 := hn.2.2.2.2.2.2.2.2.1
  have hs := pt_sm hR i hi
  have hin : vp_in (nI (w * 8 + i)) 272 := pk_in (w * 8 + i) 272 (by omega)
  have hcl : (nI (w * 8 + i)).toNatClampNeg = w * 8 + i := nI_clamp (by omega)
  have hfr := pr_fr_le s.1
  unfold pb_st at h
  unfold wpX_buildNode
  refine ⟨hin, ?_⟩
  rw [hcl, e1, e2, hcv i hi, hmx i hi]
  refine pk_eq (pt_k R i) 13 (fun h13 => ⟨hin, ?_⟩) (fun n13 => ⟨hin, ?_⟩)
  · have hv2 := hn.2.2.1 (by omega)
    refine ⟨pk_in (pt_v R i) 2 hv2, ?_⟩
    rw [nI_clamp (by omega), hbn _ hv2]
    refine h _ a_nodeKind a_nodeValue a_nodeA a_nodeB ?_
    by_cases hsk : pt_cv R C i = true ∧ pt_mx R C i = false
    · rw [if_pos hsk]
      refine ⟨hb.1, hb.2.1, hb.2.2.1, fun q hq hq' => ?_⟩
      have e : q ≠ i := fun e => hq' (by rw [e]; exact hsk)
      rw [pk_un (by omega)]
      exact hb.2.2.2 q (by omega) hq'
    · rw [if_neg hsk, if_pos h13]
      refine ⟨hb.1, hb.2.1, hb.2.2.1, fun q hq hq' => ?_⟩
      show _ = pr_oI (pr_st s.2.2.2.2 i (bd (pt_v R i)) q)
      by_cases e : q = i
      · rw [e, pk_us, pr_st_s]
      · rw [pk_un (by omega), pr_st_n e]
        exact hb.2.2.2 q (by omega) hq'
  · rw [if_neg n13] at h
    have h43 : ¬ (pt_cv R C i = true ∧ pt_mx R C i = false) → wX_buildNode_43 post (nI (w * 8 + i)) f_maxNodes f_maxRules f_ruleCount f_counterexample f_optimized f_nodeCount f_outputCount f_applications a_preRelation a_preVariable a_preConstant a_roomNeeded a_useCount a_treeSize a_treeKind a_treeValue a_treeA a_treeB a_treeResult a_constantValued a_maximal a_counterpart a_boundNode a_pending a_pendingCount a_nodeKind a_nodeValue a_nodeA a_nodeB a_nodeResult a_nodeUses a_outputNode a_seen a_order a_walkStack := by
      intro hsk
      rw [if_neg hsk] at h
      unfold wX_buildNode_43
      refine x_freeNode hb.1 hfx.1 ⟨hin, ?_⟩
      rw [hcl, hcv i hi]
      refine br_c (fun h0 => ⟨hin, ?_⟩) (fun h0 => ⟨hin, ?_⟩)
      · have hc := (pr_b0 _).mp h0
        rw [if_neg (by rw [hc]; decide)] at h
        have hk10 : pt_k R i ≤ 10 := by
          apply Classical.byContradiction
          intro hk
          have h11 : pt_k R i = 11 := by
            have := hn.1
            have := h14 i hi
            omega
          rw [pt_cv_eq hR hi] at hc
          unfold pt_cF at hc
          rw [if_neg n13, hn.2.2.2.2.1 (by omega), hn.2.2.2.2.2.1 (by omega)] at hc
          cases hc
        obtain ⟨ca, hca⟩ := hn.2.2.2.2.2.2.1 hk10
        have pa := pb_ch (C := C) hR hi hc (Or.inl hca)
        have h100 : ∀ z, z = pr_oI (pr_or s.2.2.2.2 (pt_b R i)) → wX_buildNode_100 post (nI (w * 8 + i)) (nI (pr_fr s.1)) z f_maxNodes f_maxRules f_ruleCount f_counterexample f_optimized f_nodeCount f_outputCount f_applications a_preRelation a_preVariable a_preConstant a_roomNeeded a_useCount a_treeSize a_treeKind a_treeValue a_treeA a_treeB a_treeResult a_constantValued a_maximal a_counterpart a_boundNode a_pending a_pendingCount a_nodeKind a_nodeValue a_nodeA a_nodeB a_nodeResult a_nodeUses a_outputNode a_seen a_order a_walkStack := by
          intro z hz
          subst hz
          refine ⟨hin, hin, ?_⟩
          rw [hcl, e1, e3, hca]
          refine ⟨pk_in (w * 8 + ca) 272 (by omega), ?_⟩
          rw [show (pr_oX (w * 8) (some ca)).toNatClampNeg = w * 8 + ca from nI_clamp (by omega), hb.2.2.2 ca pa.2 pa.1]
          refine x_setNode (by omega) (h _ _ _ _ _ ?_)
          rw [hca]
          exact xb_new hb
        rw [e4]
        cases hbb : pt_b R i with
        | none => exact br_t rfl (h100 _ (by rw [hbb]; rfl))
        | some cb =>
          have pbb := pb_ch (C := C) hR hi hc (Or.inr hbb)
          refine br_f (pr_ne1 (by omega)) ⟨hin, pk_in (w * 8 + cb) 272 (by omega), ?_⟩
          rw [show (pr_oX (w * 8) (some cb)).toNatClampNeg = w * 8 + cb from nI_clamp (by omega)]
          exact h100 _ (by rw [hbb, hb.2.2.2 cb pbb.2 pbb.1]; rfl)
      · have hc : pt_cv R C i = true := by
          cases hx : pt_cv R C i with
          | true => rfl
          | false => rw [hx] at h0; exact absurd rfl h0
        rw [if_pos hc] at h
        rw [htr i hi hc]
        exact x_setNode (by omega) (h _ _ _ _ _ (xb_new (κ := 11) (a := none) (b := none) hb))
    refine br_c (fun h0 => h43 fun hh => ?_) (fun h0 => ⟨hin, br_c (fun h1 => ?_) (fun h1 => h43 fun hh => ?_)⟩)
    · rw [hh.1] at h0
      exact absurd h0 (by decide)
    · have hc : pt_cv R C i = true := by
        cases hx : pt_cv R C i with
        | true => rfl
        | false => rw [hx] at h0; exact absurd rfl h0
      have hsk : pt_cv R C i = true ∧ pt_mx R C i = false := ⟨hc, (pr_b0 _).mp h1⟩
      refine h _ a_nodeKind a_nodeValue a_nodeA a_nodeB ?_
      rw [if_pos hsk]
      refine ⟨hb.1, hb.2.1, hb.2.2.1, fun q hq hq' => ?_⟩
      have e : q ≠ i := fun e => hq' (by rw [e]; exact hsk)
      rw [pk_un (by omega)]
      exact hb.2.2.2 q (by omega) hq'
    · rw [hh.2] at h1
      exact h1 rfl
theorem x_redirect {post : SX → Prop} {oc Rn y : Nat} (hoc : oc ≤ 4)
    (h : ∀ na nb ou, (∀ n, na n = if n < 32 ∧ a_nodeA n = nI Rn then nI y else a_nodeA n) → (∀ n, nb n = if n < 32 ∧ a_nodeB n = nI Rn then nI y else a_nodeB n) → (∀ k, ou k = if k < oc ∧ a_outputNode k = nI Rn then nI y else a_outputNode k) → post (f_maxNodes, f_maxRules, f_ruleCount, f_counterexample, f_optimized, f_nodeCount, (nI oc), f_applications, a_preRelation, a_preVariable, a_preConstant, a_roomNeeded, a_useCount, a_treeSize, a_treeKind, a_treeValue, a_treeA, a_treeB, a_treeResult, a_constantValued, a_maximal, a_counterpart, a_boundNode, a_pending, a_pendingCount, a_nodeKind, a_nodeValue, na, nb, a_nodeResult, a_nodeUses, ou, a_seen, a_order, a_walkStack)) :
    wpX_redirect post (f_maxNodes, f_maxRules, f_ruleCount, f_counterexample, f_optimized, f_nodeCount, (nI oc), f_applications, a_preRelation, a_preVariable, a_preConstant, a_roomNeeded, a_useCount, a_treeSize, a_treeKind, a_treeValue, a_treeA, a_treeB, a_treeResult, a_constantValued, a_maximal, a_counterpart, a_boundNode, a_pending, a_pendingCount, a_nodeKind, a_nodeValue, a_nodeA, a_nodeB, a_nodeResult, a_nodeUses, a_outputNode, a_seen, a_order, a_walkStack) (nI Rn) (nI y) := by
  have l50 : ∀ na nb d i ou, (∀ ou', (∀ k, ou' k = if k < oc ∧ a_outputNode k = nI Rn then nI y else a_outputNode k) → post (f_maxNodes, f_maxRules, f_ruleCount, f_counterexample, f_optimized, f_nodeCount, (nI oc), f_applications, a_preRelation, a_preVariable, a_preConstant, a_roomNeeded, a_useCount, a_treeSize, a_treeKind, a_treeValue, a_treeA, a_treeB, a_treeResult, a_constantValued, a_maximal, a_counterpart, a_boundNode, a_pending, a_pendingCount, a_nodeKind, a_nodeValue, na, nb, a_nodeResult, a_nodeUses, ou', a_seen, a_order, a_walkStack)) → i + d = oc → (∀ k, ou k = if k < i ∧ a_outputNode k = nI Rn then nI y else a_outputNode k) → wX_redirect_50 post (nI Rn) (nI y) f_maxNodes f_maxRules f_ruleCount f_counterexample f_optimized f_nodeCount (nI oc) f_applications (d + 1) (nI i) a_preRelation a_preVariable a_preConstant a_roomNeeded a_useCount a_treeSize a_treeKind a_treeValue a_treeA a_treeB a_treeResult a_constantValued a_maximal a_counterpart a_boundNode a_pending a_pendingCount a_nodeKind a_nodeValue na nb a_nodeResult a_nodeUses ou a_seen a_order a_walkStack := by
    intro na nb d
    induction d with
    | zero =>
      intro i ou h hi ho
      have e : i = oc := by omega
      subst e
      exact pk_le i i (fun _ => h ou ho) (fun h => absurd h (by omega))
    | succ d ih =>
      intro i ou h hi ho
      have ei : ou i = a_outputNode i := by
        rw [ho i, if_neg (fun hh => absurd hh.1 (by omega))]
      refine pk_le oc i (fun h => absurd h (by omega)) (fun _ => ⟨pk_in i 8 (by omega), ?_⟩)
      rw [nI_clamp (by omega), ei]
      refine br_c (fun e => ⟨pk_in i 8 (by omega), nm_e (nm_r (nI_1 _) (ih (i + 1) _ h (by omega) fun k => ?_))⟩) (fun e => nm_r (nI_1 _) (ih (i + 1) ou h (by omega) fun k => ?_))
      · by_cases ek : k = i
        · rw [ek, pk_us, if_pos ⟨by omega, e⟩]
        · rw [pk_un ek, ho k]
          by_cases hc : k < i ∧ a_outputNode k = nI Rn
          · rw [if_pos hc, if_pos ⟨by omega, hc.2⟩]
          · rw [if_neg hc, if_neg (fun hh => hc ⟨by omega, hh.2⟩)]
      · rw [ho k]
        by_cases hc : k < i ∧ a_outputNode k = nI Rn
        · rw [if_pos hc, if_pos ⟨by omega, hc.2⟩]
        · rw [if_neg hc, if_neg (fun hh => hc ⟨?_, hh.2⟩)]
          have : k ≠ i := fun hx => e (by rw [← hx]; exact hh.2)
          omega
  have l2 : ∀ d i na nb, i + d = 32 → (∀ n, na n = if n < i ∧ a_nodeA n = nI Rn then nI y else a_nodeA n) → (∀ n, nb n = if n < i ∧ a_nodeB n = nI Rn then nI y else a_nodeB n) → wX_redirect_2 post (nI Rn) (nI y) f_maxNodes f_maxRules f_ruleCount f_counterexample f_optimized f_nodeCount (nI oc) f_applications (d + 1) (nI i) a_preRelation a_preVariable a_preConstant a_roomNeeded a_useCount a_treeSize a_treeKind a_treeValue a_treeA a_treeB a_treeResult a_constantValued a_maximal a_counterpart a_boundNode a_pending a_pendingCount a_nodeKind a_nodeValue na nb a_nodeResult a_nodeUses a_outputNode a_seen a_order a_walkStack := by
    intro d
    have up : ∀ (f g : Nat → Int32) (i : Nat), (∀ n, f n = if n < i ∧ g n = nI Rn then nI y else g n) → (g i = nI Rn → ∀ n, upd f i (nI y) n = if n < i + 1 ∧ g n = nI Rn then nI y else g n) ∧ (¬ g i = nI Rn → ∀ n, f n = if n < i + 1 ∧ g n = nI Rn then nI y else g n) := by
      intro f g i hf
      constructor
      · intro e n
        by_cases en : n = i
        · rw [en, pk_us, if_pos ⟨by omega, e⟩]
        · rw [pk_un en, hf n]
          by_cases hc : n < i ∧ g n = nI Rn
          · rw [if_pos hc, if_pos ⟨by omega, hc.2⟩]
          · rw [if_neg hc, if_neg (fun hh => hc ⟨by omega, hh.2⟩)]
      · intro e n
        rw [hf n]
        by_cases hc : n < i ∧ g n = nI Rn
        · rw [if_pos hc, if_pos ⟨by omega, hc.2⟩]
        · rw [if_neg hc, if_neg (fun hh => hc ⟨?_, hh.2⟩)]
          have : n ≠ i := fun hx => e (by rw [← hx]; exact hh.2)
          omega
    induction d with
    | zero =>
      intro i na nb hi h1 h2
      have e : i = 32 := by omega
      subst e
      exact pk_le 32 32 (fun _ => ⟨oc + 1, l50 na nb oc 0 a_outputNode (fun ou' ho => h na nb ou' h1 h2 ho) (by omega) (fun k => by rw [if_neg (fun hh => absurd hh.1 (by omega))])⟩) (fun h => absurd h (by omega))
    | succ d ih =>
      intro i na nb hi h1 h2
      have hin : vp_in (nI i) 64 := pk_in i 64 (by omega)
      have hcl : (nI i).toNatClampNeg = i := nI_clamp (by omega)
      have ea : na i = a_nodeA i := by
        rw [h1 i, if_neg (fun hh => absurd hh.1 (by omega))]
      have eb : nb i = a_nodeB i := by
        rw [h2 i, if_neg (fun hh => absurd hh.1 (by omega))]
      have h25 : ∀ na', (∀ n, na' n = if n < i + 1 ∧ a_nodeA n = nI Rn then nI y else a_nodeA n) → wX_redirect_25 post (wX_redirect_2 post (nI Rn) (nI y) f_maxNodes f_maxRules f_ruleCount f_counterexample f_optimized f_nodeCount (nI oc) f_applications (d + 1)) (nI Rn) (nI y) (nI i) f_maxNodes f_maxRules f_ruleCount f_counterexample f_optimized f_nodeCount (nI oc) f_applications a_preRelation a_preVariable a_preConstant a_roomNeeded a_useCount a_treeSize a_treeKind a_treeValue a_treeA a_treeB a_treeResult a_constantValued a_maximal a_counterpart a_boundNode a_pending a_pendingCount a_nodeKind a_nodeValue na' nb a_nodeResult a_nodeUses a_outputNode a_seen a_order a_walkStack := by
        intro na' hn'
        refine ⟨hin, ?_⟩
        rw [hcl, eb]
        exact br_c (fun e => ⟨hin, nm_e (nm_r (nI_1 _) (ih (i + 1) na' _ (by omega) hn' ((up nb a_nodeB i h2).1 e)))⟩) (fun e => nm_r (nI_1 _) (ih (i + 1) na' nb (by omega) hn' ((up nb a_nodeB i h2).2 e)))
      refine pk_le 32 i (fun h => absurd h (by omega)) (fun _ => ⟨hin, ?_⟩)
      rw [hcl, ea]
      exact br_c (fun e => ⟨hin, nm_e (h25 _ ((up na a_nodeA i h1).1 e))⟩) (fun e => h25 na ((up na a_nodeA i h1).2 e))
  exact ⟨33, l2 32 0 a_nodeA a_nodeB (by omega) (fun n => by rw [if_neg (fun hh => absurd hh.1 (by omega))]) (fun n => by rw [if_neg (fun hh => absurd hh.1 (by omega))])⟩
end XW
end
section
/-! X: applyRule -/
theorem pr_root_ns {R : pr_PT} {C : Nat → Bool} (hRf : pt_fin R) : ¬ pb_sk R C (pt_n R - 1) := by
  intro hsk
  have := hsk.2
  unfold pt_mx at this
  rw [hsk.1, hRf.2.1] at this
  cases this
theorem pr_oI_rd {Rn y n : Nat} {f : Nat → Option Nat} {g : Nat → Int32} (hn : n < 32) (hR : Rn < 2 ^ 31) (hc : ∀ c, f n = some c → c < 2 ^ 31) (hg : g n = pr_oI (f n)) : (if n < 32 ∧ g n = nI Rn then nI y else g n) = pr_oI (pa_A Rn y f n) := by
  unfold pa_A
  rw [if_pos hn]
  unfold pr_rd
  rw [hg]
  cases e : f n with
  | none =>
    rw [if_neg (fun hh => pr_ne1 hR hh.2.symm), if_neg (fun h => (nomatch h))]
  | some c =>
    by_cases ec : c = Rn
    · subst ec
      rw [if_pos ⟨hn, rfl⟩, if_pos rfl]
      rfl
    · rw [if_neg (fun hh => ec (pr_im hh.2 (hc c e) hR)), if_neg (fun h => ec (Option.some.inj h))]
section XX
variable {f_maxNodes f_maxRules f_ruleCount f_counterexample f_optimized f_nodeCount f_outputCount f_applications : Int32} {a_preRelation a_preVariable a_preConstant a_roomNeeded a_useCount a_treeSize a_treeKind a_treeValue a_treeA a_treeB a_treeResult a_constantValued a_maximal a_counterpart a_boundNode a_pending a_pendingCount a_nodeKind a_nodeValue a_nodeA a_nodeB a_nodeResult a_nodeUses a_outputNode a_seen a_order a_walkStack : Nat → Int32}
variable {K : Nat → Nat} {V : Nat → Int32} {A B : Nat → Option Nat} {O : Nat → Nat} {R : pr_PT} {C : Nat → Bool} {tv : Nat → Int32} {bd : Nat → Option Nat}
theorem x_applyRule {post : SX → Prop} {r oc Rn y : Nat} {s : pb_S} (hr : r < 17) (hoc : oc ≤ 4) (hRn : Rn < 32) (hR : pt_ok R) (hRf : pt_fin R) (h14 : ∀ i, i < pt_n R → pt_k R i ≠ 14) (hU : tr_at ((r * 2 + 1) * 8) (r * 2 + 1) R a_treeSize a_treeKind a_treeValue a_treeA a_treeB) (hcv : ∀ q, q < pt_n R → a_constantValued ((r * 2 + 1) * 8 + q) = pr_b (pt_cv R C q)) (hmx : ∀ q, q < pt_n R → a_maximal ((r * 2 + 1) * 8 + q) = pr_b (pt_mx R C q)) (hbn : ∀ j, j < 2 → a_boundNode j = pr_oI (bd j)) (hbT : ∀ j d, bd j = some d → pr_T 0 K d)
    (hg : gr_at 0 K V A B a_nodeKind a_nodeValue a_nodeA a_nodeB) (hk : ∀ n, n < 32 → a_nodeKind n = nI (K n)) (htv : ∀ q, q < pt_n R → pt_cv R C q = true → pt_tv R (bx_v V bd 0) (bx_v V bd 1) q = tv q) (hfx : ∀ i, i ≤ pt_n R → pb_fx R C i (pb_run R C tv bd i (K, V, A, B, fun _ => none))) (hs : s = pb_run R C tv bd (pt_n R) (K, V, A, B, fun _ => none)) (hy : s.2.2.2.2 (pt_n R - 1) = some y) (hy32 : y < 32)
    (hop : ∀ n c, pr_T 0 s.1 n → (s.2.2.1 n = some c ∨ s.2.2.2.1 n = some c) → c < 32) (hO : ∀ k, k < oc → O k < 32 ∧ a_outputNode k = nI (O k))
    (h : ∀ nk nv na nb ou tr cp, gr_at 0 s.1 s.2.1 (pa_A Rn y s.2.2.1) (pa_A Rn y s.2.2.2.1) nk nv na nb → (∀ n, 32 ≤ n → nk n = a_nodeKind n ∧ nv n = a_nodeValue n ∧ na n = a_nodeA n ∧ nb n = a_nodeB n) → (∀ k, k < oc → ou k = nI (pa_O Rn y oc O k)) → (∀ k, 4 ≤ k → ou k = a_outputNode k) → post (f_maxNodes, f_maxRules, f_ruleCount, f_counterexample, f_optimized, f_nodeCount, (nI oc), (f_applications + 1), a_preRelation, a_preVariable, a_preConstant, a_roomNeeded, (upd a_useCount r (a_useCount r + 1)), a_treeSize, a_treeKind, a_treeValue, a_treeA, a_treeB, tr, a_constantValued, a_maximal, cp, a_boundNode, a_pending, a_pendingCount, nk, nv, na, nb, a_nodeResult, a_nodeUses, ou, a_seen, a_order, a_walkStack)) :
    wpX_applyRule post (f_maxNodes, f_maxRules, f_ruleCount, f_counterexample, f_optimized, f_nodeCount, (nI oc), f_applications, a_preRelation, a_preVariable, a_preConstant, a_roomNeeded, a_useCount, a_treeSize, a_treeKind, a_treeValue, a_treeA, a_treeB, a_treeResult, a_constantValued, a_maximal, a_counterpart, a_boundNode, a_pending, a_pendingCount, a_nodeKind, a_nodeValue, a_nodeA, a_nodeB, a_nodeResult, a_nodeUses, a_outputNode, a_seen, a_order, a_walkStack) (nI r) (nI Rn) := by
  have h8 := hR.1
  have h0 := hRf.1
  have l43 : ∀ tr, (∀ q, q < pt_n R → tr ((r * 2 + 1) * 8 + q) = pt_tv R (bx_v V bd 0) (bx_v V bd 1) q) → ∀ d i nk nv na nb cp, i + d = pt_n R → xb_at (r * 2 + 1) R C i (pb_run R C tv bd i (K, V, A, B, fun _ => none)) a_nodeKind a_nodeValue a_nodeA a_nodeB nk nv na nb cp → wX_applyRule_43 post (nI r) (nI Rn) (nI ((r * 2 + 1) * 8 + pt_n R)) (d + 1) (nI ((r * 2 + 1) * 8 + i)) f_maxNodes f_maxRules f_ruleCount f_counterexample f_optimized f_nodeCount (nI oc) f_applications a_preRelation a_preVariable a_preConstant a_roomNeeded a_useCount a_treeSize a_treeKind a_treeValue a_treeA a_treeB tr a_constantValued a_maximal cp a_boundNode a_pending a_pendingCount nk nv na nb a_nodeResult a_nodeUses a_outputNode a_seen a_order a_walkStack := by
    intro tr htr d
    induction d with
    | zero =>
      intro i nk nv na nb cp hi hb
      have ei : i = pt_n R := by omega
      subst ei
      rw [← hs] at hb
      refine pk_le ((r * 2 + 1) * 8 + pt_n R) ((r * 2 + 1) * 8 + pt_n R) (fun _ => ?_) (fun h => absurd h (by omega))
      have e1 : nI ((r * 2 + 1) * 8 + pt_n R) - 1 = nI ((r * 2 + 1) * 8 + (pt_n R - 1)) := by
        rw [pr_s1 (by omega)]
        exact congrArg nI (by omega)
      rw [e1]
      refine ⟨pk_in ((r * 2 + 1) * 8 + (pt_n R - 1)) 272 (by omega), ?_⟩
      rw [nI_clamp (n := (r * 2 + 1) * 8 + (pt_n R - 1)) (by omega), hb.2.2.2 (pt_n R - 1) (by omega) (pr_root_ns hRf), hy]
      have hinr : vp_in (nI r) 17 := pk_in r 17 hr
      refine x_redirect (y := y) hoc (fun na' nb' ou' k1 k2 k3 => nm_e ⟨hinr, hinr, ?_⟩)
      rw [nI_clamp (by omega)]
      refine nm_e (h nk nv na' nb' ou' tr cp (fun n hn => ?_) (fun n hn => ?_) (fun k hk => ?_) (fun k hk => ?_))
      · obtain ⟨z1, z2, z3, z4⟩ := hb.2.1 n hn
        have hn32 : n < 32 := by have := hn.2.1; omega
        refine ⟨z1, z2, ?_, ?_⟩
        · rw [k1 n]
          exact pr_oI_rd hn32 (by omega) (fun c hc => by have := hop n c hn (Or.inl hc); omega) z3
        · rw [k2 n]
          exact pr_oI_rd hn32 (by omega) (fun c hc => by have := hop n c hn (Or.inr hc); omega) z4
      · rw [k1 n, k2 n, if_neg (fun hh => absurd hh.1 (by omega)), if_neg (fun hh => absurd hh.1 (by omega))]
        exact hb.2.2.1 n hn
      · obtain ⟨o1, o2⟩ := hO k hk
        rw [k3 k, o2]
        unfold pa_O
        by_cases e : O k = Rn
        · rw [if_pos ⟨hk, by rw [e]⟩, if_pos ⟨hk, e⟩]
        · rw [if_neg (fun hh => e (pr_im hh.2 (by omega) (by omega))), if_neg (fun hh => e hh.2)]
      · rw [k3 k, if_neg (fun hh => absurd hh.1 (by omega))]
    | succ d ih =>
      intro i nk nv na nb cp hi hb
      refine pk_le ((r * 2 + 1) * 8 + pt_n R) ((r * 2 + 1) * 8 + i) (fun h => absurd h (by omega)) (fun _ => ?_)
      refine x_buildNode (R := R) (C := C) (tv := tv) (bd := bd) (w := r * 2 + 1) (nk0 := a_nodeKind) (nv0 := a_nodeValue) (na0 := a_nodeA) (nb0 := a_nodeB) (by omega) hR h14 (by omega) hU hcv hmx (fun q hq hc => by rw [htr q hq]; exact htv q hq hc) hbn (hfx i (by omega)) hb (fun rr nk' nv' na' nb' hb' => ⟨pk_in ((r * 2 + 1) * 8 + i) 272 (by omega), ?_⟩)
      rw [nI_clamp (by omega)]
      exact nm_e (nm_r (nI_1 _) (ih (i + 1) nk' nv' na' nb' _ (by omega) hb'))
  unfold wpX_applyRule
  refine x_treeOf r 1 ?_
  refine x_endOf (by omega) hU.1 ?_
  refine x_boundValue (j := 0) (bd := bd) (K := K) (A := A) (B := B) (by omega) hg (hbn 0 (by omega)) (hbT 0) ?_
  refine x_boundValue (j := 1) (bd := bd) (K := K) (A := A) (B := B) (by omega) hg (hbn 1 (by omega)) (hbT 1) ?_
  refine x_evaluateTree (by omega) hR h0 hU (fun tr htr => ?_)
  refine x_firstOf ⟨pt_n R + 1, ?_⟩
  exact l43 tr htr (pt_n R) 0 _ _ _ _ _ (by omega) ⟨hk, hg, fun n _ => ⟨rfl, rfl, rfl, rfl⟩, fun q hq => absurd hq (by omega)⟩
end XX
end
section
/-! Y: applying a rule -/
def yb_at (R : pr_PT) (C : Nat → Bool) (i : Nat) (s : pb_S) (al0 nk0 nv0 na0 nb0 al nk nv na nb rs : Nat → Int32) : Prop :=
  al_at 0 s.1 al ∧ gr_at 0 s.1 s.2.1 s.2.2.1 s.2.2.2.1 nk nv na nb ∧ (∀ n, 32 ≤ n → al n = al0 n ∧ nk n = nk0 n ∧ nv n = nv0 n ∧ na n = na0 n ∧ nb n = nb0 n) ∧ ∀ q, q < i → ¬ pb_sk R C q → rs q = pr_oI (s.2.2.2.2 q)
theorem yb_new {i κ : Nat} {R : pr_PT} {C : Nat → Bool} {s : pb_S} {x : Int32} {a b : Option Nat} {al0 nk0 nv0 na0 nb0 al nk nv na nb rs : Nat → Int32} (hκ : 1 ≤ κ) (h : yb_at R C i s al0 nk0 nv0 na0 nb0 al nk nv na nb rs) :
    yb_at R C (i + 1) (pb_new i κ x a b s) al0 nk0 nv0 na0 nb0 (upd al (pr_fr s.1) 1) (upd nk (pr_fr s.1) (nI κ)) (upd nv (pr_fr s.1) x) (upd na (pr_fr s.1) (pr_oI a)) (upd nb (pr_fr s.1) (pr_oI b)) (upd rs i (nI (pr_fr s.1))) := by
  obtain ⟨h1, h2, h3, h4⟩ := h
  have hfr := pr_fr_le s.1
  refine ⟨fun n h0 hn => ?_, fun n hn => ?_, fun n hn => ?_, fun q hq hq' => ?_⟩
  · show upd al (pr_fr s.1) 1 n = (if pr_st s.1 (pr_fr s.1) κ n = 0 then 0 else 1)
    by_cases e : n = pr_fr s.1
    · rw [e, pk_us, pr_st_s, if_neg (by omega)]
    · rw [pk_un e, pr_st_n e]
      exact h1 n h0 hn
  · show upd nk (pr_fr s.1) (nI κ) n = nI (pr_st s.1 (pr_fr s.1) κ n) ∧ upd nv (pr_fr s.1) x n = pr_st s.2.1 (pr_fr s.1) x n ∧ upd na (pr_fr s.1) (pr_oI a) n = pr_oI (pr_st s.2.2.1 (pr_fr s.1) a n) ∧ upd nb (pr_fr s.1) (pr_oI b) n = pr_oI (pr_st s.2.2.2.1 (pr_fr s.1) b n)
    by_cases e : n = pr_fr s.1
    · rw [e, pk_us, pk_us, pk_us, pk_us, pr_st_s, pr_st_s, pr_st_s, pr_st_s]
      exact ⟨rfl, rfl, rfl, rfl⟩
    · rw [pk_un e, pk_un e, pk_un e, pk_un e, pr_st_n e, pr_st_n e, pr_st_n e, pr_st_n e]
      refine h2 n ⟨hn.1, hn.2.1, ?_⟩
      have := hn.2.2
      replace this : pr_st s.1 (pr_fr s.1) κ n ≠ 0 := this
      rw [pr_st_n e] at this
      exact this
  · rw [pk_un (by omega), pk_un (by omega), pk_un (by omega), pk_un (by omega), pk_un (by omega)]
    exact h3 n hn
  · show upd rs i (nI (pr_fr s.1)) q = pr_oI (pr_st s.2.2.2.2 i (some (pr_fr s.1)) q)
    by_cases e : q = i
    · rw [e, pk_us, pr_st_s]
      rfl
    · rw [pk_un e, pr_st_n e]
      exact h4 q (by omega) hq'
/-- a slot is free whenever a node is to be made -/
def pb_fr (R : pr_PT) (C : Nat → Bool) (i : Nat) (s : pb_S) : Prop := pt_rm1 R C i = 1 → ∃ x, x < 32 ∧ s.1 x = 0
theorem pb_fr_of {K0 : Nat → Nat} {V0 : Nat → Int32} {A0 B0 : Nat → Option Nat} {rk : Nat → Nat} {bd : Nat → Option Nat} {R : pr_PT} {C : Nat → Bool} {Lo : List Nat} {β i : Nat} {s : pb_S} {ρ : Nat → Nat} (hct : pr_ct K0 + pt_rm R C ≤ 32) (hi : i < pt_n R) (h : pb_inv K0 V0 A0 B0 rk bd R C Lo β i s ρ) : pb_fr R C i s := by
  intro hm
  have hs : pr_rs (pt_rm1 R C) 0 (i + 1) = pr_rs (pt_rm1 R C) 0 i + 1 := by
    show pr_rs (pt_rm1 R C) 0 i + pt_rm1 R C (0 + i) = _
    rw [Nat.zero_add, hm]
  have hup : pr_rs (pt_rm1 R C) 0 (i + 1) ≤ pt_rm R C := pr_rs_up (by omega)
  have := h.2.2.2.1
  exact pr_ct_free (by omega)
section YX
variable {f_maxNodes f_maxRules f_phase f_nCount f_outCnt f_apps f_ruleCount f_cex f_curLive f_orderN : Int32} {a_alive a_nKind a_nVal a_nA a_nB a_lv a_nd a_nv a_outs a_tKind a_tVal a_tA a_tB a_tN a_preRel a_preJ a_preK a_ruleUse a_pend a_pendN a_tv a_cv a_mx a_par a_mp a_res a_bnd a_order a_stk a_stSt : Nat → Int32}
variable {K : Nat → Nat} {V : Nat → Int32} {A B : Nat → Option Nat} {O rk : Nat → Nat} {P R : pr_PT} {C : Nat → Bool} {tv : Nat → Int32} {bd : Nat → Option Nat} {al0 nk0 nv0 na0 nb0 : Nat → Int32}
theorem y_newNode {post : Int32 → SY → Prop} {p1 p2 p3 p4 : Int32} (hal : al_at 0 K a_alive) (hf : ∃ x, x < 32 ∧ K x = 0) (h : post (nI (pr_fr K)) (f_maxNodes, f_maxRules, f_phase, f_nCount, f_outCnt, f_apps, f_ruleCount, f_cex, f_curLive, f_orderN, (upd a_alive (pr_fr K) 1), (upd a_nKind (pr_fr K) p1), (upd a_nVal (pr_fr K) p2), (upd a_nA (pr_fr K) p3), (upd a_nB (pr_fr K) p4), a_lv, a_nd, a_nv, a_outs, a_tKind, a_tVal, a_tA, a_tB, a_tN, a_preRel, a_preJ, a_preK, a_ruleUse, a_pend, a_pendN, a_tv, a_cv, a_mx, a_par, a_mp, a_res, a_bnd, a_order, a_stk, a_stSt)) : wpY_newNode post (f_maxNodes, f_maxRules, f_phase, f_nCount, f_outCnt, f_apps, f_ruleCount, f_cex, f_curLive, f_orderN, a_alive, a_nKind, a_nVal, a_nA, a_nB, a_lv, a_nd, a_nv, a_outs, a_tKind, a_tVal, a_tA, a_tB, a_tN, a_preRel, a_preJ, a_preK, a_ruleUse, a_pend, a_pendN, a_tv, a_cv, a_mx, a_par, a_mp, a_res, a_bnd, a_order, a_stk, a_stSt) p1 p2 p3 p4 := by
  obtain ⟨f1, f2, f3⟩ := pr_fr_ok hf
  have l : ∀ d s, s + d = pr_fr K → wY_newNode_3 post p1 p2 p3 p4 f_maxNodes f_maxRules f_phase f_nCount f_outCnt f_apps f_ruleCount f_cex f_curLive f_orderN a_alive a_nKind a_nVal a_nA a_nB a_lv a_nd a_nv a_outs a_tKind a_tVal a_tA a_tB a_tN a_preRel a_preJ a_preK a_ruleUse a_pend a_pendN a_tv a_cv a_mx a_par a_mp a_res a_bnd a_order a_stk a_stSt (d + 1) (nI s) := by
    intro d
    induction d with
    | zero =>
      intro s hs
      have e : s = pr_fr K := by omega
      subst e
      have hin : vp_in (nI (pr_fr K)) 64 := pk_in (pr_fr K) 64 (by omega)
      have ha := hal (pr_fr K) (by omega) (by omega)
      rw [if_pos f1] at ha
      refine pk_le 32 (pr_fr K) (fun h => absurd h (by omega)) (fun _ => ⟨hin, ?_⟩)
      rw [nI_clamp (by omega), pr_vb1]
      exact br_t ha ⟨hin, nm_e ⟨hin, nm_e ⟨hin, nm_e ⟨hin, nm_e ⟨hin, nm_e h⟩⟩⟩⟩⟩
    | succ d ih =>
      intro s hs
      have ha := hal s (by omega) (by omega)
      rw [if_neg (f3 s (by omega))] at ha
      refine pk_le 32 s (fun h => absurd h (by omega)) (fun _ => ⟨pk_in s 64 (by omega), ?_⟩)
      rw [nI_clamp (by omega)]
      exact br_f (by rw [ha]; decide) (nm_r (nI_1 _) (ih (s + 1) (by omega)))
  exact ⟨pr_fr K + 1, l (pr_fr K) 0 (by omega)⟩
theorem y_app111 {post : SY → Prop} {J47 : Int32 → Int32 → Int32 → Int32 → Int32 → Int32 → Int32 → Int32 → Int32 → Int32 → Int32 → (Nat → Int32) → (Nat → Int32) → (Nat → Int32) → (Nat → Int32) → (Nat → Int32) → (Nat → Int32) → (Nat → Int32) → (Nat → Int32) → (Nat → Int32) → (Nat → Int32) → (Nat → Int32) → (Nat → Int32) → (Nat → Int32) → (Nat → Int32) → (Nat → Int32) → (Nat → Int32) → (Nat → Int32) → (Nat → Int32) → (Nat → Int32) → (Nat → Int32) → (Nat → Int32) → (Nat → Int32) → (Nat → Int32) → (Nat → Int32) → (Nat → Int32) → (Nat → Int32) → (Nat → Int32) → (Nat → Int32) → (Nat → Int32) → (Nat → Int32) → Prop} {r i : Nat} {x2 x6 : Int32} {s : pb_S} (hr : r < 16) (hR : pt_ok R) (h14 : ∀ i, i < pt_n R → pt_k R i ≠ 14) (hi : i < pt_n R) (hU : tr_at 0 (r * 2 + 1) R a_tN a_tKind a_tVal a_tA a_tB) (hcv : ∀ q, q < pt_n R → a_cv q = pr_b (pt_cv R C q)) (htv : ∀ q, q < pt_n R → a_tv q = tv q) (hbn : ∀ j, j < 2 → a_bnd j = pr_oI (bd j)) (hsk : ¬ pb_sk R C i)
    (hfx : pb_fx R C i s) (hfr : pb_fr R C i s) (hb : yb_at R C i s al0 nk0 nv0 na0 nb0 a_alive a_nKind a_nVal a_nA a_nB a_res)
    (h : ∀ al nk nv na nb rs, yb_at R C (i + 1) (pb_st R C tv bd i s) al0 nk0 nv0 na0 nb0 al nk nv na nb rs → J47 (nI (i + 1)) f_maxNodes f_maxRules f_phase f_nCount f_outCnt f_apps f_ruleCount f_cex f_curLive f_orderN al nk nv na nb a_lv a_nd a_nv a_outs a_tKind a_tVal a_tA a_tB a_tN a_preRel a_preJ a_preK a_ruleUse a_pend a_pendN a_tv a_cv a_mx a_par a_mp rs a_bnd a_order a_stk a_stSt) :
    wY_apply_111 post J47 (nI r) x2 (nI (r * 2 + 1)) x6 (nI i) (nI ((r * 2 + 1) * 8 + i)) (nI (pt_k R i)) f_maxNodes f_maxRules f_phase f_nCount f_outCnt f_apps f_ruleCount f_cex f_curLive f_orderN a_alive a_nKind a_nVal a_nA a_nB a_lv a_nd a_nv a_outs a_tKind a_tVal a_tA a_tB a_tN a_preRel a_preJ a_preK a_ruleUse a_pend a_pendN a_tv a_cv a_mx a_par a_mp a_res a_bnd a_order a_stk a_stSt := by
  have h8 := hR.1
  obtain ⟨e1, e2, e3, e4⟩ := hU.2 i hi
  have hn := hR.2 i hi
  have hs := pt_sm hR i hi
  have hin : vp_in (nI ((r * 2 + 1) * 8 + i)) 272 := pk_in ((r * 2 + 1) * 8 + i) 272 (by omega)
  have hcl : (nI ((r * 2 + 1) * 8 + i)).toNatClampNeg = (r * 2 + 1) * 8 + i := nI_clamp (by omega)
  have hin8 : vp_in (nI i) 8 := pk_in i 8 (by omega)
  have hci : (nI i).toNatClampNeg = i := nI_clamp (by omega)
  unfold pb_st at h
  have hsk' : ¬ (pt_cv R C i = true ∧ pt_mx R C i = false) := hsk
  rw [if_neg hsk'] at h
  refine pk_eq (pt_k R i) 13 (fun h13 => ⟨hin, ?_⟩) (fun n13 => ⟨hin8, ?_⟩)
  · have hv2 := hn.2.2.1 (by omega)
    rw [hcl, e2, hci, nI_clamp (n := pt_v R i) (by omega), hbn _ hv2]
    refine ⟨pk_in (pt_v R i) 2 hv2, hin8, nm_e (nm_r (nI_1 _) (h _ _ _ _ _ _ ?_))⟩
    rw [if_pos h13]
    refine ⟨hb.1, hb.2.1, hb.2.2.1, fun q hq hq' => ?_⟩
    show _ = pr_oI (pr_st s.2.2.2.2 i (bd (pt_v R i)) q)
    by_cases e : q = i
    · rw [e, pk_us, pr_st_s]
    · rw [pk_un e, pr_st_n e]
      exact hb.2.2.2 q (by omega) hq'
  · rw [if_neg n13] at h
    rw [hci, hcv i hi, htv i hi, hcl]
    refine br_c (fun h0 => ?_) (fun h0 => ⟨hin8, ?_⟩)
    · have hc := (pr_b0 _).mp h0
      rw [if_neg (by rw [hc]; decide)] at h
      have hfree := hfr (by unfold pt_rm1; rw [if_pos (Or.inl hc)])
      have hk10 : pt_k R i ≤ 10 := by
        apply Classical.byContradiction
        intro hk
        have h11 : pt_k R i = 11 := by
          have := hn.1
          have := h14 i hi
          omega
        rw [pt_cv_eq hR hi] at hc
        unfold pt_cF at hc
        rw [if_neg n13, hn.2.2.2.2.1 (by omega), hn.2.2.2.2.2.1 (by omega)] at hc
        cases hc
      obtain ⟨ca, hca⟩ := hn.2.2.2.2.2.2.1 hk10
      have pa := pb_ch (C := C) hR hi hc (Or.inl hca)
      have eA : a_tA ((r * 2 + 1) * 8 + i) = nI ca := by
        rw [e3, hca]
        show nI (0 + ca) = nI ca
        rw [Nat.zero_add]
      have hrA : a_res ca = pr_oI (pr_or s.2.2.2.2 (pt_a R i)) := by
        rw [hca]
        exact hb.2.2.2 ca pa.2 pa.1
      by_cases hb8 : pt_k R i ≤ 8
      · obtain ⟨cb, hcb⟩ := hn.2.2.2.2.2.2.2.1 hb8
        have pbb := pb_ch (C := C) hR hi hc (Or.inr hcb)
        have eB : a_tB ((r * 2 + 1) * 8 + i) = nI cb := by
          rw [e4, hcb]
          show nI (0 + cb) = nI cb
          rw [Nat.zero_add]
        have hrB : a_res cb = pr_oI (pr_or s.2.2.2.2 (pt_b R i)) := by
          rw [hcb]
          exact hb.2.2.2 cb pbb.2 pbb.1
        refine y_isBin_t hn.1.1 hb8 (br_f (by decide) ⟨hin, ?_⟩)
        rw [eA, eB, nI_clamp (n := ca) (by omega), nI_clamp (n := cb) (by omega), hrA, hrB]
        refine ⟨pk_in ca 8 (by omega), hin, pk_in cb 8 (by omega), y_newNode hb.1 hfree ⟨hin8, nm_e (nm_r (nI_1 _) (h _ _ _ _ _ _ (yb_new hn.1.1 hb)))⟩⟩
      · have hBn : pt_b R i = none := hn.2.2.2.2.2.1 (by omega)
        refine y_isBin_f (by omega) (by omega) (br_t rfl ⟨hin, ?_⟩)
        rw [eA, nI_clamp (n := ca) (by omega), hrA]
        rw [hBn] at h
        exact ⟨pk_in ca 8 (by omega), y_newNode hb.1 hfree ⟨hin8, nm_e (nm_r (nI_1 _) (h _ _ _ _ _ _ (yb_new (b := none) hn.1.1 hb)))⟩⟩
    · have hc : pt_cv R C i = true := by
        cases hx : pt_cv R C i with
        | true => rfl
        | false => rw [hx] at h0; exact absurd rfl h0
      have hmx : pt_mx R C i = true := by
        cases hx : pt_mx R C i with
        | true => rfl
        | false => exact absurd ⟨hc, hx⟩ hsk
      have hfree := hfr (by unfold pt_rm1; rw [if_pos (Or.inr ⟨hmx, n13⟩)])
      rw [if_pos hc] at h
      exact y_newNode hb.1 hfree ⟨hin8, nm_e (nm_r (nI_1 _) (h _ _ _ _ _ _ (yb_new (κ := 11) (a := none) (b := none) (by omega) hb)))⟩
theorem y_app412 {post : SY → Prop} {r oc Rn y : Nat} (hoc : oc ≤ 4) (hRn : Rn < 32) (hO : ∀ k, k < oc → O k < 32 ∧ a_outs k = nI (O k))
    (h : ∀ ou, (∀ k, k < oc → ou k = nI (pa_O Rn y oc O k)) → (∀ k, 4 ≤ k → ou k = a_outs k) → wY_apply_453 post (nI r) f_maxNodes f_maxRules f_phase f_nCount (nI oc) f_apps f_ruleCount f_cex f_curLive f_orderN a_alive a_nKind a_nVal a_nA a_nB a_lv a_nd a_nv ou a_tKind a_tVal a_tA a_tB a_tN a_preRel a_preJ a_preK a_ruleUse a_pend a_pendN a_tv a_cv a_mx a_par a_mp a_res a_bnd a_order a_stk a_stSt) :
    ∀ d i ou, i + d = oc → (∀ k, k < i → ou k = nI (pa_O Rn y oc O k)) → (∀ k, i ≤ k → ou k = a_outs k) → wY_apply_412 post (nI r) (nI Rn) (nI y) f_maxNodes f_maxRules f_phase f_nCount (nI oc) f_apps f_ruleCount f_cex f_curLive f_orderN (d + 1) (nI i) a_alive a_nKind a_nVal a_nA a_nB a_lv a_nd a_nv ou a_tKind a_tVal a_tA a_tB a_tN a_preRel a_preJ a_preK a_ruleUse a_pend a_pendN a_tv a_cv a_mx a_par a_mp a_res a_bnd a_order a_stk a_stSt := by
  intro d
  induction d with
  | zero =>
    intro i ou hi h1 h2
    have e : i = oc := by omega
    subst e
    exact pk_le i i (fun _ => h ou h1 (fun k hk => h2 k (by omega))) (fun h => absurd h (by omega))
  | succ d ih =>
    intro i ou hi h1 h2
    obtain ⟨o1, o2⟩ := hO i (by omega)
    refine pk_le oc i (fun h => absurd h (by omega)) (fun _ => pk_le 4 i (fun h => absurd h (by omega)) (fun _ => ⟨pk_in i 8 (by omega), ?_⟩))
    rw [nI_clamp (by omega), h2 i (by omega), o2]
    refine pk_eq (O i) Rn (fun e => ⟨pk_in i 8 (by omega), nm_e (nm_r (nI_1 _) (ih (i + 1) _ (by omega) (fun k hk => ?_) (fun k hk => ?_)))⟩) (fun e => nm_r (nI_1 _) (ih (i + 1) ou (by omega) (fun k hk => ?_) (fun k hk => h2 k (by omega))))
    · by_cases ek : k = i
      · rw [ek, pk_us]
        unfold pa_O
        rw [if_pos ⟨by omega, e⟩]
      · rw [pk_un ek]
        exact h1 k (by omega)
    · rw [pk_un (by omega)]
      exact h2 k (by omega)
    · by_cases ek : k = i
      · rw [ek, h2 i (by omega), o2]
        unfold pa_O
        rw [if_neg (fun hh => e hh.2)]
      · exact h1 k (by omega)
theorem y_app294 {post : SY → Prop} {r Rn y : Nat} {K1 : Nat → Nat} {V1 : Nat → Int32} {A1 B1 : Nat → Option Nat} (hRn : Rn < 32) (hK : ∀ n, pr_T 0 K1 n → K1 n ≤ 12 ∧ (11 ≤ K1 n → A1 n = none) ∧ (9 ≤ K1 n → B1 n = none) ∧ ∀ c, (A1 n = some c ∨ B1 n = some c) → c < 32) (hal : al_at 0 K1 a_alive) (hg : gr_at 0 K1 V1 A1 B1 a_nKind a_nVal a_nA a_nB)
    (h : ∀ na nb, gr_at 0 K1 V1 (pa_A Rn y A1) (pa_A Rn y B1) a_nKind a_nVal na nb → (∀ n, 32 ≤ n → na n = a_nA n ∧ nb n = a_nB n) → ∃ f, wY_apply_412 post (nI r) (nI Rn) (nI y) f_maxNodes f_maxRules f_phase f_nCount f_outCnt f_apps f_ruleCount f_cex f_curLive f_orderN f 0 a_alive a_nKind a_nVal na nb a_lv a_nd a_nv a_outs a_tKind a_tVal a_tA a_tB a_tN a_preRel a_preJ a_preK a_ruleUse a_pend a_pendN a_tv a_cv a_mx a_par a_mp a_res a_bnd a_order a_stk a_stSt) :
    ∀ d i na nb, i + d = 32 → (∀ n, n < i → pr_T 0 K1 n → na n = pr_oI (pa_A Rn y A1 n) ∧ nb n = pr_oI (pa_A Rn y B1 n)) → (∀ n, i ≤ n → na n = a_nA n ∧ nb n = a_nB n) → wY_apply_294 post (nI r) (nI Rn) (nI y) f_maxNodes f_maxRules f_phase f_nCount f_outCnt f_apps f_ruleCount f_cex f_curLive f_orderN (d + 1) (nI i) a_alive a_nKind a_nVal na nb a_lv a_nd a_nv a_outs a_tKind a_tVal a_tA a_tB a_tN a_preRel a_preJ a_preK a_ruleUse a_pend a_pendN a_tv a_cv a_mx a_par a_mp a_res a_bnd a_order a_stk a_stSt := by
  intro d
  induction d with
  | zero =>
    intro i na nb hi h1 h2
    have e : i = 32 := by omega
    subst e
    refine pk_le 32 32 (fun _ => h na nb (fun n hn => ?_) (fun n hn => h2 n hn)) (fun h => absurd h (by omega))
    obtain ⟨z1, z2, z3, z4⟩ := hg n hn
    have := h1 n (by have := hn.2.1; omega) hn
    exact ⟨z1, z2, this.1, this.2⟩
  | succ d ih =>
    intro i na nb hi h1 h2
    have hin : vp_in (nI i) 64 := pk_in i 64 (by omega)
    have hcl : (nI i).toNatClampNeg = i := nI_clamp (by omega)
    have hals := hal i (by omega) (by omega)
    obtain ⟨ei1, ei2⟩ := h2 i (by omega)
    have nx : ∀ na' nb', (pr_T 0 K1 i → na' i = pr_oI (pa_A Rn y A1 i) ∧ nb' i = pr_oI (pa_A Rn y B1 i)) → (∀ n, n ≠ i → na' n = na n ∧ nb' n = nb n) → wY_apply_294 post (nI r) (nI Rn) (nI y) f_maxNodes f_maxRules f_phase f_nCount f_outCnt f_apps f_ruleCount f_cex f_curLive f_orderN (d + 1) (nI (i + 1)) a_alive a_nKind a_nVal na' nb' a_lv a_nd a_nv a_outs a_tKind a_tVal a_tA a_tB a_tN a_preRel a_preJ a_preK a_ruleUse a_pend a_pendN a_tv a_cv a_mx a_par a_mp a_res a_bnd a_order a_stk a_stSt := by
      intro na' nb' k1 k2
      refine ih (i + 1) na' nb' (by omega) (fun n hn tn => ?_) (fun n hn => ?_)
      · by_cases e : n = i
        · subst e
          exact k1 tn
        · rw [(k2 n e).1, (k2 n e).2]
          exact h1 n (by omega) tn
      · rw [(k2 n (by omega)).1, (k2 n (by omega)).2]
        exact h2 n (by omega)
    refine pk_le 32 i (fun h => absurd h (by omega)) (fun _ => ⟨hin, ?_⟩)
    rw [hcl]
    by_cases hz : K1 i = 0
    · rw [if_pos hz] at hals
      refine br_t hals ⟨hin, ?_⟩
      rw [hcl]
      exact br_t hals (nm_r (nI_1 _) (nx na nb (fun t => absurd hz t.2.2) (fun n _ => ⟨rfl, rfl⟩)))
    · rw [if_neg hz] at hals
      have ha : ¬ a_alive i = 0 := by
        rw [hals]
        decide
      have ti : pr_T 0 K1 i := ⟨by omega, by omega, hz⟩
      have hK1 : 1 ≤ K1 i := Nat.pos_of_ne_zero hz
      obtain ⟨z1, z2, z3, z4⟩ := hg i ti
      obtain ⟨w1, w2, w3, w4⟩ := hK i ti
      have rdA : (if i < 32 ∧ a_nA i = nI Rn then nI y else a_nA i) = pr_oI (pa_A Rn y A1 i) := pr_oI_rd (by omega) (by omega) (fun c hc => by have := w4 c (Or.inl hc); omega) z3
      have rdB : (if i < 32 ∧ a_nB i = nI Rn then nI y else a_nB i) = pr_oI (pa_A Rn y B1 i) := pr_oI_rd (by omega) (by omega) (fun c hc => by have := w4 c (Or.inr hc); omega) z4
      have h359 : ∀ na', na' i = pr_oI (pa_A Rn y A1 i) → (∀ n, n ≠ i → na' n = na n) → wY_apply_359 post (wY_apply_294 post (nI r) (nI Rn) (nI y) f_maxNodes f_maxRules f_phase f_nCount f_outCnt f_apps f_ruleCount f_cex f_curLive f_orderN (d + 1)) (nI r) (nI Rn) (nI y) (nI i) f_maxNodes f_maxRules f_phase f_nCount f_outCnt f_apps f_ruleCount f_cex f_curLive f_orderN a_alive a_nKind a_nVal na' nb a_lv a_nd a_nv a_outs a_tKind a_tVal a_tA a_tB a_tN a_preRel a_preJ a_preK a_ruleUse a_pend a_pendN a_tv a_cv a_mx a_par a_mp a_res a_bnd a_order a_stk a_stSt := by
        intro na' k1 k2
        refine ⟨hin, ?_⟩
        rw [hcl]
        refine br_f ha ⟨hin, ?_⟩
        rw [z1]
        by_cases hb : K1 i ≤ 8
        · refine y_isBin_t hK1 hb (br_f (by decide) ⟨hin, ?_⟩)
          rw [ei2]
          refine br_c (fun e => ⟨hin, nm_e (nm_r (nI_1 _) (nx na' _ (fun _ => ⟨k1, ?_⟩) (fun n hn => ⟨k2 n hn, pk_un hn⟩)))⟩) (fun e => nm_r (nI_1 _) (nx na' nb (fun _ => ⟨k1, ?_⟩) (fun n hn => ⟨k2 n hn, rfl⟩)))
          · rw [if_pos ⟨by omega, e⟩] at rdB
            rw [pk_us]
            exact rdB
          · rw [if_neg (fun hh => e hh.2)] at rdB
            rw [ei2]
            exact rdB
        · refine y_isBin_f (by omega) (by omega) (br_t rfl (nm_r (nI_1 _) (nx na' nb (fun _ => ⟨k1, ?_⟩) (fun n hn => ⟨k2 n hn, rfl⟩))))
          rw [if_neg (fun hh => by
            have hz4 := z4
            rw [w3 (by omega)] at hz4
            rw [hz4] at hh
            exact pr_ne1 (a := Rn) (by omega) hh.2.symm)] at rdB
          rw [ei2]
          exact rdB
      have h339 : wY_apply_339 post (wY_apply_294 post (nI r) (nI Rn) (nI y) f_maxNodes f_maxRules f_phase f_nCount f_outCnt f_apps f_ruleCount f_cex f_curLive f_orderN (d + 1)) (nI r) (nI Rn) (nI y) (nI i) f_maxNodes f_maxRules f_phase f_nCount f_outCnt f_apps f_ruleCount f_cex f_curLive f_orderN a_alive a_nKind a_nVal na nb a_lv a_nd a_nv a_outs a_tKind a_tVal a_tA a_tB a_tN a_preRel a_preJ a_preK a_ruleUse a_pend a_pendN a_tv a_cv a_mx a_par a_mp a_res a_bnd a_order a_stk a_stSt := by
        refine ⟨hin, ?_⟩
        rw [hcl, ei1]
        refine br_c (fun e => ⟨hin, nm_e (h359 _ ?_ (fun n hn => pk_un hn))⟩) (fun e => h359 na ?_ (fun _ _ => rfl))
        · rw [if_pos ⟨by omega, e⟩] at rdA
          rw [pk_us]
          exact rdA
        · rw [if_neg (fun hh => e hh.2)] at rdA
          rw [ei1]
          exact rdA
      refine br_f ha ⟨hin, ?_⟩
      rw [z1]
      by_cases hb : K1 i ≤ 8
      · exact y_isBin_t hK1 hb (br_f (by decide) h339)
      · refine y_isBin_f (by omega) (by omega) (br_t rfl ⟨hin, ?_⟩)
        by_cases hu : K1 i ≤ 10
        · exact y_isUn_t (by omega) (br_f (by decide) h339)
        · refine y_isUn_f (by omega) (by omega) (br_t rfl (h359 na ?_ (fun _ _ => rfl)))
          rw [if_neg (fun hh => by
            have hz3 := z3
            rw [w2 (by omega)] at hz3
            rw [hz3] at hh
            exact pr_ne1 (a := Rn) (by omega) hh.2.symm)] at rdA
          rw [ei1]
          exact rdA
theorem y_apply {post : SY → Prop} {r oc Rn y : Nat} {s : pb_S} {rk2 : Nat → Nat} {L2 : List Nat} (hr : r < 16) (hoc : oc ≤ 4) (hRn : Rn < 32) (hP : pt_ok P) (hR : pt_ok R) (hRf : pt_fin R) (h14 : ∀ i, i < pt_n R → pt_k R i ≠ 14) (hT : tr_at 0 (r * 2) P a_tN a_tKind a_tVal a_tA a_tB) (hU : tr_at 0 (r * 2 + 1) R a_tN a_tKind a_tVal a_tA a_tB) (hC : C = pt_has P 14) (hbn : ∀ j, j < 2 → a_bnd j = pr_oI (bd j)) (hbT : ∀ j d, bd j = some d → pr_T 0 K d)
    (hG : pr_gw 0 K V A B rk) (hg : gr_at 0 K V A B a_nKind a_nVal a_nA a_nB) (hal : al_at 0 K a_alive) (htv : tv = pt_tv R (by_v K V bd 0) (by_v K V bd 1)) (hfx : ∀ i, i ≤ pt_n R → pb_fx R C i (pb_run R C tv bd i (K, V, A, B, fun _ => none))) (hfr : ∀ i, i < pt_n R → pb_fr R C i (pb_run R C tv bd i (K, V, A, B, fun _ => none))) (hs : s = pb_run R C tv bd (pt_n R) (K, V, A, B, fun _ => none)) (hy : s.2.2.2.2 (pt_n R - 1) = some y) (hy32 : y < 32)
    (hK1 : ∀ n, pr_T 0 s.1 n → s.1 n ≤ 12 ∧ (11 ≤ s.1 n → s.2.2.1 n = none) ∧ (9 ≤ s.1 n → s.2.2.2.1 n = none) ∧ ∀ c, (s.2.2.1 n = some c ∨ s.2.2.2.1 n = some c) → c < 32) (hO : ∀ k, k < oc → O k < 32 ∧ a_outs k = nI (O k))
    (hG2 : pr_gw 0 s.1 s.2.1 (pa_A Rn y s.2.2.1) (pa_A Rn y s.2.2.2.1) rk2) (hO2 : ∀ k, k < oc → pr_T 0 s.1 (pa_O Rn y oc O k)) (hL2 : L2 = pr_lv (pa_A Rn y s.2.2.1) (pa_A Rn y s.2.2.2.1) (pa_O Rn y oc O) 0 oc)
    (h : ∀ al nk nv na nb ou lv cv' mx' par' tv' rs, gr_at 0 s.1 s.2.1 (pa_A Rn y s.2.2.1) (pa_A Rn y s.2.2.2.1) nk nv na nb → al_at 0 (pa_K L2 s.1) al → (∀ n, 32 ≤ n → al n = a_alive n ∧ nk n = a_nKind n ∧ nv n = a_nVal n ∧ na n = a_nA n ∧ nb n = a_nB n) → (∀ k, k < oc → ou k = nI (pa_O Rn y oc O k)) → (∀ k, 4 ≤ k → ou k = a_outs k) → post (f_maxNodes, f_maxRules, f_phase, f_nCount, (nI oc), (f_apps + 1), f_ruleCount, f_cex, f_curLive, f_orderN, al, nk, nv, na, nb, lv, a_nd, a_nv, ou, a_tKind, a_tVal, a_tA, a_tB, a_tN, a_preRel, a_preJ, a_preK, (upd a_ruleUse r (a_ruleUse r + 1)), a_pend, a_pendN, tv', cv', mx', par', a_mp, rs, a_bnd, a_order, a_stk, a_stSt)) :
    wpY_apply post (f_maxNodes, f_maxRules, f_phase, f_nCount, (nI oc), f_apps, f_ruleCount, f_cex, f_curLive, f_orderN, a_alive, a_nKind, a_nVal, a_nA, a_nB, a_lv, a_nd, a_nv, a_outs, a_tKind, a_tVal, a_tA, a_tB, a_tN, a_preRel, a_preJ, a_preK, a_ruleUse, a_pend, a_pendN, a_tv, a_cv, a_mx, a_par, a_mp, a_res, a_bnd, a_order, a_stk, a_stSt) (nI r) (nI Rn) := by
  have h8 := hR.1
  have h0 := hRf.1
  have e2 : 2 * nI r = nI (r * 2) := by
    rw [show (2 : Int32) = nI 2 from rfl, pk_mul, Nat.mul_comm]
  have e3 : (2 * nI r) + 1 = nI (r * 2 + 1) := by
    rw [e2, nI_1]
  unfold wpY_apply
  refine y_constFlags (C := C) (by omega) hP hR h14 hC hT hU (fun cv' mx' par' c1 c2 => ?_)
  refine y_bindConst (j := 0) (bd := bd) (by omega) hG hg (hbn 0 (by omega)) (hbT 0) ?_
  refine y_bindConst (j := 1) (bd := bd) (by omega) hG hg (hbn 1 (by omega)) (hbT 1) ?_
  refine nm_r e3 ⟨pk_in (r * 2 + 1) 34 (by omega), ?_⟩
  rw [nI_clamp (by omega)]
  refine nm_r hU.1 ?_
  refine y_evalTree (by omega) hR h0 hU (fun tv' t1 => ⟨pt_n R + 1, ?_⟩)
  have l47 : ∀ d i al nk nv na nb rs, i + d = pt_n R → yb_at R C i (pb_run R C tv bd i (K, V, A, B, fun _ => none)) a_alive a_nKind a_nVal a_nA a_nB al nk nv na nb rs → wY_apply_47 post (nI r) (nI Rn) (nI (r * 2 + 1)) (nI (pt_n R)) (d + 1) (nI i) f_maxNodes f_maxRules f_phase f_nCount (nI oc) f_apps f_ruleCount f_cex f_curLive f_orderN al nk nv na nb a_lv a_nd a_nv a_outs a_tKind a_tVal a_tA a_tB a_tN a_preRel a_preJ a_preK a_ruleUse a_pend a_pendN tv' cv' mx' par' a_mp rs a_bnd a_order a_stk a_stSt := by
    intro d
    induction d with
    | zero =>
      intro i al nk nv na nb rs hi hb
      have ei : i = pt_n R := by omega
      subst ei
      rw [← hs] at hb
      refine pk_le (pt_n R) (pt_n R) (fun _ => ?_) (fun h => absurd h (by omega))
      refine pk_le (pt_n R) 0 (fun h => absurd h (by omega)) (fun _ => pk_lt 8 (pt_n R) (fun h => absurd h (by omega)) (fun _ => ?_))
      rw [pr_s1 h0]
      refine ⟨pk_in (pt_n R - 1) 8 (by omega), ?_⟩
      rw [nI_clamp (by omega), hb.2.2.2 (pt_n R - 1) (by omega) (pr_root_ns hRf), hy]
      refine br_t (nI_pos' (n := y) (by omega)) ⟨33, ?_⟩
      refine y_app294 (K1 := s.1) (V1 := s.2.1) (A1 := s.2.2.1) (B1 := s.2.2.2.1) hRn hK1 hb.1 hb.2.1 (fun na' nb' k1 k2 => ⟨oc + 1, ?_⟩) 32 0 na nb (by omega) (fun n hn => absurd hn (by omega)) (fun n _ => ⟨rfl, rfl⟩)
      refine y_app412 hoc hRn hO (fun ou o1 o2 => ?_) oc 0 _ (by omega) (fun k hk => absurd hk (by omega)) (fun k _ => rfl)
      have hinr : vp_in (nI r) 16 := pk_in r 16 hr
      refine y_deleteDead (O := pa_O Rn y oc O) (L := L2) hG2 k1 hb.1 hoc (fun k hk => ⟨hO2 k hk, o1 k hk⟩) hL2 (fun al' lv' a1 a2 => ⟨hinr, hinr, ?_⟩)
      rw [nI_clamp (by omega)]
      refine nm_e (nm_e (h al' nk nv na' nb' ou lv' cv' mx' par' tv' rs k1 a1 (fun n hn => ?_) o1 o2))
      have := hb.2.2.1 n hn
      rw [a2 n hn, (k2 n hn).1, (k2 n hn).2]
      exact this
    | succ d ih =>
      intro i al nk nv na nb rs hi hb
      have hi' : i < pt_n R := by omega
      obtain ⟨k1, _⟩ := hU.2 i hi'
      have hin8 : vp_in (nI i) 8 := pk_in i 8 (by omega)
      have hci : (nI i).toNatClampNeg = i := nI_clamp (by omega)
      refine pk_le (pt_n R) i (fun h => absurd h (by omega)) (fun _ => pk_le 8 i (fun h => absurd h (by omega)) (fun _ => ?_))
      refine nm_r (nx_8 (r * 2 + 1) i) ⟨pk_in ((r * 2 + 1) * 8 + i) 272 (by omega), ?_⟩
      rw [nI_clamp (n := (r * 2 + 1) * 8 + i) (by omega)]
      refine nm_r k1 ⟨hin8, ?_⟩
      rw [hci, c1 i hi', c2 i hi']
      have go : ¬ pb_sk R C i → wY_apply_111 post (wY_apply_47 post (nI r) (nI Rn) (nI (r * 2 + 1)) (nI (pt_n R)) (d + 1)) (nI r) (nI Rn) (nI (r * 2 + 1)) (nI (pt_n R)) (nI i) (nI ((r * 2 + 1) * 8 + i)) (nI (pt_k R i)) f_maxNodes f_maxRules f_phase f_nCount (nI oc) f_apps f_ruleCount f_cex f_curLive f_orderN al nk nv na nb a_lv a_nd a_nv a_outs a_tKind a_tVal a_tA a_tB a_tN a_preRel a_preJ a_preK a_ruleUse a_pend a_pendN tv' cv' mx' par' a_mp rs a_bnd a_order a_stk a_stSt := fun hsk =>
        y_app111 (tv := tv) (bd := bd) hr hR h14 hi' hU c1 (fun q hq => by rw [t1 q hq, htv]) hbn hsk (hfx i (by omega)) (hfr i hi') hb (fun al' nk' nv' na' nb' rs' hb' => ih (i + 1) al' nk' nv' na' nb' rs' (by omega) hb')
      refine br_c (fun z0 => go fun hsk => ?_) (fun z0 => ⟨hin8, br_c (fun z1 => ⟨hin8, ?_⟩) (fun z1 => go fun hsk => ?_)⟩)
      · have := (pr_b0 _).mp z0
        rw [hsk.1] at this
        cases this
      · have hc : pt_cv R C i = true := by
          cases hx : pt_cv R C i with
          | true => rfl
          | false => rw [hx] at z0; exact absurd rfl z0
        have hsk : pt_cv R C i = true ∧ pt_mx R C i = false := ⟨hc, (pr_b0 _).mp z1⟩
        refine nm_e (nm_r (nI_1 _) (ih (i + 1) al nk nv na nb _ (by omega) ?_))
        show yb_at R C (i + 1) (pb_st R C tv bd i (pb_run R C tv bd i (K, V, A, B, fun _ => none))) a_alive a_nKind a_nVal a_nA a_nB al nk nv na nb (upd rs i (-1))
        unfold pb_st
        rw [if_pos hsk]
        refine ⟨hb.1, hb.2.1, hb.2.2.1, fun q hq hq' => ?_⟩
        have e : q ≠ i := fun e => hq' (by rw [e]; exact hsk)
        rw [pk_un e]
        exact hb.2.2.2 q (by omega) hq'
      · rw [hsk.2] at z1
        exact z1 rfl
  exact l47 (pt_n R) 0 _ _ _ _ _ _ (by omega) ⟨hal, hg, fun n _ => ⟨rfl, rfl, rfl, rfl, rfl⟩, fun q hq => absurd hq (by omega)⟩
end YX
end
section
/-! one search, pure -/
def sr_m (mN : Nat) (P R : Nat → pr_PT) (rl rj rK : Nat → Nat) (K : Nat → Nat) (V : Nat → Int32) (A B : Nat → Option Nat) (us : Nat → Nat) (ln r n : Nat) : Option pm_S :=
  if ln + pt_rm (R r) (pt_has (P r) 14) ≤ mN then (match pm_run K V A B us (P r) (pt_n (P r)) (fun _ => n, fun _ => none) with
    | none => none
    | some s => if pr_ph (rl r) (rj r) (rK r) (by_v K V s.2 0) (by_v K V s.2 1) = true then some s else none) else none
def sr_f (rc : Nat) (L : List Nat) (m : Nat → Nat → Option pm_S) (i r : Nat) (s : pm_S) : Prop := i < L.length ∧ r < rc ∧ m r (L.getD i 0) = some s ∧ (∀ i' r', i' < i → r' < rc → m r' (L.getD i' 0) = none) ∧ ∀ r', r' < r → m r' (L.getD i 0) = none
def sr_0 (rc : Nat) (L : List Nat) (m : Nat → Nat → Option pm_S) : Prop := ∀ i r, i < L.length → r < rc → m r (L.getD i 0) = none
theorem sr_u {rc : Nat} {L : List Nat} {m : Nat → Nat → Option pm_S} {i r i' r' : Nat} {s s' : pm_S} (h : sr_f rc L m i r s) (h' : sr_f rc L m i' r' s') : i = i' ∧ r = r' ∧ s = s' := by
  obtain ⟨h1, h2, h3, h4, h5⟩ := h
  obtain ⟨k1, k2, k3, k4, k5⟩ := h'
  have e : i = i' := by
    apply Classical.byContradiction
    intro hne
    by_cases hl : i < i'
    · have := k4 i r hl h2
      rw [h3] at this
      cases this
    · have := h4 i' r' (by omega) k2
      rw [k3] at this
      cases this
  subst e
  have e2 : r = r' := by
    apply Classical.byContradiction
    intro hne
    by_cases hl : r < r'
    · have := k5 r hl
      rw [h3] at this
      cases this
    · have := h5 r' (by omega)
      rw [k3] at this
      cases this
  subst e2
  rw [h3] at k3
  exact ⟨rfl, rfl, Option.some.inj k3⟩
theorem sr_0f {rc : Nat} {L : List Nat} {m : Nat → Nat → Option pm_S} {i r : Nat} {s : pm_S} (h : sr_f rc L m i r s) (h0 : sr_0 rc L m) : False := by
  have := h0 i r h.1 h.2.1
  rw [h.2.2.1] at this
  cases this
theorem pr_ph_0 {rl rj rK : Nat} {v0 v1 : Int32} (e : rl = 0) : pr_ph rl rj rK v0 v1 = true := by
  unfold pr_ph
  rw [if_neg (by omega), if_neg (by omega), if_neg (by omega), if_neg (by omega)]
theorem pr_ph_eq {rl rj rK : Nat} {v0 v1 w0 w1 : Int32} (h : rl ≠ 0 → (rj = 0 → v0 = w0) ∧ (rj ≠ 0 → v1 = w1)) : pr_ph rl rj rK v0 v1 = pr_ph rl rj rK w0 w1 := by
  by_cases e : rl = 0
  · rw [pr_ph_0 e, pr_ph_0 e]
  · obtain ⟨h0, h1⟩ := h e
    unfold pr_ph
    by_cases ej : rj = 0
    · rw [if_pos ej, if_pos ej, h0 ej]
    · rw [if_neg ej, if_neg ej, h1 ej]
/-- a matched CVAR is bound to a CONST -/
theorem pm_cv {K : Nat → Nat} {V : Nat → Int32} {A B : Nat → Option Nat} {us : Nat → Nat} {P : pr_PT} {R : Nat} {s : pm_S} (h : pm_inv K V A B us P R 0 s) {j : Nat} (hj : pt_has P 14 j = true) : ∃ d, s.2 j = some d ∧ K d = 11 := by
  obtain ⟨p, p1, p2, p3⟩ := pt_has_t.mp hj
  have := (h.2.1 p (by omega) p1).2.2.1 (by omega)
  rw [p3] at this
  exact ⟨_, this.1, this.2 p2⟩
theorem bxy {K : Nat → Nat} {V : Nat → Int32} {bd : Nat → Option Nat} {j : Nat} (h : ∃ d, bd j = some d ∧ K d = 11) : bx_v V bd j = by_v K V bd j := by
  obtain ⟨d, h1, h2⟩ := h
  unfold bx_v by_v
  rw [h1]
  show V d = if K d = 11 then V d else 0
  rw [if_pos h2]
theorem by_by {K : Nat → Nat} {V : Nat → Int32} {A B : Nat → Option Nat} {rk : Nat → Nat} {bd : Nat → Option Nat} (hG : pr_gw 0 K V A B rk) (hT : ∀ j d, bd j = some d → pr_T 0 K d) (j : Nat) : pr_by (by_v K V bd j) := by
  unfold by_v
  cases e : bd j with
  | none => exact pr_by_0
  | some d =>
    show pr_by (if K d = 11 then V d else 0)
    by_cases h : K d = 11
    · rw [if_pos h]
      exact (hG d (hT j d e)).2.2.1
    · rw [if_neg h]
      exact pr_by_0
theorem pr_ct_len {K : Nat → Nat} {L : List Nat} (nd : L.Nodup) (hL : ∀ x, x ∈ L ↔ pr_T 0 K x) : pr_ct K = L.length := by
  have e := pr_rs_list (w := fun _ => 1) (lo := 0) (n := 32) nd (fun x hx => ⟨((hL x).mp hx).1, ((hL x).mp hx).2.1⟩)
  have e2 : pr_sm (fun _ => 1) L = L.length := by
    clear e nd hL
    induction L with
    | nil => rfl
    | cons x L ih =>
      show 1 + pr_sm (fun _ => 1) L = L.length + 1
      rw [ih]
      omega
  rw [← e2, ← e]
  refine pr_rs_congr fun x _ hx => ?_
  show (if K x = 0 then 0 else 1) = (if x ∈ L then 1 else 0)
  by_cases h : K x = 0
  · rw [if_pos h, if_neg (fun hh => ((hL x).mp hh).2.2 h)]
  · rw [if_neg h, if_pos ((hL x).mpr ⟨by omega, by omega, h⟩)]
theorem pr_us_le {A B : Nat → Option Nat} {O : Nat → Nat} {L : List Nat} {oc d : Nat} (hl : L.length ≤ 32) (hoc : oc ≤ 4) : pr_us A B O L oc d < 2 ^ 31 := by
  have h1 : pr_sm (pr_e1 A B d) L ≤ L.length * 2 := pr_sm_len (fun x => by
    unfold pr_e1
    by_cases ha : A x = some d
    · rw [if_pos ha]
      by_cases hb : B x = some d
      · rw [if_pos hb]
        omega
      · rw [if_neg hb]
        omega
    · rw [if_neg ha]
      by_cases hb : B x = some d
      · rw [if_pos hb]
        omega
      · rw [if_neg hb]
        omega) L
  have h2 : pr_rs (fun k => if O k = d then 1 else 0) 0 oc ≤ oc * 1 := pr_rs_bound (fun x _ _ => by
    show (if O x = d then 1 else 0) ≤ 1
    by_cases h : O x = d
    · rw [if_pos h]
      omega
    · rw [if_neg h]
      omega)
  show pr_sm (pr_e1 A B d) L + pr_rs (fun k => if O k = d then 1 else 0) 0 oc < 2 ^ 31
  omega
section ST
variable {mN : Nat} {mR : Nat} {rc : Nat} {ph : Nat} {nc : Nat} {oc : Nat} {cx : Int32} {ap : Int32} {P : Nat → pr_PT} {R : Nat → pr_PT} {rl : Nat → Nat} {rj : Nat → Nat} {rK : Nat → Nat} {uc : Nat → Int32} {D : Nat → pr_PT} {ps : Nat → Nat → Nat} {dc : Nat → Nat} {dl : Nat} {dj : Nat} {dk : Nat} {K : Nat → Nat} {V : Nat → Int32} {A : Nat → Option Nat} {B : Nat → Option Nat} {O : Nat → Nat}
def sr_tv (R : pr_PT) (K : Nat → Nat) (V : Nat → Int32) (bd : Nat → Option Nat) : Nat → Int32 := pt_tv R (by_v K V bd 0) (by_v K V bd 1)
def sr_b (P R : pr_PT) (K : Nat → Nat) (V : Nat → Int32) (A B : Nat → Option Nat) (bd : Nat → Option Nat) (i : Nat) : pb_S := pb_run R (pt_has P 14) (sr_tv R K V bd) bd i (K, V, A, B, fun _ => none)
/-- all that one application needs and gives -/
theorem st_all (hok : sp_ok mN mR rc ph nc oc cx ap P R rl rj rK uc D ps dc dl dj dk K V A B O) (hph : ph = 1) {L : List Nat} {us : Nat → Nat} (hL : L = pr_lv A B O 0 oc) (hus : us = pr_us A B O L oc) {r n : Nat} {s : pm_S} (hr : r < rc) (tn : pr_T 0 K n) (hm : sr_m mN P R rl rj rK K V A B us L.length r n = some s) :
    ∃ y rk2, (sr_b (P r) (R r) K V A B s.2 (pt_n (R r))).2.2.2.2 (pt_n (R r) - 1) = some y ∧ y < 32 ∧
      pm_run K V A B us (P r) (pt_n (P r)) (fun _ => n, fun _ => none) = some s ∧ pm_inv K V A B us (P r) n 0 s ∧
      (∀ i, i ≤ pt_n (R r) → pb_fx (R r) (pt_has (P r) 14) i (sr_b (P r) (R r) K V A B s.2 i)) ∧ (∀ i, i < pt_n (R r) → pb_fr (R r) (pt_has (P r) 14) i (sr_b (P r) (R r) K V A B s.2 i)) ∧
      (∀ x, pr_T 0 (sr_b (P r) (R r) K V A B s.2 (pt_n (R r))).1 x → (sr_b (P r) (R r) K V A B s.2 (pt_n (R r))).1 x ≤ 12 ∧ (11 ≤ (sr_b (P r) (R r) K V A B s.2 (pt_n (R r))).1 x → (sr_b (P r) (R r) K V A B s.2 (pt_n (R r))).2.2.1 x = none) ∧ (9 ≤ (sr_b (P r) (R r) K V A B s.2 (pt_n (R r))).1 x → (sr_b (P r) (R r) K V A B s.2 (pt_n (R r))).2.2.2.1 x = none) ∧ ∀ c, ((sr_b (P r) (R r) K V A B s.2 (pt_n (R r))).2.2.1 x = some c ∨ (sr_b (P r) (R r) K V A B s.2 (pt_n (R r))).2.2.2.1 x = some c) → c < 32) ∧
      pr_gw 0 (sr_b (P r) (R r) K V A B s.2 (pt_n (R r))).1 (sr_b (P r) (R r) K V A B s.2 (pt_n (R r))).2.1 (pa_A n y (sr_b (P r) (R r) K V A B s.2 (pt_n (R r))).2.2.1) (pa_A n y (sr_b (P r) (R r) K V A B s.2 (pt_n (R r))).2.2.2.1) rk2 ∧ (∀ k, k < oc → pr_T 0 (sr_b (P r) (R r) K V A B s.2 (pt_n (R r))).1 (pa_O n y oc O k)) ∧
      (∀ x, 32 ≤ x → (sr_b (P r) (R r) K V A B s.2 (pt_n (R r))).1 x = K x ∧ (K x ≠ 0 → (sr_b (P r) (R r) K V A B s.2 (pt_n (R r))).2.1 x = V x ∧ (sr_b (P r) (R r) K V A B s.2 (pt_n (R r))).2.2.1 x = A x ∧ (sr_b (P r) (R r) K V A B s.2 (pt_n (R r))).2.2.2.1 x = B x)) ∧
      ∀ L2, L2 = pr_lv (pa_A n y (sr_b (P r) (R r) K V A B s.2 (pt_n (R r))).2.2.1) (pa_A n y (sr_b (P r) (R r) K V A B s.2 (pt_n (R r))).2.2.2.1) (pa_O n y oc O) 0 oc →
        pr_W (pa_K L2 (sr_b (P r) (R r) K V A B s.2 (pt_n (R r))).1) < pr_W K ∧
        ∀ ap' uc', sp_ok mN mR rc ph nc oc cx ap' P R rl rj rK uc' D ps dc dl dj dk (pa_K L2 (sr_b (P r) (R r) K V A B s.2 (pt_n (R r))).1) ((sr_b (P r) (R r) K V A B s.2 (pt_n (R r))).2.1) (pa_A n y (sr_b (P r) (R r) K V A B s.2 (pt_n (R r))).2.2.1) (pa_A n y (sr_b (P r) (R r) K V A B s.2 (pt_n (R r))).2.2.2.1) (pa_O n y oc O) := by
  obtain ⟨o1, o2, o3, o4, o5, o6, o7, o8, o9, rk, rk', q1, q2, q3, q4⟩ := hok
  obtain ⟨q5, q6, q7⟩ := q4 hph
  obtain ⟨w1, w2, w3, w4, w5, w6, w7, w8, w9, w10, w11⟩ := o8 r hr
  have hlk := pr_lv_ok (O := O) (ob := 0) (pr_gw_T q1) (pr_gw_r q1) oc (fun k hk => by rw [Nat.zero_add]; exact q2 k hk)
  rw [← hL] at hlk q7
  have hiff : ∀ x, x ∈ L ↔ pr_T 0 K x := fun x => ⟨fun h => (hlk.2.2.2 x h).1, q7 x⟩
  have hctl := pr_ct_len hlk.1 hiff
  unfold sr_m at hm
  by_cases hroom : L.length + pt_rm (R r) (pt_has (P r) 14) ≤ mN
  · rw [if_pos hroom] at hm
    cases hrun : pm_run K V A B us (P r) (pt_n (P r)) (fun _ => n, fun _ => none) with
    | none =>
      rw [hrun] at hm
      cases hm
    | some s1 =>
      rw [hrun] at hm
      replace hm : (if pr_ph (rl r) (rj r) (rK r) (by_v K V s1.2 0) (by_v K V s1.2 1) = true then some s1 else none) = some s := hm
      have es : s1 = s := by
        by_cases hp : pr_ph (rl r) (rj r) (rK r) (by_v K V s1.2 0) (by_v K V s1.2 1) = true
        · rw [if_pos hp] at hm
          exact Option.some.inj hm
        · rw [if_neg hp] at hm
          cases hm
      subst es
      have hinv := pm_run_ok w1 w2 q1 (Nat.le_refl _) (pm_inv0 (V := V) (A := A) (B := B) (us := us) w2 tn) hrun
      have hbT : ∀ j d, s1.2 j = some d → pr_T 0 K d := fun j d hd => pm_bd hinv hd
      have htvb : ∀ q, q < pt_n (R r) → pr_by (sr_tv (R r) K V s1.2 q) := pt_tv_by w4 (by_by q1 hbT 0) (by_by q1 hbT 1)
      have hct : pr_ct K + pt_rm (R r) (pt_has (P r) 14) ≤ 32 := by omega
      have hinv' : pm_inv K V A B us (P r) n 0 (s1.1, s1.2) := hinv
      obtain ⟨Lo, β, hall⟩ := pa_inv (tv := sr_tv (R r) K V s1.2) q1 w1 w2 w3 w4 w6 w7 hinv' hct htvb
      obtain ⟨y, rk2, y1, y2, y3, y4, y5, y6⟩ := pa_ok (tv := sr_tv (R r) K V s1.2) q1 q7 q2 hus w1 w2 w3 w4 w5 w6 w7 hinv' hct htvb w10 rfl
      refine ⟨y, rk2, y1, y2, rfl, hinv, fun i hi => ?_, fun i hi => ?_, fun x hx => ?_, y4, y5, y3, fun L2 hL2 => ?_⟩
      · obtain ⟨ρ, h⟩ := hall i hi
        exact pb_fx_of q1 h
      · obtain ⟨ρ, h⟩ := hall i (by omega)
        exact pb_fr_of hct hi h
      · obtain ⟨ρ, i1, i2, i3, i4, i5⟩ := hall (pt_n (R r)) (Nat.le_refl _)
        by_cases hK : K x = 0
        · obtain ⟨_, g1, g2, g3, g4, g5, g6, g7, g8, g9⟩ := i2 x hK hx.2.2
          refine ⟨?_, g4, g5, fun c hc => ?_⟩
          · exact Nat.le_trans g1 (by omega)
          · have := (g9 c hc).1.2.1
            omega
        · obtain ⟨a1, a2, a3, a4, a5⟩ := i1 x hK
          obtain ⟨g1, g2, g3, g4, g5, g6, g7, g8, g9, g10⟩ := q1 x ⟨hx.1, hx.2.1, hK⟩
          have b1 : (sr_b (P r) (R r) K V A B s1.2 (pt_n (R r))).1 x = K x := a1
          have b3 : (sr_b (P r) (R r) K V A B s1.2 (pt_n (R r))).2.2.1 x = A x := a3
          have b4 : (sr_b (P r) (R r) K V A B s1.2 (pt_n (R r))).2.2.2.1 x = B x := a4
          rw [b1, b3, b4]
          refine ⟨g1, g6, g7, fun c hc => ?_⟩
          have := (g10 c hc).1.2.1
          omega
      · obtain ⟨z1, z2, z3, z4⟩ := y6 L2 hL2
        refine ⟨z3, fun ap' uc' => ⟨o1, o2, o3, o4, o5, o6, o7, o8, o9, rk2, rk', z1, z2, fun h => absurd h (by omega), fun _ => ⟨?_, fun k hk => ?_, fun x hx => ?_⟩⟩⟩
        · intro x hx
          have hx32 : 32 ≤ x := hx.1
          have eK : ∀ z, 32 ≤ z → pa_K L2 (sr_b (P r) (R r) K V A B s1.2 (pt_n (R r))).1 z = K z := by
            intro z hz
            unfold pa_K
            rw [if_neg (fun hh => absurd hh.1 (by omega))]
            exact (y3 z hz).1
          have hKx : K x ≠ 0 := by
            have := hx.2.2
            rw [eK x hx32] at this
            exact this
          obtain ⟨v1, v2, v3⟩ := (y3 x hx32).2 hKx
          have eA : pa_A n y (sr_b (P r) (R r) K V A B s1.2 (pt_n (R r))).2.2.1 x = A x := by
            unfold pa_A
            rw [if_neg (by omega)]
            exact v2
          have eB : pa_A n y (sr_b (P r) (R r) K V A B s1.2 (pt_n (R r))).2.2.2.1 x = B x := by
            unfold pa_A
            rw [if_neg (by omega)]
            exact v3
          have eV : (sr_b (P r) (R r) K V A B s1.2 (pt_n (R r))).2.1 x = V x := v1
          rw [eK x hx32, eA, eB, eV]
          obtain ⟨g1, g2, g3, g4, g5, g6, g7, g8, g9, g10⟩ := q5 x ⟨hx.1, hx.2.1, hKx⟩
          refine ⟨g1, g2, g3, g4, g5, g6, g7, g8, g9, fun c hc => ?_⟩
          have := g10 c hc
          exact ⟨⟨this.1.1, this.1.2.1, by rw [eK c this.1.1]; exact this.1.2.2⟩, this.2⟩
        · have hq := q6 k hk
          have e : pa_O n y oc O (4 + k) = O (4 + k) := by
            unfold pa_O
            rw [if_neg (fun hh => absurd hh.1 (by omega))]
          rw [e]
          refine ⟨hq.1, hq.2.1, ?_⟩
          unfold pa_K
          rw [if_neg (fun hh => absurd hh.1 (by have := hq.1; omega))]
          have := (y3 (O (4 + k)) hq.1).1
          intro h0
          rw [show (sr_b (P r) (R r) K V A B s1.2 (pt_n (R r))).1 (O (4 + k)) = K (O (4 + k)) from this] at h0
          exact hq.2.2 h0
        · rw [← hL2]
          exact z4 x hx
  · rw [if_neg hroom] at hm
    cases hm
end ST
end
section
/-! X: one search -/
theorem gr_next {K K1 : Nat → Nat} {V V1 : Nat → Int32} {A B A1 B1 : Nat → Option Nat} {L2 : List Nat} {n y : Nat} {nk0 nv0 na0 nb0 nk nv na nb : Nat → Int32} (h32 : gr_at 32 K V A B nk0 nv0 na0 nb0) (hk : ∀ x, 32 ≤ x → nk x = nk0 x ∧ nv x = nv0 x ∧ na x = na0 x ∧ nb x = nb0 x) (h3 : ∀ x, 32 ≤ x → K1 x = K x ∧ (K x ≠ 0 → V1 x = V x ∧ A1 x = A x ∧ B1 x = B x)) :
    gr_at 32 (pa_K L2 K1) V1 (pa_A n y A1) (pa_A n y B1) nk nv na nb := by
  intro x hx
  have hx32 : 32 ≤ x := hx.1
  have eK : pa_K L2 K1 x = K x := by
    unfold pa_K
    rw [if_neg (fun hh => absurd hh.1 (by omega))]
    exact (h3 x hx32).1
  have hKx : K x ≠ 0 := by
    have := hx.2.2
    rw [eK] at this
    exact this
  obtain ⟨v1, v2, v3⟩ := (h3 x hx32).2 hKx
  have eA : pa_A n y A1 x = A x := by
    unfold pa_A
    rw [if_neg (by omega)]
    exact v2
  have eB : pa_A n y B1 x = B x := by
    unfold pa_A
    rw [if_neg (by omega)]
    exact v3
  obtain ⟨a1, a2, a3, a4⟩ := hk x hx32
  rw [eK, eA, eB, v1, a1, a2, a3, a4]
  exact h32 x ⟨hx.1, hx.2.1, hKx⟩
theorem gr_pa {K1 : Nat → Nat} {V1 : Nat → Int32} {A1 B1 : Nat → Option Nat} {L2 : List Nat} {nk nv na nb : Nat → Int32} (h : gr_at 0 K1 V1 A1 B1 nk nv na nb) : gr_at 0 (pa_K L2 K1) V1 A1 B1 nk nv na nb := by
  intro x hx
  have h2 := hx.2.2
  have e : pa_K L2 K1 x = K1 x := by
    unfold pa_K at h2 ⊢
    by_cases hc : x < 32 ∧ x ∉ L2
    · rw [if_pos hc] at h2
      exact absurd rfl h2
    · rw [if_neg hc]
  rw [e] at h2 ⊢
  exact h x ⟨hx.1, hx.2.1, h2⟩
theorem pa_O4 {n y oc k : Nat} {O : Nat → Nat} (h : oc ≤ 4) : pa_O n y oc O (4 + k) = O (4 + k) := by
  unfold pa_O
  rw [if_neg (fun hh => absurd hh.1 (by omega))]
section XY
variable {f_maxNodes f_maxRules f_ruleCount f_counterexample f_optimized f_nodeCount f_outputCount f_applications : Int32} {a_preRelation a_preVariable a_preConstant a_roomNeeded a_useCount a_treeSize a_treeKind a_treeValue a_treeA a_treeB a_treeResult a_constantValued a_maximal a_counterpart a_boundNode a_pending a_pendingCount a_nodeKind a_nodeValue a_nodeA a_nodeB a_nodeResult a_nodeUses a_outputNode a_seen a_order a_walkStack : Nat → Int32}
variable {mN : Nat} {mR : Nat} {rc : Nat} {ph : Nat} {nc : Nat} {oc : Nat} {cx : Int32} {ap : Int32} {P : Nat → pr_PT} {R : Nat → pr_PT} {rl : Nat → Nat} {rj : Nat → Nat} {rK : Nat → Nat} {uc : Nat → Int32} {D : Nat → pr_PT} {ps : Nat → Nat → Nat} {dc : Nat → Nat} {dl : Nat} {dj : Nat} {dk : Nat} {K : Nat → Nat} {V : Nat → Int32} {A : Nat → Option Nat} {B : Nat → Option Nat} {O : Nat → Nat}
theorem rx_afm {u : SX} {post : Int32 → SX → Prop} (hok : sp_ok mN mR rc ph nc oc cx ap P R rl rj rK uc D ps dc dl dj dk K V A B O) (hph : ph = 1) (hx : rx mN mR rc ph nc oc cx ap P R rl rj rK uc D ps dc dl dj dk K V A B O u) {L : List Nat} {us : Nat → Nat} (hL : L = pr_lv A B O 0 oc) (hus : us = pr_us A B O L oc)
    (hno : sr_0 rc L (sr_m mN P R rl rj rK K V A B us L.length) → ∀ u', rx mN mR rc ph nc oc cx ap P R rl rj rK uc D ps dc dl dj dk K V A B O u' → post 0 u')
    (hy : ∀ i r s y L2, sr_f rc L (sr_m mN P R rl rj rK K V A B us L.length) i r s → (sr_b (P r) (R r) K V A B s.2 (pt_n (R r))).2.2.2.2 (pt_n (R r) - 1) = some y → L2 = pr_lv (pa_A (L.getD i 0) y (sr_b (P r) (R r) K V A B s.2 (pt_n (R r))).2.2.1) (pa_A (L.getD i 0) y (sr_b (P r) (R r) K V A B s.2 (pt_n (R r))).2.2.2.1) (pa_O (L.getD i 0) y oc O) 0 oc →
      ∀ u', rx mN mR rc ph nc oc cx (ap + 1) P R rl rj rK (pr_st uc r (uc r + 1)) D ps dc dl dj dk (pa_K L2 (sr_b (P r) (R r) K V A B s.2 (pt_n (R r))).1) ((sr_b (P r) (R r) K V A B s.2 (pt_n (R r))).2.1) (pa_A (L.getD i 0) y (sr_b (P r) (R r) K V A B s.2 (pt_n (R r))).2.2.1) (pa_A (L.getD i 0) y (sr_b (P r) (R r) K V A B s.2 (pt_n (R r))).2.2.2.1) (pa_O (L.getD i 0) y oc O) u' → post 1 u') : wpX_applyFirstMatch post u := by
  obtain ⟨f_maxNodes, f_maxRules, f_ruleCount, f_counterexample, f_optimized, f_nodeCount, f_outputCount, f_applications, a_preRelation, a_preVariable, a_preConstant, a_roomNeeded, a_useCount, a_treeSize, a_treeKind, a_treeValue, a_treeA, a_treeB, a_treeResult, a_constantValued, a_maximal, a_counterpart, a_boundNode, a_pending, a_pendingCount, a_nodeKind, a_nodeValue, a_nodeA, a_nodeB, a_nodeResult, a_nodeUses, a_outputNode, a_seen, a_order, a_walkStack⟩ := u
  obtain ⟨e1, e2, e3, e4, e5, e6, e7, e8, h9, h10, h11, h12⟩ := hx
  subst e1 e2 e3 e4 e5 e6 e7 e8
  have hok' := hok
  obtain ⟨o1, o2, o3, o4, o5, o6, o7, o8, o9, rk, rk', q1, q2, q3, q4⟩ := hok
  obtain ⟨q5, q6, q7⟩ := q4 hph
  have hlk := pr_lv_ok (O := O) (ob := 0) (pr_gw_T q1) (pr_gw_r q1) oc (fun k hk => by rw [Nat.zero_add]; exact q2 k hk)
  rw [← hL] at hlk q7
  have hLT : ∀ x, x ∈ L → pr_T 0 K x := fun x hx => (hlk.2.2.2 x hx).1
  have hlen := pr_len (lo := 0) (n := 32) hlk.1 (fun x hx => ⟨(hLT x hx).1, (hLT x hx).2.1⟩)
  have hO : ∀ k, k < oc → pr_T 0 K (O k) ∧ a_outputNode k = nI (O k) := fun k hk => ⟨q2 k hk, h12.2.1 k hk⟩
  unfold wpX_applyFirstMatch
  refine x_listLive (lo := 0) (g := 0) (O := O) (by omega) q1 h12.1 (by omega) o7 (gr_0 h12 q2) (fun se od st k1 k2 => ?_)
  rw [show pr_lv A B O (0 * 4) oc = L from hL.symm] at k1 k2 ⊢
  refine x_delete (L := L) k1 (fun nk nv na nb d1 d2 => ?_)
  have gr0 : gr_at 0 K V A B nk nv na nb := by
    intro n hn
    obtain ⟨z1, z2, z3, z4⟩ := d2 n (Or.inl (q7 n hn))
    rw [z1, z2, z3, z4]
    exact h12.1 n hn
  have gr32 : gr_at 32 K V A B nk nv na nb := by
    intro n hn
    obtain ⟨z1, z2, z3, z4⟩ := d2 n (Or.inr hn.1)
    rw [z1, z2, z3, z4]
    exact (h12.2.2 hph).1 n hn
  have hk32 : ∀ n, n < 32 → nk n = nI (K n) := by
    intro n hn
    by_cases hz : K n = 0
    · rw [hz]
      exact d1 n hn fun hl => (hLT n hl).2.2 hz
    · exact (gr0 n ⟨by omega, by omega, hz⟩).1
  have hall : ∀ (nu se od st cp bn : Nat → Int32), rx mN mR rc ph nc oc f_counterexample f_applications P R rl rj rK uc D ps dc dl dj dk K V A B O ((nI mN), (nI mR), (nI rc), f_counterexample, (nI ph), (nI nc), (nI oc), f_applications, a_preRelation, a_preVariable, a_preConstant, a_roomNeeded, a_useCount, a_treeSize, a_treeKind, a_treeValue, a_treeA, a_treeB, a_treeResult, a_constantValued, a_maximal, cp, bn, a_pending, a_pendingCount, nk, nv, na, nb, a_nodeResult, nu, a_outputNode, se, od, st) := fun nu se od st cp bn => ⟨rfl, rfl, rfl, rfl, rfl, rfl, rfl, rfl, h9, h10, h11, gr0, h12.2.1, fun hp => ⟨gr32, (h12.2.2 hp).2⟩⟩
  refine x_countUses (L := L) (O := O) q1 gr0 hlk o7 hO k2 (fun nu n1 => ⟨L.length + 1, ?_⟩)
  rw [← hus] at n1
  have hub : ∀ d, us d < 2 ^ 31 := fun d => by
    rw [hus]
    exact pr_us_le hlen o7
  have l17 : ∀ d i cp bn, i + d = L.length → (∀ i' r', i' < i → r' < rc → sr_m mN P R rl rj rK K V A B us L.length r' (L.getD i' 0) = none) → wX_applyFirstMatch_17 post (nI L.length) (d + 1) (nI i) (nI mN) (nI mR) (nI rc) f_counterexample (nI ph) (nI nc) (nI oc) f_applications a_preRelation a_preVariable a_preConstant a_roomNeeded a_useCount a_treeSize a_treeKind a_treeValue a_treeA a_treeB a_treeResult a_constantValued a_maximal cp bn a_pending a_pendingCount nk nv na nb a_nodeResult nu a_outputNode se od st := by
    intro d
    induction d with
    | zero =>
      intro i cp bn hi hh
      exact pk_le L.length i (fun _ => hno (fun i' r' a b => hh i' r' (by omega) b) _ (hall nu se od st cp bn)) (fun h => absurd h (by omega))
    | succ d ih =>
      intro i cp bn hi hh
      have hi' : i < L.length := by omega
      have tn := hLT _ (pr_gd_m hi')
      have tn2 := tn.2.1
      refine pk_le L.length i (fun h => absurd h (by omega)) (fun _ => ⟨pk_in i 32 (by omega), ?_⟩)
      rw [nI_clamp (by omega)]
      refine nm_r (k2 i hi') ⟨rc + 1, ?_⟩
      have l32 : ∀ d' r cp bn, r + d' = rc → (∀ r', r' < r → sr_m mN P R rl rj rK K V A B us L.length r' (L.getD i 0) = none) → wX_applyFirstMatch_32 post (wX_applyFirstMatch_17 post (nI L.length) (d + 1)) (nI L.length) (nI i) (nI (L.getD i 0)) (d' + 1) (nI r) (nI mN) (nI mR) (nI rc) f_counterexample (nI ph) (nI nc) (nI oc) f_applications a_preRelation a_preVariable a_preConstant a_roomNeeded a_useCount a_treeSize a_treeKind a_treeValue a_treeA a_treeB a_treeResult a_constantValued a_maximal cp bn a_pending a_pendingCount nk nv na nb a_nodeResult nu a_outputNode se od st := by
        intro d'
        induction d' with
        | zero =>
          intro r cp bn hr hr0
          refine pk_le rc r (fun _ => nm_r (nI_1 _) (ih (i + 1) cp bn (by omega) fun i' r' a b => ?_)) (fun h => absurd h (by omega))
          by_cases e : i' = i
          · subst e
            exact hr0 r' (by omega)
          · exact hh i' r' (by omega) b
        | succ d' ih' =>
          intro r cp bn hr hr0
          have hrr : r < rc := by omega
          obtain ⟨⟨x1, x2, x3, x4, x5⟩, x6, x7⟩ := h9 r hrr
          obtain ⟨w1, w2, w3, w4, w5, w6, w7, w8, w9, w10, w11⟩ := o8 r hrr
          have nx : ∀ cp bn, sr_m mN P R rl rj rK K V A B us L.length r (L.getD i 0) = none → wX_applyFirstMatch_32 post (wX_applyFirstMatch_17 post (nI L.length) (d + 1)) (nI L.length) (nI i) (nI (L.getD i 0)) (d' + 1) (nI (r + 1)) (nI mN) (nI mR) (nI rc) f_counterexample (nI ph) (nI nc) (nI oc) f_applications a_preRelation a_preVariable a_preConstant a_roomNeeded a_useCount a_treeSize a_treeKind a_treeValue a_treeA a_treeB a_treeResult a_constantValued a_maximal cp bn a_pending a_pendingCount nk nv na nb a_nodeResult nu a_outputNode se od st := by
            intro cp bn hm
            refine ih' (r + 1) cp bn (by omega) fun r' hr' => ?_
            by_cases e : r' = r
            · rw [e]
              exact hm
            · exact hr0 r' (by omega)
          have hrm : pt_rm (R r) (pt_has (P r) 14) ≤ 8 := by
            have h8 := w4.1
            have : pt_rm (R r) (pt_has (P r) 14) ≤ pt_n (R r) * 1 := pr_rs_bound (fun x _ _ => by
              unfold pt_rm1
              by_cases hx : pt_cv (R r) (pt_has (P r) 14) x = false ∨ pt_mx (R r) (pt_has (P r) 14) x = true ∧ pt_k (R r) x ≠ 13
              · rw [if_pos hx]
                omega
              · rw [if_neg hx]
                omega)
            omega
          refine pk_le rc r (fun h => absurd h (by omega)) (fun _ => ⟨pk_in r 17 (by omega), ?_⟩)
          rw [nI_clamp (n := r) (by omega), x5, nI_add]
          refine pk_lt mN (L.length + pt_rm (R r) (pt_has (P r) 14)) (fun hl => nm_r (nI_1 _) (nx cp bn ?_)) (fun hl => ?_)
          · unfold sr_m
            rw [if_neg (by omega)]
          · refine x_matches (us := us) (Rn := L.getD i 0) (rl := rl r) (rj := rj r) (rK := rK r) (by omega) w1 w2 q1 gr0 x1 (fun d hd => ⟨n1 d (q7 d hd), hub d⟩) w8 (fun h => (w9 h).1) x6 tn (fun hrun cp' bn' => br_t rfl (nm_r (nI_1 _) (nx cp' bn' ?_))) (fun s' cp' bn' hrun hb => ?_)
            · unfold sr_m
              rw [if_pos hl, hrun]
            · have hinv := pm_run_ok w1 w2 q1 (Nat.le_refl _) (pm_inv0 (V := V) (A := A) (B := B) (us := us) w2 tn) hrun
              have hpe : pr_ph (rl r) (rj r) (rK r) (bx_v V s'.2 0) (bx_v V s'.2 1) = pr_ph (rl r) (rj r) (rK r) (by_v K V s'.2 0) (by_v K V s'.2 1) := by
                refine pr_ph_eq fun hl0 => ?_
                obtain ⟨j1, j2, j3⟩ := w9 hl0
                have hcv := bxy (V := V) (pm_cv hinv j3)
                refine ⟨fun e => ?_, fun e => ?_⟩
                · rw [e] at hcv
                  exact hcv
                · rw [show rj r = 1 by omega] at hcv
                  exact hcv
              rw [hpe]
              have hm : sr_m mN P R rl rj rK K V A B us L.length r (L.getD i 0) = (if pr_ph (rl r) (rj r) (rK r) (by_v K V s'.2 0) (by_v K V s'.2 1) = true then some s' else none) := by
                unfold sr_m
                rw [if_pos hl, hrun]
              refine br_c (fun z => nm_r (nI_1 _) (nx cp' bn' ?_)) (fun z => ?_)
              · rw [hm, (pr_b0 _).mp z]
                rfl
              · have hpt : pr_ph (rl r) (rj r) (rK r) (by_v K V s'.2 0) (by_v K V s'.2 1) = true := by
                  cases hx : pr_ph (rl r) (rj r) (rK r) (by_v K V s'.2 0) (by_v K V s'.2 1) with
                  | true => rfl
                  | false => rw [hx] at z; exact absurd rfl z
                rw [if_pos hpt] at hm
                have hsf : sr_f rc L (sr_m mN P R rl rj rK K V A B us L.length) i r s' := ⟨hi', hrr, hm, hh, hr0⟩
                obtain ⟨y, rk2, y1, y2, y3, y4, y5, y6, y7, y8, y9, y10, y11⟩ := st_all hok' hph hL hus hrr tn hm
                refine x_applyRule (K := K) (V := V) (A := A) (B := B) (O := O) (C := pt_has (P r) 14) (tv := sr_tv (R r) K V s'.2) (bd := s'.2) (y := y) (s := sr_b (P r) (R r) K V A B s'.2 (pt_n (R r))) (by omega) o7 (by omega) w4 w5 w6 x2 x3 x4 hb (fun j d hd => pm_bd hinv hd) gr0 hk32 (fun q hq hc => ?_) y5 rfl y1 y2 (fun n c hn hc => (y7 n hn).2.2.2 c hc) (fun k hk => ⟨by have := (q2 k hk).2.1; omega, (hO k hk).2⟩) (fun nk' nv' na' nb' ou' tr' cp'' g1 g2 g3 g4 => ?_)
                · exact pt_tv_c w4 w6 (fun h => bxy (pm_cv hinv h)) (fun h => bxy (pm_cv hinv h)) q hq hc
                · refine hy i r s' y _ hsf y1 rfl _ ⟨rfl, rfl, rfl, rfl, rfl, rfl, rfl, rfl, fun r' hr' => ⟨(h9 r' hr').1, (h9 r' hr').2.1, ?_⟩, h10, h11, gr_pa g1, g3, fun hp => ⟨gr_next gr32 g2 y10, fun k hk => ?_⟩⟩
                  · by_cases e : r' = r
                    · rw [e, pk_us, pr_st_s, x7]
                    · rw [pk_un e, pr_st_n e]
                      exact (h9 r' hr').2.2
                  · rw [pa_O4 o7, g4 (4 + k) (by omega)]
                    exact (h12.2.2 hp).2 k hk
      exact l32 rc 0 cp bn (by omega) (fun r' h => absurd h (by omega))
  exact l17 L.length 0 _ _ (by omega) (fun i' r' h => absurd h (by omega))
end XY
end
section
/-! Y: one search -/
theorem sr_leaf {mN : Nat} {P R : Nat → pr_PT} {rl rj rK : Nat → Nat} {K : Nat → Nat} {V : Nat → Int32} {A B : Nat → Option Nat} {us : Nat → Nat} {ln r n : Nat} (hf : pt_fin (P r)) (hPr : pt_k (P r) (pt_n (P r) - 1) ≤ 10) (hn : 11 ≤ K n) : sr_m mN P R rl rj rK K V A B us ln r n = none := by
  have hrun : pm_run K V A B us (P r) (pt_n (P r)) (fun _ => n, fun _ => none) = none := by
    obtain ⟨k, hk⟩ : ∃ k, pt_n (P r) = k + 1 := ⟨pt_n (P r) - 1, by have := hf.1; omega⟩
    have hst : pm_st K V A B us (P r) k (fun _ => n, fun _ => none) = none := by
      have e : pt_n (P r) - 1 = k := by omega
      rw [e] at hPr
      unfold pm_st
      rw [if_neg (by omega), if_neg (by omega)]
      show (if K n = pt_k (P r) k ∧ (k + 1 = pt_n (P r) ∨ us n = 1) then _ else none) = none
      rw [if_neg (fun hh => by have := hh.1; omega)]
    rw [hk]
    show (match pm_st K V A B us (P r) k (fun _ => n, fun _ => none) with
      | none => none
      | some s' => pm_run K V A B us (P r) k s') = none
    rw [hst]
  unfold sr_m
  rw [hrun]
  by_cases h : ln + pt_rm (R r) (pt_has (P r) 14) ≤ mN
  · rw [if_pos h]
  · rw [if_neg h]
section YY
variable {f_maxNodes f_maxRules f_phase f_nCount f_outCnt f_apps f_ruleCount f_cex f_curLive f_orderN : Int32} {a_alive a_nKind a_nVal a_nA a_nB a_lv a_nd a_nv a_outs a_tKind a_tVal a_tA a_tB a_tN a_preRel a_preJ a_preK a_ruleUse a_pend a_pendN a_tv a_cv a_mx a_par a_mp a_res a_bnd a_order a_stk a_stSt : Nat → Int32}
variable {K : Nat → Nat} {V : Nat → Int32} {A B : Nat → Option Nat} {rk O : Nat → Nat}
theorem y_bo28 {post : SY → Prop} {oc : Nat} (hG : pr_gw 0 K V A B rk) (hg : gr_at 0 K V A B a_nKind a_nVal a_nA a_nB) (hoc : oc ≤ 4) (hO : ∀ k, k < oc → pr_T 0 K (O k) ∧ a_outs k = nI (O k))
    (h : ∀ nd od stk ss, pr_ls od (pr_lv A B O 0 oc) → post (f_maxNodes, f_maxRules, f_phase, f_nCount, (nI oc), f_apps, f_ruleCount, f_cex, f_curLive, (nI (pr_lv A B O 0 oc).length), a_alive, a_nKind, a_nVal, a_nA, a_nB, a_lv, nd, a_nv, a_outs, a_tKind, a_tVal, a_tA, a_tB, a_tN, a_preRel, a_preJ, a_preK, a_ruleUse, a_pend, a_pendN, a_tv, a_cv, a_mx, a_par, a_mp, a_res, a_bnd, od, stk, ss)) :
    ∀ d i nd od stk ss, i + d = oc → y_nd (pr_T 0 K) (pr_lv A B O 0 i) nd → pr_ls od (pr_lv A B O 0 i) → wY_buildOrder_28 post f_maxNodes f_maxRules f_phase f_nCount (nI oc) f_apps f_ruleCount f_cex f_curLive (d + 1) (nI i) (nI (pr_lv A B O 0 i).length) a_alive a_nKind a_nVal a_nA a_nB a_lv nd a_nv a_outs a_tKind a_tVal a_tA a_tB a_tN a_preRel a_preJ a_preK a_ruleUse a_pend a_pendN a_tv a_cv a_mx a_par a_mp a_res a_bnd od stk ss := by
  intro d
  have hT := pr_gw_T hG
  induction d with
  | zero =>
    intro i nd od stk ss hi h1 h2
    have e : i = oc := by omega
    subst e
    exact pk_le i i (fun _ => h nd od stk ss h2) (fun h => absurd h (by omega))
  | succ d ih =>
    intro i nd od stk ss hi h1 h2
    obtain ⟨to, eo⟩ := hO i (by omega)
    have to2 := to.2.1
    obtain ⟨l1, l2, l3, l4⟩ := pr_lv_ok (O := O) (ob := 0) hT (pr_gw_r hG) i (fun k hk => by rw [Nat.zero_add]; exact (hO k (by omega)).1)
    have hin8 : vp_in (nI i) 8 := pk_in i 8 (by omega)
    have hin : vp_in (nI (O i)) 64 := pk_in (O i) 64 (by omega)
    refine pk_le oc i (fun h => absurd h (by omega)) (fun _ => pk_le 4 i (fun h => absurd h (by omega)) (fun _ => ⟨hin8, ?_⟩))
    rw [nI_clamp (n := i) (by omega), eo, nI_clamp (by omega)]
    refine br_f (nI_pos (by omega)) ⟨hin8, pk_le 32 (O i) (fun h => absurd h (by omega)) (fun _ => ⟨hin8, hin, ?_⟩)⟩
    have hlv : pr_lv A B O 0 (i + 1) = pr_po A B 32 (O i) (pr_lv A B O 0 i) := by
      show pr_po A B 32 (O (0 + i)) (pr_lv A B O 0 i) = _
      rw [Nat.zero_add]
    refine br_c (fun z => ⟨hin8, nm_e (nm_e ⟨201, ?_⟩)⟩) (fun z => ⟨1, ?_⟩)
    · have hnl := (h1 _ to).mp z
      have hrk := pr_gw_r hG _ to
      obtain ⟨M, eM, m1, m2, m3, m4⟩ := pr_po_ok hT 32 (O i) hrk to (pr_lv A B O 0 i) l1 l2
      have hlen : (pr_lv A B O 0 i ++ M).length ≤ 32 := pr_len (lo := 0) m1 (fun x hx => by
        rcases List.mem_append.mp hx with hx | hx
        · exact ⟨(l4 x hx).1.1, (l4 x hx).1.2.1⟩
        · exact ⟨(m4 x hx).1.1, (m4 x hx).1.2.1⟩)
      refine y_visit hG hg 32 (O i) hrk to (pr_lv A B O 0 i) l1 l2 hnl (fun x hx => (l4 x hx).1) 201 0 0 nd od _ _ (by omega) (by omega) ?_ pk_us pk_us h2 h1 ?_
      · rw [eM]
        omega
      · intro f' nd' od' stk' ss' hf' _ hls' hnd'
        obtain ⟨g, rfl⟩ : ∃ g, f' = g + 1 := ⟨f' - 1, by rw [eM] at hf'; omega⟩
        have hnx := ih (i + 1) nd' od' stk' ss' (by omega) (by rw [hlv]; exact hnd') (by rw [hlv]; exact hls')
        rw [hlv] at hnx
        by_cases h200 : (200 : Int32) ≤ nI (0 + 3 * (pr_po A B 32 (O i) (pr_lv A B O 0 i)).length - 3 * (pr_lv A B O 0 i).length)
        · exact br_t h200 (nm_r (nI_1 _) hnx)
        · exact br_f h200 (br_t (by decide) (nm_r (nI_1 _) hnx))
    · have hin' : O i ∈ pr_lv A B O 0 i := by
        apply Classical.byContradiction
        intro hn
        exact z ((h1 _ to).mpr hn)
      have ee : pr_lv A B O 0 (i + 1) = pr_lv A B O 0 i := by
        rw [hlv]
        show (if O i ∈ pr_lv A B O 0 i then pr_lv A B O 0 i else _) = _
        rw [if_pos hin']
      have hnx := ih (i + 1) nd od stk ss (by omega) (by rw [ee]; exact h1) (by rw [ee]; exact h2)
      rw [ee] at hnx
      exact br_f (by decide) (br_t (by decide) (nm_r (nI_1 _) hnx))
theorem y_buildOrder {post : SY → Prop} {oc : Nat} {L : List Nat} (hL : L = pr_lv A B O 0 oc) (hG : pr_gw 0 K V A B rk) (hg : gr_at 0 K V A B a_nKind a_nVal a_nA a_nB) (hoc : oc ≤ 4) (hO : ∀ k, k < oc → pr_T 0 K (O k) ∧ a_outs k = nI (O k))
    (h : ∀ nd od stk ss, pr_ls od L → post (f_maxNodes, f_maxRules, f_phase, f_nCount, (nI oc), f_apps, f_ruleCount, f_cex, f_curLive, (nI L.length), a_alive, a_nKind, a_nVal, a_nA, a_nB, a_lv, nd, a_nv, a_outs, a_tKind, a_tVal, a_tA, a_tB, a_tN, a_preRel, a_preJ, a_preK, a_ruleUse, a_pend, a_pendN, a_tv, a_cv, a_mx, a_par, a_mp, a_res, a_bnd, od, stk, ss)) : wpY_buildOrder post (f_maxNodes, f_maxRules, f_phase, f_nCount, (nI oc), f_apps, f_ruleCount, f_cex, f_curLive, f_orderN, a_alive, a_nKind, a_nVal, a_nA, a_nB, a_lv, a_nd, a_nv, a_outs, a_tKind, a_tVal, a_tA, a_tB, a_tN, a_preRel, a_preJ, a_preK, a_ruleUse, a_pend, a_pendN, a_tv, a_cv, a_mx, a_par, a_mp, a_res, a_bnd, a_order, a_stk, a_stSt) := by
  subst hL
  have l7 : ∀ d i nd, i + d = 32 → (∀ c, c < i → nd c = 0) → wY_buildOrder_7 post f_maxNodes f_maxRules f_phase f_nCount (nI oc) f_apps f_ruleCount f_cex f_curLive 0 (d + 1) (nI i) a_alive a_nKind a_nVal a_nA a_nB a_lv nd a_nv a_outs a_tKind a_tVal a_tA a_tB a_tN a_preRel a_preJ a_preK a_ruleUse a_pend a_pendN a_tv a_cv a_mx a_par a_mp a_res a_bnd a_order a_stk a_stSt := by
    intro d
    induction d with
    | zero =>
      intro i nd hi hnd
      refine pk_le 32 i (fun _ => ⟨oc + 1, ?_⟩) (fun h => absurd h (by omega))
      exact y_bo28 hG hg hoc hO h oc 0 nd _ _ _ (by omega) (fun c tc => ⟨fun _ hx => (by cases hx), fun _ => hnd c (by have := tc.2.1; omega)⟩) (fun q hq => absurd hq (Nat.not_lt_zero q))
    | succ d ih =>
      intro i nd hi hnd
      refine pk_le 32 i (fun h => absurd h (by omega)) (fun _ => ⟨pk_in i 64 (by omega), ?_⟩)
      rw [nI_clamp (by omega), pr_vb0]
      refine nm_e (nm_r (nI_1 _) (ih (i + 1) _ (by omega) fun c hc => ?_))
      by_cases e : c = i
      · rw [e, pk_us]
      · rw [pk_un e]
        exact hnd c (by omega)
  exact ⟨33, l7 32 0 a_nd (by omega) (fun c hc => absurd hc (by omega))⟩
end YY
section YZ
variable {f_maxNodes f_maxRules f_phase f_nCount f_outCnt f_apps f_ruleCount f_cex f_curLive f_orderN : Int32} {a_alive a_nKind a_nVal a_nA a_nB a_lv a_nd a_nv a_outs a_tKind a_tVal a_tA a_tB a_tN a_preRel a_preJ a_preK a_ruleUse a_pend a_pendN a_tv a_cv a_mx a_par a_mp a_res a_bnd a_order a_stk a_stSt : Nat → Int32}
variable {mN : Nat} {mR : Nat} {rc : Nat} {ph : Nat} {nc : Nat} {oc : Nat} {cx : Int32} {ap : Int32} {P : Nat → pr_PT} {R : Nat → pr_PT} {rl : Nat → Nat} {rj : Nat → Nat} {rK : Nat → Nat} {uc : Nat → Int32} {D : Nat → pr_PT} {ps : Nat → Nat → Nat} {dc : Nat → Nat} {dl : Nat} {dj : Nat} {dk : Nat} {K : Nat → Nat} {V : Nat → Int32} {A : Nat → Option Nat} {B : Nat → Option Nat} {O : Nat → Nat}
theorem ry_afm {u : SY} {post : Int32 → SY → Prop} (hok : sp_ok mN mR rc ph nc oc cx ap P R rl rj rK uc D ps dc dl dj dk K V A B O) (hph : ph = 1) (hx : ry mN mR rc ph nc oc cx ap P R rl rj rK uc D ps dc dl dj dk K V A B O u) {L : List Nat} {us : Nat → Nat} (hL : L = pr_lv A B O 0 oc) (hus : us = pr_us A B O L oc)
    (hno : sr_0 rc L (sr_m mN P R rl rj rK K V A B us L.length) → ∀ u', ry mN mR rc ph nc oc cx ap P R rl rj rK uc D ps dc dl dj dk K V A B O u' → post 0 u')
    (hy : ∀ i r s y L2, sr_f rc L (sr_m mN P R rl rj rK K V A B us L.length) i r s → (sr_b (P r) (R r) K V A B s.2 (pt_n (R r))).2.2.2.2 (pt_n (R r) - 1) = some y → L2 = pr_lv (pa_A (L.getD i 0) y (sr_b (P r) (R r) K V A B s.2 (pt_n (R r))).2.2.1) (pa_A (L.getD i 0) y (sr_b (P r) (R r) K V A B s.2 (pt_n (R r))).2.2.2.1) (pa_O (L.getD i 0) y oc O) 0 oc →
      ∀ u', ry mN mR rc ph nc oc cx (ap + 1) P R rl rj rK (pr_st uc r (uc r + 1)) D ps dc dl dj dk (pa_K L2 (sr_b (P r) (R r) K V A B s.2 (pt_n (R r))).1) ((sr_b (P r) (R r) K V A B s.2 (pt_n (R r))).2.1) (pa_A (L.getD i 0) y (sr_b (P r) (R r) K V A B s.2 (pt_n (R r))).2.2.1) (pa_A (L.getD i 0) y (sr_b (P r) (R r) K V A B s.2 (pt_n (R r))).2.2.2.1) (pa_O (L.getD i 0) y oc O) u' → post 1 u') : wpY_findAndApply post u := by
  obtain ⟨f_maxNodes, f_maxRules, f_phase, f_nCount, f_outCnt, f_apps, f_ruleCount, f_cex, f_curLive, f_orderN, a_alive, a_nKind, a_nVal, a_nA, a_nB, a_lv, a_nd, a_nv, a_outs, a_tKind, a_tVal, a_tA, a_tB, a_tN, a_preRel, a_preJ, a_preK, a_ruleUse, a_pend, a_pendN, a_tv, a_cv, a_mx, a_par, a_mp, a_res, a_bnd, a_order, a_stk, a_stSt⟩ := u
  obtain ⟨e1, e2, e3, e4, e5, e6, e7, e8, h9, h10, h11, h12⟩ := hx
  subst e1 e2 e3 e4 e5 e6 e7 e8
  have hok' := hok
  obtain ⟨o1, o2, o3, o4, o5, o6, o7, o8, o9, rk, rk', q1, q2, q3, q4⟩ := hok
  obtain ⟨q5, q6, q7⟩ := q4 hph
  have hlk := pr_lv_ok (O := O) (ob := 0) (pr_gw_T q1) (pr_gw_r q1) oc (fun k hk => by rw [Nat.zero_add]; exact q2 k hk)
  rw [← hL] at hlk q7
  have hLT : ∀ x, x ∈ L → pr_T 0 K x := fun x hx => (hlk.2.2.2 x hx).1
  have hlen := pr_len (lo := 0) (n := 32) hlk.1 (fun x hx => ⟨(hLT x hx).1, (hLT x hx).2.1⟩)
  have hO : ∀ k, k < oc → pr_T 0 K (O k) ∧ a_outs k = nI (O k) := fun k hk => ⟨q2 k hk, h12.1.2.1 k hk⟩
  have hub : ∀ d, us d < 2 ^ 31 := fun d => by
    rw [hus]
    exact pr_us_le hlen o7
  unfold wpY_findAndApply
  refine y_liveSum (g := 0) (cost := 0) (O := O) (L := L) (by omega) (by omega) q1 h12.1.1 h12.2.1 o7 (gr_0 h12.1 q2) hL (fun lv hlv => ?_)
  rw [pr_sm_1]
  refine y_buildOrder (L := L) (O := O) hL q1 h12.1.1 o7 hO (fun nd od stk ss k2 => ⟨L.length + 1, ?_⟩)
  have l16 : ∀ d i mp bn cv mx par, i + d = L.length → (∀ i' r', i' < i → r' < rc → sr_m mN P R rl rj rK K V A B us L.length r' (L.getD i' 0) = none) → wY_findAndApply_16 post (d + 1) (nI i) (nI mN) (nI mR) (nI ph) (nI nc) (nI oc) f_apps (nI rc) f_cex (nI L.length) (nI L.length) a_alive a_nKind a_nVal a_nA a_nB lv nd a_nv a_outs a_tKind a_tVal a_tA a_tB a_tN a_preRel a_preJ a_preK a_ruleUse a_pend a_pendN a_tv cv mx par mp a_res bn od stk ss := by
    intro d
    induction d with
    | zero =>
      intro i mp bn cv mx par hi hh
      exact pk_le L.length i (fun _ => hno (fun i' r' a b => hh i' r' (by omega) b) _ ⟨rfl, rfl, rfl, rfl, rfl, rfl, rfl, rfl, h9, h10, h11, h12⟩) (fun h => absurd h (by omega))
    | succ d ih =>
      intro i mp bn cv mx par hi hh
      have hi' : i < L.length := by omega
      have tn := hLT _ (pr_gd_m hi')
      have tn2 := tn.2.1
      have hK1 : 1 ≤ K (L.getD i 0) := Nat.pos_of_ne_zero tn.2.2
      have hK12 := (q1 _ tn).1
      have hin : vp_in (nI (L.getD i 0)) 64 := pk_in (L.getD i 0) 64 (by omega)
      have step : ∀ mp bn cv mx par, (∀ r', r' < rc → sr_m mN P R rl rj rK K V A B us L.length r' (L.getD i 0) = none) → wY_findAndApply_16 post (d + 1) (nI (i + 1)) (nI mN) (nI mR) (nI ph) (nI nc) (nI oc) f_apps (nI rc) f_cex (nI L.length) (nI L.length) a_alive a_nKind a_nVal a_nA a_nB lv nd a_nv a_outs a_tKind a_tVal a_tA a_tB a_tN a_preRel a_preJ a_preK a_ruleUse a_pend a_pendN a_tv cv mx par mp a_res bn od stk ss := by
        intro mp bn cv mx par hr0
        refine ih (i + 1) mp bn cv mx par (by omega) fun i' r' a b => ?_
        by_cases e : i' = i
        · subst e
          exact hr0 r' b
        · exact hh i' r' (by omega) b
      have l68 : ∀ d' r mp bn cv mx par, r + d' = rc → (∀ r', r' < r → sr_m mN P R rl rj rK K V A B us L.length r' (L.getD i 0) = none) → wY_findAndApply_68 post (wY_findAndApply_16 post (d + 1)) (nI i) (nI (L.getD i 0)) (d' + 1) (nI r) (nI mN) (nI mR) (nI ph) (nI nc) (nI oc) f_apps (nI rc) f_cex (nI L.length) (nI L.length) a_alive a_nKind a_nVal a_nA a_nB lv nd a_nv a_outs a_tKind a_tVal a_tA a_tB a_tN a_preRel a_preJ a_preK a_ruleUse a_pend a_pendN a_tv cv mx par mp a_res bn od stk ss := by
        intro d'
        induction d' with
        | zero =>
          intro r mp bn cv mx par hr hr0
          exact pk_le rc r (fun _ => nm_r (nI_1 _) (step mp bn cv mx par fun r' h => hr0 r' (by omega))) (fun h => absurd h (by omega))
        | succ d' ih' =>
          intro r mp bn cv mx par hr hr0
          have hrr : r < rc := by omega
          obtain ⟨x1, x2, x3, x4⟩ := h9 r hrr
          obtain ⟨w1, w2, w3, w4, w5, w6, w7, w8, w9, w10, w11⟩ := o8 r hrr
          have nx : ∀ mp bn cv mx par, sr_m mN P R rl rj rK K V A B us L.length r (L.getD i 0) = none → wY_findAndApply_68 post (wY_findAndApply_16 post (d + 1)) (nI i) (nI (L.getD i 0)) (d' + 1) (nI (r + 1)) (nI mN) (nI mR) (nI ph) (nI nc) (nI oc) f_apps (nI rc) f_cex (nI L.length) (nI L.length) a_alive a_nKind a_nVal a_nA a_nB lv nd a_nv a_outs a_tKind a_tVal a_tA a_tB a_tN a_preRel a_preJ a_preK a_ruleUse a_pend a_pendN a_tv cv mx par mp a_res bn od stk ss := by
            intro mp bn cv mx par hm
            refine ih' (r + 1) mp bn cv mx par (by omega) fun r' hr' => ?_
            by_cases e : r' = r
            · rw [e]
              exact hm
            · exact hr0 r' (by omega)
          refine pk_le rc r (fun h => absurd h (by omega)) (fun _ => pk_le 16 r (fun h => absurd h (by omega)) (fun _ => ?_))
          refine y_match (us := us) (L := L) (O := O) (Rn := L.getD i 0) (P := P r) (R := R r) (rl := rl r) (rj := rj r) (rK := rK r) (by omega) hlen o2 w1 w2 w4 w6 q1 h12.1.1 h12.2.1 o7 hO hL (fun c a b => hlv c (by omega) (by omega)) hus hub x1 x2 w8 (fun h => (w9 h).1) x3 tn (fun hrun mp' bn' => br_t rfl (nm_r (nI_1 _) (nx mp' bn' _ _ _ ?_))) (fun s' hrun hl0 => ?_) (fun s' mp' bn' cv' mx' par' hrun hb => ?_)
          · unfold sr_m
            rw [hrun]
            by_cases h : L.length + pt_rm (R r) (pt_has (P r) 14) ≤ mN
            · rw [if_pos h]
            · rw [if_neg h]
          · have hinv := pm_run_ok w1 w2 q1 (Nat.le_refl _) (pm_inv0 (V := V) (A := A) (B := B) (us := us) w2 tn) hrun
            obtain ⟨dd, d1, _⟩ := pm_cv hinv (w9 hl0).2.2
            exact ⟨dd, d1⟩
          · have hinv := pm_run_ok w1 w2 q1 (Nat.le_refl _) (pm_inv0 (V := V) (A := A) (B := B) (us := us) w2 tn) hrun
            refine br_c (fun z => nm_r (nI_1 _) (nx mp' bn' cv' mx' par' ?_)) (fun z => ?_)
            · have hz := (pr_b0 _).mp z
              unfold sr_m
              by_cases h : L.length + pt_rm (R r) (pt_has (P r) 14) ≤ mN
              · rw [if_pos h, hrun]
                rw [decide_eq_true h, Bool.and_true] at hz
                show (if pr_ph (rl r) (rj r) (rK r) (by_v K V s'.2 0) (by_v K V s'.2 1) = true then some s' else none) = none
                rw [hz]
                rfl
              · rw [if_neg h]
            · have hz : (pr_ph (rl r) (rj r) (rK r) (by_v K V s'.2 0) (by_v K V s'.2 1) && decide (L.length + pt_rm (R r) (pt_has (P r) 14) ≤ mN)) = true := by
                cases hx : (pr_ph (rl r) (rj r) (rK r) (by_v K V s'.2 0) (by_v K V s'.2 1) && decide (L.length + pt_rm (R r) (pt_has (P r) 14) ≤ mN)) with
                | true => rfl
                | false => rw [hx] at z; exact absurd rfl z
              rw [Bool.and_eq_true, decide_eq_true_eq] at hz
              have hm : sr_m mN P R rl rj rK K V A B us L.length r (L.getD i 0) = some s' := by
                unfold sr_m
                rw [if_pos hz.2, hrun]
                show (if pr_ph (rl r) (rj r) (rK r) (by_v K V s'.2 0) (by_v K V s'.2 1) = true then some s' else none) = some s'
                rw [if_pos hz.1]
              have hsf : sr_f rc L (sr_m mN P R rl rj rK K V A B us L.length) i r s' := ⟨hi', hrr, hm, hh, hr0⟩
              obtain ⟨y, rk2, y1, y2, y3, y4, y5, y6, y7, y8, y9, y10, y11⟩ := st_all hok' hph hL hus hrr tn hm
              refine y_apply (K := K) (V := V) (A := A) (B := B) (O := O) (P := P r) (R := R r) (C := pt_has (P r) 14) (tv := sr_tv (R r) K V s'.2) (bd := s'.2) (y := y) (s := sr_b (P r) (R r) K V A B s'.2 (pt_n (R r))) (by omega) o7 (by omega) w1 w4 w5 w6 x1 x2 rfl hb (fun j d hd => pm_bd hinv hd) q1 h12.1.1 h12.2.1 rfl y5 y6 rfl y1 y2 y7 (fun k hk => ⟨by have := (q2 k hk).2.1; omega, (hO k hk).2⟩) y8 y9 rfl (fun al nk nv na nb ou lv' cv'' mx'' par'' tv'' rs g1 g2 g3 g4 g5 => ?_)
              refine hy i r s' y _ hsf y1 rfl _ ⟨rfl, rfl, rfl, rfl, rfl, rfl, rfl, rfl, fun r' hr' => ⟨(h9 r' hr').1, (h9 r' hr').2.1, (h9 r' hr').2.2.1, ?_⟩, h10, h11, ⟨gr_pa g1, g4, fun hp => ⟨gr_next (h12.1.2.2 hp).1 (fun x hx => (g3 x hx).2) y10, fun k hk => ?_⟩⟩, g2, fun hp n h0 hn => ?_⟩
              · by_cases e : r' = r
                · rw [e, pk_us, pr_st_s, x4]
                · rw [pk_un e, pr_st_n e]
                  exact (h9 r' hr').2.2.2
              · rw [pa_O4 o7, g5 (4 + k) (by omega)]
                exact (h12.1.2.2 hp).2 k hk
              · rw [(g3 n h0).1]
                have e : pa_K (pr_lv (pa_A (L.getD i 0) y (sr_b (P r) (R r) K V A B s'.2 (pt_n (R r))).2.2.1) (pa_A (L.getD i 0) y (sr_b (P r) (R r) K V A B s'.2 (pt_n (R r))).2.2.2.1) (pa_O (L.getD i 0) y oc O) 0 oc) (sr_b (P r) (R r) K V A B s'.2 (pt_n (R r))).1 n = K n := by
                  unfold pa_K
                  rw [if_neg (fun hh => absurd hh.1 (by omega))]
                  exact (y10 n h0).1
                rw [e]
                exact h12.2.2 hp n h0 hn
      refine pk_le L.length i (fun h => absurd h (by omega)) (fun _ => pk_le 32 i (fun h => absurd h (by omega)) (fun _ => ⟨pk_in i 32 (by omega), ?_⟩))
      rw [nI_clamp (by omega)]
      refine nm_r (k2 i hi') ⟨hin, ?_⟩
      rw [nI_clamp (by omega), (h12.1.1 _ tn).1]
      have go : ∃ n68, wY_findAndApply_68 post (wY_findAndApply_16 post (d + 1)) (nI i) (nI (L.getD i 0)) n68 0 (nI mN) (nI mR) (nI ph) (nI nc) (nI oc) f_apps (nI rc) f_cex (nI L.length) (nI L.length) a_alive a_nKind a_nVal a_nA a_nB lv nd a_nv a_outs a_tKind a_tVal a_tA a_tB a_tN a_preRel a_preJ a_preK a_ruleUse a_pend a_pendN a_tv cv mx par mp a_res bn od stk ss := ⟨rc + 1, l68 rc 0 mp bn cv mx par (by omega) (fun r' h => absurd h (by omega))⟩
      by_cases hb : K (L.getD i 0) ≤ 8
      · exact y_isBin_t hK1 hb (br_f (by decide) go)
      · refine y_isBin_f (by omega) (by omega) (br_t rfl ⟨hin, ?_⟩)
        by_cases hu : K (L.getD i 0) ≤ 10
        · exact y_isUn_t (by omega) (br_f (by decide) go)
        · exact y_isUn_f (by omega) (by omega) (br_t rfl (nm_r (nI_1 _) (step mp bn cv mx par fun r' hr' => sr_leaf (o8 r' hr').2.1 (o8 r' hr').2.2.1 (by omega))))
  exact l16 L.length 0 _ _ _ _ _ (by omega) (fun i' r' h => absurd h (by omega))
end YZ
end
section
/-! optimize: the searches, one after another -/
theorem sr_ex {rc : Nat} {L : List Nat} {m : Nat → Nat → Option pm_S} (h : ∀ i r s, ¬ sr_f rc L m i r s) : sr_0 rc L m := by
  have main : ∀ i, i < L.length → ∀ r, r < rc → m r (L.getD i 0) = none := by
    intro i
    induction i using Nat.strongRecOn with
    | ind i ih =>
      intro hi r
      induction r using Nat.strongRecOn with
      | ind r ihr =>
        intro hr
        cases hm : m r (L.getD i 0) with
        | none => rfl
        | some s => exact absurd ⟨hi, hr, hm, fun i' r' a b => ih i' a (by omega) r' b, fun r' a => ihr r' a (by omega)⟩ (h i r s)
  exact fun i r hi hr => main i hi r hr
def xo_w (post : Int32 → SX → Prop) (b : Int32) (f : Nat) (x2 x3 : Int32) (u : SX) : Prop := match u with
  | (f_maxNodes, f_maxRules, f_ruleCount, f_counterexample, f_optimized, f_nodeCount, f_outputCount, f_applications, a_preRelation, a_preVariable, a_preConstant, a_roomNeeded, a_useCount, a_treeSize, a_treeKind, a_treeValue, a_treeA, a_treeB, a_treeResult, a_constantValued, a_maximal, a_counterpart, a_boundNode, a_pending, a_pendingCount, a_nodeKind, a_nodeValue, a_nodeA, a_nodeB, a_nodeResult, a_nodeUses, a_outputNode, a_seen, a_order, a_walkStack) => wX_optimize_25 post b f x2 x3 f_maxNodes f_maxRules f_ruleCount f_counterexample f_optimized f_nodeCount f_outputCount f_applications a_preRelation a_preVariable a_preConstant a_roomNeeded a_useCount a_treeSize a_treeKind a_treeValue a_treeA a_treeB a_treeResult a_constantValued a_maximal a_counterpart a_boundNode a_pending a_pendingCount a_nodeKind a_nodeValue a_nodeA a_nodeB a_nodeResult a_nodeUses a_outputNode a_seen a_order a_walkStack
def yo_w (post : Int32 → SY → Prop) (f : Nat) (x1 x2 : Int32) (u : SY) : Prop := match u with
  | (f_maxNodes, f_maxRules, f_phase, f_nCount, f_outCnt, f_apps, f_ruleCount, f_cex, f_curLive, f_orderN, a_alive, a_nKind, a_nVal, a_nA, a_nB, a_lv, a_nd, a_nv, a_outs, a_tKind, a_tVal, a_tA, a_tB, a_tN, a_preRel, a_preJ, a_preK, a_ruleUse, a_pend, a_pendN, a_tv, a_cv, a_mx, a_par, a_mp, a_res, a_bnd, a_order, a_stk, a_stSt) => wY_optimize_171 post f x1 x2 f_maxNodes f_maxRules f_phase f_nCount f_outCnt f_apps f_ruleCount f_cex f_curLive f_orderN a_alive a_nKind a_nVal a_nA a_nB a_lv a_nd a_nv a_outs a_tKind a_tVal a_tA a_tB a_tN a_preRel a_preJ a_preK a_ruleUse a_pend a_pendN a_tv a_cv a_mx a_par a_mp a_res a_bnd a_order a_stk a_stSt
section OX
variable {f_maxNodes f_maxRules f_ruleCount f_counterexample f_optimized f_nodeCount f_outputCount f_applications : Int32} {a_preRelation a_preVariable a_preConstant a_roomNeeded a_useCount a_treeSize a_treeKind a_treeValue a_treeA a_treeB a_treeResult a_constantValued a_maximal a_counterpart a_boundNode a_pending a_pendingCount a_nodeKind a_nodeValue a_nodeA a_nodeB a_nodeResult a_nodeUses a_outputNode a_seen a_order a_walkStack : Nat → Int32}
variable {mN : Nat} {mR : Nat} {rc : Nat} {ph : Nat} {nc : Nat} {oc : Nat} {cx : Int32} {ap : Int32} {P : Nat → pr_PT} {R : Nat → pr_PT} {rl : Nat → Nat} {rj : Nat → Nat} {rK : Nat → Nat} {uc : Nat → Int32} {D : Nat → pr_PT} {ps : Nat → Nat → Nat} {dc : Nat → Nat} {dl : Nat} {dj : Nat} {dk : Nat} {K : Nat → Nat} {V : Nat → Int32} {A : Nat → Option Nat} {B : Nat → Option Nat} {O : Nat → Nat}
theorem xo_step {u : SX} {post : Int32 → SX → Prop} {b : Int32} {f t : Nat} (ht : t < 97) (h : wpX_applyFirstMatch (fun r u' => xo_w post b f r (nI (t + 1)) u') u) : xo_w post b (f + 1) 1 (nI t) u := by
  obtain ⟨f_maxNodes, f_maxRules, f_ruleCount, f_counterexample, f_optimized, f_nodeCount, f_outputCount, f_applications, a_preRelation, a_preVariable, a_preConstant, a_roomNeeded, a_useCount, a_treeSize, a_treeKind, a_treeValue, a_treeA, a_treeB, a_treeResult, a_constantValued, a_maximal, a_counterpart, a_boundNode, a_pending, a_pendingCount, a_nodeKind, a_nodeValue, a_nodeA, a_nodeB, a_nodeResult, a_nodeUses, a_outputNode, a_seen, a_order, a_walkStack⟩ := u
  refine pk_le 97 t (fun h => absurd h (by omega)) (fun _ => br_f (by decide) ?_)
  rw [nI_1]
  have e : (fun (r : Int32) (u' : SX) => xo_w post b f r (nI (t + 1)) u') = (fun r_4 u => match u with | (f_maxNodes, f_maxRules, f_ruleCount, f_counterexample, f_optimized, f_nodeCount, f_outputCount, f_applications, a_preRelation, a_preVariable, a_preConstant, a_roomNeeded, a_useCount, a_treeSize, a_treeKind, a_treeValue, a_treeA, a_treeB, a_treeResult, a_constantValued, a_maximal, a_counterpart, a_boundNode, a_pending, a_pendingCount, a_nodeKind, a_nodeValue, a_nodeA, a_nodeB, a_nodeResult, a_nodeUses, a_outputNode, a_seen, a_order, a_walkStack) => ∀ x3_40 : Int32, x3_40 = nI (t + 1) → wX_optimize_25 post b f r_4 x3_40 f_maxNodes f_maxRules f_ruleCount f_counterexample f_optimized f_nodeCount f_outputCount f_applications a_preRelation a_preVariable a_preConstant a_roomNeeded a_useCount a_treeSize a_treeKind a_treeValue a_treeA a_treeB a_treeResult a_constantValued a_maximal a_counterpart a_boundNode a_pending a_pendingCount a_nodeKind a_nodeValue a_nodeA a_nodeB a_nodeResult a_nodeUses a_outputNode a_seen a_order a_walkStack) := by
    funext r u'
    obtain ⟨f_maxNodes', f_maxRules', f_ruleCount', f_counterexample', f_optimized', f_nodeCount', f_outputCount', f_applications', a_preRelation', a_preVariable', a_preConstant', a_roomNeeded', a_useCount', a_treeSize', a_treeKind', a_treeValue', a_treeA', a_treeB', a_treeResult', a_constantValued', a_maximal', a_counterpart', a_boundNode', a_pending', a_pendingCount', a_nodeKind', a_nodeValue', a_nodeA', a_nodeB', a_nodeResult', a_nodeUses', a_outputNode', a_seen', a_order', a_walkStack'⟩ := u'
    exact propext ⟨fun h x hx => by rw [hx]; exact h, fun h => h _ rfl⟩
  rw [e] at h
  exact h
theorem xo_end {u : SX} {post : Int32 → SX → Prop} {b : Int32} {f t : Nat} (hx : rx mN mR rc ph nc oc cx ap P R rl rj rK uc D ps dc dl dj dk K V A B O u) (h : post (ap - b) u) : xo_w post b (f + 1) 0 (nI t) u := by
  obtain ⟨f_maxNodes, f_maxRules, f_ruleCount, f_counterexample, f_optimized, f_nodeCount, f_outputCount, f_applications, a_preRelation, a_preVariable, a_preConstant, a_roomNeeded, a_useCount, a_treeSize, a_treeKind, a_treeValue, a_treeA, a_treeB, a_treeResult, a_constantValued, a_maximal, a_counterpart, a_boundNode, a_pending, a_pendingCount, a_nodeKind, a_nodeValue, a_nodeA, a_nodeB, a_nodeResult, a_nodeUses, a_outputNode, a_seen, a_order, a_walkStack⟩ := u
  obtain ⟨e1, e2, e3, e4, e5, e6, e7, e8, h9, h10, h11, h12⟩ := hx
  subst e8
  by_cases h97 : (97 : Int32) ≤ nI t
  · exact br_t h97 h
  · exact br_f h97 (br_t rfl h)
end OX
section OY
variable {f_maxNodes f_maxRules f_phase f_nCount f_outCnt f_apps f_ruleCount f_cex f_curLive f_orderN : Int32} {a_alive a_nKind a_nVal a_nA a_nB a_lv a_nd a_nv a_outs a_tKind a_tVal a_tA a_tB a_tN a_preRel a_preJ a_preK a_ruleUse a_pend a_pendN a_tv a_cv a_mx a_par a_mp a_res a_bnd a_order a_stk a_stSt : Nat → Int32}
variable {mN : Nat} {mR : Nat} {rc : Nat} {ph : Nat} {nc : Nat} {oc : Nat} {cx : Int32} {ap : Int32} {P : Nat → pr_PT} {R : Nat → pr_PT} {rl : Nat → Nat} {rj : Nat → Nat} {rK : Nat → Nat} {uc : Nat → Int32} {D : Nat → pr_PT} {ps : Nat → Nat → Nat} {dc : Nat → Nat} {dl : Nat} {dj : Nat} {dk : Nat} {K : Nat → Nat} {V : Nat → Int32} {A : Nat → Option Nat} {B : Nat → Option Nat} {O : Nat → Nat}
theorem yo_step {u : SY} {post : Int32 → SY → Prop} {f t k : Nat} (ht : t < 1000) (h : wpY_findAndApply (fun r u' => (r = 0 → post (nI k) u') ∧ (¬ r = 0 → yo_w post f (nI (k + 1)) (nI (t + 1)) u')) u) : yo_w post (f + 1) (nI k) (nI t) u := by
  obtain ⟨f_maxNodes, f_maxRules, f_phase, f_nCount, f_outCnt, f_apps, f_ruleCount, f_cex, f_curLive, f_orderN, a_alive, a_nKind, a_nVal, a_nA, a_nB, a_lv, a_nd, a_nv, a_outs, a_tKind, a_tVal, a_tA, a_tB, a_tN, a_preRel, a_preJ, a_preK, a_ruleUse, a_pend, a_pendN, a_tv, a_cv, a_mx, a_par, a_mp, a_res, a_bnd, a_order, a_stk, a_stSt⟩ := u
  refine pk_le 1000 t (fun h => absurd h (by omega)) (fun _ => ?_)
  rw [nI_1, nI_1]
  have e : (fun (r : Int32) (u' : SY) => (r = 0 → post (nI k) u') ∧ (¬ r = 0 → yo_w post f (nI (k + 1)) (nI (t + 1)) u')) = (fun r_44 u => match u with | (f_maxNodes, f_maxRules, f_phase, f_nCount, f_outCnt, f_apps, f_ruleCount, f_cex, f_curLive, f_orderN, a_alive, a_nKind, a_nVal, a_nA, a_nB, a_lv, a_nd, a_nv, a_outs, a_tKind, a_tVal, a_tA, a_tB, a_tN, a_preRel, a_preJ, a_preK, a_ruleUse, a_pend, a_pendN, a_tv, a_cv, a_mx, a_par, a_mp, a_res, a_bnd, a_order, a_stk, a_stSt) => ((r_44 = 0 → post (nI k) (f_maxNodes, f_maxRules, f_phase, f_nCount, f_outCnt, f_apps, f_ruleCount, f_cex, f_curLive, f_orderN, a_alive, a_nKind, a_nVal, a_nA, a_nB, a_lv, a_nd, a_nv, a_outs, a_tKind, a_tVal, a_tA, a_tB, a_tN, a_preRel, a_preJ, a_preK, a_ruleUse, a_pend, a_pendN, a_tv, a_cv, a_mx, a_par, a_mp, a_res, a_bnd, a_order, a_stk, a_stSt)) ∧ (¬ r_44 = 0 → ∀ x1_86 : Int32, x1_86 = nI (k + 1) → ∀ x2_87 : Int32, x2_87 = nI (t + 1) → wY_optimize_171 post f x1_86 x2_87 f_maxNodes f_maxRules f_phase f_nCount f_outCnt f_apps f_ruleCount f_cex f_curLive f_orderN a_alive a_nKind a_nVal a_nA a_nB a_lv a_nd a_nv a_outs a_tKind a_tVal a_tA a_tB a_tN a_preRel a_preJ a_preK a_ruleUse a_pend a_pendN a_tv a_cv a_mx a_par a_mp a_res a_bnd a_order a_stk a_stSt))) := by
    funext r u'
    obtain ⟨f_maxNodes', f_maxRules', f_phase', f_nCount', f_outCnt', f_apps', f_ruleCount', f_cex', f_curLive', f_orderN', a_alive', a_nKind', a_nVal', a_nA', a_nB', a_lv', a_nd', a_nv', a_outs', a_tKind', a_tVal', a_tA', a_tB', a_tN', a_preRel', a_preJ', a_preK', a_ruleUse', a_pend', a_pendN', a_tv', a_cv', a_mx', a_par', a_mp', a_res', a_bnd', a_order', a_stk', a_stSt'⟩ := u'
    exact propext ⟨fun h => ⟨h.1, fun hr x hx z hz => by rw [hx, hz]; exact h.2 hr⟩, fun h => ⟨h.1, fun hr => h.2 hr _ rfl _ rfl⟩⟩
  rw [e] at h
  exact h
end OY
section OZ
/-- all searches: where they end, for both sides -/
theorem op_all : ∀ (w : Nat) (mN : Nat) (mR : Nat) (rc : Nat) (ph : Nat) (nc : Nat) (oc : Nat) (cx : Int32) (ap : Int32) (P : Nat → pr_PT) (R : Nat → pr_PT) (rl : Nat → Nat) (rj : Nat → Nat) (rK : Nat → Nat) (uc : Nat → Int32) (D : Nat → pr_PT) (ps : Nat → Nat → Nat) (dc : Nat → Nat) (dl : Nat) (dj : Nat) (dk : Nat) (K : Nat → Nat) (V : Nat → Int32) (A : Nat → Option Nat) (B : Nat → Option Nat) (O : Nat → Nat), sp_ok mN mR rc ph nc oc cx ap P R rl rj rK uc D ps dc dl dj dk K V A B O → ph = 1 → pr_W K ≤ w → ∃ (k : Nat) (ap' : Int32) (uc' : Nat → Int32) (K' : Nat → Nat) (V' : Nat → Int32) (A' B' : Nat → Option Nat) (O' : Nat → Nat), sp_ok mN mR rc ph nc oc cx ap' P R rl rj rK uc' D ps dc dl dj dk K' V' A' B' O' ∧ ap' = ap + nI k ∧
    (∀ (u : SX) (post : Int32 → SX → Prop) (b : Int32) (t f : Nat), rx mN mR rc ph nc oc cx ap P R rl rj rK uc D ps dc dl dj dk K V A B O u → t + pr_W K < 97 → 99 ≤ f + t → (∀ u', rx mN mR rc ph nc oc cx ap' P R rl rj rK uc' D ps dc dl dj dk K' V' A' B' O' u' → post (ap' - b) u') → xo_w post b f 1 (nI t) u) ∧
    (∀ (v : SY) (post : Int32 → SY → Prop) (t c f : Nat), ry mN mR rc ph nc oc cx ap P R rl rj rK uc D ps dc dl dj dk K V A B O v → t + pr_W K < 1000 → 1001 ≤ f + t → (∀ v', ry mN mR rc ph nc oc cx ap' P R rl rj rK uc' D ps dc dl dj dk K' V' A' B' O' v' → post (nI (c + k)) v') → yo_w post f (nI c) (nI t) v) := by
  intro w
  induction w with
  | zero =>
    intro mN mR rc ph nc oc cx ap P R rl rj rK uc D ps dc dl dj dk K V A B O hok hph hw
    have h0 : sr_0 rc (pr_lv A B O 0 oc) (sr_m mN P R rl rj rK K V A B (pr_us A B O (pr_lv A B O 0 oc) oc) (pr_lv A B O 0 oc).length) := by
      refine sr_ex fun i r s hf => ?_
      have tn : pr_T 0 K ((pr_lv A B O 0 oc).getD i 0) := by
        obtain ⟨o1, o2, o3, o4, o5, o6, o7, o8, o9, rk, rk', q1, q2, q3, q4⟩ := hok
        have hlk := pr_lv_ok (O := O) (ob := 0) (pr_gw_T q1) (pr_gw_r q1) oc (fun k hk => by rw [Nat.zero_add]; exact q2 k hk)
        exact (hlk.2.2.2 _ (pr_gd_m hf.1)).1
      obtain ⟨y, rk2, y1, y2, y3, y4, y5, y6, y7, y8, y9, y10, y11⟩ := st_all hok hph rfl rfl hf.2.1 tn hf.2.2.1
      have := (y11 _ rfl).1
      omega
    refine ⟨0, ap, uc, K, V, A, B, O, hok, by rw [show nI 0 = 0 from rfl, Int32.add_zero], fun u post b t f hx ht hf hp => ?_, fun v post t c f hv ht hf hp => ?_⟩
    · obtain ⟨g, rfl⟩ : ∃ g, f = g + 2 := ⟨f - 2, by omega⟩
      exact xo_step (by omega) (rx_afm hok hph hx rfl rfl (fun _ u' hu' => xo_end hu' (hp u' hu')) (fun i r s y L2 hsf => absurd hsf (fun hsf => (sr_0f hsf h0).elim)))
    · obtain ⟨g, rfl⟩ : ∃ g, f = g + 1 := ⟨f - 1, by omega⟩
      exact yo_step (by omega) (ry_afm hok hph hv rfl rfl (fun _ v' hv' => br_t rfl (hp v' hv')) (fun i r s y L2 hsf => absurd hsf (fun hsf => (sr_0f hsf h0).elim)))
  | succ w ih =>
    intro mN mR rc ph nc oc cx ap P R rl rj rK uc D ps dc dl dj dk K V A B O hok hph hw
    by_cases h0 : sr_0 rc (pr_lv A B O 0 oc) (sr_m mN P R rl rj rK K V A B (pr_us A B O (pr_lv A B O 0 oc) oc) (pr_lv A B O 0 oc).length)
    · refine ⟨0, ap, uc, K, V, A, B, O, hok, by rw [show nI 0 = 0 from rfl, Int32.add_zero], fun u post b t f hx ht hf hp => ?_, fun v post t c f hv ht hf hp => ?_⟩
      · obtain ⟨g, rfl⟩ : ∃ g, f = g + 2 := ⟨f - 2, by omega⟩
        exact xo_step (by omega) (rx_afm hok hph hx rfl rfl (fun _ u' hu' => xo_end hu' (hp u' hu')) (fun i r s y L2 hsf => absurd hsf (fun hsf => (sr_0f hsf h0).elim)))
      · obtain ⟨g, rfl⟩ : ∃ g, f = g + 1 := ⟨f - 1, by omega⟩
        exact yo_step (by omega) (ry_afm hok hph hv rfl rfl (fun _ v' hv' => br_t rfl (hp v' hv')) (fun i r s y L2 hsf => absurd hsf (fun hsf => (sr_0f hsf h0).elim)))
    · have hex : ∃ i r s, sr_f rc (pr_lv A B O 0 oc) (sr_m mN P R rl rj rK K V A B (pr_us A B O (pr_lv A B O 0 oc) oc) (pr_lv A B O 0 oc).length) i r s := by
        apply Classical.byContradiction
        intro hn
        exact h0 (sr_ex fun i r s hf => hn ⟨i, r, s, hf⟩)
      obtain ⟨i, r, s, hf0⟩ := hex
      have tn : pr_T 0 K ((pr_lv A B O 0 oc).getD i 0) := by
        obtain ⟨o1, o2, o3, o4, o5, o6, o7, o8, o9, rk, rk', q1, q2, q3, q4⟩ := hok
        have hlk := pr_lv_ok (O := O) (ob := 0) (pr_gw_T q1) (pr_gw_r q1) oc (fun k hk => by rw [Nat.zero_add]; exact q2 k hk)
        exact (hlk.2.2.2 _ (pr_gd_m hf0.1)).1
      obtain ⟨y, rk2, y1, y2, y3, y4, y5, y6, y7, y8, y9, y10, y11⟩ := st_all hok hph rfl rfl hf0.2.1 tn hf0.2.2.1
      obtain ⟨z1, z2⟩ := y11 _ rfl
      obtain ⟨k, ap', uc', K', V', A', B', O', r1, r2, r3, r4⟩ := ih _ _ _ _ _ _ _ _ _ _ _ _ _ _ _ _ _ _ _ _ _ _ _ _ _ (z2 (ap + 1) (pr_st uc r (uc r + 1))) hph (by omega)
      refine ⟨k + 1, ap', uc', K', V', A', B', O', r1, ?_, fun u post b t f hx ht hf hp => ?_, fun v post t c f hv ht hf hp => ?_⟩
      · rw [r2, Int32.add_assoc, Int32.add_comm 1, nI_1]
      · obtain ⟨g, rfl⟩ : ∃ g, f = g + 1 := ⟨f - 1, by omega⟩
        refine xo_step (by omega) (rx_afm hok hph hx rfl rfl (fun hn => absurd hn h0) (fun i' r' s' y' L2 hsf hy' hL2 u' hu' => ?_))
        obtain ⟨ei, er, es⟩ := sr_u hf0 hsf
        subst ei er es
        rw [y1] at hy'
        cases hy'
        subst hL2
        exact r3 u' post b (t + 1) g hu' (by omega) (by omega) hp
      · obtain ⟨g, rfl⟩ : ∃ g, f = g + 1 := ⟨f - 1, by omega⟩
        refine yo_step (by omega) (ry_afm hok hph hv rfl rfl (fun hn => absurd hn h0) (fun i' r' s' y' L2 hsf hy' hL2 v' hv' => br_f (by decide) ?_))
        obtain ⟨ei, er, es⟩ := sr_u hf0 hsf
        subst ei er es
        rw [y1] at hy'
        cases hy'
        subst hL2
        refine r4 v' post (t + 1) (c + 1) g hv' (by omega) (by omega) (fun v'' hv'' => ?_)
        rw [show c + 1 + k = c + (k + 1) by omega]
        exact hp v'' hv''
end OZ
end
section
/-! the ORIGINAL kept; optimize -/
def k0_f {α : Type} (f : Nat → α) : Nat → α := fun x => if x < 32 then f x else f (x - 32)
def k0_s (o : Option Nat) : Option Nat := match o with
  | none => none
  | some c => some (c + 32)
def k0_A (f : Nat → Option Nat) : Nat → Option Nat := fun x => if x < 32 then f x else k0_s (f (x - 32))
def k0_O (O : Nat → Nat) : Nat → Nat := fun k => if k < 4 then O k else O (k - 4) + 32
theorem k0_lo {α : Type} {f : Nat → α} {x : Nat} (h : x < 32) : k0_f f x = f x := if_pos h
theorem k0_hi {α : Type} {f : Nat → α} {x : Nat} : k0_f f (32 + x) = f x := by
  unfold k0_f
  rw [if_neg (by omega), show 32 + x - 32 = x by omega]
theorem k0_Alo {f : Nat → Option Nat} {x : Nat} (h : x < 32) : k0_A f x = f x := if_pos h
theorem k0_Ahi {f : Nat → Option Nat} {x : Nat} : k0_A f (32 + x) = k0_s (f x) := by
  unfold k0_A
  rw [if_neg (by omega), show 32 + x - 32 = x by omega]
theorem k0_s_s {o : Option Nat} {c : Nat} (h : k0_s o = some c) : ∃ d, o = some d ∧ c = d + 32 := by
  cases o with
  | none => cases h
  | some d =>
    refine ⟨d, rfl, ?_⟩
    exact (Option.some.inj h).symm
theorem k0_gw0 {K : Nat → Nat} {V : Nat → Int32} {A B : Nat → Option Nat} {rk : Nat → Nat} (h : pr_gw 0 K V A B rk) : pr_gw 0 (k0_f K) (k0_f V) (k0_A A) (k0_A B) rk := by
  intro n hn
  have hn32 : n < 32 := by have := hn.2.1; omega
  have hn' : pr_T 0 K n := ⟨hn.1, hn.2.1, by have := hn.2.2; rw [k0_lo hn32] at this; exact this⟩
  rw [k0_lo hn32, k0_lo hn32, k0_Alo hn32, k0_Alo hn32]
  obtain ⟨g1, g2, g3, g4, g5, g6, g7, g8, g9, g10⟩ := h n hn'
  refine ⟨g1, g2, g3, g4, g5, g6, g7, g8, g9, fun c hc => ?_⟩
  have := g10 c hc
  exact ⟨⟨this.1.1, this.1.2.1, by rw [k0_lo (by have := this.1.2.1; omega)]; exact this.1.2.2⟩, this.2⟩
theorem k0_gw32 {K : Nat → Nat} {V : Nat → Int32} {A B : Nat → Option Nat} {rk : Nat → Nat} {L : List Nat} (h : pr_gw 0 K V A B rk) : pr_gw 32 (pa_K L (k0_f K)) (k0_f V) (k0_A A) (k0_A B) (fun x => rk (x - 32)) := by
  have eK : ∀ x, 32 ≤ x → pa_K L (k0_f K) x = K (x - 32) := by
    intro x hx
    unfold pa_K k0_f
    rw [if_neg (fun hh => absurd hh.1 (by omega)), if_neg (by omega)]
  intro n hn
  have h32 : 32 ≤ n := hn.1
  obtain ⟨m, rfl⟩ : ∃ m, n = 32 + m := ⟨n - 32, by omega⟩
  have hm := hn.2.2
  rw [eK _ h32, show 32 + m - 32 = m by omega] at hm
  have hm' : pr_T 0 K m := ⟨by omega, by have := hn.2.1; omega, hm⟩
  rw [eK _ h32, k0_hi, k0_Ahi, k0_Ahi, show 32 + m - 32 = m by omega]
  obtain ⟨g1, g2, g3, g4, g5, g6, g7, g8, g9, g10⟩ := h m hm'
  refine ⟨g1, by show rk (32 + m - 32) < 32; rw [show 32 + m - 32 = m by omega]; exact g2, g3, g4, g5, fun h => by rw [g6 h]; rfl, fun h => by rw [g7 h]; rfl, fun h => ?_, fun h => ?_, fun c hc => ?_⟩
  · obtain ⟨c, hc⟩ := g8 h
    rw [hc]
    exact ⟨c + 32, rfl⟩
  · obtain ⟨c, hc⟩ := g9 h
    rw [hc]
    exact ⟨c + 32, rfl⟩
  · have hd : ∃ d, (A m = some d ∨ B m = some d) ∧ c = d + 32 := by
      rcases hc with hc | hc
      · obtain ⟨d, d1, d2⟩ := k0_s_s hc
        exact ⟨d, Or.inl d1, d2⟩
      · obtain ⟨d, d1, d2⟩ := k0_s_s hc
        exact ⟨d, Or.inr d1, d2⟩
    obtain ⟨d, d1, rfl⟩ := hd
    have := g10 d d1
    refine ⟨⟨by omega, by have := this.1.2.1; omega, ?_⟩, ?_⟩
    · rw [eK _ (by omega), show d + 32 - 32 = d by omega]
      exact this.1.2.2
    · show rk (d + 32 - 32) < rk (32 + m - 32)
      rw [show d + 32 - 32 = d by omega, show 32 + m - 32 = m by omega]
      exact this.2
section KPs
variable {mN : Nat} {mR : Nat} {rc : Nat} {ph : Nat} {nc : Nat} {oc : Nat} {cx : Int32} {ap : Int32} {P : Nat → pr_PT} {R : Nat → pr_PT} {rl : Nat → Nat} {rj : Nat → Nat} {rK : Nat → Nat} {uc : Nat → Int32} {D : Nat → pr_PT} {ps : Nat → Nat → Nat} {dc : Nat → Nat} {dl : Nat} {dj : Nat} {dk : Nat} {K : Nat → Nat} {V : Nat → Int32} {A : Nat → Option Nat} {B : Nat → Option Nat} {O : Nat → Nat}
theorem sp_keep (h : sp_ok mN mR rc ph nc oc cx ap P R rl rj rK uc D ps dc dl dj dk K V A B O) (hph : ph = 0) {L : List Nat} (hL : L = pr_lv (k0_A A) (k0_A B) (k0_O O) 0 oc) : sp_ok mN mR rc 1 nc oc cx ap P R rl rj rK uc D ps dc dl dj dk (pa_K L (k0_f K)) (k0_f V) (k0_A A) (k0_A B) (k0_O O) := by
  obtain ⟨o1, o2, o3, o4, o5, o6, o7, o8, o9, rk, rk', q1, q2, q3, q4⟩ := h
  have g0 := k0_gw0 q1
  have hO0 : ∀ k, k < oc → pr_T 0 (k0_f K) (k0_O O k) := by
    intro k hk
    have := q2 k hk
    unfold k0_O
    rw [if_pos (by omega)]
    exact ⟨this.1, this.2.1, by rw [k0_lo (by have := this.2.1; omega)]; exact this.2.2⟩
  obtain ⟨l1, l2, l3, l4⟩ := pr_lv_ok (O := k0_O O) (ob := 0) (pr_gw_T g0) (pr_gw_r g0) oc (fun k hk => by rw [Nat.zero_add]; exact hO0 k hk)
  rw [← hL] at l1 l2 l3 l4
  refine ⟨o1, o2, o3, o4, o5, by omega, o7, o8, o9, rk, fun x => rk (x - 32), pr_gw_del g0 l2, fun k hk => ?_, fun h => absurd h (by omega), fun _ => ⟨k0_gw32 q1, fun k hk => ?_, fun x hx => ?_⟩⟩
  · have h1 := hO0 k hk
    have h2 := l3 k hk
    rw [Nat.zero_add] at h2
    refine ⟨h1.1, h1.2.1, ?_⟩
    unfold pa_K
    rw [if_neg (fun hh => hh.2 h2)]
    exact h1.2.2
  · have := q2 k hk
    have e : k0_O O (4 + k) = O k + 32 := by
      unfold k0_O
      rw [if_neg (by omega), show 4 + k - 4 = k by omega]
    rw [e]
    refine ⟨by omega, by have := this.2.1; omega, ?_⟩
    unfold pa_K k0_f
    rw [if_neg (fun hh => absurd hh.1 (by omega)), if_neg (by omega), show O k + 32 - 32 = O k by omega]
    exact this.2.2
  · rw [← hL]
    apply Classical.byContradiction
    intro h
    have h2 := hx.2.2
    unfold pa_K at h2
    rw [if_pos ⟨by have := hx.2.1; omega, h⟩] at h2
    exact h2 rfl
end KPs
/-- both graphs in the arrays, once the ORIGINAL is kept -/
theorem gr_keep {oc : Nat} {K : Nat → Nat} {V : Nat → Int32} {A B : Nat → Option Nat} {rk O : Nat → Nat} {L : List Nat} {nk nv na nb ou nk' nv' na' nb' ou' : Nat → Int32} (hG : pr_gw 0 K V A B rk) (hoc : oc ≤ 4) (hg : gr_at 0 K V A B nk nv na nb) (hou : ∀ k, k < oc → ou k = nI (O k))
    (h1 : ∀ n, n < 32 → nk' n = nk n ∧ nv' n = nv n ∧ na' n = na n ∧ nb' n = nb n)
    (h2 : ∀ n, pr_T 0 K n → nk' (32 + n) = nk n ∧ nv' (32 + n) = nv n ∧ na' (32 + n) = (if na n = -1 then -1 else na n + 32) ∧ nb' (32 + n) = (if nb n = -1 then -1 else nb n + 32))
    (h3 : ∀ k, k < oc → ou' k = ou k ∧ ou' (4 + k) = ou k + 32) :
    gr_all 1 oc (pa_K L (k0_f K)) (k0_f V) (k0_A A) (k0_A B) (k0_O O) nk' nv' na' nb' ou' ∧ gr_at 0 (k0_f K) (k0_f V) (k0_A A) (k0_A B) nk' nv' na' nb' := by
  have g0 : gr_at 0 (k0_f K) (k0_f V) (k0_A A) (k0_A B) nk' nv' na' nb' := by
    intro n hn
    have hn32 : n < 32 := by have := hn.2.1; omega
    have hn' : pr_T 0 K n := ⟨hn.1, hn.2.1, by have := hn.2.2; rw [k0_lo hn32] at this; exact this⟩
    obtain ⟨a1, a2, a3, a4⟩ := h1 n hn32
    rw [k0_lo hn32, k0_lo hn32, k0_Alo hn32, k0_Alo hn32, a1, a2, a3, a4]
    exact hg n hn'
  refine ⟨⟨gr_pa g0, fun k hk => ?_, fun _ => ⟨fun n hn => ?_, fun k hk => ?_⟩⟩, g0⟩
  · unfold k0_O
    rw [if_pos (by omega), (h3 k hk).1]
    exact hou k hk
  · have h32 : 32 ≤ n := hn.1
    obtain ⟨m, rfl⟩ : ∃ m, n = 32 + m := ⟨n - 32, by omega⟩
    have eK : pa_K L (k0_f K) (32 + m) = K m := by
      unfold pa_K
      rw [if_neg (fun hh => absurd hh.1 (by omega)), k0_hi]
    have hm := hn.2.2
    rw [eK] at hm
    have hm' : pr_T 0 K m := ⟨by omega, by have := hn.2.1; omega, hm⟩
    obtain ⟨a1, a2, a3, a4⟩ := h2 m hm'
    obtain ⟨z1, z2, z3, z4⟩ := hg m hm'
    rw [eK, k0_hi, k0_Ahi, k0_Ahi, a1, a2, a3, a4, z3, z4]
    have hs : ∀ o : Option Nat, (∀ c, o = some c → c < 32) → (if pr_oI o = -1 then -1 else pr_oI o + 32) = pr_oI (k0_s o) := by
      intro o ho
      cases o with
      | none => exact if_pos rfl
      | some c =>
        have := ho c rfl
        exact (if_neg (pr_ne1 (a := c) (by omega))).trans (nI_add c 32)
    refine ⟨z1, z2, hs _ fun c hc => ?_, hs _ fun c hc => ?_⟩
    · have := (pr_gw_T hG m c hm' (Or.inl hc)).1.2.1
      omega
    · have := (pr_gw_T hG m c hm' (Or.inr hc)).1.2.1
      omega
  · unfold k0_O
    rw [if_neg (by omega), show 4 + k - 4 = k by omega, (h3 k hk).2, hou k hk]
    exact nI_add (O k) 32
section KPx
variable {f_maxNodes f_maxRules f_ruleCount f_counterexample f_optimized f_nodeCount f_outputCount f_applications : Int32} {a_preRelation a_preVariable a_preConstant a_roomNeeded a_useCount a_treeSize a_treeKind a_treeValue a_treeA a_treeB a_treeResult a_constantValued a_maximal a_counterpart a_boundNode a_pending a_pendingCount a_nodeKind a_nodeValue a_nodeA a_nodeB a_nodeResult a_nodeUses a_outputNode a_seen a_order a_walkStack : Nat → Int32}
theorem x_keep {post : SX → Prop} {nc oc : Nat} (hnc : nc ≤ 32) (hoc : oc ≤ 4)
    (h : ∀ nk nv na nb ou, (∀ n, n < 32 → nk n = a_nodeKind n ∧ nv n = a_nodeValue n ∧ na n = a_nodeA n ∧ nb n = a_nodeB n) → (∀ n, n < nc → nk (32 + n) = a_nodeKind n ∧ nv (32 + n) = a_nodeValue n ∧ na (32 + n) = (if a_nodeA n = -1 then -1 else a_nodeA n + 32) ∧ nb (32 + n) = (if a_nodeB n = -1 then -1 else a_nodeB n + 32)) → (∀ k, k < oc → ou k = a_outputNode k ∧ ou (4 + k) = a_outputNode k + 32) → post (f_maxNodes, f_maxRules, f_ruleCount, f_counterexample, f_optimized, (nI nc), (nI oc), f_applications, a_preRelation, a_preVariable, a_preConstant, a_roomNeeded, a_useCount, a_treeSize, a_treeKind, a_treeValue, a_treeA, a_treeB, a_treeResult, a_constantValued, a_maximal, a_counterpart, a_boundNode, a_pending, a_pendingCount, nk, nv, na, nb, a_nodeResult, a_nodeUses, ou, a_seen, a_order, a_walkStack)) : wpX_keepOriginal post (f_maxNodes, f_maxRules, f_ruleCount, f_counterexample, f_optimized, (nI nc), (nI oc), f_applications, a_preRelation, a_preVariable, a_preConstant, a_roomNeeded, a_useCount, a_treeSize, a_treeKind, a_treeValue, a_treeA, a_treeB, a_treeResult, a_constantValued, a_maximal, a_counterpart, a_boundNode, a_pending, a_pendingCount, a_nodeKind, a_nodeValue, a_nodeA, a_nodeB, a_nodeResult, a_nodeUses, a_outputNode, a_seen, a_order, a_walkStack) := by
  have l88 : ∀ nk nv na nb, (∀ ou, (∀ k, k < oc → ou k = a_outputNode k ∧ ou (4 + k) = a_outputNode k + 32) → post (f_maxNodes, f_maxRules, f_ruleCount, f_counterexample, f_optimized, (nI nc), (nI oc), f_applications, a_preRelation, a_preVariable, a_preConstant, a_roomNeeded, a_useCount, a_treeSize, a_treeKind, a_treeValue, a_treeA, a_treeB, a_treeResult, a_constantValued, a_maximal, a_counterpart, a_boundNode, a_pending, a_pendingCount, nk, nv, na, nb, a_nodeResult, a_nodeUses, ou, a_seen, a_order, a_walkStack)) → ∀ d i ou, i + d = oc → (∀ k, k < 4 → ou k = a_outputNode k) → (∀ k, k < i → ou (4 + k) = a_outputNode k + 32) → wX_keepOriginal_88 post f_maxNodes f_maxRules f_ruleCount f_counterexample f_optimized (nI nc) (nI oc) f_applications (d + 1) (nI i) a_preRelation a_preVariable a_preConstant a_roomNeeded a_useCount a_treeSize a_treeKind a_treeValue a_treeA a_treeB a_treeResult a_constantValued a_maximal a_counterpart a_boundNode a_pending a_pendingCount nk nv na nb a_nodeResult a_nodeUses ou a_seen a_order a_walkStack := by
    intro nk nv na nb hp d
    induction d with
    | zero =>
      intro i ou hi h1 h2
      have e : i = oc := by omega
      subst e
      exact pk_le i i (fun _ => hp ou fun k hk => ⟨h1 k (by omega), h2 k hk⟩) (fun h => absurd h (by omega))
    | succ d ih =>
      intro i ou hi h1 h2
      have e4 : (4 : Int32) + nI i = nI (4 + i) := nI_add 4 i
      refine pk_le oc i (fun h => absurd h (by omega)) (fun _ => ⟨pk_in i 8 (by omega), ?_⟩)
      rw [e4, nI_clamp (n := 4 + i) (by omega), nI_clamp (n := i) (by omega), h1 i (by omega)]
      refine ⟨pk_in (4 + i) 8 (by omega), nm_e (nm_r (nI_1 _) (ih (i + 1) _ (by omega) (fun k hk => ?_) (fun k hk => ?_)))⟩
      · rw [pk_un (by omega)]
        exact h1 k hk
      · by_cases e : k = i
        · rw [e, pk_us]
        · rw [pk_un (by omega)]
          exact h2 k (by omega)
  have l2 : ∀ d i nk nv na nb, i + d = nc → (∀ n, n < 32 → nk n = a_nodeKind n ∧ nv n = a_nodeValue n ∧ na n = a_nodeA n ∧ nb n = a_nodeB n) → (∀ n, n < i → nk (32 + n) = a_nodeKind n ∧ nv (32 + n) = a_nodeValue n ∧ na (32 + n) = (if a_nodeA n = -1 then -1 else a_nodeA n + 32) ∧ nb (32 + n) = (if a_nodeB n = -1 then -1 else a_nodeB n + 32)) → wX_keepOriginal_2 post (d + 1) (nI i) f_maxNodes f_maxRules f_ruleCount f_counterexample f_optimized (nI nc) (nI oc) f_applications a_preRelation a_preVariable a_preConstant a_roomNeeded a_useCount a_treeSize a_treeKind a_treeValue a_treeA a_treeB a_treeResult a_constantValued a_maximal a_counterpart a_boundNode a_pending a_pendingCount nk nv na nb a_nodeResult a_nodeUses a_outputNode a_seen a_order a_walkStack := by
    intro d
    induction d with
    | zero =>
      intro i nk nv na nb hi h1 h2
      have e : i = nc := by omega
      subst e
      exact pk_le i i (fun _ => ⟨oc + 1, l88 nk nv na nb (fun ou ho => h nk nv na nb ou h1 h2 ho) oc 0 _ (by omega) (fun _ _ => rfl) (fun k hk => absurd hk (by omega))⟩) (fun h => absurd h (by omega))
    | succ d ih =>
      intro i nk nv na nb hi h1 h2
      have hin : vp_in (nI i) 64 := pk_in i 64 (by omega)
      have hcl : (nI i).toNatClampNeg = i := nI_clamp (by omega)
      obtain ⟨a1, a2, a3, a4⟩ := h1 i (by omega)
      have ex : nI i + 32 = nI (32 + i) := by
        rw [show (32 : Int32) = nI 32 from rfl, nI_add, Nat.add_comm]
      have h57 : ∀ xa xb, xa = (if a_nodeA i = -1 then -1 else a_nodeA i + 32) → xb = (if a_nodeB i = -1 then -1 else a_nodeB i + 32) → wX_keepOriginal_57 post (wX_keepOriginal_2 post (d + 1)) (nI i) xa xb f_maxNodes f_maxRules f_ruleCount f_counterexample f_optimized (nI nc) (nI oc) f_applications a_preRelation a_preVariable a_preConstant a_roomNeeded a_useCount a_treeSize a_treeKind a_treeValue a_treeA a_treeB a_treeResult a_constantValued a_maximal a_counterpart a_boundNode a_pending a_pendingCount nk nv na nb a_nodeResult a_nodeUses a_outputNode a_seen a_order a_walkStack := by
        intro xa xb ea eb
        refine ⟨hin, hin, ?_⟩
        rw [hcl, ex, a1, a2]
        refine x_setNode (by omega) (nm_r (nI_1 _) (ih (i + 1) _ _ _ _ (by omega) (fun n hn => ?_) (fun n hn => ?_)))
        · rw [pk_un (by omega), pk_un (by omega), pk_un (by omega), pk_un (by omega)]
          exact h1 n hn
        · by_cases e : n = i
          · rw [e, pk_us, pk_us, pk_us, pk_us]
            exact ⟨rfl, rfl, ea, eb⟩
          · rw [pk_un (by omega), pk_un (by omega), pk_un (by omega), pk_un (by omega)]
            exact h2 n (by omega)
      have h33 : ∀ xa, xa = (if a_nodeA i = -1 then -1 else a_nodeA i + 32) → wX_keepOriginal_33 post (wX_keepOriginal_2 post (d + 1)) (nI i) xa f_maxNodes f_maxRules f_ruleCount f_counterexample f_optimized (nI nc) (nI oc) f_applications a_preRelation a_preVariable a_preConstant a_roomNeeded a_useCount a_treeSize a_treeKind a_treeValue a_treeA a_treeB a_treeResult a_constantValued a_maximal a_counterpart a_boundNode a_pending a_pendingCount nk nv na nb a_nodeResult a_nodeUses a_outputNode a_seen a_order a_walkStack := by
        intro xa ea
        refine ⟨hin, ?_⟩
        rw [hcl, a4]
        exact br_c (fun e => h57 xa _ ea (by rw [if_pos e])) (fun e => ⟨hin, h57 xa _ ea (by rw [if_neg e])⟩)
      refine pk_le nc i (fun h => absurd h (by omega)) (fun _ => ⟨hin, ?_⟩)
      rw [hcl, a3]
      exact br_c (fun e => h33 _ (by rw [if_pos e])) (fun e => ⟨hin, h33 _ (by rw [if_neg e])⟩)
  exact ⟨nc + 1, l2 nc 0 _ _ _ _ (by omega) (fun _ _ => ⟨rfl, rfl, rfl, rfl⟩) (fun n hn => absurd hn (by omega))⟩
end KPx
section KPy
variable {f_maxNodes f_maxRules f_phase f_nCount f_outCnt f_apps f_ruleCount f_cex f_curLive f_orderN : Int32} {a_alive a_nKind a_nVal a_nA a_nB a_lv a_nd a_nv a_outs a_tKind a_tVal a_tA a_tB a_tN a_preRel a_preJ a_preK a_ruleUse a_pend a_pendN a_tv a_cv a_mx a_par a_mp a_res a_bnd a_order a_stk a_stSt : Nat → Int32}
theorem pr_m1lt : ¬ (0 : Int32) ≤ -1 := by decide
theorem y_keep {post : Int32 → SY → Prop} {K : Nat → Nat} {V : Nat → Int32} {A B : Nat → Option Nat} {rk : Nat → Nat} (hG : pr_gw 0 K V A B rk) (hg : gr_at 0 K V A B a_nKind a_nVal a_nA a_nB) (hal : al_at 0 K a_alive)
    (h : ∀ al nk nv na nb ou, (∀ n, n < 32 → al n = a_alive n ∧ nk n = a_nKind n ∧ nv n = a_nVal n ∧ na n = a_nA n ∧ nb n = a_nB n) → (∀ n, n < 32 → al (32 + n) = a_alive n) → (∀ n, pr_T 0 K n → nk (32 + n) = a_nKind n ∧ nv (32 + n) = a_nVal n ∧ na (32 + n) = (if a_nA n = -1 then -1 else a_nA n + 32) ∧ nb (32 + n) = (if a_nB n = -1 then -1 else a_nB n + 32)) → (∀ k, k < 4 → ou k = a_outs k ∧ ou (4 + k) = a_outs k + 32) → wY_optimize_163 post f_maxNodes f_maxRules 1 f_nCount f_outCnt f_apps f_ruleCount f_cex f_curLive f_orderN al nk nv na nb a_lv a_nd a_nv ou a_tKind a_tVal a_tA a_tB a_tN a_preRel a_preJ a_preK a_ruleUse a_pend a_pendN a_tv a_cv a_mx a_par a_mp a_res a_bnd a_order a_stk a_stSt) :
    ∃ n, wY_optimize_9 post f_maxNodes f_maxRules f_phase f_nCount f_outCnt f_apps f_ruleCount f_cex f_curLive f_orderN n 0 a_alive a_nKind a_nVal a_nA a_nB a_lv a_nd a_nv a_outs a_tKind a_tVal a_tA a_tB a_tN a_preRel a_preJ a_preK a_ruleUse a_pend a_pendN a_tv a_cv a_mx a_par a_mp a_res a_bnd a_order a_stk a_stSt := by
  have l130 : ∀ al nk nv na nb, (∀ ou, (∀ k, k < 4 → ou k = a_outs k ∧ ou (4 + k) = a_outs k + 32) → wY_optimize_163 post f_maxNodes f_maxRules 1 f_nCount f_outCnt f_apps f_ruleCount f_cex f_curLive f_orderN al nk nv na nb a_lv a_nd a_nv ou a_tKind a_tVal a_tA a_tB a_tN a_preRel a_preJ a_preK a_ruleUse a_pend a_pendN a_tv a_cv a_mx a_par a_mp a_res a_bnd a_order a_stk a_stSt) → ∀ d i ou, i + d = 4 → (∀ k, k < 4 → ou k = a_outs k) → (∀ k, k < i → ou (4 + k) = a_outs k + 32) → wY_optimize_130 post f_maxNodes f_maxRules f_phase f_nCount f_outCnt f_apps f_ruleCount f_cex f_curLive f_orderN (d + 1) (nI i) al nk nv na nb a_lv a_nd a_nv ou a_tKind a_tVal a_tA a_tB a_tN a_preRel a_preJ a_preK a_ruleUse a_pend a_pendN a_tv a_cv a_mx a_par a_mp a_res a_bnd a_order a_stk a_stSt := by
    intro al nk nv na nb hp d
    induction d with
    | zero =>
      intro i ou hi h1 h2
      exact pk_le 4 i (fun _ => hp ou fun k hk => ⟨h1 k hk, h2 k (by omega)⟩) (fun h => absurd h (by omega))
    | succ d ih =>
      intro i ou hi h1 h2
      have e4 : (4 : Int32) + nI i = nI (4 + i) := nI_add 4 i
      refine pk_le 4 i (fun h => absurd h (by omega)) (fun _ => ⟨pk_in i 8 (by omega), ?_⟩)
      rw [e4, nI_clamp (n := 4 + i) (by omega), nI_clamp (n := i) (by omega), h1 i (by omega)]
      refine ⟨pk_in (4 + i) 8 (by omega), nm_e (nm_r (nI_1 _) (ih (i + 1) _ (by omega) (fun k hk => ?_) (fun k hk => ?_)))⟩
      · rw [pk_un (by omega)]
        exact h1 k hk
      · by_cases e : k = i
        · rw [e, pk_us]
        · rw [pk_un (by omega)]
          exact h2 k (by omega)
  have l9 : ∀ d i al nk nv na nb, i + d = 32 → (∀ n, n < 32 → al n = a_alive n ∧ nk n = a_nKind n ∧ nv n = a_nVal n ∧ na n = a_nA n ∧ nb n = a_nB n) → (∀ n, n < i → al (32 + n) = a_alive n) → (∀ n, n < i → pr_T 0 K n → nk (32 + n) = a_nKind n ∧ nv (32 + n) = a_nVal n ∧ na (32 + n) = (if a_nA n = -1 then -1 else a_nA n + 32) ∧ nb (32 + n) = (if a_nB n = -1 then -1 else a_nB n + 32)) → wY_optimize_9 post f_maxNodes f_maxRules f_phase f_nCount f_outCnt f_apps f_ruleCount f_cex f_curLive f_orderN (d + 1) (nI i) al nk nv na nb a_lv a_nd a_nv a_outs a_tKind a_tVal a_tA a_tB a_tN a_preRel a_preJ a_preK a_ruleUse a_pend a_pendN a_tv a_cv a_mx a_par a_mp a_res a_bnd a_order a_stk a_stSt := by
    intro d
    induction d with
    | zero =>
      intro i al nk nv na nb hi h1 h2 h3
      have e : i = 32 := by omega
      subst e
      exact pk_le 32 32 (fun _ => ⟨5, l130 al nk nv na nb (fun ou ho => h al nk nv na nb ou h1 h2 (fun n hn => h3 n (by have := hn.2.1; omega) hn) ho) 4 0 _ (by omega) (fun _ _ => rfl) (fun k hk => absurd hk (by omega))⟩) (fun h => absurd h (by omega))
    | succ d ih =>
      intro i al nk nv na nb hi h1 h2 h3
      have hin : vp_in (nI i) 64 := pk_in i 64 (by omega)
      have hcl : (nI i).toNatClampNeg = i := nI_clamp (by omega)
      have ex : (32 : Int32) + nI i = nI (32 + i) := nI_add 32 i
      have hin2 : vp_in (nI (32 + i)) 64 := pk_in (32 + i) 64 (by omega)
      have hcl2 : (nI (32 + i)).toNatClampNeg = 32 + i := nI_clamp (by omega)
      obtain ⟨a0, a1, a2, a3, a4⟩ := h1 i (by omega)
      have hals := hal i (by omega) (by omega)
      have hnar : vp_nar .boolean (a_alive i) = a_alive i := by
        rw [hals]
        by_cases hz : K i = 0
        · rw [if_pos hz]
          exact pr_vb0
        · rw [if_neg hz]
          exact pr_vb1
      have hnx : ∀ xa xb, (pr_T 0 K i → xa = (if a_nA i = -1 then -1 else a_nA i + 32)) → (pr_T 0 K i → xb = (if a_nB i = -1 then -1 else a_nB i + 32)) → wY_optimize_9 post f_maxNodes f_maxRules f_phase f_nCount f_outCnt f_apps f_ruleCount f_cex f_curLive f_orderN (d + 1) (nI (i + 1)) (upd al (32 + i) (a_alive i)) (upd nk (32 + i) (a_nKind i)) (upd nv (32 + i) (a_nVal i)) (upd na (32 + i) xa) (upd nb (32 + i) xb) a_lv a_nd a_nv a_outs a_tKind a_tVal a_tA a_tB a_tN a_preRel a_preJ a_preK a_ruleUse a_pend a_pendN a_tv a_cv a_mx a_par a_mp a_res a_bnd a_order a_stk a_stSt := by
        intro xa xb ea eb
        refine ih (i + 1) _ _ _ _ _ (by omega) (fun n hn => ?_) (fun n hn => ?_) (fun n hn tn => ?_)
        · rw [pk_un (by omega), pk_un (by omega), pk_un (by omega), pk_un (by omega), pk_un (by omega)]
          exact h1 n hn
        · by_cases e : n = i
          · rw [e, pk_us]
          · rw [pk_un (by omega)]
            exact h2 n (by omega)
        · by_cases e : n = i
          · subst e
            rw [pk_us, pk_us, pk_us, pk_us]
            exact ⟨rfl, rfl, ea tn, eb tn⟩
          · rw [pk_un (by omega), pk_un (by omega), pk_un (by omega), pk_un (by omega)]
            exact h3 n (by omega) tn
      have sgn : ∀ (x : Int32) (o : Option Nat), x = pr_oI o → (∀ c, o = some c → c < 32) → (0 ≤ x → x + 32 = (if x = -1 then -1 else x + 32)) ∧ (¬ 0 ≤ x → -1 = (if x = -1 then (-1 : Int32) else x + 32)) := by
        intro x o hx ho
        subst hx
        cases o with
        | none => exact ⟨fun h => absurd h pr_m1lt, fun _ => (if_pos rfl).symm⟩
        | some c =>
          have := ho c rfl
          exact ⟨fun _ => (if_neg (pr_ne1 (a := c) (by omega))).symm, fun h => absurd (nI_pos' (n := c) (by omega)) h⟩
      have hopA : ∀ t : pr_T 0 K i, ∀ c, A i = some c → c < 32 := fun t c hc => by have := (pr_gw_T hG i c t (Or.inl hc)).1.2.1; omega
      have hopB : ∀ t : pr_T 0 K i, ∀ c, B i = some c → c < 32 := fun t c hc => by have := (pr_gw_T hG i c t (Or.inr hc)).1.2.1; omega
      have h90 : ∀ xa, (pr_T 0 K i → xa = (if a_nA i = -1 then -1 else a_nA i + 32)) → wY_optimize_90 post (wY_optimize_9 post f_maxNodes f_maxRules f_phase f_nCount f_outCnt f_apps f_ruleCount f_cex f_curLive f_orderN (d + 1)) (nI i) xa (nI (32 + i)) f_maxNodes f_maxRules f_phase f_nCount f_outCnt f_apps f_ruleCount f_cex f_curLive f_orderN (upd al (32 + i) (a_alive i)) (upd nk (32 + i) (a_nKind i)) (upd nv (32 + i) (a_nVal i)) na nb a_lv a_nd a_nv a_outs a_tKind a_tVal a_tA a_tB a_tN a_preRel a_preJ a_preK a_ruleUse a_pend a_pendN a_tv a_cv a_mx a_par a_mp a_res a_bnd a_order a_stk a_stSt := by
        intro xa ea
        refine ⟨hin2, ?_⟩
        rw [hcl2, hcl, ex, hcl2, a4]
        refine nm_e ⟨hin, br_c (fun h0 => ⟨hin, hin2, nm_e (nm_r (nI_1 _) (hnx xa _ ea fun t => ?_))⟩) (fun h0 => ⟨hin2, nm_e (nm_r (nI_1 _) (hnx xa _ ea fun t => ?_))⟩)⟩
        · exact (sgn _ _ (hg i t).2.2.2 (hopB t)).1 h0
        · exact (sgn _ _ (hg i t).2.2.2 (hopB t)).2 h0
      refine pk_le 32 i (fun h => absurd h (by omega)) (fun _ => ⟨hin, ?_⟩)
      rw [hcl, ex, hcl2, a0, a1, a2, a3, hnar]
      refine ⟨hin2, nm_e ⟨hin, hin2, nm_e ⟨hin, hin2, nm_e ⟨hin, br_c (fun h0 => ⟨hin, h90 _ fun t => ?_⟩) (fun h0 => h90 _ fun t => ?_)⟩⟩⟩⟩
      · exact (sgn _ _ (hg i t).2.2.1 (hopA t)).1 h0
      · exact (sgn _ _ (hg i t).2.2.1 (hopA t)).2 h0
  exact ⟨33, l9 32 0 _ _ _ _ _ (by omega) (fun _ _ => ⟨rfl, rfl, rfl, rfl, rfl⟩) (fun n hn => absurd hn (by omega)) (fun n hn => absurd hn (by omega))⟩
end KPy
theorem i_vc_optimize {k : Nat} {u : SX} {v : SY} (I : i_Rel k u v) (hk : k + 4 ≤ 2050) : wpX_optimize (fun r u' => wpY_optimize (fun r' v' => r' = r ∧ i_Rel (k + 4) u' v') v) u := by
  obtain ⟨mN, mR, rc, ph, nc, oc, cx, ap, P, R, rl, rj, rK, uc, D, ps, dc, dl, dj, dk, K, V, A, B, O, hok, hx, hy⟩ := I
  have hphc : ph = 0 ∨ ph = 1 := by have := hok.2.2.2.2.2.1; omega
  rcases hphc with hph | hph
  · subst hph
    have hsp := sp_keep hok rfl (L := pr_lv (k0_A A) (k0_A B) (k0_O O) 0 oc) rfl
    obtain ⟨n, ap', uc', K', V', A', B', O', r1, r2, r3, r4⟩ := op_all 96 _ _ _ _ _ _ _ _ _ _ _ _ _ _ _ _ _ _ _ _ _ _ _ _ _ hsp rfl (pr_W_le _)
    have hW := pr_W_le (pa_K (pr_lv (k0_A A) (k0_A B) (k0_O O) 0 oc) (k0_f K))
    have hrel := hsp
    obtain ⟨f_maxNodes, f_maxRules, f_ruleCount, f_counterexample, f_optimized, f_nodeCount, f_outputCount, f_applications, a_preRelation, a_preVariable, a_preConstant, a_roomNeeded, a_useCount, a_treeSize, a_treeKind, a_treeValue, a_treeA, a_treeB, a_treeResult, a_constantValued, a_maximal, a_counterpart, a_boundNode, a_pending, a_pendingCount, a_nodeKind, a_nodeValue, a_nodeA, a_nodeB, a_nodeResult, a_nodeUses, a_outputNode, a_seen, a_order, a_walkStack⟩ := u
    obtain ⟨f_maxNodes', f_maxRules', f_phase', f_nCount', f_outCnt', f_apps', f_ruleCount', f_cex', f_curLive', f_orderN', a_alive', a_nKind', a_nVal', a_nA', a_nB', a_lv', a_nd', a_nv', a_outs', a_tKind', a_tVal', a_tA', a_tB', a_tN', a_preRel', a_preJ', a_preK', a_ruleUse', a_pend', a_pendN', a_tv', a_cv', a_mx', a_par', a_mp', a_res', a_bnd', a_order', a_stk', a_stSt'⟩ := v
    obtain ⟨e1, e2, e3, e4, e5, e6, e7, e8, h9, h10, h11, h12⟩ := hx
    obtain ⟨d1, d2, d3, d4, d5, d6, d7, d8, g9, g10, g11, g12⟩ := hy
    subst e1 e2 e3 e4 e5 e6 e7 e8 d1 d2 d3 d4 d5 d6 d7 d8
    obtain ⟨o1, o2, o3, o4, o5, o6, o7, o8, o9, rk, rk', q1, q2, q3, q4⟩ := hok
    obtain ⟨q5, q6, q7⟩ := q3 rfl
    unfold wpX_optimize
    refine br_t rfl (x_keep (by omega) o7 (fun nk nv na nb ou k1 k2 k3 => ⟨100, ?_⟩))
    have hT2 : ∀ m, pr_T 0 K m → m < nc := fun m hm => by
      apply Classical.byContradiction
      intro hh
      exact hm.2.2 ((q7 m (by have := hm.2.1; omega)).mpr (by omega))
    have hgx := gr_keep (L := pr_lv (k0_A A) (k0_A B) (k0_O O) 0 oc) q1 o7 h12.1 h12.2.1 k1 (fun m hm => k2 m (hT2 m hm)) k3
    have hfin : xo_w (fun r u' => wpY_optimize (fun r' v' => r' = r ∧ i_Rel (k + 4) u' v') ((nI mN), (nI mR), (nI 0), (nI nc), (nI oc), f_apps', (nI rc), f_cex', f_curLive', f_orderN', a_alive', a_nKind', a_nVal', a_nA', a_nB', a_lv', a_nd', a_nv', a_outs', a_tKind', a_tVal', a_tA', a_tB', a_tN', a_preRel', a_preJ', a_preK', a_ruleUse', a_pend', a_pendN', a_tv', a_cv', a_mx', a_par', a_mp', a_res', a_bnd', a_order', a_stk', a_stSt')) f_apps' 100 1 (nI 0) ((nI mN), (nI mR), (nI rc), f_cex', 1, (nI nc), (nI oc), f_apps', a_preRelation, a_preVariable, a_preConstant, a_roomNeeded, a_useCount, a_treeSize, a_treeKind, a_treeValue, a_treeA, a_treeB, a_treeResult, a_constantValued, a_maximal, a_counterpart, a_boundNode, a_pending, a_pendingCount, nk, nv, na, nb, a_nodeResult, a_nodeUses, ou, a_seen, a_order, a_walkStack) := by
      refine r3 _ _ _ 0 100 ⟨rfl, rfl, rfl, rfl, rfl, rfl, rfl, rfl, h9, h10, h11, hgx.1⟩ (by omega) (by omega) (fun u' hu' => ?_)
      unfold wpY_optimize
      refine br_t rfl (y_keep q1 g12.1.1 g12.2.1 (fun al nk' nv' na' nb' ou' m1 m2 m3 m4 => ?_))
      have hgy := gr_keep (L := pr_lv (k0_A A) (k0_A B) (k0_O O) 0 oc) q1 o7 g12.1.1 g12.1.2.1 (fun m hm => (m1 m hm).2) m3 (fun k hk => m4 k (by omega))
      have hO0 : ∀ k, k < oc → pr_T 0 (k0_f K) (k0_O O k) ∧ ou' k = nI (k0_O O k) := by
        intro k hk
        have := q2 k hk
        unfold k0_O
        rw [if_pos (by omega), (m4 k (by omega)).1]
        exact ⟨⟨this.1, this.2.1, by rw [k0_lo (by have := this.2.1; omega)]; exact this.2.2⟩, g12.1.2.1 k hk⟩
      have hal' : al_at 0 (k0_f K) al := by
        intro m h0 hm
        rw [(m1 m (by omega)).1, k0_lo (by omega)]
        exact g12.2.1 m h0 hm
      unfold wY_optimize_163
      refine y_deleteDead (O := k0_O O) (L := pr_lv (k0_A A) (k0_A B) (k0_O O) 0 oc) (k0_gw0 q1) hgy.2 hal' o7 hO0 rfl (fun al' lv' w1 w2 => ⟨1001, ?_⟩)
      have hyo : yo_w (fun r' v' => r' = ap' - f_apps' ∧ i_Rel (k + 4) u' v') 1001 (nI 0) (nI 0) ((nI mN), (nI mR), 1, (nI nc), (nI oc), f_apps', (nI rc), f_cex', f_curLive', f_orderN', al', nk', nv', na', nb', lv', a_nd', a_nv', ou', a_tKind', a_tVal', a_tA', a_tB', a_tN', a_preRel', a_preJ', a_preK', a_ruleUse', a_pend', a_pendN', a_tv', a_cv', a_mx', a_par', a_mp', a_res', a_bnd', a_order', a_stk', a_stSt') := by
        refine r4 _ _ 0 0 1001 ⟨rfl, rfl, rfl, rfl, rfl, rfl, rfl, rfl, g9, g10, g11, hgy.1, w1, fun _ m h0 hm => ?_⟩ (by omega) (by omega) (fun v' hv' => ⟨?_, ⟨_, _, _, _, _, _, _, _, _, _, _, _, _, _, _, _, _, _, _, _, _, _, _, _, _, r1, hu', hv'⟩⟩)
        · obtain ⟨j, rfl⟩ : ∃ j, m = 32 + j := ⟨m - 32, by omega⟩
          rw [w2 _ (by omega), m2 j (by omega)]
          have e : pa_K (pr_lv (k0_A A) (k0_A B) (k0_O O) 0 oc) (k0_f K) (32 + j) = K j := by
            unfold pa_K
            rw [if_neg (fun hh => absurd hh.1 (by omega)), k0_hi]
          rw [e]
          exact g12.2.1 j (by omega) (by omega)
        · rw [r2, Nat.zero_add, Int32.add_comm, Int32.add_sub_cancel]
      exact hyo
    exact hfin
  · subst hph
    obtain ⟨n, ap', uc', K', V', A', B', O', r1, r2, r3, r4⟩ := op_all 96 _ _ _ _ _ _ _ _ _ _ _ _ _ _ _ _ _ _ _ _ _ _ _ _ _ hok rfl (pr_W_le _)
    have hW := pr_W_le K
    have hx' := hx
    obtain ⟨f_maxNodes, f_maxRules, f_ruleCount, f_counterexample, f_optimized, f_nodeCount, f_outputCount, f_applications, a_preRelation, a_preVariable, a_preConstant, a_roomNeeded, a_useCount, a_treeSize, a_treeKind, a_treeValue, a_treeA, a_treeB, a_treeResult, a_constantValued, a_maximal, a_counterpart, a_boundNode, a_pending, a_pendingCount, a_nodeKind, a_nodeValue, a_nodeA, a_nodeB, a_nodeResult, a_nodeUses, a_outputNode, a_seen, a_order, a_walkStack⟩ := u
    obtain ⟨f_maxNodes', f_maxRules', f_phase', f_nCount', f_outCnt', f_apps', f_ruleCount', f_cex', f_curLive', f_orderN', a_alive', a_nKind', a_nVal', a_nA', a_nB', a_lv', a_nd', a_nv', a_outs', a_tKind', a_tVal', a_tA', a_tB', a_tN', a_preRel', a_preJ', a_preK', a_ruleUse', a_pend', a_pendN', a_tv', a_cv', a_mx', a_par', a_mp', a_res', a_bnd', a_order', a_stk', a_stSt'⟩ := v
    obtain ⟨e1, e2, e3, e4, e5, e6, e7, e8, h9, h10, h11, h12⟩ := hx
    obtain ⟨d1, d2, d3, d4, d5, d6, d7, d8, g9, g10, g11, g12⟩ := hy
    subst e1 e2 e3 e4 e5 e6 e7 e8 d1 d2 d3 d4 d5 d6 d7 d8
    obtain ⟨o1, o2, o3, o4, o5, o6, o7, o8, o9, rk, rk', q1, q2, q3, q4⟩ := hok
    obtain ⟨q5, q6, q7⟩ := q4 rfl
    unfold wpX_optimize
    refine br_f (by decide) ⟨100, ?_⟩
    have hfin : xo_w (fun r u' => wpY_optimize (fun r' v' => r' = r ∧ i_Rel (k + 4) u' v') ((nI mN), (nI mR), (nI 1), (nI nc), (nI oc), f_apps', (nI rc), f_cex', f_curLive', f_orderN', a_alive', a_nKind', a_nVal', a_nA', a_nB', a_lv', a_nd', a_nv', a_outs', a_tKind', a_tVal', a_tA', a_tB', a_tN', a_preRel', a_preJ', a_preK', a_ruleUse', a_pend', a_pendN', a_tv', a_cv', a_mx', a_par', a_mp', a_res', a_bnd', a_order', a_stk', a_stSt')) f_apps' 100 1 (nI 0) ((nI mN), (nI mR), (nI rc), f_cex', (nI 1), (nI nc), (nI oc), f_apps', a_preRelation, a_preVariable, a_preConstant, a_roomNeeded, a_useCount, a_treeSize, a_treeKind, a_treeValue, a_treeA, a_treeB, a_treeResult, a_constantValued, a_maximal, a_counterpart, a_boundNode, a_pending, a_pendingCount, a_nodeKind, a_nodeValue, a_nodeA, a_nodeB, a_nodeResult, a_nodeUses, a_outputNode, a_seen, a_order, a_walkStack) := by
      refine r3 _ _ _ 0 100 hx' (by omega) (by omega) (fun u' hu' => ?_)
      unfold wpY_optimize
      refine br_f (by decide) ?_
      unfold wY_optimize_163
      refine y_deleteDead (O := O) (L := pr_lv A B O 0 oc) q1 g12.1.1 g12.2.1 o7 (fun k hk => ⟨q2 k hk, g12.1.2.1 k hk⟩) rfl (fun al' lv' w1 w2 => ⟨1001, ?_⟩)
      have hyo : yo_w (fun r' v' => r' = ap' - f_apps' ∧ i_Rel (k + 4) u' v') 1001 (nI 0) (nI 0) ((nI mN), (nI mR), (nI 1), (nI nc), (nI oc), f_apps', (nI rc), f_cex', f_curLive', f_orderN', al', a_nKind', a_nVal', a_nA', a_nB', lv', a_nd', a_nv', a_outs', a_tKind', a_tVal', a_tA', a_tB', a_tN', a_preRel', a_preJ', a_preK', a_ruleUse', a_pend', a_pendN', a_tv', a_cv', a_mx', a_par', a_mp', a_res', a_bnd', a_order', a_stk', a_stSt') := by
        refine r4 _ _ 0 0 1001 ⟨rfl, rfl, rfl, rfl, rfl, rfl, rfl, rfl, g9, g10, g11, g12.1, fun m h0 hm => ?_, fun hp m h0 hm => ?_⟩ (by omega) (by omega) (fun v' hv' => ⟨?_, ⟨_, _, _, _, _, _, _, _, _, _, _, _, _, _, _, _, _, _, _, _, _, _, _, _, _, r1, hu', hv'⟩⟩)
        · rw [w1 m h0 hm]
          have e : pa_K (pr_lv A B O 0 oc) K m = 0 ↔ K m = 0 := by
            unfold pa_K
            by_cases hc : m < 32 ∧ m ∉ pr_lv A B O 0 oc
            · rw [if_pos hc]
              refine ⟨fun _ => ?_, fun _ => rfl⟩
              apply Classical.byContradiction
              intro hz
              exact hc.2 (q7 m ⟨by omega, by omega, hz⟩)
            · rw [if_neg hc]
          by_cases hz : K m = 0
          · rw [if_pos hz, if_pos (e.mpr hz)]
          · rw [if_neg hz, if_neg (fun hh => hz (e.mp hh))]
        · rw [w2 m h0]
          exact g12.2.2 hp m h0 hm
        · rw [r2, Nat.zero_add, Int32.add_comm, Int32.add_sub_cancel]
      exact hyo
    exact hfin
end
