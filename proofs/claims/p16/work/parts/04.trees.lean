/-! rule trees on naturals: size, kind, value, operands, parent; the draft's pending subtrees -/
abbrev pr_PT : Type := Nat × (Nat → Nat) × (Nat → Nat) × (Nat → Option Nat) × (Nat → Option Nat) × (Nat → Option Nat)
def pt_n (t : pr_PT) : Nat := t.1
def pt_k (t : pr_PT) : Nat → Nat := t.2.1
def pt_v (t : pr_PT) : Nat → Nat := t.2.2.1
def pt_a (t : pr_PT) : Nat → Option Nat := t.2.2.2.1
def pt_b (t : pr_PT) : Nat → Option Nat := t.2.2.2.2.1
def pt_p (t : pr_PT) : Nat → Option Nat := t.2.2.2.2.2
def pr_st {α : Type} (f : Nat → α) (i : Nat) (x : α) : Nat → α := fun j => if j = i then x else f j
theorem pr_st_s {α : Type} {f : Nat → α} {i : Nat} {x : α} : pr_st f i x i = x := if_pos rfl
theorem pr_st_n {α : Type} {f : Nat → α} {i j : Nat} {x : α} (h : j ≠ i) : pr_st f i x j = f j := if_neg h
def pr_ar (κ : Nat) : Nat := if 1 ≤ κ ∧ κ ≤ 8 then 2 else if κ = 9 ∨ κ = 10 then 1 else 0
theorem pr_ar_2 {κ : Nat} (h : 1 ≤ κ) (h2 : κ ≤ 8) : pr_ar κ = 2 := if_pos ⟨h, h2⟩
theorem pr_ar_1 {κ : Nat} (h : κ = 9 ∨ κ = 10) : pr_ar κ = 1 := by
  unfold pr_ar
  rw [if_neg (by omega), if_pos h]
theorem pr_ar_0 {κ : Nat} (h : κ = 0 ∨ 11 ≤ κ) : pr_ar κ = 0 := by
  unfold pr_ar
  rw [if_neg (by omega), if_neg (by omega)]
theorem pr_ar_c (κ : Nat) : (pr_ar κ = 2 ∧ 1 ≤ κ ∧ κ ≤ 8) ∨ (pr_ar κ = 1 ∧ (κ = 9 ∨ κ = 10)) ∨ (pr_ar κ = 0 ∧ (κ = 0 ∨ 11 ≤ κ)) := by
  by_cases h : 1 ≤ κ ∧ κ ≤ 8
  · exact Or.inl ⟨pr_ar_2 h.1 h.2, h⟩
  · by_cases h2 : κ = 9 ∨ κ = 10
    · exact Or.inr (Or.inl ⟨pr_ar_1 h2, h2⟩)
    · exact Or.inr (Or.inr ⟨pr_ar_0 (by omega), by omega⟩)
def pt_nd (t : pr_PT) (i : Nat) : Prop :=
  (1 ≤ pt_k t i ∧ pt_k t i ≤ 14 ∧ pt_k t i ≠ 12) ∧ (pt_k t i = 11 → pt_v t i < 256) ∧ (13 ≤ pt_k t i → pt_v t i < 2) ∧ (pt_k t i ≤ 10 → pt_v t i = 0) ∧
  (11 ≤ pt_k t i → pt_a t i = none) ∧ (9 ≤ pt_k t i → pt_b t i = none) ∧ (pt_k t i ≤ 10 → ∃ c, pt_a t i = some c) ∧ (pt_k t i ≤ 8 → ∃ c, pt_b t i = some c) ∧
  (∀ c, pt_a t i = some c ∨ pt_b t i = some c → c < i ∧ pt_p t c = some i) ∧ (∀ c, pt_a t i = some c → pt_b t i ≠ some c) ∧
  (∀ q, pt_p t i = some q → i < q ∧ q < pt_n t ∧ (pt_a t q = some i ∨ pt_b t q = some i))
def pt_ok (t : pr_PT) : Prop := pt_n t ≤ 8 ∧ ∀ i, i < pt_n t → pt_nd t i
def pd_ok (t : pr_PT) (ps : Nat → Nat) (c : Nat) : Prop :=
  c ≤ pt_n t ∧ (∀ q, q < c → ps q < pt_n t ∧ pt_p t (ps q) = none) ∧ (∀ q q', q < q' → q' < c → ps q < ps q') ∧ (∀ i, i < pt_n t → pt_p t i = none → ∃ q, q < c ∧ ps q = i) ∧ (0 < pt_n t → 0 < c ∧ ps (c - 1) + 1 = pt_n t)
def pt_put (t : pr_PT) (κ v : Nat) (a0 b0 : Option Nat) : pr_PT :=
  (pt_n t + 1, pr_st (pt_k t) (pt_n t) κ, pr_st (pt_v t) (pt_n t) v, pr_st (pt_a t) (pt_n t) a0, pr_st (pt_b t) (pt_n t) b0, fun i => if i = pt_n t then none else if a0 = some i ∨ b0 = some i then some (pt_n t) else pt_p t i)
def pt_a0 (ps : Nat → Nat) (c κ : Nat) : Option Nat := if 1 ≤ pr_ar κ then some (ps (c - pr_ar κ)) else none
def pt_b0 (ps : Nat → Nat) (c κ : Nat) : Option Nat := if pr_ar κ = 2 then some (ps (c - pr_ar κ + 1)) else none
def pt_add (t : pr_PT) (ps : Nat → Nat) (c κ v : Nat) : pr_PT := pt_put t κ (if pr_ar κ = 0 then v else 0) (pt_a0 ps c κ) (pt_b0 ps c κ)
def pd_add (t : pr_PT) (ps : Nat → Nat) (c κ : Nat) : Nat → Nat := pr_st ps (c - pr_ar κ) (pt_n t)
theorem pt_put_ok {t : pr_PT} {κ v : Nat} {a0 b0 : Option Nat} (ht : pt_ok t) (hn : pt_n t < 8) (hk : 1 ≤ κ ∧ κ ≤ 14 ∧ κ ≠ 12) (hv : κ = 11 → v < 256) (hv2 : 13 ≤ κ → v < 2) (hv0 : κ ≤ 10 → v = 0)
    (h1 : 11 ≤ κ → a0 = none) (h2 : 9 ≤ κ → b0 = none) (h3 : κ ≤ 10 → ∃ c, a0 = some c) (h4 : κ ≤ 8 → ∃ c, b0 = some c) (h5 : ∀ c, a0 = some c ∨ b0 = some c → c < pt_n t ∧ pt_p t c = none) (h6 : ∀ c, a0 = some c → b0 ≠ some c) : pt_ok (pt_put t κ v a0 b0) := by
  refine ⟨by show pt_n t + 1 ≤ 8; omega, fun i hi => ?_⟩
  have hi' : i < pt_n t + 1 := hi
  have eP : pt_p (pt_put t κ v a0 b0) = fun i => if i = pt_n t then none else if a0 = some i ∨ b0 = some i then some (pt_n t) else pt_p t i := rfl
  have eN : pt_n (pt_put t κ v a0 b0) = pt_n t + 1 := rfl
  have eK : ∀ j, pt_k (pt_put t κ v a0 b0) j = pr_st (pt_k t) (pt_n t) κ j := fun _ => rfl
  have eV : ∀ j, pt_v (pt_put t κ v a0 b0) j = pr_st (pt_v t) (pt_n t) v j := fun _ => rfl
  have eA : ∀ j, pt_a (pt_put t κ v a0 b0) j = pr_st (pt_a t) (pt_n t) a0 j := fun _ => rfl
  have eB : ∀ j, pt_b (pt_put t κ v a0 b0) j = pr_st (pt_b t) (pt_n t) b0 j := fun _ => rfl
  unfold pt_nd
  by_cases e : i = pt_n t
  · subst e
    rw [eK, eV, eA, eB, eN, pr_st_s, pr_st_s, pr_st_s, pr_st_s]
    refine ⟨hk, hv, hv2, hv0, h1, h2, h3, h4, fun c hc => ?_, h6, fun q hq => ?_⟩
    · have h := h5 c hc
      refine ⟨h.1, ?_⟩
      rw [eP]
      show (if c = pt_n t then none else if a0 = some c ∨ b0 = some c then some (pt_n t) else pt_p t c) = _
      rw [if_neg (by omega), if_pos hc]
    · rw [eP] at hq
      replace hq : (if pt_n t = pt_n t then none else if a0 = some (pt_n t) ∨ b0 = some (pt_n t) then some (pt_n t) else pt_p t (pt_n t)) = some q := hq
      rw [if_pos rfl] at hq
      cases hq
  · have hlt : i < pt_n t := by omega
    obtain ⟨g1, g2, g3, g4, g5, g6, g7, g8, g9, g10, g11⟩ := ht.2 i hlt
    rw [eK, eV, eA, eB, eN, pr_st_n e, pr_st_n e, pr_st_n e, pr_st_n e]
    refine ⟨g1, g2, g3, g4, g5, g6, g7, g8, fun c hc => ?_, g10, fun q hq => ?_⟩
    · have h := g9 c hc
      refine ⟨h.1, ?_⟩
      rw [eP]
      show (if c = pt_n t then none else if a0 = some c ∨ b0 = some c then some (pt_n t) else pt_p t c) = _
      rw [if_neg (by omega), if_neg (fun hh => by
        have := (h5 c hh).2
        rw [h.2] at this
        cases this)]
      exact h.2
    · rw [eP] at hq
      replace hq : (if i = pt_n t then none else if a0 = some i ∨ b0 = some i then some (pt_n t) else pt_p t i) = some q := hq
      rw [if_neg e] at hq
      by_cases hC : a0 = some i ∨ b0 = some i
      · rw [if_pos hC] at hq
        cases hq
        refine ⟨hlt, by omega, ?_⟩
        rw [eA, eB, pr_st_s, pr_st_s]
        exact hC
      · rw [if_neg hC] at hq
        have h := g11 q hq
        refine ⟨h.1, by omega, ?_⟩
        rw [eA, eB, pr_st_n (by omega), pr_st_n (by omega)]
        exact h.2.2
theorem pt_add_ok {t : pr_PT} {ps : Nat → Nat} {c κ v : Nat} (ht : pt_ok t) (hp : pd_ok t ps c) (hn : pt_n t < 8) (hk : 1 ≤ κ ∧ κ ≤ 14 ∧ κ ≠ 12) (hv : κ = 11 → v < 256) (hv2 : 13 ≤ κ → v < 2) (hc : pr_ar κ ≤ c) :
    pt_ok (pt_add t ps c κ v) ∧ pd_ok (pt_add t ps c κ v) (pd_add t ps c κ) (c - pr_ar κ + 1) := by
  obtain ⟨p1, p2, p3, p4, p5⟩ := hp
  have hA : ∀ x, pt_a0 ps c κ = some x → 1 ≤ pr_ar κ ∧ x = ps (c - pr_ar κ) := by
    intro x hx
    unfold pt_a0 at hx
    by_cases h : 1 ≤ pr_ar κ
    · rw [if_pos h] at hx
      cases hx
      exact ⟨h, rfl⟩
    · rw [if_neg h] at hx
      cases hx
  have hB : ∀ x, pt_b0 ps c κ = some x → pr_ar κ = 2 ∧ x = ps (c - pr_ar κ + 1) := by
    intro x hx
    unfold pt_b0 at hx
    by_cases h : pr_ar κ = 2
    · rw [if_pos h] at hx
      cases hx
      exact ⟨h, rfl⟩
    · rw [if_neg h] at hx
      cases hx
  have har := pr_ar_c κ
  constructor
  · refine pt_put_ok ht hn hk ?_ ?_ ?_ ?_ ?_ ?_ ?_ ?_ ?_
    · intro h
      rw [if_pos (by omega)]
      exact hv h
    · intro h
      rw [if_pos (by omega)]
      exact hv2 h
    · intro h
      rw [if_neg (by omega)]
    · intro h
      unfold pt_a0
      rw [if_neg (by omega)]
    · intro h
      unfold pt_b0
      rw [if_neg (by omega)]
    · intro h
      unfold pt_a0
      rw [if_pos (by omega)]
      exact ⟨_, rfl⟩
    · intro h
      unfold pt_b0
      rw [if_pos (by omega)]
      exact ⟨_, rfl⟩
    · intro x hx
      rcases hx with hx | hx
      · obtain ⟨q1, q2⟩ := hA x hx
        rw [q2]
        exact p2 _ (by omega)
      · obtain ⟨q1, q2⟩ := hB x hx
        rw [q2]
        exact p2 _ (by omega)
    · intro x hx hx'
      obtain ⟨q1, q2⟩ := hA x hx
      obtain ⟨q3, q4⟩ := hB x hx'
      have := p3 (c - pr_ar κ) (c - pr_ar κ + 1) (by omega) (by omega)
      omega
  · have eP : ∀ i, pt_p (pt_add t ps c κ v) i = if i = pt_n t then none else if pt_a0 ps c κ = some i ∨ pt_b0 ps c κ = some i then some (pt_n t) else pt_p t i := fun _ => rfl
    have eN : pt_n (pt_add t ps c κ v) = pt_n t + 1 := rfl
    unfold pd_ok
    rw [eN]
    refine ⟨by omega, fun q hq => ?_, fun q q' h1 h2 => ?_, fun i hi hi0 => ?_, fun _ => ⟨by omega, ?_⟩⟩
    · unfold pd_add
      by_cases e : q = c - pr_ar κ
      · rw [e, pr_st_s, eP, if_pos rfl]
        exact ⟨by omega, rfl⟩
      · rw [pr_st_n e, eP]
        have h := p2 q (by omega)
        refine ⟨by omega, ?_⟩
        rw [if_neg (by omega), if_neg (fun hh => ?_)]
        · exact h.2
        · rcases hh with hh | hh
          · have := hA _ hh
            have := p3 q (c - pr_ar κ) (by omega) (by omega)
            omega
          · have := hB _ hh
            have := p3 q (c - pr_ar κ + 1) (by omega) (by omega)
            omega
    · unfold pd_add
      rw [pr_st_n (j := q) (by omega)]
      by_cases e : q' = c - pr_ar κ
      · rw [e, pr_st_s]
        exact (p2 q (by omega)).1
      · rw [pr_st_n e]
        exact p3 q q' h1 (by omega)
    · unfold pd_add
      rw [eP] at hi0
      by_cases e : i = pt_n t
      · exact ⟨c - pr_ar κ, by omega, by rw [pr_st_s]; exact e.symm⟩
      · rw [if_neg e] at hi0
        by_cases hC : pt_a0 ps c κ = some i ∨ pt_b0 ps c κ = some i
        · rw [if_pos hC] at hi0
          cases hi0
        · rw [if_neg hC] at hi0
          obtain ⟨q, hq, hq'⟩ := p4 i (by omega) hi0
          have hlt : q < c - pr_ar κ := by
            by_cases hx : q < c - pr_ar κ
            · exact hx
            · exfalso
              apply hC
              by_cases e0 : q = c - pr_ar κ
              · left
                unfold pt_a0
                rw [if_pos (by omega), ← e0, hq']
              · right
                unfold pt_b0
                rw [if_pos (by omega), show c - pr_ar κ + 1 = q by omega, hq']
          exact ⟨q, by omega, by rw [pr_st_n (by omega)]; exact hq'⟩
    · unfold pd_add
      rw [show c - pr_ar κ + 1 - 1 = c - pr_ar κ by omega, pr_st_s]
def pt_0 : pr_PT := (0, fun _ => 0, fun _ => 0, fun _ => none, fun _ => none, fun _ => none)
theorem pt_0_ok : pt_ok pt_0 := ⟨by show 0 ≤ 8; omega, fun i hi => absurd hi (by show ¬ i < 0; omega)⟩
theorem pd_0_ok (ps : Nat → Nat) : pd_ok pt_0 ps 0 := ⟨by show 0 ≤ 0; omega, fun q hq => absurd hq (by omega), fun q q' _ h => absurd h (by omega), fun i hi _ => absurd hi (by show ¬ i < 0; omega), fun h => absurd h (by show ¬ 0 < 0; omega)⟩
/-- a finished tree: every node but the root has its parent -/
def pt_fin (t : pr_PT) : Prop := 0 < pt_n t ∧ pt_p t (pt_n t - 1) = none ∧ ∀ i, i + 1 < pt_n t → ∃ q, pt_p t i = some q
theorem pd_fin {t : pr_PT} {ps : Nat → Nat} (hp : pd_ok t ps 1) : pt_fin t := by
  obtain ⟨p1, p2, p3, p4, p5⟩ := hp
  have h := p5 (by omega)
  have h0 := p2 0 (by omega)
  have e : ps 0 = pt_n t - 1 := by
    have := h.2
    rw [show (1 : Nat) - 1 = 0 from rfl] at this
    omega
  refine ⟨by omega, e ▸ h0.2, fun i hi => ?_⟩
  cases hc : pt_p t i with
  | some q => exact ⟨q, rfl⟩
  | none =>
    obtain ⟨q, hq, hq'⟩ := p4 i (by omega) hc
    have : q = 0 := by omega
    subst this
    omega
/-! tables by their equations -/
def pr_tb {α : Type} (d : α) (F : (Nat → α) → Nat → α) : Nat → Nat → α
  | 0 => fun _ => d
  | i + 1 => fun j => if j = i then F (pr_tb d F i) i else pr_tb d F i j
theorem pr_tb_ge {α : Type} {d : α} {F : (Nat → α) → Nat → α} {j : Nat} : ∀ {i m : Nat}, j < i → i ≤ m → pr_tb d F m j = pr_tb d F i j := by
  intro i m hj hm
  induction m with
  | zero => omega
  | succ m ih =>
    by_cases e : i = m + 1
    · rw [e]
    · show (if j = m then F (pr_tb d F m) m else pr_tb d F m j) = _
      rw [if_neg (by omega)]
      exact ih (by omega)
theorem pr_tb_at {α : Type} {d : α} {F : (Nat → α) → Nat → α} {i m : Nat} (h : i < m) (hF : ∀ g g' : Nat → α, (∀ c, c < i → g c = g' c) → F g i = F g' i) : pr_tb d F m i = F (pr_tb d F m) i := by
  rw [pr_tb_ge (i := i + 1) (by omega) (by omega)]
  show (if i = i then F (pr_tb d F i) i else _) = _
  rw [if_pos rfl]
  exact hF _ _ fun c hc => (pr_tb_ge hc (by omega)).symm
def pt_hs (t : pr_PT) (κ j : Nat) : Nat → Bool
  | 0 => false
  | i + 1 => pt_hs t κ j i || (decide (pt_k t i = κ) && decide (pt_v t i = j))
def pt_has (t : pr_PT) (κ j : Nat) : Bool := pt_hs t κ j (pt_n t)
theorem pt_hs_t {t : pr_PT} {κ j : Nat} : ∀ {m : Nat}, pt_hs t κ j m = true ↔ ∃ i, i < m ∧ pt_k t i = κ ∧ pt_v t i = j
  | 0 => ⟨fun h => (nomatch h), fun ⟨i, h, _⟩ => absurd h (by omega)⟩
  | m + 1 => by
    show (pt_hs t κ j m || (decide (pt_k t m = κ) && decide (pt_v t m = j))) = true ↔ _
    rw [Bool.or_eq_true, Bool.and_eq_true, decide_eq_true_eq, decide_eq_true_eq, pt_hs_t (m := m)]
    constructor
    · rintro (⟨i, h, h'⟩ | h)
      · exact ⟨i, by omega, h'⟩
      · exact ⟨m, by omega, h⟩
    · rintro ⟨i, h, h'⟩
      by_cases e : i = m
      · rw [e] at h'
        exact Or.inr h'
      · exact Or.inl ⟨i, by omega, h'⟩
theorem pt_has_t {t : pr_PT} {κ j : Nat} : pt_has t κ j = true ↔ ∃ i, i < pt_n t ∧ pt_k t i = κ ∧ pt_v t i = j := pt_hs_t
theorem pt_has_f {t : pr_PT} {κ j : Nat} : pt_has t κ j = false ↔ ∀ i, i < pt_n t → ¬ (pt_k t i = κ ∧ pt_v t i = j) := by
  rw [← Bool.not_eq_true, pt_has_t]
  exact ⟨fun h i hi he => h ⟨i, hi, he⟩, fun h ⟨i, hi, he⟩ => h i hi he⟩
def pr_ob (g : Nat → Bool) (o : Option Nat) : Bool := match o with
  | none => true
  | some c => g c
def pt_cF (t : pr_PT) (C : Nat → Bool) (g : Nat → Bool) (i : Nat) : Bool :=
  if pt_k t i = 13 then C (pt_v t i) else pr_ob g (pt_a t i) && pr_ob g (pt_b t i)
def pt_cv (t : pr_PT) (C : Nat → Bool) : Nat → Bool := pr_tb false (pt_cF t C) 8
def pt_vF (t : pr_PT) (v0 v1 : Int32) (g : Nat → Int32) (i : Nat) : Int32 :=
  if pt_k t i = 11 then nI (pt_v t i) else if 13 ≤ pt_k t i then (if pt_v t i = 0 then v0 else v1) else pr_op (pt_k t i) (pr_ov g (pt_a t i)) (pr_ov g (pt_b t i))
def pt_tv (t : pr_PT) (v0 v1 : Int32) : Nat → Int32 := pr_tb 0 (pt_vF t v0 v1) 8
theorem pr_ob_congr {g h : Nat → Bool} {o : Option Nat} (e : ∀ c, o = some c → g c = h c) : pr_ob g o = pr_ob h o := by
  cases o with
  | none => rfl
  | some c => exact e c rfl
theorem pt_cv_eq {t : pr_PT} {C : Nat → Bool} (ht : pt_ok t) {i : Nat} (hi : i < pt_n t) : pt_cv t C i = pt_cF t C (pt_cv t C) i := by
  refine pr_tb_at (by have := ht.1; omega) fun g g' h => ?_
  have h9 := (ht.2 i hi).2.2.2.2.2.2.2.2.1
  unfold pt_cF
  rw [pr_ob_congr (o := pt_a t i) (fun c hc => h c (h9 c (Or.inl hc)).1), pr_ob_congr (o := pt_b t i) (fun c hc => h c (h9 c (Or.inr hc)).1)]
theorem pt_tv_eq {t : pr_PT} {v0 v1 : Int32} (ht : pt_ok t) {i : Nat} (hi : i < pt_n t) : pt_tv t v0 v1 i = pt_vF t v0 v1 (pt_tv t v0 v1) i := by
  refine pr_tb_at (by have := ht.1; omega) fun g g' h => ?_
  have h9 := (ht.2 i hi).2.2.2.2.2.2.2.2.1
  unfold pt_vF
  rw [pr_ov_congr (o := pt_a t i) (fun c hc => h c (h9 c (Or.inl hc)).1), pr_ov_congr (o := pt_b t i) (fun c hc => h c (h9 c (Or.inr hc)).1)]
def pt_mx (t : pr_PT) (C : Nat → Bool) (i : Nat) : Bool := pt_cv t C i && (match pt_p t i with
  | none => true
  | some q => !pt_cv t C q)
/-- a constant-valued node's value looks at the CVARs alone -/
theorem pt_tv_c {t : pr_PT} {C : Nat → Bool} (ht : pt_ok t) (h14 : ∀ i, i < pt_n t → pt_k t i ≠ 14) {v0 v1 w0 w1 : Int32} (h0 : C 0 = true → v0 = w0) (h1 : C 1 = true → v1 = w1) : ∀ i, i < pt_n t → pt_cv t C i = true → pt_tv t v0 v1 i = pt_tv t w0 w1 i := by
  intro i
  induction i using Nat.strongRecOn with
  | ind i ih =>
    intro hi hc
    rw [pt_cv_eq ht hi] at hc
    rw [pt_tv_eq ht hi, pt_tv_eq ht hi]
    have hk := ht.2 i hi
    have h9 := hk.2.2.2.2.2.2.2.2.1
    unfold pt_cF at hc
    unfold pt_vF
    by_cases h11 : pt_k t i = 11
    · rw [if_pos h11, if_pos h11]
    · rw [if_neg h11, if_neg h11]
      by_cases h13 : 13 ≤ pt_k t i
      · have e13 : pt_k t i = 13 := by
          have := h14 i hi
          have := hk.1.2.1
          omega
        rw [if_pos h13, if_pos h13]
        rw [if_pos e13] at hc
        have hv := hk.2.2.1 h13
        by_cases e : pt_v t i = 0
        · rw [if_pos e, if_pos e]
          rw [e] at hc
          exact h0 hc
        · rw [if_neg e, if_neg e]
          rw [show pt_v t i = 1 by omega] at hc
          exact h1 hc
      · rw [if_neg h13, if_neg h13]
        rw [if_neg (by omega), Bool.and_eq_true] at hc
        have f : ∀ o : Option Nat, (∀ c, o = some c → pt_a t i = some c ∨ pt_b t i = some c) → pr_ob (pt_cv t C) o = true → pr_ov (pt_tv t v0 v1) o = pr_ov (pt_tv t w0 w1) o := by
          intro o ho hb
          refine pr_ov_congr fun c hc => ?_
          subst hc
          have hlt := (h9 c (ho c rfl)).1
          exact ih c hlt (by omega) hb
        rw [f _ (fun c hc => Or.inl hc) hc.1, f _ (fun c hc => Or.inr hc) hc.2]
theorem pt_tv_by {t : pr_PT} (ht : pt_ok t) {v0 v1 : Int32} (h0 : pr_by v0) (h1 : pr_by v1) : ∀ i, i < pt_n t → pr_by (pt_tv t v0 v1 i) := by
  intro i
  induction i using Nat.strongRecOn with
  | ind i ih =>
    intro hi
    rw [pt_tv_eq ht hi]
    have hk := ht.2 i hi
    have h9 := hk.2.2.2.2.2.2.2.2.1
    unfold pt_vF
    by_cases h11 : pt_k t i = 11
    · rw [if_pos h11]
      exact ⟨_, hk.2.1 h11, rfl⟩
    · rw [if_neg h11]
      by_cases h13 : 13 ≤ pt_k t i
      · rw [if_pos h13]
        by_cases e : pt_v t i = 0
        · rw [if_pos e]
          exact h0
        · rw [if_neg e]
          exact h1
      · rw [if_neg h13]
        have f : ∀ o : Option Nat, (∀ c, o = some c → pt_a t i = some c ∨ pt_b t i = some c) → pr_by (pr_ov (pt_tv t v0 v1) o) := by
          intro o ho
          cases o with
          | none => exact pr_by_0
          | some c => exact ih c (h9 c (ho c rfl)).1 (by have := (h9 c (ho c rfl)).1; omega)
        exact pr_by_op (f _ fun c hc => Or.inl hc) (f _ fun c hc => Or.inr hc)
/-- the sums of a rule -/
def pt_pw (t : pr_PT) : Nat := pr_rs (fun i => pr_w (pt_k t i)) 0 (pt_n t)
def pt_rw (t : pr_PT) (C : Nat → Bool) : Nat := pr_rs (fun i => if pt_cv t C i then 0 else pr_w (pt_k t i)) 0 (pt_n t)
def pt_rm1 (t : pr_PT) (C : Nat → Bool) (i : Nat) : Nat := if pt_cv t C i = false ∨ (pt_mx t C i = true ∧ pt_k t i ≠ 13) then 1 else 0
def pt_rm (t : pr_PT) (C : Nat → Bool) : Nat := pr_rs (pt_rm1 t C) 0 (pt_n t)
