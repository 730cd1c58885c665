/-! building the replacement, pure -/
abbrev pb_S : Type := (Nat → Nat) × (Nat → Int32) × (Nat → Option Nat) × (Nat → Option Nat) × (Nat → Option Nat)
def pr_lf (K : Nat → Nat) : Nat → Nat → Nat
  | 0, s => s
  | f + 1, s => if K s = 0 then s else pr_lf K f (s + 1)
def pr_fr (K : Nat → Nat) : Nat := pr_lf K 31 0
theorem pr_lf_ok {K : Nat → Nat} : ∀ f s, (∃ x, s ≤ x ∧ x ≤ s + f ∧ K x = 0) → K (pr_lf K f s) = 0 ∧ pr_lf K f s ≤ s + f ∧ s ≤ pr_lf K f s ∧ ∀ y, s ≤ y → y < pr_lf K f s → K y ≠ 0 := by
  intro f
  induction f with
  | zero =>
    intro s ⟨x, h1, h2, h3⟩
    have : x = s := by omega
    subst this
    exact ⟨h3, Nat.le_refl _, Nat.le_refl _, fun y a b => absurd b (by show ¬ y < x; omega)⟩
  | succ f ih =>
    intro s ⟨x, h1, h2, h3⟩
    show K (if K s = 0 then s else pr_lf K f (s + 1)) = 0 ∧ (if K s = 0 then s else pr_lf K f (s + 1)) ≤ s + (f + 1) ∧ s ≤ (if K s = 0 then s else pr_lf K f (s + 1)) ∧ ∀ y, s ≤ y → y < (if K s = 0 then s else pr_lf K f (s + 1)) → K y ≠ 0
    by_cases h : K s = 0
    · rw [if_pos h]
      exact ⟨h, by omega, Nat.le_refl _, fun y a b => absurd b (by omega)⟩
    · rw [if_neg h]
      have hx : x ≠ s := fun e => h (e ▸ h3)
      obtain ⟨a, b, c, d⟩ := ih (s + 1) ⟨x, by omega, by omega, h3⟩
      refine ⟨a, by omega, by omega, fun y e1 e2 => ?_⟩
      by_cases e : y = s
      · rw [e]
        exact h
      · exact d y (by omega) e2
theorem pr_fr_ok {K : Nat → Nat} (h : ∃ x, x < 32 ∧ K x = 0) : K (pr_fr K) = 0 ∧ pr_fr K < 32 ∧ ∀ y, y < pr_fr K → K y ≠ 0 := by
  obtain ⟨x, h1, h2⟩ := h
  obtain ⟨a, b, c, d⟩ := pr_lf_ok (K := K) 31 0 ⟨x, by omega, by omega, h2⟩
  exact ⟨a, by show pr_lf K 31 0 < 32; omega, fun y hy => d y (by omega) hy⟩
theorem pr_rs_c (c lo : Nat) : ∀ n : Nat, pr_rs (fun _ => c) lo n = n * c
  | 0 => by
    show 0 = 0 * c
    omega
  | n + 1 => by
    show pr_rs (fun _ => c) lo n + c = (n + 1) * c
    rw [pr_rs_c c lo n, Nat.add_mul]
    omega
theorem pr_rs_pt {f g : Nat → Nat} {lo a n d : Nat} (ha : lo ≤ a) (hb : a < lo + n) (h1 : g a = f a + d) (h2 : ∀ x, x ≠ a → g x = f x) : pr_rs g lo n = pr_rs f lo n + d := by
  have h := pr_rs_one (lo := lo) (a := a) d ha n
  rw [if_pos hb] at h
  rw [← h, ← pr_rs_add]
  refine pr_rs_congr fun x _ _ => ?_
  by_cases e : x = a
  · subst e
    rw [if_pos rfl]
    exact h1
  · rw [if_neg e, h2 x e]
    rfl
def pr_ct (K : Nat → Nat) : Nat := pr_rs (fun x => if K x = 0 then 0 else 1) 0 32
theorem pr_ct_free {K : Nat → Nat} (h : pr_ct K < 32) : ∃ x, x < 32 ∧ K x = 0 := by
  apply Classical.byContradiction
  intro hn
  have : pr_ct K = pr_rs (fun _ => 1) 0 32 := pr_rs_congr fun x _ hx => by
    show (if K x = 0 then 0 else 1) = 1
    rw [if_neg (fun h0 => hn ⟨x, by omega, h0⟩)]
  rw [pr_rs_c] at this
  omega
theorem pr_rs_up {f : Nat → Nat} {lo i : Nat} : ∀ {n : Nat}, i ≤ n → pr_rs f lo i ≤ pr_rs f lo n
  | 0, h => by
    rw [show i = 0 by omega]
    exact Nat.le_refl _
  | n + 1, h => by
    by_cases e : i = n + 1
    · rw [e]
      exact Nat.le_refl _
    · have := pr_rs_up (f := f) (lo := lo) (i := i) (n := n) (by omega)
      show pr_rs f lo i ≤ pr_rs f lo n + f (lo + n)
      omega
def pr_or (res : Nat → Option Nat) (o : Option Nat) : Option Nat := match o with
  | none => none
  | some c => res c
def pb_new (i κ : Nat) (v : Int32) (a b : Option Nat) (s : pb_S) : pb_S :=
  (pr_st s.1 (pr_fr s.1) κ, pr_st s.2.1 (pr_fr s.1) v, pr_st s.2.2.1 (pr_fr s.1) a, pr_st s.2.2.2.1 (pr_fr s.1) b, pr_st s.2.2.2.2 i (some (pr_fr s.1)))
def pb_st (R : pr_PT) (C : Nat → Bool) (tv : Nat → Int32) (bd : Nat → Option Nat) (i : Nat) (s : pb_S) : pb_S :=
  if pt_cv R C i = true ∧ pt_mx R C i = false then s
  else if pt_k R i = 13 then (s.1, s.2.1, s.2.2.1, s.2.2.2.1, pr_st s.2.2.2.2 i (bd (pt_v R i)))
  else if pt_cv R C i = true then pb_new i 11 (tv i) none none s
  else pb_new i (pt_k R i) 0 (pr_or s.2.2.2.2 (pt_a R i)) (pr_or s.2.2.2.2 (pt_b R i)) s
def pb_run (R : pr_PT) (C : Nat → Bool) (tv : Nat → Int32) (bd : Nat → Option Nat) : Nat → pb_S → pb_S
  | 0, s => s
  | i + 1, s => pb_st R C tv bd i (pb_run R C tv bd i s)
def pb_sk (R : pr_PT) (C : Nat → Bool) (q : Nat) : Prop := pt_cv R C q = true ∧ pt_mx R C q = false
def pb_nw (K0 : Nat → Nat) (bd : Nat → Option Nat) (β i : Nat) (s : pb_S) (ρ : Nat → Nat) (x : Nat) : Prop :=
  s.1 x ≤ 11 ∧ pr_by (s.2.1 x) ∧ (s.1 x ≤ 10 → s.2.1 x = 0) ∧ (11 ≤ s.1 x → s.2.2.1 x = none) ∧ (9 ≤ s.1 x → s.2.2.2.1 x = none) ∧ (s.1 x ≤ 10 → ∃ c, s.2.2.1 x = some c) ∧ (s.1 x ≤ 8 → ∃ c, s.2.2.2.1 x = some c) ∧ ρ x ≤ β + i ∧
  ∀ c, (s.2.2.1 x = some c ∨ s.2.2.2.1 x = some c) → pr_T 0 s.1 c ∧ ρ c < ρ x ∧ (K0 c = 0 ∨ ∃ j, bd j = some c)
def pb_rs (K0 : Nat → Nat) (bd : Nat → Option Nat) (β : Nat) (s : pb_S) (ρ : Nat → Nat) (q : Nat) : Prop :=
  ∃ y, s.2.2.2.2 q = some y ∧ pr_T 0 s.1 y ∧ ρ y ≤ β + q + 1 ∧ (K0 y = 0 ∨ ∃ j, bd j = some y)
def pb_ws (Lo : List Nat) (K : Nat → Nat) : Nat := pr_rs (fun x => if x ∈ Lo then 0 else pr_w (K x)) 0 32
def pb_inv (K0 : Nat → Nat) (V0 : Nat → Int32) (A0 B0 : Nat → Option Nat) (rk : Nat → Nat) (bd : Nat → Option Nat) (R : pr_PT) (C : Nat → Bool) (Lo : List Nat) (β i : Nat) (s : pb_S) (ρ : Nat → Nat) : Prop :=
  (∀ x, K0 x ≠ 0 → s.1 x = K0 x ∧ s.2.1 x = V0 x ∧ s.2.2.1 x = A0 x ∧ s.2.2.2.1 x = B0 x ∧ ρ x = 16 * rk x) ∧
  (∀ x, K0 x = 0 → s.1 x ≠ 0 → x < 32 ∧ pb_nw K0 bd β i s ρ x) ∧
  (∀ q, q < i → ¬ pb_sk R C q → pb_rs K0 bd β s ρ q) ∧
  pr_ct s.1 ≤ pr_ct K0 + pr_rs (pt_rm1 R C) 0 i ∧
  pb_ws Lo s.1 = pb_ws Lo K0 + pr_rs (fun q => if pt_cv R C q then 0 else pr_w (pt_k R q)) 0 i
section PBS
variable {K0 : Nat → Nat} {V0 : Nat → Int32} {A0 B0 : Nat → Option Nat} {rk : Nat → Nat} {bd : Nat → Option Nat} {R : pr_PT} {C : Nat → Bool} {Lo : List Nat} {β : Nat} {tv : Nat → Int32}
theorem pb_inv0 : pb_inv K0 V0 A0 B0 rk bd R C Lo β 0 (K0, V0, A0, B0, fun _ => none) (fun x => 16 * rk x) :=
  ⟨fun _ _ => ⟨rfl, rfl, rfl, rfl, rfl⟩, fun x h h' => absurd h h', fun q h => absurd h (by omega), Nat.le_refl _, rfl⟩
theorem pb_newi {i κ : Nat} {v : Int32} {a b : Option Nat} {s : pb_S} {ρ : Nat → Nat} (hct : pr_ct K0 + pt_rm R C ≤ 32) (hi : i < pt_n R) (hm : pt_rm1 R C i = 1) (hlo : ∀ x, x ∈ Lo → K0 x ≠ 0)
    (hκ : 1 ≤ κ ∧ κ ≤ 11) (hv : pr_by v) (hv0 : κ ≤ 10 → v = 0) (ha : 11 ≤ κ → a = none) (hb : 9 ≤ κ → b = none) (ha' : κ ≤ 10 → ∃ c, a = some c) (hb' : κ ≤ 8 → ∃ c, b = some c)
    (hc : ∀ c, a = some c ∨ b = some c → pr_T 0 s.1 c ∧ ρ c ≤ β + i ∧ (K0 c = 0 ∨ ∃ j, bd j = some c))
    (hw : (if pt_cv R C i then 0 else pr_w (pt_k R i)) = pr_w κ)
    (h : pb_inv K0 V0 A0 B0 rk bd R C Lo β i s ρ) : pb_inv K0 V0 A0 B0 rk bd R C Lo β (i + 1) (pb_new i κ v a b s) (pr_st ρ (pr_fr s.1) (β + i + 1)) := by
  obtain ⟨h1, h2, h3, h4, h5⟩ := h
  have hs : pr_rs (pt_rm1 R C) 0 (i + 1) = pr_rs (pt_rm1 R C) 0 i + 1 := by
    show pr_rs (pt_rm1 R C) 0 i + pt_rm1 R C (0 + i) = _
    rw [Nat.zero_add, hm]
  have hup : pr_rs (pt_rm1 R C) 0 (i + 1) ≤ pt_rm R C := pr_rs_up (by omega)
  obtain ⟨f1, f2, f3⟩ := pr_fr_ok (K := s.1) (pr_ct_free (by omega))
  have f0 : K0 (pr_fr s.1) = 0 := by
    apply Classical.byContradiction
    intro hx
    rw [(h1 _ hx).1] at f1
    exact hx f1
  have ne : ∀ c, pr_T 0 s.1 c → c ≠ pr_fr s.1 := fun c hc e => hc.2.2 (e ▸ f1)
  have tt : ∀ c, pr_T 0 s.1 c → pr_T 0 (pr_st s.1 (pr_fr s.1) κ) c := fun c hc => ⟨hc.1, hc.2.1, by rw [pr_st_n (ne c hc)]; exact hc.2.2⟩
  refine ⟨fun x hx => ?_, fun x hx hx' => ?_, fun q hq hq' => ?_, ?_, ?_⟩
  · have e : x ≠ pr_fr s.1 := fun e => hx (e ▸ f0)
    show pr_st s.1 (pr_fr s.1) κ x = K0 x ∧ pr_st s.2.1 (pr_fr s.1) v x = V0 x ∧ pr_st s.2.2.1 (pr_fr s.1) a x = A0 x ∧ pr_st s.2.2.2.1 (pr_fr s.1) b x = B0 x ∧ pr_st ρ (pr_fr s.1) (β + i + 1) x = 16 * rk x
    rw [pr_st_n e, pr_st_n e, pr_st_n e, pr_st_n e, pr_st_n e]
    exact h1 x hx
  · unfold pb_nw
    show x < 32 ∧ pr_st s.1 (pr_fr s.1) κ x ≤ 11 ∧ pr_by (pr_st s.2.1 (pr_fr s.1) v x) ∧ (pr_st s.1 (pr_fr s.1) κ x ≤ 10 → pr_st s.2.1 (pr_fr s.1) v x = 0) ∧ (11 ≤ pr_st s.1 (pr_fr s.1) κ x → pr_st s.2.2.1 (pr_fr s.1) a x = none) ∧ (9 ≤ pr_st s.1 (pr_fr s.1) κ x → pr_st s.2.2.2.1 (pr_fr s.1) b x = none) ∧ (pr_st s.1 (pr_fr s.1) κ x ≤ 10 → ∃ c, pr_st s.2.2.1 (pr_fr s.1) a x = some c) ∧ (pr_st s.1 (pr_fr s.1) κ x ≤ 8 → ∃ c, pr_st s.2.2.2.1 (pr_fr s.1) b x = some c) ∧ pr_st ρ (pr_fr s.1) (β + i + 1) x ≤ β + (i + 1) ∧ ∀ c, (pr_st s.2.2.1 (pr_fr s.1) a x = some c ∨ pr_st s.2.2.2.1 (pr_fr s.1) b x = some c) → pr_T 0 (pr_st s.1 (pr_fr s.1) κ) c ∧ pr_st ρ (pr_fr s.1) (β + i + 1) c < pr_st ρ (pr_fr s.1) (β + i + 1) x ∧ (K0 c = 0 ∨ ∃ j, bd j = some c)
    by_cases e : x = pr_fr s.1
    · rw [e, pr_st_s, pr_st_s, pr_st_s, pr_st_s, pr_st_s]
      refine ⟨f2, hκ.2, hv, hv0, ha, hb, ha', hb', by omega, fun c hc' => ?_⟩
      obtain ⟨g1, g2, g3⟩ := hc c hc'
      rw [pr_st_n (ne c g1)]
      exact ⟨tt c g1, by omega, g3⟩
    · rw [pr_st_n e, pr_st_n e, pr_st_n e, pr_st_n e, pr_st_n e]
      replace hx' : pr_st s.1 (pr_fr s.1) κ x ≠ 0 := hx'
      rw [pr_st_n e] at hx'
      obtain ⟨g0, g1, g2, g3, g4, g5, g6, g7, g8, g9⟩ := h2 x hx hx'
      refine ⟨g0, g1, g2, g3, g4, g5, g6, g7, by omega, fun c hc' => ?_⟩
      obtain ⟨k1, k2, k3⟩ := g9 c hc'
      rw [pr_st_n (ne c k1)]
      exact ⟨tt c k1, k2, k3⟩
  · show ∃ y, pr_st s.2.2.2.2 i (some (pr_fr s.1)) q = some y ∧ pr_T 0 (pr_st s.1 (pr_fr s.1) κ) y ∧ pr_st ρ (pr_fr s.1) (β + i + 1) y ≤ β + q + 1 ∧ (K0 y = 0 ∨ ∃ j, bd j = some y)
    by_cases e : q = i
    · refine ⟨pr_fr s.1, by rw [e, pr_st_s], ⟨by omega, by omega, by rw [pr_st_s]; omega⟩, by rw [pr_st_s]; omega, Or.inl f0⟩
    · obtain ⟨y, y1, y2, y3, y4⟩ := h3 q (by omega) hq'
      exact ⟨y, by rw [pr_st_n e]; exact y1, tt y y2, by rw [pr_st_n (ne y y2)]; exact y3, y4⟩
  · rw [hs]
    have : pr_ct (pb_new i κ v a b s).1 = pr_ct s.1 + 1 := by
      refine pr_rs_pt (a := pr_fr s.1) (by omega) (by omega) ?_ (fun x hx => ?_)
      · show (if pr_st s.1 (pr_fr s.1) κ (pr_fr s.1) = 0 then 0 else 1) = (if s.1 (pr_fr s.1) = 0 then 0 else 1) + 1
        rw [pr_st_s, if_neg (by omega), if_pos f1]
      · show (if pr_st s.1 (pr_fr s.1) κ x = 0 then 0 else 1) = (if s.1 x = 0 then 0 else 1)
        rw [pr_st_n hx]
    omega
  · have e1 : pr_rs (fun q => if pt_cv R C q then 0 else pr_w (pt_k R q)) 0 (i + 1) = pr_rs (fun q => if pt_cv R C q then 0 else pr_w (pt_k R q)) 0 i + pr_w κ := by
      show pr_rs (fun q => if pt_cv R C q then 0 else pr_w (pt_k R q)) 0 i + (if pt_cv R C (0 + i) then 0 else pr_w (pt_k R (0 + i))) = _
      rw [Nat.zero_add, hw]
    have e2 : pb_ws Lo (pb_new i κ v a b s).1 = pb_ws Lo s.1 + pr_w κ := by
      have hnl : pr_fr s.1 ∉ Lo := fun hh => hlo _ hh f0
      refine pr_rs_pt (a := pr_fr s.1) (by omega) (by omega) ?_ (fun x hx => ?_)
      · show (if pr_fr s.1 ∈ Lo then 0 else pr_w (pr_st s.1 (pr_fr s.1) κ (pr_fr s.1))) = (if pr_fr s.1 ∈ Lo then 0 else pr_w (s.1 (pr_fr s.1))) + pr_w κ
        rw [if_neg hnl, if_neg hnl, pr_st_s, f1, pr_w_0 (Or.inl rfl)]
        omega
      · show (if x ∈ Lo then 0 else pr_w (pr_st s.1 (pr_fr s.1) κ x)) = (if x ∈ Lo then 0 else pr_w (s.1 x))
        rw [pr_st_n hx]
    omega
theorem pb_step {i : Nat} {s : pb_S} {ρ : Nat → Nat} (hR : pt_ok R) (h14 : ∀ i, i < pt_n R → pt_k R i ≠ 14) (hct : pr_ct K0 + pt_rm R C ≤ 32) (hi : i < pt_n R) (hlo : ∀ x, x ∈ Lo → K0 x ≠ 0)
    (htv : ∀ q, q < pt_n R → pr_by (tv q)) (hbd : ∀ q, q < pt_n R → pt_k R q = 13 → ∃ y, bd (pt_v R q) = some y ∧ pr_T 0 K0 y ∧ 16 * rk y ≤ β)
    (h : pb_inv K0 V0 A0 B0 rk bd R C Lo β i s ρ) : ∃ ρ', pb_inv K0 V0 A0 B0 rk bd R C Lo β (i + 1) (pb_st R C tv bd i s) ρ' := by
  have hn := hR.2 i hi
  unfold pb_st
  by_cases hsk : pt_cv R C i = true ∧ pt_mx R C i = false
  · rw [if_pos hsk]
    obtain ⟨h1, h2, h3, h4, h5⟩ := h
    refine ⟨ρ, h1, fun x a b => ?_, fun q hq hq' => ?_, ?_, ?_⟩
    · obtain ⟨g0, g1, g2, g3, g4, g5, g6, g7, g8, g9⟩ := h2 x a b
      exact ⟨g0, g1, g2, g3, g4, g5, g6, g7, by omega, g9⟩
    · by_cases e : q = i
      · rw [e] at hq'
        exact absurd hsk hq'
      · exact h3 q (by omega) hq'
    · have : pr_rs (pt_rm1 R C) 0 i ≤ pr_rs (pt_rm1 R C) 0 (i + 1) := pr_rs_up (by omega)
      omega
    · show pb_ws Lo s.1 = pb_ws Lo K0 + (pr_rs (fun q => if pt_cv R C q then 0 else pr_w (pt_k R q)) 0 i + (if pt_cv R C (0 + i) then 0 else pr_w (pt_k R (0 + i))))
      rw [Nat.zero_add, if_pos hsk.1]
      omega
  · rw [if_neg hsk]
    by_cases h13 : pt_k R i = 13
    · rw [if_pos h13]
      obtain ⟨h1, h2, h3, h4, h5⟩ := h
      refine ⟨ρ, h1, fun x a b => ?_, fun q hq hq' => ?_, ?_, ?_⟩
      · obtain ⟨g0, g1, g2, g3, g4, g5, g6, g7, g8, g9⟩ := h2 x a b
        exact ⟨g0, g1, g2, g3, g4, g5, g6, g7, by show ρ x ≤ β + (i + 1); omega, g9⟩
      · show ∃ y, pr_st s.2.2.2.2 i (bd (pt_v R i)) q = some y ∧ pr_T 0 s.1 y ∧ ρ y ≤ β + q + 1 ∧ (K0 y = 0 ∨ ∃ j, bd j = some y)
        by_cases e : q = i
        · subst e
          obtain ⟨y, y1, y2, y3⟩ := hbd q hi h13
          obtain ⟨k1, _, _, _, k5⟩ := h1 y y2.2.2
          exact ⟨y, by rw [pr_st_s]; exact y1, ⟨y2.1, y2.2.1, by rw [k1]; exact y2.2.2⟩, by rw [k5]; omega, Or.inr ⟨_, y1⟩⟩
        · obtain ⟨y, y1, y2, y3, y4⟩ := h3 q (by omega) hq'
          exact ⟨y, by rw [pr_st_n e]; exact y1, y2, y3, y4⟩
      · have : pr_rs (pt_rm1 R C) 0 i ≤ pr_rs (pt_rm1 R C) 0 (i + 1) := pr_rs_up (by omega)
        show pr_ct s.1 ≤ _
        omega
      · show pb_ws Lo s.1 = pb_ws Lo K0 + (pr_rs (fun q => if pt_cv R C q then 0 else pr_w (pt_k R q)) 0 i + (if pt_cv R C (0 + i) then 0 else pr_w (pt_k R (0 + i))))
        rw [Nat.zero_add, h13, pr_w_0 (by omega)]
        have : (if pt_cv R C i = true then 0 else 0) = 0 := by
          by_cases hx : pt_cv R C i = true
          · rw [if_pos hx]
          · rw [if_neg hx]
        omega
    · rw [if_neg h13]
      by_cases hc : pt_cv R C i = true
      · rw [if_pos hc]
        have hmx : pt_mx R C i = true := by
          cases hx : pt_mx R C i with
          | true => rfl
          | false => exact absurd ⟨hc, hx⟩ hsk
        refine ⟨_, pb_newi hct hi ?_ hlo ⟨by omega, by omega⟩ (htv i hi) (fun h => absurd h (by omega)) (fun _ => rfl) (fun _ => rfl) (fun h => absurd h (by omega)) (fun h => absurd h (by omega)) (fun c hc => by rcases hc with x | x <;> cases x) ?_ h⟩
        · unfold pt_rm1
          rw [if_pos (Or.inr ⟨hmx, h13⟩)]
        · rw [if_pos hc, pr_w_0 (by omega)]
      · rw [if_neg hc]
        have hcf : pt_cv R C i = false := by
          cases hx : pt_cv R C i with
          | true => exact absurd hx hc
          | false => rfl
        have hk10 : pt_k R i ≤ 10 := by
          apply Classical.byContradiction
          intro hk
          have h11 : pt_k R i = 11 := by
            have := hn.1
            have := h14 i hi
            omega
          rw [pt_cv_eq hR hi] at hcf
          unfold pt_cF at hcf
          rw [if_neg h13, hn.2.2.2.2.1 (by omega), hn.2.2.2.2.2.1 (by omega)] at hcf
          cases hcf
        have hch : ∀ c, pt_a R i = some c ∨ pt_b R i = some c → pb_rs K0 bd β s ρ c ∧ c < i := by
          intro c hc'
          have h9 := hn.2.2.2.2.2.2.2.2.1 c hc'
          refine ⟨h.2.2.1 c h9.1 (fun hs => ?_), h9.1⟩
          have := hs.2
          unfold pt_mx at this
          rw [hs.1, h9.2] at this
          replace this : (true && !pt_cv R C i) = false := this
          rw [hcf] at this
          cases this
        refine ⟨_, pb_newi hct hi ?_ hlo ⟨hn.1.1, by omega⟩ pr_by_0 (fun _ => rfl) (fun h => absurd h (by omega)) (fun h9 => ?_) (fun _ => ?_) (fun h8 => ?_) (fun c hc' => ?_) ?_ h⟩
        · unfold pt_rm1
          rw [if_pos (Or.inl hcf)]
        · rw [hn.2.2.2.2.2.1 h9]
          rfl
        · obtain ⟨c, hc'⟩ := hn.2.2.2.2.2.2.1 hk10
          obtain ⟨⟨y, y1, _⟩, _⟩ := hch c (Or.inl hc')
          rw [hc']
          exact ⟨y, y1⟩
        · obtain ⟨c, hc'⟩ := hn.2.2.2.2.2.2.2.1 h8
          obtain ⟨⟨y, y1, _⟩, _⟩ := hch c (Or.inr hc')
          rw [hc']
          exact ⟨y, y1⟩
        · have aux : ∀ o : Option Nat, (∀ x, o = some x → pt_a R i = some x ∨ pt_b R i = some x) → pr_or s.2.2.2.2 o = some c → pr_T 0 s.1 c ∧ ρ c ≤ β + i ∧ (K0 c = 0 ∨ ∃ j, bd j = some c) := by
            intro o ho e
            cases o with
            | none => cases e
            | some x =>
              obtain ⟨⟨y, y1, y2, y3, y4⟩, hx⟩ := hch x (ho x rfl)
              replace e : s.2.2.2.2 x = some c := e
              rw [y1] at e
              cases e
              exact ⟨y2, by omega, y4⟩
          rcases hc' with x | x
          · exact aux _ (fun x hx => Or.inl hx) x
          · exact aux _ (fun x hx => Or.inr hx) x
        · rw [if_neg hc]
theorem pb_all {s0 : pb_S} (hR : pt_ok R) (h14 : ∀ i, i < pt_n R → pt_k R i ≠ 14) (hct : pr_ct K0 + pt_rm R C ≤ 32) (hlo : ∀ x, x ∈ Lo → K0 x ≠ 0)
    (htv : ∀ q, q < pt_n R → pr_by (tv q)) (hbd : ∀ q, q < pt_n R → pt_k R q = 13 → ∃ y, bd (pt_v R q) = some y ∧ pr_T 0 K0 y ∧ 16 * rk y ≤ β)
    (hs : s0 = (K0, V0, A0, B0, fun _ => none)) : ∀ i, i ≤ pt_n R → ∃ ρ, pb_inv K0 V0 A0 B0 rk bd R C Lo β i (pb_run R C tv bd i s0) ρ := by
  intro i
  induction i with
  | zero =>
    intro _
    rw [hs]
    exact ⟨_, pb_inv0⟩
  | succ i ih =>
    intro hi
    obtain ⟨ρ, h⟩ := ih (by omega)
    exact pb_step hR h14 hct (by omega) hlo htv hbd h
end PBS
