/-! one search, pure -/
def pb_fr (R : pr_PT) (C : Nat → Bool) (i : Nat) (s : pb_S) : Prop := pt_rm1 R C i = 1 → ∃ x, x < 32 ∧ s.1 x = 0
theorem pb_fr_of {K0 : Nat → Nat} {V0 : Nat → Int32} {A0 B0 : Nat → Option Nat} {rk : Nat → Nat} {bd : Nat → Option Nat} {R : pr_PT} {C : Nat → Bool} {Lo : List Nat} {β i : Nat} {s : pb_S} {ρ : Nat → Nat} (hct : pr_ct K0 + pt_rm R C ≤ 32) (hi : i < pt_n R) (h : pb_inv K0 V0 A0 B0 rk bd R C Lo β i s ρ) : pb_fr R C i s := by
  intro hm
  have hs : pr_rs (pt_rm1 R C) 0 (i + 1) = pr_rs (pt_rm1 R C) 0 i + 1 := by
    show pr_rs (pt_rm1 R C) 0 i + pt_rm1 R C (0 + i) = _
    rw [Nat.zero_add, hm]
  have hup : pr_rs (pt_rm1 R C) 0 (i + 1) ≤ pt_rm R C := pr_rs_up (by omega)
  have := h.2.2.2.1
  exact pr_ct_free (by omega)
def sr_m (mN : Nat) (P R : Nat → pr_PT) (rl rj rK : Nat → Nat) (K : Nat → Nat) (V : Nat → Int32) (A B : Nat → Option Nat) (us : Nat → Nat) (ln r n : Nat) : Option pm_S :=
  if ln + pt_rm (R r) (pt_has (P r) 14) ≤ mN then (match pm_run K V A B us (P r) (pt_n (P r)) (fun _ => n, fun _ => none) with
    | none => none
    | some s => if pr_ph (rl r) (rj r) (rK r) (by_v K V s.2 0) (by_v K V s.2 1) = true then some s else none) else none
def sr_f (rc : Nat) (L : List Nat) (m : Nat → Nat → Option pm_S) (i r : Nat) (s : pm_S) : Prop := i < L.length ∧ r < rc ∧ m r (L.getD i 0) = some s ∧ (∀ i' r', i' < i → r' < rc → m r' (L.getD i' 0) = none) ∧ ∀ r', r' < r → m r' (L.getD i 0) = none
def sr_0 (rc : Nat) (L : List Nat) (m : Nat → Nat → Option pm_S) : Prop := ∀ i r, i < L.length → r < rc → m r (L.getD i 0) = none
theorem sr_u {rc : Nat} {L : List Nat} {m : Nat → Nat → Option pm_S} {i r i' r' : Nat} {s s' : pm_S} (h : sr_f rc L m i r s) (h' : sr_f rc L m i' r' s') : i = i' ∧ r = r' ∧ s = s' := by
  obtain ⟨h1, h2, h3, h4, h5⟩ := h
  obtain ⟨k1, k2, k3, k4, k5⟩ := h'
  have e : i = i' := by
    apply Classical.byContradiction
    intro hne
    by_cases hl : i < i'
    · have := k4 i r hl h2
      rw [h3] at this
      cases this
    · have := h4 i' r' (by omega) k2
      rw [k3] at this
      cases this
  subst e
  have e2 : r = r' := by
    apply Classical.byContradiction
    intro hne
    by_cases hl : r < r'
    · have := k5 r hl
      rw [h3] at this
      cases this
    · have := h5 r' (by omega)
      rw [k3] at this
      cases this
  subst e2
  rw [h3] at k3
  exact ⟨rfl, rfl, Option.some.inj k3⟩
theorem sr_0f {rc : Nat} {L : List Nat} {m : Nat → Nat → Option pm_S} {i r : Nat} {s : pm_S} (h : sr_f rc L m i r s) (h0 : sr_0 rc L m) : False := by
  have := h0 i r h.1 h.2.1
  rw [h.2.2.1] at this
  cases this
theorem pr_ph_0 {rl rj rK : Nat} {v0 v1 : Int32} (e : rl = 0) : pr_ph rl rj rK v0 v1 = true := by
  unfold pr_ph
  rw [if_neg (by omega), if_neg (by omega), if_neg (by omega), if_neg (by omega)]
theorem pr_ph_eq {rl rj rK : Nat} {v0 v1 w0 w1 : Int32} (h : rl ≠ 0 → (rj = 0 → v0 = w0) ∧ (rj ≠ 0 → v1 = w1)) : pr_ph rl rj rK v0 v1 = pr_ph rl rj rK w0 w1 := by
  by_cases e : rl = 0
  · rw [pr_ph_0 e, pr_ph_0 e]
  · obtain ⟨h0, h1⟩ := h e
    unfold pr_ph
    by_cases ej : rj = 0
    · rw [if_pos ej, if_pos ej, h0 ej]
    · rw [if_neg ej, if_neg ej, h1 ej]
/-- a matched CVAR is bound to a CONST -/
theorem pm_cv {K : Nat → Nat} {V : Nat → Int32} {A B : Nat → Option Nat} {us : Nat → Nat} {P : pr_PT} {R : Nat} {s : pm_S} (h : pm_inv K V A B us P R 0 s) {j : Nat} (hj : pt_has P 14 j = true) : ∃ d, s.2 j = some d ∧ K d = 11 := by
  obtain ⟨p, p1, p2, p3⟩ := pt_has_t.mp hj
  have := (h.2.1 p (by omega) p1).2.2.1 (by omega)
  rw [p3] at this
  exact ⟨_, this.1, this.2 p2⟩
theorem bxy {K : Nat → Nat} {V : Nat → Int32} {bd : Nat → Option Nat} {j : Nat} (h : ∃ d, bd j = some d ∧ K d = 11) : bx_v V bd j = by_v K V bd j := by
  obtain ⟨d, h1, h2⟩ := h
  unfold bx_v by_v
  rw [h1]
  show V d = if K d = 11 then V d else 0
  rw [if_pos h2]
theorem by_by {K : Nat → Nat} {V : Nat → Int32} {A B : Nat → Option Nat} {rk : Nat → Nat} {bd : Nat → Option Nat} (hG : pr_gw 0 K V A B rk) (hT : ∀ j d, bd j = some d → pr_T 0 K d) (j : Nat) : pr_by (by_v K V bd j) := by
  unfold by_v
  cases e : bd j with
  | none => exact pr_by_0
  | some d =>
    show pr_by (if K d = 11 then V d else 0)
    by_cases h : K d = 11
    · rw [if_pos h]
      exact (hG d (hT j d e)).2.2.1
    · rw [if_neg h]
      exact pr_by_0
theorem pr_ct_len {K : Nat → Nat} {L : List Nat} (nd : L.Nodup) (hL : ∀ x, x ∈ L ↔ pr_T 0 K x) : pr_ct K = L.length := by
  have e := pr_rs_list (w := fun _ => 1) (lo := 0) (n := 32) nd (fun x hx => ⟨((hL x).mp hx).1, ((hL x).mp hx).2.1⟩)
  have e2 : pr_sm (fun _ => 1) L = L.length := by
    clear e nd hL
    induction L with
    | nil => rfl
    | cons x L ih =>
      show 1 + pr_sm (fun _ => 1) L = L.length + 1
      rw [ih]
      omega
  rw [← e2, ← e]
  refine pr_rs_congr fun x _ hx => ?_
  show (if K x = 0 then 0 else 1) = (if x ∈ L then 1 else 0)
  by_cases h : K x = 0
  · rw [if_pos h, if_neg (fun hh => ((hL x).mp hh).2.2 h)]
  · rw [if_neg h, if_pos ((hL x).mpr ⟨by omega, by omega, h⟩)]
theorem pr_us_le {A B : Nat → Option Nat} {O : Nat → Nat} {L : List Nat} {oc d : Nat} (hl : L.length ≤ 32) (hoc : oc ≤ 4) : pr_us A B O L oc d < 2 ^ 31 := by
  have h1 : pr_sm (pr_e1 A B d) L ≤ L.length * 2 := pr_sm_len (fun x => by
    unfold pr_e1
    by_cases ha : A x = some d
    · rw [if_pos ha]
      by_cases hb : B x = some d
      · rw [if_pos hb]
        omega
      · rw [if_neg hb]
        omega
    · rw [if_neg ha]
      by_cases hb : B x = some d
      · rw [if_pos hb]
        omega
      · rw [if_neg hb]
        omega) L
  have h2 : pr_rs (fun k => if O k = d then 1 else 0) 0 oc ≤ oc * 1 := pr_rs_bound (fun x _ _ => by
    show (if O x = d then 1 else 0) ≤ 1
    by_cases h : O x = d
    · rw [if_pos h]
      omega
    · rw [if_neg h]
      omega)
  show pr_sm (pr_e1 A B d) L + pr_rs (fun k => if O k = d then 1 else 0) 0 oc < 2 ^ 31
  omega
section ST
variable {mN : Nat} {mR : Nat} {rc : Nat} {ph : Nat} {nc : Nat} {oc : Nat} {cx : Int32} {ap : Int32} {P : Nat → pr_PT} {R : Nat → pr_PT} {rl : Nat → Nat} {rj : Nat → Nat} {rK : Nat → Nat} {uc : Nat → Int32} {D : Nat → pr_PT} {ps : Nat → Nat → Nat} {dc : Nat → Nat} {dl : Nat} {dj : Nat} {dk : Nat} {K : Nat → Nat} {V : Nat → Int32} {A : Nat → Option Nat} {B : Nat → Option Nat} {O : Nat → Nat}
def sr_tv (R : pr_PT) (K : Nat → Nat) (V : Nat → Int32) (bd : Nat → Option Nat) : Nat → Int32 := pt_tv R (by_v K V bd 0) (by_v K V bd 1)
def sr_b (P R : pr_PT) (K : Nat → Nat) (V : Nat → Int32) (A B : Nat → Option Nat) (bd : Nat → Option Nat) (i : Nat) : pb_S := pb_run R (pt_has P 14) (sr_tv R K V bd) bd i (K, V, A, B, fun _ => none)
/-- all that one application needs and gives -/
theorem st_all (hok : sp_ok mN mR rc ph nc oc cx ap P R rl rj rK uc D ps dc dl dj dk K V A B O) (hph : ph = 1) {L : List Nat} {us : Nat → Nat} (hL : L = pr_lv A B O 0 oc) (hus : us = pr_us A B O L oc) {r n : Nat} {s : pm_S} (hr : r < rc) (tn : pr_T 0 K n) (hm : sr_m mN P R rl rj rK K V A B us L.length r n = some s) :
    ∃ y rk2, (sr_b (P r) (R r) K V A B s.2 (pt_n (R r))).2.2.2.2 (pt_n (R r) - 1) = some y ∧ y < 32 ∧
      pm_run K V A B us (P r) (pt_n (P r)) (fun _ => n, fun _ => none) = some s ∧ pm_inv K V A B us (P r) n 0 s ∧
      (∀ i, i ≤ pt_n (R r) → pb_fx (R r) (pt_has (P r) 14) i (sr_b (P r) (R r) K V A B s.2 i)) ∧ (∀ i, i < pt_n (R r) → pb_fr (R r) (pt_has (P r) 14) i (sr_b (P r) (R r) K V A B s.2 i)) ∧
      (∀ x, pr_T 0 (sr_b (P r) (R r) K V A B s.2 (pt_n (R r))).1 x → (sr_b (P r) (R r) K V A B s.2 (pt_n (R r))).1 x ≤ 12 ∧ (11 ≤ (sr_b (P r) (R r) K V A B s.2 (pt_n (R r))).1 x → (sr_b (P r) (R r) K V A B s.2 (pt_n (R r))).2.2.1 x = none) ∧ (9 ≤ (sr_b (P r) (R r) K V A B s.2 (pt_n (R r))).1 x → (sr_b (P r) (R r) K V A B s.2 (pt_n (R r))).2.2.2.1 x = none) ∧ ∀ c, ((sr_b (P r) (R r) K V A B s.2 (pt_n (R r))).2.2.1 x = some c ∨ (sr_b (P r) (R r) K V A B s.2 (pt_n (R r))).2.2.2.1 x = some c) → c < 32) ∧
      pr_gw 0 (sr_b (P r) (R r) K V A B s.2 (pt_n (R r))).1 (sr_b (P r) (R r) K V A B s.2 (pt_n (R r))).2.1 (pa_A n y (sr_b (P r) (R r) K V A B s.2 (pt_n (R r))).2.2.1) (pa_A n y (sr_b (P r) (R r) K V A B s.2 (pt_n (R r))).2.2.2.1) rk2 ∧ (∀ k, k < oc → pr_T 0 (sr_b (P r) (R r) K V A B s.2 (pt_n (R r))).1 (pa_O n y oc O k)) ∧
      (∀ x, 32 ≤ x → (sr_b (P r) (R r) K V A B s.2 (pt_n (R r))).1 x = K x ∧ (K x ≠ 0 → (sr_b (P r) (R r) K V A B s.2 (pt_n (R r))).2.1 x = V x ∧ (sr_b (P r) (R r) K V A B s.2 (pt_n (R r))).2.2.1 x = A x ∧ (sr_b (P r) (R r) K V A B s.2 (pt_n (R r))).2.2.2.1 x = B x)) ∧
      ∀ L2, L2 = pr_lv (pa_A n y (sr_b (P r) (R r) K V A B s.2 (pt_n (R r))).2.2.1) (pa_A n y (sr_b (P r) (R r) K V A B s.2 (pt_n (R r))).2.2.2.1) (pa_O n y oc O) 0 oc →
        pr_W (pa_K L2 (sr_b (P r) (R r) K V A B s.2 (pt_n (R r))).1) < pr_W K ∧
        ∀ ap' uc', sp_ok mN mR rc ph nc oc cx ap' P R rl rj rK uc' D ps dc dl dj dk (pa_K L2 (sr_b (P r) (R r) K V A B s.2 (pt_n (R r))).1) ((sr_b (P r) (R r) K V A B s.2 (pt_n (R r))).2.1) (pa_A n y (sr_b (P r) (R r) K V A B s.2 (pt_n (R r))).2.2.1) (pa_A n y (sr_b (P r) (R r) K V A B s.2 (pt_n (R r))).2.2.2.1) (pa_O n y oc O) := by
  obtain ⟨o1, o2, o3, o4, o5, o6, o7, o8, o9, rk, rk', q1, q2, q3, q4⟩ := hok
  obtain ⟨q5, q6, q7⟩ := q4 hph
  obtain ⟨w1, w2, w3, w4, w5, w6, w7, w8, w9, w10, w11⟩ := o8 r hr
  have hlk := pr_lv_ok (O := O) (ob := 0) (pr_gw_T q1) (pr_gw_r q1) oc (fun k hk => by rw [Nat.zero_add]; exact q2 k hk)
  rw [← hL] at hlk q7
  have hiff : ∀ x, x ∈ L ↔ pr_T 0 K x := fun x => ⟨fun h => (hlk.2.2.2 x h).1, q7 x⟩
  have hctl := pr_ct_len hlk.1 hiff
  unfold sr_m at hm
  by_cases hroom : L.length + pt_rm (R r) (pt_has (P r) 14) ≤ mN
  · rw [if_pos hroom] at hm
    cases hrun : pm_run K V A B us (P r) (pt_n (P r)) (fun _ => n, fun _ => none) with
    | none =>
      rw [hrun] at hm
      cases hm
    | some s1 =>
      rw [hrun] at hm
      replace hm : (if pr_ph (rl r) (rj r) (rK r) (by_v K V s1.2 0) (by_v K V s1.2 1) = true then some s1 else none) = some s := hm
      have es : s1 = s := by
        by_cases hp : pr_ph (rl r) (rj r) (rK r) (by_v K V s1.2 0) (by_v K V s1.2 1) = true
        · rw [if_pos hp] at hm
          exact Option.some.inj hm
        · rw [if_neg hp] at hm
          cases hm
      subst es
      have hinv := pm_run_ok w1 w2 q1 (Nat.le_refl _) (pm_inv0 (V := V) (A := A) (B := B) (us := us) w2 tn) hrun
      have hbT : ∀ j d, s1.2 j = some d → pr_T 0 K d := fun j d hd => pm_bd hinv hd
      have htvb : ∀ q, q < pt_n (R r) → pr_by (sr_tv (R r) K V s1.2 q) := pt_tv_by w4 (by_by q1 hbT 0) (by_by q1 hbT 1)
      have hct : pr_ct K + pt_rm (R r) (pt_has (P r) 14) ≤ 32 := by omega
      have hinv' : pm_inv K V A B us (P r) n 0 (s1.1, s1.2) := hinv
      obtain ⟨Lo, β, hall⟩ := pa_inv (tv := sr_tv (R r) K V s1.2) q1 w1 w2 w3 w4 w6 w7 hinv' hct htvb
      obtain ⟨y, rk2, y1, y2, y3, y4, y5, y6⟩ := pa_ok (tv := sr_tv (R r) K V s1.2) q1 q7 q2 hus w1 w2 w3 w4 w5 w6 w7 hinv' hct htvb w10 rfl
      refine ⟨y, rk2, y1, y2, rfl, hinv, fun i hi => ?_, fun i hi => ?_, fun x hx => ?_, y4, y5, y3, fun L2 hL2 => ?_⟩
      · obtain ⟨ρ, h⟩ := hall i hi
        exact pb_fx_of q1 h
      · obtain ⟨ρ, h⟩ := hall i (by omega)
        exact pb_fr_of hct hi h
      · obtain ⟨ρ, i1, i2, i3, i4, i5⟩ := hall (pt_n (R r)) (Nat.le_refl _)
        by_cases hK : K x = 0
        · obtain ⟨_, g1, g2, g3, g4, g5, g6, g7, g8, g9⟩ := i2 x hK hx.2.2
          refine ⟨?_, g4, g5, fun c hc => ?_⟩
          · exact Nat.le_trans g1 (by omega)
          · have := (g9 c hc).1.2.1
            omega
        · obtain ⟨a1, a2, a3, a4, a5⟩ := i1 x hK
          obtain ⟨g1, g2, g3, g4, g5, g6, g7, g8, g9, g10⟩ := q1 x ⟨hx.1, hx.2.1, hK⟩
          have b1 : (sr_b (P r) (R r) K V A B s1.2 (pt_n (R r))).1 x = K x := a1
          have b3 : (sr_b (P r) (R r) K V A B s1.2 (pt_n (R r))).2.2.1 x = A x := a3
          have b4 : (sr_b (P r) (R r) K V A B s1.2 (pt_n (R r))).2.2.2.1 x = B x := a4
          rw [b1, b3, b4]
          refine ⟨g1, g6, g7, fun c hc => ?_⟩
          have := (g10 c hc).1.2.1
          omega
      · obtain ⟨z1, z2, z3, z4⟩ := y6 L2 hL2
        refine ⟨z3, fun ap' uc' => ⟨o1, o2, o3, o4, o5, o6, o7, o8, o9, rk2, rk', z1, z2, fun h => absurd h (by omega), fun _ => ⟨?_, fun k hk => ?_, fun x hx => ?_⟩⟩⟩
        · intro x hx
          have hx32 : 32 ≤ x := hx.1
          have eK : ∀ z, 32 ≤ z → pa_K L2 (sr_b (P r) (R r) K V A B s1.2 (pt_n (R r))).1 z = K z := by
            intro z hz
            unfold pa_K
            rw [if_neg (fun hh => absurd hh.1 (by omega))]
            exact (y3 z hz).1
          have hKx : K x ≠ 0 := by
            have := hx.2.2
            rw [eK x hx32] at this
            exact this
          obtain ⟨v1, v2, v3⟩ := (y3 x hx32).2 hKx
          have eA : pa_A n y (sr_b (P r) (R r) K V A B s1.2 (pt_n (R r))).2.2.1 x = A x := by
            unfold pa_A
            rw [if_neg (by omega)]
            exact v2
          have eB : pa_A n y (sr_b (P r) (R r) K V A B s1.2 (pt_n (R r))).2.2.2.1 x = B x := by
            unfold pa_A
            rw [if_neg (by omega)]
            exact v3
          have eV : (sr_b (P r) (R r) K V A B s1.2 (pt_n (R r))).2.1 x = V x := v1
          rw [eK x hx32, eA, eB, eV]
          obtain ⟨g1, g2, g3, g4, g5, g6, g7, g8, g9, g10⟩ := q5 x ⟨hx.1, hx.2.1, hKx⟩
          refine ⟨g1, g2, g3, g4, g5, g6, g7, g8, g9, fun c hc => ?_⟩
          have := g10 c hc
          exact ⟨⟨this.1.1, this.1.2.1, by rw [eK c this.1.1]; exact this.1.2.2⟩, this.2⟩
        · have hq := q6 k hk
          have e : pa_O n y oc O (4 + k) = O (4 + k) := by
            unfold pa_O
            rw [if_neg (fun hh => absurd hh.1 (by omega))]
          rw [e]
          refine ⟨hq.1, hq.2.1, ?_⟩
          unfold pa_K
          rw [if_neg (fun hh => absurd hh.1 (by have := hq.1; omega))]
          have := (y3 (O (4 + k)) hq.1).1
          intro h0
          rw [show (sr_b (P r) (R r) K V A B s1.2 (pt_n (R r))).1 (O (4 + k)) = K (O (4 + k)) from this] at h0
          exact hq.2.2 h0
        · rw [← hL2]
          exact z4 x hx
  · rw [if_neg hroom] at hm
    cases hm
end ST
