/-! what optimize keeps: values and weight -/
theorem sr_m_some {mN : Nat} {P R : Nat → pr_PT} {rl rj rK : Nat → Nat} {K : Nat → Nat} {V : Nat → Int32} {A B : Nat → Option Nat} {us : Nat → Nat} {ln r n : Nat} {s : pm_S} (hm : sr_m mN P R rl rj rK K V A B us ln r n = some s) :
    ln + pt_rm (R r) (pt_has (P r) 14) ≤ mN ∧ pm_run K V A B us (P r) (pt_n (P r)) (fun _ => n, fun _ => none) = some s ∧ pr_ph (rl r) (rj r) (rK r) (by_v K V s.2 0) (by_v K V s.2 1) = true := by
  unfold sr_m at hm
  by_cases hroom : ln + pt_rm (R r) (pt_has (P r) 14) ≤ mN
  · rw [if_pos hroom] at hm
    cases hrun : pm_run K V A B us (P r) (pt_n (P r)) (fun _ => n, fun _ => none) with
    | none =>
      rw [hrun] at hm
      cases hm
    | some s1 =>
      rw [hrun] at hm
      replace hm : (if pr_ph (rl r) (rj r) (rK r) (by_v K V s1.2 0) (by_v K V s1.2 1) = true then some s1 else none) = some s := hm
      by_cases hp : pr_ph (rl r) (rj r) (rK r) (by_v K V s1.2 0) (by_v K V s1.2 1) = true
      · rw [if_pos hp] at hm
        have e := Option.some.inj hm
        subst e
        exact ⟨hroom, rfl, hp⟩
      · rw [if_neg hp] at hm
        cases hm
  · rw [if_neg hroom] at hm
    cases hm
section PQS
variable {K : Nat → Nat} {V : Nat → Int32} {A B : Nat → Option Nat} {us rk : Nat → Nat} {P R : pr_PT} {Rn rl rj rK : Nat} {s : pm_S} {ar : Int32}
/-- a bound CVAR's value -/
theorem pq_cv (hG : pr_gw 0 K V A B rk) (hm : pm_inv K V A B us P Rn 0 s) {j : Nat} (hj : pt_has P 14 j = true) : by_v K V s.2 j = pr_ov (pr_ev K V A B ar 32) (s.2 j) := by
  obtain ⟨d, d1, d2⟩ := pm_cv hm hj
  have td := pm_bd hm d1
  unfold by_v
  rw [d1]
  show (if K d = 11 then V d else 0) = pr_ev K V A B ar 32 d
  rw [if_pos d2, pr_ev_eq hG td]
  unfold pr_en
  rw [if_pos d2]
/-- the value of a binding is a byte, 0 where the pattern has no such variable -/
theorem pq_hi (hP : pt_ok P) (hG : pr_gw 0 K V A B rk) (hm : pm_inv K V A B us P Rn 0 s) (j : Nat) : ∃ a, a ≤ jd_hi P j ∧ pr_ov (pr_ev K V A B ar 32) (s.2 j) = nI a := by
  cases e : s.2 j with
  | none => exact ⟨0, Nat.zero_le _, rfl⟩
  | some d =>
    obtain ⟨a, a1, a2⟩ := pr_ev_by (ar := ar) hG 32 d (pm_bd hm e) (pr_gw_r hG d (pm_bd hm e))
    obtain ⟨q, _, q2, q3, q4, q5⟩ := hm.2.2.2 j d e
    refine ⟨a, ?_, a2⟩
    unfold jd_hi
    rw [if_pos]
    · omega
    · by_cases h13 : pt_k P q = 13
      · exact Or.inl (pt_has_t.mpr ⟨q, q2, h13, q4⟩)
      · refine Or.inr (pt_has_t.mpr ⟨q, q2, ?_, q4⟩)
        have := (hP.2 q q2).1
        omega
/-- a sound rule's replacement has the value of the matched root -/
theorem pq_root (hG : pr_gw 0 K V A B rk) (hP : pt_ok P) (hPf : pt_fin P) (hm : pm_inv K V A B us P Rn 0 s) (hj : rl ≠ 0 → rj < 2 ∧ rK < 256 ∧ pt_has P 14 rj = true) (hp : pr_ph rl rj rK (by_v K V s.2 0) (by_v K V s.2 1) = true) (hs : jd_none P R rl rj rK) :
    pr_ev K V A B ar 32 Rn = pt_tv R (pr_ov (pr_ev K V A B ar 32) (s.2 0)) (pr_ov (pr_ev K V A B ar 32) (s.2 1)) (pt_n R - 1) := by
  have hm' : pm_inv K V A B us P Rn 0 (s.1, s.2) := hm
  have h1 := pv_pat (ar := ar) hP hG hm' (pt_n P - 1) (by have := hPf.1; omega)
  have hr : s.1 (pt_n P - 1) = Rn := hm.1
  rw [hr] at h1
  obtain ⟨a, a1, a2⟩ := pq_hi (ar := ar) hP hG hm 0
  obtain ⟨b, b1, b2⟩ := pq_hi (ar := ar) hP hG hm 1
  have hph : pr_ph rl rj rK (pr_ov (pr_ev K V A B ar 32) (s.2 0)) (pr_ov (pr_ev K V A B ar 32) (s.2 1)) = true := by
    rw [← hp]
    refine pr_ph_eq (fun hl => ⟨fun e => ?_, fun e => ?_⟩)
    · have := (hj hl).2.2
      rw [e] at this
      exact (pq_cv hG hm this).symm
    · have := (hj hl).2.2
      have hlt := (hj hl).1
      rw [show rj = 1 by omega] at this
      exact (pq_cv hG hm this).symm
  rw [h1]
  apply Classical.byContradiction
  intro hne
  rw [a2, b2] at hph hne
  exact hs a b a1 b1 ⟨hph, hne⟩
end PQS
def pq (mN : Nat) (mR : Nat) (rc : Nat) (ph : Nat) (nc : Nat) (oc : Nat) (cx : Int32) (ap : Int32) (P : Nat → pr_PT) (R : Nat → pr_PT) (rl : Nat → Nat) (rj : Nat → Nat) (rK : Nat → Nat) (uc : Nat → Int32) (D : Nat → pr_PT) (ps : Nat → Nat → Nat) (dc : Nat → Nat) (dl : Nat) (dj : Nat) (dk : Nat) (K : Nat → Nat) (V : Nat → Int32) (A : Nat → Option Nat) (B : Nat → Option Nat) (O : Nat → Nat) : Prop := (∀ r, r < rc → jd_none (P r) (R r) (rl r) (rj r) (rK r)) ∧ ∃ n : Nat, ap = nI n ∧ (∀ k ar, k < oc → pr_ev K V A B ar 32 (O k) = pr_ev K V A B ar 32 (O (4 + k))) ∧ pr_W K + n ≤ pr_sm (fun s => pr_w (K s)) (pr_lv A B O 4 oc)
theorem pq_step (mN : Nat) (mR : Nat) (rc : Nat) (ph : Nat) (nc : Nat) (oc : Nat) (cx : Int32) (ap : Int32) (P : Nat → pr_PT) (R : Nat → pr_PT) (rl : Nat → Nat) (rj : Nat → Nat) (rK : Nat → Nat) (uc : Nat → Int32) (D : Nat → pr_PT) (ps : Nat → Nat → Nat) (dc : Nat → Nat) (dl : Nat) (dj : Nat) (dk : Nat) (K : Nat → Nat) (V : Nat → Int32) (A : Nat → Option Nat) (B : Nat → Option Nat) (O : Nat → Nat) (hok : sp_ok mN mR rc ph nc oc cx ap P R rl rj rK uc D ps dc dl dj dk K V A B O) (hph : ph = 1) (hp : pq mN mR rc ph nc oc cx ap P R rl rj rK uc D ps dc dl dj dk K V A B O) (i r : Nat) (s : pm_S) (y : Nat) (L2 : List Nat) (uc' : Nat → Int32) (hf : sr_f rc (pr_lv A B O 0 oc) (sr_m mN P R rl rj rK K V A B (pr_us A B O (pr_lv A B O 0 oc) oc) (pr_lv A B O 0 oc).length) i r s) (hy : (sr_b (P r) (R r) K V A B s.2 (pt_n (R r))).2.2.2.2 (pt_n (R r) - 1) = some y) (hL2 : L2 = pr_lv (pa_A ((pr_lv A B O 0 oc).getD i 0) y (sr_b (P r) (R r) K V A B s.2 (pt_n (R r))).2.2.1) (pa_A ((pr_lv A B O 0 oc).getD i 0) y (sr_b (P r) (R r) K V A B s.2 (pt_n (R r))).2.2.2.1) (pa_O ((pr_lv A B O 0 oc).getD i 0) y oc O) 0 oc) :
    pq mN mR rc ph nc oc cx (ap + 1) P R rl rj rK uc' D ps dc dl dj dk (pa_K L2 (sr_b (P r) (R r) K V A B s.2 (pt_n (R r))).1) ((sr_b (P r) (R r) K V A B s.2 (pt_n (R r))).2.1) (pa_A ((pr_lv A B O 0 oc).getD i 0) y (sr_b (P r) (R r) K V A B s.2 (pt_n (R r))).2.2.1) (pa_A ((pr_lv A B O 0 oc).getD i 0) y (sr_b (P r) (R r) K V A B s.2 (pt_n (R r))).2.2.2.1) (pa_O ((pr_lv A B O 0 oc).getD i 0) y oc O) := by
  obtain ⟨p1, n, p2, p3, p4⟩ := hp
  have hok' := hok
  obtain ⟨o1, o2, o3, o4, o5, o6, o7, o8, o9, rk, rk', q1, q2, q3, q4⟩ := hok
  obtain ⟨q5, q6, q7⟩ := q4 hph
  have hlk := pr_lv_ok (O := O) (ob := 0) (pr_gw_T q1) (pr_gw_r q1) oc (fun k hk => by rw [Nat.zero_add]; exact q2 k hk)
  have tn : pr_T 0 K ((pr_lv A B O 0 oc).getD i 0) := (hlk.2.2.2 _ (pr_gd_m hf.1)).1
  obtain ⟨y', rk2, y1, y2, y3, y4, y5, y6, y7, y8, y9, y10, y11⟩ := st_all hok' hph rfl rfl hf.2.1 tn hf.2.2.1
  rw [hy] at y1
  have ey := Option.some.inj y1
  subst ey
  obtain ⟨z1, z2⟩ := y11 L2 hL2
  obtain ⟨_, _, _, _, _, _, _, _, _, rk3, rk4, u1, u2, u3, u4⟩ := z2 (ap + 1) uc'
  obtain ⟨w1, w2, w3, w4, w5, w6, w7, w8, w9, w10, w11⟩ := o8 r hf.2.1
  obtain ⟨m1, m2, m3⟩ := sr_m_some hf.2.2.1
  have hiff : ∀ x, x ∈ pr_lv A B O 0 oc ↔ pr_T 0 K x := fun x => ⟨fun h => (hlk.2.2.2 x h).1, q7 x⟩
  have hctl := pr_ct_len hlk.1 hiff
  have y4' : pm_inv K V A B (pr_us A B O (pr_lv A B O 0 oc) oc) (P r) ((pr_lv A B O 0 oc).getD i 0) 0 (s.1, s.2) := y4
  have hbT : ∀ j d, s.2 j = some d → pr_T 0 K d := fun j d hd => pm_bd y4 hd
  have htvb : ∀ q, q < pt_n (R r) → pr_by (sr_tv (R r) K V s.2 q) := pt_tv_by w4 (by_by q1 hbT 0) (by_by q1 hbT 1)
  obtain ⟨Lo, β, hall⟩ := pa_inv (tv := sr_tv (R r) K V s.2) (C := pt_has (P r) 14) q1 w1 w2 w3 w4 w6 w7 y4' (by omega) htvb
  -- the ORIGINAL is as it was
  have eK : ∀ z, 32 ≤ z → pa_K L2 (sr_b (P r) (R r) K V A B s.2 (pt_n (R r))).1 z = K z := by
    intro z hz
    unfold pa_K
    rw [if_neg (fun hh => absurd hh.1 (by omega))]
    exact (y10 z hz).1
  have e32 : ∀ z, pr_T 32 K z → pa_K L2 (sr_b (P r) (R r) K V A B s.2 (pt_n (R r))).1 z = K z ∧ (sr_b (P r) (R r) K V A B s.2 (pt_n (R r))).2.1 z = V z ∧ pa_A ((pr_lv A B O 0 oc).getD i 0) y (sr_b (P r) (R r) K V A B s.2 (pt_n (R r))).2.2.1 z = A z ∧ pa_A ((pr_lv A B O 0 oc).getD i 0) y (sr_b (P r) (R r) K V A B s.2 (pt_n (R r))).2.2.2.1 z = B z := by
    intro z hz
    obtain ⟨v1, v2, v3⟩ := (y10 z hz.1).2 hz.2.2
    refine ⟨eK z hz.1, v1, ?_, ?_⟩
    · unfold pa_A
      rw [if_neg (by have := hz.1; omega)]
      exact v2
    · unfold pa_A
      rw [if_neg (by have := hz.1; omega)]
      exact v3
  have eO : ∀ k, k < oc → pa_O ((pr_lv A B O 0 oc).getD i 0) y oc O (4 + k) = O (4 + k) := by
    intro k hk
    unfold pa_O
    rw [if_neg (fun hh => absurd hh.1 (by omega))]
  refine ⟨p1, n + 1, by rw [p2, nI_1], fun k ar hk => ?_, ?_⟩
  · rw [eO k hk, pv_same q5 e32 (q6 k hk), ← p3 k ar hk]
    obtain ⟨h, hv⟩ := pv_all (g0 := pr_ev K V A B ar 32) (ar := ar) (v0 := pr_ov (pr_ev K V A B ar 32) (s.2 0)) (v1 := pr_ov (pr_ev K V A B ar 32) (s.2 1)) w4 w6 (fun i hi => y6 i hi) hall (fun i hi hc => pt_tv_c w4 w6 (fun h => pq_cv q1 y4 h) (fun h => pq_cv q1 y4 h) i hi hc) (fun i hi hk => by
      obtain ⟨p, a1, a2, a3⟩ := w7 i hi hk
      have hb := ((y4.2.1 p (by omega) a1).2.2.1 a2).1
      rw [a3] at hb
      refine ⟨_, hb, (hbT _ _ hb).2.2, ?_⟩
      have hv2 := (w4.2 i hi).2.2.1 (by omega)
      by_cases e0 : pt_v (R r) i = 0
      · rw [if_pos e0, ← e0, hb]
        rfl
      · rw [if_neg e0]
        have e1 : pt_v (R r) i = 1 := by omega
        rw [← e1, hb]
        rfl) (pt_n (R r)) (Nat.le_refl _)
    obtain ⟨ρ, hin⟩ := hall (pt_n (R r)) (Nat.le_refl _)
    have hnsk : ¬ pb_sk (R r) (pt_has (P r) 14) (pt_n (R r) - 1) := by
      intro hsk
      have := hsk.2
      unfold pt_mx at this
      rw [hsk.1, w5.2.1] at this
      cases this
    have hyv : h y = h ((pr_lv A B O 0 oc).getD i 0) := by
      rw [hv.1 _ tn.2.2, pq_root q1 w1 w2 y4 w9 m3 (p1 r hf.2.1)]
      exact hv.2.2 _ y (by have := w5.1; omega) hnsk hy
    have hval := pv_app (Rn := (pr_lv A B O 0 oc).getD i 0) (y := y) q1 rfl hin hv hyv u1 _ (u2 k hk)
    refine hval.trans ?_
    unfold pa_O
    by_cases hc : k < oc ∧ O k = (pr_lv A B O 0 oc).getD i 0
    · rw [if_pos hc, hyv, hc.2]
      exact hv.1 _ tn.2.2
    · rw [if_neg hc]
      exact hv.1 _ (q2 k hk).2.2
  · have hlv : pr_lv (pa_A ((pr_lv A B O 0 oc).getD i 0) y (sr_b (P r) (R r) K V A B s.2 (pt_n (R r))).2.2.1) (pa_A ((pr_lv A B O 0 oc).getD i 0) y (sr_b (P r) (R r) K V A B s.2 (pt_n (R r))).2.2.2.1) (pa_O ((pr_lv A B O 0 oc).getD i 0) y oc O) 4 oc = (pr_lv A B O 4 oc).map (fun x => x) := by
      refine lv_map (T := pr_T 32 K) (fun _ _ h => h) (fun m c hm hc => (pr_gw_T q5 m c hm hc).1) (fun m hm => ?_) oc (fun k hk => ⟨q6 k hk, eO k hk⟩)
      obtain ⟨_, _, a3, a4⟩ := e32 m hm
      rw [a3, a4]
      exact ⟨by cases A m <;> rfl, by cases B m <;> rfl⟩
    have hlo := pr_lv_ok (O := O) (ob := 4) (pr_gw_T q5) (pr_gw_r q5) oc q6
    rw [hlv, sm_map, sm_congr (w' := fun s => pr_w (K s)) _ (fun x hx => by show pr_w (pa_K L2 (sr_b (P r) (R r) K V A B s.2 (pt_n (R r))).1 x) = pr_w (K x); rw [eK x (hlo.2.2.2 x hx).1.1])]
    omega
