/-! X: one search -/
theorem gr_next {K K1 : Nat → Nat} {V V1 : Nat → Int32} {A B A1 B1 : Nat → Option Nat} {L2 : List Nat} {n y : Nat} {nk0 nv0 na0 nb0 nk nv na nb : Nat → Int32} (h32 : gr_at 32 K V A B nk0 nv0 na0 nb0) (hk : ∀ x, 32 ≤ x → nk x = nk0 x ∧ nv x = nv0 x ∧ na x = na0 x ∧ nb x = nb0 x) (h3 : ∀ x, 32 ≤ x → K1 x = K x ∧ (K x ≠ 0 → V1 x = V x ∧ A1 x = A x ∧ B1 x = B x)) :
    gr_at 32 (pa_K L2 K1) V1 (pa_A n y A1) (pa_A n y B1) nk nv na nb := by
  intro x hx
  have hx32 : 32 ≤ x := hx.1
  have eK : pa_K L2 K1 x = K x := by
    unfold pa_K
    rw [if_neg (fun hh => absurd hh.1 (by omega))]
    exact (h3 x hx32).1
  have hKx : K x ≠ 0 := by
    have := hx.2.2
    rw [eK] at this
    exact this
  obtain ⟨v1, v2, v3⟩ := (h3 x hx32).2 hKx
  have eA : pa_A n y A1 x = A x := by
    unfold pa_A
    rw [if_neg (by omega)]
    exact v2
  have eB : pa_A n y B1 x = B x := by
    unfold pa_A
    rw [if_neg (by omega)]
    exact v3
  obtain ⟨a1, a2, a3, a4⟩ := hk x hx32
  rw [eK, eA, eB, v1, a1, a2, a3, a4]
  exact h32 x ⟨hx.1, hx.2.1, hKx⟩
theorem gr_pa {K1 : Nat → Nat} {V1 : Nat → Int32} {A1 B1 : Nat → Option Nat} {L2 : List Nat} {nk nv na nb : Nat → Int32} (h : gr_at 0 K1 V1 A1 B1 nk nv na nb) : gr_at 0 (pa_K L2 K1) V1 A1 B1 nk nv na nb := by
  intro x hx
  have h2 := hx.2.2
  have e : pa_K L2 K1 x = K1 x := by
    unfold pa_K at h2 ⊢
    by_cases hc : x < 32 ∧ x ∉ L2
    · rw [if_pos hc] at h2
      exact absurd rfl h2
    · rw [if_neg hc]
  rw [e] at h2 ⊢
  exact h x ⟨hx.1, hx.2.1, h2⟩
theorem pa_O4 {n y oc k : Nat} {O : Nat → Nat} (h : oc ≤ 4) : pa_O n y oc O (4 + k) = O (4 + k) := by
  unfold pa_O
  rw [if_neg (fun hh => absurd hh.1 (by omega))]
section XY
variable {f_maxNodes f_maxRules f_ruleCount f_counterexample f_optimized f_nodeCount f_outputCount f_applications : Int32} {a_preRelation a_preVariable a_preConstant a_roomNeeded a_useCount a_treeSize a_treeKind a_treeValue a_treeA a_treeB a_treeResult a_constantValued a_maximal a_counterpart a_boundNode a_pending a_pendingCount a_nodeKind a_nodeValue a_nodeA a_nodeB a_nodeResult a_nodeUses a_outputNode a_seen a_order a_walkStack : Nat → Int32}
variable {mN : Nat} {mR : Nat} {rc : Nat} {ph : Nat} {nc : Nat} {oc : Nat} {cx : Int32} {ap : Int32} {P : Nat → pr_PT} {R : Nat → pr_PT} {rl : Nat → Nat} {rj : Nat → Nat} {rK : Nat → Nat} {uc : Nat → Int32} {D : Nat → pr_PT} {ps : Nat → Nat → Nat} {dc : Nat → Nat} {dl : Nat} {dj : Nat} {dk : Nat} {K : Nat → Nat} {V : Nat → Int32} {A : Nat → Option Nat} {B : Nat → Option Nat} {O : Nat → Nat}
theorem rx_afm {u : St2} {post : Int32 → St2 → Prop} (hok : sp_ok mN mR rc ph nc oc cx ap P R rl rj rK uc D ps dc dl dj dk K V A B O) (hph : ph = 1) (hx : rx mN mR rc ph nc oc cx ap P R rl rj rK uc D ps dc dl dj dk K V A B O u) {L : List Nat} {us : Nat → Nat} (hL : L = pr_lv A B O 0 oc) (hus : us = pr_us A B O L oc)
    (hno : sr_0 rc L (sr_m mN P R rl rj rK K V A B us L.length) → ∀ u', rx mN mR rc ph nc oc cx ap P R rl rj rK uc D ps dc dl dj dk K V A B O u' → post 0 u')
    (hy : ∀ i r s y L2, sr_f rc L (sr_m mN P R rl rj rK K V A B us L.length) i r s → (sr_b (P r) (R r) K V A B s.2 (pt_n (R r))).2.2.2.2 (pt_n (R r) - 1) = some y → L2 = pr_lv (pa_A (L.getD i 0) y (sr_b (P r) (R r) K V A B s.2 (pt_n (R r))).2.2.1) (pa_A (L.getD i 0) y (sr_b (P r) (R r) K V A B s.2 (pt_n (R r))).2.2.2.1) (pa_O (L.getD i 0) y oc O) 0 oc →
      ∀ u', rx mN mR rc ph nc oc cx (ap + 1) P R rl rj rK (pr_st uc r (uc r + 1)) D ps dc dl dj dk (pa_K L2 (sr_b (P r) (R r) K V A B s.2 (pt_n (R r))).1) ((sr_b (P r) (R r) K V A B s.2 (pt_n (R r))).2.1) (pa_A (L.getD i 0) y (sr_b (P r) (R r) K V A B s.2 (pt_n (R r))).2.2.1) (pa_A (L.getD i 0) y (sr_b (P r) (R r) K V A B s.2 (pt_n (R r))).2.2.2.1) (pa_O (L.getD i 0) y oc O) u' → post 1 u') : wpX_applyFirstMatch post u := by
  obtain ⟨f_maxNodes, f_maxRules, f_ruleCount, f_counterexample, f_optimized, f_nodeCount, f_outputCount, f_applications, a_preRelation, a_preVariable, a_preConstant, a_roomNeeded, a_useCount, a_treeSize, a_treeKind, a_treeValue, a_treeA, a_treeB, a_treeResult, a_constantValued, a_maximal, a_counterpart, a_boundNode, a_pending, a_pendingCount, a_nodeKind, a_nodeValue, a_nodeA, a_nodeB, a_nodeResult, a_nodeUses, a_outputNode, a_seen, a_order, a_walkStack⟩ := u
  obtain ⟨e1, e2, e3, e4, e5, e6, e7, e8, h9, h10, h11, h12⟩ := hx
  subst e1 e2 e3 e4 e5 e6 e7 e8
  have hok' := hok
  obtain ⟨o1, o2, o3, o4, o5, o6, o7, o8, o9, rk, rk', q1, q2, q3, q4⟩ := hok
  obtain ⟨q5, q6, q7⟩ := q4 hph
  have hlk := pr_lv_ok (O := O) (ob := 0) (pr_gw_T q1) (pr_gw_r q1) oc (fun k hk => by rw [Nat.zero_add]; exact q2 k hk)
  rw [← hL] at hlk q7
  have hLT : ∀ x, x ∈ L → pr_T 0 K x := fun x hx => (hlk.2.2.2 x hx).1
  have hlen := pr_len (lo := 0) (n := 32) hlk.1 (fun x hx => ⟨(hLT x hx).1, (hLT x hx).2.1⟩)
  have hO : ∀ k, k < oc → pr_T 0 K (O k) ∧ a_outputNode k = nI (O k) := fun k hk => ⟨q2 k hk, h12.2.1 k hk⟩
  unfold wpX_applyFirstMatch
  refine x_listLive (lo := 0) (g := 0) (O := O) (by omega) q1 h12.1 (by omega) o7 (gr_O0 h12 q2) (fun se od st k1 k2 => ?_)
  rw [show pr_lv A B O (0 * 4) oc = L from hL.symm] at k1 k2 ⊢
  refine x_delete (L := L) k1 (fun nk nv na nb d1 d2 => ?_)
  have gr0 : gr_at 0 K V A B nk nv na nb := by
    intro n hn
    obtain ⟨z1, z2, z3, z4⟩ := d2 n (Or.inl (q7 n hn))
    rw [z1, z2, z3, z4]
    exact h12.1 n hn
  have gr32 : gr_at 32 K V A B nk nv na nb := by
    intro n hn
    obtain ⟨z1, z2, z3, z4⟩ := d2 n (Or.inr hn.1)
    rw [z1, z2, z3, z4]
    exact (h12.2.2 hph).1 n hn
  have hk32 : ∀ n, n < 32 → nk n = nI (K n) := by
    intro n hn
    by_cases hz : K n = 0
    · rw [hz]
      exact d1 n hn fun hl => (hLT n hl).2.2 hz
    · exact (gr0 n ⟨by omega, by omega, hz⟩).1
  have hall : ∀ (nu se od st cp bn : Nat → Int32), rx mN mR rc ph nc oc f_counterexample f_applications P R rl rj rK uc D ps dc dl dj dk K V A B O ((nI mN), (nI mR), (nI rc), f_counterexample, (nI ph), (nI nc), (nI oc), f_applications, a_preRelation, a_preVariable, a_preConstant, a_roomNeeded, a_useCount, a_treeSize, a_treeKind, a_treeValue, a_treeA, a_treeB, a_treeResult, a_constantValued, a_maximal, cp, bn, a_pending, a_pendingCount, nk, nv, na, nb, a_nodeResult, nu, a_outputNode, se, od, st) := fun nu se od st cp bn => ⟨rfl, rfl, rfl, rfl, rfl, rfl, rfl, rfl, h9, h10, h11, gr0, h12.2.1, fun hp => ⟨gr32, (h12.2.2 hp).2⟩⟩
  refine x_countUses (L := L) (O := O) q1 gr0 hlk o7 hO k2 (fun nu n1 => ⟨L.length + 1, ?_⟩)
  rw [← hus] at n1
  have hub : ∀ d, us d < 2 ^ 31 := fun d => by
    rw [hus]
    exact pr_us_le hlen o7
  have l17 : ∀ d i cp bn, i + d = L.length → (∀ i' r', i' < i → r' < rc → sr_m mN P R rl rj rK K V A B us L.length r' (L.getD i' 0) = none) → wX_applyFirstMatch_17 post (nI L.length) (d + 1) (nI i) (nI mN) (nI mR) (nI rc) f_counterexample (nI ph) (nI nc) (nI oc) f_applications a_preRelation a_preVariable a_preConstant a_roomNeeded a_useCount a_treeSize a_treeKind a_treeValue a_treeA a_treeB a_treeResult a_constantValued a_maximal cp bn a_pending a_pendingCount nk nv na nb a_nodeResult nu a_outputNode se od st := by
    intro d
    induction d with
    | zero =>
      intro i cp bn hi hh
      exact pk_le L.length i (fun _ => hno (fun i' r' a b => hh i' r' (by omega) b) _ (hall nu se od st cp bn)) (fun h => absurd h (by omega))
    | succ d ih =>
      intro i cp bn hi hh
      have hi' : i < L.length := by omega
      have tn := hLT _ (pr_gd_m hi')
      have tn2 := tn.2.1
      refine pk_le L.length i (fun h => absurd h (by omega)) (fun _ => ⟨pk_in i 32 (by omega), ?_⟩)
      rw [nI_clamp (by omega)]
      refine nm_r (k2 i hi') ⟨rc + 1, ?_⟩
      have l32 : ∀ d' r cp bn, r + d' = rc → (∀ r', r' < r → sr_m mN P R rl rj rK K V A B us L.length r' (L.getD i 0) = none) → wX_applyFirstMatch_32 post (wX_applyFirstMatch_17 post (nI L.length) (d + 1)) (nI L.length) (nI i) (nI (L.getD i 0)) (d' + 1) (nI r) (nI mN) (nI mR) (nI rc) f_counterexample (nI ph) (nI nc) (nI oc) f_applications a_preRelation a_preVariable a_preConstant a_roomNeeded a_useCount a_treeSize a_treeKind a_treeValue a_treeA a_treeB a_treeResult a_constantValued a_maximal cp bn a_pending a_pendingCount nk nv na nb a_nodeResult nu a_outputNode se od st := by
        intro d'
        induction d' with
        | zero =>
          intro r cp bn hr hr0
          refine pk_le rc r (fun _ => nm_r (nI_1 _) (ih (i + 1) cp bn (by omega) fun i' r' a b => ?_)) (fun h => absurd h (by omega))
          by_cases e : i' = i
          · subst e
            exact hr0 r' (by omega)
          · exact hh i' r' (by omega) b
        | succ d' ih' =>
          intro r cp bn hr hr0
          have hrr : r < rc := by omega
          obtain ⟨⟨x1, x2, x3, x4, x5⟩, x6, x7⟩ := h9 r hrr
          obtain ⟨w1, w2, w3, w4, w5, w6, w7, w8, w9, w10, w11⟩ := o8 r hrr
          have nx : ∀ cp bn, sr_m mN P R rl rj rK K V A B us L.length r (L.getD i 0) = none → wX_applyFirstMatch_32 post (wX_applyFirstMatch_17 post (nI L.length) (d + 1)) (nI L.length) (nI i) (nI (L.getD i 0)) (d' + 1) (nI (r + 1)) (nI mN) (nI mR) (nI rc) f_counterexample (nI ph) (nI nc) (nI oc) f_applications a_preRelation a_preVariable a_preConstant a_roomNeeded a_useCount a_treeSize a_treeKind a_treeValue a_treeA a_treeB a_treeResult a_constantValued a_maximal cp bn a_pending a_pendingCount nk nv na nb a_nodeResult nu a_outputNode se od st := by
            intro cp bn hm
            refine ih' (r + 1) cp bn (by omega) fun r' hr' => ?_
            by_cases e : r' = r
            · rw [e]
              exact hm
            · exact hr0 r' (by omega)
          have hrm : pt_rm (R r) (pt_has (P r) 14) ≤ 8 := by
            have h8 := w4.1
            have : pt_rm (R r) (pt_has (P r) 14) ≤ pt_n (R r) * 1 := pr_rs_bound (fun x _ _ => by
              unfold pt_rm1
              by_cases hx : pt_cv (R r) (pt_has (P r) 14) x = false ∨ pt_mx (R r) (pt_has (P r) 14) x = true ∧ pt_k (R r) x ≠ 13
              · rw [if_pos hx]
                omega
              · rw [if_neg hx]
                omega)
            omega
          refine pk_le rc r (fun h => absurd h (by omega)) (fun _ => ⟨pk_in r 17 (by omega), ?_⟩)
          rw [nI_clamp (n := r) (by omega), x5, nI_add]
          refine pk_lt mN (L.length + pt_rm (R r) (pt_has (P r) 14)) (fun hl => nm_r (nI_1 _) (nx cp bn ?_)) (fun hl => ?_)
          · unfold sr_m
            rw [if_neg (by omega)]
          · refine x_matches (us := us) (Rn := L.getD i 0) (rl := rl r) (rj := rj r) (rK := rK r) (by omega) w1 w2 q1 gr0 x1 (fun d hd => ⟨n1 d (q7 d hd), hub d⟩) w8 (fun h => (w9 h).1) x6 tn (fun hrun cp' bn' => br_t rfl (nm_r (nI_1 _) (nx cp' bn' ?_))) (fun s' cp' bn' hrun hb => ?_)
            · unfold sr_m
              rw [if_pos hl, hrun]
            · have hinv := pm_run_ok w1 w2 q1 (Nat.le_refl _) (pm_inv0 (V := V) (A := A) (B := B) (us := us) w2 tn) hrun
              have hpe : pr_ph (rl r) (rj r) (rK r) (bx_v V s'.2 0) (bx_v V s'.2 1) = pr_ph (rl r) (rj r) (rK r) (by_v K V s'.2 0) (by_v K V s'.2 1) := by
                refine pr_ph_eq fun hl0 => ?_
                obtain ⟨j1, j2, j3⟩ := w9 hl0
                have hcv := bxy (V := V) (pm_cv hinv j3)
                refine ⟨fun e => ?_, fun e => ?_⟩
                · rw [e] at hcv
                  exact hcv
                · rw [show rj r = 1 by omega] at hcv
                  exact hcv
              rw [hpe]
              have hm : sr_m mN P R rl rj rK K V A B us L.length r (L.getD i 0) = (if pr_ph (rl r) (rj r) (rK r) (by_v K V s'.2 0) (by_v K V s'.2 1) = true then some s' else none) := by
                unfold sr_m
                rw [if_pos hl, hrun]
              refine br_c (fun z => nm_r (nI_1 _) (nx cp' bn' ?_)) (fun z => ?_)
              · rw [hm, (pr_b0 _).mp z]
                rfl
              · have hpt : pr_ph (rl r) (rj r) (rK r) (by_v K V s'.2 0) (by_v K V s'.2 1) = true := by
                  cases hx : pr_ph (rl r) (rj r) (rK r) (by_v K V s'.2 0) (by_v K V s'.2 1) with
                  | true => rfl
                  | false => rw [hx] at z; exact absurd rfl z
                rw [if_pos hpt] at hm
                have hsf : sr_f rc L (sr_m mN P R rl rj rK K V A B us L.length) i r s' := ⟨hi', hrr, hm, hh, hr0⟩
                obtain ⟨y, rk2, y1, y2, y3, y4, y5, y6, y7, y8, y9, y10, y11⟩ := st_all hok' hph hL hus hrr tn hm
                refine x_applyRule (K := K) (V := V) (A := A) (B := B) (O := O) (C := pt_has (P r) 14) (tv := sr_tv (R r) K V s'.2) (bd := s'.2) (y := y) (s := sr_b (P r) (R r) K V A B s'.2 (pt_n (R r))) (by omega) o7 (by omega) w4 w5 w6 x2 x3 x4 hb (fun j d hd => pm_bd hinv hd) gr0 hk32 (fun q hq hc => ?_) y5 rfl y1 y2 (fun n c hn hc => (y7 n hn).2.2.2 c hc) (fun k hk => ⟨by have := (q2 k hk).2.1; omega, (hO k hk).2⟩) (fun nk' nv' na' nb' ou' tr' cp'' g1 g2 g3 g4 => ?_)
                · exact pt_tv_c w4 w6 (fun h => bxy (pm_cv hinv h)) (fun h => bxy (pm_cv hinv h)) q hq hc
                · refine hy i r s' y _ hsf y1 rfl _ ⟨rfl, rfl, rfl, rfl, rfl, rfl, rfl, rfl, fun r' hr' => ⟨(h9 r' hr').1, (h9 r' hr').2.1, ?_⟩, h10, h11, gr_pa g1, g3, fun hp => ⟨gr_next gr32 g2 y10, fun k hk => ?_⟩⟩
                  · by_cases e : r' = r
                    · rw [e, pk_us, pr_st_s, x7]
                    · rw [pk_un e, pr_st_n e]
                      exact (h9 r' hr').2.2
                  · rw [pa_O4 o7, g4 (4 + k) (by omega)]
                    exact (h12.2.2 hp).2 k hk
      exact l32 rc 0 cp bn (by omega) (fun r' h => absurd h (by omega))
  exact l17 L.length 0 _ _ (by omega) (fun i' r' h => absurd h (by omega))
end XY
