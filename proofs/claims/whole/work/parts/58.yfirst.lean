/-! Y: one search -/
theorem sr_leaf {mN : Nat} {P R : Nat → pr_PT} {rl rj rK : Nat → Nat} {K : Nat → Nat} {V : Nat → Int32} {A B : Nat → Option Nat} {us : Nat → Nat} {ln r n : Nat} (hf : pt_fin (P r)) (hPr : pt_k (P r) (pt_n (P r) - 1) ≤ 10) (hn : 11 ≤ K n) : sr_m mN P R rl rj rK K V A B us ln r n = none := by
  have hrun : pm_run K V A B us (P r) (pt_n (P r)) (fun _ => n, fun _ => none) = none := by
    obtain ⟨k, hk⟩ : ∃ k, pt_n (P r) = k + 1 := ⟨pt_n (P r) - 1, by have := hf.1; omega⟩
    have hst : pm_st K V A B us (P r) k (fun _ => n, fun _ => none) = none := by
      have e : pt_n (P r) - 1 = k := by omega
      rw [e] at hPr
      unfold pm_st
      rw [if_neg (by omega), if_neg (by omega)]
      show (if K n = pt_k (P r) k ∧ (k + 1 = pt_n (P r) ∨ us n = 1) then _ else none) = none
      rw [if_neg (fun hh => by have := hh.1; omega)]
    rw [hk]
    show (match pm_st K V A B us (P r) k (fun _ => n, fun _ => none) with
      | none => none
      | some s' => pm_run K V A B us (P r) k s') = none
    rw [hst]
  unfold sr_m
  rw [hrun]
  by_cases h : ln + pt_rm (R r) (pt_has (P r) 14) ≤ mN
  · rw [if_pos h]
  · rw [if_neg h]
section YY
variable {f_maxNodes f_maxRules f_phase f_nCount f_outCnt f_apps f_ruleCount f_cex f_curLive f_orderN : Int32} {a_alive a_nKind a_nVal a_nA a_nB a_lv a_nd a_nv a_outs a_tKind a_tVal a_tA a_tB a_tN a_preRel a_preJ a_preK a_ruleUse a_pend a_pendN a_tv a_cv a_mx a_par a_mp a_res a_bnd a_order a_stk a_stSt : Nat → Int32}
variable {K : Nat → Nat} {V : Nat → Int32} {A B : Nat → Option Nat} {rk O : Nat → Nat}
theorem y_bo28 {post : SY → Prop} {oc : Nat} (hG : pr_gw 0 K V A B rk) (hg : gr_at 0 K V A B a_nKind a_nVal a_nA a_nB) (hoc : oc ≤ 4) (hO : ∀ k, k < oc → pr_T 0 K (O k) ∧ a_outs k = nI (O k))
    (h : ∀ nd od stk ss, pr_ls od (pr_lv A B O 0 oc) → post (f_maxNodes, f_maxRules, f_phase, f_nCount, (nI oc), f_apps, f_ruleCount, f_cex, f_curLive, (nI (pr_lv A B O 0 oc).length), a_alive, a_nKind, a_nVal, a_nA, a_nB, a_lv, nd, a_nv, a_outs, a_tKind, a_tVal, a_tA, a_tB, a_tN, a_preRel, a_preJ, a_preK, a_ruleUse, a_pend, a_pendN, a_tv, a_cv, a_mx, a_par, a_mp, a_res, a_bnd, od, stk, ss)) :
    ∀ d i nd od stk ss, i + d = oc → y_nd (pr_T 0 K) (pr_lv A B O 0 i) nd → pr_ls od (pr_lv A B O 0 i) → wY_buildOrder_28 post f_maxNodes f_maxRules f_phase f_nCount (nI oc) f_apps f_ruleCount f_cex f_curLive (d + 1) (nI i) (nI (pr_lv A B O 0 i).length) a_alive a_nKind a_nVal a_nA a_nB a_lv nd a_nv a_outs a_tKind a_tVal a_tA a_tB a_tN a_preRel a_preJ a_preK a_ruleUse a_pend a_pendN a_tv a_cv a_mx a_par a_mp a_res a_bnd od stk ss := by
  intro d
  have hT := pr_gw_T hG
  induction d with
  | zero =>
    intro i nd od stk ss hi h1 h2
    have e : i = oc := by omega
    subst e
    exact pk_le i i (fun _ => h nd od stk ss h2) (fun h => absurd h (by omega))
  | succ d ih =>
    intro i nd od stk ss hi h1 h2
    obtain ⟨to, eo⟩ := hO i (by omega)
    have to2 := to.2.1
    obtain ⟨l1, l2, l3, l4⟩ := pr_lv_ok (O := O) (ob := 0) hT (pr_gw_r hG) i (fun k hk => by rw [Nat.zero_add]; exact (hO k (by omega)).1)
    have hin8 : vp_in (nI i) 8 := pk_in i 8 (by omega)
    have hin : vp_in (nI (O i)) 64 := pk_in (O i) 64 (by omega)
    refine pk_le oc i (fun h => absurd h (by omega)) (fun _ => pk_le 4 i (fun h => absurd h (by omega)) (fun _ => ⟨hin8, ?_⟩))
    rw [nI_clamp (n := i) (by omega), eo, nI_clamp (by omega)]
    refine br_f (nI_pos (by omega)) ⟨hin8, pk_le 32 (O i) (fun h => absurd h (by omega)) (fun _ => ⟨hin8, hin, ?_⟩)⟩
    have hlv : pr_lv A B O 0 (i + 1) = pr_po A B 32 (O i) (pr_lv A B O 0 i) := by
      show pr_po A B 32 (O (0 + i)) (pr_lv A B O 0 i) = _
      rw [Nat.zero_add]
    refine br_c (fun z => ⟨hin8, nm_e (nm_e ⟨201, ?_⟩)⟩) (fun z => ⟨1, ?_⟩)
    · have hnl := (h1 _ to).mp z
      have hrk := pr_gw_r hG _ to
      obtain ⟨M, eM, m1, m2, m3, m4⟩ := pr_po_ok hT 32 (O i) hrk to (pr_lv A B O 0 i) l1 l2
      have hlen : (pr_lv A B O 0 i ++ M).length ≤ 32 := pr_len (lo := 0) m1 (fun x hx => by
        rcases List.mem_append.mp hx with hx | hx
        · exact ⟨(l4 x hx).1.1, (l4 x hx).1.2.1⟩
        · exact ⟨(m4 x hx).1.1, (m4 x hx).1.2.1⟩)
      refine y_visit hG hg 32 (O i) hrk to (pr_lv A B O 0 i) l1 l2 hnl (fun x hx => (l4 x hx).1) 201 0 0 nd od _ _ (by omega) (by omega) ?_ pk_us pk_us h2 h1 ?_
      · rw [eM]
        omega
      · intro f' nd' od' stk' ss' hf' _ hls' hnd'
        obtain ⟨g, rfl⟩ : ∃ g, f' = g + 1 := ⟨f' - 1, by rw [eM] at hf'; omega⟩
        have hnx := ih (i + 1) nd' od' stk' ss' (by omega) (by rw [hlv]; exact hnd') (by rw [hlv]; exact hls')
        rw [hlv] at hnx
        by_cases h200 : (200 : Int32) ≤ nI (0 + 3 * (pr_po A B 32 (O i) (pr_lv A B O 0 i)).length - 3 * (pr_lv A B O 0 i).length)
        · exact br_t h200 (nm_r (nI_1 _) hnx)
        · exact br_f h200 (br_t (by decide) (nm_r (nI_1 _) hnx))
    · have hin' : O i ∈ pr_lv A B O 0 i := by
        apply Classical.byContradiction
        intro hn
        exact z ((h1 _ to).mpr hn)
      have ee : pr_lv A B O 0 (i + 1) = pr_lv A B O 0 i := by
        rw [hlv]
        show (if O i ∈ pr_lv A B O 0 i then pr_lv A B O 0 i else _) = _
        rw [if_pos hin']
      have hnx := ih (i + 1) nd od stk ss (by omega) (by rw [ee]; exact h1) (by rw [ee]; exact h2)
      rw [ee] at hnx
      exact br_f (by decide) (br_t (by decide) (nm_r (nI_1 _) hnx))
theorem y_buildOrder {post : SY → Prop} {oc : Nat} {L : List Nat} (hL : L = pr_lv A B O 0 oc) (hG : pr_gw 0 K V A B rk) (hg : gr_at 0 K V A B a_nKind a_nVal a_nA a_nB) (hoc : oc ≤ 4) (hO : ∀ k, k < oc → pr_T 0 K (O k) ∧ a_outs k = nI (O k))
    (h : ∀ nd od stk ss, pr_ls od L → post (f_maxNodes, f_maxRules, f_phase, f_nCount, (nI oc), f_apps, f_ruleCount, f_cex, f_curLive, (nI L.length), a_alive, a_nKind, a_nVal, a_nA, a_nB, a_lv, nd, a_nv, a_outs, a_tKind, a_tVal, a_tA, a_tB, a_tN, a_preRel, a_preJ, a_preK, a_ruleUse, a_pend, a_pendN, a_tv, a_cv, a_mx, a_par, a_mp, a_res, a_bnd, od, stk, ss)) : wpY_buildOrder post (f_maxNodes, f_maxRules, f_phase, f_nCount, (nI oc), f_apps, f_ruleCount, f_cex, f_curLive, f_orderN, a_alive, a_nKind, a_nVal, a_nA, a_nB, a_lv, a_nd, a_nv, a_outs, a_tKind, a_tVal, a_tA, a_tB, a_tN, a_preRel, a_preJ, a_preK, a_ruleUse, a_pend, a_pendN, a_tv, a_cv, a_mx, a_par, a_mp, a_res, a_bnd, a_order, a_stk, a_stSt) := by
  subst hL
  have l7 : ∀ d i nd, i + d = 32 → (∀ c, c < i → nd c = 0) → wY_buildOrder_7 post f_maxNodes f_maxRules f_phase f_nCount (nI oc) f_apps f_ruleCount f_cex f_curLive 0 (d + 1) (nI i) a_alive a_nKind a_nVal a_nA a_nB a_lv nd a_nv a_outs a_tKind a_tVal a_tA a_tB a_tN a_preRel a_preJ a_preK a_ruleUse a_pend a_pendN a_tv a_cv a_mx a_par a_mp a_res a_bnd a_order a_stk a_stSt := by
    intro d
    induction d with
    | zero =>
      intro i nd hi hnd
      refine pk_le 32 i (fun _ => ⟨oc + 1, ?_⟩) (fun h => absurd h (by omega))
      exact y_bo28 hG hg hoc hO h oc 0 nd _ _ _ (by omega) (fun c tc => ⟨fun _ hx => (by cases hx), fun _ => hnd c (by have := tc.2.1; omega)⟩) (fun q hq => absurd hq (Nat.not_lt_zero q))
    | succ d ih =>
      intro i nd hi hnd
      refine pk_le 32 i (fun h => absurd h (by omega)) (fun _ => ⟨pk_in i 64 (by omega), ?_⟩)
      rw [nI_clamp (by omega), pr_vb0]
      refine nm_e (nm_r (nI_1 _) (ih (i + 1) _ (by omega) fun c hc => ?_))
      by_cases e : c = i
      · rw [e, pk_us]
      · rw [pk_un e]
        exact hnd c (by omega)
  exact ⟨33, l7 32 0 a_nd (by omega) (fun c hc => absurd hc (by omega))⟩
end YY
section YZ
variable {f_maxNodes f_maxRules f_phase f_nCount f_outCnt f_apps f_ruleCount f_cex f_curLive f_orderN : Int32} {a_alive a_nKind a_nVal a_nA a_nB a_lv a_nd a_nv a_outs a_tKind a_tVal a_tA a_tB a_tN a_preRel a_preJ a_preK a_ruleUse a_pend a_pendN a_tv a_cv a_mx a_par a_mp a_res a_bnd a_order a_stk a_stSt : Nat → Int32}
variable {mN : Nat} {mR : Nat} {rc : Nat} {ph : Nat} {nc : Nat} {oc : Nat} {cx : Int32} {ap : Int32} {P : Nat → pr_PT} {R : Nat → pr_PT} {rl : Nat → Nat} {rj : Nat → Nat} {rK : Nat → Nat} {uc : Nat → Int32} {D : Nat → pr_PT} {ps : Nat → Nat → Nat} {dc : Nat → Nat} {dl : Nat} {dj : Nat} {dk : Nat} {K : Nat → Nat} {V : Nat → Int32} {A : Nat → Option Nat} {B : Nat → Option Nat} {O : Nat → Nat}
theorem ry_afm {u : SY} {post : Int32 → SY → Prop} (hok : sp_ok mN mR rc ph nc oc cx ap P R rl rj rK uc D ps dc dl dj dk K V A B O) (hph : ph = 1) (hx : ry mN mR rc ph nc oc cx ap P R rl rj rK uc D ps dc dl dj dk K V A B O u) {L : List Nat} {us : Nat → Nat} (hL : L = pr_lv A B O 0 oc) (hus : us = pr_us A B O L oc)
    (hno : sr_0 rc L (sr_m mN P R rl rj rK K V A B us L.length) → ∀ u', ry mN mR rc ph nc oc cx ap P R rl rj rK uc D ps dc dl dj dk K V A B O u' → post 0 u')
    (hy : ∀ i r s y L2, sr_f rc L (sr_m mN P R rl rj rK K V A B us L.length) i r s → (sr_b (P r) (R r) K V A B s.2 (pt_n (R r))).2.2.2.2 (pt_n (R r) - 1) = some y → L2 = pr_lv (pa_A (L.getD i 0) y (sr_b (P r) (R r) K V A B s.2 (pt_n (R r))).2.2.1) (pa_A (L.getD i 0) y (sr_b (P r) (R r) K V A B s.2 (pt_n (R r))).2.2.2.1) (pa_O (L.getD i 0) y oc O) 0 oc →
      ∀ u', ry mN mR rc ph nc oc cx (ap + 1) P R rl rj rK (pr_st uc r (uc r + 1)) D ps dc dl dj dk (pa_K L2 (sr_b (P r) (R r) K V A B s.2 (pt_n (R r))).1) ((sr_b (P r) (R r) K V A B s.2 (pt_n (R r))).2.1) (pa_A (L.getD i 0) y (sr_b (P r) (R r) K V A B s.2 (pt_n (R r))).2.2.1) (pa_A (L.getD i 0) y (sr_b (P r) (R r) K V A B s.2 (pt_n (R r))).2.2.2.1) (pa_O (L.getD i 0) y oc O) u' → post 1 u') : wpY_findAndApply post u := by
  obtain ⟨f_maxNodes, f_maxRules, f_phase, f_nCount, f_outCnt, f_apps, f_ruleCount, f_cex, f_curLive, f_orderN, a_alive, a_nKind, a_nVal, a_nA, a_nB, a_lv, a_nd, a_nv, a_outs, a_tKind, a_tVal, a_tA, a_tB, a_tN, a_preRel, a_preJ, a_preK, a_ruleUse, a_pend, a_pendN, a_tv, a_cv, a_mx, a_par, a_mp, a_res, a_bnd, a_order, a_stk, a_stSt⟩ := u
  obtain ⟨e1, e2, e3, e4, e5, e6, e7, e8, h9, h10, h11, h12⟩ := hx
  subst e1 e2 e3 e4 e5 e6 e7 e8
  have hok' := hok
  obtain ⟨o1, o2, o3, o4, o5, o6, o7, o8, o9, rk, rk', q1, q2, q3, q4⟩ := hok
  obtain ⟨q5, q6, q7⟩ := q4 hph
  have hlk := pr_lv_ok (O := O) (ob := 0) (pr_gw_T q1) (pr_gw_r q1) oc (fun k hk => by rw [Nat.zero_add]; exact q2 k hk)
  rw [← hL] at hlk q7
  have hLT : ∀ x, x ∈ L → pr_T 0 K x := fun x hx => (hlk.2.2.2 x hx).1
  have hlen := pr_len (lo := 0) (n := 32) hlk.1 (fun x hx => ⟨(hLT x hx).1, (hLT x hx).2.1⟩)
  have hO : ∀ k, k < oc → pr_T 0 K (O k) ∧ a_outs k = nI (O k) := fun k hk => ⟨q2 k hk, h12.1.2.1 k hk⟩
  have hub : ∀ d, us d < 2 ^ 31 := fun d => by
    rw [hus]
    exact pr_us_le hlen o7
  unfold wpY_findAndApply
  refine y_liveSum (g := 0) (cost := 0) (O := O) (L := L) (by omega) (by omega) q1 h12.1.1 h12.2.1 o7 (gr_0 h12.1 q2) hL (fun lv hlv => ?_)
  rw [pr_sm_1]
  refine y_buildOrder (L := L) (O := O) hL q1 h12.1.1 o7 hO (fun nd od stk ss k2 => ⟨L.length + 1, ?_⟩)
  have l16 : ∀ d i mp bn cv mx par, i + d = L.length → (∀ i' r', i' < i → r' < rc → sr_m mN P R rl rj rK K V A B us L.length r' (L.getD i' 0) = none) → wY_findAndApply_16 post (d + 1) (nI i) (nI mN) (nI mR) (nI ph) (nI nc) (nI oc) f_apps (nI rc) f_cex (nI L.length) (nI L.length) a_alive a_nKind a_nVal a_nA a_nB lv nd a_nv a_outs a_tKind a_tVal a_tA a_tB a_tN a_preRel a_preJ a_preK a_ruleUse a_pend a_pendN a_tv cv mx par mp a_res bn od stk ss := by
    intro d
    induction d with
    | zero =>
      intro i mp bn cv mx par hi hh
      exact pk_le L.length i (fun _ => hno (fun i' r' a b => hh i' r' (by omega) b) _ ⟨rfl, rfl, rfl, rfl, rfl, rfl, rfl, rfl, h9, h10, h11, h12⟩) (fun h => absurd h (by omega))
    | succ d ih =>
      intro i mp bn cv mx par hi hh
      have hi' : i < L.length := by omega
      have tn := hLT _ (pr_gd_m hi')
      have tn2 := tn.2.1
      have hK1 : 1 ≤ K (L.getD i 0) := Nat.pos_of_ne_zero tn.2.2
      have hK12 := (q1 _ tn).1
      have hin : vp_in (nI (L.getD i 0)) 64 := pk_in (L.getD i 0) 64 (by omega)
      have step : ∀ mp bn cv mx par, (∀ r', r' < rc → sr_m mN P R rl rj rK K V A B us L.length r' (L.getD i 0) = none) → wY_findAndApply_16 post (d + 1) (nI (i + 1)) (nI mN) (nI mR) (nI ph) (nI nc) (nI oc) f_apps (nI rc) f_cex (nI L.length) (nI L.length) a_alive a_nKind a_nVal a_nA a_nB lv nd a_nv a_outs a_tKind a_tVal a_tA a_tB a_tN a_preRel a_preJ a_preK a_ruleUse a_pend a_pendN a_tv cv mx par mp a_res bn od stk ss := by
        intro mp bn cv mx par hr0
        refine ih (i + 1) mp bn cv mx par (by omega) fun i' r' a b => ?_
        by_cases e : i' = i
        · subst e
          exact hr0 r' b
        · exact hh i' r' (by omega) b
      have l68 : ∀ d' r mp bn cv mx par, r + d' = rc → (∀ r', r' < r → sr_m mN P R rl rj rK K V A B us L.length r' (L.getD i 0) = none) → wY_findAndApply_68 post (wY_findAndApply_16 post (d + 1)) (nI i) (nI (L.getD i 0)) (d' + 1) (nI r) (nI mN) (nI mR) (nI ph) (nI nc) (nI oc) f_apps (nI rc) f_cex (nI L.length) (nI L.length) a_alive a_nKind a_nVal a_nA a_nB lv nd a_nv a_outs a_tKind a_tVal a_tA a_tB a_tN a_preRel a_preJ a_preK a_ruleUse a_pend a_pendN a_tv cv mx par mp a_res bn od stk ss := by
        intro d'
        induction d' with
        | zero =>
          intro r mp bn cv mx par hr hr0
          exact pk_le rc r (fun _ => nm_r (nI_1 _) (step mp bn cv mx par fun r' h => hr0 r' (by omega))) (fun h => absurd h (by omega))
        | succ d' ih' =>
          intro r mp bn cv mx par hr hr0
          have hrr : r < rc := by omega
          obtain ⟨x1, x2, x3, x4⟩ := h9 r hrr
          obtain ⟨w1, w2, w3, w4, w5, w6, w7, w8, w9, w10, w11⟩ := o8 r hrr
          have nx : ∀ mp bn cv mx par, sr_m mN P R rl rj rK K V A B us L.length r (L.getD i 0) = none → wY_findAndApply_68 post (wY_findAndApply_16 post (d + 1)) (nI i) (nI (L.getD i 0)) (d' + 1) (nI (r + 1)) (nI mN) (nI mR) (nI ph) (nI nc) (nI oc) f_apps (nI rc) f_cex (nI L.length) (nI L.length) a_alive a_nKind a_nVal a_nA a_nB lv nd a_nv a_outs a_tKind a_tVal a_tA a_tB a_tN a_preRel a_preJ a_preK a_ruleUse a_pend a_pendN a_tv cv mx par mp a_res bn od stk ss := by
            intro mp bn cv mx par hm
            refine ih' (r + 1) mp bn cv mx par (by omega) fun r' hr' => ?_
            by_cases e : r' = r
            · rw [e]
              exact hm
            · exact hr0 r' (by omega)
          refine pk_le rc r (fun h => absurd h (by omega)) (fun _ => pk_le 16 r (fun h => absurd h (by omega)) (fun _ => ?_))
          refine y_match (us := us) (L := L) (O := O) (Rn := L.getD i 0) (P := P r) (R := R r) (rl := rl r) (rj := rj r) (rK := rK r) (by omega) hlen o2 w1 w2 w4 w6 q1 h12.1.1 h12.2.1 o7 hO hL (fun c a b => hlv c (by omega) (by omega)) hus hub x1 x2 w8 (fun h => (w9 h).1) x3 tn (fun hrun mp' bn' => br_t rfl (nm_r (nI_1 _) (nx mp' bn' _ _ _ ?_))) (fun s' hrun hl0 => ?_) (fun s' mp' bn' cv' mx' par' hrun hb => ?_)
          · unfold sr_m
            rw [hrun]
            by_cases h : L.length + pt_rm (R r) (pt_has (P r) 14) ≤ mN
            · rw [if_pos h]
            · rw [if_neg h]
          · have hinv := pm_run_ok w1 w2 q1 (Nat.le_refl _) (pm_inv0 (V := V) (A := A) (B := B) (us := us) w2 tn) hrun
            obtain ⟨dd, d1, _⟩ := pm_cv hinv (w9 hl0).2.2
            exact ⟨dd, d1⟩
          · have hinv := pm_run_ok w1 w2 q1 (Nat.le_refl _) (pm_inv0 (V := V) (A := A) (B := B) (us := us) w2 tn) hrun
            refine br_c (fun z => nm_r (nI_1 _) (nx mp' bn' cv' mx' par' ?_)) (fun z => ?_)
            · have hz := (pr_b0 _).mp z
              unfold sr_m
              by_cases h : L.length + pt_rm (R r) (pt_has (P r) 14) ≤ mN
              · rw [if_pos h, hrun]
                rw [decide_eq_true h, Bool.and_true] at hz
                show (if pr_ph (rl r) (rj r) (rK r) (by_v K V s'.2 0) (by_v K V s'.2 1) = true then some s' else none) = none
                rw [hz]
                rfl
              · rw [if_neg h]
            · have hz : (pr_ph (rl r) (rj r) (rK r) (by_v K V s'.2 0) (by_v K V s'.2 1) && decide (L.length + pt_rm (R r) (pt_has (P r) 14) ≤ mN)) = true := by
                cases hx : (pr_ph (rl r) (rj r) (rK r) (by_v K V s'.2 0) (by_v K V s'.2 1) && decide (L.length + pt_rm (R r) (pt_has (P r) 14) ≤ mN)) with
                | true => rfl
                | false => rw [hx] at z; exact absurd rfl z
              rw [Bool.and_eq_true, decide_eq_true_eq] at hz
              have hm : sr_m mN P R rl rj rK K V A B us L.length r (L.getD i 0) = some s' := by
                unfold sr_m
                rw [if_pos hz.2, hrun]
                show (if pr_ph (rl r) (rj r) (rK r) (by_v K V s'.2 0) (by_v K V s'.2 1) = true then some s' else none) = some s'
                rw [if_pos hz.1]
              have hsf : sr_f rc L (sr_m mN P R rl rj rK K V A B us L.length) i r s' := ⟨hi', hrr, hm, hh, hr0⟩
              obtain ⟨y, rk2, y1, y2, y3, y4, y5, y6, y7, y8, y9, y10, y11⟩ := st_all hok' hph hL hus hrr tn hm
              refine y_apply (K := K) (V := V) (A := A) (B := B) (O := O) (P := P r) (R := R r) (C := pt_has (P r) 14) (tv := sr_tv (R r) K V s'.2) (bd := s'.2) (y := y) (s := sr_b (P r) (R r) K V A B s'.2 (pt_n (R r))) (by omega) o7 (by omega) w1 w4 w5 w6 x1 x2 rfl hb (fun j d hd => pm_bd hinv hd) q1 h12.1.1 h12.2.1 rfl y5 y6 rfl y1 y2 y7 (fun k hk => ⟨by have := (q2 k hk).2.1; omega, (hO k hk).2⟩) y8 y9 rfl (fun al nk nv na nb ou lv' cv'' mx'' par'' tv'' rs g1 g2 g3 g4 g5 => ?_)
              refine hy i r s' y _ hsf y1 rfl _ ⟨rfl, rfl, rfl, rfl, rfl, rfl, rfl, rfl, fun r' hr' => ⟨(h9 r' hr').1, (h9 r' hr').2.1, (h9 r' hr').2.2.1, ?_⟩, h10, h11, ⟨gr_pa g1, g4, fun hp => ⟨gr_next (h12.1.2.2 hp).1 (fun x hx => (g3 x hx).2) y10, fun k hk => ?_⟩⟩, g2, fun hp n h0 hn => ?_⟩
              · by_cases e : r' = r
                · rw [e, pk_us, pr_st_s, x4]
                · rw [pk_un e, pr_st_n e]
                  exact (h9 r' hr').2.2.2
              · rw [pa_O4 o7, g5 (4 + k) (by omega)]
                exact (h12.1.2.2 hp).2 k hk
              · rw [(g3 n h0).1]
                have e : pa_K (pr_lv (pa_A (L.getD i 0) y (sr_b (P r) (R r) K V A B s'.2 (pt_n (R r))).2.2.1) (pa_A (L.getD i 0) y (sr_b (P r) (R r) K V A B s'.2 (pt_n (R r))).2.2.2.1) (pa_O (L.getD i 0) y oc O) 0 oc) (sr_b (P r) (R r) K V A B s'.2 (pt_n (R r))).1 n = K n := by
                  unfold pa_K
                  rw [if_neg (fun hh => absurd hh.1 (by omega))]
                  exact (y10 n h0).1
                rw [e]
                exact h12.2.2 hp n h0 hn
      refine pk_le L.length i (fun h => absurd h (by omega)) (fun _ => pk_le 32 i (fun h => absurd h (by omega)) (fun _ => ⟨pk_in i 32 (by omega), ?_⟩))
      rw [nI_clamp (by omega)]
      refine nm_r (k2 i hi') ⟨hin, ?_⟩
      rw [nI_clamp (by omega), (h12.1.1 _ tn).1]
      have go : ∃ n68, wY_findAndApply_68 post (wY_findAndApply_16 post (d + 1)) (nI i) (nI (L.getD i 0)) n68 0 (nI mN) (nI mR) (nI ph) (nI nc) (nI oc) f_apps (nI rc) f_cex (nI L.length) (nI L.length) a_alive a_nKind a_nVal a_nA a_nB lv nd a_nv a_outs a_tKind a_tVal a_tA a_tB a_tN a_preRel a_preJ a_preK a_ruleUse a_pend a_pendN a_tv cv mx par mp a_res bn od stk ss := ⟨rc + 1, l68 rc 0 mp bn cv mx par (by omega) (fun r' h => absurd h (by omega))⟩
      by_cases hb : K (L.getD i 0) ≤ 8
      · exact y_isBin_t hK1 hb (br_f (by decide) go)
      · refine y_isBin_f (by omega) (by omega) (br_t rfl ⟨hin, ?_⟩)
        by_cases hu : K (L.getD i 0) ≤ 10
        · exact y_isUn_t (by omega) (br_f (by decide) go)
        · exact y_isUn_f (by omega) (by omega) (br_t rfl (nm_r (nI_1 _) (step mp bn cv mx par fun r' hr' => sr_leaf (o8 r' hr').2.1 (o8 r' hr').2.2.1 (by omega))))
  exact l16 L.length 0 _ _ _ _ _ (by omega) (fun i' r' h => absurd h (by omega))
end YZ
