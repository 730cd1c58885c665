/-! optimize: the searches, one after another -/
theorem sr_ex {rc : Nat} {L : List Nat} {m : Nat → Nat → Option pm_S} (h : ∀ i r s, ¬ sr_f rc L m i r s) : sr_0 rc L m := by
  have main : ∀ i, i < L.length → ∀ r, r < rc → m r (L.getD i 0) = none := by
    intro i
    induction i using Nat.strongRecOn with
    | ind i ih =>
      intro hi r
      induction r using Nat.strongRecOn with
      | ind r ihr =>
        intro hr
        cases hm : m r (L.getD i 0) with
        | none => rfl
        | some s => exact absurd ⟨hi, hr, hm, fun i' r' a b => ih i' a (by omega) r' b, fun r' a => ihr r' a (by omega)⟩ (h i r s)
  exact fun i r hi hr => main i hi r hr
def xo_w (post : Int32 → SX → Prop) (b : Int32) (f : Nat) (x2 x3 : Int32) (u : SX) : Prop := match u with
  | (f_maxNodes, f_maxRules, f_ruleCount, f_counterexample, f_optimized, f_nodeCount, f_outputCount, f_applications, a_preRelation, a_preVariable, a_preConstant, a_roomNeeded, a_useCount, a_treeSize, a_treeKind, a_treeValue, a_treeA, a_treeB, a_treeResult, a_constantValued, a_maximal, a_counterpart, a_boundNode, a_pending, a_pendingCount, a_nodeKind, a_nodeValue, a_nodeA, a_nodeB, a_nodeResult, a_nodeUses, a_outputNode, a_seen, a_order, a_walkStack) => wX_optimize_25 post b f x2 x3 f_maxNodes f_maxRules f_ruleCount f_counterexample f_optimized f_nodeCount f_outputCount f_applications a_preRelation a_preVariable a_preConstant a_roomNeeded a_useCount a_treeSize a_treeKind a_treeValue a_treeA a_treeB a_treeResult a_constantValued a_maximal a_counterpart a_boundNode a_pending a_pendingCount a_nodeKind a_nodeValue a_nodeA a_nodeB a_nodeResult a_nodeUses a_outputNode a_seen a_order a_walkStack
def yo_w (post : Int32 → SY → Prop) (f : Nat) (x1 x2 : Int32) (u : SY) : Prop := match u with
  | (f_maxNodes, f_maxRules, f_phase, f_nCount, f_outCnt, f_apps, f_ruleCount, f_cex, f_curLive, f_orderN, a_alive, a_nKind, a_nVal, a_nA, a_nB, a_lv, a_nd, a_nv, a_outs, a_tKind, a_tVal, a_tA, a_tB, a_tN, a_preRel, a_preJ, a_preK, a_ruleUse, a_pend, a_pendN, a_tv, a_cv, a_mx, a_par, a_mp, a_res, a_bnd, a_order, a_stk, a_stSt) => wY_optimize_171 post f x1 x2 f_maxNodes f_maxRules f_phase f_nCount f_outCnt f_apps f_ruleCount f_cex f_curLive f_orderN a_alive a_nKind a_nVal a_nA a_nB a_lv a_nd a_nv a_outs a_tKind a_tVal a_tA a_tB a_tN a_preRel a_preJ a_preK a_ruleUse a_pend a_pendN a_tv a_cv a_mx a_par a_mp a_res a_bnd a_order a_stk a_stSt
section OX
variable {f_maxNodes f_maxRules f_ruleCount f_counterexample f_optimized f_nodeCount f_outputCount f_applications : Int32} {a_preRelation a_preVariable a_preConstant a_roomNeeded a_useCount a_treeSize a_treeKind a_treeValue a_treeA a_treeB a_treeResult a_constantValued a_maximal a_counterpart a_boundNode a_pending a_pendingCount a_nodeKind a_nodeValue a_nodeA a_nodeB a_nodeResult a_nodeUses a_outputNode a_seen a_order a_walkStack : Nat → Int32}
variable {mN : Nat} {mR : Nat} {rc : Nat} {ph : Nat} {nc : Nat} {oc : Nat} {cx : Int32} {ap : Int32} {P : Nat → pr_PT} {R : Nat → pr_PT} {rl : Nat → Nat} {rj : Nat → Nat} {rK : Nat → Nat} {uc : Nat → Int32} {D : Nat → pr_PT} {ps : Nat → Nat → Nat} {dc : Nat → Nat} {dl : Nat} {dj : Nat} {dk : Nat} {K : Nat → Nat} {V : Nat → Int32} {A : Nat → Option Nat} {B : Nat → Option Nat} {O : Nat → Nat}
theorem xo_step {u : SX} {post : Int32 → SX → Prop} {b : Int32} {f t : Nat} (ht : t < 97) (h : wpX_applyFirstMatch (fun r u' => xo_w post b f r (nI (t + 1)) u') u) : xo_w post b (f + 1) 1 (nI t) u := by
  obtain ⟨f_maxNodes, f_maxRules, f_ruleCount, f_counterexample, f_optimized, f_nodeCount, f_outputCount, f_applications, a_preRelation, a_preVariable, a_preConstant, a_roomNeeded, a_useCount, a_treeSize, a_treeKind, a_treeValue, a_treeA, a_treeB, a_treeResult, a_constantValued, a_maximal, a_counterpart, a_boundNode, a_pending, a_pendingCount, a_nodeKind, a_nodeValue, a_nodeA, a_nodeB, a_nodeResult, a_nodeUses, a_outputNode, a_seen, a_order, a_walkStack⟩ := u
  refine pk_le 97 t (fun h => absurd h (by omega)) (fun _ => br_f (by decide) ?_)
  rw [nI_1]
  have e : (fun (r : Int32) (u' : SX) => xo_w post b f r (nI (t + 1)) u') = (fun r_4 u => match u with | (f_maxNodes, f_maxRules, f_ruleCount, f_counterexample, f_optimized, f_nodeCount, f_outputCount, f_applications, a_preRelation, a_preVariable, a_preConstant, a_roomNeeded, a_useCount, a_treeSize, a_treeKind, a_treeValue, a_treeA, a_treeB, a_treeResult, a_constantValued, a_maximal, a_counterpart, a_boundNode, a_pending, a_pendingCount, a_nodeKind, a_nodeValue, a_nodeA, a_nodeB, a_nodeResult, a_nodeUses, a_outputNode, a_seen, a_order, a_walkStack) => ∀ x3_40 : Int32, x3_40 = nI (t + 1) → wX_optimize_25 post b f r_4 x3_40 f_maxNodes f_maxRules f_ruleCount f_counterexample f_optimized f_nodeCount f_outputCount f_applications a_preRelation a_preVariable a_preConstant a_roomNeeded a_useCount a_treeSize a_treeKind a_treeValue a_treeA a_treeB a_treeResult a_constantValued a_maximal a_counterpart a_boundNode a_pending a_pendingCount a_nodeKind a_nodeValue a_nodeA a_nodeB a_nodeResult a_nodeUses a_outputNode a_seen a_order a_walkStack) := by
    funext r u'
    obtain ⟨f_maxNodes', f_maxRules', f_ruleCount', f_counterexample', f_optimized', f_nodeCount', f_outputCount', f_applications', a_preRelation', a_preVariable', a_preConstant', a_roomNeeded', a_useCount', a_treeSize', a_treeKind', a_treeValue', a_treeA', a_treeB', a_treeResult', a_constantValued', a_maximal', a_counterpart', a_boundNode', a_pending', a_pendingCount', a_nodeKind', a_nodeValue', a_nodeA', a_nodeB', a_nodeResult', a_nodeUses', a_outputNode', a_seen', a_order', a_walkStack'⟩ := u'
    exact propext ⟨fun h x hx => by rw [hx]; exact h, fun h => h _ rfl⟩
  rw [e] at h
  exact h
theorem xo_end {u : SX} {post : Int32 → SX → Prop} {b : Int32} {f t : Nat} (hx : rx mN mR rc ph nc oc cx ap P R rl rj rK uc D ps dc dl dj dk K V A B O u) (h : post (ap - b) u) : xo_w post b (f + 1) 0 (nI t) u := by
  obtain ⟨f_maxNodes, f_maxRules, f_ruleCount, f_counterexample, f_optimized, f_nodeCount, f_outputCount, f_applications, a_preRelation, a_preVariable, a_preConstant, a_roomNeeded, a_useCount, a_treeSize, a_treeKind, a_treeValue, a_treeA, a_treeB, a_treeResult, a_constantValued, a_maximal, a_counterpart, a_boundNode, a_pending, a_pendingCount, a_nodeKind, a_nodeValue, a_nodeA, a_nodeB, a_nodeResult, a_nodeUses, a_outputNode, a_seen, a_order, a_walkStack⟩ := u
  obtain ⟨e1, e2, e3, e4, e5, e6, e7, e8, h9, h10, h11, h12⟩ := hx
  subst e8
  by_cases h97 : (97 : Int32) ≤ nI t
  · exact br_t h97 h
  · exact br_f h97 (br_t rfl h)
end OX
section OY
variable {f_maxNodes f_maxRules f_phase f_nCount f_outCnt f_apps f_ruleCount f_cex f_curLive f_orderN : Int32} {a_alive a_nKind a_nVal a_nA a_nB a_lv a_nd a_nv a_outs a_tKind a_tVal a_tA a_tB a_tN a_preRel a_preJ a_preK a_ruleUse a_pend a_pendN a_tv a_cv a_mx a_par a_mp a_res a_bnd a_order a_stk a_stSt : Nat → Int32}
variable {mN : Nat} {mR : Nat} {rc : Nat} {ph : Nat} {nc : Nat} {oc : Nat} {cx : Int32} {ap : Int32} {P : Nat → pr_PT} {R : Nat → pr_PT} {rl : Nat → Nat} {rj : Nat → Nat} {rK : Nat → Nat} {uc : Nat → Int32} {D : Nat → pr_PT} {ps : Nat → Nat → Nat} {dc : Nat → Nat} {dl : Nat} {dj : Nat} {dk : Nat} {K : Nat → Nat} {V : Nat → Int32} {A : Nat → Option Nat} {B : Nat → Option Nat} {O : Nat → Nat}
theorem yo_step {u : SY} {post : Int32 → SY → Prop} {f t k : Nat} (ht : t < 1000) (h : wpY_findAndApply (fun r u' => (r = 0 → post (nI k) u') ∧ (¬ r = 0 → yo_w post f (nI (k + 1)) (nI (t + 1)) u')) u) : yo_w post (f + 1) (nI k) (nI t) u := by
  obtain ⟨f_maxNodes, f_maxRules, f_phase, f_nCount, f_outCnt, f_apps, f_ruleCount, f_cex, f_curLive, f_orderN, a_alive, a_nKind, a_nVal, a_nA, a_nB, a_lv, a_nd, a_nv, a_outs, a_tKind, a_tVal, a_tA, a_tB, a_tN, a_preRel, a_preJ, a_preK, a_ruleUse, a_pend, a_pendN, a_tv, a_cv, a_mx, a_par, a_mp, a_res, a_bnd, a_order, a_stk, a_stSt⟩ := u
  refine pk_le 1000 t (fun h => absurd h (by omega)) (fun _ => ?_)
  rw [nI_1, nI_1]
  have e : (fun (r : Int32) (u' : SY) => (r = 0 → post (nI k) u') ∧ (¬ r = 0 → yo_w post f (nI (k + 1)) (nI (t + 1)) u')) = (fun r_44 u => match u with | (f_maxNodes, f_maxRules, f_phase, f_nCount, f_outCnt, f_apps, f_ruleCount, f_cex, f_curLive, f_orderN, a_alive, a_nKind, a_nVal, a_nA, a_nB, a_lv, a_nd, a_nv, a_outs, a_tKind, a_tVal, a_tA, a_tB, a_tN, a_preRel, a_preJ, a_preK, a_ruleUse, a_pend, a_pendN, a_tv, a_cv, a_mx, a_par, a_mp, a_res, a_bnd, a_order, a_stk, a_stSt) => ((r_44 = 0 → post (nI k) (f_maxNodes, f_maxRules, f_phase, f_nCount, f_outCnt, f_apps, f_ruleCount, f_cex, f_curLive, f_orderN, a_alive, a_nKind, a_nVal, a_nA, a_nB, a_lv, a_nd, a_nv, a_outs, a_tKind, a_tVal, a_tA, a_tB, a_tN, a_preRel, a_preJ, a_preK, a_ruleUse, a_pend, a_pendN, a_tv, a_cv, a_mx, a_par, a_mp, a_res, a_bnd, a_order, a_stk, a_stSt)) ∧ (¬ r_44 = 0 → ∀ x1_86 : Int32, x1_86 = nI (k + 1) → ∀ x2_87 : Int32, x2_87 = nI (t + 1) → wY_optimize_171 post f x1_86 x2_87 f_maxNodes f_maxRules f_phase f_nCount f_outCnt f_apps f_ruleCount f_cex f_curLive f_orderN a_alive a_nKind a_nVal a_nA a_nB a_lv a_nd a_nv a_outs a_tKind a_tVal a_tA a_tB a_tN a_preRel a_preJ a_preK a_ruleUse a_pend a_pendN a_tv a_cv a_mx a_par a_mp a_res a_bnd a_order a_stk a_stSt))) := by
    funext r u'
    obtain ⟨f_maxNodes', f_maxRules', f_phase', f_nCount', f_outCnt', f_apps', f_ruleCount', f_cex', f_curLive', f_orderN', a_alive', a_nKind', a_nVal', a_nA', a_nB', a_lv', a_nd', a_nv', a_outs', a_tKind', a_tVal', a_tA', a_tB', a_tN', a_preRel', a_preJ', a_preK', a_ruleUse', a_pend', a_pendN', a_tv', a_cv', a_mx', a_par', a_mp', a_res', a_bnd', a_order', a_stk', a_stSt'⟩ := u'
    exact propext ⟨fun h => ⟨h.1, fun hr x hx z hz => by rw [hx, hz]; exact h.2 hr⟩, fun h => ⟨h.1, fun hr => h.2 hr _ rfl _ rfl⟩⟩
  rw [e] at h
  exact h
end OY
section OZ
/-- all searches: where they end, for both sides -/
theorem op_all : ∀ (w : Nat) (mN : Nat) (mR : Nat) (rc : Nat) (ph : Nat) (nc : Nat) (oc : Nat) (cx : Int32) (ap : Int32) (P : Nat → pr_PT) (R : Nat → pr_PT) (rl : Nat → Nat) (rj : Nat → Nat) (rK : Nat → Nat) (uc : Nat → Int32) (D : Nat → pr_PT) (ps : Nat → Nat → Nat) (dc : Nat → Nat) (dl : Nat) (dj : Nat) (dk : Nat) (K : Nat → Nat) (V : Nat → Int32) (A : Nat → Option Nat) (B : Nat → Option Nat) (O : Nat → Nat), sp_ok mN mR rc ph nc oc cx ap P R rl rj rK uc D ps dc dl dj dk K V A B O → ph = 1 → pr_W K ≤ w → ∃ (k : Nat) (ap' : Int32) (uc' : Nat → Int32) (K' : Nat → Nat) (V' : Nat → Int32) (A' B' : Nat → Option Nat) (O' : Nat → Nat), sp_ok mN mR rc ph nc oc cx ap' P R rl rj rK uc' D ps dc dl dj dk K' V' A' B' O' ∧ ap' = ap + nI k ∧
    (∀ (u : SX) (post : Int32 → SX → Prop) (b : Int32) (t f : Nat), rx mN mR rc ph nc oc cx ap P R rl rj rK uc D ps dc dl dj dk K V A B O u → t + pr_W K < 97 → 99 ≤ f + t → (∀ u', rx mN mR rc ph nc oc cx ap' P R rl rj rK uc' D ps dc dl dj dk K' V' A' B' O' u' → post (ap' - b) u') → xo_w post b f 1 (nI t) u) ∧
    (∀ (v : SY) (post : Int32 → SY → Prop) (t c f : Nat), ry mN mR rc ph nc oc cx ap P R rl rj rK uc D ps dc dl dj dk K V A B O v → t + pr_W K < 1000 → 1001 ≤ f + t → (∀ v', ry mN mR rc ph nc oc cx ap' P R rl rj rK uc' D ps dc dl dj dk K' V' A' B' O' v' → post (nI (c + k)) v') → yo_w post f (nI c) (nI t) v) := by
  intro w
  induction w with
  | zero =>
    intro mN mR rc ph nc oc cx ap P R rl rj rK uc D ps dc dl dj dk K V A B O hok hph hw
    have h0 : sr_0 rc (pr_lv A B O 0 oc) (sr_m mN P R rl rj rK K V A B (pr_us A B O (pr_lv A B O 0 oc) oc) (pr_lv A B O 0 oc).length) := by
      refine sr_ex fun i r s hf => ?_
      have tn : pr_T 0 K ((pr_lv A B O 0 oc).getD i 0) := by
        obtain ⟨o1, o2, o3, o4, o5, o6, o7, o8, o9, rk, rk', q1, q2, q3, q4⟩ := hok
        have hlk := pr_lv_ok (O := O) (ob := 0) (pr_gw_T q1) (pr_gw_r q1) oc (fun k hk => by rw [Nat.zero_add]; exact q2 k hk)
        exact (hlk.2.2.2 _ (pr_gd_m hf.1)).1
      obtain ⟨y, rk2, y1, y2, y3, y4, y5, y6, y7, y8, y9, y10, y11⟩ := st_all hok hph rfl rfl hf.2.1 tn hf.2.2.1
      have := (y11 _ rfl).1
      omega
    refine ⟨0, ap, uc, K, V, A, B, O, hok, by rw [show nI 0 = 0 from rfl, Int32.add_zero], fun u post b t f hx ht hf hp => ?_, fun v post t c f hv ht hf hp => ?_⟩
    · obtain ⟨g, rfl⟩ : ∃ g, f = g + 2 := ⟨f - 2, by omega⟩
      exact xo_step (by omega) (rx_afm hok hph hx rfl rfl (fun _ u' hu' => xo_end hu' (hp u' hu')) (fun i r s y L2 hsf => absurd hsf (fun hsf => (sr_0f hsf h0).elim)))
    · obtain ⟨g, rfl⟩ : ∃ g, f = g + 1 := ⟨f - 1, by omega⟩
      exact yo_step (by omega) (ry_afm hok hph hv rfl rfl (fun _ v' hv' => br_t rfl (hp v' hv')) (fun i r s y L2 hsf => absurd hsf (fun hsf => (sr_0f hsf h0).elim)))
  | succ w ih =>
    intro mN mR rc ph nc oc cx ap P R rl rj rK uc D ps dc dl dj dk K V A B O hok hph hw
    by_cases h0 : sr_0 rc (pr_lv A B O 0 oc) (sr_m mN P R rl rj rK K V A B (pr_us A B O (pr_lv A B O 0 oc) oc) (pr_lv A B O 0 oc).length)
    · refine ⟨0, ap, uc, K, V, A, B, O, hok, by rw [show nI 0 = 0 from rfl, Int32.add_zero], fun u post b t f hx ht hf hp => ?_, fun v post t c f hv ht hf hp => ?_⟩
      · obtain ⟨g, rfl⟩ : ∃ g, f = g + 2 := ⟨f - 2, by omega⟩
        exact xo_step (by omega) (rx_afm hok hph hx rfl rfl (fun _ u' hu' => xo_end hu' (hp u' hu')) (fun i r s y L2 hsf => absurd hsf (fun hsf => (sr_0f hsf h0).elim)))
      · obtain ⟨g, rfl⟩ : ∃ g, f = g + 1 := ⟨f - 1, by omega⟩
        exact yo_step (by omega) (ry_afm hok hph hv rfl rfl (fun _ v' hv' => br_t rfl (hp v' hv')) (fun i r s y L2 hsf => absurd hsf (fun hsf => (sr_0f hsf h0).elim)))
    · have hex : ∃ i r s, sr_f rc (pr_lv A B O 0 oc) (sr_m mN P R rl rj rK K V A B (pr_us A B O (pr_lv A B O 0 oc) oc) (pr_lv A B O 0 oc).length) i r s := by
        apply Classical.byContradiction
        intro hn
        exact h0 (sr_ex fun i r s hf => hn ⟨i, r, s, hf⟩)
      obtain ⟨i, r, s, hf0⟩ := hex
      have tn : pr_T 0 K ((pr_lv A B O 0 oc).getD i 0) := by
        obtain ⟨o1, o2, o3, o4, o5, o6, o7, o8, o9, rk, rk', q1, q2, q3, q4⟩ := hok
        have hlk := pr_lv_ok (O := O) (ob := 0) (pr_gw_T q1) (pr_gw_r q1) oc (fun k hk => by rw [Nat.zero_add]; exact q2 k hk)
        exact (hlk.2.2.2 _ (pr_gd_m hf0.1)).1
      obtain ⟨y, rk2, y1, y2, y3, y4, y5, y6, y7, y8, y9, y10, y11⟩ := st_all hok hph rfl rfl hf0.2.1 tn hf0.2.2.1
      obtain ⟨z1, z2⟩ := y11 _ rfl
      obtain ⟨k, ap', uc', K', V', A', B', O', r1, r2, r3, r4⟩ := ih _ _ _ _ _ _ _ _ _ _ _ _ _ _ _ _ _ _ _ _ _ _ _ _ _ (z2 (ap + 1) (pr_st uc r (uc r + 1))) hph (by omega)
      refine ⟨k + 1, ap', uc', K', V', A', B', O', r1, ?_, fun u post b t f hx ht hf hp => ?_, fun v post t c f hv ht hf hp => ?_⟩
      · rw [r2, Int32.add_assoc, Int32.add_comm 1, nI_1]
      · obtain ⟨g, rfl⟩ : ∃ g, f = g + 1 := ⟨f - 1, by omega⟩
        refine xo_step (by omega) (rx_afm hok hph hx rfl rfl (fun hn => absurd hn h0) (fun i' r' s' y' L2 hsf hy' hL2 u' hu' => ?_))
        obtain ⟨ei, er, es⟩ := sr_u hf0 hsf
        subst ei er es
        rw [y1] at hy'
        cases hy'
        subst hL2
        exact r3 u' post b (t + 1) g hu' (by omega) (by omega) hp
      · obtain ⟨g, rfl⟩ : ∃ g, f = g + 1 := ⟨f - 1, by omega⟩
        refine yo_step (by omega) (ry_afm hok hph hv rfl rfl (fun hn => absurd hn h0) (fun i' r' s' y' L2 hsf hy' hL2 v' hv' => br_f (by decide) ?_))
        obtain ⟨ei, er, es⟩ := sr_u hf0 hsf
        subst ei er es
        rw [y1] at hy'
        cases hy'
        subst hL2
        refine r4 v' post (t + 1) (c + 1) g hv' (by omega) (by omega) (fun v'' hv'' => ?_)
        rw [show c + 1 + k = c + (k + 1) by omega]
        exact hp v'' hv''
end OZ
