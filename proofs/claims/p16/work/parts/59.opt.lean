/-! optimize: the searches, one after another -/
theorem sr_ex {rc : Nat} {L : List Nat} {m : Nat → Nat → Option pm_S} (h : ∀ i r s, ¬ sr_f rc L m i r s) : sr_0 rc L m := by
  have main : ∀ i, i < L.length → ∀ r, r < rc → m r (L.getD i 0) = none := by
    intro i
    induction i using Nat.strongRecOn with
    | ind i ih =>
      intro hi r
      induction r using Nat.strongRecOn with
      | ind r ihr =>
        intro hr
        cases hm : m r (L.getD i 0) with
        | none => rfl
        | some s => exact absurd ⟨hi, hr, hm, fun i' r' a b => ih i' a (by omega) r' b, fun r' a => ihr r' a (by omega)⟩ (h i r s)
  exact fun i r hi hr => main i hi r hr
def xo_w (post : Int32 → St2 → Prop) (b : Int32) (f : Nat) (x2 x3 : Int32) (u : St2) : Prop := match u with
  | (f_maxNodes, f_maxRules, f_ruleCount, f_counterexample, f_optimized, f_nodeCount, f_outputCount, f_applications, a_preRelation, a_preVariable, a_preConstant, a_roomNeeded, a_useCount, a_treeSize, a_treeKind, a_treeValue, a_treeA, a_treeB, a_treeResult, a_constantValued, a_maximal, a_counterpart, a_boundNode, a_pending, a_pendingCount, a_nodeKind, a_nodeValue, a_nodeA, a_nodeB, a_nodeResult, a_nodeUses, a_outputNode, a_seen, a_order, a_walkStack) => wX_optimize_25 post b f x2 x3 f_maxNodes f_maxRules f_ruleCount f_counterexample f_optimized f_nodeCount f_outputCount f_applications a_preRelation a_preVariable a_preConstant a_roomNeeded a_useCount a_treeSize a_treeKind a_treeValue a_treeA a_treeB a_treeResult a_constantValued a_maximal a_counterpart a_boundNode a_pending a_pendingCount a_nodeKind a_nodeValue a_nodeA a_nodeB a_nodeResult a_nodeUses a_outputNode a_seen a_order a_walkStack
section OX
variable {f_maxNodes f_maxRules f_ruleCount f_counterexample f_optimized f_nodeCount f_outputCount f_applications : Int32} {a_preRelation a_preVariable a_preConstant a_roomNeeded a_useCount a_treeSize a_treeKind a_treeValue a_treeA a_treeB a_treeResult a_constantValued a_maximal a_counterpart a_boundNode a_pending a_pendingCount a_nodeKind a_nodeValue a_nodeA a_nodeB a_nodeResult a_nodeUses a_outputNode a_seen a_order a_walkStack : Nat → Int32}
variable {mN : Nat} {mR : Nat} {rc : Nat} {ph : Nat} {nc : Nat} {oc : Nat} {cx : Int32} {ap : Int32} {P : Nat → pr_PT} {R : Nat → pr_PT} {rl : Nat → Nat} {rj : Nat → Nat} {rK : Nat → Nat} {uc : Nat → Int32} {D : Nat → pr_PT} {ps : Nat → Nat → Nat} {dc : Nat → Nat} {dl : Nat} {dj : Nat} {dk : Nat} {K : Nat → Nat} {V : Nat → Int32} {A : Nat → Option Nat} {B : Nat → Option Nat} {O : Nat → Nat}
theorem xo_step {u : St2} {post : Int32 → St2 → Prop} {b : Int32} {f t : Nat} (ht : t < 97) (h : wpX_applyFirstMatch (fun r u' => xo_w post b f r (nI (t + 1)) u') u) : xo_w post b (f + 1) 1 (nI t) u := by
  obtain ⟨f_maxNodes, f_maxRules, f_ruleCount, f_counterexample, f_optimized, f_nodeCount, f_outputCount, f_applications, a_preRelation, a_preVariable, a_preConstant, a_roomNeeded, a_useCount, a_treeSize, a_treeKind, a_treeValue, a_treeA, a_treeB, a_treeResult, a_constantValued, a_maximal, a_counterpart, a_boundNode, a_pending, a_pendingCount, a_nodeKind, a_nodeValue, a_nodeA, a_nodeB, a_nodeResult, a_nodeUses, a_outputNode, a_seen, a_order, a_walkStack⟩ := u
  refine pk_le 97 t (fun h => absurd h (by omega)) (fun _ => br_f (by decide) ?_)
  rw [nI_1]
  have e : (fun (r : Int32) (u' : St2) => xo_w post b f r (nI (t + 1)) u') = (fun r_4 u => match u with | (f_maxNodes, f_maxRules, f_ruleCount, f_counterexample, f_optimized, f_nodeCount, f_outputCount, f_applications, a_preRelation, a_preVariable, a_preConstant, a_roomNeeded, a_useCount, a_treeSize, a_treeKind, a_treeValue, a_treeA, a_treeB, a_treeResult, a_constantValued, a_maximal, a_counterpart, a_boundNode, a_pending, a_pendingCount, a_nodeKind, a_nodeValue, a_nodeA, a_nodeB, a_nodeResult, a_nodeUses, a_outputNode, a_seen, a_order, a_walkStack) => ∀ x3_40 : Int32, x3_40 = nI (t + 1) → wX_optimize_25 post b f r_4 x3_40 f_maxNodes f_maxRules f_ruleCount f_counterexample f_optimized f_nodeCount f_outputCount f_applications a_preRelation a_preVariable a_preConstant a_roomNeeded a_useCount a_treeSize a_treeKind a_treeValue a_treeA a_treeB a_treeResult a_constantValued a_maximal a_counterpart a_boundNode a_pending a_pendingCount a_nodeKind a_nodeValue a_nodeA a_nodeB a_nodeResult a_nodeUses a_outputNode a_seen a_order a_walkStack) := by
    funext r u'
    obtain ⟨f_maxNodes', f_maxRules', f_ruleCount', f_counterexample', f_optimized', f_nodeCount', f_outputCount', f_applications', a_preRelation', a_preVariable', a_preConstant', a_roomNeeded', a_useCount', a_treeSize', a_treeKind', a_treeValue', a_treeA', a_treeB', a_treeResult', a_constantValued', a_maximal', a_counterpart', a_boundNode', a_pending', a_pendingCount', a_nodeKind', a_nodeValue', a_nodeA', a_nodeB', a_nodeResult', a_nodeUses', a_outputNode', a_seen', a_order', a_walkStack'⟩ := u'
    exact propext ⟨fun h x hx => by rw [hx]; exact h, fun h => h _ rfl⟩
  rw [e] at h
  exact h
theorem xo_end {u : St2} {post : Int32 → St2 → Prop} {b : Int32} {f t : Nat} (hx : rx mN mR rc ph nc oc cx ap P R rl rj rK uc D ps dc dl dj dk K V A B O u) (h : post (ap - b) u) : xo_w post b (f + 1) 0 (nI t) u := by
  obtain ⟨f_maxNodes, f_maxRules, f_ruleCount, f_counterexample, f_optimized, f_nodeCount, f_outputCount, f_applications, a_preRelation, a_preVariable, a_preConstant, a_roomNeeded, a_useCount, a_treeSize, a_treeKind, a_treeValue, a_treeA, a_treeB, a_treeResult, a_constantValued, a_maximal, a_counterpart, a_boundNode, a_pending, a_pendingCount, a_nodeKind, a_nodeValue, a_nodeA, a_nodeB, a_nodeResult, a_nodeUses, a_outputNode, a_seen, a_order, a_walkStack⟩ := u
  obtain ⟨e1, e2, e3, e4, e5, e6, e7, e8, h9, h10, h11, h12⟩ := hx
  subst e8
  by_cases h97 : (97 : Int32) ≤ nI t
  · exact br_t h97 h
  · exact br_f h97 (br_t rfl h)
end OX
section OZ
/-- all searches: where they end; each step keeps what q says -/
theorem op_all (q : ∀ (mN : Nat) (mR : Nat) (rc : Nat) (ph : Nat) (nc : Nat) (oc : Nat) (cx : Int32) (ap : Int32) (P : Nat → pr_PT) (R : Nat → pr_PT) (rl : Nat → Nat) (rj : Nat → Nat) (rK : Nat → Nat) (uc : Nat → Int32) (D : Nat → pr_PT) (ps : Nat → Nat → Nat) (dc : Nat → Nat) (dl : Nat) (dj : Nat) (dk : Nat) (K : Nat → Nat) (V : Nat → Int32) (A : Nat → Option Nat) (B : Nat → Option Nat) (O : Nat → Nat), Prop)
    (hq : ∀ (mN : Nat) (mR : Nat) (rc : Nat) (ph : Nat) (nc : Nat) (oc : Nat) (cx : Int32) (ap : Int32) (P : Nat → pr_PT) (R : Nat → pr_PT) (rl : Nat → Nat) (rj : Nat → Nat) (rK : Nat → Nat) (uc : Nat → Int32) (D : Nat → pr_PT) (ps : Nat → Nat → Nat) (dc : Nat → Nat) (dl : Nat) (dj : Nat) (dk : Nat) (K : Nat → Nat) (V : Nat → Int32) (A : Nat → Option Nat) (B : Nat → Option Nat) (O : Nat → Nat), sp_ok mN mR rc ph nc oc cx ap P R rl rj rK uc D ps dc dl dj dk K V A B O → ph = 1 → q mN mR rc ph nc oc cx ap P R rl rj rK uc D ps dc dl dj dk K V A B O → ∀ i r s y L2 uc', sr_f rc (pr_lv A B O 0 oc) (sr_m mN P R rl rj rK K V A B (pr_us A B O (pr_lv A B O 0 oc) oc) (pr_lv A B O 0 oc).length) i r s → (sr_b (P r) (R r) K V A B s.2 (pt_n (R r))).2.2.2.2 (pt_n (R r) - 1) = some y → L2 = pr_lv (pa_A ((pr_lv A B O 0 oc).getD i 0) y (sr_b (P r) (R r) K V A B s.2 (pt_n (R r))).2.2.1) (pa_A ((pr_lv A B O 0 oc).getD i 0) y (sr_b (P r) (R r) K V A B s.2 (pt_n (R r))).2.2.2.1) (pa_O ((pr_lv A B O 0 oc).getD i 0) y oc O) 0 oc →
      q mN mR rc ph nc oc cx (ap + 1) P R rl rj rK uc' D ps dc dl dj dk (pa_K L2 (sr_b (P r) (R r) K V A B s.2 (pt_n (R r))).1) ((sr_b (P r) (R r) K V A B s.2 (pt_n (R r))).2.1) (pa_A ((pr_lv A B O 0 oc).getD i 0) y (sr_b (P r) (R r) K V A B s.2 (pt_n (R r))).2.2.1) (pa_A ((pr_lv A B O 0 oc).getD i 0) y (sr_b (P r) (R r) K V A B s.2 (pt_n (R r))).2.2.2.1) (pa_O ((pr_lv A B O 0 oc).getD i 0) y oc O)) :
    ∀ (w : Nat) (mN : Nat) (mR : Nat) (rc : Nat) (ph : Nat) (nc : Nat) (oc : Nat) (cx : Int32) (ap : Int32) (P : Nat → pr_PT) (R : Nat → pr_PT) (rl : Nat → Nat) (rj : Nat → Nat) (rK : Nat → Nat) (uc : Nat → Int32) (D : Nat → pr_PT) (ps : Nat → Nat → Nat) (dc : Nat → Nat) (dl : Nat) (dj : Nat) (dk : Nat) (K : Nat → Nat) (V : Nat → Int32) (A : Nat → Option Nat) (B : Nat → Option Nat) (O : Nat → Nat), sp_ok mN mR rc ph nc oc cx ap P R rl rj rK uc D ps dc dl dj dk K V A B O → ph = 1 → q mN mR rc ph nc oc cx ap P R rl rj rK uc D ps dc dl dj dk K V A B O → pr_W K ≤ w → ∃ (ap' : Int32) (uc' : Nat → Int32) (K' : Nat → Nat) (V' : Nat → Int32) (A' B' : Nat → Option Nat) (O' : Nat → Nat), sp_ok mN mR rc ph nc oc cx ap' P R rl rj rK uc' D ps dc dl dj dk K' V' A' B' O' ∧ q mN mR rc ph nc oc cx ap' P R rl rj rK uc' D ps dc dl dj dk K' V' A' B' O' ∧
    (∀ (u : St2) (post : Int32 → St2 → Prop) (b : Int32) (t f : Nat), rx mN mR rc ph nc oc cx ap P R rl rj rK uc D ps dc dl dj dk K V A B O u → t + pr_W K < 97 → 99 ≤ f + t → (∀ u', rx mN mR rc ph nc oc cx ap' P R rl rj rK uc' D ps dc dl dj dk K' V' A' B' O' u' → post (ap' - b) u') → xo_w post b f 1 (nI t) u) := by
  intro w
  induction w with
  | zero =>
    intro mN mR rc ph nc oc cx ap P R rl rj rK uc D ps dc dl dj dk K V A B O hok hph hqq hw
    have h0 : sr_0 rc (pr_lv A B O 0 oc) (sr_m mN P R rl rj rK K V A B (pr_us A B O (pr_lv A B O 0 oc) oc) (pr_lv A B O 0 oc).length) := by
      refine sr_ex fun i r s hf => ?_
      have tn : pr_T 0 K ((pr_lv A B O 0 oc).getD i 0) := by
        obtain ⟨o1, o2, o3, o4, o5, o6, o7, o8, o9, rk, rk', q1, q2, q3, q4⟩ := hok
        have hlk := pr_lv_ok (O := O) (ob := 0) (pr_gw_T q1) (pr_gw_r q1) oc (fun k hk => by rw [Nat.zero_add]; exact q2 k hk)
        exact (hlk.2.2.2 _ (pr_gd_m hf.1)).1
      obtain ⟨y, rk2, y1, y2, y3, y4, y5, y6, y7, y8, y9, y10, y11⟩ := st_all hok hph rfl rfl hf.2.1 tn hf.2.2.1
      have := (y11 _ rfl).1
      omega
    refine ⟨ap, uc, K, V, A, B, O, hok, hqq, fun u post b t f hx ht hf hp => ?_⟩
    obtain ⟨g, rfl⟩ : ∃ g, f = g + 2 := ⟨f - 2, by omega⟩
    exact xo_step (by omega) (rx_afm hok hph hx rfl rfl (fun _ u' hu' => xo_end hu' (hp u' hu')) (fun i r s y L2 hsf => absurd hsf (fun hsf => (sr_0f hsf h0).elim)))
  | succ w ih =>
    intro mN mR rc ph nc oc cx ap P R rl rj rK uc D ps dc dl dj dk K V A B O hok hph hqq hw
    by_cases h0 : sr_0 rc (pr_lv A B O 0 oc) (sr_m mN P R rl rj rK K V A B (pr_us A B O (pr_lv A B O 0 oc) oc) (pr_lv A B O 0 oc).length)
    · refine ⟨ap, uc, K, V, A, B, O, hok, hqq, fun u post b t f hx ht hf hp => ?_⟩
      obtain ⟨g, rfl⟩ : ∃ g, f = g + 2 := ⟨f - 2, by omega⟩
      exact xo_step (by omega) (rx_afm hok hph hx rfl rfl (fun _ u' hu' => xo_end hu' (hp u' hu')) (fun i r s y L2 hsf => absurd hsf (fun hsf => (sr_0f hsf h0).elim)))
    · have hex : ∃ i r s, sr_f rc (pr_lv A B O 0 oc) (sr_m mN P R rl rj rK K V A B (pr_us A B O (pr_lv A B O 0 oc) oc) (pr_lv A B O 0 oc).length) i r s := by
        apply Classical.byContradiction
        intro hn
        exact h0 (sr_ex fun i r s hf => hn ⟨i, r, s, hf⟩)
      obtain ⟨i, r, s, hf0⟩ := hex
      have tn : pr_T 0 K ((pr_lv A B O 0 oc).getD i 0) := by
        obtain ⟨o1, o2, o3, o4, o5, o6, o7, o8, o9, rk, rk', q1, q2, q3, q4⟩ := hok
        have hlk := pr_lv_ok (O := O) (ob := 0) (pr_gw_T q1) (pr_gw_r q1) oc (fun k hk => by rw [Nat.zero_add]; exact q2 k hk)
        exact (hlk.2.2.2 _ (pr_gd_m hf0.1)).1
      obtain ⟨y, rk2, y1, y2, y3, y4, y5, y6, y7, y8, y9, y10, y11⟩ := st_all hok hph rfl rfl hf0.2.1 tn hf0.2.2.1
      obtain ⟨z1, z2⟩ := y11 _ rfl
      obtain ⟨ap', uc', K', V', A', B', O', r1, r2, r3⟩ := ih _ _ _ _ _ _ _ _ _ _ _ _ _ _ _ _ _ _ _ _ _ _ _ _ _ (z2 (ap + 1) (pr_st uc r (uc r + 1))) hph (hq _ _ _ _ _ _ _ _ _ _ _ _ _ _ _ _ _ _ _ _ _ _ _ _ _ hok hph hqq i r s y _ _ hf0 y1 rfl) (by omega)
      refine ⟨ap', uc', K', V', A', B', O', r1, r2, fun u post b t f hx ht hf hp => ?_⟩
      obtain ⟨g, rfl⟩ : ∃ g, f = g + 1 := ⟨f - 1, by omega⟩
      refine xo_step (by omega) (rx_afm hok hph hx rfl rfl (fun hn => absurd hn h0) (fun i' r' s' y' L2 hsf hy' hL2 u' hu' => ?_))
      obtain ⟨ei, er, es⟩ := sr_u hf0 hsf
      subst ei er es
      rw [y1] at hy'
      cases hy'
      subst hL2
      exact r3 u' post b (t + 1) g hu' (by omega) (by omega) hp
end OZ
