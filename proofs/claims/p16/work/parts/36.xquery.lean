/-! stat, eval -/
section VQx
variable {f_maxNodes f_maxRules f_ruleCount f_counterexample f_optimized f_nodeCount f_outputCount f_applications : Int32} {a_preRelation a_preVariable a_preConstant a_roomNeeded a_useCount a_treeSize a_treeKind a_treeValue a_treeA a_treeB a_treeResult a_constantValued a_maximal a_counterpart a_boundNode a_pending a_pendingCount a_nodeKind a_nodeValue a_nodeA a_nodeB a_nodeResult a_nodeUses a_outputNode a_seen a_order a_walkStack : Nat → Int32}
variable {mN : Nat} {mR : Nat} {rc : Nat} {ph : Nat} {nc : Nat} {oc : Nat} {cx : Int32} {ap : Int32} {P : Nat → pr_PT} {R : Nat → pr_PT} {rl : Nat → Nat} {rj : Nat → Nat} {rK : Nat → Nat} {uc : Nat → Int32} {D : Nat → pr_PT} {ps : Nat → Nat → Nat} {dc : Nat → Nat} {dl : Nat} {dj : Nat} {dk : Nat} {K : Nat → Nat} {V : Nat → Int32} {A : Nat → Option Nat} {B : Nat → Option Nat} {O : Nat → Nat}
theorem rx_live {u : St2} {post : Int32 → St2 → Prop} (hok : sp_ok mN mR rc ph nc oc cx ap P R rl rj rK uc D ps dc dl dj dk K V A B O) (hx : rx mN mR rc ph nc oc cx ap P R rl rj rK uc D ps dc dl dj dk K V A B O u) (h : ∀ u', rx mN mR rc ph nc oc cx ap P R rl rj rK uc D ps dc dl dj dk K V A B O u' → post (nI (pr_lv A B O 0 oc).length) u') : wpX_listLive post u 0 := by
  obtain ⟨f_maxNodes, f_maxRules, f_ruleCount, f_counterexample, f_optimized, f_nodeCount, f_outputCount, f_applications, a_preRelation, a_preVariable, a_preConstant, a_roomNeeded, a_useCount, a_treeSize, a_treeKind, a_treeValue, a_treeA, a_treeB, a_treeResult, a_constantValued, a_maximal, a_counterpart, a_boundNode, a_pending, a_pendingCount, a_nodeKind, a_nodeValue, a_nodeA, a_nodeB, a_nodeResult, a_nodeUses, a_outputNode, a_seen, a_order, a_walkStack⟩ := u
  obtain ⟨e1, e2, e3, e4, e5, e6, e7, e8, h9, h10, h11, h12⟩ := hx
  subst e1 e2 e3 e4 e5 e6 e7 e8
  obtain ⟨o1, o2, o3, o4, o5, o6, o7, o8, o9, rk, rk2, q1, q2, q3, q4⟩ := hok
  exact x_listLive (lo := 0) (g := 0) (O := O) (by omega) q1 h12.1 (by omega) o7 (gr_O0 h12 q2) (fun se' od' st' _ _ => h _ ⟨rfl, rfl, rfl, rfl, rfl, rfl, rfl, rfl, h9, h10, h11, h12⟩)
theorem rx_cost {u : St2} {post : Int32 → St2 → Prop} {g : Nat} (hg : g < 2) (hg1 : g = 1 → ph = 1) (hok : sp_ok mN mR rc ph nc oc cx ap P R rl rj rK uc D ps dc dl dj dk K V A B O) (hx : rx mN mR rc ph nc oc cx ap P R rl rj rK uc D ps dc dl dj dk K V A B O u) (h : ∀ u', rx mN mR rc ph nc oc cx ap P R rl rj rK uc D ps dc dl dj dk K V A B O u' → post (nI (pr_sm (fun s => pr_w (K s)) (pr_lv A B O (g * 4) oc))) u') : wpX_liveCost post u (nI g) := by
  obtain ⟨f_maxNodes, f_maxRules, f_ruleCount, f_counterexample, f_optimized, f_nodeCount, f_outputCount, f_applications, a_preRelation, a_preVariable, a_preConstant, a_roomNeeded, a_useCount, a_treeSize, a_treeKind, a_treeValue, a_treeA, a_treeB, a_treeResult, a_constantValued, a_maximal, a_counterpart, a_boundNode, a_pending, a_pendingCount, a_nodeKind, a_nodeValue, a_nodeA, a_nodeB, a_nodeResult, a_nodeUses, a_outputNode, a_seen, a_order, a_walkStack⟩ := u
  obtain ⟨e1, e2, e3, e4, e5, e6, e7, e8, h9, h10, h11, h12⟩ := hx
  subst e1 e2 e3 e4 e5 e6 e7 e8
  obtain ⟨o1, o2, o3, o4, o5, o6, o7, o8, o9, rk, rk2, q1, q2, q3, q4⟩ := hok
  have : g = 0 ∨ g = 1 := by omega
  rcases this with e | e
  · subst e
    exact x_liveCost (g := 0) (O := O) q1 h12.1 (by omega) o7 (gr_O0 h12 q2) rfl (fun se' od' st' => h _ ⟨rfl, rfl, rfl, rfl, rfl, rfl, rfl, rfl, h9, h10, h11, h12⟩)
  · subst e
    have hp := hg1 rfl
    obtain ⟨w1, w2, w3⟩ := q4 hp
    exact x_liveCost (g := 1) (O := O) w1 (h12.2.2 hp).1 (by omega) o7 (gr_1 h12 hp w2) rfl (fun se' od' st' => h _ ⟨rfl, rfl, rfl, rfl, rfl, rfl, rfl, rfl, h9, h10, h11, h12⟩)
/-- the answers of stat that are asked for: 1 live cost, 2 original cost, 3 applications, 6 outputs -/
theorem rx_stat1 {u : St2} {post : Int32 → St2 → Prop} (hok : sp_ok mN mR rc ph nc oc cx ap P R rl rj rK uc D ps dc dl dj dk K V A B O) (hx : rx mN mR rc ph nc oc cx ap P R rl rj rK uc D ps dc dl dj dk K V A B O u) (h : ∀ u', rx mN mR rc ph nc oc cx ap P R rl rj rK uc D ps dc dl dj dk K V A B O u' → post (nI (pr_sm (fun s => pr_w (K s)) (pr_lv A B O 0 oc))) u') : wpX_stat post u 1 := by
  have hc := fun (p : Int32 → St2 → Prop) => rx_cost (post := p) (g := 0) (by omega) (fun h => absurd h (by omega)) hok hx
  obtain ⟨f_maxNodes, f_maxRules, f_ruleCount, f_counterexample, f_optimized, f_nodeCount, f_outputCount, f_applications, a_preRelation, a_preVariable, a_preConstant, a_roomNeeded, a_useCount, a_treeSize, a_treeKind, a_treeValue, a_treeA, a_treeB, a_treeResult, a_constantValued, a_maximal, a_counterpart, a_boundNode, a_pending, a_pendingCount, a_nodeKind, a_nodeValue, a_nodeA, a_nodeB, a_nodeResult, a_nodeUses, a_outputNode, a_seen, a_order, a_walkStack⟩ := u
  unfold wpX_stat
  refine br_f (by decide) (br_f (by decide) (br_f (by decide) (br_t rfl (hc _ (fun u' hu' => ?_)))))
  obtain ⟨f_maxNodes', f_maxRules', f_ruleCount', f_counterexample', f_optimized', f_nodeCount', f_outputCount', f_applications', a_preRelation', a_preVariable', a_preConstant', a_roomNeeded', a_useCount', a_treeSize', a_treeKind', a_treeValue', a_treeA', a_treeB', a_treeResult', a_constantValued', a_maximal', a_counterpart', a_boundNode', a_pending', a_pendingCount', a_nodeKind', a_nodeValue', a_nodeA', a_nodeB', a_nodeResult', a_nodeUses', a_outputNode', a_seen', a_order', a_walkStack'⟩ := u'
  exact h _ hu'
theorem rx_stat2 {u : St2} {post : Int32 → St2 → Prop} (hok : sp_ok mN mR rc ph nc oc cx ap P R rl rj rK uc D ps dc dl dj dk K V A B O) (hx : rx mN mR rc ph nc oc cx ap P R rl rj rK uc D ps dc dl dj dk K V A B O u) (h : ∀ u', rx mN mR rc ph nc oc cx ap P R rl rj rK uc D ps dc dl dj dk K V A B O u' → post (nI (pr_sm (fun s => pr_w (K s)) (pr_lv A B O (ph * 4) oc))) u') : wpX_stat post u 2 := by
  have hph := hok.2.2.2.2.2.1
  have hc := fun (p : Int32 → St2 → Prop) => rx_cost (post := p) (g := ph) (by omega) (fun h => h) hok hx
  obtain ⟨f_maxNodes, f_maxRules, f_ruleCount, f_counterexample, f_optimized, f_nodeCount, f_outputCount, f_applications, a_preRelation, a_preVariable, a_preConstant, a_roomNeeded, a_useCount, a_treeSize, a_treeKind, a_treeValue, a_treeA, a_treeB, a_treeResult, a_constantValued, a_maximal, a_counterpart, a_boundNode, a_pending, a_pendingCount, a_nodeKind, a_nodeValue, a_nodeA, a_nodeB, a_nodeResult, a_nodeUses, a_outputNode, a_seen, a_order, a_walkStack⟩ := u
  obtain ⟨e1, e2, e3, e4, e5, e6, e7, e8, h9, h10, h11, h12⟩ := hx
  subst e5
  unfold wpX_stat
  refine br_f (by decide) (br_f (by decide) (br_f (by decide) (br_f (by decide) (br_t rfl ?_))))
  have hp : ph = 0 ∨ ph = 1 := by omega
  rcases hp with hp | hp
  · subst hp
    refine br_t rfl (hc _ (fun u' hu' => ?_))
    obtain ⟨f_maxNodes', f_maxRules', f_ruleCount', f_counterexample', f_optimized', f_nodeCount', f_outputCount', f_applications', a_preRelation', a_preVariable', a_preConstant', a_roomNeeded', a_useCount', a_treeSize', a_treeKind', a_treeValue', a_treeA', a_treeB', a_treeResult', a_constantValued', a_maximal', a_counterpart', a_boundNode', a_pending', a_pendingCount', a_nodeKind', a_nodeValue', a_nodeA', a_nodeB', a_nodeResult', a_nodeUses', a_outputNode', a_seen', a_order', a_walkStack'⟩ := u'
    exact h _ hu'
  · subst hp
    refine br_f (by decide) (hc _ (fun u' hu' => ?_))
    obtain ⟨f_maxNodes', f_maxRules', f_ruleCount', f_counterexample', f_optimized', f_nodeCount', f_outputCount', f_applications', a_preRelation', a_preVariable', a_preConstant', a_roomNeeded', a_useCount', a_treeSize', a_treeKind', a_treeValue', a_treeA', a_treeB', a_treeResult', a_constantValued', a_maximal', a_counterpart', a_boundNode', a_pending', a_pendingCount', a_nodeKind', a_nodeValue', a_nodeA', a_nodeB', a_nodeResult', a_nodeUses', a_outputNode', a_seen', a_order', a_walkStack'⟩ := u'
    exact h _ hu'
theorem rx_stat3 {u : St2} {post : Int32 → St2 → Prop} (hx : rx mN mR rc ph nc oc cx ap P R rl rj rK uc D ps dc dl dj dk K V A B O u) (h : post ap u) : wpX_stat post u 3 := by
  obtain ⟨f_maxNodes, f_maxRules, f_ruleCount, f_counterexample, f_optimized, f_nodeCount, f_outputCount, f_applications, a_preRelation, a_preVariable, a_preConstant, a_roomNeeded, a_useCount, a_treeSize, a_treeKind, a_treeValue, a_treeA, a_treeB, a_treeResult, a_constantValued, a_maximal, a_counterpart, a_boundNode, a_pending, a_pendingCount, a_nodeKind, a_nodeValue, a_nodeA, a_nodeB, a_nodeResult, a_nodeUses, a_outputNode, a_seen, a_order, a_walkStack⟩ := u
  have e8 := hx.2.2.2.2.2.2.2.1
  subst e8
  unfold wpX_stat
  exact br_f (by decide) (br_f (by decide) (br_f (by decide) (br_f (by decide) (br_f (by decide) (br_t rfl h)))))
theorem rx_stat6 {u : St2} {post : Int32 → St2 → Prop} (hx : rx mN mR rc ph nc oc cx ap P R rl rj rK uc D ps dc dl dj dk K V A B O u) (h : post (nI oc) u) : wpX_stat post u 6 := by
  obtain ⟨f_maxNodes, f_maxRules, f_ruleCount, f_counterexample, f_optimized, f_nodeCount, f_outputCount, f_applications, a_preRelation, a_preVariable, a_preConstant, a_roomNeeded, a_useCount, a_treeSize, a_treeKind, a_treeValue, a_treeA, a_treeB, a_treeResult, a_constantValued, a_maximal, a_counterpart, a_boundNode, a_pending, a_pendingCount, a_nodeKind, a_nodeValue, a_nodeA, a_nodeB, a_nodeResult, a_nodeUses, a_outputNode, a_seen, a_order, a_walkStack⟩ := u
  have e7 := hx.2.2.2.2.2.2.1
  subst e7
  unfold wpX_stat
  exact br_f (by decide) (br_f (by decide) (br_f (by decide) (br_f (by decide) (br_f (by decide) (br_f (by decide) (br_f (by decide) (br_f (by decide) (br_t rfl h))))))))
/-- eval of an output, current (b = 0) or original (b = 1) -/
theorem rx_eval {u : St2} {post : Int32 → St2 → Prop} {n b : Nat} {v2 : Int32} (hb : b ≤ 1) (hn : n < oc) (hok : sp_ok mN mR rc ph nc oc cx ap P R rl rj rK uc D ps dc dl dj dk K V A B O) (hx : rx mN mR rc ph nc oc cx ap P R rl rj rK uc D ps dc dl dj dk K V A B O u) (h : ∀ u', rx mN mR rc ph nc oc cx ap P R rl rj rK uc D ps dc dl dj dk K V A B O u' → post (pr_ev K V A B v2 32 (O (b * ph * 4 + n))) u') : wpX_eval post u (nI n) v2 (nI b) := by
  have hph := hok.2.2.2.2.2.1
  obtain ⟨f_maxNodes, f_maxRules, f_ruleCount, f_counterexample, f_optimized, f_nodeCount, f_outputCount, f_applications, a_preRelation, a_preVariable, a_preConstant, a_roomNeeded, a_useCount, a_treeSize, a_treeKind, a_treeValue, a_treeA, a_treeB, a_treeResult, a_constantValued, a_maximal, a_counterpart, a_boundNode, a_pending, a_pendingCount, a_nodeKind, a_nodeValue, a_nodeA, a_nodeB, a_nodeResult, a_nodeUses, a_outputNode, a_seen, a_order, a_walkStack⟩ := u
  obtain ⟨e1, e2, e3, e4, e5, e6, e7, e8, h9, h10, h11, h12⟩ := hx
  subst e1 e2 e3 e4 e5 e6 e7 e8
  obtain ⟨o1, o2, o3, o4, o5, o6, o7, o8, o9, rk, rk2, q1, q2, q3, q4⟩ := hok
  refine br_f (nI_pos (by omega)) (pk_le oc n (fun h => absurd h (by omega)) (fun hno => br_f (by decide) ?_))
  have x0 : ∀ post : Int32 → St2 → Prop, (∀ u', rx mN mR rc ph nc oc f_counterexample f_applications P R rl rj rK uc D ps dc dl dj dk K V A B O u' → post (pr_ev K V A B v2 32 (O (0 * 4 + n))) u') → wX_eval_25 post (nI n) v2 (nI mN) (nI mR) (nI rc) f_counterexample (nI ph) (nI nc) (nI oc) f_applications a_preRelation a_preVariable a_preConstant a_roomNeeded a_useCount a_treeSize a_treeKind a_treeValue a_treeA a_treeB a_treeResult a_constantValued a_maximal a_counterpart a_boundNode a_pending a_pendingCount a_nodeKind a_nodeValue a_nodeA a_nodeB a_nodeResult a_nodeUses a_outputNode a_seen a_order a_walkStack := fun post h =>
    x_eval26 (g := 0) (O := O) (by omega) hno o7 q1 h12.1 (gr_O0 h12 q2) (fun nr' se' od' st' => h _ ⟨rfl, rfl, rfl, rfl, rfl, rfl, rfl, rfl, h9, h10, h11, h12⟩)
  have x1 : ph = 1 → ∀ post : Int32 → St2 → Prop, (∀ u', rx mN mR rc ph nc oc f_counterexample f_applications P R rl rj rK uc D ps dc dl dj dk K V A B O u' → post (pr_ev K V A B v2 32 (O (1 * 4 + n))) u') → wX_eval_26 post (nI n) v2 1 (nI mN) (nI mR) (nI rc) f_counterexample (nI ph) (nI nc) (nI oc) f_applications a_preRelation a_preVariable a_preConstant a_roomNeeded a_useCount a_treeSize a_treeKind a_treeValue a_treeA a_treeB a_treeResult a_constantValued a_maximal a_counterpart a_boundNode a_pending a_pendingCount a_nodeKind a_nodeValue a_nodeA a_nodeB a_nodeResult a_nodeUses a_outputNode a_seen a_order a_walkStack := fun hp post h =>
    x_eval26 (g := 1) (O := O) (by omega) hno o7 (q4 hp).1 (h12.2.2 hp).1 (gr_1 h12 hp (q4 hp).2.1) (fun nr' se' od' st' => h _ ⟨rfl, rfl, rfl, rfl, rfl, rfl, rfl, rfl, h9, h10, h11, h12⟩)
  have hb' : b = 0 ∨ b = 1 := by omega
  rcases hb' with hb | hb
  · subst hb
    rw [show 0 * ph * 4 + n = 0 * 4 + n by omega] at h
    exact br_t rfl (x0 _ h)
  · subst hb
    have hp : ph = 0 ∨ ph = 1 := by omega
    rcases hp with hp | hp
    · subst hp
      exact br_f (by decide) (br_t rfl (x0 _ h))
    · subst hp
      exact br_f (by decide) (br_f (by decide) (x1 rfl _ h))
end VQx
