/-! ruleBegin, rulePat, ruleRep, rulePre -/
theorem pr_rule_n {P R : pr_PT} {rl rj rK : Nat} (h : pr_rule P R rl rj rK) : pt_n P ≤ 8 ∧ pt_n R ≤ 8 := ⟨h.1.1, h.2.2.2.1.1⟩
theorem xr_cong {rc : Nat} {P R : Nat → pr_PT} {sz kd vl ta tb cv mx rn sz' kd' vl' ta' tb' cv' mx' rn' : Nat → Int32} (hn : ∀ r, r < rc → pt_n (P r) ≤ 8 ∧ pt_n (R r) ≤ 8) (h : ∀ r, r < rc → xr_rule r (P r) (R r) sz kd vl ta tb cv mx rn)
    (h1 : ∀ w, w < rc * 2 → sz' w = sz w) (h2 : ∀ p, p < rc * 16 → kd' p = kd p ∧ vl' p = vl p ∧ ta' p = ta p ∧ tb' p = tb p ∧ cv' p = cv p ∧ mx' p = mx p) (h3 : ∀ r, r < rc → rn' r = rn r) : ∀ r, r < rc → xr_rule r (P r) (R r) sz' kd' vl' ta' tb' cv' mx' rn' := by
  intro r hr
  obtain ⟨a, b, c, d, e⟩ := h r hr
  have hn' := hn r hr
  refine ⟨tr_cong a (h1 _ (by omega)) (fun i hi => ?_), tr_cong b (h1 _ (by omega)) (fun i hi => ?_), fun q hq => ?_, fun q hq => ?_, ?_⟩
  · have := h2 ((r * 2 + 0) * 8 + i) (by omega)
    exact ⟨this.1, this.2.1, this.2.2.1, this.2.2.2.1⟩
  · have := h2 ((r * 2 + 1) * 8 + i) (by omega)
    exact ⟨this.1, this.2.1, this.2.2.1, this.2.2.2.1⟩
  · rw [(h2 ((r * 2 + 1) * 8 + q) (by omega)).2.2.2.2.1]
    exact c q hq
  · rw [(h2 ((r * 2 + 1) * 8 + q) (by omega)).2.2.2.2.2]
    exact d q hq
  · rw [h3 r hr]
    exact e
theorem pe_cong {x rl rj rK : Nat} {pr pv pc pr' pv' pc' : Nat → Int32} (h : pe_at x rl rj rK pr pv pc) (h1 : pr' x = pr x) (h2 : pv' x = pv x) (h3 : pc' x = pc x) : pe_at x rl rj rK pr' pv' pc' := by
  unfold pe_at
  rw [h1, h2, h3]
  exact h
section VDx
variable {f_maxNodes f_maxRules f_ruleCount f_counterexample f_optimized f_nodeCount f_outputCount f_applications : Int32} {a_preRelation a_preVariable a_preConstant a_roomNeeded a_useCount a_treeSize a_treeKind a_treeValue a_treeA a_treeB a_treeResult a_constantValued a_maximal a_counterpart a_boundNode a_pending a_pendingCount a_nodeKind a_nodeValue a_nodeA a_nodeB a_nodeResult a_nodeUses a_outputNode a_seen a_order a_walkStack : Nat → Int32}
variable {mN : Nat} {mR : Nat} {rc : Nat} {ph : Nat} {nc : Nat} {oc : Nat} {cx : Int32} {ap : Int32} {P : Nat → pr_PT} {R : Nat → pr_PT} {rl : Nat → Nat} {rj : Nat → Nat} {rK : Nat → Nat} {uc : Nat → Int32} {D : Nat → pr_PT} {ps : Nat → Nat → Nat} {dc : Nat → Nat} {dl : Nat} {dj : Nat} {dk : Nat} {K : Nat → Nat} {V : Nat → Int32} {A : Nat → Option Nat} {B : Nat → Option Nat} {O : Nat → Nat}
theorem rx_empty (hn : ∀ r, r < rc → pt_n (P r) ≤ 8 ∧ pt_n (R r) ≤ 8)
    (hr : ∀ r, r < rc → xr_rule r (P r) (R r) a_treeSize a_treeKind a_treeValue a_treeA a_treeB a_constantValued a_maximal a_roomNeeded ∧ pe_at r (rl r) (rj r) (rK r) a_preRelation a_preVariable a_preConstant ∧ a_useCount r = uc r)
    (hg : gr_all ph oc K V A B O a_nodeKind a_nodeValue a_nodeA a_nodeB a_outputNode) :
    rx mN mR rc ph nc oc cx ap P R rl rj rK uc (fun _ => pt_0) ps (fun _ => 0) 0 dj dk K V A B O ((nI mN), (nI mR), (nI rc), cx, (nI ph), (nI nc), (nI oc), ap, (upd a_preRelation rc 0), a_preVariable, a_preConstant, a_roomNeeded, a_useCount, (upd (upd a_treeSize (rc * 2 + 0) 0) (rc * 2 + 1) 0), a_treeKind, a_treeValue, a_treeA, a_treeB, a_treeResult, a_constantValued, a_maximal, a_counterpart, a_boundNode, a_pending, (upd (upd a_pendingCount 0 0) 1 0), a_nodeKind, a_nodeValue, a_nodeA, a_nodeB, a_nodeResult, a_nodeUses, a_outputNode, a_seen, a_order, a_walkStack) := by
  refine ⟨rfl, rfl, rfl, rfl, rfl, rfl, rfl, rfl, fun r hr' => ⟨xr_cong hn (fun r hr' => (hr r hr').1) (fun w hw => ?_) (fun p hp => ⟨rfl, rfl, rfl, rfl, rfl, rfl⟩) (fun _ _ => rfl) r hr', pe_cong (hr r hr').2.1 (pk_un (by omega)) rfl rfl, (hr r hr').2.2⟩, fun s hs => ⟨⟨?_, fun i hi => absurd hi (Nat.not_lt_zero i)⟩, ?_, fun q hq => absurd hq (Nat.not_lt_zero q)⟩, ⟨pk_us, fun h => absurd rfl h⟩, hg⟩
  · rw [pk_un (by omega), pk_un (by omega)]
  · have : s = 0 ∨ s = 1 := by omega
    rcases this with e | e
    · subst e
      rw [pk_un (by omega), pk_us]
      rfl
    · subst e
      rw [pk_us]
      rfl
  · have : s = 0 ∨ s = 1 := by omega
    rcases this with e | e
    · subst e
      rw [pk_un (by omega), pk_us]
      rfl
    · subst e
      rw [pk_us]
      rfl
theorem rx_append {u : St2} {post : Int32 → St2 → Prop} {s : Nat} {p1 p2 : Int32} (hok : sp_ok mN mR rc ph nc oc cx ap P R rl rj rK uc D ps dc dl dj dk K V A B O) (hs : s < 2) (hx : rx mN mR rc ph nc oc cx ap P R rl rj rK uc D ps dc dl dj dk K V A B O u)
    (hy : ∀ κ v u', ac_ok (pt_n (D s)) (dc s) p1 p2 κ v → rx mN mR rc ph nc oc cx ap P R rl rj rK uc (pr_st D s (pt_add (D s) (ps s) (dc s) κ v)) (pr_st ps s (pd_add (D s) (ps s) (dc s) κ)) (pr_st dc s (dc s - pr_ar κ + 1)) dl dj dk K V A B O u' → post 1 u')
    (hno : (∀ κ v, ¬ ac_ok (pt_n (D s)) (dc s) p1 p2 κ v) → post 0 u) : wpX_appendTreeNode post u (nI s) p1 p2 := by
  obtain ⟨f_maxNodes, f_maxRules, f_ruleCount, f_counterexample, f_optimized, f_nodeCount, f_outputCount, f_applications, a_preRelation, a_preVariable, a_preConstant, a_roomNeeded, a_useCount, a_treeSize, a_treeKind, a_treeValue, a_treeA, a_treeB, a_treeResult, a_constantValued, a_maximal, a_counterpart, a_boundNode, a_pending, a_pendingCount, a_nodeKind, a_nodeValue, a_nodeA, a_nodeB, a_nodeResult, a_nodeUses, a_outputNode, a_seen, a_order, a_walkStack⟩ := u
  obtain ⟨e1, e2, e3, e4, e5, e6, e7, e8, h9, h10, h11, h12⟩ := hx
  subst e1 e2 e3 e4 e5 e6 e7 e8
  obtain ⟨o1, o2, o3, o4, o5, o6, o7, o8, o9, o10⟩ := hok
  have hd := o9.1 s hs
  have h10s := h10 s hs
  refine x_append (pst := ps s) (n := pt_n (D s)) (c := dc s) (by omega) hs hd.1.1 hd.2.1 h10s.1.1 h10s.2.1 h10s.2.2 (fun κ v hac => hy κ v _ hac ?_) hno
  refine ⟨rfl, rfl, rfl, rfl, rfl, rfl, rfl, rfl, fun r hr => ⟨xr_cong (fun r hr => pr_rule_n (o8 r hr)) (fun r hr => (h9 r hr).1) (fun w hw => pk_un (by omega)) (fun p hp => ⟨pk_un (by omega), pk_un (by omega), pk_un (by omega), pk_un (by omega), rfl, rfl⟩) (fun _ _ => rfl) r hr, (h9 r hr).2⟩, ?_, h11, h12⟩
  exact dr_add hs (fun s hs => ⟨(o9.1 s hs).1.1, (o9.1 s hs).2.1⟩) hac.2.2.2.2.1 hac.2.2.2.2.2.1 hac.2.2.2.2.2.2.2.2 hac.2.1 h10
end VDx
section VDs
variable {mN : Nat} {mR : Nat} {rc : Nat} {ph : Nat} {nc : Nat} {oc : Nat} {cx : Int32} {ap : Int32} {P : Nat → pr_PT} {R : Nat → pr_PT} {rl : Nat → Nat} {rj : Nat → Nat} {rK : Nat → Nat} {uc : Nat → Int32} {D : Nat → pr_PT} {ps : Nat → Nat → Nat} {dc : Nat → Nat} {dl : Nat} {dj : Nat} {dk : Nat} {K : Nat → Nat} {V : Nat → Int32} {A : Nat → Option Nat} {B : Nat → Option Nat} {O : Nat → Nat}
theorem sp_empty (h : sp_ok mN mR rc ph nc oc cx ap P R rl rj rK uc D ps dc dl dj dk K V A B O) : sp_ok mN mR rc ph nc oc cx ap P R rl rj rK uc (fun _ => pt_0) ps (fun _ => 0) 0 dj dk K V A B O := by
  obtain ⟨o1, o2, o3, o4, o5, o6, o7, o8, o9, o10⟩ := h
  exact ⟨o1, o2, o3, o4, o5, o6, o7, o8, ⟨fun s _ => ⟨pt_0_ok, pd_0_ok _⟩, fun i hi => absurd hi (Nat.not_lt_zero i), by omega, fun h => absurd rfl h⟩, o10⟩
theorem sp_append {s κ v : Nat} {p1 p2 : Int32} (h : sp_ok mN mR rc ph nc oc cx ap P R rl rj rK uc D ps dc dl dj dk K V A B O) (hs : s < 2) (hac : ac_ok (pt_n (D s)) (dc s) p1 p2 κ v) (h14 : s = 1 → κ ≠ 14) : sp_ok mN mR rc ph nc oc cx ap P R rl rj rK uc (pr_st D s (pt_add (D s) (ps s) (dc s) κ v)) (pr_st ps s (pd_add (D s) (ps s) (dc s) κ)) (pr_st dc s (dc s - pr_ar κ + 1)) dl dj dk K V A B O := by
  obtain ⟨o1, o2, o3, o4, o5, o6, o7, o8, ⟨d1, d2, d3, d4⟩, o10⟩ := h
  obtain ⟨c1, c2, c3, c4, c5, c6, c7, c8, c9⟩ := hac
  have hadd := pt_add_ok (d1 s hs).1 (d1 s hs).2 c5 ⟨c2, c3, c4⟩ (fun h => (c7 h).2) (fun h => (c8 h).2) c6
  refine ⟨o1, o2, o3, o4, o5, o6, o7, o8, ⟨fun s' hs' => ?_, fun i hi => ?_, d3, d4⟩, o10⟩
  · by_cases e : s' = s
    · subst e
      rw [pr_st_s, pr_st_s, pr_st_s]
      exact hadd
    · rw [pr_st_n e, pr_st_n e, pr_st_n e]
      exact d1 s' hs'
  · by_cases e : 1 = s
    · subst e
      rw [pr_st_s] at hi ⊢
      show pr_st (pt_k (D 1)) (pt_n (D 1)) κ i ≠ 14
      by_cases ei : i = pt_n (D 1)
      · rw [ei, pr_st_s]
        exact h14 rfl
      · rw [pr_st_n ei]
        have hi' : i < pt_n (D 1) + 1 := hi
        exact d2 i (by omega)
    · rw [pr_st_n e] at hi ⊢
      exact d2 i hi
end VDs
section VDz
variable {mN : Nat} {mR : Nat} {rc : Nat} {ph : Nat} {nc : Nat} {oc : Nat} {cx : Int32} {ap : Int32} {P : Nat → pr_PT} {R : Nat → pr_PT} {rl : Nat → Nat} {rj : Nat → Nat} {rK : Nat → Nat} {uc : Nat → Int32} {D : Nat → pr_PT} {ps : Nat → Nat → Nat} {dc : Nat → Nat} {dl : Nat} {dj : Nat} {dk : Nat} {K : Nat → Nat} {V : Nat → Int32} {A : Nat → Option Nat} {B : Nat → Option Nat} {O : Nat → Nat}
/-- the draft emptied -/
theorem rx_begin {u : St2} {post : St2 → Prop} (hok : sp_ok mN mR rc ph nc oc cx ap P R rl rj rK uc D ps dc dl dj dk K V A B O) (hx : rx mN mR rc ph nc oc cx ap P R rl rj rK uc D ps dc dl dj dk K V A B O u) (h : ∀ u', sp_ok mN mR rc ph nc oc cx ap P R rl rj rK uc (fun _ => pt_0) ps (fun _ => 0) 0 dj dk K V A B O → rx mN mR rc ph nc oc cx ap P R rl rj rK uc (fun _ => pt_0) ps (fun _ => 0) 0 dj dk K V A B O u' → post u') : wpX_ruleBegin post u := by
  obtain ⟨f_maxNodes, f_maxRules, f_ruleCount, f_counterexample, f_optimized, f_nodeCount, f_outputCount, f_applications, a_preRelation, a_preVariable, a_preConstant, a_roomNeeded, a_useCount, a_treeSize, a_treeKind, a_treeValue, a_treeA, a_treeB, a_treeResult, a_constantValued, a_maximal, a_counterpart, a_boundNode, a_pending, a_pendingCount, a_nodeKind, a_nodeValue, a_nodeA, a_nodeB, a_nodeResult, a_nodeUses, a_outputNode, a_seen, a_order, a_walkStack⟩ := u
  obtain ⟨e1, e2, e3, e4, e5, e6, e7, e8, h9, h10, h11, h12⟩ := hx
  subst e1 e2 e3 e4 e5 e6 e7 e8
  have hn : ∀ r, r < rc → pt_n (P r) ≤ 8 ∧ pt_n (R r) ≤ 8 := fun r hr => pr_rule_n (hok.2.2.2.2.2.2.2.1 r hr)
  have hrc : rc ≤ 16 := by
    have := hok.2.2.2.1
    have := hok.2.2.2.2.1
    omega
  unfold wpX_ruleBegin
  exact x_emptyDraft hrc (h _ (sp_empty hok) (rx_empty hn h9 h12))
/-- some draft, whatever was asked -/
theorem rx_pat {u : St2} {post : Int32 → St2 → Prop} {v1 v2 : Int32} (hok : sp_ok mN mR rc ph nc oc cx ap P R rl rj rK uc D ps dc dl dj dk K V A B O) (hx : rx mN mR rc ph nc oc cx ap P R rl rj rK uc D ps dc dl dj dk K V A B O u) (h : ∀ a D' ps' dc' u', sp_ok mN mR rc ph nc oc cx ap P R rl rj rK uc D' ps' dc' dl dj dk K V A B O → rx mN mR rc ph nc oc cx ap P R rl rj rK uc D' ps' dc' dl dj dk K V A B O u' → post a u') : wpX_rulePat post u v1 v2 := by
  obtain ⟨f_maxNodes, f_maxRules, f_ruleCount, f_counterexample, f_optimized, f_nodeCount, f_outputCount, f_applications, a_preRelation, a_preVariable, a_preConstant, a_roomNeeded, a_useCount, a_treeSize, a_treeKind, a_treeValue, a_treeA, a_treeB, a_treeResult, a_constantValued, a_maximal, a_counterpart, a_boundNode, a_pending, a_pendingCount, a_nodeKind, a_nodeValue, a_nodeA, a_nodeB, a_nodeResult, a_nodeUses, a_outputNode, a_seen, a_order, a_walkStack⟩ := u
  unfold wpX_rulePat
  refine rx_append (s := 0) hok (by omega) hx (fun κ w u' hac hx' => ?_) (fun hno => ?_)
  · obtain ⟨f_maxNodes'', f_maxRules'', f_ruleCount'', f_counterexample'', f_optimized'', f_nodeCount'', f_outputCount'', f_applications'', a_preRelation'', a_preVariable'', a_preConstant'', a_roomNeeded'', a_useCount'', a_treeSize'', a_treeKind'', a_treeValue'', a_treeA'', a_treeB'', a_treeResult'', a_constantValued'', a_maximal'', a_counterpart'', a_boundNode'', a_pending'', a_pendingCount'', a_nodeKind'', a_nodeValue'', a_nodeA'', a_nodeB'', a_nodeResult'', a_nodeUses'', a_outputNode'', a_seen'', a_order'', a_walkStack''⟩ := u'
    exact And.intro (by decide) (h _ _ _ _ _ (sp_append hok (by omega) hac (fun h => absurd h (by omega))) hx')
  · exact And.intro (by decide) (h _ _ _ _ _ hok hx)
theorem rx_rep {u : St2} {post : Int32 → St2 → Prop} {v1 v2 : Int32} (hok : sp_ok mN mR rc ph nc oc cx ap P R rl rj rK uc D ps dc dl dj dk K V A B O) (hx : rx mN mR rc ph nc oc cx ap P R rl rj rK uc D ps dc dl dj dk K V A B O u) (h : ∀ a D' ps' dc' u', sp_ok mN mR rc ph nc oc cx ap P R rl rj rK uc D' ps' dc' dl dj dk K V A B O → rx mN mR rc ph nc oc cx ap P R rl rj rK uc D' ps' dc' dl dj dk K V A B O u' → post a u') : wpX_ruleRep post u v1 v2 := by
  obtain ⟨f_maxNodes, f_maxRules, f_ruleCount, f_counterexample, f_optimized, f_nodeCount, f_outputCount, f_applications, a_preRelation, a_preVariable, a_preConstant, a_roomNeeded, a_useCount, a_treeSize, a_treeKind, a_treeValue, a_treeA, a_treeB, a_treeResult, a_constantValued, a_maximal, a_counterpart, a_boundNode, a_pending, a_pendingCount, a_nodeKind, a_nodeValue, a_nodeA, a_nodeB, a_nodeResult, a_nodeUses, a_outputNode, a_seen, a_order, a_walkStack⟩ := u
  unfold wpX_ruleRep
  refine br_c (fun e14 => ?_) (fun n14 => ?_)
  · exact h _ _ _ _ _ hok hx
  · refine rx_append (s := 1) hok (by omega) hx (fun κ w u' hac hx' => ?_) (fun hno => ?_)
    · obtain ⟨f_maxNodes'', f_maxRules'', f_ruleCount'', f_counterexample'', f_optimized'', f_nodeCount'', f_outputCount'', f_applications'', a_preRelation'', a_preVariable'', a_preConstant'', a_roomNeeded'', a_useCount'', a_treeSize'', a_treeKind'', a_treeValue'', a_treeA'', a_treeB'', a_treeResult'', a_constantValued'', a_maximal'', a_counterpart'', a_boundNode'', a_pending'', a_pendingCount'', a_nodeKind'', a_nodeValue'', a_nodeA'', a_nodeB'', a_nodeResult'', a_nodeUses'', a_outputNode'', a_seen'', a_order'', a_walkStack''⟩ := u'
      have hv1 := hac.1
      subst hv1
      have hne : κ ≠ 14 := fun e => n14 (by rw [e]; rfl)
      exact br_f (by decide) (h _ _ _ _ _ (sp_append hok (by omega) hac (fun _ => hne)) hx')
    · exact br_t rfl (h _ _ _ _ _ hok hx)
end VDz
