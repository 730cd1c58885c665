/-! rulePre, addNode, addOutput, clearDag, ruleUses -/
section VSx
variable {f_maxNodes f_maxRules f_ruleCount f_counterexample f_optimized f_nodeCount f_outputCount f_applications : Int32} {a_preRelation a_preVariable a_preConstant a_roomNeeded a_useCount a_treeSize a_treeKind a_treeValue a_treeA a_treeB a_treeResult a_constantValued a_maximal a_counterpart a_boundNode a_pending a_pendingCount a_nodeKind a_nodeValue a_nodeA a_nodeB a_nodeResult a_nodeUses a_outputNode a_seen a_order a_walkStack : Nat → Int32}
variable {mN : Nat} {mR : Nat} {rc : Nat} {ph : Nat} {nc : Nat} {oc : Nat} {cx : Int32} {ap : Int32} {P : Nat → pr_PT} {R : Nat → pr_PT} {rl : Nat → Nat} {rj : Nat → Nat} {rK : Nat → Nat} {uc : Nat → Int32} {D : Nat → pr_PT} {ps : Nat → Nat → Nat} {dc : Nat → Nat} {dl : Nat} {dj : Nat} {dk : Nat} {K : Nat → Nat} {V : Nat → Int32} {A : Nat → Option Nat} {B : Nat → Option Nat} {O : Nat → Nat}
theorem sp_pre {ρ j c : Nat} (h : sp_ok mN mR rc ph nc oc cx ap P R rl rj rK uc D ps dc dl dj dk K V A B O) (h4 : ρ ≤ 4) (hj : ρ ≠ 0 → j < 2 ∧ c < 256) : sp_ok mN mR rc ph nc oc cx ap P R rl rj rK uc D ps dc ρ j c K V A B O := by
  obtain ⟨o1, o2, o3, o4, o5, o6, o7, o8, ⟨d1, d2, d3, d4⟩, o10⟩ := h
  exact ⟨o1, o2, o3, o4, o5, o6, o7, o8, ⟨d1, d2, h4, hj⟩, o10⟩
theorem x_pre31 {post : Int32 → St2 → Prop} {ρ j c : Nat} {x2 x3 : Int32} (hok : sp_ok mN mR rc ph nc oc cx ap P R rl rj rK uc D ps dc dl dj dk K V A B O) (hx : rx mN mR rc ph nc oc cx ap P R rl rj rK uc D ps dc dl dj dk K V A B O (f_maxNodes, f_maxRules, f_ruleCount, f_counterexample, f_optimized, f_nodeCount, f_outputCount, f_applications, a_preRelation, a_preVariable, a_preConstant, a_roomNeeded, a_useCount, a_treeSize, a_treeKind, a_treeValue, a_treeA, a_treeB, a_treeResult, a_constantValued, a_maximal, a_counterpart, a_boundNode, a_pending, a_pendingCount, a_nodeKind, a_nodeValue, a_nodeA, a_nodeB, a_nodeResult, a_nodeUses, a_outputNode, a_seen, a_order, a_walkStack)) (hj : ρ ≠ 0 → x2 = nI j ∧ x3 = nI c) (h : ∀ u', rx mN mR rc ph nc oc cx ap P R rl rj rK uc D ps dc ρ j c K V A B O u' → post 1 u') : wX_rulePre_31 post (nI ρ) x2 x3 f_maxNodes f_maxRules f_ruleCount f_counterexample f_optimized f_nodeCount f_outputCount f_applications a_preRelation a_preVariable a_preConstant a_roomNeeded a_useCount a_treeSize a_treeKind a_treeValue a_treeA a_treeB a_treeResult a_constantValued a_maximal a_counterpart a_boundNode a_pending a_pendingCount a_nodeKind a_nodeValue a_nodeA a_nodeB a_nodeResult a_nodeUses a_outputNode a_seen a_order a_walkStack := by
  obtain ⟨e1, e2, e3, e4, e5, e6, e7, e8, h9, h10, h11, h12⟩ := hx
  subst e1 e2 e3 e4 e5 e6 e7 e8
  have hrc : rc ≤ 16 := by
    have := hok.2.2.2.1
    have := hok.2.2.2.2.1
    omega
  have hin : vp_in (nI rc) 17 := pk_in rc 17 (by omega)
  refine ⟨hin, ?_⟩
  rw [nI_clamp (by omega)]
  refine nm_e ⟨hin, nm_e ⟨hin, nm_e (h _ ?_)⟩⟩
  refine ⟨rfl, rfl, rfl, rfl, rfl, rfl, rfl, rfl, fun r hr => ⟨(h9 r hr).1, pe_cong (h9 r hr).2.1 (pk_un (by omega)) (pk_un (by omega)) (pk_un (by omega)), (h9 r hr).2.2⟩, h10, ⟨pk_us, fun hρ => ?_⟩, h12⟩
  rw [pk_us, pk_us]
  exact hj hρ
theorem sp_node {κ : Nat} {x : Int32} {a b : Option Nat} (h : sp_ok mN mR rc ph nc oc cx ap P R rl rj rK uc D ps dc dl dj dk K V A B O) (hph : ph = 0) (hnc : nc < mN) (h1 : 1 ≤ κ) (h12 : κ ≤ 12) (hv : pr_by x) (hv12 : κ = 12 → ∃ i, i < 4 ∧ x = nI i) (hv0 : κ ≤ 10 → x = 0) (ha : 11 ≤ κ → a = none) (hb : 9 ≤ κ → b = none) (ha' : κ ≤ 10 → ∃ c, a = some c) (hb' : κ ≤ 8 → ∃ c, b = some c) (hc : ∀ c, a = some c ∨ b = some c → c < nc) :
    sp_ok mN mR rc ph (nc + 1) oc cx ap P R rl rj rK uc D ps dc dl dj dk (pr_st K nc κ) (pr_st V nc x) (pr_st A nc a) (pr_st B nc b) O := by
  obtain ⟨o1, o2, o3, o4, o5, o6, o7, o8, o9, rk, rk2, g1, g2, g3, g4⟩ := h
  obtain ⟨g5, g6, g7⟩ := g3 hph
  subst g5
  have hT : ∀ n, pr_T 0 K n → pr_T 0 (pr_st K nc κ) n ∧ n ≠ nc := by
    intro n hn
    have hne : n ≠ nc := by
      intro e
      have := (g7 n (by have := hn.2.1; omega)).mpr (by omega)
      exact hn.2.2 this
    exact ⟨⟨hn.1, hn.2.1, by rw [pr_st_n hne]; exact hn.2.2⟩, hne⟩
  have hTn : ∀ c, c < nc → pr_T 0 (pr_st K nc κ) c := by
    intro c hc
    have h0 : K c ≠ 0 := fun h => by
      have := (g7 c (by omega)).mp h
      omega
    exact (hT c ⟨by omega, by omega, h0⟩).1
  refine ⟨o1, o2, o3, o4, o5, o6, o7, o8, o9, fun n => n, rk2, fun n hn => ?_, fun k hk => (hT _ (g2 k hk)).1, fun _ => ⟨rfl, by omega, fun n hn => ?_⟩, fun h => absurd h (by omega)⟩
  · by_cases e : n = nc
    · subst e
      rw [pr_st_s, pr_st_s, pr_st_s, pr_st_s]
      refine ⟨h12, by have := hn.2.1; omega, hv, hv12, hv0, ha, hb, ha', hb', fun c hc' => ⟨hTn c (hc c hc'), hc c hc'⟩⟩
    · have hn' : pr_T 0 K n := ⟨hn.1, hn.2.1, by have := hn.2.2; rw [pr_st_n e] at this; exact this⟩
      rw [pr_st_n e, pr_st_n e, pr_st_n e, pr_st_n e]
      obtain ⟨k1, k2, k3, k4, k5, k6, k7, k8, k9, k10⟩ := g1 n hn'
      exact ⟨k1, k2, k3, k4, k5, k6, k7, k8, k9, fun c hc' => ⟨(hT c (k10 c hc').1).1, (k10 c hc').2⟩⟩
  · by_cases e : n = nc
    · rw [e, pr_st_s]
      exact ⟨fun h => absurd h (by omega), fun h => absurd h (by omega)⟩
    · rw [pr_st_n e, g7 n hn]
      omega
theorem gr_node {nc κ oc : Nat} {K : Nat → Nat} {V : Nat → Int32} {A B : Nat → Option Nat} {O : Nat → Nat} {x : Int32} {a b : Option Nat} {nk nv na nb ou : Nat → Int32} (h : gr_all 0 oc K V A B O nk nv na nb ou) :
    gr_all 0 oc (pr_st K nc κ) (pr_st V nc x) (pr_st A nc a) (pr_st B nc b) O (upd nk nc (nI κ)) (upd nv nc x) (upd na nc (pr_oI a)) (upd nb nc (pr_oI b)) ou := by
  refine ⟨fun n hn => ?_, h.2.1, fun h => absurd h (by omega)⟩
  by_cases e : n = nc
  · subst e
    rw [pk_us, pk_us, pk_us, pk_us, pr_st_s, pr_st_s, pr_st_s, pr_st_s]
    exact ⟨rfl, rfl, rfl, rfl⟩
  · rw [pk_un e, pk_un e, pk_un e, pk_un e, pr_st_n e, pr_st_n e, pr_st_n e, pr_st_n e]
    exact h.1 n ⟨hn.1, hn.2.1, by have := hn.2.2; rw [pr_st_n e] at this; exact this⟩
theorem x_setNode {post : St2 → Prop} {n : Nat} {p1 p2 p3 p4 : Int32} (hn : n < 64) (h : post (f_maxNodes, f_maxRules, f_ruleCount, f_counterexample, f_optimized, f_nodeCount, f_outputCount, f_applications, a_preRelation, a_preVariable, a_preConstant, a_roomNeeded, a_useCount, a_treeSize, a_treeKind, a_treeValue, a_treeA, a_treeB, a_treeResult, a_constantValued, a_maximal, a_counterpart, a_boundNode, a_pending, a_pendingCount, (upd a_nodeKind n p1), (upd a_nodeValue n p2), (upd a_nodeA n p3), (upd a_nodeB n p4), a_nodeResult, a_nodeUses, a_outputNode, a_seen, a_order, a_walkStack)) : wpX_setNode post (f_maxNodes, f_maxRules, f_ruleCount, f_counterexample, f_optimized, f_nodeCount, f_outputCount, f_applications, a_preRelation, a_preVariable, a_preConstant, a_roomNeeded, a_useCount, a_treeSize, a_treeKind, a_treeValue, a_treeA, a_treeB, a_treeResult, a_constantValued, a_maximal, a_counterpart, a_boundNode, a_pending, a_pendingCount, a_nodeKind, a_nodeValue, a_nodeA, a_nodeB, a_nodeResult, a_nodeUses, a_outputNode, a_seen, a_order, a_walkStack) (nI n) p1 p2 p3 p4 := by
  have hin : vp_in (nI n) 64 := pk_in n 64 hn
  unfold wpX_setNode
  refine ⟨hin, ?_⟩
  rw [nI_clamp (by omega)]
  exact nm_e ⟨hin, nm_e ⟨hin, nm_e ⟨hin, nm_e h⟩⟩⟩
theorem x_setNode2 {post : St2 → Prop} {n : Nat} {p1 p2 p3 p4 : Int32} (hn : n < 64) (h : post (f_maxNodes, f_maxRules, f_ruleCount, f_counterexample, f_optimized, f_nodeCount, f_outputCount, f_applications, a_preRelation, a_preVariable, a_preConstant, a_roomNeeded, a_useCount, a_treeSize, a_treeKind, a_treeValue, a_treeA, a_treeB, a_treeResult, a_constantValued, a_maximal, a_counterpart, a_boundNode, a_pending, a_pendingCount, (upd a_nodeKind n p1), (upd a_nodeValue n p2), (upd a_nodeA n p3), (upd a_nodeB n p4), a_nodeResult, a_nodeUses, a_outputNode, a_seen, a_order, a_walkStack)) : wpX_setNode_2 post (f_maxNodes, f_maxRules, f_ruleCount, f_counterexample, f_optimized, f_nodeCount, f_outputCount, f_applications, a_preRelation, a_preVariable, a_preConstant, a_roomNeeded, a_useCount, a_treeSize, a_treeKind, a_treeValue, a_treeA, a_treeB, a_treeResult, a_constantValued, a_maximal, a_counterpart, a_boundNode, a_pending, a_pendingCount, a_nodeKind, a_nodeValue, a_nodeA, a_nodeB, a_nodeResult, a_nodeUses, a_outputNode, a_seen, a_order, a_walkStack) (nI n) p1 p2 p3 p4 := by
  have hin : vp_in (nI n) 64 := pk_in n 64 hn
  unfold wpX_setNode_2
  refine ⟨hin, ?_⟩
  rw [nI_clamp (by omega)]
  exact nm_e ⟨hin, nm_e ⟨hin, nm_e ⟨hin, nm_e h⟩⟩⟩
theorem x_isAdded_t {post : Int32 → Prop} {a : Nat} (ha : a < nc) (hnc : nc < 2 ^ 31) (h : post 1) : wpX_isAddedNode post (f_maxNodes, f_maxRules, f_ruleCount, f_counterexample, f_optimized, (nI nc), f_outputCount, f_applications, a_preRelation, a_preVariable, a_preConstant, a_roomNeeded, a_useCount, a_treeSize, a_treeKind, a_treeValue, a_treeA, a_treeB, a_treeResult, a_constantValued, a_maximal, a_counterpart, a_boundNode, a_pending, a_pendingCount, a_nodeKind, a_nodeValue, a_nodeA, a_nodeB, a_nodeResult, a_nodeUses, a_outputNode, a_seen, a_order, a_walkStack) (nI a) := by
  unfold wpX_isAddedNode
  exact br_f (nI_pos (by omega)) (pk_le nc a (fun h => absurd h (by omega)) (fun _ => h))
theorem x_isAdded_f {post : Int32 → Prop} {p : Int32} (hp : p < 0 ∨ nI nc ≤ p) (h : post 0) : wpX_isAddedNode post (f_maxNodes, f_maxRules, f_ruleCount, f_counterexample, f_optimized, (nI nc), f_outputCount, f_applications, a_preRelation, a_preVariable, a_preConstant, a_roomNeeded, a_useCount, a_treeSize, a_treeKind, a_treeValue, a_treeA, a_treeB, a_treeResult, a_constantValued, a_maximal, a_counterpart, a_boundNode, a_pending, a_pendingCount, a_nodeKind, a_nodeValue, a_nodeA, a_nodeB, a_nodeResult, a_nodeUses, a_outputNode, a_seen, a_order, a_walkStack) p := by
  unfold wpX_isAddedNode
  by_cases h0 : p < 0
  · exact br_t h0 h
  · refine br_f h0 (br_t ?_ h)
    rcases hp with hp | hp
    · exact absurd hp h0
    · exact hp
end VSx
section VSz
variable {mN : Nat} {mR : Nat} {rc : Nat} {ph : Nat} {nc : Nat} {oc : Nat} {cx : Int32} {ap : Int32} {P : Nat → pr_PT} {R : Nat → pr_PT} {rl : Nat → Nat} {rj : Nat → Nat} {rK : Nat → Nat} {uc : Nat → Int32} {D : Nat → pr_PT} {ps : Nat → Nat → Nat} {dc : Nat → Nat} {dl : Nat} {dj : Nat} {dk : Nat} {K : Nat → Nat} {V : Nat → Int32} {A : Nat → Option Nat} {B : Nat → Option Nat} {O : Nat → Nat}
theorem rx_pre {u : St2} {post : Int32 → St2 → Prop} {v1 v2 v3 : Int32} (hok : sp_ok mN mR rc ph nc oc cx ap P R rl rj rK uc D ps dc dl dj dk K V A B O) (hx : rx mN mR rc ph nc oc cx ap P R rl rj rK uc D ps dc dl dj dk K V A B O u) (h : ∀ a l j c u', sp_ok mN mR rc ph nc oc cx ap P R rl rj rK uc D ps dc l j c K V A B O → rx mN mR rc ph nc oc cx ap P R rl rj rK uc D ps dc l j c K V A B O u' → post a u') : wpX_rulePre post u v1 v2 v3 := by
  have hI : ∀ a, post a u := fun a => h a _ _ _ _ hok hx
  obtain ⟨f_maxNodes, f_maxRules, f_ruleCount, f_counterexample, f_optimized, f_nodeCount, f_outputCount, f_applications, a_preRelation, a_preVariable, a_preConstant, a_roomNeeded, a_useCount, a_treeSize, a_treeKind, a_treeValue, a_treeA, a_treeB, a_treeResult, a_constantValued, a_maximal, a_counterpart, a_boundNode, a_pending, a_pendingCount, a_nodeKind, a_nodeValue, a_nodeA, a_nodeB, a_nodeResult, a_nodeUses, a_outputNode, a_seen, a_order, a_walkStack⟩ := u
  have hno : (v1 < 0 ∨ nI 5 ≤ v1) → wpX_rulePre post (f_maxNodes, f_maxRules, f_ruleCount, f_counterexample, f_optimized, f_nodeCount, f_outputCount, f_applications, a_preRelation, a_preVariable, a_preConstant, a_roomNeeded, a_useCount, a_treeSize, a_treeKind, a_treeValue, a_treeA, a_treeB, a_treeResult, a_constantValued, a_maximal, a_counterpart, a_boundNode, a_pending, a_pendingCount, a_nodeKind, a_nodeValue, a_nodeA, a_nodeB, a_nodeResult, a_nodeUses, a_outputNode, a_seen, a_order, a_walkStack) v1 v2 v3 := by
    intro hp
    by_cases h0 : v1 < 0
    · exact br_t h0 (hI _)
    · have h5 : ¬ v1 ≤ 4 := by
        rcases hp with hp | hp
        · exact absurd hp h0
        · intro h
          exact absurd (Int32.le_trans hp h) (by decide)
      exact br_f h0 (br_f h5 (hI _))
  rcases pk_ix v1 (n := 5) (by omega) with hp | hp | ⟨ρ, hρ, rfl⟩
  · exact hno (Or.inl hp)
  · exact hno (Or.inr hp)
  · have h0 : ¬ nI ρ < 0 := nI_pos (by omega)
    have h4 : nI ρ ≤ 4 := nI_le (b := 4) (by omega) (by decide)
    refine br_f h0 (br_t h4 (pk_eq ρ 0 (fun e => ?_) (fun ne => ?_)))
    · exact x_pre31 (ρ := ρ) (j := 0) (c := 0) hok hx (fun h => absurd e h) (fun u' hx' => h _ _ _ _ _ (sp_pre hok (by omega) (fun h => absurd e h)) hx')
    · rcases pk_ix v2 (n := 2) (by omega) with hq | hq | ⟨j, hj, rfl⟩
      · exact x_isVariable_f (Or.inl hq) (br_t rfl (hI _))
      · exact x_isVariable_f (Or.inr hq) (br_t rfl (hI _))
      · refine x_isVariable_t hj (br_f (by decide) ?_)
        rcases pk_ix v3 (n := 256) (by omega) with hc | hc | ⟨c, hc, rfl⟩
        · exact x_isWord_f (Or.inl hc) (br_t rfl (hI _))
        · exact x_isWord_f (Or.inr hc) (br_t rfl (hI _))
        · exact x_isWord_t hc (br_f (by decide) (x_pre31 (ρ := ρ) (j := j) (c := c) hok hx (fun _ => ⟨rfl, rfl⟩) (fun u' hx' => h _ _ _ _ _ (sp_pre hok (by omega) (fun _ => ⟨hj, hc⟩)) hx')))
/-- addOutput: refused, or (before optimize) one more output -/
theorem rx_out {u : St2} {post : Int32 → St2 → Prop} {v1 : Int32} (hok : sp_ok mN mR rc ph nc oc cx ap P R rl rj rK uc D ps dc dl dj dk K V A B O) (hx : rx mN mR rc ph nc oc cx ap P R rl rj rK uc D ps dc dl dj dk K V A B O u) (hno : ∀ a, post a u) (h : ∀ a n u', ph = 0 → sp_ok mN mR rc ph nc (oc + 1) cx ap P R rl rj rK uc D ps dc dl dj dk K V A B (pr_st O oc n) → rx mN mR rc ph nc (oc + 1) cx ap P R rl rj rK uc D ps dc dl dj dk K V A B (pr_st O oc n) u' → post a u') : wpX_addOutput post u v1 := by
  obtain ⟨f_maxNodes, f_maxRules, f_ruleCount, f_counterexample, f_optimized, f_nodeCount, f_outputCount, f_applications, a_preRelation, a_preVariable, a_preConstant, a_roomNeeded, a_useCount, a_treeSize, a_treeKind, a_treeValue, a_treeA, a_treeB, a_treeResult, a_constantValued, a_maximal, a_counterpart, a_boundNode, a_pending, a_pendingCount, a_nodeKind, a_nodeValue, a_nodeA, a_nodeB, a_nodeResult, a_nodeUses, a_outputNode, a_seen, a_order, a_walkStack⟩ := u
  obtain ⟨e1, e2, e3, e4, e5, e6, e7, e8, h9, h10, h11, h12⟩ := hx
  subst e1 e2 e3 e4 e5 e6 e7 e8
  obtain ⟨o1, o2, o3, o4, o5, o6, o7, o8, o9, rk, rk2, q1, q2, q3, q4⟩ := hok
  unfold wpX_addOutput
  refine pk_eq ph 0 (fun hp => ?_) (fun hp => hno _)
  subst hp
  obtain ⟨q5, q6, q7⟩ := q3 rfl
  refine pk_eq oc 4 (fun ho => hno _) (fun ho => ?_)
  rcases pk_ix v1 (n := nc) (by omega) with hp | hp | ⟨n, hn, rfl⟩
  · exact x_isAdded_f (nc := nc) (Or.inl hp) (br_t rfl (hno _))
  · exact x_isAdded_f (nc := nc) (Or.inr hp) (br_t rfl (hno _))
  · refine x_isAdded_t (nc := nc) hn (by omega) (br_f (by decide) ⟨pk_in oc 8 (by omega), ?_⟩)
    rw [nI_clamp (by omega)]
    refine nm_e (nm_r (nI_1 _) ?_)
    have hTn : pr_T 0 K n := by
      refine ⟨by omega, by omega, fun h => ?_⟩
      have := (q7 n (by omega)).mp h
      omega
    have hout : ∀ f : Nat → Int32, (∀ k, k < oc → f k = nI (O k)) → ∀ k, k < oc + 1 → upd f oc (nI n) k = nI (pr_st O oc n k) := by
      intro f hf k hk
      by_cases e : k = oc
      · rw [e, pk_us, pr_st_s]
      · rw [pk_un e, pr_st_n e]
        exact hf k (by omega)
    refine h _ n _ rfl ⟨o1, o2, o3, o4, o5, o6, by omega, o8, o9, rk, rk2, q1, fun k hk => ?_, fun _ => ⟨q5, q6, q7⟩, fun h => absurd h (by omega)⟩ ⟨rfl, rfl, rfl, rfl, rfl, rfl, rfl, rfl, h9, h10, h11, h12.1, hout _ h12.2.1, fun h => absurd h (by omega)⟩
    by_cases e : k = oc
    · rw [e, pr_st_s]
      exact hTn
    · rw [pr_st_n e]
      exact q2 k (by omega)
end VSz
