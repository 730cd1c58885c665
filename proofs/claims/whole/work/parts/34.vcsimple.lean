/-! rulePre, addNode, addOutput, clearDag, ruleUses -/
section VSx
variable {f_maxNodes f_maxRules f_ruleCount f_counterexample f_optimized f_nodeCount f_outputCount f_applications : Int32} {a_preRelation a_preVariable a_preConstant a_roomNeeded a_useCount a_treeSize a_treeKind a_treeValue a_treeA a_treeB a_treeResult a_constantValued a_maximal a_counterpart a_boundNode a_pending a_pendingCount a_nodeKind a_nodeValue a_nodeA a_nodeB a_nodeResult a_nodeUses a_outputNode a_seen a_order a_walkStack : Nat → Int32}
variable {mN : Nat} {mR : Nat} {rc : Nat} {ph : Nat} {nc : Nat} {oc : Nat} {cx : Int32} {ap : Int32} {P : Nat → pr_PT} {R : Nat → pr_PT} {rl : Nat → Nat} {rj : Nat → Nat} {rK : Nat → Nat} {uc : Nat → Int32} {D : Nat → pr_PT} {ps : Nat → Nat → Nat} {dc : Nat → Nat} {dl : Nat} {dj : Nat} {dk : Nat} {K : Nat → Nat} {V : Nat → Int32} {A : Nat → Option Nat} {B : Nat → Option Nat} {O : Nat → Nat}
theorem sp_pre {ρ j c : Nat} (h : sp_ok mN mR rc ph nc oc cx ap P R rl rj rK uc D ps dc dl dj dk K V A B O) (h4 : ρ ≤ 4) (hj : ρ ≠ 0 → j < 2 ∧ c < 256) : sp_ok mN mR rc ph nc oc cx ap P R rl rj rK uc D ps dc ρ j c K V A B O := by
  obtain ⟨o1, o2, o3, o4, o5, o6, o7, o8, ⟨d1, d2, d3, d4⟩, o10⟩ := h
  exact ⟨o1, o2, o3, o4, o5, o6, o7, o8, ⟨d1, d2, h4, hj⟩, o10⟩
theorem x_pre31 {post : Int32 → SX → Prop} {ρ j c : Nat} {x2 x3 : Int32} (hok : sp_ok mN mR rc ph nc oc cx ap P R rl rj rK uc D ps dc dl dj dk K V A B O) (hx : rx mN mR rc ph nc oc cx ap P R rl rj rK uc D ps dc dl dj dk K V A B O (f_maxNodes, f_maxRules, f_ruleCount, f_counterexample, f_optimized, f_nodeCount, f_outputCount, f_applications, a_preRelation, a_preVariable, a_preConstant, a_roomNeeded, a_useCount, a_treeSize, a_treeKind, a_treeValue, a_treeA, a_treeB, a_treeResult, a_constantValued, a_maximal, a_counterpart, a_boundNode, a_pending, a_pendingCount, a_nodeKind, a_nodeValue, a_nodeA, a_nodeB, a_nodeResult, a_nodeUses, a_outputNode, a_seen, a_order, a_walkStack)) (hj : ρ ≠ 0 → x2 = nI j ∧ x3 = nI c) (h : ∀ u', rx mN mR rc ph nc oc cx ap P R rl rj rK uc D ps dc ρ j c K V A B O u' → post 1 u') : wX_rulePre_31 post (nI ρ) x2 x3 f_maxNodes f_maxRules f_ruleCount f_counterexample f_optimized f_nodeCount f_outputCount f_applications a_preRelation a_preVariable a_preConstant a_roomNeeded a_useCount a_treeSize a_treeKind a_treeValue a_treeA a_treeB a_treeResult a_constantValued a_maximal a_counterpart a_boundNode a_pending a_pendingCount a_nodeKind a_nodeValue a_nodeA a_nodeB a_nodeResult a_nodeUses a_outputNode a_seen a_order a_walkStack := by
  obtain ⟨e1, e2, e3, e4, e5, e6, e7, e8, h9, h10, h11, h12⟩ := hx
  subst e1 e2 e3 e4 e5 e6 e7 e8
  have hrc : rc ≤ 16 := by
    have := hok.2.2.2.1
    have := hok.2.2.2.2.1
    omega
  have hin : vp_in (nI rc) 17 := pk_in rc 17 (by omega)
  refine ⟨hin, ?_⟩
  rw [nI_clamp (by omega)]
  refine nm_e ⟨hin, nm_e ⟨hin, nm_e (h _ ?_)⟩⟩
  refine ⟨rfl, rfl, rfl, rfl, rfl, rfl, rfl, rfl, fun r hr => ⟨(h9 r hr).1, pe_cong (h9 r hr).2.1 (pk_un (by omega)) (pk_un (by omega)) (pk_un (by omega)), (h9 r hr).2.2⟩, h10, ⟨pk_us, fun hρ => ?_⟩, h12⟩
  rw [pk_us, pk_us]
  exact hj hρ
theorem sp_node {κ : Nat} {x : Int32} {a b : Option Nat} (h : sp_ok mN mR rc ph nc oc cx ap P R rl rj rK uc D ps dc dl dj dk K V A B O) (hph : ph = 0) (hnc : nc < mN) (h1 : 1 ≤ κ) (h12 : κ ≤ 12) (hv : pr_by x) (hv12 : κ = 12 → ∃ i, i < 4 ∧ x = nI i) (hv0 : κ ≤ 10 → x = 0) (ha : 11 ≤ κ → a = none) (hb : 9 ≤ κ → b = none) (ha' : κ ≤ 10 → ∃ c, a = some c) (hb' : κ ≤ 8 → ∃ c, b = some c) (hc : ∀ c, a = some c ∨ b = some c → c < nc) :
    sp_ok mN mR rc ph (nc + 1) oc cx ap P R rl rj rK uc D ps dc dl dj dk (pr_st K nc κ) (pr_st V nc x) (pr_st A nc a) (pr_st B nc b) O := by
  obtain ⟨o1, o2, o3, o4, o5, o6, o7, o8, o9, rk, rk2, g1, g2, g3, g4⟩ := h
  obtain ⟨g5, g6, g7⟩ := g3 hph
  subst g5
  have hT : ∀ n, pr_T 0 K n → pr_T 0 (pr_st K nc κ) n ∧ n ≠ nc := by
    intro n hn
    have hne : n ≠ nc := by
      intro e
      have := (g7 n (by have := hn.2.1; omega)).mpr (by omega)
      exact hn.2.2 this
    exact ⟨⟨hn.1, hn.2.1, by rw [pr_st_n hne]; exact hn.2.2⟩, hne⟩
  have hTn : ∀ c, c < nc → pr_T 0 (pr_st K nc κ) c := by
    intro c hc
    have h0 : K c ≠ 0 := fun h => by
      have := (g7 c (by omega)).mp h
      omega
    exact (hT c ⟨by omega, by omega, h0⟩).1
  refine ⟨o1, o2, o3, o4, o5, o6, o7, o8, o9, fun n => n, rk2, fun n hn => ?_, fun k hk => (hT _ (g2 k hk)).1, fun _ => ⟨rfl, by omega, fun n hn => ?_⟩, fun h => absurd h (by omega)⟩
  · by_cases e : n = nc
    · subst e
      rw [pr_st_s, pr_st_s, pr_st_s, pr_st_s]
      refine ⟨h12, by have := hn.2.1; omega, hv, hv12, hv0, ha, hb, ha', hb', fun c hc' => ⟨hTn c (hc c hc'), hc c hc'⟩⟩
    · have hn' : pr_T 0 K n := ⟨hn.1, hn.2.1, by have := hn.2.2; rw [pr_st_n e] at this; exact this⟩
      rw [pr_st_n e, pr_st_n e, pr_st_n e, pr_st_n e]
      obtain ⟨k1, k2, k3, k4, k5, k6, k7, k8, k9, k10⟩ := g1 n hn'
      exact ⟨k1, k2, k3, k4, k5, k6, k7, k8, k9, fun c hc' => ⟨(hT c (k10 c hc').1).1, (k10 c hc').2⟩⟩
  · by_cases e : n = nc
    · rw [e, pr_st_s]
      exact ⟨fun h => absurd h (by omega), fun h => absurd h (by omega)⟩
    · rw [pr_st_n e, g7 n hn]
      omega
theorem gr_node {nc κ oc : Nat} {K : Nat → Nat} {V : Nat → Int32} {A B : Nat → Option Nat} {O : Nat → Nat} {x : Int32} {a b : Option Nat} {nk nv na nb ou : Nat → Int32} (h : gr_all 0 oc K V A B O nk nv na nb ou) :
    gr_all 0 oc (pr_st K nc κ) (pr_st V nc x) (pr_st A nc a) (pr_st B nc b) O (upd nk nc (nI κ)) (upd nv nc x) (upd na nc (pr_oI a)) (upd nb nc (pr_oI b)) ou := by
  refine ⟨fun n hn => ?_, h.2.1, fun h => absurd h (by omega)⟩
  by_cases e : n = nc
  · subst e
    rw [pk_us, pk_us, pk_us, pk_us, pr_st_s, pr_st_s, pr_st_s, pr_st_s]
    exact ⟨rfl, rfl, rfl, rfl⟩
  · rw [pk_un e, pk_un e, pk_un e, pk_un e, pr_st_n e, pr_st_n e, pr_st_n e, pr_st_n e]
    exact h.1 n ⟨hn.1, hn.2.1, by have := hn.2.2; rw [pr_st_n e] at this; exact this⟩
theorem x_setNode {post : SX → Prop} {n : Nat} {p1 p2 p3 p4 : Int32} (hn : n < 64) (h : post (f_maxNodes, f_maxRules, f_ruleCount, f_counterexample, f_optimized, f_nodeCount, f_outputCount, f_applications, a_preRelation, a_preVariable, a_preConstant, a_roomNeeded, a_useCount, a_treeSize, a_treeKind, a_treeValue, a_treeA, a_treeB, a_treeResult, a_constantValued, a_maximal, a_counterpart, a_boundNode, a_pending, a_pendingCount, (upd a_nodeKind n p1), (upd a_nodeValue n p2), (upd a_nodeA n p3), (upd a_nodeB n p4), a_nodeResult, a_nodeUses, a_outputNode, a_seen, a_order, a_walkStack)) : wpX_setNode post (f_maxNodes, f_maxRules, f_ruleCount, f_counterexample, f_optimized, f_nodeCount, f_outputCount, f_applications, a_preRelation, a_preVariable, a_preConstant, a_roomNeeded, a_useCount, a_treeSize, a_treeKind, a_treeValue, a_treeA, a_treeB, a_treeResult, a_constantValued, a_maximal, a_counterpart, a_boundNode, a_pending, a_pendingCount, a_nodeKind, a_nodeValue, a_nodeA, a_nodeB, a_nodeResult, a_nodeUses, a_outputNode, a_seen, a_order, a_walkStack) (nI n) p1 p2 p3 p4 := by
  have hin : vp_in (nI n) 64 := pk_in n 64 hn
  unfold wpX_setNode
  refine ⟨hin, ?_⟩
  rw [nI_clamp (by omega)]
  exact nm_e ⟨hin, nm_e ⟨hin, nm_e ⟨hin, nm_e h⟩⟩⟩
theorem x_isAdded_t {post : Int32 → Prop} {a : Nat} (ha : a < nc) (hnc : nc < 2 ^ 31) (h : post 1) : wpX_isAddedNode post (f_maxNodes, f_maxRules, f_ruleCount, f_counterexample, f_optimized, (nI nc), f_outputCount, f_applications, a_preRelation, a_preVariable, a_preConstant, a_roomNeeded, a_useCount, a_treeSize, a_treeKind, a_treeValue, a_treeA, a_treeB, a_treeResult, a_constantValued, a_maximal, a_counterpart, a_boundNode, a_pending, a_pendingCount, a_nodeKind, a_nodeValue, a_nodeA, a_nodeB, a_nodeResult, a_nodeUses, a_outputNode, a_seen, a_order, a_walkStack) (nI a) := by
  unfold wpX_isAddedNode
  exact br_f (nI_pos (by omega)) (pk_le nc a (fun h => absurd h (by omega)) (fun _ => h))
theorem x_isAdded_f {post : Int32 → Prop} {p : Int32} (hp : p < 0 ∨ nI nc ≤ p) (h : post 0) : wpX_isAddedNode post (f_maxNodes, f_maxRules, f_ruleCount, f_counterexample, f_optimized, (nI nc), f_outputCount, f_applications, a_preRelation, a_preVariable, a_preConstant, a_roomNeeded, a_useCount, a_treeSize, a_treeKind, a_treeValue, a_treeA, a_treeB, a_treeResult, a_constantValued, a_maximal, a_counterpart, a_boundNode, a_pending, a_pendingCount, a_nodeKind, a_nodeValue, a_nodeA, a_nodeB, a_nodeResult, a_nodeUses, a_outputNode, a_seen, a_order, a_walkStack) p := by
  unfold wpX_isAddedNode
  by_cases h0 : p < 0
  · exact br_t h0 h
  · refine br_f h0 (br_t ?_ h)
    rcases hp with hp | hp
    · exact absurd hp h0
    · exact hp
end VSx
theorem i_vc_rulePre {k : Nat} {u : SX} {v : SY} (I : i_Rel k u v) (hk : k + 4 ≤ 2050) (v1 : Int32) (v2 : Int32) (v3 : Int32) : wpX_rulePre (fun r u' => wpY_rulePre (fun r' v' => r' = r ∧ i_Rel (k + 4) u' v') v v1 v2 v3) u v1 v2 v3 := by
  obtain ⟨mN, mR, rc, ph, nc, oc, cx, ap, P, R, rl, rj, rK, uc, D, ps, dc, dl, dj, dk, K, V, A, B, O, hok, hx, hy⟩ := I
  have hI : i_Rel (k + 4) u v := ⟨mN, mR, rc, ph, nc, oc, cx, ap, P, R, rl, rj, rK, uc, D, ps, dc, dl, dj, dk, K, V, A, B, O, hok, hx, hy⟩
  obtain ⟨f_maxNodes, f_maxRules, f_ruleCount, f_counterexample, f_optimized, f_nodeCount, f_outputCount, f_applications, a_preRelation, a_preVariable, a_preConstant, a_roomNeeded, a_useCount, a_treeSize, a_treeKind, a_treeValue, a_treeA, a_treeB, a_treeResult, a_constantValued, a_maximal, a_counterpart, a_boundNode, a_pending, a_pendingCount, a_nodeKind, a_nodeValue, a_nodeA, a_nodeB, a_nodeResult, a_nodeUses, a_outputNode, a_seen, a_order, a_walkStack⟩ := u
  obtain ⟨f_maxNodes', f_maxRules', f_phase', f_nCount', f_outCnt', f_apps', f_ruleCount', f_cex', f_curLive', f_orderN', a_alive', a_nKind', a_nVal', a_nA', a_nB', a_lv', a_nd', a_nv', a_outs', a_tKind', a_tVal', a_tA', a_tB', a_tN', a_preRel', a_preJ', a_preK', a_ruleUse', a_pend', a_pendN', a_tv', a_cv', a_mx', a_par', a_mp', a_res', a_bnd', a_order', a_stk', a_stSt'⟩ := v
  have hno : (v1 < 0 ∨ nI 5 ≤ v1) → wpX_rulePre (fun r u' => wpY_rulePre (fun r' v' => r' = r ∧ i_Rel (k + 4) u' v') (f_maxNodes', f_maxRules', f_phase', f_nCount', f_outCnt', f_apps', f_ruleCount', f_cex', f_curLive', f_orderN', a_alive', a_nKind', a_nVal', a_nA', a_nB', a_lv', a_nd', a_nv', a_outs', a_tKind', a_tVal', a_tA', a_tB', a_tN', a_preRel', a_preJ', a_preK', a_ruleUse', a_pend', a_pendN', a_tv', a_cv', a_mx', a_par', a_mp', a_res', a_bnd', a_order', a_stk', a_stSt') v1 v2 v3) (f_maxNodes, f_maxRules, f_ruleCount, f_counterexample, f_optimized, f_nodeCount, f_outputCount, f_applications, a_preRelation, a_preVariable, a_preConstant, a_roomNeeded, a_useCount, a_treeSize, a_treeKind, a_treeValue, a_treeA, a_treeB, a_treeResult, a_constantValued, a_maximal, a_counterpart, a_boundNode, a_pending, a_pendingCount, a_nodeKind, a_nodeValue, a_nodeA, a_nodeB, a_nodeResult, a_nodeUses, a_outputNode, a_seen, a_order, a_walkStack) v1 v2 v3 := by
    intro hp
    by_cases h0 : v1 < 0
    · exact br_t h0 (br_t h0 ⟨rfl, hI⟩)
    · have h5 : ¬ v1 ≤ 4 := by
        rcases hp with hp | hp
        · exact absurd hp h0
        · intro h
          exact absurd (Int32.le_trans hp h) (by decide)
      exact br_f h0 (br_f h5 (br_f h0 (br_f h5 ⟨rfl, hI⟩)))
  rcases pk_ix v1 (n := 5) (by omega) with hp | hp | ⟨ρ, hρ, rfl⟩
  · exact hno (Or.inl hp)
  · exact hno (Or.inr hp)
  · have h0 : ¬ nI ρ < 0 := nI_pos (by omega)
    have h4 : nI ρ ≤ 4 := nI_le (b := 4) (by omega) (by decide)
    have hY : ∀ (u' : SX) (j c : Nat) (x2 x3 : Int32), (ρ ≠ 0 → x2 = nI j ∧ x3 = nI c ∧ j < 2 ∧ c < 256) → rx mN mR rc ph nc oc cx ap P R rl rj rK uc D ps dc ρ j c K V A B O u' → wY_rulePre_37 (fun r' v' => r' = 1 ∧ i_Rel (k + 4) u' v') (nI ρ) x2 x3 f_maxNodes' f_maxRules' f_phase' f_nCount' f_outCnt' f_apps' f_ruleCount' f_cex' f_curLive' f_orderN' a_alive' a_nKind' a_nVal' a_nA' a_nB' a_lv' a_nd' a_nv' a_outs' a_tKind' a_tVal' a_tA' a_tB' a_tN' a_preRel' a_preJ' a_preK' a_ruleUse' a_pend' a_pendN' a_tv' a_cv' a_mx' a_par' a_mp' a_res' a_bnd' a_order' a_stk' a_stSt' := by
      intro u' j c x2 x3 hj hx'
      obtain ⟨d1, d2, d3, d4, d5, d6, d7, d8, g9, g10, g11, g12⟩ := hy
      subst d1 d2 d3 d4 d5 d6 d7 d8
      have hrc : rc ≤ 16 := by
        have := hok.2.2.2.1
        have := hok.2.2.2.2.1
        omega
      have fin : ∀ pj pk : Nat → Int32, (∀ r, r < 16 → pj r = a_preJ' r ∧ pk r = a_preK' r) → (ρ ≠ 0 → pj 16 = nI j ∧ pk 16 = nI c) → i_Rel (k + 4) u' (nI mN, nI mR, nI ph, nI nc, nI oc, f_apps', nI rc, f_cex', f_curLive', f_orderN', a_alive', a_nKind', a_nVal', a_nA', a_nB', a_lv', a_nd', a_nv', a_outs', a_tKind', a_tVal', a_tA', a_tB', a_tN', upd a_preRel' 16 (nI ρ), pj, pk, a_ruleUse', a_pend', a_pendN', a_tv', a_cv', a_mx', a_par', a_mp', a_res', a_bnd', a_order', a_stk', a_stSt') := by
        intro pj pk hpj hp16
        refine ⟨_, _, _, _, _, _, _, _, _, _, _, _, _, _, _, _, _, _, _, _, _, _, _, _, _, sp_pre hok (by omega) (fun h => (hj h).2.2), hx', ?_⟩
        exact ⟨rfl, rfl, rfl, rfl, rfl, rfl, rfl, rfl, fun r hr => ⟨(g9 r hr).1, (g9 r hr).2.1, pe_cong (g9 r hr).2.2.1 (pk_un (by omega)) (hpj r (by omega)).1 (hpj r (by omega)).2, (g9 r hr).2.2.2⟩, g10, ⟨pk_us, hp16⟩, g12⟩
      refine nm_e (pk_eq ρ 0 (fun e => ⟨pk_in 16 17 (by omega), nm_e (pk_eq ρ 0 (fun _ => nm_e ⟨rfl, fin _ _ ?_ ?_⟩) (fun h => absurd e h))⟩) (fun e => ⟨pk_in 16 17 (by omega), nm_e (pk_eq ρ 0 (fun h => absurd h e) (fun _ => nm_e ⟨rfl, fin _ _ ?_ ?_⟩))⟩))
      · intro r hr
        exact ⟨pk_un (fun h => by rw [h] at hr; exact absurd hr (by decide)), pk_un (by omega)⟩
      · intro h
        exact absurd e h
      · intro r hr
        exact ⟨pk_un (fun h => by rw [h] at hr; exact absurd hr (by decide)), pk_un (by omega)⟩
      · intro h
        exact ⟨by rw [show (16 : Nat) = (16 : Int32).toNatClampNeg from rfl, pk_us]; exact (hj h).1, by rw [pk_us]; exact (hj h).2.1⟩
    refine br_f h0 (br_t h4 (pk_eq ρ 0 (fun e => ?_) (fun ne => ?_)))
    · exact x_pre31 (ρ := ρ) (j := 0) (c := 0) hok hx (fun h => absurd e h) (fun u' hx' => br_f h0 (br_t h4 (pk_eq ρ 0 (fun _ => hY u' 0 0 v2 v3 (fun h => absurd e h) hx') (fun h => absurd e h))))
    · rcases pk_ix v2 (n := 2) (by omega) with hq | hq | ⟨j, hj, rfl⟩
      · exact x_isVariable_f (Or.inl hq) (br_t rfl (br_f h0 (br_t h4 (pk_eq ρ 0 (fun h => absurd h ne) (fun _ => br_t hq ⟨rfl, hI⟩)))))
      · have q0 : ¬ v2 < 0 := fun h => absurd (Int32.lt_of_le_of_lt hq h) (by decide)
        exact x_isVariable_f (Or.inr hq) (br_t rfl (br_f h0 (br_t h4 (pk_eq ρ 0 (fun h => absurd h ne) (fun _ => br_f q0 (br_t (Int32.lt_of_lt_of_le (b := nI 2) (by decide) hq) ⟨rfl, hI⟩))))))
      · have q0 : ¬ nI j < 0 := nI_pos (by omega)
        have q1 : ¬ (1 : Int32) < nI j := nI_nlt (a := 1) (by omega) (by omega)
        refine x_isVariable_t hj (br_f (by decide) ?_)
        rcases pk_ix v3 (n := 256) (by omega) with hc | hc | ⟨c, hc, rfl⟩
        · exact x_isWord_f (Or.inl hc) (br_t rfl (br_f h0 (br_t h4 (pk_eq ρ 0 (fun h => absurd h ne) (fun _ => br_f q0 (br_f q1 (br_t hc ⟨rfl, hI⟩)))))))
        · have c0 : ¬ v3 < 0 := fun h => absurd (Int32.lt_of_le_of_lt hc h) (by decide)
          have c5 : ¬ v3 ≤ 255 := fun h => absurd (Int32.le_trans hc h) (by decide)
          exact x_isWord_f (Or.inr hc) (br_t rfl (br_f h0 (br_t h4 (pk_eq ρ 0 (fun h => absurd h ne) (fun _ => br_f q0 (br_f q1 (br_f c0 (br_f c5 ⟨rfl, hI⟩))))))))
        · have c0 : ¬ nI c < 0 := nI_pos (by omega)
          have c5 : nI c ≤ 255 := nI_le (b := 255) (by omega) (by decide)
          exact x_isWord_t hc (br_f (by decide) (x_pre31 (ρ := ρ) (j := j) (c := c) hok hx (fun _ => ⟨rfl, rfl⟩) (fun u' hx' => br_f h0 (br_t h4 (pk_eq ρ 0 (fun h => absurd h ne) (fun _ => br_f q0 (br_f q1 (br_f c0 (br_t c5 (hY u' j c _ _ (fun _ => ⟨rfl, rfl, hj, hc⟩) hx'))))))))))
theorem i_vc_ruleUses {k : Nat} {u : SX} {v : SY} (I : i_Rel k u v) (hk : k + 4 ≤ 2050) (v1 : Int32) : wpX_ruleUses (fun r => wpY_ruleUses (fun r' => r' = r ∧ i_Rel (k + 4) u v) v v1) u v1 := by
  obtain ⟨mN, mR, rc, ph, nc, oc, cx, ap, P, R, rl, rj, rK, uc, D, ps, dc, dl, dj, dk, K, V, A, B, O, hok, hx, hy⟩ := I
  have hI : i_Rel (k + 4) u v := ⟨mN, mR, rc, ph, nc, oc, cx, ap, P, R, rl, rj, rK, uc, D, ps, dc, dl, dj, dk, K, V, A, B, O, hok, hx, hy⟩
  obtain ⟨f_maxNodes, f_maxRules, f_ruleCount, f_counterexample, f_optimized, f_nodeCount, f_outputCount, f_applications, a_preRelation, a_preVariable, a_preConstant, a_roomNeeded, a_useCount, a_treeSize, a_treeKind, a_treeValue, a_treeA, a_treeB, a_treeResult, a_constantValued, a_maximal, a_counterpart, a_boundNode, a_pending, a_pendingCount, a_nodeKind, a_nodeValue, a_nodeA, a_nodeB, a_nodeResult, a_nodeUses, a_outputNode, a_seen, a_order, a_walkStack⟩ := u
  obtain ⟨f_maxNodes', f_maxRules', f_phase', f_nCount', f_outCnt', f_apps', f_ruleCount', f_cex', f_curLive', f_orderN', a_alive', a_nKind', a_nVal', a_nA', a_nB', a_lv', a_nd', a_nv', a_outs', a_tKind', a_tVal', a_tA', a_tB', a_tN', a_preRel', a_preJ', a_preK', a_ruleUse', a_pend', a_pendN', a_tv', a_cv', a_mx', a_par', a_mp', a_res', a_bnd', a_order', a_stk', a_stSt'⟩ := v
  obtain ⟨e1, e2, e3, e4, e5, e6, e7, e8, h9, h10, h11, h12⟩ := hx
  obtain ⟨d1, d2, d3, d4, d5, d6, d7, d8, g9, g10, g11, g12⟩ := hy
  subst e3 d7
  have hrc : rc ≤ 16 := by
    have := hok.2.2.2.1
    have := hok.2.2.2.2.1
    omega
  by_cases h0 : v1 < 0
  · exact br_t h0 (br_t h0 ⟨rfl, hI⟩)
  · obtain ⟨r, hr, rfl⟩ := nI_of h0
    refine br_f h0 (pk_lt r rc (fun hl => ⟨pk_in r 17 (by omega), ?_⟩) (fun hl => br_f h0 (pk_lt r rc (fun h => absurd h (by omega)) (fun _ => ⟨rfl, hI⟩))))
    refine br_f h0 (pk_lt r rc (fun _ => ⟨pk_in r 16 (by omega), ?_, hI⟩) (fun h => absurd h (by omega)))
    rw [nI_clamp (by omega), (h9 r hl).2.2, (g9 r hl).2.2.2]
theorem i_vc_addOutput {k : Nat} {u : SX} {v : SY} (I : i_Rel k u v) (hk : k + 4 ≤ 2050) (v1 : Int32) : wpX_addOutput (fun r u' => wpY_addOutput (fun r' v' => r' = r ∧ i_Rel (k + 4) u' v') v v1) u v1 := by
  obtain ⟨mN, mR, rc, ph, nc, oc, cx, ap, P, R, rl, rj, rK, uc, D, ps, dc, dl, dj, dk, K, V, A, B, O, hok, hx, hy⟩ := I
  have hI : i_Rel (k + 4) u v := ⟨mN, mR, rc, ph, nc, oc, cx, ap, P, R, rl, rj, rK, uc, D, ps, dc, dl, dj, dk, K, V, A, B, O, hok, hx, hy⟩
  obtain ⟨f_maxNodes, f_maxRules, f_ruleCount, f_counterexample, f_optimized, f_nodeCount, f_outputCount, f_applications, a_preRelation, a_preVariable, a_preConstant, a_roomNeeded, a_useCount, a_treeSize, a_treeKind, a_treeValue, a_treeA, a_treeB, a_treeResult, a_constantValued, a_maximal, a_counterpart, a_boundNode, a_pending, a_pendingCount, a_nodeKind, a_nodeValue, a_nodeA, a_nodeB, a_nodeResult, a_nodeUses, a_outputNode, a_seen, a_order, a_walkStack⟩ := u
  obtain ⟨f_maxNodes', f_maxRules', f_phase', f_nCount', f_outCnt', f_apps', f_ruleCount', f_cex', f_curLive', f_orderN', a_alive', a_nKind', a_nVal', a_nA', a_nB', a_lv', a_nd', a_nv', a_outs', a_tKind', a_tVal', a_tA', a_tB', a_tN', a_preRel', a_preJ', a_preK', a_ruleUse', a_pend', a_pendN', a_tv', a_cv', a_mx', a_par', a_mp', a_res', a_bnd', a_order', a_stk', a_stSt'⟩ := v
  obtain ⟨e1, e2, e3, e4, e5, e6, e7, e8, h9, h10, h11, h12⟩ := hx
  obtain ⟨d1, d2, d3, d4, d5, d6, d7, d8, g9, g10, g11, g12⟩ := hy
  subst e1 e2 e3 e4 e5 e6 e7 e8 d1 d2 d3 d4 d5 d6 d7 d8
  obtain ⟨o1, o2, o3, o4, o5, o6, o7, o8, o9, rk, rk2, q1, q2, q3, q4⟩ := hok
  unfold wpX_addOutput wpY_addOutput
  refine pk_eq ph 0 (fun hp => ?_) (fun hp => pk_eq ph 0 (fun h => absurd h hp) (fun _ => ⟨rfl, hI⟩))
  subst hp
  obtain ⟨q5, q6, q7⟩ := q3 rfl
  refine pk_eq oc 4 (fun ho => br_t rfl (pk_le 4 oc (fun _ => ⟨rfl, hI⟩) (fun h => absurd h (by omega)))) (fun ho => ?_)
  rcases pk_ix v1 (n := nc) (by omega) with hp | hp | ⟨n, hn, rfl⟩
  · exact x_isAdded_f (nc := nc) (Or.inl hp) (br_t rfl (br_t rfl (pk_le 4 oc (fun h => absurd h (by omega)) (fun _ => br_t hp ⟨rfl, hI⟩))))
  · have h0 : ¬ v1 < 0 := fun h => nI_pos (n := nc) (by omega) (Int32.lt_of_le_of_lt hp h)
    exact x_isAdded_f (nc := nc) (Or.inr hp) (br_t rfl (br_t rfl (pk_le 4 oc (fun h => absurd h (by omega)) (fun _ => br_f h0 (br_f (Int32.not_lt.mpr hp) ⟨rfl, hI⟩)))))
  · refine x_isAdded_t (nc := nc) hn (by omega) (br_f (by decide) ⟨pk_in oc 8 (by omega), ?_⟩)
    rw [nI_clamp (by omega)]
    refine nm_e (nm_r (nI_1 _) ?_)
    refine br_t rfl (pk_le 4 oc (fun h => absurd h (by omega)) (fun _ => br_f (nI_pos (by omega)) (pk_lt n nc (fun _ => ⟨pk_in oc 8 (by omega), ?_⟩) (fun h => absurd h (by omega)))))
    rw [nI_clamp (by omega)]
    refine nm_e (nm_r (nI_1 _) ⟨rfl, ?_⟩)
    have hTn : pr_T 0 K n := by
      refine ⟨by omega, by omega, fun h => ?_⟩
      have := (q7 n (by omega)).mp h
      omega
    have hout : ∀ f : Nat → Int32, (∀ k, k < oc → f k = nI (O k)) → ∀ k, k < oc + 1 → upd f oc (nI n) k = nI (pr_st O oc n k) := by
      intro f hf k hk
      by_cases e : k = oc
      · rw [e, pk_us, pr_st_s]
      · rw [pk_un e, pr_st_n e]
        exact hf k (by omega)
    refine ⟨mN, mR, rc, 0, nc, oc + 1, _, _, P, R, rl, rj, rK, uc, D, ps, dc, dl, dj, dk, K, V, A, B, pr_st O oc n, ⟨o1, o2, o3, o4, o5, o6, by omega, o8, o9, rk, rk2, q1, fun k hk => ?_, fun _ => ⟨q5, q6, q7⟩, fun h => absurd h (by omega)⟩, ⟨rfl, rfl, rfl, rfl, rfl, rfl, rfl, rfl, h9, h10, h11, h12.1, hout _ h12.2.1, fun h => absurd h (by omega)⟩, ⟨rfl, rfl, rfl, rfl, rfl, rfl, rfl, rfl, g9, g10, g11, ⟨g12.1.1, hout _ g12.1.2.1, fun h => absurd h (by omega)⟩, g12.2⟩⟩
    by_cases e : k = oc
    · rw [e, pr_st_s]
      exact hTn
    · rw [pr_st_n e]
      exact q2 k (by omega)
