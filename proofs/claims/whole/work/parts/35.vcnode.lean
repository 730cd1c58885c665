/-! addNode, clearDag, nodeAt -/
theorem i_vc_addNode {k : Nat} {u : SX} {v : SY} (I : i_Rel k u v) (hk : k + 4 ≤ 2050) (v1 : Int32) (v2 : Int32) (v3 : Int32) : wpX_addNode (fun r u' => wpY_addNode (fun r' v' => r' = r ∧ i_Rel (k + 4) u' v') v v1 v2 v3) u v1 v2 v3 := by
  obtain ⟨mN, mR, rc, ph, nc, oc, cx, ap, P, R, rl, rj, rK, uc, D, ps, dc, dl, dj, dk, K, V, A, B, O, hok, hx, hy⟩ := I
  have hI : i_Rel (k + 4) u v := ⟨mN, mR, rc, ph, nc, oc, cx, ap, P, R, rl, rj, rK, uc, D, ps, dc, dl, dj, dk, K, V, A, B, O, hok, hx, hy⟩
  obtain ⟨f_maxNodes, f_maxRules, f_ruleCount, f_counterexample, f_optimized, f_nodeCount, f_outputCount, f_applications, a_preRelation, a_preVariable, a_preConstant, a_roomNeeded, a_useCount, a_treeSize, a_treeKind, a_treeValue, a_treeA, a_treeB, a_treeResult, a_constantValued, a_maximal, a_counterpart, a_boundNode, a_pending, a_pendingCount, a_nodeKind, a_nodeValue, a_nodeA, a_nodeB, a_nodeResult, a_nodeUses, a_outputNode, a_seen, a_order, a_walkStack⟩ := u
  obtain ⟨f_maxNodes', f_maxRules', f_phase', f_nCount', f_outCnt', f_apps', f_ruleCount', f_cex', f_curLive', f_orderN', a_alive', a_nKind', a_nVal', a_nA', a_nB', a_lv', a_nd', a_nv', a_outs', a_tKind', a_tVal', a_tA', a_tB', a_tN', a_preRel', a_preJ', a_preK', a_ruleUse', a_pend', a_pendN', a_tv', a_cv', a_mx', a_par', a_mp', a_res', a_bnd', a_order', a_stk', a_stSt'⟩ := v
  obtain ⟨e1, e2, e3, e4, e5, e6, e7, e8, h9, h10, h11, h12⟩ := hx
  obtain ⟨d1, d2, d3, d4, d5, d6, d7, d8, g9, g10, g11, g12⟩ := hy
  subst e1 e2 e3 e4 e5 e6 e7 e8 d1 d2 d3 d4 d5 d6 d7 d8
  have hmN := hok.2.1
  have hph := hok.2.2.2.2.2.1
  have hncs : ph = 0 → nc ≤ mN := fun h => by
    obtain ⟨_, _, _, _, q3, _⟩ := hok.2.2.2.2.2.2.2.2.2
    exact (q3 h).2.1
  unfold wpX_addNode wpY_addNode
  refine pk_eq ph 0 (fun hp => ?_) (fun hp => pk_eq ph 0 (fun h => absurd h hp) (fun _ => ⟨rfl, hI⟩))
  subst hp
  have hnc := hncs rfl
  refine pk_eq nc mN (fun hm => br_t rfl (pk_le mN nc (fun _ => ⟨rfl, hI⟩) (fun h => absurd h (by omega)))) (fun hm => ?_)
  have hno1 : ∀ {A B C : Prop}, B → (nI 0 = 0 → (nI mN ≤ nI nc → A) ∧ (¬ nI mN ≤ nI nc → B)) ∧ (¬ nI 0 = 0 → C) := fun b => br_t rfl (pk_le mN nc (fun h => absurd h (by omega)) (fun _ => b))
  rcases pk_ix v1 (n := 13) (by omega) with hp | hp | ⟨κ, hκ, rfl⟩
  · have h1 : v1 < 1 := Int32.lt_trans hp (by decide)
    exact br_t h1 (hno1 (br_t h1 ⟨rfl, hI⟩))
  · have h1 : ¬ v1 < 1 := fun h => absurd (Int32.lt_of_le_of_lt hp h) (by decide)
    have h12 : ¬ v1 ≤ 12 := fun h => absurd (Int32.le_trans hp h) (by decide)
    exact br_f h1 (br_f h12 (hno1 (br_f h1 (br_f h12 ⟨rfl, hI⟩))))
  · refine pk_lt κ 1 (fun h1 => hno1 (br_t (nI_lt (b := 1) h1 (by decide)) ⟨rfl, hI⟩)) (fun h1 => br_t (nI_le (b := 12) (by omega) (by decide)) ?_)
    have hY1 : ∀ {A B C : Prop}, A → (nI κ < 1 → B) ∧ (¬ nI κ < 1 → (nI κ ≤ 12 → A) ∧ (¬ nI κ ≤ 12 → C)) := fun a => br_f (nI_nlt (b := 1) h1 (by omega)) (br_t (nI_le (b := 12) (by omega) (by decide)) a)
    -- both sides set the node
    have hlt : nc < mN := by omega
    have hk12 : κ ≤ 12 := by omega
    have fin : ∀ (x : Int32) (a b : Option Nat), pr_by x → (κ = 12 → ∃ i, i < 4 ∧ x = nI i) → (κ ≤ 10 → x = 0) → (11 ≤ κ → a = none) → (9 ≤ κ → b = none) → (κ ≤ 10 → ∃ c, a = some c) → (κ ≤ 8 → ∃ c, b = some c) → (∀ c, a = some c ∨ b = some c → c < nc) →
        wY_addNode_121 (fun r' v' => r' = nI nc ∧ i_Rel (k + 4) ((nI mN), (nI mR), (nI rc), f_cex', (nI 0), (nI (nc + 1)), (nI oc), f_apps', a_preRelation, a_preVariable, a_preConstant, a_roomNeeded, a_useCount, a_treeSize, a_treeKind, a_treeValue, a_treeA, a_treeB, a_treeResult, a_constantValued, a_maximal, a_counterpart, a_boundNode, a_pending, a_pendingCount, (upd a_nodeKind nc (nI κ)), (upd a_nodeValue nc x), (upd a_nodeA nc (pr_oI a)), (upd a_nodeB nc (pr_oI b)), a_nodeResult, a_nodeUses, a_outputNode, a_seen, a_order, a_walkStack) v') (nI κ) (pr_oI a) (pr_oI b) x (nI mN) (nI mR) (nI 0) (nI nc) (nI oc) f_apps' (nI rc) f_cex' f_curLive' f_orderN' a_alive' a_nKind' a_nVal' a_nA' a_nB' a_lv' a_nd' a_nv' a_outs' a_tKind' a_tVal' a_tA' a_tB' a_tN' a_preRel' a_preJ' a_preK' a_ruleUse' a_pend' a_pendN' a_tv' a_cv' a_mx' a_par' a_mp' a_res' a_bnd' a_order' a_stk' a_stSt' := by
      intro x a b hv hv12 hv0 ha hb ha' hb' hc
      have hin : vp_in (nI nc) 64 := pk_in nc 64 (by omega)
      refine ⟨hin, ?_⟩
      rw [nI_clamp (by omega), pr_vb1]
      refine nm_e ⟨hin, nm_e ⟨hin, nm_e ⟨hin, nm_e ⟨hin, nm_e (nm_r (nI_1 _) ⟨rfl, ?_⟩)⟩⟩⟩⟩
      refine ⟨_, _, _, _, _, _, _, _, _, _, _, _, _, _, _, _, _, _, _, _, _, _, _, _, _, sp_node hok rfl hlt h1 hk12 hv hv12 hv0 ha hb ha' hb' hc, ⟨rfl, rfl, rfl, rfl, rfl, rfl, rfl, rfl, h9, h10, h11, gr_node h12⟩, ⟨rfl, rfl, rfl, rfl, rfl, rfl, rfl, rfl, g9, g10, g11, gr_node g12.1, fun n h0 hn => ?_, fun h => absurd h (by omega)⟩⟩
      by_cases e : n = nc
      · rw [e, pk_us, pr_st_s, if_neg (by omega)]
      · rw [pk_un e, pr_st_n e]
        exact g12.2.1 n h0 hn
    have hcl : nI nc + 1 = nI (nc + 1) := nI_1 nc
    have har := pr_ar_c κ
    refine pk_eq κ 12 (fun e12 => ?_) (fun n12 => ?_)
    · subst e12
      by_cases q0 : v2 < 0
      · exact br_t q0 (hno1 (hY1 (br_f (by decide) (br_t rfl (br_t q0 ⟨rfl, hI⟩)))))
      · obtain ⟨a, ha, rfl⟩ := nI_of q0
        refine br_f q0 (pk_lt a 4 (fun h4 => ?_) (fun h4 => hno1 (hY1 (br_f (by decide) (br_t rfl (br_f q0 (pk_le a 3 (fun h => absurd h (by omega)) (fun _ => ⟨rfl, hI⟩))))))))
        refine x_arity (κ := 12) (by decide) (br_t (by decide) (br_f (by decide) ?_))
        refine nm_r hcl (br_t rfl (x_setNode (by omega) ?_))
        refine hno1 (hY1 (br_f (by decide) (br_t rfl (br_f q0 (pk_le a 3 (fun _ => ?_) (fun h => absurd h (by omega)))))))
        have eb : nI a &&& 255 = nI a := pr_by_id ⟨a, by omega, rfl⟩
        rw [eb]
        exact fin (nI a) none none ⟨a, by omega, rfl⟩ (fun _ => ⟨a, h4, rfl⟩) (fun h => absurd h (by omega)) (fun _ => rfl) (fun _ => rfl) (fun h => absurd h (by omega)) (fun h => absurd h (by omega)) (fun c hc => by rcases hc with y | y <;> cases y)
    · by_cases e11 : κ = 11
      · subst e11
        refine x_arity (κ := 11) (by decide) (br_t (by decide) (br_f (by decide) ?_))
        refine nm_r hcl (br_t rfl (x_setNode (by omega) ?_))
        refine hno1 (hY1 (br_t rfl (nm_e ?_)))
        exact fin (v2 &&& 255) none none (pr_by_and _) (fun h => absurd h (by omega)) (fun h => absurd h (by omega)) (fun _ => rfl) (fun _ => rfl) (fun h => absurd h (by omega)) (fun h => absurd h (by omega)) (fun c hc => by rcases hc with y | y <;> cases y)
      · have hk10 : κ ≤ 10 := by omega
        have hY2 : ∀ {A B C : Prop}, C → (nI κ = 11 → A) ∧ (¬ nI κ = 11 → (nI κ = 12 → B) ∧ (¬ nI κ = 12 → C)) := fun c => pk_eq κ 11 (fun h => absurd h e11) (fun _ => pk_eq κ 12 (fun h => absurd h n12) (fun _ => c))
        refine x_arity (by omega) (pk_lt (pr_ar κ) 1 (fun h => absurd h (by omega)) (fun _ => ?_))
        rcases pk_ix v2 (n := nc) (by omega) with hq | hq | ⟨a, ha, rfl⟩
        · exact x_isAdded_f (nc := nc) (Or.inl hq) (br_t rfl (hno1 (hY1 (hY2 (br_t hq ⟨rfl, hI⟩)))))
        · have q0 : ¬ v2 < 0 := fun h => nI_pos (n := nc) (by omega) (Int32.lt_of_le_of_lt hq h)
          exact x_isAdded_f (nc := nc) (Or.inr hq) (br_t rfl (hno1 (hY1 (hY2 (br_f q0 (br_f (Int32.not_lt.mpr hq) ⟨rfl, hI⟩))))))
        · have a0 : ¬ nI a < 0 := nI_pos (by omega)
          have aL : nI a < nI nc := nI_lt ha (by omega)
          refine x_isAdded_t (nc := nc) ha (by omega) (br_f (by decide) ?_)
          by_cases hb : κ ≤ 8
          · have ha2 := pr_ar_2 h1 hb
            rw [ha2]
            refine br_t rfl ?_
            rcases pk_ix v3 (n := nc) (by omega) with hq | hq | ⟨b, hb', rfl⟩
            · exact x_isAdded_f (nc := nc) (Or.inl hq) (br_t rfl (hno1 (hY1 (hY2 (br_f a0 (br_t aL (y_isBin_t h1 hb (br_f (by decide) (br_t hq ⟨rfl, hI⟩)))))))))
            · have q0 : ¬ v3 < 0 := fun h => nI_pos (n := nc) (by omega) (Int32.lt_of_le_of_lt hq h)
              exact x_isAdded_f (nc := nc) (Or.inr hq) (br_t rfl (hno1 (hY1 (hY2 (br_f a0 (br_t aL (y_isBin_t h1 hb (br_f (by decide) (br_f q0 (br_f (Int32.not_lt.mpr hq) ⟨rfl, hI⟩))))))))))
            · refine x_isAdded_t (nc := nc) hb' (by omega) (br_f (by decide) ?_)
              refine nm_r hcl (br_f (by decide) (br_t rfl (x_setNode (by omega) ?_)))
              refine hno1 (hY1 (hY2 (br_f a0 (br_t aL (y_isBin_t h1 hb (br_f (by decide) (br_f (nI_pos (by omega)) (br_t (nI_lt hb' (by omega)) ?_))))))))
              exact fin 0 (some a) (some b) pr_by_0 (fun h => absurd h n12) (fun _ => rfl) (fun h => absurd h (by omega)) (fun h => absurd h (by omega)) (fun _ => ⟨a, rfl⟩) (fun _ => ⟨b, rfl⟩) (fun c hc => by
                rcases hc with y | y
                · cases y
                  exact ha
                · cases y
                  exact hb')
          · have ha1 := pr_ar_1 (κ := κ) (by omega)
            rw [ha1]
            refine br_f (by decide) ?_
            refine nm_r hcl (br_f (by decide) (br_f (by decide) (x_setNode (by omega) ?_)))
            refine hno1 (hY1 (hY2 (br_f a0 (br_t aL (y_isBin_f (by omega) (by omega) (br_t rfl ?_))))))
            exact fin 0 (some a) none pr_by_0 (fun h => absurd h n12) (fun _ => rfl) (fun h => absurd h (by omega)) (fun _ => rfl) (fun _ => ⟨a, rfl⟩) (fun h => absurd h hb) (fun c hc => by
              rcases hc with y | y
              · cases y
                exact ha
              · cases y)
theorem i_vc_clearDag {k : Nat} {u : SX} {v : SY} (I : i_Rel k u v) (hk : k + 4 ≤ 2050) : wpX_clearDag (fun u' => wpY_clearDag (fun v' => i_Rel (k + 4) u' v') v) u := by
  obtain ⟨mN, mR, rc, ph, nc, oc, cx, ap, P, R, rl, rj, rK, uc, D, ps, dc, dl, dj, dk, K, V, A, B, O, hok, hx, hy⟩ := I
  obtain ⟨f_maxNodes, f_maxRules, f_ruleCount, f_counterexample, f_optimized, f_nodeCount, f_outputCount, f_applications, a_preRelation, a_preVariable, a_preConstant, a_roomNeeded, a_useCount, a_treeSize, a_treeKind, a_treeValue, a_treeA, a_treeB, a_treeResult, a_constantValued, a_maximal, a_counterpart, a_boundNode, a_pending, a_pendingCount, a_nodeKind, a_nodeValue, a_nodeA, a_nodeB, a_nodeResult, a_nodeUses, a_outputNode, a_seen, a_order, a_walkStack⟩ := u
  obtain ⟨f_maxNodes', f_maxRules', f_phase', f_nCount', f_outCnt', f_apps', f_ruleCount', f_cex', f_curLive', f_orderN', a_alive', a_nKind', a_nVal', a_nA', a_nB', a_lv', a_nd', a_nv', a_outs', a_tKind', a_tVal', a_tA', a_tB', a_tN', a_preRel', a_preJ', a_preK', a_ruleUse', a_pend', a_pendN', a_tv', a_cv', a_mx', a_par', a_mp', a_res', a_bnd', a_order', a_stk', a_stSt'⟩ := v
  obtain ⟨e1, e2, e3, e4, e5, e6, e7, e8, h9, h10, h11, h12⟩ := hx
  obtain ⟨d1, d2, d3, d4, d5, d6, d7, d8, g9, g10, g11, g12⟩ := hy
  subst e1 e2 e3 e4 e5 e6 e7 e8 d1 d2 d3 d4 d5 d6 d7 d8
  obtain ⟨o1, o2, o3, o4, o5, o6, o7, o8, o9, o10⟩ := hok
  have hnT : ∀ lo n, ¬ pr_T lo (fun _ => 0) n := fun lo n h => h.2.2 rfl
  have lx : ∀ (post : SX → Prop) (d i : Nat) (us : Nat → Int32), (∀ us', (∀ r, r < 17 → us' r = 0) → post ((nI mN), (nI mR), (nI rc), f_cex', 0, 0, 0, 0, a_preRelation, a_preVariable, a_preConstant, a_roomNeeded, us', a_treeSize, a_treeKind, a_treeValue, a_treeA, a_treeB, a_treeResult, a_constantValued, a_maximal, a_counterpart, a_boundNode, a_pending, a_pendingCount, a_nodeKind, a_nodeValue, a_nodeA, a_nodeB, a_nodeResult, a_nodeUses, a_outputNode, a_seen, a_order, a_walkStack)) → i + d = 17 → (∀ r, r < i → us r = 0) → wX_clearDag_22 post (nI mN) (nI mR) (nI rc) f_cex' 0 0 0 0 (d + 1) (nI i) a_preRelation a_preVariable a_preConstant a_roomNeeded us a_treeSize a_treeKind a_treeValue a_treeA a_treeB a_treeResult a_constantValued a_maximal a_counterpart a_boundNode a_pending a_pendingCount a_nodeKind a_nodeValue a_nodeA a_nodeB a_nodeResult a_nodeUses a_outputNode a_seen a_order a_walkStack := by
    intro post d
    induction d with
    | zero =>
      intro i us h hi hu
      exact pk_le 17 i (fun _ => h us fun r hr => hu r (by omega)) (fun h => absurd h (by omega))
    | succ d ih =>
      intro i us h hi hu
      refine pk_le 17 i (fun h => absurd h (by omega)) (fun _ => ⟨pk_in i 17 (by omega), ?_⟩)
      rw [nI_clamp (by omega)]
      refine nm_e (nm_r (nI_1 _) (ih (i + 1) _ h (by omega) fun r hr => ?_))
      by_cases e : r = i
      · rw [e, pk_us]
      · rw [pk_un e]
        exact hu r (by omega)
  have ly : ∀ (post : SY → Prop) (al : Nat → Int32) (d i : Nat) (us : Nat → Int32), (∀ us', (∀ r, r < 16 → us' r = 0) → post ((nI mN), (nI mR), 0, 0, 0, 0, (nI rc), f_cex', f_curLive', f_orderN', al, a_nKind', a_nVal', a_nA', a_nB', a_lv', a_nd', a_nv', a_outs', a_tKind', a_tVal', a_tA', a_tB', a_tN', a_preRel', a_preJ', a_preK', us', a_pend', a_pendN', a_tv', a_cv', a_mx', a_par', a_mp', a_res', a_bnd', a_order', a_stk', a_stSt')) → i + d = 16 → (∀ r, r < i → us r = 0) → wY_clearDag_23 post (nI mN) (nI mR) (nI ph) (nI nc) (nI oc) f_apps' (nI rc) f_cex' f_curLive' f_orderN' (d + 1) (nI i) al a_nKind' a_nVal' a_nA' a_nB' a_lv' a_nd' a_nv' a_outs' a_tKind' a_tVal' a_tA' a_tB' a_tN' a_preRel' a_preJ' a_preK' us a_pend' a_pendN' a_tv' a_cv' a_mx' a_par' a_mp' a_res' a_bnd' a_order' a_stk' a_stSt' := by
    intro post al d
    induction d with
    | zero =>
      intro i us h hi hu
      exact pk_le 16 i (fun _ => h us fun r hr => hu r (by omega)) (fun h => absurd h (by omega))
    | succ d ih =>
      intro i us h hi hu
      refine pk_le 16 i (fun h => absurd h (by omega)) (fun _ => ⟨pk_in i 16 (by omega), ?_⟩)
      rw [nI_clamp (by omega)]
      refine nm_e (nm_r (nI_1 _) (ih (i + 1) _ h (by omega) fun r hr => ?_))
      by_cases e : r = i
      · rw [e, pk_us]
      · rw [pk_un e]
        exact hu r (by omega)
  have ly2 : ∀ (post : SY → Prop) (d i : Nat) (al : Nat → Int32), (∀ al' us', (∀ r, r < 64 → al' r = 0) → (∀ r, r < 16 → us' r = 0) → post ((nI mN), (nI mR), 0, 0, 0, 0, (nI rc), f_cex', f_curLive', f_orderN', al', a_nKind', a_nVal', a_nA', a_nB', a_lv', a_nd', a_nv', a_outs', a_tKind', a_tVal', a_tA', a_tB', a_tN', a_preRel', a_preJ', a_preK', us', a_pend', a_pendN', a_tv', a_cv', a_mx', a_par', a_mp', a_res', a_bnd', a_order', a_stk', a_stSt')) → i + d = 64 → (∀ r, r < i → al r = 0) → wY_clearDag_2 post (nI mN) (nI mR) (nI ph) (nI nc) (nI oc) f_apps' (nI rc) f_cex' f_curLive' f_orderN' (d + 1) (nI i) al a_nKind' a_nVal' a_nA' a_nB' a_lv' a_nd' a_nv' a_outs' a_tKind' a_tVal' a_tA' a_tB' a_tN' a_preRel' a_preJ' a_preK' a_ruleUse' a_pend' a_pendN' a_tv' a_cv' a_mx' a_par' a_mp' a_res' a_bnd' a_order' a_stk' a_stSt' := by
    intro post d
    induction d with
    | zero =>
      intro i al h hi hu
      exact pk_le 64 i (fun _ => ⟨17, ly post al 16 0 _ (fun us' hu' => h al us' (fun r hr => hu r (by omega)) hu') (by omega) (fun r hr => absurd hr (by omega))⟩) (fun h => absurd h (by omega))
    | succ d ih =>
      intro i al h hi hu
      refine pk_le 64 i (fun h => absurd h (by omega)) (fun _ => ⟨pk_in i 64 (by omega), ?_⟩)
      rw [nI_clamp (by omega), pr_vb0]
      refine nm_e (nm_r (nI_1 _) (ih (i + 1) _ h (by omega) fun r hr => ?_))
      by_cases e : r = i
      · rw [e, pk_us]
      · rw [pk_un e]
        exact hu r (by omega)
  refine ⟨18, lx _ 17 0 _ (fun us' hu' => ?_) (by omega) (fun r hr => absurd hr (by omega))⟩
  refine ⟨65, ly2 _ 64 0 _ (fun al' us'' hal hu'' => ?_) (by omega) (fun r hr => absurd hr (by omega))⟩
  refine ⟨mN, mR, rc, 0, 0, 0, _, 0, P, R, rl, rj, rK, fun _ => 0, D, ps, dc, dl, dj, dk, fun _ => 0, fun _ => 0, fun _ => none, fun _ => none, fun _ => 0, ⟨o1, o2, o3, o4, o5, by omega, by omega, o8, o9, fun n => n, fun n => n, fun n hn => absurd hn (hnT 0 n), fun k hk => absurd hk (by omega), fun _ => ⟨rfl, by omega, fun n _ => ⟨fun _ => Nat.zero_le n, fun _ => rfl⟩⟩, fun h => absurd h (by omega)⟩, ⟨rfl, rfl, rfl, rfl, rfl, rfl, rfl, rfl, fun r hr => ⟨(h9 r hr).1, (h9 r hr).2.1, hu' r (by omega)⟩, h10, h11, fun n hn => absurd hn (hnT 0 n), fun k hk => absurd hk (by omega), fun h => absurd h (by omega)⟩, ⟨rfl, rfl, rfl, rfl, rfl, rfl, rfl, rfl, fun r hr => ⟨(g9 r hr).1, (g9 r hr).2.1, (g9 r hr).2.2.1, hu'' r (by omega)⟩, g10, g11, ⟨fun n hn => absurd hn (hnT 0 n), fun k hk => absurd hk (by omega), fun h => absurd h (by omega)⟩, fun n _ hn => hal n (by omega), fun h => absurd h (by omega)⟩⟩
section VNat
variable {f_maxNodes f_maxRules f_ruleCount f_counterexample f_optimized f_nodeCount f_outputCount f_applications : Int32} {a_preRelation a_preVariable a_preConstant a_roomNeeded a_useCount a_treeSize a_treeKind a_treeValue a_treeA a_treeB a_treeResult a_constantValued a_maximal a_counterpart a_boundNode a_pending a_pendingCount a_nodeKind a_nodeValue a_nodeA a_nodeB a_nodeResult a_nodeUses a_outputNode a_seen a_order a_walkStack : Nat → Int32}
variable {f_maxNodes' f_maxRules' f_phase' f_nCount' f_outCnt' f_apps' f_ruleCount' f_cex' f_curLive' f_orderN' : Int32} {a_alive' a_nKind' a_nVal' a_nA' a_nB' a_lv' a_nd' a_nv' a_outs' a_tKind' a_tVal' a_tA' a_tB' a_tN' a_preRel' a_preJ' a_preK' a_ruleUse' a_pend' a_pendN' a_tv' a_cv' a_mx' a_par' a_mp' a_res' a_bnd' a_order' a_stk' a_stSt' : Nat → Int32}
variable {K : Nat → Nat} {V : Nat → Int32} {A B : Nat → Option Nat} {rk : Nat → Nat}
theorem xy_nodeAt (hG : pr_gw 0 K V A B rk) (hg : gr_at 0 K V A B a_nodeKind a_nodeValue a_nodeA a_nodeB) (hg' : gr_at 0 K V A B a_nKind' a_nVal' a_nA' a_nB') {x2 : Int32} {dp : Nat} (hdp : dp ≤ 8) :
    ∀ d i n, i + d = dp → pr_T 0 K n → ∃ r : Int32, (∀ post : Int32 → Prop, post r → wX_nodeAt_31 post x2 (nI dp) f_maxNodes f_maxRules f_ruleCount f_counterexample f_optimized f_nodeCount f_outputCount f_applications a_preRelation a_preVariable a_preConstant a_roomNeeded a_useCount a_treeSize a_treeKind a_treeValue a_treeA a_treeB a_treeResult a_constantValued a_maximal a_counterpart a_boundNode a_pending a_pendingCount a_nodeKind a_nodeValue a_nodeA a_nodeB a_nodeResult a_nodeUses a_outputNode a_seen a_order a_walkStack (d + 1) (nI n) (nI i)) ∧ (∀ post : Int32 → Prop, post r → wY_nodeAt_49 post x2 (nI dp) f_maxNodes' f_maxRules' f_phase' f_nCount' f_outCnt' f_apps' f_ruleCount' f_cex' f_curLive' f_orderN' a_alive' a_nKind' a_nVal' a_nA' a_nB' a_lv' a_nd' a_nv' a_outs' a_tKind' a_tVal' a_tA' a_tB' a_tN' a_preRel' a_preJ' a_preK' a_ruleUse' a_pend' a_pendN' a_tv' a_cv' a_mx' a_par' a_mp' a_res' a_bnd' a_order' a_stk' a_stSt' (d + 1) (nI n) (nI i)) := by
  intro d
  induction d with
  | zero =>
    intro i n hi tn
    have tn2 := tn.2.1
    have hin : vp_in (nI n) 64 := pk_in n 64 (by omega)
    have hcl : (nI n).toNatClampNeg = n := nI_clamp (by omega)
    obtain ⟨k1, k2, k3, k4⟩ := hg n tn
    obtain ⟨l1, l2, l3, l4⟩ := hg' n tn
    obtain ⟨q1, q2, q3, q4, q5, q6, q7, q8, q9, q10⟩ := hG n tn
    refine ⟨nI (K n) * 256 + V n, fun post h => ?_, fun post h => ?_⟩
    · refine pk_le dp i (fun _ => ⟨hin, hin, ?_⟩) (fun h => absurd h (by omega))
      rw [hcl, k1, k2]
      exact h
    · refine pk_le dp i (fun _ => ⟨hin, ?_⟩) (fun h => absurd h (by omega))
      rw [hcl]
      have h168 : wY_nodeAt_168 post (nI n) (nI (K n)) f_maxNodes' f_maxRules' f_phase' f_nCount' f_outCnt' f_apps' f_ruleCount' f_cex' f_curLive' f_orderN' a_alive' a_nKind' a_nVal' a_nA' a_nB' a_lv' a_nd' a_nv' a_outs' a_tKind' a_tVal' a_tA' a_tB' a_tN' a_preRel' a_preJ' a_preK' a_ruleUse' a_pend' a_pendN' a_tv' a_cv' a_mx' a_par' a_mp' a_res' a_bnd' a_order' a_stk' a_stSt' := by
        refine ⟨hin, ?_⟩
        rw [hcl, l2]
        exact h
      refine nm_r l1 (pk_eq (K n) 11 (fun _ => h168) (fun n11 => pk_eq (K n) 12 (fun _ => h168) (fun n12 => ?_)))
      rw [q5 (by omega), Int32.add_zero] at h
      exact h
  | succ d ih =>
    intro i n hi tn
    have tn2 := tn.2.1
    have hin : vp_in (nI n) 64 := pk_in n 64 (by omega)
    have hcl : (nI n).toNatClampNeg = n := nI_clamp (by omega)
    obtain ⟨k1, k2, k3, k4⟩ := hg n tn
    obtain ⟨l1, l2, l3, l4⟩ := hg' n tn
    obtain ⟨q1, q2, q3, q4, q5, q6, q7, q8, q9, q10⟩ := hG n tn
    have hK1 : 1 ≤ K n := Nat.pos_of_ne_zero tn.2.2
    by_cases hbit : (((x2.toUInt32 >>> ((nI i).toUInt32 &&& Int32.toUInt32 31)).toInt32) &&& 1) = 0
    · by_cases hu : K n ≤ 10
      · obtain ⟨c, hc⟩ := q8 hu
        have tc := (q10 c (Or.inl hc)).1
        have tc2 := tc.2.1
        obtain ⟨r, hX, hY⟩ := ih (i + 1) c (by omega) tc
        refine ⟨r, fun post h => ?_, fun post h => ?_⟩
        · refine pk_le dp i (fun h => absurd h (by omega)) (fun _ => br_t hbit ⟨hin, ?_⟩)
          rw [hcl, k3, hc]
          exact br_f (pr_ne1 (by omega)) (nm_r (nI_1 _) (hX post h))
        · refine pk_le dp i (fun h => absurd h (by omega)) (fun _ => ⟨hin, ?_⟩)
          rw [hcl]
          have h93 : wY_nodeAt_93 post (wY_nodeAt_49 post x2 (nI dp) f_maxNodes' f_maxRules' f_phase' f_nCount' f_outCnt' f_apps' f_ruleCount' f_cex' f_curLive' f_orderN' a_alive' a_nKind' a_nVal' a_nA' a_nB' a_lv' a_nd' a_nv' a_outs' a_tKind' a_tVal' a_tA' a_tB' a_tN' a_preRel' a_preJ' a_preK' a_ruleUse' a_pend' a_pendN' a_tv' a_cv' a_mx' a_par' a_mp' a_res' a_bnd' a_order' a_stk' a_stSt' (d + 1)) x2 (nI dp) (nI n) (nI i) f_maxNodes' f_maxRules' f_phase' f_nCount' f_outCnt' f_apps' f_ruleCount' f_cex' f_curLive' f_orderN' a_alive' a_nKind' a_nVal' a_nA' a_nB' a_lv' a_nd' a_nv' a_outs' a_tKind' a_tVal' a_tA' a_tB' a_tN' a_preRel' a_preJ' a_preK' a_ruleUse' a_pend' a_pendN' a_tv' a_cv' a_mx' a_par' a_mp' a_res' a_bnd' a_order' a_stk' a_stSt' := by
            refine ⟨hin, ?_⟩
            rw [hcl]
            refine nm_r l3 ?_
            rw [hc]
            exact br_f (nI_pos (by omega)) (br_t (nI_lt (b := 32) (by omega) (by decide)) (nm_r (nI_1 _) (hY post h)))
          refine nm_r l1 (br_t hbit ?_)
          by_cases hb : K n ≤ 8
          · exact y_isBin_t hK1 hb (br_f (by decide) h93)
          · exact y_isBin_f (by omega) (by omega) (br_t rfl (y_isUn_t (by omega) (br_f (by decide) h93)))
      · refine ⟨-1, fun post h => ?_, fun post h => ?_⟩
        · refine pk_le dp i (fun h => absurd h (by omega)) (fun _ => br_t hbit ⟨hin, ?_⟩)
          rw [hcl, k3, q6 (by omega)]
          exact br_t rfl h
        · refine pk_le dp i (fun h => absurd h (by omega)) (fun _ => ⟨hin, ?_⟩)
          rw [hcl]
          exact nm_r l1 (br_t hbit (y_isBin_f (by omega) (by omega) (br_t rfl (y_isUn_f (by omega) (by omega) (br_t rfl h)))))
    · by_cases hb : K n ≤ 8
      · obtain ⟨c, hc⟩ := q9 hb
        have tc := (q10 c (Or.inr hc)).1
        have tc2 := tc.2.1
        obtain ⟨r, hX, hY⟩ := ih (i + 1) c (by omega) tc
        refine ⟨r, fun post h => ?_, fun post h => ?_⟩
        · refine pk_le dp i (fun h => absurd h (by omega)) (fun _ => br_f hbit ⟨hin, ?_⟩)
          rw [hcl, k4, hc]
          exact br_f (pr_ne1 (by omega)) (nm_r (nI_1 _) (hX post h))
        · refine pk_le dp i (fun h => absurd h (by omega)) (fun _ => ⟨hin, ?_⟩)
          rw [hcl]
          refine nm_r l1 (br_f hbit (y_isBin_t hK1 hb (br_f (by decide) ⟨hin, ?_⟩)))
          refine nm_r l4 ?_
          rw [hc]
          exact br_f (nI_pos (by omega)) (br_t (nI_lt (b := 32) (by omega) (by decide)) (nm_r (nI_1 _) (hY post h)))
      · refine ⟨-1, fun post h => ?_, fun post h => ?_⟩
        · refine pk_le dp i (fun h => absurd h (by omega)) (fun _ => br_f hbit ⟨hin, ?_⟩)
          rw [hcl, k4, q7 (by omega)]
          exact br_t rfl h
        · refine pk_le dp i (fun h => absurd h (by omega)) (fun _ => ⟨hin, ?_⟩)
          rw [hcl]
          exact nm_r l1 (br_f hbit (y_isBin_f (by omega) (by omega) (br_t rfl h)))
end VNat
theorem i_vc_nodeAt {k : Nat} {u : SX} {v : SY} (I : i_Rel k u v) (hk : k + 4 ≤ 2050) (v1 : Int32) (v2 : Int32) (v3 : Int32) : wpX_nodeAt (fun r => wpY_nodeAt (fun r' => r' = r ∧ i_Rel (k + 4) u v) v v1 v2 v3) u v1 v2 v3 := by
  obtain ⟨mN, mR, rc, ph, nc, oc, cx, ap, P, R, rl, rj, rK, uc, D, ps, dc, dl, dj, dk, K, V, A, B, O, hok, hx, hy⟩ := I
  have hI : i_Rel (k + 4) u v := ⟨mN, mR, rc, ph, nc, oc, cx, ap, P, R, rl, rj, rK, uc, D, ps, dc, dl, dj, dk, K, V, A, B, O, hok, hx, hy⟩
  obtain ⟨f_maxNodes, f_maxRules, f_ruleCount, f_counterexample, f_optimized, f_nodeCount, f_outputCount, f_applications, a_preRelation, a_preVariable, a_preConstant, a_roomNeeded, a_useCount, a_treeSize, a_treeKind, a_treeValue, a_treeA, a_treeB, a_treeResult, a_constantValued, a_maximal, a_counterpart, a_boundNode, a_pending, a_pendingCount, a_nodeKind, a_nodeValue, a_nodeA, a_nodeB, a_nodeResult, a_nodeUses, a_outputNode, a_seen, a_order, a_walkStack⟩ := u
  obtain ⟨f_maxNodes', f_maxRules', f_phase', f_nCount', f_outCnt', f_apps', f_ruleCount', f_cex', f_curLive', f_orderN', a_alive', a_nKind', a_nVal', a_nA', a_nB', a_lv', a_nd', a_nv', a_outs', a_tKind', a_tVal', a_tA', a_tB', a_tN', a_preRel', a_preJ', a_preK', a_ruleUse', a_pend', a_pendN', a_tv', a_cv', a_mx', a_par', a_mp', a_res', a_bnd', a_order', a_stk', a_stSt'⟩ := v
  obtain ⟨e1, e2, e3, e4, e5, e6, e7, e8, h9, h10, h11, h12⟩ := hx
  obtain ⟨d1, d2, d3, d4, d5, d6, d7, d8, g9, g10, g11, g12⟩ := hy
  subst e7 d5
  obtain ⟨o1, o2, o3, o4, o5, o6, o7, o8, o9, rk, rk2, q1, q2, q3, q4⟩ := hok
  by_cases h0 : v1 < 0
  · exact br_t h0 (br_t rfl (br_t h0 ⟨rfl, hI⟩))
  · obtain ⟨n, hn, rfl⟩ := nI_of h0
    refine br_f h0 (pk_le oc n (fun h => br_t rfl (br_f h0 (pk_le oc n (fun _ => ⟨rfl, hI⟩) (fun h => absurd h (by omega))))) (fun hno => br_f (by decide) ?_))
    have hY1 : ∀ {A B C : Prop}, C → (nI n < 0 → A) ∧ (¬ nI n < 0 → (nI oc ≤ nI n → B) ∧ (¬ nI oc ≤ nI n → C)) := fun c => br_f h0 (pk_le oc n (fun h => absurd h (by omega)) (fun _ => c))
    by_cases p0 : v3 < 0
    · exact br_t p0 (hY1 (br_t p0 ⟨rfl, hI⟩))
    · obtain ⟨dp, hdp, rfl⟩ := nI_of p0
      refine br_f p0 (pk_le dp 8 (fun hd => ⟨pk_in n 8 (by omega), ?_⟩) (fun hd => hY1 (br_f p0 (pk_le dp 8 (fun h => absurd h (by omega)) (fun _ => ⟨rfl, hI⟩)))))
      have to := q2 n hno
      have to2 := to.2.1
      rw [nI_clamp (by omega)]
      obtain ⟨r, hX, hY⟩ := xy_nodeAt (x2 := v2) (dp := dp) q1 h12.1 g12.1.1 hd dp 0 (O n) (by omega) to
      refine nm_r (h12.2.1 n hno) ⟨dp + 1, hX _ ?_⟩
      refine hY1 (br_f p0 (pk_le dp 8 (fun _ => ⟨pk_in n 8 (by omega), ?_⟩) (fun h => absurd h (by omega))))
      rw [nI_clamp (by omega)]
      exact nm_r (g12.1.2.1 n hno) (br_f (nI_pos (by omega)) (br_t (nI_lt (b := 32) (by omega) (by decide)) ⟨dp + 1, hY _ ⟨rfl, hI⟩⟩))
