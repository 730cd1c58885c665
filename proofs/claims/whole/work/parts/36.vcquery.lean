/-! countOp, stat, eval -/
theorem pr_sm_1 {K : Nat → Nat} : ∀ L : List Nat, pr_sm (y_wt K 0) L = L.length
  | [] => rfl
  | x :: L => by
    show 1 + pr_sm (y_wt K 0) L = L.length + 1
    rw [pr_sm_1 L]
    omega
theorem pr_sm_w {K : Nat → Nat} : ∀ L : List Nat, pr_sm (y_wt K 1) L = pr_sm (fun s => pr_w (K s)) L
  | [] => rfl
  | x :: L => by
    show pr_w (K x) + pr_sm (y_wt K 1) L = pr_w (K x) + pr_sm (fun s => pr_w (K s)) L
    rw [pr_sm_w L]
section VQx
variable {f_maxNodes f_maxRules f_ruleCount f_counterexample f_optimized f_nodeCount f_outputCount f_applications : Int32} {a_preRelation a_preVariable a_preConstant a_roomNeeded a_useCount a_treeSize a_treeKind a_treeValue a_treeA a_treeB a_treeResult a_constantValued a_maximal a_counterpart a_boundNode a_pending a_pendingCount a_nodeKind a_nodeValue a_nodeA a_nodeB a_nodeResult a_nodeUses a_outputNode a_seen a_order a_walkStack : Nat → Int32}
variable {mN : Nat} {mR : Nat} {rc : Nat} {ph : Nat} {nc : Nat} {oc : Nat} {cx : Int32} {ap : Int32} {P : Nat → pr_PT} {R : Nat → pr_PT} {rl : Nat → Nat} {rj : Nat → Nat} {rK : Nat → Nat} {uc : Nat → Int32} {D : Nat → pr_PT} {ps : Nat → Nat → Nat} {dc : Nat → Nat} {dl : Nat} {dj : Nat} {dk : Nat} {K : Nat → Nat} {V : Nat → Int32} {A : Nat → Option Nat} {B : Nat → Option Nat} {O : Nat → Nat}
theorem rx_live {u : SX} {post : Int32 → SX → Prop} (hok : sp_ok mN mR rc ph nc oc cx ap P R rl rj rK uc D ps dc dl dj dk K V A B O) (hx : rx mN mR rc ph nc oc cx ap P R rl rj rK uc D ps dc dl dj dk K V A B O u) (h : ∀ u', rx mN mR rc ph nc oc cx ap P R rl rj rK uc D ps dc dl dj dk K V A B O u' → post (nI (pr_lv A B O 0 oc).length) u') : wpX_listLive post u 0 := by
  obtain ⟨f_maxNodes, f_maxRules, f_ruleCount, f_counterexample, f_optimized, f_nodeCount, f_outputCount, f_applications, a_preRelation, a_preVariable, a_preConstant, a_roomNeeded, a_useCount, a_treeSize, a_treeKind, a_treeValue, a_treeA, a_treeB, a_treeResult, a_constantValued, a_maximal, a_counterpart, a_boundNode, a_pending, a_pendingCount, a_nodeKind, a_nodeValue, a_nodeA, a_nodeB, a_nodeResult, a_nodeUses, a_outputNode, a_seen, a_order, a_walkStack⟩ := u
  obtain ⟨e1, e2, e3, e4, e5, e6, e7, e8, h9, h10, h11, h12⟩ := hx
  subst e1 e2 e3 e4 e5 e6 e7 e8
  obtain ⟨o1, o2, o3, o4, o5, o6, o7, o8, o9, rk, rk2, q1, q2, q3, q4⟩ := hok
  exact x_listLive (lo := 0) (g := 0) (O := O) (by omega) q1 h12.1 (by omega) o7 (gr_0 h12 q2) (fun se' od' st' _ _ => h _ ⟨rfl, rfl, rfl, rfl, rfl, rfl, rfl, rfl, h9, h10, h11, h12⟩)
theorem rx_cost {u : SX} {post : Int32 → SX → Prop} {g : Nat} (hg : g < 2) (hg1 : g = 1 → ph = 1) (hok : sp_ok mN mR rc ph nc oc cx ap P R rl rj rK uc D ps dc dl dj dk K V A B O) (hx : rx mN mR rc ph nc oc cx ap P R rl rj rK uc D ps dc dl dj dk K V A B O u) (h : ∀ u', rx mN mR rc ph nc oc cx ap P R rl rj rK uc D ps dc dl dj dk K V A B O u' → post (nI (pr_sm (fun s => pr_w (K s)) (pr_lv A B O (g * 4) oc))) u') : wpX_liveCost post u (nI g) := by
  obtain ⟨f_maxNodes, f_maxRules, f_ruleCount, f_counterexample, f_optimized, f_nodeCount, f_outputCount, f_applications, a_preRelation, a_preVariable, a_preConstant, a_roomNeeded, a_useCount, a_treeSize, a_treeKind, a_treeValue, a_treeA, a_treeB, a_treeResult, a_constantValued, a_maximal, a_counterpart, a_boundNode, a_pending, a_pendingCount, a_nodeKind, a_nodeValue, a_nodeA, a_nodeB, a_nodeResult, a_nodeUses, a_outputNode, a_seen, a_order, a_walkStack⟩ := u
  obtain ⟨e1, e2, e3, e4, e5, e6, e7, e8, h9, h10, h11, h12⟩ := hx
  subst e1 e2 e3 e4 e5 e6 e7 e8
  obtain ⟨o1, o2, o3, o4, o5, o6, o7, o8, o9, rk, rk2, q1, q2, q3, q4⟩ := hok
  have : g = 0 ∨ g = 1 := by omega
  rcases this with e | e
  · subst e
    exact x_liveCost (g := 0) (O := O) q1 h12.1 (by omega) o7 (gr_0 h12 q2) rfl (fun se' od' st' => h _ ⟨rfl, rfl, rfl, rfl, rfl, rfl, rfl, rfl, h9, h10, h11, h12⟩)
  · subst e
    have hp := hg1 rfl
    obtain ⟨w1, w2, w3⟩ := q4 hp
    exact x_liveCost (g := 1) (O := O) w1 (h12.2.2 hp).1 (by omega) o7 (gr_1 h12 hp w2) rfl (fun se' od' st' => h _ ⟨rfl, rfl, rfl, rfl, rfl, rfl, rfl, rfl, h9, h10, h11, h12⟩)
end VQx
section VQy
variable {f_maxNodes f_maxRules f_phase f_nCount f_outCnt f_apps f_ruleCount f_cex f_curLive f_orderN : Int32} {a_alive a_nKind a_nVal a_nA a_nB a_lv a_nd a_nv a_outs a_tKind a_tVal a_tA a_tB a_tN a_preRel a_preJ a_preK a_ruleUse a_pend a_pendN a_tv a_cv a_mx a_par a_mp a_res a_bnd a_order a_stk a_stSt : Nat → Int32}
variable {mN : Nat} {mR : Nat} {rc : Nat} {ph : Nat} {nc : Nat} {oc : Nat} {cx : Int32} {ap : Int32} {P : Nat → pr_PT} {R : Nat → pr_PT} {rl : Nat → Nat} {rj : Nat → Nat} {rK : Nat → Nat} {uc : Nat → Int32} {D : Nat → pr_PT} {ps : Nat → Nat → Nat} {dc : Nat → Nat} {dl : Nat} {dj : Nat} {dk : Nat} {K : Nat → Nat} {V : Nat → Int32} {A : Nat → Option Nat} {B : Nat → Option Nat} {O : Nat → Nat}
theorem ry_sum {u : SY} {post : Int32 → SY → Prop} {g cost : Nat} (hg : g < 2) (hc : cost < 2) (hg1 : g = 1 → ph = 1) (hok : sp_ok mN mR rc ph nc oc cx ap P R rl rj rK uc D ps dc dl dj dk K V A B O) (hx : ry mN mR rc ph nc oc cx ap P R rl rj rK uc D ps dc dl dj dk K V A B O u) (h : ∀ u', ry mN mR rc ph nc oc cx ap P R rl rj rK uc D ps dc dl dj dk K V A B O u' → post (nI (pr_sm (y_wt K cost) (pr_lv A B O (g * 4) oc))) u') : wpY_liveSum post u (nI (g * 32)) (nI cost) := by
  obtain ⟨f_maxNodes, f_maxRules, f_phase, f_nCount, f_outCnt, f_apps, f_ruleCount, f_cex, f_curLive, f_orderN, a_alive, a_nKind, a_nVal, a_nA, a_nB, a_lv, a_nd, a_nv, a_outs, a_tKind, a_tVal, a_tA, a_tB, a_tN, a_preRel, a_preJ, a_preK, a_ruleUse, a_pend, a_pendN, a_tv, a_cv, a_mx, a_par, a_mp, a_res, a_bnd, a_order, a_stk, a_stSt⟩ := u
  obtain ⟨e1, e2, e3, e4, e5, e6, e7, e8, h9, h10, h11, h12⟩ := hx
  subst e1 e2 e3 e4 e5 e6 e7 e8
  obtain ⟨o1, o2, o3, o4, o5, o6, o7, o8, o9, rk, rk2, q1, q2, q3, q4⟩ := hok
  have : g = 0 ∨ g = 1 := by omega
  rcases this with e | e
  · subst e
    exact y_liveSum (g := 0) (O := O) hc (by omega) q1 h12.1.1 h12.2.1 o7 (gr_0 h12.1 q2) rfl (fun lv' _ => h _ ⟨rfl, rfl, rfl, rfl, rfl, rfl, rfl, rfl, h9, h10, h11, h12⟩)
  · subst e
    have hp := hg1 rfl
    obtain ⟨w1, w2, w3⟩ := q4 hp
    exact y_liveSum (g := 1) (O := O) hc (by omega) w1 (h12.1.2.2 hp).1 (h12.2.2 hp) o7 (gr_1 h12.1 hp w2) rfl (fun lv' _ => h _ ⟨rfl, rfl, rfl, rfl, rfl, rfl, rfl, rfl, h9, h10, h11, h12⟩)
end VQy
theorem i_vc_countOp {k : Nat} {u : SX} {v : SY} (I : i_Rel k u v) (hk : k + 4 ≤ 2050) (v1 : Int32) : wpX_countOp (fun r u' => wpY_countOp (fun r' v' => r' = r ∧ i_Rel (k + 4) u' v') v v1) u v1 := by
  obtain ⟨mN, mR, rc, ph, nc, oc, cx, ap, P, R, rl, rj, rK, uc, D, ps, dc, dl, dj, dk, K, V, A, B, O, hok, hx, hy⟩ := I
  have hI : i_Rel (k + 4) u v := ⟨mN, mR, rc, ph, nc, oc, cx, ap, P, R, rl, rj, rK, uc, D, ps, dc, dl, dj, dk, K, V, A, B, O, hok, hx, hy⟩
  obtain ⟨f_maxNodes, f_maxRules, f_ruleCount, f_counterexample, f_optimized, f_nodeCount, f_outputCount, f_applications, a_preRelation, a_preVariable, a_preConstant, a_roomNeeded, a_useCount, a_treeSize, a_treeKind, a_treeValue, a_treeA, a_treeB, a_treeResult, a_constantValued, a_maximal, a_counterpart, a_boundNode, a_pending, a_pendingCount, a_nodeKind, a_nodeValue, a_nodeA, a_nodeB, a_nodeResult, a_nodeUses, a_outputNode, a_seen, a_order, a_walkStack⟩ := u
  obtain ⟨f_maxNodes', f_maxRules', f_phase', f_nCount', f_outCnt', f_apps', f_ruleCount', f_cex', f_curLive', f_orderN', a_alive', a_nKind', a_nVal', a_nA', a_nB', a_lv', a_nd', a_nv', a_outs', a_tKind', a_tVal', a_tA', a_tB', a_tN', a_preRel', a_preJ', a_preK', a_ruleUse', a_pend', a_pendN', a_tv', a_cv', a_mx', a_par', a_mp', a_res', a_bnd', a_order', a_stk', a_stSt'⟩ := v
  rcases pk_ix v1 (n := 13) (by omega) with hp | hp | ⟨κ, hκ, rfl⟩
  · have h1 : v1 < 1 := Int32.lt_trans hp (by decide)
    exact br_t h1 (br_t h1 ⟨rfl, hI⟩)
  · have h1 : ¬ v1 < 1 := fun h => absurd (Int32.lt_of_le_of_lt hp h) (by decide)
    have h12 : ¬ v1 ≤ 12 := fun h => absurd (Int32.le_trans hp h) (by decide)
    exact br_f h1 (br_f h12 (br_f h1 (br_f h12 ⟨rfl, hI⟩)))
  · unfold wpX_countOp wpY_countOp
    refine pk_lt κ 1 (fun h1 => br_t (nI_lt (b := 1) h1 (by decide)) ⟨rfl, hI⟩) (fun h1 => br_t (nI_le (b := 12) (by omega) (by decide)) ?_)
    obtain ⟨e1, e2, e3, e4, e5, e6, e7, e8, h9, h10, h11, h12⟩ := hx
    obtain ⟨d1, d2, d3, d4, d5, d6, d7, d8, g9, g10, g11, g12⟩ := hy
    subst e1 e2 e3 e4 e5 e6 e7 e8 d1 d2 d3 d4 d5 d6 d7 d8
    have hok' := hok
    obtain ⟨o1, o2, o3, o4, o5, o6, o7, o8, o9, rk, rk2, q1, q2, q3, q4⟩ := hok
    have hlk := pr_lv_ok (O := O) (ob := 0) (pr_gw_T q1) (pr_gw_r q1) oc (fun k hk => by rw [Nat.zero_add]; exact q2 k hk)
    have hlen := pr_len hlk.1 (fun x hx => ⟨(hlk.2.2.2 x hx).1.1, (hlk.2.2.2 x hx).1.2.1⟩)
    have hrs := pr_rs_list (w := fun s => if K s = κ then 1 else 0) (lo := 0) (n := 32) hlk.1 (fun x hx => ⟨(hlk.2.2.2 x hx).1.1, (hlk.2.2.2 x hx).1.2.1⟩)
    refine x_listLive (lo := 0) (g := 0) (O := O) (by omega) q1 h12.1 (by omega) o7 (gr_0 h12 q2) (fun se' od' st' _ hls => ⟨(pr_lv A B O (0 * 4) oc).length + 1, ?_⟩)
    refine x_countOp24 (lo := 0) (L := pr_lv A B O (0 * 4) oc) (by omega) (by omega) q1 h12.1 (fun x hx => (hlk.2.2.2 x hx).1) hlen hls ?_ _ 0 (Nat.zero_add _)
    refine br_f (nI_nlt (b := 1) h1 (by omega)) (br_t (nI_le (b := 12) (by omega) (by decide)) ?_)
    refine y_liveMark (g := 0) (O := O) (L := pr_lv A B O 0 oc) (by omega) q1 g12.1.1 g12.2.1 o7 (gr_0 g12.1 q2) rfl (fun lv' hlv => ⟨33, ?_⟩)
    refine y_countOp22 (by omega) q1 g12.1.1 g12.2.1 (fun x hx => (hlk.2.2.2 x hx).1) (fun c a b => hlv c (by omega) (by omega)) ?_ 32 0 (by omega)
    rw [hrs]
    exact ⟨rfl, ⟨_, _, _, _, _, _, _, _, _, _, _, _, _, _, _, _, _, _, _, _, _, _, _, _, _, hok', ⟨rfl, rfl, rfl, rfl, rfl, rfl, rfl, rfl, h9, h10, h11, h12⟩, ⟨rfl, rfl, rfl, rfl, rfl, rfl, rfl, rfl, g9, g10, g11, g12⟩⟩⟩
theorem i_vc_stat {k : Nat} {u : SX} {v : SY} (I : i_Rel k u v) (hk : k + 4 ≤ 2050) (v1 : Int32) : wpX_stat (fun r u' => wpY_stat (fun r' v' => r' = r ∧ i_Rel (k + 4) u' v') v v1) u v1 := by
  obtain ⟨mN, mR, rc, ph, nc, oc, cx, ap, P, R, rl, rj, rK, uc, D, ps, dc, dl, dj, dk, K, V, A, B, O, hok, hx, hy⟩ := I
  have hI : i_Rel (k + 4) u v := ⟨mN, mR, rc, ph, nc, oc, cx, ap, P, R, rl, rj, rK, uc, D, ps, dc, dl, dj, dk, K, V, A, B, O, hok, hx, hy⟩
  have hph := hok.2.2.2.2.2.1
  have hlive : ∀ post : Int32 → SX → Prop, (∀ u', rx mN mR rc ph nc oc cx ap P R rl rj rK uc D ps dc dl dj dk K V A B O u' → post (nI (pr_lv A B O 0 oc).length) u') → wpX_listLive post u 0 := fun post h => rx_live hok hx h
  have hcost : ∀ (g : Nat) (post : Int32 → SX → Prop), g < 2 → (g = 1 → ph = 1) → (∀ u', rx mN mR rc ph nc oc cx ap P R rl rj rK uc D ps dc dl dj dk K V A B O u' → post (nI (pr_sm (fun s => pr_w (K s)) (pr_lv A B O (g * 4) oc))) u') → wpX_liveCost post u (nI g) := fun g post h1 h2 h => rx_cost h1 h2 hok hx h
  have ylive : ∀ post : Int32 → SY → Prop, (∀ v', ry mN mR rc ph nc oc cx ap P R rl rj rK uc D ps dc dl dj dk K V A B O v' → post (nI (pr_lv A B O 0 oc).length) v') → wpY_liveSum post v 0 0 := fun post h => ry_sum (g := 0) (cost := 0) (by omega) (by omega) (fun h => absurd h (by omega)) hok hy (fun v' hv => by rw [pr_sm_1]; exact h v' hv)
  have ycost : ∀ (g : Nat) (post : Int32 → SY → Prop), g < 2 → (g = 1 → ph = 1) → (∀ v', ry mN mR rc ph nc oc cx ap P R rl rj rK uc D ps dc dl dj dk K V A B O v' → post (nI (pr_sm (fun s => pr_w (K s)) (pr_lv A B O (g * 4) oc))) v') → wpY_liveSum post v (nI (g * 32)) 1 := fun g post h1 h2 h => ry_sum (g := g) (cost := 1) h1 (by omega) h2 hok hy (fun v' hv => by rw [pr_sm_w]; exact h v' hv)
  obtain ⟨f_maxNodes, f_maxRules, f_ruleCount, f_counterexample, f_optimized, f_nodeCount, f_outputCount, f_applications, a_preRelation, a_preVariable, a_preConstant, a_roomNeeded, a_useCount, a_treeSize, a_treeKind, a_treeValue, a_treeA, a_treeB, a_treeResult, a_constantValued, a_maximal, a_counterpart, a_boundNode, a_pending, a_pendingCount, a_nodeKind, a_nodeValue, a_nodeA, a_nodeB, a_nodeResult, a_nodeUses, a_outputNode, a_seen, a_order, a_walkStack⟩ := u
  obtain ⟨f_maxNodes', f_maxRules', f_phase', f_nCount', f_outCnt', f_apps', f_ruleCount', f_cex', f_curLive', f_orderN', a_alive', a_nKind', a_nVal', a_nA', a_nB', a_lv', a_nd', a_nv', a_outs', a_tKind', a_tVal', a_tA', a_tB', a_tN', a_preRel', a_preJ', a_preK', a_ruleUse', a_pend', a_pendN', a_tv', a_cv', a_mx', a_par', a_mp', a_res', a_bnd', a_order', a_stk', a_stSt'⟩ := v
  obtain ⟨e1, e2, e3, e4, e5, e6, e7, e8, h9, h10, h11, h12⟩ := hx
  obtain ⟨d1, d2, d3, d4, d5, d6, d7, d8, g9, g10, g11, g12⟩ := hy
  subst e1 e2 e3 e4 e5 e6 e7 e8 d1 d2 d3 d4 d5 d6 d7 d8
  have hR : ∀ (u' : SX) (v' : SY), rx mN mR rc ph nc oc f_cex' f_apps' P R rl rj rK uc D ps dc dl dj dk K V A B O u' → ry mN mR rc ph nc oc f_cex' f_apps' P R rl rj rK uc D ps dc dl dj dk K V A B O v' → i_Rel (k + 4) u' v' := fun u' v' a b => ⟨_, _, _, _, _, _, _, _, _, _, _, _, _, _, _, _, _, _, _, _, _, _, _, _, _, hok, a, b⟩
  have hne : ∀ q : Nat, q < 9 → (v1 < 0 ∨ nI 9 ≤ v1) → ¬ v1 = nI q := by
    intro q hq hp e
    rw [e] at hp
    rcases hp with hp | hp
    · exact nI_pos (by omega) hp
    · rw [nI_leI (by omega) (by omega)] at hp
      omega
  have hyno : (v1 < 0 ∨ nI 9 ≤ v1) → wpY_stat (fun r' v' => r' = -1 ∧ i_Rel (k + 4) ((nI mN), (nI mR), (nI rc), f_cex', (nI ph), (nI nc), (nI oc), f_apps', a_preRelation, a_preVariable, a_preConstant, a_roomNeeded, a_useCount, a_treeSize, a_treeKind, a_treeValue, a_treeA, a_treeB, a_treeResult, a_constantValued, a_maximal, a_counterpart, a_boundNode, a_pending, a_pendingCount, a_nodeKind, a_nodeValue, a_nodeA, a_nodeB, a_nodeResult, a_nodeUses, a_outputNode, a_seen, a_order, a_walkStack) v') ((nI mN), (nI mR), (nI ph), (nI nc), (nI oc), f_apps', (nI rc), f_cex', f_curLive', f_orderN', a_alive', a_nKind', a_nVal', a_nA', a_nB', a_lv', a_nd', a_nv', a_outs', a_tKind', a_tVal', a_tA', a_tB', a_tN', a_preRel', a_preJ', a_preK', a_ruleUse', a_pend', a_pendN', a_tv', a_cv', a_mx', a_par', a_mp', a_res', a_bnd', a_order', a_stk', a_stSt') v1 := fun hp =>
    br_f (hne 0 (by omega) hp) (br_f (hne 1 (by omega) hp) (br_f (hne 2 (by omega) hp) (br_f (hne 3 (by omega) hp) (br_f (hne 4 (by omega) hp) (br_f (hne 5 (by omega) hp) (br_f (hne 6 (by omega) hp) (br_f (hne 7 (by omega) hp) (br_f (hne 8 (by omega) hp) ⟨rfl, hI⟩))))))))
  unfold wpX_stat
  rcases pk_ix v1 (n := 9) (by omega) with hp | hp | ⟨q, hq, rfl⟩
  · exact br_t hp (hyno (Or.inl hp))
  · have h0 : ¬ v1 < 0 := fun h => absurd (Int32.lt_of_le_of_lt hp h) (by decide)
    exact br_f h0 (br_t (Int32.lt_of_lt_of_le (b := nI 9) (by decide) hp) (hyno (Or.inr hp)))
  · refine br_f (nI_pos (by omega)) (pk_lt 8 q (fun h => absurd h (by omega)) (fun _ => ?_))
    have hc : q = 0 ∨ q = 1 ∨ q = 2 ∨ q = 3 ∨ q = 4 ∨ q = 5 ∨ q = 6 ∨ q = 7 ∨ q = 8 := by omega
    unfold wpY_stat
    rcases hc with e | e | e | e | e | e | e | e | e
    · subst e
      refine br_t rfl (hlive _ (fun u' hu' => ?_))
      obtain ⟨f_maxNodes'', f_maxRules'', f_ruleCount'', f_counterexample'', f_optimized'', f_nodeCount'', f_outputCount'', f_applications'', a_preRelation'', a_preVariable'', a_preConstant'', a_roomNeeded'', a_useCount'', a_treeSize'', a_treeKind'', a_treeValue'', a_treeA'', a_treeB'', a_treeResult'', a_constantValued'', a_maximal'', a_counterpart'', a_boundNode'', a_pending'', a_pendingCount'', a_nodeKind'', a_nodeValue'', a_nodeA'', a_nodeB'', a_nodeResult'', a_nodeUses'', a_outputNode'', a_seen'', a_order'', a_walkStack''⟩ := u'
      refine br_t rfl (ylive _ (fun v' hv' => ?_))
      obtain ⟨f_maxNodes'', f_maxRules'', f_phase'', f_nCount'', f_outCnt'', f_apps'', f_ruleCount'', f_cex'', f_curLive'', f_orderN'', a_alive'', a_nKind'', a_nVal'', a_nA'', a_nB'', a_lv'', a_nd'', a_nv'', a_outs'', a_tKind'', a_tVal'', a_tA'', a_tB'', a_tN'', a_preRel'', a_preJ'', a_preK'', a_ruleUse'', a_pend'', a_pendN'', a_tv'', a_cv'', a_mx'', a_par'', a_mp'', a_res'', a_bnd'', a_order'', a_stk'', a_stSt''⟩ := v'
      exact ⟨rfl, hR _ _ hu' hv'⟩
    · subst e
      refine br_f (by decide) (br_t rfl (hcost 0 _ (by omega) (fun h => absurd h (by omega)) (fun u' hu' => ?_)))
      obtain ⟨f_maxNodes'', f_maxRules'', f_ruleCount'', f_counterexample'', f_optimized'', f_nodeCount'', f_outputCount'', f_applications'', a_preRelation'', a_preVariable'', a_preConstant'', a_roomNeeded'', a_useCount'', a_treeSize'', a_treeKind'', a_treeValue'', a_treeA'', a_treeB'', a_treeResult'', a_constantValued'', a_maximal'', a_counterpart'', a_boundNode'', a_pending'', a_pendingCount'', a_nodeKind'', a_nodeValue'', a_nodeA'', a_nodeB'', a_nodeResult'', a_nodeUses'', a_outputNode'', a_seen'', a_order'', a_walkStack''⟩ := u'
      refine br_f (by decide) (br_t rfl (ycost 0 _ (by omega) (fun h => absurd h (by omega)) (fun v' hv' => ?_)))
      obtain ⟨f_maxNodes'', f_maxRules'', f_phase'', f_nCount'', f_outCnt'', f_apps'', f_ruleCount'', f_cex'', f_curLive'', f_orderN'', a_alive'', a_nKind'', a_nVal'', a_nA'', a_nB'', a_lv'', a_nd'', a_nv'', a_outs'', a_tKind'', a_tVal'', a_tA'', a_tB'', a_tN'', a_preRel'', a_preJ'', a_preK'', a_ruleUse'', a_pend'', a_pendN'', a_tv'', a_cv'', a_mx'', a_par'', a_mp'', a_res'', a_bnd'', a_order'', a_stk'', a_stSt''⟩ := v'
      exact ⟨rfl, hR _ _ hu' hv'⟩
    · subst e
      refine br_f (by decide) (br_f (by decide) (br_t rfl ?_))
      have hp : ph = 0 ∨ ph = 1 := by omega
      rcases hp with hp | hp
      · subst hp
        refine br_t rfl (hcost 0 _ (by omega) (fun h => absurd h (by omega)) (fun u' hu' => ?_))
        obtain ⟨f_maxNodes'', f_maxRules'', f_ruleCount'', f_counterexample'', f_optimized'', f_nodeCount'', f_outputCount'', f_applications'', a_preRelation'', a_preVariable'', a_preConstant'', a_roomNeeded'', a_useCount'', a_treeSize'', a_treeKind'', a_treeValue'', a_treeA'', a_treeB'', a_treeResult'', a_constantValued'', a_maximal'', a_counterpart'', a_boundNode'', a_pending'', a_pendingCount'', a_nodeKind'', a_nodeValue'', a_nodeA'', a_nodeB'', a_nodeResult'', a_nodeUses'', a_outputNode'', a_seen'', a_order'', a_walkStack''⟩ := u'
        refine br_f (by decide) (br_f (by decide) (br_t rfl (br_f (by decide) (ycost 0 _ (by omega) (fun h => absurd h (by omega)) (fun v' hv' => ?_)))))
        obtain ⟨f_maxNodes'', f_maxRules'', f_phase'', f_nCount'', f_outCnt'', f_apps'', f_ruleCount'', f_cex'', f_curLive'', f_orderN'', a_alive'', a_nKind'', a_nVal'', a_nA'', a_nB'', a_lv'', a_nd'', a_nv'', a_outs'', a_tKind'', a_tVal'', a_tA'', a_tB'', a_tN'', a_preRel'', a_preJ'', a_preK'', a_ruleUse'', a_pend'', a_pendN'', a_tv'', a_cv'', a_mx'', a_par'', a_mp'', a_res'', a_bnd'', a_order'', a_stk'', a_stSt''⟩ := v'
        exact ⟨rfl, hR _ _ hu' hv'⟩
      · subst hp
        refine br_f (by decide) (hcost 1 _ (by omega) (fun _ => rfl) (fun u' hu' => ?_))
        obtain ⟨f_maxNodes'', f_maxRules'', f_ruleCount'', f_counterexample'', f_optimized'', f_nodeCount'', f_outputCount'', f_applications'', a_preRelation'', a_preVariable'', a_preConstant'', a_roomNeeded'', a_useCount'', a_treeSize'', a_treeKind'', a_treeValue'', a_treeA'', a_treeB'', a_treeResult'', a_constantValued'', a_maximal'', a_counterpart'', a_boundNode'', a_pending'', a_pendingCount'', a_nodeKind'', a_nodeValue'', a_nodeA'', a_nodeB'', a_nodeResult'', a_nodeUses'', a_outputNode'', a_seen'', a_order'', a_walkStack''⟩ := u'
        refine br_f (by decide) (br_f (by decide) (br_t rfl (br_t rfl (ycost 1 _ (by omega) (fun _ => rfl) (fun v' hv' => ?_)))))
        obtain ⟨f_maxNodes'', f_maxRules'', f_phase'', f_nCount'', f_outCnt'', f_apps'', f_ruleCount'', f_cex'', f_curLive'', f_orderN'', a_alive'', a_nKind'', a_nVal'', a_nA'', a_nB'', a_lv'', a_nd'', a_nv'', a_outs'', a_tKind'', a_tVal'', a_tA'', a_tB'', a_tN'', a_preRel'', a_preJ'', a_preK'', a_ruleUse'', a_pend'', a_pendN'', a_tv'', a_cv'', a_mx'', a_par'', a_mp'', a_res'', a_bnd'', a_order'', a_stk'', a_stSt''⟩ := v'
        exact ⟨rfl, hR _ _ hu' hv'⟩
    · subst e
      exact br_f (by decide) (br_f (by decide) (br_f (by decide) (br_t rfl (br_f (by decide) (br_f (by decide) (br_f (by decide) (br_t rfl ⟨rfl, hI⟩)))))))
    · subst e
      exact br_f (by decide) (br_f (by decide) (br_f (by decide) (br_f (by decide) (br_t rfl (br_f (by decide) (br_f (by decide) (br_f (by decide) (br_f (by decide) (br_t rfl ⟨rfl, hI⟩)))))))))
    · subst e
      exact br_f (by decide) (br_f (by decide) (br_f (by decide) (br_f (by decide) (br_f (by decide) (br_t rfl (br_f (by decide) (br_f (by decide) (br_f (by decide) (br_f (by decide) (br_f (by decide) (br_t rfl ⟨rfl, hI⟩)))))))))))
    · subst e
      exact br_f (by decide) (br_f (by decide) (br_f (by decide) (br_f (by decide) (br_f (by decide) (br_f (by decide) (br_t rfl (br_f (by decide) (br_f (by decide) (br_f (by decide) (br_f (by decide) (br_f (by decide) (br_f (by decide) (br_t rfl ⟨rfl, hI⟩)))))))))))))
    · subst e
      refine br_f (by decide) (br_f (by decide) (br_f (by decide) (br_f (by decide) (br_f (by decide) (br_f (by decide) (br_f (by decide) (br_t rfl ?_)))))))
      have hp : ph = 0 ∨ ph = 1 := by omega
      rcases hp with hp | hp
      · subst hp
        exact br_t rfl (br_f (by decide) (br_f (by decide) (br_f (by decide) (br_f (by decide) (br_f (by decide) (br_f (by decide) (br_f (by decide) (br_t rfl ⟨rfl, hI⟩))))))))
      · subst hp
        exact br_f (by decide) (br_f (by decide) (br_f (by decide) (br_f (by decide) (br_f (by decide) (br_f (by decide) (br_f (by decide) (br_f (by decide) (br_t rfl ⟨rfl, hI⟩))))))))
    · subst e
      refine br_f (by decide) (br_f (by decide) (br_f (by decide) (br_f (by decide) (br_f (by decide) (br_f (by decide) (br_f (by decide) (br_f (by decide) (br_t rfl ?_))))))))
      have hp : ph = 0 ∨ ph = 1 := by omega
      rcases hp with hp | hp
      · subst hp
        exact br_t rfl (br_f (by decide) (br_f (by decide) (br_f (by decide) (br_f (by decide) (br_f (by decide) (br_f (by decide) (br_f (by decide) (br_f (by decide) (br_t rfl (br_t rfl ⟨rfl, hI⟩))))))))))
      · subst hp
        refine br_f (by decide) (hlive _ (fun u' hu' => ?_))
        obtain ⟨f_maxNodes'', f_maxRules'', f_ruleCount'', f_counterexample'', f_optimized'', f_nodeCount'', f_outputCount'', f_applications'', a_preRelation'', a_preVariable'', a_preConstant'', a_roomNeeded'', a_useCount'', a_treeSize'', a_treeKind'', a_treeValue'', a_treeA'', a_treeB'', a_treeResult'', a_constantValued'', a_maximal'', a_counterpart'', a_boundNode'', a_pending'', a_pendingCount'', a_nodeKind'', a_nodeValue'', a_nodeA'', a_nodeB'', a_nodeResult'', a_nodeUses'', a_outputNode'', a_seen'', a_order'', a_walkStack''⟩ := u'
        refine br_f (by decide) (br_f (by decide) (br_f (by decide) (br_f (by decide) (br_f (by decide) (br_f (by decide) (br_f (by decide) (br_f (by decide) (br_t rfl (br_f (by decide) (ylive _ (fun v' hv' => ?_)))))))))))
        obtain ⟨f_maxNodes'', f_maxRules'', f_phase'', f_nCount'', f_outCnt'', f_apps'', f_ruleCount'', f_cex'', f_curLive'', f_orderN'', a_alive'', a_nKind'', a_nVal'', a_nA'', a_nB'', a_lv'', a_nd'', a_nv'', a_outs'', a_tKind'', a_tVal'', a_tA'', a_tB'', a_tN'', a_preRel'', a_preJ'', a_preK'', a_ruleUse'', a_pend'', a_pendN'', a_tv'', a_cv'', a_mx'', a_par'', a_mp'', a_res'', a_bnd'', a_order'', a_stk'', a_stSt''⟩ := v'
        exact ⟨rfl, hR _ _ hu' hv'⟩
theorem i_vc_eval {k : Nat} {u : SX} {v : SY} (I : i_Rel k u v) (hk : k + 4 ≤ 2050) (v1 : Int32) (v2 : Int32) (v3 : Int32) : wpX_eval (fun r u' => wpY_eval (fun r' v' => r' = r ∧ i_Rel (k + 4) u' v') v v1 v2 (lw_bz v3)) u v1 v2 (lw_bz v3) := by
  obtain ⟨mN, mR, rc, ph, nc, oc, cx, ap, P, R, rl, rj, rK, uc, D, ps, dc, dl, dj, dk, K, V, A, B, O, hok, hx, hy⟩ := I
  have hI : i_Rel (k + 4) u v := ⟨mN, mR, rc, ph, nc, oc, cx, ap, P, R, rl, rj, rK, uc, D, ps, dc, dl, dj, dk, K, V, A, B, O, hok, hx, hy⟩
  have hph := hok.2.2.2.2.2.1
  obtain ⟨f_maxNodes, f_maxRules, f_ruleCount, f_counterexample, f_optimized, f_nodeCount, f_outputCount, f_applications, a_preRelation, a_preVariable, a_preConstant, a_roomNeeded, a_useCount, a_treeSize, a_treeKind, a_treeValue, a_treeA, a_treeB, a_treeResult, a_constantValued, a_maximal, a_counterpart, a_boundNode, a_pending, a_pendingCount, a_nodeKind, a_nodeValue, a_nodeA, a_nodeB, a_nodeResult, a_nodeUses, a_outputNode, a_seen, a_order, a_walkStack⟩ := u
  obtain ⟨f_maxNodes', f_maxRules', f_phase', f_nCount', f_outCnt', f_apps', f_ruleCount', f_cex', f_curLive', f_orderN', a_alive', a_nKind', a_nVal', a_nA', a_nB', a_lv', a_nd', a_nv', a_outs', a_tKind', a_tVal', a_tA', a_tB', a_tN', a_preRel', a_preJ', a_preK', a_ruleUse', a_pend', a_pendN', a_tv', a_cv', a_mx', a_par', a_mp', a_res', a_bnd', a_order', a_stk', a_stSt'⟩ := v
  obtain ⟨e1, e2, e3, e4, e5, e6, e7, e8, h9, h10, h11, h12⟩ := hx
  obtain ⟨d1, d2, d3, d4, d5, d6, d7, d8, g9, g10, g11, g12⟩ := hy
  subst e1 e2 e3 e4 e5 e6 e7 e8 d1 d2 d3 d4 d5 d6 d7 d8
  have hok' := hok
  obtain ⟨o1, o2, o3, o4, o5, o6, o7, o8, o9, rk, rk2, q1, q2, q3, q4⟩ := hok
  by_cases h0 : v1 < 0
  · exact br_t h0 (br_t rfl (br_t h0 ⟨rfl, hI⟩))
  · obtain ⟨n, hn, rfl⟩ := nI_of h0
    refine br_f h0 (pk_le oc n (fun h => br_t rfl (br_f h0 (pk_lt n oc (fun h => absurd h (by omega)) (fun _ => ⟨rfl, hI⟩)))) (fun hno => br_f (by decide) ?_))
    have hY1 : ∀ {A B C : Prop}, B → (nI n < 0 → A) ∧ (¬ nI n < 0 → (nI n < nI oc → B) ∧ (¬ nI n < nI oc → C)) := fun b => br_f h0 (pk_lt n oc (fun _ => b) (fun h => absurd h (by omega)))
    have x0 : ∀ post : Int32 → SX → Prop, (∀ u', rx mN mR rc ph nc oc f_cex' f_apps' P R rl rj rK uc D ps dc dl dj dk K V A B O u' → post (pr_ev K V A B v2 32 (O (0 * 4 + n))) u') → wX_eval_25 post (nI n) v2 (nI mN) (nI mR) (nI rc) f_cex' (nI ph) (nI nc) (nI oc) f_apps' a_preRelation a_preVariable a_preConstant a_roomNeeded a_useCount a_treeSize a_treeKind a_treeValue a_treeA a_treeB a_treeResult a_constantValued a_maximal a_counterpart a_boundNode a_pending a_pendingCount a_nodeKind a_nodeValue a_nodeA a_nodeB a_nodeResult a_nodeUses a_outputNode a_seen a_order a_walkStack := fun post h =>
      x_eval26 (g := 0) (O := O) (by omega) hno o7 q1 h12.1 (gr_0 h12 q2) (fun nr' se' od' st' => h _ ⟨rfl, rfl, rfl, rfl, rfl, rfl, rfl, rfl, h9, h10, h11, h12⟩)
    have x1 : ph = 1 → ∀ post : Int32 → SX → Prop, (∀ u', rx mN mR rc ph nc oc f_cex' f_apps' P R rl rj rK uc D ps dc dl dj dk K V A B O u' → post (pr_ev K V A B v2 32 (O (1 * 4 + n))) u') → wX_eval_26 post (nI n) v2 1 (nI mN) (nI mR) (nI rc) f_cex' (nI ph) (nI nc) (nI oc) f_apps' a_preRelation a_preVariable a_preConstant a_roomNeeded a_useCount a_treeSize a_treeKind a_treeValue a_treeA a_treeB a_treeResult a_constantValued a_maximal a_counterpart a_boundNode a_pending a_pendingCount a_nodeKind a_nodeValue a_nodeA a_nodeB a_nodeResult a_nodeUses a_outputNode a_seen a_order a_walkStack := fun hp post h =>
      x_eval26 (g := 1) (O := O) (by omega) hno o7 (q4 hp).1 (h12.2.2 hp).1 (gr_1 h12 hp (q4 hp).2.1) (fun nr' se' od' st' => h _ ⟨rfl, rfl, rfl, rfl, rfl, rfl, rfl, rfl, h9, h10, h11, h12⟩)
    have y0 : ∀ u', rx mN mR rc ph nc oc f_cex' f_apps' P R rl rj rK uc D ps dc dl dj dk K V A B O u' → ∃ f, wY_eval_38 (fun r' v' => r' = pr_ev K V A B v2 32 (O (0 * 4 + n)) ∧ i_Rel (k + 4) u' v') (nI n) v2 0 (nI mN) (nI mR) (nI ph) (nI nc) (nI oc) f_apps' (nI rc) f_cex' f_curLive' f_orderN' f 0 a_alive' a_nKind' a_nVal' a_nA' a_nB' a_lv' a_nd' a_nv' a_outs' a_tKind' a_tVal' a_tA' a_tB' a_tN' a_preRel' a_preJ' a_preK' a_ruleUse' a_pend' a_pendN' a_tv' a_cv' a_mx' a_par' a_mp' a_res' a_bnd' a_order' a_stk' a_stSt' := fun u' hu' =>
      y_eval38 (g := 0) (O := O) (by omega) hno o7 q1 g12.1.1 g12.2.1 (gr_0 g12.1 q2) (fun nd' nv' => ⟨rfl, ⟨_, _, _, _, _, _, _, _, _, _, _, _, _, _, _, _, _, _, _, _, _, _, _, _, _, hok', hu', ⟨rfl, rfl, rfl, rfl, rfl, rfl, rfl, rfl, g9, g10, g11, g12⟩⟩⟩)
    have y1 : ph = 1 → ∀ u', rx mN mR rc ph nc oc f_cex' f_apps' P R rl rj rK uc D ps dc dl dj dk K V A B O u' → ∃ f, wY_eval_38 (fun r' v' => r' = pr_ev K V A B v2 32 (O (1 * 4 + n)) ∧ i_Rel (k + 4) u' v') (nI n) v2 32 (nI mN) (nI mR) (nI ph) (nI nc) (nI oc) f_apps' (nI rc) f_cex' f_curLive' f_orderN' f 32 a_alive' a_nKind' a_nVal' a_nA' a_nB' a_lv' a_nd' a_nv' a_outs' a_tKind' a_tVal' a_tA' a_tB' a_tN' a_preRel' a_preJ' a_preK' a_ruleUse' a_pend' a_pendN' a_tv' a_cv' a_mx' a_par' a_mp' a_res' a_bnd' a_order' a_stk' a_stSt' := fun hp u' hu' =>
      y_eval38 (g := 1) (O := O) (by omega) hno o7 (q4 hp).1 (g12.1.2.2 hp).1 (g12.2.2 hp) (gr_1 g12.1 hp (q4 hp).2.1) (fun nd' nv' => ⟨rfl, ⟨_, _, _, _, _, _, _, _, _, _, _, _, _, _, _, _, _, _, _, _, _, _, _, _, _, hok', hu', ⟨rfl, rfl, rfl, rfl, rfl, rfl, rfl, rfl, g9, g10, g11, g12⟩⟩⟩)
    rcases lw_bz_01 v3 with hb | hb
    · rw [hb]
      exact br_t rfl (x0 _ fun u' hu' => hY1 (br_t rfl (y0 u' hu')))
    · rw [hb]
      have hp : ph = 0 ∨ ph = 1 := by omega
      rcases hp with hp | hp
      · exact br_f (by decide) (br_t (by rw [hp]; rfl) (x0 _ fun u' hu' => hY1 (br_f (by decide) (br_f (by rw [hp]; decide) (y0 u' hu')))))
      · exact br_f (by decide) (br_f (by rw [hp]; decide) (x1 hp _ fun u' hu' => hY1 (br_f (by decide) (br_t (by rw [hp]; rfl) (y1 hp u' hu')))))
