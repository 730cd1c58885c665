/-! Y: small methods, trees read -/
section YB
variable {f_maxNodes f_maxRules f_phase f_nCount f_outCnt f_apps f_ruleCount f_cex f_curLive f_orderN : Int32} {a_alive a_nKind a_nVal a_nA a_nB a_lv a_nd a_nv a_outs a_tKind a_tVal a_tA a_tB a_tN a_preRel a_preJ a_preK a_ruleUse a_pend a_pendN a_tv a_cv a_mx a_par a_mp a_res a_bnd a_order a_stk a_stSt : Nat → Int32}
variable {post : Int32 → Prop} {w n κ j : Nat} {t : pr_PT} {u : SY}
theorem y_isBin_t (h1 : 1 ≤ κ) (h8 : κ ≤ 8) (h : post 1) : wpY_isBin post u (nI κ) := by
  obtain ⟨f_maxNodes, f_maxRules, f_phase, f_nCount, f_outCnt, f_apps, f_ruleCount, f_cex, f_curLive, f_orderN, a_alive, a_nKind, a_nVal, a_nA, a_nB, a_lv, a_nd, a_nv, a_outs, a_tKind, a_tVal, a_tA, a_tB, a_tN, a_preRel, a_preJ, a_preK, a_ruleUse, a_pend, a_pendN, a_tv, a_cv, a_mx, a_par, a_mp, a_res, a_bnd, a_order, a_stk, a_stSt⟩ := u
  exact pk_lt κ 1 (fun h => absurd h (by omega)) (fun _ => pk_lt 8 κ (fun h => absurd h (by omega)) (fun _ => h))
theorem y_isBin_f (hκ : κ < 2 ^ 31) (h0 : κ = 0 ∨ 9 ≤ κ) (h : post 0) : wpY_isBin post u (nI κ) := by
  obtain ⟨f_maxNodes, f_maxRules, f_phase, f_nCount, f_outCnt, f_apps, f_ruleCount, f_cex, f_curLive, f_orderN, a_alive, a_nKind, a_nVal, a_nA, a_nB, a_lv, a_nd, a_nv, a_outs, a_tKind, a_tVal, a_tA, a_tB, a_tN, a_preRel, a_preJ, a_preK, a_ruleUse, a_pend, a_pendN, a_tv, a_cv, a_mx, a_par, a_mp, a_res, a_bnd, a_order, a_stk, a_stSt⟩ := u
  exact pk_lt κ 1 (fun _ => h) (fun _ => pk_lt 8 κ (fun _ => h) (fun h => absurd h (by omega)))
theorem y_isUn_t (h1 : κ = 9 ∨ κ = 10) (h : post 1) : wpY_isUn post u (nI κ) := by
  obtain ⟨f_maxNodes, f_maxRules, f_phase, f_nCount, f_outCnt, f_apps, f_ruleCount, f_cex, f_curLive, f_orderN, a_alive, a_nKind, a_nVal, a_nA, a_nB, a_lv, a_nd, a_nv, a_outs, a_tKind, a_tVal, a_tA, a_tB, a_tN, a_preRel, a_preJ, a_preK, a_ruleUse, a_pend, a_pendN, a_tv, a_cv, a_mx, a_par, a_mp, a_res, a_bnd, a_order, a_stk, a_stSt⟩ := u
  exact pk_eq κ 9 (fun _ => h) (fun _ => pk_eq κ 10 (fun _ => h) (fun h => absurd h (by omega)))
theorem y_isUn_f (hκ : κ < 2 ^ 31) (h0 : κ ≠ 9 ∧ κ ≠ 10) (h : post 0) : wpY_isUn post u (nI κ) := by
  obtain ⟨f_maxNodes, f_maxRules, f_phase, f_nCount, f_outCnt, f_apps, f_ruleCount, f_cex, f_curLive, f_orderN, a_alive, a_nKind, a_nVal, a_nA, a_nB, a_lv, a_nd, a_nv, a_outs, a_tKind, a_tVal, a_tA, a_tB, a_tN, a_preRel, a_preJ, a_preK, a_ruleUse, a_pend, a_pendN, a_tv, a_cv, a_mx, a_par, a_mp, a_res, a_bnd, a_order, a_stk, a_stSt⟩ := u
  exact pk_eq κ 9 (fun h => absurd h h0.1) (fun _ => pk_eq κ 10 (fun h => absurd h h0.2) (fun _ => h))
theorem y_weight (hκ : κ < 2 ^ 31) (h : post (nI (pr_w κ))) : wpY_weight post u (nI κ) := by
  obtain ⟨f_maxNodes, f_maxRules, f_phase, f_nCount, f_outCnt, f_apps, f_ruleCount, f_cex, f_curLive, f_orderN, a_alive, a_nKind, a_nVal, a_nA, a_nB, a_lv, a_nd, a_nv, a_outs, a_tKind, a_tVal, a_tA, a_tB, a_tN, a_preRel, a_preJ, a_preK, a_ruleUse, a_pend, a_pendN, a_tv, a_cv, a_mx, a_par, a_mp, a_res, a_bnd, a_order, a_stk, a_stSt⟩ := u
  unfold pr_w at h
  refine pk_eq κ 3 (fun e => ?_) (fun e => pk_lt κ 1 (fun h1 => ?_) (fun h1 => pk_lt 10 κ (fun h2 => ?_) (fun h2 => ?_)))
  · rw [if_pos e] at h
    exact h
  · rw [if_neg e, if_neg (by omega)] at h
    exact h
  · rw [if_neg e, if_neg (by omega)] at h
    exact h
  · rw [if_neg e, if_pos (by omega)] at h
    exact h
theorem y_op {a b : Int32} (h1 : 1 ≤ κ) (h10 : κ ≤ 10) (h : post (pr_op κ a b)) : wpY_op post u (nI κ) a b := by
  obtain ⟨f_maxNodes, f_maxRules, f_phase, f_nCount, f_outCnt, f_apps, f_ruleCount, f_cex, f_curLive, f_orderN, a_alive, a_nKind, a_nVal, a_nA, a_nB, a_lv, a_nd, a_nv, a_outs, a_tKind, a_tVal, a_tA, a_tB, a_tN, a_preRel, a_preJ, a_preK, a_ruleUse, a_pend, a_pendN, a_tv, a_cv, a_mx, a_par, a_mp, a_res, a_bnd, a_order, a_stk, a_stSt⟩ := u
  unfold pr_op at h
  refine pk_eq κ 1 (fun e => ?_) (fun n1 => pk_eq κ 2 (fun e => ?_) (fun n2 => pk_eq κ 3 (fun e => ?_) (fun n3 => pk_eq κ 4 (fun e => ?_) (fun n4 => pk_eq κ 5 (fun e => ?_) (fun n5 => pk_eq κ 6 (fun e => ?_) (fun n6 => pk_eq κ 7 (fun e => ?_) (fun n7 => pk_eq κ 8 (fun e => ?_) (fun n8 => pk_eq κ 9 (fun e => ?_) (fun n9 => ?_)))))))))
  · rw [if_pos e] at h; exact h
  · rw [if_neg n1, if_pos e] at h; exact h
  · rw [if_neg n1, if_neg n2, if_pos e] at h; exact h
  · rw [if_neg n1, if_neg n2, if_neg n3, if_pos e] at h; exact h
  · rw [if_neg n1, if_neg n2, if_neg n3, if_neg n4, if_pos e] at h; exact h
  · rw [if_neg n1, if_neg n2, if_neg n3, if_neg n4, if_neg n5, if_pos e] at h; exact h
  · rw [if_neg n1, if_neg n2, if_neg n3, if_neg n4, if_neg n5, if_neg n6, if_pos e] at h
    by_cases hb : b < 8
    · rw [if_pos hb] at h
      exact br_f (Int32.not_le.mpr hb) h
    · rw [if_neg hb] at h
      exact br_t (Int32.not_lt.mp hb) h
  · rw [if_neg n1, if_neg n2, if_neg n3, if_neg n4, if_neg n5, if_neg n6, if_neg n7, if_pos e] at h
    by_cases hb : b < 8
    · rw [if_pos hb] at h
      exact br_f (Int32.not_le.mpr hb) h
    · rw [if_neg hb] at h
      exact br_t (Int32.not_lt.mp hb) h
  · rw [if_neg n1, if_neg n2, if_neg n3, if_neg n4, if_neg n5, if_neg n6, if_neg n7, if_neg n8, if_pos e] at h; exact h
  · rw [if_neg n1, if_neg n2, if_neg n3, if_neg n4, if_neg n5, if_neg n6, if_neg n7, if_neg n8, if_neg n9] at h; exact h
theorem y_has3 {o : Nat} (hw : w < 34) (ht : pt_n t ≤ 8) (hT : tr_at o w t a_tN a_tKind a_tVal a_tA a_tB) (hk : ∀ i, i < pt_n t → pt_k t i < 100 ∧ pt_v t i < 1000) (hκ : κ < 100) (hj : j < 1000) (h : post (pr_b (pt_has t κ j))) :
    ∀ d i, i + d = pt_n t → pt_hs t κ j i = false → wY_has_3 post (nI w) (nI κ) (nI j) f_maxNodes f_maxRules f_phase f_nCount f_outCnt f_apps f_ruleCount f_cex f_curLive f_orderN a_alive a_nKind a_nVal a_nA a_nB a_lv a_nd a_nv a_outs a_tKind a_tVal a_tA a_tB a_tN a_preRel a_preJ a_preK a_ruleUse a_pend a_pendN a_tv a_cv a_mx a_par a_mp a_res a_bnd a_order a_stk a_stSt (d + 1) (nI i) := by
  intro d
  induction d with
  | zero =>
    intro i hi hs
    refine ⟨pk_in w 34 hw, ?_⟩
    rw [nI_clamp (by omega), hT.1]
    refine pk_le (pt_n t) i (fun _ => ?_) (fun h => absurd h (by omega))
    have e : i = pt_n t := by omega
    unfold pt_has at h
    rw [← e, hs] at h
    exact h
  | succ d ih =>
    intro i hi hs
    have hi' : i < pt_n t := by omega
    obtain ⟨e1, e2, _, _⟩ := hT.2 i hi'
    have hk' := hk i hi'
    have hcl : (nI (w * 8 + i)).toNatClampNeg = w * 8 + i := nI_clamp (by omega)
    have hnx : ¬ (pt_k t i = κ ∧ pt_v t i = j) → wY_has_3 post (nI w) (nI κ) (nI j) f_maxNodes f_maxRules f_phase f_nCount f_outCnt f_apps f_ruleCount f_cex f_curLive f_orderN a_alive a_nKind a_nVal a_nA a_nB a_lv a_nd a_nv a_outs a_tKind a_tVal a_tA a_tB a_tN a_preRel a_preJ a_preK a_ruleUse a_pend a_pendN a_tv a_cv a_mx a_par a_mp a_res a_bnd a_order a_stk a_stSt (d + 1) (nI i + 1) := by
      intro hx
      rw [nI_1]
      refine ih (i + 1) (by omega) ?_
      show (pt_hs t κ j i || (decide (pt_k t i = κ) && decide (pt_v t i = j))) = false
      rw [hs, Bool.false_or, Bool.and_eq_false_iff, decide_eq_false_iff_not, decide_eq_false_iff_not]
      by_cases h1 : pt_k t i = κ
      · exact Or.inr fun h2 => hx ⟨h1, h2⟩
      · exact Or.inl h1
    refine ⟨pk_in w 34 hw, ?_⟩
    rw [nI_clamp (n := w) (by omega), hT.1]
    refine pk_le (pt_n t) i (fun h => absurd h (by omega)) (fun _ => pk_le 8 i (fun h => absurd h (by omega)) (fun _ => ?_))
    rw [nx_8, hcl, e1]
    refine ⟨pk_in (w * 8 + i) 272 (by omega), ?_⟩
    refine pk_eq (pt_k t i) κ (fun h1 => ⟨pk_in (w * 8 + i) 272 (by omega), ?_⟩) (fun h1 => nm_e (hnx fun hx => h1 hx.1))
    rw [e2]
    refine pk_eq (pt_v t i) j (fun h2 => ?_) (fun h2 => nm_e (hnx fun hx => h2 hx.2))
    rw [pt_has_t.mpr ⟨i, hi', h1, h2⟩] at h
    exact h
theorem y_has {o : Nat} (hw : w < 34) (ht : pt_ok t) (hT : tr_at o w t a_tN a_tKind a_tVal a_tA a_tB) (hκ : κ < 100) (hj : j < 1000) (h : post (pr_b (pt_has t κ j))) : wpY_has post (f_maxNodes, f_maxRules, f_phase, f_nCount, f_outCnt, f_apps, f_ruleCount, f_cex, f_curLive, f_orderN, a_alive, a_nKind, a_nVal, a_nA, a_nB, a_lv, a_nd, a_nv, a_outs, a_tKind, a_tVal, a_tA, a_tB, a_tN, a_preRel, a_preJ, a_preK, a_ruleUse, a_pend, a_pendN, a_tv, a_cv, a_mx, a_par, a_mp, a_res, a_bnd, a_order, a_stk, a_stSt) (nI w) (nI κ) (nI j) :=
  ⟨pt_n t + 1, y_has3 hw ht.1 hT (pt_sm ht) hκ hj h (pt_n t) 0 (by omega) rfl⟩
end YB
section YC
variable {f_maxNodes f_maxRules f_phase f_nCount f_outCnt f_apps f_ruleCount f_cex f_curLive f_orderN : Int32} {a_alive a_nKind a_nVal a_nA a_nB a_lv a_nd a_nv a_outs a_tKind a_tVal a_tA a_tB a_tN a_preRel a_preJ a_preK a_ruleUse a_pend a_pendN a_tv a_cv a_mx a_par a_mp a_res a_bnd a_order a_stk a_stSt : Nat → Int32}
variable {post : Int32 → SY → Prop} {w : Nat} {t : pr_PT} {v0 v1 : Int32}
theorem y_evalTree11 (hw : w < 34) (ht : pt_ok t) (h0 : 0 < pt_n t) (hT : tr_at 0 w t a_tN a_tKind a_tVal a_tA a_tB) (h : ∀ tv', (∀ q, q < pt_n t → tv' q = pt_tv t v0 v1 q) → post (pt_tv t v0 v1 (pt_n t - 1)) (f_maxNodes, f_maxRules, f_phase, f_nCount, f_outCnt, f_apps, f_ruleCount, f_cex, f_curLive, f_orderN, a_alive, a_nKind, a_nVal, a_nA, a_nB, a_lv, a_nd, a_nv, a_outs, a_tKind, a_tVal, a_tA, a_tB, a_tN, a_preRel, a_preJ, a_preK, a_ruleUse, a_pend, a_pendN, tv', a_cv, a_mx, a_par, a_mp, a_res, a_bnd, a_order, a_stk, a_stSt)) :
    ∀ d i tv, i + d = pt_n t → (∀ q, q < i → tv q = pt_tv t v0 v1 q) → wY_evalTree_11 post (nI w) v0 v1 (nI (pt_n t)) f_maxNodes f_maxRules f_phase f_nCount f_outCnt f_apps f_ruleCount f_cex f_curLive f_orderN (d + 1) (nI i) a_alive a_nKind a_nVal a_nA a_nB a_lv a_nd a_nv a_outs a_tKind a_tVal a_tA a_tB a_tN a_preRel a_preJ a_preK a_ruleUse a_pend a_pendN tv a_cv a_mx a_par a_mp a_res a_bnd a_order a_stk a_stSt := by
  intro d
  have h8 := ht.1
  induction d with
  | zero =>
    intro i tv hi hq
    refine pk_le (pt_n t) i (fun _ => ?_) (fun h => absurd h (by omega))
    refine pk_le (pt_n t) 0 (fun h => absurd h (by omega)) (fun _ => pk_lt 8 (pt_n t) (fun h => absurd h (by omega)) (fun _ => ?_))
    rw [pr_s1 h0]
    refine ⟨pk_in (pt_n t - 1) 8 (by omega), ?_⟩
    rw [nI_clamp (by omega), hq _ (by omega)]
    exact h tv fun q hq' => hq q (by omega)
  | succ d ih =>
    intro i tv hi hq
    have hi' : i < pt_n t := by omega
    obtain ⟨e1, e2, e3, e4⟩ := hT.2 i hi'
    have hn := ht.2 i hi'
    have h9 := hn.2.2.2.2.2.2.2.2.1
    have hs := pt_sm ht i hi'
    have hcl : (nI (w * 8 + i)).toNatClampNeg = w * 8 + i := nI_clamp (by omega)
    have hci : (nI i).toNatClampNeg = i := nI_clamp (by omega)
    have hnx : ∀ x : Int32, x = pt_tv t v0 v1 i → wY_evalTree_11 post (nI w) v0 v1 (nI (pt_n t)) f_maxNodes f_maxRules f_phase f_nCount f_outCnt f_apps f_ruleCount f_cex f_curLive f_orderN (d + 1) (nI i + 1) a_alive a_nKind a_nVal a_nA a_nB a_lv a_nd a_nv a_outs a_tKind a_tVal a_tA a_tB a_tN a_preRel a_preJ a_preK a_ruleUse a_pend a_pendN (upd tv i x) a_cv a_mx a_par a_mp a_res a_bnd a_order a_stk a_stSt := by
      intro x hx
      rw [nI_1]
      refine ih (i + 1) _ (by omega) fun q hq' => ?_
      by_cases e : q = i
      · rw [e, pk_us, hx]
      · rw [pk_un e]
        exact hq q (by omega)
    have heq := pt_tv_eq (v0 := v0) (v1 := v1) ht hi'
    unfold pt_vF at heq
    refine pk_le (pt_n t) i (fun h => absurd h (by omega)) (fun _ => pk_le 8 i (fun h => absurd h (by omega)) (fun _ => ?_))
    refine nm_r (nx_8 w i) ⟨pk_in (w * 8 + i) 272 (by omega), ?_⟩
    rw [hcl]
    refine nm_r e1 ?_
    have hin : vp_in (nI (w * 8 + i)) 272 := pk_in (w * 8 + i) 272 (by omega)
    have hin8 : vp_in (nI i) 8 := pk_in i 8 (by omega)
    have h1314 : 13 ≤ pt_k t i → wY_evalTree_81 post (wY_evalTree_11 post (nI w) v0 v1 (nI (pt_n t)) f_maxNodes f_maxRules f_phase f_nCount f_outCnt f_apps f_ruleCount f_cex f_curLive f_orderN (d + 1)) (nI w) v0 v1 (nI (pt_n t)) (nI i) (nI (w * 8 + i)) f_maxNodes f_maxRules f_phase f_nCount f_outCnt f_apps f_ruleCount f_cex f_curLive f_orderN a_alive a_nKind a_nVal a_nA a_nB a_lv a_nd a_nv a_outs a_tKind a_tVal a_tA a_tB a_tN a_preRel a_preJ a_preK a_ruleUse a_pend a_pendN tv a_cv a_mx a_par a_mp a_res a_bnd a_order a_stk a_stSt := by
      intro h13
      rw [if_neg (by omega), if_pos h13] at heq
      refine ⟨hin, ?_⟩
      rw [hcl, e2]
      refine pk_eq (pt_v t i) 0 (fun e => ⟨hin8, ?_⟩) (fun e => ⟨hin8, ?_⟩)
      · rw [hci]
        rw [if_pos e] at heq
        exact nm_e (nm_e (hnx _ heq.symm))
      · rw [hci]
        rw [if_neg e] at heq
        exact nm_e (nm_e (hnx _ heq.symm))
    refine pk_eq (pt_k t i) 11 (fun e => ⟨hin, hin8, ?_⟩) (fun n11 => pk_eq (pt_k t i) 13 (fun e => h1314 (by omega)) (fun n13 => pk_eq (pt_k t i) 14 (fun e => h1314 (by omega)) (fun n14 => ?_)))
    · rw [if_pos e] at heq
      rw [hci, e2]
      exact nm_e (nm_e (hnx _ heq.symm))
    · have hk : pt_k t i ≤ 10 := by have := hn.1; omega
      rw [if_neg n11, if_neg (by omega)] at heq
      obtain ⟨ca, hca⟩ := hn.2.2.2.2.2.2.1 hk
      have hca' := h9 ca (Or.inl hca)
      have eA : a_tA (w * 8 + i) = nI ca := by
        rw [e3, hca]
        show nI (0 + ca) = nI ca
        rw [Nat.zero_add]
      rw [hca] at heq
      by_cases hb : pt_k t i ≤ 8
      · obtain ⟨cb, hcb⟩ := hn.2.2.2.2.2.2.2.1 hb
        have hcb' := h9 cb (Or.inr hcb)
        have eB : a_tB (w * 8 + i) = nI cb := by
          rw [e4, hcb]
          show nI (0 + cb) = nI cb
          rw [Nat.zero_add]
        rw [hcb] at heq
        refine y_isBin_t hn.1.1 hb (br_f (by decide) ⟨hin, ?_⟩)
        rw [eA, eB, nI_clamp (n := ca) (by omega), nI_clamp (n := cb) (by omega)]
        refine ⟨pk_in ca 8 (by omega), hin, pk_in cb 8 (by omega), y_op hn.1.1 hk ⟨hin8, ?_⟩⟩
        rw [hci]
        refine nm_e (nm_e (hnx _ ?_))
        rw [heq, hq ca (by omega), hq cb (by omega)]
        rfl
      · rw [hn.2.2.2.2.2.1 (by omega)] at heq
        refine y_isBin_f (by omega) (by omega) (br_t rfl ⟨hin, ?_⟩)
        rw [eA, nI_clamp (n := ca) (by omega)]
        refine ⟨pk_in ca 8 (by omega), y_op hn.1.1 hk ⟨hin8, ?_⟩⟩
        rw [hci]
        refine nm_e (nm_e (hnx _ ?_))
        rw [heq, hq ca (by omega)]
        rfl
theorem y_evalTree (hw : w < 34) (ht : pt_ok t) (h0 : 0 < pt_n t) (hT : tr_at 0 w t a_tN a_tKind a_tVal a_tA a_tB) (h : ∀ tv', (∀ q, q < pt_n t → tv' q = pt_tv t v0 v1 q) → post (pt_tv t v0 v1 (pt_n t - 1)) (f_maxNodes, f_maxRules, f_phase, f_nCount, f_outCnt, f_apps, f_ruleCount, f_cex, f_curLive, f_orderN, a_alive, a_nKind, a_nVal, a_nA, a_nB, a_lv, a_nd, a_nv, a_outs, a_tKind, a_tVal, a_tA, a_tB, a_tN, a_preRel, a_preJ, a_preK, a_ruleUse, a_pend, a_pendN, tv', a_cv, a_mx, a_par, a_mp, a_res, a_bnd, a_order, a_stk, a_stSt)) :
    wpY_evalTree post (f_maxNodes, f_maxRules, f_phase, f_nCount, f_outCnt, f_apps, f_ruleCount, f_cex, f_curLive, f_orderN, a_alive, a_nKind, a_nVal, a_nA, a_nB, a_lv, a_nd, a_nv, a_outs, a_tKind, a_tVal, a_tA, a_tB, a_tN, a_preRel, a_preJ, a_preK, a_ruleUse, a_pend, a_pendN, a_tv, a_cv, a_mx, a_par, a_mp, a_res, a_bnd, a_order, a_stk, a_stSt) (nI w) v0 v1 := by
  unfold wpY_evalTree
  refine ⟨pk_in w 34 hw, ?_⟩
  rw [nI_clamp (by omega)]
  refine nm_r hT.1 ⟨pt_n t + 1, ?_⟩
  exact y_evalTree11 hw ht h0 hT h (pt_n t) 0 a_tv (by omega) (fun q hq => absurd hq (by omega))
end YC
