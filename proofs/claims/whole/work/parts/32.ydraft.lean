/-! Y: the draft -/
section YDr
variable {f_maxNodes f_maxRules f_phase f_nCount f_outCnt f_apps f_ruleCount f_cex f_curLive f_orderN : Int32} {a_alive a_nKind a_nVal a_nA a_nB a_lv a_nd a_nv a_outs a_tKind a_tVal a_tA a_tB a_tN a_preRel a_preJ a_preK a_ruleUse a_pend a_pendN a_tv a_cv a_mx a_par a_mp a_res a_bnd a_order a_stk a_stSt : Nat → Int32}
theorem y_ruleBegin {post : SY → Prop} (h : post (f_maxNodes, f_maxRules, f_phase, f_nCount, f_outCnt, f_apps, f_ruleCount, f_cex, f_curLive, f_orderN, a_alive, a_nKind, a_nVal, a_nA, a_nB, a_lv, a_nd, a_nv, a_outs, a_tKind, a_tVal, a_tA, a_tB, (upd (upd a_tN 32 0) 33 0), (upd a_preRel 16 0), (upd a_preJ 16 0), (upd a_preK 16 0), a_ruleUse, a_pend, (upd (upd a_pendN 0 0) 1 0), a_tv, a_cv, a_mx, a_par, a_mp, a_res, a_bnd, a_order, a_stk, a_stSt)) : wpY_ruleBegin post (f_maxNodes, f_maxRules, f_phase, f_nCount, f_outCnt, f_apps, f_ruleCount, f_cex, f_curLive, f_orderN, a_alive, a_nKind, a_nVal, a_nA, a_nB, a_lv, a_nd, a_nv, a_outs, a_tKind, a_tVal, a_tA, a_tB, a_tN, a_preRel, a_preJ, a_preK, a_ruleUse, a_pend, a_pendN, a_tv, a_cv, a_mx, a_par, a_mp, a_res, a_bnd, a_order, a_stk, a_stSt) := by
  unfold wpY_ruleBegin
  exact nm_e (nm_e (nm_e (nm_e (nm_e (nm_e (nm_e h))))))
theorem y_append {post : Int32 → SY → Prop} {s n c κ : Nat} {pst : Nat → Nat} {p2 : Int32} (hs : s < 2) (hn : n ≤ 8) (hc : c ≤ n) (h1 : 1 ≤ κ) (h14 : κ ≤ 14) (h12 : κ ≠ 12) (e1 : a_tN (16 * 2 + s) = nI n) (e2 : a_pendN s = nI c) (e3 : ∀ q, q < c → a_pend (s * 8 + q) = nI (0 + pst q))
    (hy : ∀ v, ac_ok n c (nI κ) p2 κ v → post 1 (f_maxNodes, f_maxRules, f_phase, f_nCount, f_outCnt, f_apps, f_ruleCount, f_cex, f_curLive, f_orderN, a_alive, a_nKind, a_nVal, a_nA, a_nB, a_lv, a_nd, a_nv, a_outs, (upd a_tKind ((16 * 2 + s) * 8 + n) (nI κ)), (upd a_tVal ((16 * 2 + s) * 8 + n) (nI v)), (upd a_tA ((16 * 2 + s) * 8 + n) (pr_oX 0 (pt_a0 pst c κ))), (upd a_tB ((16 * 2 + s) * 8 + n) (pr_oX 0 (pt_b0 pst c κ))), (upd a_tN (16 * 2 + s) (nI (n + 1))), a_preRel, a_preJ, a_preK, a_ruleUse, (upd a_pend (s * 8 + (c - pr_ar κ)) (nI (0 + n))), (upd a_pendN s (nI (c - pr_ar κ + 1))), a_tv, a_cv, a_mx, a_par, a_mp, a_res, a_bnd, a_order, a_stk, a_stSt))
    (hno : (∀ v, ¬ ac_ok n c (nI κ) p2 κ v) → post 0 (f_maxNodes, f_maxRules, f_phase, f_nCount, f_outCnt, f_apps, f_ruleCount, f_cex, f_curLive, f_orderN, a_alive, a_nKind, a_nVal, a_nA, a_nB, a_lv, a_nd, a_nv, a_outs, a_tKind, a_tVal, a_tA, a_tB, a_tN, a_preRel, a_preJ, a_preK, a_ruleUse, a_pend, a_pendN, a_tv, a_cv, a_mx, a_par, a_mp, a_res, a_bnd, a_order, a_stk, a_stSt)) : wpY_append post (f_maxNodes, f_maxRules, f_phase, f_nCount, f_outCnt, f_apps, f_ruleCount, f_cex, f_curLive, f_orderN, a_alive, a_nKind, a_nVal, a_nA, a_nB, a_lv, a_nd, a_nv, a_outs, a_tKind, a_tVal, a_tA, a_tB, a_tN, a_preRel, a_preJ, a_preK, a_ruleUse, a_pend, a_pendN, a_tv, a_cv, a_mx, a_par, a_mp, a_res, a_bnd, a_order, a_stk, a_stSt) (nI (16 * 2 + s)) (nI κ) p2 := by
  have har := pr_ar_c κ
  have hin2 : vp_in (nI s) 2 := pk_in s 2 hs
  have hcs : (nI s).toNatClampNeg = s := nI_clamp (by omega)
  have hin34 : vp_in (nI (16 * 2 + s)) 34 := pk_in (16 * 2 + s) 34 (by omega)
  have hcw : (nI (16 * 2 + s)).toNatClampNeg = 16 * 2 + s := nI_clamp (by omega)
  have es : nI (16 * 2 + s) - 32 = nI s := by
    rw [show (32 : Int32) = nI 32 from rfl, pk_sub (by omega)]
    exact congrArg nI (by omega)
  unfold wpY_append
  refine nm_r es ⟨hin34, ?_⟩
  rw [hcw]
  refine nm_r e1 (pk_lt n 8 (fun hn8 => ?_) (fun hn8 => hno fun v h => absurd h.2.2.2.2.1 (by omega)))
  -- from the pending test on
  have h65 : ∀ v, (κ = 11 → p2 = nI v ∧ v < 256) → (13 ≤ κ → p2 = nI v ∧ v < 2) → (κ ≤ 10 → v = 0) → wY_append_65 post (nI (16 * 2 + s)) (nI κ) p2 (nI s) (nI n) f_maxNodes f_maxRules f_phase f_nCount f_outCnt f_apps f_ruleCount f_cex f_curLive f_orderN a_alive a_nKind a_nVal a_nA a_nB a_lv a_nd a_nv a_outs a_tKind a_tVal a_tA a_tB a_tN a_preRel a_preJ a_preK a_ruleUse a_pend a_pendN a_tv a_cv a_mx a_par a_mp a_res a_bnd a_order a_stk a_stSt := by
    intro v k11 k13 k10
    have hp : (nI ((16 * 2 + s) * 8 + n)).toNatClampNeg = (16 * 2 + s) * 8 + n := nI_clamp (by omega)
    have hinp : vp_in (nI ((16 * 2 + s) * 8 + n)) 272 := pk_in ((16 * 2 + s) * 8 + n) 272 (by omega)
    have h107 : pr_ar κ ≤ c → wY_append_107 post (nI (16 * 2 + s)) (nI κ) p2 (nI s) (nI n) f_maxNodes f_maxRules f_phase f_nCount f_outCnt f_apps f_ruleCount f_cex f_curLive f_orderN a_alive a_nKind a_nVal a_nA a_nB a_lv a_nd a_nv a_outs a_tKind a_tVal a_tA a_tB a_tN a_preRel a_preJ a_preK a_ruleUse a_pend a_pendN a_tv a_cv a_mx a_par a_mp a_res a_bnd a_order a_stk a_stSt := by
      intro hle
      have hfin := hy v ⟨rfl, h1, h14, h12, hn8, hle, k11, k13, k10⟩
      rw [show (0 : Nat) + n = n by omega] at hfin
      have e7 : nI s * 8 = nI (s * 8) := pk_mul s 8
      refine nm_r (nx_8 (16 * 2 + s) n) (nm_r e7 ⟨hinp, ?_⟩)
      rw [hp]
      refine nm_e ?_
      have h278 : ∀ pn tA tB, pn s = nI (c - pr_ar κ) → upd pn s (nI (c - pr_ar κ + 1)) = upd a_pendN s (nI (c - pr_ar κ + 1)) → tA = upd a_tA ((16 * 2 + s) * 8 + n) (pr_oX 0 (pt_a0 pst c κ)) → tB = upd a_tB ((16 * 2 + s) * 8 + n) (pr_oX 0 (pt_b0 pst c κ)) → wY_append_278 post (nI (16 * 2 + s)) (nI s) (nI n) (nI (s * 8)) f_maxNodes f_maxRules f_phase f_nCount f_outCnt f_apps f_ruleCount f_cex f_curLive f_orderN a_alive a_nKind a_nVal a_nA a_nB a_lv a_nd a_nv a_outs (upd a_tKind ((16 * 2 + s) * 8 + n) (nI κ)) (upd a_tVal ((16 * 2 + s) * 8 + n) (nI v)) tA tB a_tN a_preRel a_preJ a_preK a_ruleUse a_pend pn a_tv a_cv a_mx a_par a_mp a_res a_bnd a_order a_stk a_stSt := by
        intro pn tA tB ep eu eA eB
        subst eA eB
        refine ⟨hin2, ?_⟩
        rw [hcs, ep, nI_add, nI_clamp (n := s * 8 + (c - pr_ar κ)) (by omega), nI_1, nI_1, hcw, eu]
        exact ⟨pk_in (s * 8 + (c - pr_ar κ)) 16 (by omega), nm_e ⟨hin2, hin2, nm_e ⟨hin34, nm_e hfin⟩⟩⟩
      have h148 : ∀ x, x = nI v → wY_append_148 post (nI (16 * 2 + s)) (nI κ) (nI s) (nI n) (nI ((16 * 2 + s) * 8 + n)) (nI (s * 8)) x (nI ((16 * 2 + s) * 8 + n)) f_maxNodes f_maxRules f_phase f_nCount f_outCnt f_apps f_ruleCount f_cex f_curLive f_orderN a_alive a_nKind a_nVal a_nA a_nB a_lv a_nd a_nv a_outs (upd a_tKind ((16 * 2 + s) * 8 + n) (nI κ)) a_tVal a_tA a_tB a_tN a_preRel a_preJ a_preK a_ruleUse a_pend a_pendN a_tv a_cv a_mx a_par a_mp a_res a_bnd a_order a_stk a_stSt := by
        intro x hx
        subst hx
        refine ⟨hinp, ?_⟩
        rw [hp]
        refine nm_e ⟨hinp, nm_e ⟨hinp, nm_e ?_⟩⟩
        by_cases hb : κ ≤ 8
        · have ha2 := pr_ar_2 h1 hb
          refine y_isBin_t h1 hb (br_f (by decide) ⟨hin2, ?_⟩)
          rw [hcs, e2, nI_add]
          have q1 : nI (s * 8 + c) - 1 = nI (s * 8 + (c - 1)) := by
            rw [pr_s1 (by omega)]
            exact congrArg nI (by omega)
          have q2 : nI (s * 8 + c) - 2 = nI (s * 8 + (c - 2)) := by
            rw [show (2 : Int32) = nI 2 from rfl, pk_sub (by omega)]
            exact congrArg nI (by omega)
          have q3 : nI c - 2 = nI (c - pr_ar κ) := by
            rw [show (2 : Int32) = nI 2 from rfl, pk_sub (by omega), ha2]
          rw [q1, q2, q3, nI_clamp (n := s * 8 + (c - 1)) (by omega), nI_clamp (n := s * 8 + (c - 2)) (by omega), e3 _ (by omega), e3 _ (by omega)]
          refine ⟨pk_in (s * 8 + (c - 1)) 16 (by omega), hinp, nm_e ⟨hin2, pk_in (s * 8 + (c - 2)) 16 (by omega), hinp, nm_e ⟨hin2, hin2, nm_e (h278 _ _ _ pk_us up_up ?_ ?_)⟩⟩⟩
          · rw [up_up]
            unfold pt_a0
            rw [if_pos (by omega), ha2]
            rfl
          · rw [up_up]
            unfold pt_b0
            rw [if_pos ha2, ha2, show c - 2 + 1 = c - 1 by omega]
            rfl
        · refine y_isBin_f (by omega) (by omega) (br_t rfl ?_)
          by_cases hu : κ ≤ 10
          · have ha1 := pr_ar_1 (κ := κ) (by omega)
            refine y_isUn_t (by omega) (br_f (by decide) ⟨hin2, ?_⟩)
            rw [hcs, e2, nI_add]
            have q1 : nI (s * 8 + c) - 1 = nI (s * 8 + (c - 1)) := by
              rw [pr_s1 (by omega)]
              exact congrArg nI (by omega)
            have q3 : nI c - 1 = nI (c - pr_ar κ) := by
              rw [pr_s1 (by omega), ha1]
            rw [q1, q3, nI_clamp (n := s * 8 + (c - 1)) (by omega), e3 _ (by omega)]
            refine ⟨pk_in (s * 8 + (c - 1)) 16 (by omega), hinp, nm_e ⟨hin2, hin2, nm_e (h278 _ _ _ pk_us up_up ?_ ?_)⟩⟩
            · rw [up_up]
              unfold pt_a0
              rw [if_pos (by omega), ha1]
              rfl
            · unfold pt_b0
              rw [if_neg (by omega)]
              rfl
          · have ha0 := pr_ar_0 (κ := κ) (by omega)
            refine y_isUn_f (by omega) (by omega) (br_t rfl (h278 _ _ _ ?_ rfl ?_ ?_))
            · rw [ha0]
              exact e2
            · unfold pt_a0
              rw [if_neg (by omega)]
              rfl
            · unfold pt_b0
              rw [if_neg (by omega)]
              rfl
      refine pk_lt κ 11 (fun h => h148 _ ?_) (fun h => h148 _ ?_)
      · rw [k10 (by omega)]
        rfl
      · by_cases h11 : κ = 11
        · exact (k11 h11).1
        · exact (k13 (by omega)).1
    have hbad : ¬ pr_ar κ ≤ c → post 0 (f_maxNodes, f_maxRules, f_phase, f_nCount, f_outCnt, f_apps, f_ruleCount, f_cex, f_curLive, f_orderN, a_alive, a_nKind, a_nVal, a_nA, a_nB, a_lv, a_nd, a_nv, a_outs, a_tKind, a_tVal, a_tA, a_tB, a_tN, a_preRel, a_preJ, a_preK, a_ruleUse, a_pend, a_pendN, a_tv, a_cv, a_mx, a_par, a_mp, a_res, a_bnd, a_order, a_stk, a_stSt) := fun hb => hno fun v h => hb h.2.2.2.2.2.1
    by_cases hb : κ ≤ 8
    · have ha2 := pr_ar_2 h1 hb
      refine y_isBin_t h1 hb (br_f (by decide) ⟨hin2, ?_⟩)
      rw [hcs, e2]
      refine pk_le 2 c (fun h => ?_) (fun h => hbad (by omega))
      exact y_isUn_f (by omega) (by omega) (br_t rfl (h107 (by omega)))
    · refine y_isBin_f (by omega) (by omega) (br_t rfl ?_)
      by_cases hu : κ ≤ 10
      · have ha1 := pr_ar_1 (κ := κ) (by omega)
        refine y_isUn_t (by omega) (br_f (by decide) ⟨hin2, ?_⟩)
        rw [hcs, e2]
        exact pk_le 1 c (fun h => h107 (by omega)) (fun h => hbad (by omega))
      · have ha0 := pr_ar_0 (κ := κ) (by omega)
        exact y_isUn_f (by omega) (by omega) (br_t rfl (h107 (by omega)))
  have h54 : 13 ≤ κ → wY_append_54 post (nI (16 * 2 + s)) (nI κ) p2 (nI s) (nI n) f_maxNodes f_maxRules f_phase f_nCount f_outCnt f_apps f_ruleCount f_cex f_curLive f_orderN a_alive a_nKind a_nVal a_nA a_nB a_lv a_nd a_nv a_outs a_tKind a_tVal a_tA a_tB a_tN a_preRel a_preJ a_preK a_ruleUse a_pend a_pendN a_tv a_cv a_mx a_par a_mp a_res a_bnd a_order a_stk a_stSt := by
    intro h13
    by_cases hq : p2 < 0
    · refine br_t hq (hno fun v h => ?_)
      have := h.2.2.2.2.2.2.2.1 h13
      rw [this.1] at hq
      exact nI_pos (by omega) hq
    · refine br_f hq ?_
      obtain ⟨v, hv, rfl⟩ := nI_of hq
      refine pk_le v 1 (fun h => h65 v (fun h => absurd h (by omega)) (fun _ => ⟨rfl, by omega⟩) (fun h => absurd h (by omega))) (fun hv1 => hno fun v' h => ?_)
      have := h.2.2.2.2.2.2.2.1 h13
      have := pr_im this.1 hv (by omega)
      omega
  have h42 : ∀ v, (κ = 11 → p2 = nI v ∧ v < 256) → (κ ≤ 10 → v = 0) → wY_append_42 post (nI (16 * 2 + s)) (nI κ) p2 (nI s) (nI n) f_maxNodes f_maxRules f_phase f_nCount f_outCnt f_apps f_ruleCount f_cex f_curLive f_orderN a_alive a_nKind a_nVal a_nA a_nB a_lv a_nd a_nv a_outs a_tKind a_tVal a_tA a_tB a_tN a_preRel a_preJ a_preK a_ruleUse a_pend a_pendN a_tv a_cv a_mx a_par a_mp a_res a_bnd a_order a_stk a_stSt := by
    intro v k11 k10
    exact pk_eq κ 13 (fun e => h54 (by omega)) (fun n13 => pk_eq κ 14 (fun e => h54 (by omega)) (fun n14 => h65 v k11 (fun h => absurd h (by omega)) k10))
  refine pk_eq κ 11 (fun e => ?_) (fun n11 => h42 0 (fun h => absurd h n11) (fun _ => rfl))
  by_cases hq : p2 < 0
  · refine br_t hq (hno fun v h => ?_)
    have := h.2.2.2.2.2.2.1 e
    rw [this.1] at hq
    exact nI_pos (by omega) hq
  · refine br_f hq ?_
    obtain ⟨v, hv, rfl⟩ := nI_of hq
    refine pk_le v 255 (fun h => h42 v (fun _ => ⟨rfl, by omega⟩) (fun h => absurd h (by omega))) (fun hv1 => hno fun v' h => ?_)
    have := h.2.2.2.2.2.2.1 e
    have := pr_im this.1 hv (by omega)
    omega
end YDr
