/-! Y: matching -/
section YV
variable {f_maxNodes f_maxRules f_phase f_nCount f_outCnt f_apps f_ruleCount f_cex f_curLive f_orderN : Int32} {a_alive a_nKind a_nVal a_nA a_nB a_lv a_nd a_nv a_outs a_tKind a_tVal a_tA a_tB a_tN a_preRel a_preJ a_preK a_ruleUse a_pend a_pendN a_tv a_cv a_mx a_par a_mp a_res a_bnd a_order a_stk a_stSt : Nat → Int32}
variable {K : Nat → Nat} {V : Nat → Int32} {A B : Nat → Option Nat} {us rk O : Nat → Nat} {P R : pr_PT} {Rn oc : Nat} {L : List Nat}
theorem y_bindConst {post : Int32 → Prop} {bd : Nat → Option Nat} {j : Nat} (hj : j < 2) (hG : pr_gw 0 K V A B rk) (hg : gr_at 0 K V A B a_nKind a_nVal a_nA a_nB) (hb : a_bnd j = pr_oI (bd j)) (hT : ∀ d, bd j = some d → pr_T 0 K d) (h : post (by_v K V bd j)) : wpY_bindConst post (f_maxNodes, f_maxRules, f_phase, f_nCount, f_outCnt, f_apps, f_ruleCount, f_cex, f_curLive, f_orderN, a_alive, a_nKind, a_nVal, a_nA, a_nB, a_lv, a_nd, a_nv, a_outs, a_tKind, a_tVal, a_tA, a_tB, a_tN, a_preRel, a_preJ, a_preK, a_ruleUse, a_pend, a_pendN, a_tv, a_cv, a_mx, a_par, a_mp, a_res, a_bnd, a_order, a_stk, a_stSt) (nI j) := by
  have hin : vp_in (nI j) 2 := pk_in j 2 hj
  unfold wpY_bindConst
  refine ⟨hin, ?_⟩
  rw [nI_clamp (by omega)]
  refine nm_r hb ?_
  unfold by_v at h
  cases e : bd j with
  | none =>
    rw [e] at h
    exact br_t (show (-1 : Int32) < 0 by decide) h
  | some d =>
    rw [e] at h
    have td := hT d e
    have td2 := td.2.1
    have hK := (hG d td).1
    have hin : vp_in (nI d) 64 := pk_in d 64 (by omega)
    refine br_f (nI_pos (by omega)) (pk_le 32 d (fun h => absurd h (by omega)) (fun _ => ⟨hin, ?_⟩))
    rw [show (pr_oI (some d)).toNatClampNeg = d from nI_clamp (by omega), (hg d td).1, (hg d td).2.1]
    refine pk_eq (K d) 11 (fun e11 => ⟨hin, ?_⟩) (fun e11 => ?_)
    · replace h : post (if K d = 11 then V d else 0) := h
      rw [if_pos e11] at h
      exact h
    · replace h : post (if K d = 11 then V d else 0) := h
      rw [if_neg e11] at h
      exact h
theorem y_411 {post : Int32 → SY → Prop} {r cl mN : Nat} {C : Nat → Bool} (hr : r < 16) (hcl : cl ≤ 32) (hmN : mN ≤ 32) (hR : pt_ok R) (hU : tr_at 0 (r * 2 + 1) R a_tN a_tKind a_tVal a_tA a_tB) (hcv : ∀ q, q < pt_n R → a_cv q = pr_b (pt_cv R C q)) (hmx : ∀ q, q < pt_n R → a_mx q = pr_b (pt_mx R C q))
    (h : post (pr_b (decide (cl + pt_rm R C ≤ mN))) ((nI mN), f_maxRules, f_phase, f_nCount, f_outCnt, f_apps, f_ruleCount, f_cex, (nI cl), f_orderN, a_alive, a_nKind, a_nVal, a_nA, a_nB, a_lv, a_nd, a_nv, a_outs, a_tKind, a_tVal, a_tA, a_tB, a_tN, a_preRel, a_preJ, a_preK, a_ruleUse, a_pend, a_pendN, a_tv, a_cv, a_mx, a_par, a_mp, a_res, a_bnd, a_order, a_stk, a_stSt)) :
    ∀ d i, i + d = pt_n R → wY_match_411 post (nI (r * 2)) (nI mN) f_maxRules f_phase f_nCount f_outCnt f_apps f_ruleCount f_cex (nI cl) f_orderN a_alive a_nKind a_nVal a_nA a_nB a_lv a_nd a_nv a_outs a_tKind a_tVal a_tA a_tB a_tN a_preRel a_preJ a_preK a_ruleUse a_pend a_pendN a_tv a_cv a_mx a_par a_mp a_res a_bnd a_order a_stk a_stSt (d + 1) (nI (pr_rs (pt_rm1 R C) 0 i)) (nI i) := by
  intro d
  have h8 := hR.1
  have hrm : pt_rm R C ≤ 8 := by
    have : pt_rm R C ≤ pt_n R * 1 := pr_rs_bound (fun x _ _ => by
      unfold pt_rm1
      by_cases hx : pt_cv R C x = false ∨ pt_mx R C x = true ∧ pt_k R x ≠ 13
      · rw [if_pos hx]
        omega
      · rw [if_neg hx]
        omega)
    omega
  have hin34 : vp_in (nI (r * 2 + 1)) 34 := pk_in (r * 2 + 1) 34 (by omega)
  have hc34 : (nI (r * 2 + 1)).toNatClampNeg = r * 2 + 1 := nI_clamp (by omega)
  have e1 : nI (r * 2) + 1 = nI (r * 2 + 1) := nI_1 _
  induction d with
  | zero =>
    intro i hi
    show vp_in (nI (r * 2) + 1) 34 ∧ _
    rw [e1]
    refine ⟨hin34, ?_⟩
    rw [hc34, hU.1]
    refine pk_le (pt_n R) i (fun _ => ?_) (fun h => absurd h (by omega))
    rw [show i = pt_n R by omega]
    show (nI mN < nI cl + nI (pt_rm R C) → _) ∧ (¬ nI mN < nI cl + nI (pt_rm R C) → _)
    rw [nI_add]
    refine pk_lt mN (cl + pt_rm R C) (fun hl => ?_) (fun hl => ?_)
    · rw [decide_eq_false (by omega)] at h
      exact h
    · rw [decide_eq_true (by omega)] at h
      exact h
  | succ d ih =>
    intro i hi
    have hi' : i < pt_n R := by omega
    obtain ⟨k1, _⟩ := hU.2 i hi'
    have hs := pt_sm hR i hi'
    have hh := ih (i + 1) (by omega)
    rw [show pr_rs (pt_rm1 R C) 0 (i + 1) = pr_rs (pt_rm1 R C) 0 i + pt_rm1 R C (0 + i) from rfl, Nat.zero_add] at hh
    unfold pt_rm1 at hh
    have hin : vp_in (nI i) 8 := pk_in i 8 (by omega)
    show vp_in (nI (r * 2) + 1) 34 ∧ _
    rw [e1]
    refine ⟨hin34, ?_⟩
    rw [hc34, hU.1, nx_8, nI_clamp (n := (r * 2 + 1) * 8 + i) (by omega), k1, nI_clamp (n := i) (by omega), hcv i hi', hmx i hi']
    refine pk_le (pt_n R) i (fun h => absurd h (by omega)) (fun _ => pk_le 8 i (fun h => absurd h (by omega)) (fun _ => ⟨hin, ?_⟩))
    refine br_c (fun h0 => ?_) (fun h0 => ⟨hin, ?_⟩)
    · rw [if_pos (Or.inl ((pr_b0 _).mp h0))] at hh
      exact nm_r (nI_1 _) (nm_r (nI_1 _) hh)
    · have hc : ¬ pt_cv R C i = false := fun hx => by rw [hx] at h0; exact h0 rfl
      refine br_c (fun h1 => ?_) (fun h1 => ⟨pk_in ((r * 2 + 1) * 8 + i) 272 (by omega), ?_⟩)
      · rw [if_neg (fun hx => by
          rcases hx with hx | hx
          · exact hc hx
          · have := (pr_b0 _).mp h1
            rw [hx.1] at this
            cases this), Nat.add_zero] at hh
        exact nm_r (nI_1 _) hh
      · have hm : pt_mx R C i = true := by
          cases hx : pt_mx R C i with
          | true => rfl
          | false => rw [hx] at h1; exact absurd rfl h1
        refine pk_eq (pt_k R i) 13 (fun h2 => ?_) (fun h2 => ?_)
        · rw [if_neg (fun hx => by
            rcases hx with hx | hx
            · exact hc hx
            · exact hx.2 h2), Nat.add_zero] at hh
          exact nm_r (nI_1 _) hh
        · rw [if_pos (Or.inr ⟨hm, h2⟩)] at hh
          exact nm_r (nI_1 _) (nm_r (nI_1 _) hh)
theorem y_match81 {post : Int32 → SY → Prop} {r rl rj rK cl mN : Nat} (hr : r < 16) (hcl : cl ≤ 32) (hmN : mN ≤ 32) (hP : pt_ok P) (hf : pt_fin P) (hR : pt_ok R) (h14 : ∀ i, i < pt_n R → pt_k R i ≠ 14) (hG : pr_gw 0 K V A B rk) (hg : gr_at 0 K V A B a_nKind a_nVal a_nA a_nB) (hal : al_at 0 K a_alive) (hoc : oc ≤ 4) (hO : ∀ k, k < oc → pr_T 0 K (O k) ∧ a_outs k = nI (O k)) (hL : L = pr_lv A B O 0 oc) (hlv : ∀ c, 0 ≤ c → c < 0 + 32 → (a_lv c = 0 ↔ c ∉ L)) (hus : us = pr_us A B O L oc) (hub : ∀ d, us d < 2 ^ 31)
    (hT : tr_at 0 (r * 2) P a_tN a_tKind a_tVal a_tA a_tB) (hU : tr_at 0 (r * 2 + 1) R a_tN a_tKind a_tVal a_tA a_tB) (h4 : rl ≤ 4) (hj : rl ≠ 0 → rj < 2) (hpe : pe_at r rl rj rK a_preRel a_preJ a_preK) :
    ∀ i s mp bn, i ≤ pt_n P → pm_inv K V A B us P Rn i s → (∀ q, q < pt_n P → pm_as P i q → mp q = nI (s.1 q)) → (∀ j, j < 2 → bn j = pr_oI (s.2 j)) →
      (pm_run K V A B us P i s = none → ∀ mp' bn', post 0 ((nI mN), f_maxRules, f_phase, f_nCount, (nI oc), f_apps, f_ruleCount, f_cex, (nI cl), f_orderN, a_alive, a_nKind, a_nVal, a_nA, a_nB, a_lv, a_nd, a_nv, a_outs, a_tKind, a_tVal, a_tA, a_tB, a_tN, a_preRel, a_preJ, a_preK, a_ruleUse, a_pend, a_pendN, a_tv, a_cv, a_mx, a_par, mp', a_res, bn', a_order, a_stk, a_stSt)) →
      (∀ s', pm_run K V A B us P i s = some s' → rl ≠ 0 → ∃ d, s'.2 rj = some d) →
      (∀ s' mp' bn' cv' mx' par', pm_run K V A B us P i s = some s' → (∀ j, j < 2 → bn' j = pr_oI (s'.2 j)) → post (pr_b (pr_ph rl rj rK (by_v K V s'.2 0) (by_v K V s'.2 1) && decide (cl + pt_rm R (pt_has P 14) ≤ mN))) ((nI mN), f_maxRules, f_phase, f_nCount, (nI oc), f_apps, f_ruleCount, f_cex, (nI cl), f_orderN, a_alive, a_nKind, a_nVal, a_nA, a_nB, a_lv, a_nd, a_nv, a_outs, a_tKind, a_tVal, a_tA, a_tB, a_tN, a_preRel, a_preJ, a_preK, a_ruleUse, a_pend, a_pendN, a_tv, cv', mx', par', mp', a_res, bn', a_order, a_stk, a_stSt)) →
      wY_match_81 post (nI r) (nI (r * 2)) (nI (pt_n P)) (nI mN) f_maxRules f_phase f_nCount (nI oc) f_apps f_ruleCount f_cex (nI cl) f_orderN (i + 1) (nI i + (-1)) a_alive a_nKind a_nVal a_nA a_nB a_lv a_nd a_nv a_outs a_tKind a_tVal a_tA a_tB a_tN a_preRel a_preJ a_preK a_ruleUse a_pend a_pendN a_tv a_cv a_mx a_par mp a_res bn a_order a_stk a_stSt := by
  intro i
  have h8 := hP.1
  have hinr : vp_in (nI r) 17 := pk_in r 17 (by omega)
  have hcr : (nI r).toNatClampNeg = r := nI_clamp (by omega)
  induction i with
  | zero =>
    intro s mp bn hi hinv hmp hbn hno hrj hy
    have h400 : pr_ph rl rj rK (by_v K V s.2 0) (by_v K V s.2 1) = true → wY_match_400 post (nI r) (nI (r * 2)) (nI mN) f_maxRules f_phase f_nCount (nI oc) f_apps f_ruleCount f_cex (nI cl) f_orderN a_alive a_nKind a_nVal a_nA a_nB a_lv a_nd a_nv a_outs a_tKind a_tVal a_tA a_tB a_tN a_preRel a_preJ a_preK a_ruleUse a_pend a_pendN a_tv a_cv a_mx a_par mp a_res bn a_order a_stk a_stSt := by
      intro hph
      unfold wY_match_400
      refine y_constFlags (C := pt_has P 14) (by omega) hP hR h14 rfl hT hU (fun cv' mx' par' k1 k2 => ⟨pt_n R + 1, ?_⟩)
      have := hy s mp bn cv' mx' par' rfl hbn
      rw [hph, Bool.true_and] at this
      exact y_411 hr hcl hmN hR hU k1 k2 this (pt_n R) 0 (by omega)
    refine br_t (by decide) ?_
    refine y_bindConst (j := 0) (bd := s.2) (by omega) hG hg (hbn 0 (by omega)) (fun d hd => pm_bd hinv hd) ?_
    refine y_bindConst (j := 1) (bd := s.2) (by omega) hG hg (hbn 1 (by omega)) (fun d hd => pm_bd hinv hd) ⟨hinr, ?_⟩
    rw [hcr, hpe.1]
    refine pk_eq rl 0 (fun e => h400 ?_) (fun ne => ⟨hinr, ?_⟩)
    · unfold pr_ph
      rw [if_neg (by omega), if_neg (by omega), if_neg (by omega), if_neg (by omega)]
    · have hj2 := hj ne
      rw [(hpe.2 ne).1, nI_clamp (by omega), hbn rj hj2]
      obtain ⟨d, hd⟩ := hrj s rfl ne
      have td := (pm_bd hinv hd).2.1
      rw [hd]
      refine ⟨pk_in rj 2 hj2, br_f (nI_pos (n := d) (by omega)) ?_⟩
      refine y_preOk (by omega) h4 hj hpe (br_c (fun z => ?_) (fun z => h400 ?_))
      · have := hy s mp bn a_cv a_mx a_par rfl hbn
        rw [(pr_b0 _).mp z, Bool.false_and] at this
        exact this
      · cases hx : pr_ph rl rj rK (by_v K V s.2 0) (by_v K V s.2 1) with
        | true => rfl
        | false => rw [hx] at z; exact absurd rfl z
  | succ i ih =>
    intro s mp bn hi hinv hmp hbn hno hrj hy
    have hi' : i < pt_n P := by omega
    obtain ⟨e1, e2, e3, e4⟩ := hT.2 i hi'
    have hn := hP.2 i hi'
    have h9 := hn.2.2.2.2.2.2.2.2.1
    have h10 := hn.2.2.2.2.2.2.2.2.2.1
    have hs := pt_sm hP i hi'
    have has := pm_as_i hP hf hi'
    have td := hinv.2.2.1 i hi' has
    have td2 := td.2.1
    obtain ⟨k1, k2, k3, k4⟩ := hg _ td
    obtain ⟨g1, g2, g3, g4, g5, g6, g7, g8, g9, g10⟩ := hG _ td
    have hin : vp_in (nI (r * 2 * 8 + i)) 272 := pk_in (r * 2 * 8 + i) 272 (by omega)
    have hclx : (nI (r * 2 * 8 + i)).toNatClampNeg = r * 2 * 8 + i := nI_clamp (by omega)
    have hinn : vp_in (nI (s.1 i)) 64 := pk_in (s.1 i) 64 (by omega)
    have hcn : (nI (s.1 i)).toNatClampNeg = s.1 i := nI_clamp (by omega)
    have hrun : pm_run K V A B us P (i + 1) s = (match pm_st K V A B us P i s with
      | none => none
      | some s' => pm_run K V A B us P i s') := rfl
    have hals := hal (s.1 i) td.1 td.2.1
    rw [if_neg td.2.2] at hals
    have nx : ∀ s' mp' bn', pm_st K V A B us P i s = some s' → (∀ q, q < pt_n P → pm_as P i q → mp' q = nI (s'.1 q)) → (∀ j, j < 2 → bn' j = pr_oI (s'.2 j)) → wY_match_81 post (nI r) (nI (r * 2)) (nI (pt_n P)) (nI mN) f_maxRules f_phase f_nCount (nI oc) f_apps f_ruleCount f_cex (nI cl) f_orderN (i + 1) (nI i + (-1)) a_alive a_nKind a_nVal a_nA a_nB a_lv a_nd a_nv a_outs a_tKind a_tVal a_tA a_tB a_tN a_preRel a_preJ a_preK a_ruleUse a_pend a_pendN a_tv a_cv a_mx a_par mp' a_res bn' a_order a_stk a_stSt := by
      intro s' mp' bn' hs' hm' hb'
      exact ih s' mp' bn' (by omega) (pm_step hP hf hG hi' hinv hs') hm' hb' (fun h => hno (by rw [hrun, hs']; exact h)) (fun s2 h => hrj s2 (by rw [hrun, hs']; exact h)) (fun s2 mp2 bn2 cv2 mx2 pa2 h => hy s2 mp2 bn2 cv2 mx2 pa2 (by rw [hrun, hs']; exact h))
    have bad : pm_st K V A B us P i s = none → ∀ mp' bn', post 0 ((nI mN), f_maxRules, f_phase, f_nCount, (nI oc), f_apps, f_ruleCount, f_cex, (nI cl), f_orderN, a_alive, a_nKind, a_nVal, a_nA, a_nB, a_lv, a_nd, a_nv, a_outs, a_tKind, a_tVal, a_tA, a_tB, a_tN, a_preRel, a_preJ, a_preK, a_ruleUse, a_pend, a_pendN, a_tv, a_cv, a_mx, a_par, mp', a_res, bn', a_order, a_stk, a_stSt) := fun hs' => hno (by rw [hrun, hs'])
    have keep : pt_k P i ≥ 11 → ∀ q, q < pt_n P → pm_as P i q → mp q = nI (s.1 q) := by
      intro hk q hq hq'
      rcases pm_as_s hq' with y | y
      · exact hmp q hq y
      · rcases ((hP.2 q hq).2.2.2.2.2.2.2.2.2.2 i y).2.2 with z | z
        · rw [hn.2.2.2.2.1 (by omega)] at z
          cases z
        · rw [hn.2.2.2.2.2.1 (by omega)] at z
          cases z
    rw [pk_m1]
    refine br_f (nI_pos (by omega)) (nm_r (nx_8 (r * 2) i) ⟨hin, ?_⟩)
    rw [hclx]
    refine nm_r e1 ⟨pk_in i 8 (by omega), ?_⟩
    rw [nI_clamp (n := i) (by omega)]
    refine nm_r (hmp i hi' has) (br_f (nI_pos (by omega)) (pk_le 32 (s.1 i) (fun h => absurd h (by omega)) (fun _ => ⟨hinn, ?_⟩)))
    rw [hcn, k1, k2, e2]
    refine br_f (by rw [hals]; decide) ?_
    unfold pm_st at nx bad
    refine pk_eq (pt_k P i) 11 (fun e => ⟨hinn, ?_⟩) (fun n11 => ?_)
    · rw [if_pos e] at nx bad
      refine pk_eq (K (s.1 i)) 11 (fun hK => ⟨hinn, hin, br_c (fun hv => nm_e (nx s mp bn (if_pos ⟨hK, hv⟩) (keep (by omega)) hbn)) (fun hv => bad (if_neg fun hh => hv hh.2) mp bn)⟩) (fun hK => bad (if_neg fun hh => hK hh.1) mp bn)
    · rw [if_neg n11] at nx bad
      have h189 : 13 ≤ pt_k P i → wY_match_189 post (wY_match_81 post (nI r) (nI (r * 2)) (nI (pt_n P)) (nI mN) f_maxRules f_phase f_nCount (nI oc) f_apps f_ruleCount f_cex (nI cl) f_orderN (i + 1)) (nI r) (nI (r * 2)) (nI (pt_n P)) (nI i) (nI (r * 2 * 8 + i)) (nI (pt_k P i)) (nI (s.1 i)) (nI mN) f_maxRules f_phase f_nCount (nI oc) f_apps f_ruleCount f_cex (nI cl) f_orderN a_alive a_nKind a_nVal a_nA a_nB a_lv a_nd a_nv a_outs a_tKind a_tVal a_tA a_tB a_tN a_preRel a_preJ a_preK a_ruleUse a_pend a_pendN a_tv a_cv a_mx a_par mp a_res bn a_order a_stk a_stSt := by
        intro h13
        rw [if_pos h13] at nx bad
        have hv2 := hn.2.2.1 h13
        have h210 : ¬ (pt_k P i = 14 ∧ K (s.1 i) ≠ 11) → wY_match_210 post (wY_match_81 post (nI r) (nI (r * 2)) (nI (pt_n P)) (nI mN) f_maxRules f_phase f_nCount (nI oc) f_apps f_ruleCount f_cex (nI cl) f_orderN (i + 1)) (nI r) (nI (r * 2)) (nI (pt_n P)) (nI i) (nI (r * 2 * 8 + i)) (nI (s.1 i)) (nI mN) f_maxRules f_phase f_nCount (nI oc) f_apps f_ruleCount f_cex (nI cl) f_orderN a_alive a_nKind a_nVal a_nA a_nB a_lv a_nd a_nv a_outs a_tKind a_tVal a_tA a_tB a_tN a_preRel a_preJ a_preK a_ruleUse a_pend a_pendN a_tv a_cv a_mx a_par mp a_res bn a_order a_stk a_stSt := by
          intro hx14
          rw [if_neg hx14] at nx bad
          unfold pm_lf at nx bad
          have hinj : vp_in (nI (pt_v P i)) 2 := pk_in (pt_v P i) 2 hv2
          refine ⟨hin, ?_⟩
          rw [hclx, e2, nI_clamp (by omega), hbn _ hv2]
          refine ⟨hinj, ?_⟩
          cases hb : s.2 (pt_v P i) with
          | none =>
            rw [hb] at nx bad
            refine br_f (show ¬ (0 : Int32) ≤ -1 by decide) ⟨hin, hinj, nm_e (nm_e (nx _ mp _ rfl (keep (by omega)) fun j hj' => ?_))⟩
            show upd bn (pt_v P i) (nI (s.1 i)) j = pr_oI (pr_st s.2 (pt_v P i) (some (s.1 i)) j)
            by_cases ej : j = pt_v P i
            · rw [ej, pk_us, pr_st_s]
              rfl
            · rw [pk_un ej, pr_st_n ej]
              exact hbn j hj'
          | some x =>
            rw [hb] at nx bad
            have tx := (pm_bd hinv hb).2.1
            refine br_t (nI_pos' (n := x) (by omega)) ⟨hin, hinj, ?_⟩
            refine pk_eq x (s.1 i) (fun ex => nm_e (nx s mp bn (if_pos ex) (keep (by omega)) hbn)) (fun ex => bad (if_neg ex) mp bn)
        refine pk_eq (pt_k P i) 14 (fun e14 => ⟨hinn, ?_⟩) (fun n14 => h210 fun hh => n14 hh.1)
        rw [hcn, k1]
        refine pk_eq (K (s.1 i)) 11 (fun hK => h210 fun hh => hh.2 hK) (fun hK => ?_)
        exact bad (if_pos ⟨e14, hK⟩) mp bn
      refine pk_eq (pt_k P i) 13 (fun e => h189 (by omega)) (fun n13 => pk_eq (pt_k P i) 14 (fun e => h189 (by omega)) (fun n14 => ⟨hinn, ?_⟩))
      have hk : pt_k P i ≤ 10 := by have := hn.1; omega
      rw [if_neg (by omega)] at nx bad
      obtain ⟨ca, hca⟩ := hn.2.2.2.2.2.2.1 hk
      have hca' := h9 ca (Or.inl hca)
      have h296 : K (s.1 i) = pt_k P i → (i + 1 = pt_n P ∨ us (s.1 i) = 1) → wY_match_296 post (wY_match_81 post (nI r) (nI (r * 2)) (nI (pt_n P)) (nI mN) f_maxRules f_phase f_nCount (nI oc) f_apps f_ruleCount f_cex (nI cl) f_orderN (i + 1)) (nI r) (nI (r * 2)) (nI (pt_n P)) (nI i) (nI (r * 2 * 8 + i)) (nI (pt_k P i)) (nI (s.1 i)) (nI mN) f_maxRules f_phase f_nCount (nI oc) f_apps f_ruleCount f_cex (nI cl) f_orderN a_alive a_nKind a_nVal a_nA a_nB a_lv a_nd a_nv a_outs a_tKind a_tVal a_tA a_tB a_tN a_preRel a_preJ a_preK a_ruleUse a_pend a_pendN a_tv a_cv a_mx a_par mp a_res bn a_order a_stk a_stSt := by
        intro hK hr'
        have nx' := fun mp' => nx (pm_ch A B P i (s.1 i) s.1, s.2) mp' bn (if_pos ⟨hK, hr'⟩)
        obtain ⟨da, hda⟩ := g8 (by rw [hK]; exact hk)
        have eA : a_tA (r * 2 * 8 + i) = nI ca := by
          rw [e3, hca]
          show nI (0 + ca) = nI ca
          rw [Nat.zero_add]
        refine ⟨hin, hinn, ?_⟩
        rw [hclx, hcn, eA, nI_clamp (by omega), k3, hda]
        refine ⟨pk_in ca 8 (by omega), nm_e ?_⟩
        cases hb : pt_b P i with
        | none =>
          have h9b : 9 ≤ pt_k P i := by
            apply Classical.byContradiction
            intro hx
            obtain ⟨c, hc⟩ := hn.2.2.2.2.2.2.2.1 (by omega)
            rw [hb] at hc
            cases hc
          refine y_isBin_f (by omega) (Or.inr h9b) (br_t rfl (nm_e (nx' _ (fun q hq hq' => ?_) hbn)))
          show upd mp ca (nI da) q = nI (pm_ch A B P i (s.1 i) s.1 q)
          unfold pm_ch
          by_cases e : q = ca
          · subst e
            rw [pk_us, if_pos hca, hda]
            rfl
          · rw [pk_un e, if_neg (fun h => e (by rw [hca] at h; exact (Option.some.inj h).symm)), hb, if_neg (fun h => (nomatch h))]
            rcases pm_as_s hq' with y | y
            · exact hmp q hq y
            · rcases ((hP.2 q hq).2.2.2.2.2.2.2.2.2.2 i y).2.2 with z | z
              · rw [hca] at z
                exact absurd (Option.some.inj z).symm e
              · rw [hb] at z
                cases z
        | some cb =>
          have hcb' := h9 cb (Or.inr hb)
          have hk8 : pt_k P i ≤ 8 := by
            apply Classical.byContradiction
            intro hx
            rw [hn.2.2.2.2.2.1 (by omega)] at hb
            cases hb
          obtain ⟨db, hdb⟩ := g9 (by rw [hK]; exact hk8)
          have eB : a_tB (r * 2 * 8 + i) = nI cb := by
            rw [e4, hb]
            show nI (0 + cb) = nI cb
            rw [Nat.zero_add]
          have hab : ca ≠ cb := fun e => h10 ca hca (by rw [e]; exact hb)
          refine y_isBin_t hn.1.1 hk8 (br_f (by decide) ⟨hin, hinn, ?_⟩)
          rw [eB, nI_clamp (by omega), k4, hdb]
          refine ⟨pk_in cb 8 (by omega), nm_e (nm_e (nx' _ (fun q hq hq' => ?_) hbn))⟩
          show upd (upd mp ca (nI da)) cb (nI db) q = nI (pm_ch A B P i (s.1 i) s.1 q)
          unfold pm_ch
          by_cases e : q = cb
          · subst e
            rw [pk_us, if_neg (fun h => hab (by rw [hca] at h; exact Option.some.inj h)), if_pos hb, hdb]
            rfl
          · rw [pk_un e]
            by_cases e' : q = ca
            · subst e'
              rw [pk_us, if_pos hca, hda]
              rfl
            · rw [pk_un e', if_neg (fun h => e' (by rw [hca] at h; exact (Option.some.inj h).symm)), if_neg (fun h => e (by rw [hb] at h; exact (Option.some.inj h).symm))]
              rcases pm_as_s hq' with y | y
              · exact hmp q hq y
              · rcases ((hP.2 q hq).2.2.2.2.2.2.2.2.2.2 i y).2.2 with z | z
                · rw [hca] at z
                  exact absurd (Option.some.inj z).symm e'
                · rw [hb] at z
                  exact absurd (Option.some.inj z).symm e
      have eR : nI (pt_n P) - 1 = nI (pt_n P - 1) := pr_s1 (by omega)
      rw [eR]
      refine pk_eq (K (s.1 i)) (pt_k P i) (fun hK => ?_) (fun hK => bad (if_neg fun hh => hK hh.1) mp bn)
      refine pk_eq i (pt_n P - 1) (fun ei => h296 hK (Or.inl (by omega))) (fun ei => ?_)
      refine y_uses (L := L) (O := O) (by omega) hG hg hal hoc hO hL hlv ?_
      rw [← hus]
      refine pk_eq (us (s.1 i)) 1 (fun h1 => h296 hK (Or.inr h1)) (fun h1 => bad (if_neg fun hh => ?_) mp bn) rfl rfl (hub _)
      rcases hh.2 with y | y
      · omega
      · exact h1 y
theorem y_match {post : Int32 → SY → Prop} {r rl rj rK cl mN : Nat} (hr : r < 16) (hcl : cl ≤ 32) (hmN : mN ≤ 32) (hP : pt_ok P) (hf : pt_fin P) (hR : pt_ok R) (h14 : ∀ i, i < pt_n R → pt_k R i ≠ 14) (hG : pr_gw 0 K V A B rk) (hg : gr_at 0 K V A B a_nKind a_nVal a_nA a_nB) (hal : al_at 0 K a_alive) (hoc : oc ≤ 4) (hO : ∀ k, k < oc → pr_T 0 K (O k) ∧ a_outs k = nI (O k)) (hL : L = pr_lv A B O 0 oc) (hlv : ∀ c, 0 ≤ c → c < 0 + 32 → (a_lv c = 0 ↔ c ∉ L)) (hus : us = pr_us A B O L oc) (hub : ∀ d, us d < 2 ^ 31)
    (hT : tr_at 0 (r * 2) P a_tN a_tKind a_tVal a_tA a_tB) (hU : tr_at 0 (r * 2 + 1) R a_tN a_tKind a_tVal a_tA a_tB) (h4 : rl ≤ 4) (hj : rl ≠ 0 → rj < 2) (hpe : pe_at r rl rj rK a_preRel a_preJ a_preK) (tR : pr_T 0 K Rn)
    (hno : pm_run K V A B us P (pt_n P) (fun _ => Rn, fun _ => none) = none → ∀ mp' bn', post 0 ((nI mN), f_maxRules, f_phase, f_nCount, (nI oc), f_apps, f_ruleCount, f_cex, (nI cl), f_orderN, a_alive, a_nKind, a_nVal, a_nA, a_nB, a_lv, a_nd, a_nv, a_outs, a_tKind, a_tVal, a_tA, a_tB, a_tN, a_preRel, a_preJ, a_preK, a_ruleUse, a_pend, a_pendN, a_tv, a_cv, a_mx, a_par, mp', a_res, bn', a_order, a_stk, a_stSt))
    (hrj : ∀ s', pm_run K V A B us P (pt_n P) (fun _ => Rn, fun _ => none) = some s' → rl ≠ 0 → ∃ d, s'.2 rj = some d)
    (hy : ∀ s' mp' bn' cv' mx' par', pm_run K V A B us P (pt_n P) (fun _ => Rn, fun _ => none) = some s' → (∀ j, j < 2 → bn' j = pr_oI (s'.2 j)) → post (pr_b (pr_ph rl rj rK (by_v K V s'.2 0) (by_v K V s'.2 1) && decide (cl + pt_rm R (pt_has P 14) ≤ mN))) ((nI mN), f_maxRules, f_phase, f_nCount, (nI oc), f_apps, f_ruleCount, f_cex, (nI cl), f_orderN, a_alive, a_nKind, a_nVal, a_nA, a_nB, a_lv, a_nd, a_nv, a_outs, a_tKind, a_tVal, a_tA, a_tB, a_tN, a_preRel, a_preJ, a_preK, a_ruleUse, a_pend, a_pendN, a_tv, cv', mx', par', mp', a_res, bn', a_order, a_stk, a_stSt)) :
    wpY_match post ((nI mN), f_maxRules, f_phase, f_nCount, (nI oc), f_apps, f_ruleCount, f_cex, (nI cl), f_orderN, a_alive, a_nKind, a_nVal, a_nA, a_nB, a_lv, a_nd, a_nv, a_outs, a_tKind, a_tVal, a_tA, a_tB, a_tN, a_preRel, a_preJ, a_preK, a_ruleUse, a_pend, a_pendN, a_tv, a_cv, a_mx, a_par, a_mp, a_res, a_bnd, a_order, a_stk, a_stSt) (nI r) (nI Rn) := by
  have h8 := hP.1
  have h0 := hf.1
  have e2 : 2 * nI r = nI (r * 2) := by
    rw [show (2 : Int32) = nI 2 from rfl, pk_mul, Nat.mul_comm]
  have en : nI (pt_n P) - 1 = nI (pt_n P - 1) := pr_s1 h0
  have en2 : nI (pt_n P - 1) = nI (pt_n P) + (-1) := by
    rw [pr_m1 h0]
  unfold wpY_match
  refine nm_r e2 ⟨pk_in (r * 2) 34 (by omega), ?_⟩
  rw [nI_clamp (by omega)]
  refine nm_r hT.1 (pk_lt (pt_n P) 1 (fun h => absurd h (by omega)) (fun _ => pk_le (pt_n P) 8 (fun _ => ⟨9, ?_⟩) (fun h => absurd h (by omega))))
  have l30 : ∀ d i mp, i + d = 8 → wY_match_30 post (nI r) (nI Rn) (nI (r * 2)) (nI (pt_n P)) (nI mN) f_maxRules f_phase f_nCount (nI oc) f_apps f_ruleCount f_cex (nI cl) f_orderN (d + 1) (nI i) a_alive a_nKind a_nVal a_nA a_nB a_lv a_nd a_nv a_outs a_tKind a_tVal a_tA a_tB a_tN a_preRel a_preJ a_preK a_ruleUse a_pend a_pendN a_tv a_cv a_mx a_par mp a_res a_bnd a_order a_stk a_stSt := by
    intro d
    induction d with
    | zero =>
      intro i mp hi
      refine pk_le 8 i (fun _ => nm_e (nm_e ?_)) (fun h => absurd h (by omega))
      rw [en]
      refine ⟨pk_in (pt_n P - 1) 8 (by omega), ?_⟩
      rw [nI_clamp (by omega)]
      refine nm_e (nm_r en2 ⟨pt_n P + 1, ?_⟩)
      refine y_match81 (Rn := Rn) hr hcl hmN hP hf hR h14 hG hg hal hoc hO hL hlv hus hub hT hU h4 hj hpe (pt_n P) (fun _ => Rn, fun _ => none) _ _ (Nat.le_refl _) (pm_inv0 hf tR) (fun q hq hq' => ?_) (fun j hj' => ?_) hno hrj hy
      · have e : q = pt_n P - 1 := by
          rcases hq' with y | ⟨p, y1, y2, _⟩
          · omega
          · omega
        rw [e, pk_us]
      · have : j = 0 ∨ j = 1 := by omega
        rcases this with e | e
        · subst e
          rw [pk_un (by omega), pk_us]
          rfl
        · subst e
          rw [pk_us]
          rfl
    | succ d ih =>
      intro i mp hi
      refine pk_le 8 i (fun h => absurd h (by omega)) (fun _ => ⟨pk_in i 8 (by omega), ?_⟩)
      rw [nI_clamp (by omega)]
      exact nm_e (nm_r (nI_1 _) (ih (i + 1) _ (by omega)))
  exact l30 8 0 a_mp (by omega)
end YV
