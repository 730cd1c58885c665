/-! Y: check -/
section YQ
variable {f_maxNodes f_maxRules f_phase f_nCount f_outCnt f_apps f_ruleCount f_cex f_curLive f_orderN : Int32} {a_alive a_nKind a_nVal a_nA a_nB a_lv a_nd a_nv a_outs a_tKind a_tVal a_tA a_tB a_tN a_preRel a_preJ a_preK a_ruleUse a_pend a_pendN a_tv a_cv a_mx a_par a_mp a_res a_bnd a_order a_stk a_stSt : Nat → Int32}
variable {r rl rj rK : Nat} {v0 v1 : Int32}
theorem y_preOk {post : Int32 → Prop} (hr : r < 17) (h4 : rl ≤ 4) (hj : rl ≠ 0 → rj < 2) (hpe : pe_at r rl rj rK a_preRel a_preJ a_preK) (h : post (pr_b (pr_ph rl rj rK v0 v1))) : wpY_preOk post (f_maxNodes, f_maxRules, f_phase, f_nCount, f_outCnt, f_apps, f_ruleCount, f_cex, f_curLive, f_orderN, a_alive, a_nKind, a_nVal, a_nA, a_nB, a_lv, a_nd, a_nv, a_outs, a_tKind, a_tVal, a_tA, a_tB, a_tN, a_preRel, a_preJ, a_preK, a_ruleUse, a_pend, a_pendN, a_tv, a_cv, a_mx, a_par, a_mp, a_res, a_bnd, a_order, a_stk, a_stSt) (nI r) v0 v1 := by
  have hin : vp_in (nI r) 17 := pk_in r 17 hr
  have hcl : (nI r).toNatClampNeg = r := nI_clamp (by omega)
  have h14 : ∀ z, (rl ≠ 0 → z = (if rj = 0 then v0 else v1)) → wY_preOk_14 post (nI r) z f_maxNodes f_maxRules f_phase f_nCount f_outCnt f_apps f_ruleCount f_cex f_curLive f_orderN a_alive a_nKind a_nVal a_nA a_nB a_lv a_nd a_nv a_outs a_tKind a_tVal a_tA a_tB a_tN a_preRel a_preJ a_preK a_ruleUse a_pend a_pendN a_tv a_cv a_mx a_par a_mp a_res a_bnd a_order a_stk a_stSt := by
    intro z hz
    unfold pr_ph at h
    refine ⟨hin, ?_⟩
    rw [hcl]
    refine nm_e ⟨hin, nm_r hpe.1 ?_⟩
    by_cases h1 : rl = 0
    · rw [if_neg (by omega), if_neg (by omega), if_neg (by omega), if_neg (by omega)] at h
      exact pk_eq rl 1 (fun h => absurd h (by omega)) (fun _ => pk_eq rl 2 (fun h => absurd h (by omega)) (fun _ => pk_eq rl 3 (fun h => absurd h (by omega)) (fun _ => pk_eq rl 4 (fun h => absurd h (by omega)) (fun _ => h))))
    · rw [(hpe.2 (by omega)).2]
      rw [← hz (by omega)] at h
      refine pk_eq rl 1 (fun e => ?_) (fun n1 => pk_eq rl 2 (fun e => ?_) (fun n2 => pk_eq rl 3 (fun e => ?_) (fun n3 => pk_eq rl 4 (fun e => ?_) (fun _ => absurd h1 (by omega)))))
      · rw [if_pos e] at h
        refine br_c (fun hc => ?_) (fun hc => ?_)
        · rw [decide_eq_true hc] at h
          exact h
        · rw [decide_eq_false hc] at h
          exact h
      · rw [if_neg n1, if_pos e] at h
        refine br_c (fun hc => ?_) (fun hc => ?_)
        · rw [decide_eq_true hc] at h
          exact h
        · rw [decide_eq_false hc] at h
          exact h
      · rw [if_neg n1, if_neg n2, if_pos e] at h
        refine br_c (fun hc => ?_) (fun hc => ?_)
        · rw [decide_eq_true hc] at h
          exact h
        · rw [decide_eq_false hc] at h
          exact h
      · rw [if_neg n1, if_neg n2, if_neg n3, if_pos e] at h
        refine br_c (fun hc => ?_) (fun hc => ?_)
        · rw [decide_eq_true hc] at h
          exact h
        · rw [decide_eq_false hc] at h
          exact h
  unfold wpY_preOk
  refine ⟨hin, ?_⟩
  rw [hcl]
  refine br_c (fun hz => h14 _ fun hl => ?_) (fun hz => h14 _ fun hl => ?_)
  · have := (hpe.2 hl).1
    rw [this, pr_eq0 (by have := hj hl; omega)] at hz
    rw [if_pos hz]
  · have := (hpe.2 hl).1
    rw [this, pr_eq0 (by have := hj hl; omega)] at hz
    rw [if_neg hz]
end YQ
section YR
variable {f_maxNodes f_maxRules f_phase f_nCount f_outCnt f_apps f_ruleCount f_cex f_curLive f_orderN : Int32} {a_alive a_nKind a_nVal a_nA a_nB a_lv a_nd a_nv a_outs a_tKind a_tVal a_tA a_tB a_tN a_preRel a_preJ a_preK a_ruleUse a_pend a_pendN a_tv a_cv a_mx a_par a_mp a_res a_bnd a_order a_stk a_stSt : Nat → Int32}
variable {P R : pr_PT} {dl dj dk : Nat} {post : Int32 → SY → Prop}
theorem y_ff413 {J404 : Int32 → Int32 → Int32 → Int32 → Int32 → Int32 → Int32 → Int32 → Int32 → Int32 → Int32 → (Nat → Int32) → (Nat → Int32) → (Nat → Int32) → (Nat → Int32) → (Nat → Int32) → (Nat → Int32) → (Nat → Int32) → (Nat → Int32) → (Nat → Int32) → (Nat → Int32) → (Nat → Int32) → (Nat → Int32) → (Nat → Int32) → (Nat → Int32) → (Nat → Int32) → (Nat → Int32) → (Nat → Int32) → (Nat → Int32) → (Nat → Int32) → (Nat → Int32) → (Nat → Int32) → (Nat → Int32) → (Nat → Int32) → (Nat → Int32) → (Nat → Int32) → (Nat → Int32) → (Nat → Int32) → (Nat → Int32) → (Nat → Int32) → (Nat → Int32) → Prop} {a : Nat} {x3 : Int32} (hP : pt_ok P) (hR : pt_ok R) (hP0 : 0 < pt_n P) (hR0 : 0 < pt_n R) (hd : dl ≠ 0 → dj < 2) (hdl : dl ≤ 4) (hT : tr_at 0 32 P a_tN a_tKind a_tVal a_tA a_tB) (hU : tr_at 0 33 R a_tN a_tKind a_tVal a_tA a_tB) (hpe : pe_at 16 dl dj dk a_preRel a_preJ a_preK)
    (hJ : ∀ tv', (∀ b, b ≤ jd_hi P 1 → ¬ jd_bad P R dl dj dk a b) → J404 (nI (a + 1)) f_maxNodes f_maxRules f_phase f_nCount f_outCnt f_apps f_ruleCount f_cex f_curLive f_orderN a_alive a_nKind a_nVal a_nA a_nB a_lv a_nd a_nv a_outs a_tKind a_tVal a_tA a_tB a_tN a_preRel a_preJ a_preK a_ruleUse a_pend a_pendN tv' a_cv a_mx a_par a_mp a_res a_bnd a_order a_stk a_stSt)
    (hb : ∀ b tv', b ≤ jd_hi P 1 → jd_bad P R dl dj dk a b → (∀ b', b' < b → ¬ jd_bad P R dl dj dk a b') → post 6 (f_maxNodes, f_maxRules, f_phase, f_nCount, f_outCnt, f_apps, f_ruleCount, (nI a + 256 * nI b), f_curLive, f_orderN, a_alive, a_nKind, a_nVal, a_nA, a_nB, a_lv, a_nd, a_nv, a_outs, a_tKind, a_tVal, a_tA, a_tB, a_tN, a_preRel, a_preJ, a_preK, a_ruleUse, a_pend, a_pendN, tv', a_cv, a_mx, a_par, a_mp, a_res, a_bnd, a_order, a_stk, a_stSt)) :
    ∀ d b tv, b + d = jd_hi P 1 + 1 → (∀ b', b' < b → ¬ jd_bad P R dl dj dk a b') → wY_check_413 post J404 x3 (nI (jd_hi P 1)) (nI a) (d + 1) (nI b) f_maxNodes f_maxRules f_phase f_nCount f_outCnt f_apps f_ruleCount f_cex f_curLive f_orderN a_alive a_nKind a_nVal a_nA a_nB a_lv a_nd a_nv a_outs a_tKind a_tVal a_tA a_tB a_tN a_preRel a_preJ a_preK a_ruleUse a_pend a_pendN tv a_cv a_mx a_par a_mp a_res a_bnd a_order a_stk a_stSt := by
  intro d
  have hh := jd_hi_le P 1
  induction d with
  | zero =>
    intro b tv hb' h
    exact pk_lt (jd_hi P 1) b (fun _ => nm_r (nI_1 _) (hJ tv fun b hb'' => h b (by omega))) (fun h => absurd h (by omega))
  | succ d ih =>
    intro b tv hb' h
    refine pk_lt (jd_hi P 1) b (fun h => absurd h (by omega)) (fun _ => ?_)
    have nx : ∀ tv', ¬ jd_bad P R dl dj dk a b → wY_check_413 post J404 x3 (nI (jd_hi P 1)) (nI a) (d + 1) (nI (b + 1)) f_maxNodes f_maxRules f_phase f_nCount f_outCnt f_apps f_ruleCount f_cex f_curLive f_orderN a_alive a_nKind a_nVal a_nA a_nB a_lv a_nd a_nv a_outs a_tKind a_tVal a_tA a_tB a_tN a_preRel a_preJ a_preK a_ruleUse a_pend a_pendN tv' a_cv a_mx a_par a_mp a_res a_bnd a_order a_stk a_stSt := by
      intro tv' hn
      refine ih (b + 1) tv' (by omega) fun b' hb'' => ?_
      by_cases e : b' = b
      · rw [e]
        exact hn
      · exact h b' (by omega)
    refine y_preOk (r := 16) (by omega) hdl hd hpe (br_c (fun z => nm_r (nI_1 _) (nx tv fun hx => ?_)) (fun z => ?_))
    · have := hx.1
      rw [(pr_b0 _).mp z] at this
      cases this
    · have hph : pr_ph dl dj dk (nI a) (nI b) = true := by
        cases hx : pr_ph dl dj dk (nI a) (nI b) with
        | true => rfl
        | false => rw [hx] at z; exact absurd rfl z
      refine y_evalTree (w := 32) (by omega) hP hP0 hT (fun tv1 _ => ?_)
      refine y_evalTree (w := 33) (by omega) hR hR0 hU (fun tv2 _ => ?_)
      exact br_c (fun e => nm_r (nI_1 _) (nx tv2 fun hx => hx.2 e)) (fun e => nm_e (hb b tv2 (by omega) ⟨hph, e⟩ h))
theorem y_ff404 (hP : pt_ok P) (hR : pt_ok R) (hP0 : 0 < pt_n P) (hR0 : 0 < pt_n R) (hd : dl ≠ 0 → dj < 2) (hdl : dl ≤ 4) (hT : tr_at 0 32 P a_tN a_tKind a_tVal a_tA a_tB) (hU : tr_at 0 33 R a_tN a_tKind a_tVal a_tA a_tB) (hpe : pe_at 16 dl dj dk a_preRel a_preJ a_preK)
    (hn : ∀ tv', jd_none P R dl dj dk → post 0 (f_maxNodes, f_maxRules, f_phase, f_nCount, f_outCnt, f_apps, f_ruleCount, f_cex, f_curLive, f_orderN, a_alive, a_nKind, a_nVal, a_nA, a_nB, a_lv, a_nd, a_nv, a_outs, a_tKind, a_tVal, a_tA, a_tB, a_tN, a_preRel, a_preJ, a_preK, a_ruleUse, a_pend, a_pendN, tv', a_cv, a_mx, a_par, a_mp, a_res, a_bnd, a_order, a_stk, a_stSt))
    (hb : ∀ a b tv', jd_first P R dl dj dk a b → post 6 (f_maxNodes, f_maxRules, f_phase, f_nCount, f_outCnt, f_apps, f_ruleCount, (nI a + 256 * nI b), f_curLive, f_orderN, a_alive, a_nKind, a_nVal, a_nA, a_nB, a_lv, a_nd, a_nv, a_outs, a_tKind, a_tVal, a_tA, a_tB, a_tN, a_preRel, a_preJ, a_preK, a_ruleUse, a_pend, a_pendN, tv', a_cv, a_mx, a_par, a_mp, a_res, a_bnd, a_order, a_stk, a_stSt)) : ∃ n, wY_check_404 post (nI (jd_hi P 0)) (nI (jd_hi P 1)) n 0 f_maxNodes f_maxRules f_phase f_nCount f_outCnt f_apps f_ruleCount f_cex f_curLive f_orderN a_alive a_nKind a_nVal a_nA a_nB a_lv a_nd a_nv a_outs a_tKind a_tVal a_tA a_tB a_tN a_preRel a_preJ a_preK a_ruleUse a_pend a_pendN a_tv a_cv a_mx a_par a_mp a_res a_bnd a_order a_stk a_stSt := by
  have hh := jd_hi_le P 0
  have l31 : ∀ d a tv, a + d = jd_hi P 0 + 1 → (∀ a' b', a' < a → b' ≤ jd_hi P 1 → ¬ jd_bad P R dl dj dk a' b') → wY_check_404 post (nI (jd_hi P 0)) (nI (jd_hi P 1)) (d + 1) (nI a) f_maxNodes f_maxRules f_phase f_nCount f_outCnt f_apps f_ruleCount f_cex f_curLive f_orderN a_alive a_nKind a_nVal a_nA a_nB a_lv a_nd a_nv a_outs a_tKind a_tVal a_tA a_tB a_tN a_preRel a_preJ a_preK a_ruleUse a_pend a_pendN tv a_cv a_mx a_par a_mp a_res a_bnd a_order a_stk a_stSt := by
    intro d
    induction d with
    | zero =>
      intro a tv ha h
      exact pk_lt (jd_hi P 0) a (fun _ => hn tv fun a' b' h1 h2 => h a' b' (by omega) h2) (fun h => absurd h (by omega))
    | succ d ih =>
      intro a tv ha h
      refine pk_lt (jd_hi P 0) a (fun h => absurd h (by omega)) (fun _ => ⟨jd_hi P 1 + 1 + 1, ?_⟩)
      refine y_ff413 hP hR hP0 hR0 hd hdl hT hU hpe (fun tv' h' => ih (a + 1) tv' (by omega) fun a' b' h1 h2 => ?_) (fun b tv' h1 h2 h3 => hb a b tv' ⟨by omega, h1, h2, h, h3⟩) (jd_hi P 1 + 1) 0 tv (by omega) (fun b' h => absurd h (by omega))
      by_cases e : a' = a
      · rw [e]
        exact h' b' h2
      · exact h a' b' (by omega) h2
  exact ⟨jd_hi P 0 + 1 + 1, l31 (jd_hi P 0 + 1) 0 a_tv (by omega) (fun a' b' h => absurd h (by omega))⟩
theorem y_367 {z0 : Nat} (hP : pt_ok P) (hT : tr_at 0 32 P a_tN a_tKind a_tVal a_tA a_tB) (h : ∃ n, wY_check_404 post (nI z0) (nI (jd_hi P 1)) n 0 f_maxNodes f_maxRules f_phase f_nCount f_outCnt f_apps f_ruleCount f_cex f_curLive f_orderN a_alive a_nKind a_nVal a_nA a_nB a_lv a_nd a_nv a_outs a_tKind a_tVal a_tA a_tB a_tN a_preRel a_preJ a_preK a_ruleUse a_pend a_pendN a_tv a_cv a_mx a_par a_mp a_res a_bnd a_order a_stk a_stSt) : wY_check_367 post (nI z0) f_maxNodes f_maxRules f_phase f_nCount f_outCnt f_apps f_ruleCount f_cex f_curLive f_orderN a_alive a_nKind a_nVal a_nA a_nB a_lv a_nd a_nv a_outs a_tKind a_tVal a_tA a_tB a_tN a_preRel a_preJ a_preK a_ruleUse a_pend a_pendN a_tv a_cv a_mx a_par a_mp a_res a_bnd a_order a_stk a_stSt := by
  unfold jd_hi at h
  refine y_has (w := 32) (κ := 13) (j := 1) (by omega) hP hT (by decide) (by omega) (br_c (fun z => ?_) (fun z => ?_))
  · refine y_has (w := 32) (κ := 14) (j := 1) (by omega) hP hT (by decide) (by omega) (br_c (fun z1 => ?_) (fun z1 => ?_))
    · rw [if_neg (fun hh => by
        rw [(pr_b0 _).mp z, (pr_b0 _).mp z1] at hh
        rcases hh with y | y <;> cases y)] at h
      exact h
    · rw [if_pos (Or.inr (by
        cases hx : pt_has P 14 1 with
        | true => rfl
        | false => rw [hx] at z1; exact absurd rfl z1))] at h
      exact h
  · rw [if_pos (Or.inl (by
      cases hx : pt_has P 13 1 with
      | true => rfl
      | false => rw [hx] at z; exact absurd rfl z))] at h
    exact h
theorem y_329 {x1 x2 : Nat} (h1 : x1 < 2 ^ 31) (h2 : x2 < 2 ^ 31) (hP : pt_ok P) (hT : tr_at 0 32 P a_tN a_tKind a_tVal a_tA a_tB) (h : x2 < x1 → ∃ n, wY_check_404 post (nI (jd_hi P 0)) (nI (jd_hi P 1)) n 0 f_maxNodes f_maxRules f_phase f_nCount f_outCnt f_apps f_ruleCount f_cex f_curLive f_orderN a_alive a_nKind a_nVal a_nA a_nB a_lv a_nd a_nv a_outs a_tKind a_tVal a_tA a_tB a_tN a_preRel a_preJ a_preK a_ruleUse a_pend a_pendN a_tv a_cv a_mx a_par a_mp a_res a_bnd a_order a_stk a_stSt) (hno : x1 ≤ x2 → post 5 (f_maxNodes, f_maxRules, f_phase, f_nCount, f_outCnt, f_apps, f_ruleCount, f_cex, f_curLive, f_orderN, a_alive, a_nKind, a_nVal, a_nA, a_nB, a_lv, a_nd, a_nv, a_outs, a_tKind, a_tVal, a_tA, a_tB, a_tN, a_preRel, a_preJ, a_preK, a_ruleUse, a_pend, a_pendN, a_tv, a_cv, a_mx, a_par, a_mp, a_res, a_bnd, a_order, a_stk, a_stSt)) : wY_check_329 post (nI x1) (nI x2) f_maxNodes f_maxRules f_phase f_nCount f_outCnt f_apps f_ruleCount f_cex f_curLive f_orderN a_alive a_nKind a_nVal a_nA a_nB a_lv a_nd a_nv a_outs a_tKind a_tVal a_tA a_tB a_tN a_preRel a_preJ a_preK a_ruleUse a_pend a_pendN a_tv a_cv a_mx a_par a_mp a_res a_bnd a_order a_stk a_stSt := by
  refine pk_lt x2 x1 (fun hc => ?_) hno rfl rfl h2 h1
  have h' := h hc
  have e0 : ∀ q, jd_hi P 0 = q → wY_check_367 post (nI q) f_maxNodes f_maxRules f_phase f_nCount f_outCnt f_apps f_ruleCount f_cex f_curLive f_orderN a_alive a_nKind a_nVal a_nA a_nB a_lv a_nd a_nv a_outs a_tKind a_tVal a_tA a_tB a_tN a_preRel a_preJ a_preK a_ruleUse a_pend a_pendN a_tv a_cv a_mx a_par a_mp a_res a_bnd a_order a_stk a_stSt := fun q hq => y_367 hP hT (by rw [← hq]; exact h')
  unfold jd_hi at e0
  refine y_has (w := 32) (κ := 13) (j := 0) (by omega) hP hT (by decide) (by omega) (br_c (fun z => ?_) (fun z => ?_))
  · refine y_has (w := 32) (κ := 14) (j := 0) (by omega) hP hT (by decide) (by omega) (br_c (fun z1 => ?_) (fun z1 => ?_))
    · refine e0 0 (if_neg fun hh => ?_)
      rw [(pr_b0 _).mp z, (pr_b0 _).mp z1] at hh
      rcases hh with y | y <;> cases y
    · refine e0 255 (if_pos (Or.inr ?_))
      cases hx : pt_has P 14 0 with
      | true => rfl
      | false => rw [hx] at z1; exact absurd rfl z1
  · refine e0 255 (if_pos (Or.inl ?_))
    cases hx : pt_has P 13 0 with
    | true => rfl
    | false => rw [hx] at z; exact absurd rfl z
theorem y_280 {x1 : Nat} {C : Nat → Bool} (hR : pt_ok R) (hU : tr_at 0 33 R a_tN a_tKind a_tVal a_tA a_tB) (hcv : ∀ q, q < pt_n R → a_cv q = pr_b (pt_cv R C q)) (h : wY_check_329 post (nI x1) (nI (pt_rw R C)) f_maxNodes f_maxRules f_phase f_nCount f_outCnt f_apps f_ruleCount f_cex f_curLive f_orderN a_alive a_nKind a_nVal a_nA a_nB a_lv a_nd a_nv a_outs a_tKind a_tVal a_tA a_tB a_tN a_preRel a_preJ a_preK a_ruleUse a_pend a_pendN a_tv a_cv a_mx a_par a_mp a_res a_bnd a_order a_stk a_stSt) :
    ∀ d i, i + d = pt_n R → wY_check_280 post (nI x1) f_maxNodes f_maxRules f_phase f_nCount f_outCnt f_apps f_ruleCount f_cex f_curLive f_orderN a_alive a_nKind a_nVal a_nA a_nB a_lv a_nd a_nv a_outs a_tKind a_tVal a_tA a_tB a_tN a_preRel a_preJ a_preK a_ruleUse a_pend a_pendN a_tv a_cv a_mx a_par a_mp a_res a_bnd a_order a_stk a_stSt (d + 1) (nI (pr_rs (fun i => if pt_cv R C i then 0 else pr_w (pt_k R i)) 0 i)) (nI i) := by
  intro d
  have h8 := hR.1
  have eN : a_tN 33 = nI (pt_n R) := hU.1
  induction d with
  | zero =>
    intro i hi
    refine pk_le (pt_n R) i (fun _ => ?_) (fun h => absurd h (by omega)) eN
    rw [show i = pt_n R by omega]
    exact h
  | succ d ih =>
    intro i hi
    have hi' : i < pt_n R := by omega
    obtain ⟨k1, _⟩ := hU.2 i hi'
    have hs := pt_sm hR i hi'
    have hh := ih (i + 1) (by omega)
    rw [show pr_rs (fun i => if pt_cv R C i then 0 else pr_w (pt_k R i)) 0 (i + 1) = pr_rs (fun i => if pt_cv R C i then 0 else pr_w (pt_k R i)) 0 i + (if pt_cv R C (0 + i) then 0 else pr_w (pt_k R (0 + i))) from rfl, Nat.zero_add] at hh
    have e4 : (264 : Int32) + nI i = nI (33 * 8 + i) := nI_add 264 i
    refine pk_le (pt_n R) i (fun h => absurd h (by omega)) (fun _ => pk_le 8 i (fun h => absurd h (by omega)) (fun _ => ⟨pk_in i 8 (by omega), ?_⟩)) eN
    rw [nI_clamp (n := i) (by omega), hcv i hi', e4]
    refine br_c (fun h0 => ⟨pk_in (33 * 8 + i) 272 (by omega), ?_⟩) (fun h0 => nm_r (nI_1 _) ?_)
    · rw [nI_clamp (by omega), k1]
      rw [(pr_b0 _).mp h0, if_neg (by decide)] at hh
      exact y_weight (by omega) (nm_r (nI_add _ _) (nm_r (nI_1 _) hh))
    · have hx : pt_cv R C i = true := by
        cases hx : pt_cv R C i with
        | true => rfl
        | false => rw [hx] at h0; exact absurd rfl h0
      rw [hx, if_pos rfl, Nat.add_zero] at hh
      exact hh
theorem y_232 (hP : pt_ok P) (hT : tr_at 0 32 P a_tN a_tKind a_tVal a_tA a_tB) (h : wY_check_272 post (nI (pt_pw P)) 0 f_maxNodes f_maxRules f_phase f_nCount f_outCnt f_apps f_ruleCount f_cex f_curLive f_orderN a_alive a_nKind a_nVal a_nA a_nB a_lv a_nd a_nv a_outs a_tKind a_tVal a_tA a_tB a_tN a_preRel a_preJ a_preK a_ruleUse a_pend a_pendN a_tv a_cv a_mx a_par a_mp a_res a_bnd a_order a_stk a_stSt) :
    ∀ d i, i + d = pt_n P → wY_check_232 post 0 f_maxNodes f_maxRules f_phase f_nCount f_outCnt f_apps f_ruleCount f_cex f_curLive f_orderN a_alive a_nKind a_nVal a_nA a_nB a_lv a_nd a_nv a_outs a_tKind a_tVal a_tA a_tB a_tN a_preRel a_preJ a_preK a_ruleUse a_pend a_pendN a_tv a_cv a_mx a_par a_mp a_res a_bnd a_order a_stk a_stSt (d + 1) (nI (pr_rs (fun i => pr_w (pt_k P i)) 0 i)) (nI i) := by
  intro d
  have h8 := hP.1
  have eN : a_tN 32 = nI (pt_n P) := hT.1
  induction d with
  | zero =>
    intro i hi
    refine pk_le (pt_n P) i (fun _ => ?_) (fun h => absurd h (by omega)) eN
    rw [show i = pt_n P by omega]
    exact h
  | succ d ih =>
    intro i hi
    have hi' : i < pt_n P := by omega
    obtain ⟨k1, _⟩ := hT.2 i hi'
    have hs := pt_sm hP i hi'
    have hh := ih (i + 1) (by omega)
    rw [show pr_rs (fun i => pr_w (pt_k P i)) 0 (i + 1) = pr_rs (fun i => pr_w (pt_k P i)) 0 i + pr_w (pt_k P (0 + i)) from rfl, Nat.zero_add] at hh
    have e4 : (256 : Int32) + nI i = nI (32 * 8 + i) := nI_add 256 i
    refine pk_le (pt_n P) i (fun h => absurd h (by omega)) (fun _ => pk_le 8 i (fun h => absurd h (by omega)) (fun _ => ?_)) eN
    rw [e4]
    refine ⟨pk_in (32 * 8 + i) 272 (by omega), ?_⟩
    rw [nI_clamp (by omega), k1]
    exact y_weight (by omega) (nm_r (nI_add _ _) (nm_r (nI_1 _) hh))
theorem y_121 (hP : pt_ok P) (hR : pt_ok R) (hT : tr_at 0 32 P a_tN a_tKind a_tVal a_tA a_tB) (hU : tr_at 0 33 R a_tN a_tKind a_tVal a_tA a_tB)
    (hy : (∀ i, i < pt_n R → pt_k R i = 13 → pt_has P 13 (pt_v R i) = true ∨ pt_has P 14 (pt_v R i) = true) → wY_check_196 post f_maxNodes f_maxRules f_phase f_nCount f_outCnt f_apps f_ruleCount f_cex f_curLive f_orderN a_alive a_nKind a_nVal a_nA a_nB a_lv a_nd a_nv a_outs a_tKind a_tVal a_tA a_tB a_tN a_preRel a_preJ a_preK a_ruleUse a_pend a_pendN a_tv a_cv a_mx a_par a_mp a_res a_bnd a_order a_stk a_stSt) (hno : (∃ i, i < pt_n R ∧ pt_k R i = 13 ∧ pt_has P 13 (pt_v R i) = false ∧ pt_has P 14 (pt_v R i) = false) → post 3 (f_maxNodes, f_maxRules, f_phase, f_nCount, f_outCnt, f_apps, f_ruleCount, f_cex, f_curLive, f_orderN, a_alive, a_nKind, a_nVal, a_nA, a_nB, a_lv, a_nd, a_nv, a_outs, a_tKind, a_tVal, a_tA, a_tB, a_tN, a_preRel, a_preJ, a_preK, a_ruleUse, a_pend, a_pendN, a_tv, a_cv, a_mx, a_par, a_mp, a_res, a_bnd, a_order, a_stk, a_stSt)) :
    ∀ d i, i + d = pt_n R → (∀ q, q < i → pt_k R q = 13 → pt_has P 13 (pt_v R q) = true ∨ pt_has P 14 (pt_v R q) = true) → wY_check_121 post f_maxNodes f_maxRules f_phase f_nCount f_outCnt f_apps f_ruleCount f_cex f_curLive f_orderN a_alive a_nKind a_nVal a_nA a_nB a_lv a_nd a_nv a_outs a_tKind a_tVal a_tA a_tB a_tN a_preRel a_preJ a_preK a_ruleUse a_pend a_pendN a_tv a_cv a_mx a_par a_mp a_res a_bnd a_order a_stk a_stSt (d + 1) (nI i) := by
  intro d
  have h8 := hR.1
  have eN : a_tN 33 = nI (pt_n R) := hU.1
  induction d with
  | zero =>
    intro i hi h
    exact pk_le (pt_n R) i (fun _ => hy fun q hq => h q (by omega)) (fun h => absurd h (by omega)) eN
  | succ d ih =>
    intro i hi h
    have hi' : i < pt_n R := by omega
    obtain ⟨k1, k2, _⟩ := hU.2 i hi'
    have hs := pt_sm hR i hi'
    have e4 : (264 : Int32) + nI i = nI (33 * 8 + i) := nI_add 264 i
    have hin : vp_in (nI (33 * 8 + i)) 272 := pk_in (33 * 8 + i) 272 (by omega)
    have nx : (pt_k R i = 13 → pt_has P 13 (pt_v R i) = true ∨ pt_has P 14 (pt_v R i) = true) → wY_check_121 post f_maxNodes f_maxRules f_phase f_nCount f_outCnt f_apps f_ruleCount f_cex f_curLive f_orderN a_alive a_nKind a_nVal a_nA a_nB a_lv a_nd a_nv a_outs a_tKind a_tVal a_tA a_tB a_tN a_preRel a_preJ a_preK a_ruleUse a_pend a_pendN a_tv a_cv a_mx a_par a_mp a_res a_bnd a_order a_stk a_stSt (d + 1) (nI (i + 1)) := by
      intro hx
      refine ih (i + 1) (by omega) fun q hq => ?_
      by_cases e : q = i
      · rw [e]
        exact hx
      · exact h q (by omega)
    refine pk_le (pt_n R) i (fun h => absurd h (by omega)) (fun _ => pk_le 8 i (fun h => absurd h (by omega)) (fun _ => ?_)) eN
    rw [e4]
    refine ⟨hin, ?_⟩
    rw [nI_clamp (by omega)]
    refine nm_r k2 ⟨hin, ?_⟩
    rw [k1]
    refine pk_eq (pt_k R i) 13 (fun e => ?_) (fun e => nm_r (nI_1 _) (nx fun h => absurd h e))
    refine y_has (w := 32) (κ := 13) (by omega) hP hT (by decide) hs.2 (br_c (fun z => ?_) (fun z => nm_r (nI_1 _) (nx fun _ => Or.inl ?_)))
    · refine y_has (w := 32) (κ := 14) (by omega) hP hT (by decide) hs.2 (br_c (fun z1 => hno ⟨i, hi', e, (pr_b0 _).mp z, (pr_b0 _).mp z1⟩) (fun z1 => nm_r (nI_1 _) (nx fun _ => Or.inr ?_)))
      cases hx : pt_has P 14 (pt_v R i) with
      | true => rfl
      | false => rw [hx] at z1; exact absurd rfl z1
    · cases hx : pt_has P 13 (pt_v R i) with
      | true => rfl
      | false => rw [hx] at z; exact absurd rfl z
theorem y_82 (hP : pt_ok P) (hT : tr_at 0 32 P a_tN a_tKind a_tVal a_tA a_tB) (hy : (∀ j, j < 2 → ¬ (pt_has P 13 j = true ∧ pt_has P 14 j = true)) → ∃ n, wY_check_121 post f_maxNodes f_maxRules f_phase f_nCount f_outCnt f_apps f_ruleCount f_cex f_curLive f_orderN a_alive a_nKind a_nVal a_nA a_nB a_lv a_nd a_nv a_outs a_tKind a_tVal a_tA a_tB a_tN a_preRel a_preJ a_preK a_ruleUse a_pend a_pendN a_tv a_cv a_mx a_par a_mp a_res a_bnd a_order a_stk a_stSt n 0) (hno : (∃ j, j < 2 ∧ pt_has P 13 j = true ∧ pt_has P 14 j = true) → post 3 (f_maxNodes, f_maxRules, f_phase, f_nCount, f_outCnt, f_apps, f_ruleCount, f_cex, f_curLive, f_orderN, a_alive, a_nKind, a_nVal, a_nA, a_nB, a_lv, a_nd, a_nv, a_outs, a_tKind, a_tVal, a_tA, a_tB, a_tN, a_preRel, a_preJ, a_preK, a_ruleUse, a_pend, a_pendN, a_tv, a_cv, a_mx, a_par, a_mp, a_res, a_bnd, a_order, a_stk, a_stSt)) :
    ∀ d j, j + d = 2 → (∀ i, i < j → ¬ (pt_has P 13 i = true ∧ pt_has P 14 i = true)) → wY_check_82 post f_maxNodes f_maxRules f_phase f_nCount f_outCnt f_apps f_ruleCount f_cex f_curLive f_orderN a_alive a_nKind a_nVal a_nA a_nB a_lv a_nd a_nv a_outs a_tKind a_tVal a_tA a_tB a_tN a_preRel a_preJ a_preK a_ruleUse a_pend a_pendN a_tv a_cv a_mx a_par a_mp a_res a_bnd a_order a_stk a_stSt (d + 1) (nI j) := by
  intro d
  induction d with
  | zero =>
    intro j hj h
    exact pk_le 2 j (fun _ => hy fun i hi => h i (by omega)) (fun h => absurd h (by omega))
  | succ d ih =>
    intro j hj h
    have nx : ¬ (pt_has P 13 j = true ∧ pt_has P 14 j = true) → wY_check_82 post f_maxNodes f_maxRules f_phase f_nCount f_outCnt f_apps f_ruleCount f_cex f_curLive f_orderN a_alive a_nKind a_nVal a_nA a_nB a_lv a_nd a_nv a_outs a_tKind a_tVal a_tA a_tB a_tN a_preRel a_preJ a_preK a_ruleUse a_pend a_pendN a_tv a_cv a_mx a_par a_mp a_res a_bnd a_order a_stk a_stSt (d + 1) (nI (j + 1)) := by
      intro hn
      refine ih (j + 1) (by omega) fun i hi => ?_
      by_cases e : i = j
      · rw [e]
        exact hn
      · exact h i (by omega)
    refine pk_le 2 j (fun h => absurd h (by omega)) (fun _ => ?_)
    refine y_has (w := 32) (κ := 13) (by omega) hP hT (by decide) (by omega) (br_c (fun z => nm_r (nI_1 _) (nx fun hx => ?_)) (fun z => ?_))
    · rw [(pr_b0 _).mp z] at hx
      cases hx.1
    · refine y_has (w := 32) (κ := 14) (by omega) hP hT (by decide) (by omega) (br_c (fun z1 => nm_r (nI_1 _) (nx fun hx => ?_)) (fun z1 => hno ⟨j, by omega, ?_, ?_⟩))
      · rw [(pr_b0 _).mp z1] at hx
        cases hx.2
      · cases hx : pt_has P 13 j with
        | true => rfl
        | false => rw [hx] at z; exact absurd rfl z
      · cases hx : pt_has P 14 j with
        | true => rfl
        | false => rw [hx] at z1; exact absurd rfl z1
theorem jd_vf_iff (hR : pt_ok R) : jd_vf P R ↔ (∀ j, j < 2 → ¬ (pt_has P 13 j = true ∧ pt_has P 14 j = true)) ∧ ∀ i, i < pt_n R → pt_k R i = 13 → pt_has P 13 (pt_v R i) = true ∨ pt_has P 14 (pt_v R i) = true := by
  constructor
  · intro h
    refine ⟨fun j hj => (h j hj).1, fun i hi hk => ?_⟩
    have hv := (hR.2 i hi).2.2.1 (by omega)
    cases h1 : pt_has P 13 (pt_v R i) with
    | true => exact Or.inl rfl
    | false =>
      cases h2 : pt_has P 14 (pt_v R i) with
      | true => exact Or.inr rfl
      | false =>
        have := (h _ hv).2 h1 h2
        rw [pt_has_t.mpr ⟨i, hi, hk, rfl⟩] at this
        cases this
  · rintro ⟨h1, h2⟩ j hj
    refine ⟨h1 j hj, fun a b => ?_⟩
    rw [pt_has_f]
    rintro i hi ⟨hk, hv⟩
    rcases h2 i hi hk with y | y
    · rw [hv, a] at y
      cases y
    · rw [hv, b] at y
      cases y
theorem y_check {rc mR c0 c1 : Nat} {ps0 ps1 : Nat → Nat} (hrc : rc ≤ mR) (hmR : mR ≤ 16) (hP : pt_ok P) (hR : pt_ok R) (hp0 : pd_ok P ps0 c0) (hp1 : pd_ok R ps1 c1) (h14 : ∀ i, i < pt_n R → pt_k R i ≠ 14) (hd : dl ≠ 0 → dj < 2) (hdl : dl ≤ 4) (hT : tr_at 0 32 P a_tN a_tKind a_tVal a_tA a_tB) (hU : tr_at 0 33 R a_tN a_tKind a_tVal a_tA a_tB) (hpe : pe_at 16 dl dj dk a_preRel a_preJ a_preK)
    (e0 : a_pendN 0 = nI c0) (e1 : a_pendN 1 = nI c1)
    (h : ∀ v c tv' cv' mx' par', jd_v rc mR P R c0 c1 dl dj dk v c → post (nI v) (f_maxNodes, (nI mR), f_phase, f_nCount, f_outCnt, f_apps, (nI rc), (if v = 6 then c else f_cex), f_curLive, f_orderN, a_alive, a_nKind, a_nVal, a_nA, a_nB, a_lv, a_nd, a_nv, a_outs, a_tKind, a_tVal, a_tA, a_tB, a_tN, a_preRel, a_preJ, a_preK, a_ruleUse, a_pend, a_pendN, tv', cv', mx', par', a_mp, a_res, a_bnd, a_order, a_stk, a_stSt)) :
    wpY_check post (f_maxNodes, (nI mR), f_phase, f_nCount, f_outCnt, f_apps, (nI rc), f_cex, f_curLive, f_orderN, a_alive, a_nKind, a_nVal, a_nA, a_nB, a_lv, a_nd, a_nv, a_outs, a_tKind, a_tVal, a_tA, a_tB, a_tN, a_preRel, a_preJ, a_preK, a_ruleUse, a_pend, a_pendN, a_tv, a_cv, a_mx, a_par, a_mp, a_res, a_bnd, a_order, a_stk, a_stSt) := by
  have h8P := hP.1
  have h8R := hR.1
  have hc0 := hp0.1
  have hc1 := hp1.1
  have eN : a_tN 32 = nI (pt_n P) := hT.1
  have eM : a_tN 33 = nI (pt_n R) := hU.1
  unfold wpY_check
  refine pk_lt rc mR (fun hlt => ?_) (fun hge => h 1 (-1) _ _ _ _ (Or.inl ⟨rfl, rfl, by omega⟩))
  have no2 : ¬ jd_sh P c0 c1 → post 2 (f_maxNodes, (nI mR), f_phase, f_nCount, f_outCnt, f_apps, (nI rc), f_cex, f_curLive, f_orderN, a_alive, a_nKind, a_nVal, a_nA, a_nB, a_lv, a_nd, a_nv, a_outs, a_tKind, a_tVal, a_tA, a_tB, a_tN, a_preRel, a_preJ, a_preK, a_ruleUse, a_pend, a_pendN, a_tv, a_cv, a_mx, a_par, a_mp, a_res, a_bnd, a_order, a_stk, a_stSt) := fun hsh => h 2 (-1) _ _ _ _ (Or.inr (Or.inl ⟨rfl, rfl, ⟨fun _ => by omega, fun h => absurd h (by omega), fun h => absurd h (by omega), fun h => absurd h (by omega), fun h => absurd h (by omega)⟩, hsh⟩))
  refine pk_eq (pt_n P) 0 (fun e => no2 fun hs => by have := hs.1; omega) (fun nP => ?_) eN
  refine pk_eq (pt_n R) 0 (fun e => no2 fun hs => by have := hs.2.1; omega) (fun nR => ?_) eM
  refine pk_eq c0 1 (fun h0 => pk_eq c1 1 (fun h1 => ?_) (fun h1 => no2 fun hs => h1 hs.2.1) e1) (fun h0 => no2 fun hs => h0 hs.1) e0
  have ek : ((256 : Int32) + a_tN 32) - 1 = nI (32 * 8 + (pt_n P - 1)) := by
    rw [eN, show (256 : Int32) = nI 256 from rfl, nI_add, pr_s1 (by omega)]
    exact congrArg nI (by omega)
  show vp_in (((256 : Int32) + a_tN 32) - 1) 272 ∧ ((a_tKind (((256 : Int32) + a_tN 32) - 1).toNatClampNeg < 11 → _) ∧ (¬ a_tKind (((256 : Int32) + a_tN 32) - 1).toNatClampNeg < 11 → _))
  rw [ek]
  refine ⟨pk_in (32 * 8 + (pt_n P - 1)) 272 (by omega), ?_⟩
  rw [nI_clamp (by omega), (hT.2 (pt_n P - 1) (by omega)).1]
  have hkP := (hP.2 (pt_n P - 1) (by omega)).1
  refine pk_lt (pt_k P (pt_n P - 1)) 11 (fun hk => ?_) (fun hk => no2 fun hs => by have := hs.2.2; omega)
  have hsh : jd_sh P c0 c1 := ⟨h0, h1, by omega⟩
  have hvf := jd_vf_iff (P := P) hR
  have no3 : ¬ jd_vf P R → post 3 (f_maxNodes, (nI mR), f_phase, f_nCount, f_outCnt, f_apps, (nI rc), f_cex, f_curLive, f_orderN, a_alive, a_nKind, a_nVal, a_nA, a_nB, a_lv, a_nd, a_nv, a_outs, a_tKind, a_tVal, a_tA, a_tB, a_tN, a_preRel, a_preJ, a_preK, a_ruleUse, a_pend, a_pendN, a_tv, a_cv, a_mx, a_par, a_mp, a_res, a_bnd, a_order, a_stk, a_stSt) := fun hn => h 3 (-1) _ _ _ _ (Or.inr (Or.inr (Or.inl ⟨rfl, rfl, ⟨fun _ => by omega, fun _ => hsh, fun h => absurd h (by omega), fun h => absurd h (by omega), fun h => absurd h (by omega)⟩, hn⟩)))
  refine ⟨3, y_82 hP hT (fun hv1 => ⟨pt_n R + 1, ?_⟩) (fun ⟨j, j1, j2, j3⟩ => no3 fun hv => (hvf.mp hv).1 j j1 ⟨j2, j3⟩) 2 0 (by omega) (fun i hi => absurd hi (by omega))⟩
  refine y_121 hP hR hT hU (fun hv2 => ?_) (fun ⟨i, i1, i2, i3, i4⟩ => no3 fun hv => ?_) (pt_n R) 0 (by omega) (fun q hq => absurd hq (by omega))
  · have hv : jd_vf P R := hvf.mpr ⟨hv1, hv2⟩
    have h232 : jd_pf P dl dj → ∃ n, wY_check_232 post 0 f_maxNodes (nI mR) f_phase f_nCount f_outCnt f_apps (nI rc) f_cex f_curLive f_orderN a_alive a_nKind a_nVal a_nA a_nB a_lv a_nd a_nv a_outs a_tKind a_tVal a_tA a_tB a_tN a_preRel a_preJ a_preK a_ruleUse a_pend a_pendN a_tv a_cv a_mx a_par a_mp a_res a_bnd a_order a_stk a_stSt n 0 0 := by
      intro hpf
      refine ⟨pt_n P + 1, y_232 hP hT ?_ (pt_n P) 0 (by omega)⟩
      refine y_constFlags (r := 16) (C := pt_has P 14) (by omega) hP hR h14 rfl hT hU (fun cv' mx' par' k1 k2 => ⟨pt_n R + 1, ?_⟩)
      have w1 : pt_rw R (pt_has P 14) < 2 ^ 31 := by
        have : pt_rw R (pt_has P 14) ≤ pt_n R * 3 := pr_rs_bound (fun x _ _ => by
          show (if pt_cv R (pt_has P 14) x = true then 0 else pr_w (pt_k R x)) ≤ 3
          have := pr_w_le (pt_k R x)
          by_cases hx : pt_cv R (pt_has P 14) x = true
          · rw [if_pos hx]
            omega
          · rw [if_neg hx]
            exact this)
        omega
      have w2 : pt_pw P < 2 ^ 31 := by
        have : pt_pw P ≤ pt_n P * 3 := pr_rs_bound (fun x _ _ => pr_w_le (pt_k P x))
        omega
      refine y_280 (C := pt_has P 14) hR hU k1 ?_ (pt_n R) 0 (by omega)
      refine y_329 w2 w1 hP hT (fun hco => ?_) (fun hco => h 5 (-1) _ cv' mx' par' (Or.inr (Or.inr (Or.inr (Or.inr (Or.inl ⟨rfl, rfl, ⟨fun _ => by omega, fun _ => hsh, fun _ => hv, fun _ => hpf, fun h => absurd h (by omega)⟩, by omega⟩))))))
      have hok5 : jd_ok rc mR P R c0 c1 dl dj dk 5 := ⟨fun _ => by omega, fun _ => hsh, fun _ => hv, fun _ => hpf, fun _ => hco⟩
      exact y_ff404 hP hR (by omega) (by omega) hd hdl hT hU hpe (fun tv' hn => h 0 (-1) tv' cv' mx' par' (Or.inr (Or.inr (Or.inr (Or.inr (Or.inr (Or.inr ⟨rfl, rfl, hok5, hn⟩))))))) (fun a b tv' hf => h 6 _ tv' cv' mx' par' (Or.inr (Or.inr (Or.inr (Or.inr (Or.inr (Or.inl ⟨rfl, hok5, a, b, hf, rfl⟩)))))))
    refine pk_eq dl 0 (fun e => h232 fun hx => absurd e hx) (fun ne => ?_) hpe.1
    have hj := hd ne
    have eJ : a_preJ 16 = nI dj := (hpe.2 ne).1
    rw [eJ]
    refine y_has (w := 32) (κ := 14) (by omega) hP hT (by decide) (by omega) (br_c (fun z => h 4 (-1) _ _ _ _ (Or.inr (Or.inr (Or.inr (Or.inl ⟨rfl, rfl, ⟨fun _ => by omega, fun _ => hsh, fun _ => hv, fun h => absurd h (by omega), fun h => absurd h (by omega)⟩, fun hpf => ?_⟩))))) (fun z => h232 fun _ => ?_))
    · have := hpf ne
      rw [(pr_b0 _).mp z] at this
      cases this
    · cases hx : pt_has P 14 dj with
      | true => rfl
      | false => rw [hx] at z; exact absurd rfl z
  · rcases (hvf.mp hv).2 i i1 i2 with y | y
    · rw [i3] at y
      cases y
    · rw [i4] at y
      cases y
end YR
