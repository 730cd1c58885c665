/-! Y: constFlags -/
def pr_pi (i : Nat) (o : Option Nat) : Int32 := match o with
  | none => -1
  | some p => if p < i then nI p else -1
theorem pr_pi_up {i : Nat} {o : Option Nat} (h : o ≠ some i) : pr_pi (i + 1) o = pr_pi i o := by
  cases o with
  | none => rfl
  | some p =>
    have : p ≠ i := fun e => h (by rw [e])
    show (if p < i + 1 then nI p else -1) = (if p < i then nI p else -1)
    by_cases hp : p < i
    · rw [if_pos hp, if_pos (by omega)]
    · rw [if_neg hp, if_neg (by omega)]
theorem pr_pi_s (i : Nat) : pr_pi (i + 1) (some i) = nI i := by
  show (if i < i + 1 then nI i else -1) = nI i
  rw [if_pos (by omega)]
section YD
variable {f_maxNodes f_maxRules f_phase f_nCount f_outCnt f_apps f_ruleCount f_cex f_curLive f_orderN : Int32} {a_alive a_nKind a_nVal a_nA a_nB a_lv a_nd a_nv a_outs a_tKind a_tVal a_tA a_tB a_tN a_preRel a_preJ a_preK a_ruleUse a_pend a_pendN a_tv a_cv a_mx a_par a_mp a_res a_bnd a_order a_stk a_stSt : Nat → Int32}
variable {post : SY → Prop} {r wp w : Nat} {p t : pr_PT} {C : Nat → Bool}
theorem y_flags246 (ht : pt_ok t) (hcv : ∀ q, q < pt_n t → a_cv q = pr_b (pt_cv t C q)) (hpar : ∀ q, q < pt_n t → a_par q = pr_pi (pt_n t) (pt_p t q))
    (h : ∀ mx', (∀ q, q < pt_n t → mx' q = pr_b (pt_mx t C q)) → post (f_maxNodes, f_maxRules, f_phase, f_nCount, f_outCnt, f_apps, f_ruleCount, f_cex, f_curLive, f_orderN, a_alive, a_nKind, a_nVal, a_nA, a_nB, a_lv, a_nd, a_nv, a_outs, a_tKind, a_tVal, a_tA, a_tB, a_tN, a_preRel, a_preJ, a_preK, a_ruleUse, a_pend, a_pendN, a_tv, a_cv, mx', a_par, a_mp, a_res, a_bnd, a_order, a_stk, a_stSt)) :
    ∀ d i mx, i + d = pt_n t → (∀ q, q < i → mx q = pr_b (pt_mx t C q)) → wY_constFlags_246 post (nI (pt_n t)) f_maxNodes f_maxRules f_phase f_nCount f_outCnt f_apps f_ruleCount f_cex f_curLive f_orderN (d + 1) (nI i) a_alive a_nKind a_nVal a_nA a_nB a_lv a_nd a_nv a_outs a_tKind a_tVal a_tA a_tB a_tN a_preRel a_preJ a_preK a_ruleUse a_pend a_pendN a_tv a_cv mx a_par a_mp a_res a_bnd a_order a_stk a_stSt := by
  intro d
  have h8 := ht.1
  induction d with
  | zero =>
    intro i mx hi hq
    refine pk_le (pt_n t) i (fun _ => ?_) (fun h => absurd h (by omega))
    exact h mx fun q hq' => hq q (by omega)
  | succ d ih =>
    intro i mx hi hq
    have hi' : i < pt_n t := by omega
    have hin : vp_in (nI i) 8 := pk_in i 8 (by omega)
    have hcl : (nI i).toNatClampNeg = i := nI_clamp (by omega)
    have hnx : ∀ x : Int32, x = pr_b (pt_mx t C i) → wY_constFlags_246 post (nI (pt_n t)) f_maxNodes f_maxRules f_phase f_nCount f_outCnt f_apps f_ruleCount f_cex f_curLive f_orderN (d + 1) (nI i + 1) a_alive a_nKind a_nVal a_nA a_nB a_lv a_nd a_nv a_outs a_tKind a_tVal a_tA a_tB a_tN a_preRel a_preJ a_preK a_ruleUse a_pend a_pendN a_tv a_cv (upd mx i x) a_par a_mp a_res a_bnd a_order a_stk a_stSt := by
      intro x hx
      rw [nI_1]
      refine ih (i + 1) _ (by omega) fun q hq' => ?_
      by_cases e : q = i
      · rw [e, pk_us, hx]
      · rw [pk_un e]
        exact hq q (by omega)
    refine pk_le (pt_n t) i (fun h => absurd h (by omega)) (fun _ => pk_le 8 i (fun h => absurd h (by omega)) (fun _ => ⟨hin, ?_⟩))
    rw [hcl, hcv i hi']
    unfold pt_mx at hnx
    refine br_c (fun h0 => ⟨hin, ?_⟩) (fun h0 => ⟨hin, ?_⟩)
    · rw [pr_vb0]
      refine nm_e (nm_e (hnx _ ?_))
      rw [(pr_b0 _).mp h0, Bool.false_and]
      rfl
    · have hx : pt_cv t C i = true := by
        cases hx : pt_cv t C i with
        | true => rfl
        | false => rw [hx] at h0; exact absurd rfl h0
      rw [hx, Bool.true_and] at hnx
      rw [hpar i hi']
      cases hp : pt_p t i with
      | none =>
        rw [hp] at hnx
        refine br_t (show (-1 : Int32) < 0 by decide) ⟨hin, ?_⟩
        rw [pr_vb1]
        exact nm_e (nm_e (hnx _ rfl))
      | some x =>
        rw [hp] at hnx
        have hx' := (ht.2 i hi').2.2.2.2.2.2.2.2.2.2 x hp
        have e : pr_pi (pt_n t) (some x) = nI x := by
          show (if x < pt_n t then nI x else -1) = nI x
          rw [if_pos hx'.2.1]
        rw [e]
        refine br_f (nI_pos (by omega)) ⟨hin, pk_in x 8 (by omega), ?_⟩
        rw [nI_clamp (n := x) (by omega), hcv x hx'.2.1]
        refine br_c (fun h1 => ⟨hin, ?_⟩) (fun h1 => ⟨hin, ?_⟩)
        · rw [pr_vb1]
          refine nm_e (nm_e (hnx _ ?_))
          show 1 = pr_b (!pt_cv t C x)
          rw [(pr_b0 _).mp h1]
          rfl
        · rw [pr_vb0]
          refine nm_e (nm_e (hnx _ ?_))
          show 0 = pr_b (!pt_cv t C x)
          cases hy : pt_cv t C x with
          | true => rfl
          | false => rw [hy] at h1; exact absurd rfl h1
theorem y_flags40 (hwp : wp < 34) (hw : w < 34) (hp : pt_ok p) (ht : pt_ok t) (h14 : ∀ i, i < pt_n t → pt_k t i ≠ 14) (hC : C = pt_has p 14) (hr : nI wp = 2 * nI r) (hP : tr_at 0 wp p a_tN a_tKind a_tVal a_tA a_tB) (hT : tr_at 0 w t a_tN a_tKind a_tVal a_tA a_tB)
    (h : ∀ cv' mx' par', (∀ q, q < pt_n t → cv' q = pr_b (pt_cv t C q)) → (∀ q, q < pt_n t → mx' q = pr_b (pt_mx t C q)) → post (f_maxNodes, f_maxRules, f_phase, f_nCount, f_outCnt, f_apps, f_ruleCount, f_cex, f_curLive, f_orderN, a_alive, a_nKind, a_nVal, a_nA, a_nB, a_lv, a_nd, a_nv, a_outs, a_tKind, a_tVal, a_tA, a_tB, a_tN, a_preRel, a_preJ, a_preK, a_ruleUse, a_pend, a_pendN, a_tv, cv', mx', par', a_mp, a_res, a_bnd, a_order, a_stk, a_stSt)) :
    ∀ d i cv par, i + d = pt_n t → (∀ q, q < i → cv q = pr_b (pt_cv t C q)) → (∀ q, q < pt_n t → par q = pr_pi i (pt_p t q)) → wY_constFlags_40 post (nI r) (nI w) (nI (pt_n t)) f_maxNodes f_maxRules f_phase f_nCount f_outCnt f_apps f_ruleCount f_cex f_curLive f_orderN (d + 1) (nI i) a_alive a_nKind a_nVal a_nA a_nB a_lv a_nd a_nv a_outs a_tKind a_tVal a_tA a_tB a_tN a_preRel a_preJ a_preK a_ruleUse a_pend a_pendN a_tv cv a_mx par a_mp a_res a_bnd a_order a_stk a_stSt := by
  intro d
  have h8 := ht.1
  induction d with
  | zero =>
    intro i cv par hi hq hpar
    refine pk_le (pt_n t) i (fun _ => ⟨pt_n t + 1, ?_⟩) (fun h => absurd h (by omega))
    have e : i = pt_n t := by omega
    rw [e] at hq hpar
    exact y_flags246 ht hq hpar (fun mx' hm => h cv mx' par hq hm) (pt_n t) 0 a_mx (by omega) (fun q hq => absurd hq (by omega))
  | succ d ih =>
    intro i cv par hi hq hpar
    have hi' : i < pt_n t := by omega
    obtain ⟨e1, e2, e3, e4⟩ := hT.2 i hi'
    have hn := ht.2 i hi'
    have h9 := hn.2.2.2.2.2.2.2.2.1
    have hs := pt_sm ht i hi'
    have hcl : (nI (w * 8 + i)).toNatClampNeg = w * 8 + i := nI_clamp (by omega)
    have hci : (nI i).toNatClampNeg = i := nI_clamp (by omega)
    have hin : vp_in (nI (w * 8 + i)) 272 := pk_in (w * 8 + i) 272 (by omega)
    have hin8 : vp_in (nI i) 8 := pk_in i 8 (by omega)
    have hnx : ∀ (x : Int32) par', x = pr_b (pt_cv t C i) → (∀ q, q < pt_n t → par' q = pr_pi (i + 1) (pt_p t q)) → wY_constFlags_40 post (nI r) (nI w) (nI (pt_n t)) f_maxNodes f_maxRules f_phase f_nCount f_outCnt f_apps f_ruleCount f_cex f_curLive f_orderN (d + 1) (nI i + 1) a_alive a_nKind a_nVal a_nA a_nB a_lv a_nd a_nv a_outs a_tKind a_tVal a_tA a_tB a_tN a_preRel a_preJ a_preK a_ruleUse a_pend a_pendN a_tv (upd cv i x) a_mx par' a_mp a_res a_bnd a_order a_stk a_stSt := by
      intro x par' hx hp'
      rw [nI_1]
      refine ih (i + 1) _ _ (by omega) (fun q hq' => ?_) hp'
      by_cases e : q = i
      · rw [e, pk_us, hx]
      · rw [pk_un e]
        exact hq q (by omega)
    have hleaf : 11 ≤ pt_k t i → ∀ q, q < pt_n t → par q = pr_pi (i + 1) (pt_p t q) := by
      intro h11 q hq'
      rw [hpar q hq', pr_pi_up]
      intro hx
      rcases ((ht.2 q hq').2.2.2.2.2.2.2.2.2.2 i hx).2.2 with y | y
      · rw [hn.2.2.2.2.1 h11] at y
        cases y
      · rw [hn.2.2.2.2.2.1 (by omega)] at y
        cases y
    have heq := pt_cv_eq (C := C) ht hi'
    unfold pt_cF at heq
    refine pk_le (pt_n t) i (fun h => absurd h (by omega)) (fun _ => pk_le 8 i (fun h => absurd h (by omega)) (fun _ => ?_))
    refine nm_r (nx_8 w i) ⟨hin, ?_⟩
    rw [hcl]
    refine nm_r e1 ?_
    refine pk_eq (pt_k t i) 11 (fun e => ⟨hin8, ?_⟩) (fun n11 => pk_eq (pt_k t i) 13 (fun e => ⟨hin, ?_⟩) (fun n13 => ?_))
    · rw [hci, pr_vb1]
      refine nm_e (nm_e (hnx _ _ ?_ (hleaf (by omega))))
      rw [if_neg (by omega), hn.2.2.2.2.1 (by omega), hn.2.2.2.2.2.1 (by omega)] at heq
      rw [heq]
      rfl
    · rw [e2, ← hr]
      refine y_has hwp hp hP (by decide) hs.2 ⟨hin8, ?_⟩
      rw [hci, pr_nb]
      refine nm_e (nm_e (hnx _ _ ?_ (hleaf (by omega))))
      rw [if_pos e] at heq
      rw [heq, hC]
    · have hk : pt_k t i ≤ 10 := by
        have := h14 i hi'
        have := hn.1
        omega
      rw [if_neg n13] at heq
      obtain ⟨ca, hca⟩ := hn.2.2.2.2.2.2.1 hk
      have hca' := h9 ca (Or.inl hca)
      have eA : a_tA (w * 8 + i) = nI ca := by
        rw [e3, hca]
        show nI (0 + ca) = nI ca
        rw [Nat.zero_add]
      rw [hca] at heq
      have hina : vp_in (nI ca) 8 := pk_in ca 8 (by omega)
      have hcla : (nI ca).toNatClampNeg = ca := nI_clamp (by omega)
      by_cases hb : pt_k t i ≤ 8
      · obtain ⟨cb, hcb⟩ := hn.2.2.2.2.2.2.2.1 hb
        have hcb' := h9 cb (Or.inr hcb)
        have eB : a_tB (w * 8 + i) = nI cb := by
          rw [e4, hcb]
          show nI (0 + cb) = nI cb
          rw [Nat.zero_add]
        rw [hcb] at heq
        have hinb : vp_in (nI cb) 8 := pk_in cb 8 (by omega)
        have hclb : (nI cb).toNatClampNeg = cb := nI_clamp (by omega)
        replace heq : pt_cv t C i = (pt_cv t C ca && pt_cv t C cb) := heq
        have h172 : ∀ x : Int32, vp_nar .boolean x = pr_b (pt_cv t C i) → wY_constFlags_172 post (wY_constFlags_40 post (nI r) (nI w) (nI (pt_n t)) f_maxNodes f_maxRules f_phase f_nCount f_outCnt f_apps f_ruleCount f_cex f_curLive f_orderN (d + 1)) (nI r) (nI w) (nI (pt_n t)) (nI i) (nI (w * 8 + i)) x (nI i) f_maxNodes f_maxRules f_phase f_nCount f_outCnt f_apps f_ruleCount f_cex f_curLive f_orderN a_alive a_nKind a_nVal a_nA a_nB a_lv a_nd a_nv a_outs a_tKind a_tVal a_tA a_tB a_tN a_preRel a_preJ a_preK a_ruleUse a_pend a_pendN a_tv cv a_mx par a_mp a_res a_bnd a_order a_stk a_stSt := by
          intro x hx
          refine ⟨hin8, ?_⟩
          rw [hci, hcl, eA, eB, hcla, hclb]
          refine nm_e ⟨hin, hina, nm_e ⟨hin, hinb, nm_e (nm_e (hnx _ _ hx fun q hq' => ?_))⟩⟩
          by_cases q1 : q = cb
          · rw [q1, pk_us, hcb'.2, pr_pi_s]
          · rw [pk_un q1]
            by_cases q2 : q = ca
            · rw [q2, pk_us, hca'.2, pr_pi_s]
            · rw [pk_un q2, hpar q hq', pr_pi_up]
              intro hx'
              rcases ((ht.2 q hq').2.2.2.2.2.2.2.2.2.2 i hx').2.2 with y | y
              · rw [hca] at y
                cases y
                exact q2 rfl
              · rw [hcb] at y
                cases y
                exact q1 rfl
        refine y_isBin_t hn.1.1 hb (br_f (by decide) ⟨hin, ?_⟩)
        rw [eA, eB, hcla, hclb, hq ca (by omega), hq cb (by omega)]
        refine ⟨hina, br_c (fun h0 => h172 0 ?_) (fun h0 => ⟨hin, hinb, br_c (fun h1 => h172 0 ?_) (fun h1 => h172 1 ?_)⟩)⟩
        · rw [pr_vb0, heq, (pr_b0 _).mp h0, Bool.false_and]
          rfl
        · rw [pr_vb0, heq, (pr_b0 _).mp h1, Bool.and_false]
          rfl
        · rw [pr_vb1, heq]
          cases hx : pt_cv t C ca with
          | false => rw [hx] at h0; exact absurd rfl h0
          | true =>
            cases hy : pt_cv t C cb with
            | false => rw [hy] at h1; exact absurd rfl h1
            | true => rfl
      · rw [hn.2.2.2.2.2.1 (by omega)] at heq
        replace heq : pt_cv t C i = (pt_cv t C ca && true) := heq
        rw [Bool.and_true] at heq
        refine y_isBin_f (by omega) (by omega) (br_t rfl ⟨hin, ?_⟩)
        rw [eA, hcla, hq ca (by omega), pr_nb]
        refine ⟨hina, hin8, ?_⟩
        rw [hci]
        refine nm_e ⟨hin, hina, nm_e (nm_e (hnx _ _ (by rw [heq]) fun q hq' => ?_))⟩
        by_cases q2 : q = ca
        · rw [q2, pk_us, hca'.2, pr_pi_s]
        · rw [pk_un q2, hpar q hq', pr_pi_up]
          intro hx'
          rcases ((ht.2 q hq').2.2.2.2.2.2.2.2.2.2 i hx').2.2 with y | y
          · rw [hca] at y
            cases y
            exact q2 rfl
          · rw [hn.2.2.2.2.2.1 (by omega)] at y
            cases y
theorem y_flags16 {x1 x2 x3 : Int32} (h : ∀ par', (∀ q, q < 8 → par' q = -1) → ∃ n, wY_constFlags_40 post x1 x2 x3 f_maxNodes f_maxRules f_phase f_nCount f_outCnt f_apps f_ruleCount f_cex f_curLive f_orderN n 0 a_alive a_nKind a_nVal a_nA a_nB a_lv a_nd a_nv a_outs a_tKind a_tVal a_tA a_tB a_tN a_preRel a_preJ a_preK a_ruleUse a_pend a_pendN a_tv a_cv a_mx par' a_mp a_res a_bnd a_order a_stk a_stSt) :
    ∀ d i par, i + d = 8 → (∀ q, q < i → par q = -1) → wY_constFlags_16 post x1 x2 x3 f_maxNodes f_maxRules f_phase f_nCount f_outCnt f_apps f_ruleCount f_cex f_curLive f_orderN (d + 1) (nI i) a_alive a_nKind a_nVal a_nA a_nB a_lv a_nd a_nv a_outs a_tKind a_tVal a_tA a_tB a_tN a_preRel a_preJ a_preK a_ruleUse a_pend a_pendN a_tv a_cv a_mx par a_mp a_res a_bnd a_order a_stk a_stSt := by
  intro d
  induction d with
  | zero =>
    intro i par hi hq
    exact pk_le 8 i (fun _ => h par fun q hq' => hq q (by omega)) (fun h => absurd h (by omega))
  | succ d ih =>
    intro i par hi hq
    refine pk_le 8 i (fun h => absurd h (by omega)) (fun _ => ⟨pk_in i 8 (by omega), ?_⟩)
    rw [nI_clamp (by omega)]
    refine nm_e (nm_r (nI_1 _) (ih (i + 1) _ (by omega) fun q hq' => ?_))
    by_cases e : q = i
    · rw [e, pk_us]
    · rw [pk_un e]
      exact hq q (by omega)
theorem y_constFlags (hr : r < 17) (hp : pt_ok p) (ht : pt_ok t) (h14 : ∀ i, i < pt_n t → pt_k t i ≠ 14) (hC : C = pt_has p 14) (hP : tr_at 0 (r * 2) p a_tN a_tKind a_tVal a_tA a_tB) (hT : tr_at 0 (r * 2 + 1) t a_tN a_tKind a_tVal a_tA a_tB)
    (h : ∀ cv' mx' par', (∀ q, q < pt_n t → cv' q = pr_b (pt_cv t C q)) → (∀ q, q < pt_n t → mx' q = pr_b (pt_mx t C q)) → post (f_maxNodes, f_maxRules, f_phase, f_nCount, f_outCnt, f_apps, f_ruleCount, f_cex, f_curLive, f_orderN, a_alive, a_nKind, a_nVal, a_nA, a_nB, a_lv, a_nd, a_nv, a_outs, a_tKind, a_tVal, a_tA, a_tB, a_tN, a_preRel, a_preJ, a_preK, a_ruleUse, a_pend, a_pendN, a_tv, cv', mx', par', a_mp, a_res, a_bnd, a_order, a_stk, a_stSt)) : wpY_constFlags post (f_maxNodes, f_maxRules, f_phase, f_nCount, f_outCnt, f_apps, f_ruleCount, f_cex, f_curLive, f_orderN, a_alive, a_nKind, a_nVal, a_nA, a_nB, a_lv, a_nd, a_nv, a_outs, a_tKind, a_tVal, a_tA, a_tB, a_tN, a_preRel, a_preJ, a_preK, a_ruleUse, a_pend, a_pendN, a_tv, a_cv, a_mx, a_par, a_mp, a_res, a_bnd, a_order, a_stk, a_stSt) (nI r) := by
  have e2 : 2 * nI r = nI (r * 2) := by
    rw [show (2 : Int32) = nI 2 from rfl, pk_mul, Nat.mul_comm]
  have e3 : (2 * nI r) + 1 = nI (r * 2 + 1) := by
    rw [e2, nI_1]
  unfold wpY_constFlags
  refine nm_r e3 ⟨pk_in (r * 2 + 1) 34 (by omega), ?_⟩
  rw [nI_clamp (by omega)]
  refine nm_r hT.1 ⟨9, ?_⟩
  refine y_flags16 (fun par' hp' => ⟨pt_n t + 1, ?_⟩) 8 0 a_par (by omega) (fun q hq => absurd hq (by omega))
  refine y_flags40 (wp := r * 2) (by omega) (by omega) hp ht h14 hC e2.symm hP hT h (pt_n t) 0 a_cv par' (by omega) (fun q hq => absurd hq (by omega)) (fun q hq => ?_)
  have := ht.1
  rw [hp' q (by omega)]
  cases pt_p t q with
  | none => rfl
  | some x =>
    show -1 = (if x < 0 then nI x else -1)
    rw [if_neg (by omega)]
end YD
