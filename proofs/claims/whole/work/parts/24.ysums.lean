/-! Y: sums over the marked nodes; uses; deleteDead -/
section YH
variable {f_maxNodes f_maxRules f_phase f_nCount f_outCnt f_apps f_ruleCount f_cex f_curLive f_orderN : Int32} {a_alive a_nKind a_nVal a_nA a_nB a_lv a_nd a_nv a_outs a_tKind a_tVal a_tA a_tB a_tN a_preRel a_preJ a_preK a_ruleUse a_pend a_pendN a_tv a_cv a_mx a_par a_mp a_res a_bnd a_order a_stk a_stSt : Nat → Int32}
variable {K : Nat → Nat} {V : Nat → Int32} {A B : Nat → Option Nat} {rk O : Nat → Nat} {L : List Nat}
def y_wt (K : Nat → Nat) (cost : Nat) (s : Nat) : Nat := if cost = 0 then 1 else pr_w (K s)
theorem y_liveSum10 {post : Int32 → SY → Prop} {g cost : Nat} (hc : cost < 2) (hgc : g < 2) (hG : pr_gw (g * 32) K V A B rk) (hg : gr_at (g * 32) K V A B a_nKind a_nVal a_nA a_nB) (hal : al_at (g * 32) K a_alive) (hLT : ∀ x, x ∈ L → pr_T (g * 32) K x)
    (hlv : ∀ c, g * 32 ≤ c → c < g * 32 + 32 → (a_lv c = 0 ↔ c ∉ L))
    (h : post (nI (pr_rs (fun s => if s ∈ L then y_wt K cost s else 0) (g * 32) 32)) (f_maxNodes, f_maxRules, f_phase, f_nCount, f_outCnt, f_apps, f_ruleCount, f_cex, f_curLive, f_orderN, a_alive, a_nKind, a_nVal, a_nA, a_nB, a_lv, a_nd, a_nv, a_outs, a_tKind, a_tVal, a_tA, a_tB, a_tN, a_preRel, a_preJ, a_preK, a_ruleUse, a_pend, a_pendN, a_tv, a_cv, a_mx, a_par, a_mp, a_res, a_bnd, a_order, a_stk, a_stSt)) :
    ∀ d i, i + d = 32 → wY_liveSum_10 post (nI (g * 32)) (nI cost) f_maxNodes f_maxRules f_phase f_nCount f_outCnt f_apps f_ruleCount f_cex f_curLive f_orderN a_alive a_nKind a_nVal a_nA a_nB a_lv a_nd a_nv a_outs a_tKind a_tVal a_tA a_tB a_tN a_preRel a_preJ a_preK a_ruleUse a_pend a_pendN a_tv a_cv a_mx a_par a_mp a_res a_bnd a_order a_stk a_stSt (d + 1) (nI (pr_rs (fun s => if s ∈ L then y_wt K cost s else 0) (g * 32) i)) (nI (g * 32 + i)) := by
  intro d
  have e32 : nI (g * 32) + 32 = nI (g * 32 + 32) := nI_add (g * 32) 32
  induction d with
  | zero =>
    intro i hi
    show ((nI (g * 32) + 32) ≤ _ → _) ∧ (¬ (nI (g * 32) + 32) ≤ _ → _)
    rw [e32]
    refine pk_le (g * 32 + 32) (g * 32 + i) (fun _ => ?_) (fun h => absurd h (by omega))
    rw [show i = 32 by omega]
    exact h
  | succ d ih =>
    intro i hi
    have hh := ih (i + 1) (by omega)
    rw [show pr_rs (fun s => if s ∈ L then y_wt K cost s else 0) (g * 32) (i + 1) = pr_rs (fun s => if s ∈ L then y_wt K cost s else 0) (g * 32) i + (if g * 32 + i ∈ L then y_wt K cost (g * 32 + i) else 0) from rfl] at hh
    have hin : vp_in (nI (g * 32 + i)) 64 := pk_in (g * 32 + i) 64 (by omega)
    have hals := hal (g * 32 + i) (by omega) (by omega)
    have hlvs := hlv (g * 32 + i) (by omega) (by omega)
    show ((nI (g * 32) + 32) ≤ _ → _) ∧ (¬ (nI (g * 32) + 32) ≤ _ → _)
    rw [e32]
    refine pk_le (g * 32 + 32) (g * 32 + i) (fun h => absurd h (by omega)) (fun _ => ⟨hin, ?_⟩)
    rw [nI_clamp (by omega)]
    by_cases hL : g * 32 + i ∈ L
    · have ts := hLT _ hL
      rw [if_neg ts.2.2] at hals
      rw [if_pos hL] at hh
      refine br_f (by rw [hals]; decide) ⟨hin, br_f (fun h0 => hlvs.mp h0 hL) ?_⟩
      unfold y_wt at hh
      refine pk_eq cost 0 (fun e => ?_) (fun e => ⟨hin, ?_⟩)
      · rw [if_pos e] at hh
        exact nm_r (nI_1 _) (nm_r (nI_1 _) hh)
      · rw [if_neg e] at hh
        rw [(hg _ ts).1]
        have := (hG _ ts).1
        exact y_weight (by omega) (nm_r (nI_add _ _) (nm_r (nI_1 _) hh))
    · rw [if_neg hL, Nat.add_zero] at hh
      by_cases h0 : a_alive (g * 32 + i) = 0
      · exact br_t h0 (nm_r (nI_1 _) hh)
      · exact br_f h0 ⟨hin, br_t (hlvs.mpr hL) (nm_r (nI_1 _) hh)⟩
theorem y_liveSum {post : Int32 → SY → Prop} {g cost oc : Nat} (hc : cost < 2) (hgc : g < 2) (hG : pr_gw (g * 32) K V A B rk) (hg : gr_at (g * 32) K V A B a_nKind a_nVal a_nA a_nB) (hal : al_at (g * 32) K a_alive) (hoc : oc ≤ 4) (hO : ∀ k, k < oc → pr_T (g * 32) K (O (g * 4 + k)) ∧ a_outs (g * 4 + k) = nI (O (g * 4 + k))) (hL : L = pr_lv A B O (g * 4) oc)
    (h : ∀ lv', (∀ c, g * 32 ≤ c → c < g * 32 + 32 → (lv' c = 0 ↔ c ∉ L)) → post (nI (pr_sm (y_wt K cost) L)) (f_maxNodes, f_maxRules, f_phase, f_nCount, (nI oc), f_apps, f_ruleCount, f_cex, f_curLive, f_orderN, a_alive, a_nKind, a_nVal, a_nA, a_nB, lv', a_nd, a_nv, a_outs, a_tKind, a_tVal, a_tA, a_tB, a_tN, a_preRel, a_preJ, a_preK, a_ruleUse, a_pend, a_pendN, a_tv, a_cv, a_mx, a_par, a_mp, a_res, a_bnd, a_order, a_stk, a_stSt)) : wpY_liveSum post (f_maxNodes, f_maxRules, f_phase, f_nCount, (nI oc), f_apps, f_ruleCount, f_cex, f_curLive, f_orderN, a_alive, a_nKind, a_nVal, a_nA, a_nB, a_lv, a_nd, a_nv, a_outs, a_tKind, a_tVal, a_tA, a_tB, a_tN, a_preRel, a_preJ, a_preK, a_ruleUse, a_pend, a_pendN, a_tv, a_cv, a_mx, a_par, a_mp, a_res, a_bnd, a_order, a_stk, a_stSt) (nI (g * 32)) (nI cost) := by
  have hlk := pr_lv_ok (O := O) (ob := g * 4) (pr_gw_T hG) (pr_gw_r hG) oc (fun k hk => (hO k hk).1)
  rw [← hL] at hlk
  unfold wpY_liveSum
  refine y_liveMark hgc hG hg hal hoc hO hL (fun lv' hlv => ⟨33, ?_⟩)
  have e := pr_rs_list (w := y_wt K cost) (lo := g * 32) (n := 32) hlk.1 (fun x hx => ⟨(hlk.2.2.2 x hx).1.1, (hlk.2.2.2 x hx).1.2.1⟩)
  exact y_liveSum10 hc hgc hG hg hal (fun x hx => (hlk.2.2.2 x hx).1) hlv (by rw [e]; exact h lv' hlv) 32 0 (by omega)
theorem y_countOp22 {post : Int32 → SY → Prop} {κ : Nat} (hκ : κ < 100) (hG : pr_gw 0 K V A B rk) (hg : gr_at 0 K V A B a_nKind a_nVal a_nA a_nB) (hal : al_at 0 K a_alive) (hLT : ∀ x, x ∈ L → pr_T 0 K x)
    (hlv : ∀ c, 0 ≤ c → c < 0 + 32 → (a_lv c = 0 ↔ c ∉ L))
    (h : post (nI (pr_rs (fun s => if s ∈ L then (if K s = κ then 1 else 0) else 0) 0 32)) (f_maxNodes, f_maxRules, f_phase, f_nCount, f_outCnt, f_apps, f_ruleCount, f_cex, f_curLive, f_orderN, a_alive, a_nKind, a_nVal, a_nA, a_nB, a_lv, a_nd, a_nv, a_outs, a_tKind, a_tVal, a_tA, a_tB, a_tN, a_preRel, a_preJ, a_preK, a_ruleUse, a_pend, a_pendN, a_tv, a_cv, a_mx, a_par, a_mp, a_res, a_bnd, a_order, a_stk, a_stSt)) :
    ∀ d i, i + d = 32 → wY_countOp_22 post (nI κ) f_maxNodes f_maxRules f_phase f_nCount f_outCnt f_apps f_ruleCount f_cex f_curLive f_orderN a_alive a_nKind a_nVal a_nA a_nB a_lv a_nd a_nv a_outs a_tKind a_tVal a_tA a_tB a_tN a_preRel a_preJ a_preK a_ruleUse a_pend a_pendN a_tv a_cv a_mx a_par a_mp a_res a_bnd a_order a_stk a_stSt (d + 1) (nI (pr_rs (fun s => if s ∈ L then (if K s = κ then 1 else 0) else 0) 0 i)) (nI i) := by
  intro d
  induction d with
  | zero =>
    intro i hi
    refine pk_le 32 i (fun _ => ?_) (fun h => absurd h (by omega))
    rw [show i = 32 by omega]
    exact h
  | succ d ih =>
    intro i hi
    have hh := ih (i + 1) (by omega)
    rw [show pr_rs (fun s => if s ∈ L then (if K s = κ then 1 else 0) else 0) 0 (i + 1) = pr_rs (fun s => if s ∈ L then (if K s = κ then 1 else 0) else 0) 0 i + (if 0 + i ∈ L then (if K (0 + i) = κ then 1 else 0) else 0) from rfl, Nat.zero_add] at hh
    have hin : vp_in (nI i) 64 := pk_in i 64 (by omega)
    have hals := hal i (by omega) (by omega)
    have hlvs := hlv i (by omega) (by omega)
    refine pk_le 32 i (fun h => absurd h (by omega)) (fun _ => ⟨hin, ?_⟩)
    rw [nI_clamp (by omega)]
    by_cases hL : i ∈ L
    · have ts := hLT _ hL
      rw [if_neg ts.2.2] at hals
      rw [if_pos hL] at hh
      have := (hG _ ts).1
      refine br_f (by rw [hals]; decide) ⟨hin, br_f (fun h0 => hlvs.mp h0 hL) ⟨hin, ?_⟩⟩
      rw [(hg _ ts).1]
      refine pk_eq (K i) κ (fun e => ?_) (fun e => ?_)
      · rw [if_pos e] at hh
        exact nm_r (nI_1 _) (nm_r (nI_1 _) hh)
      · rw [if_neg e] at hh
        exact nm_r (nI_1 _) hh
    · rw [if_neg hL, Nat.add_zero] at hh
      by_cases h0 : a_alive i = 0
      · exact br_t h0 (nm_r (nI_1 _) hh)
      · exact br_f h0 ⟨hin, br_t (hlvs.mpr hL) (nm_r (nI_1 _) hh)⟩
/-- deleteDead: what stays alive -/
theorem y_del7 {post : SY → Prop} (hal : al_at 0 K a_alive) (hlv : ∀ c, 0 ≤ c → c < 0 + 32 → (a_lv c = 0 ↔ c ∉ L))
    (h : ∀ al', al_at 0 (pa_K L K) al' → (∀ c, 32 ≤ c → al' c = a_alive c) → post (f_maxNodes, f_maxRules, f_phase, f_nCount, f_outCnt, f_apps, f_ruleCount, f_cex, f_curLive, f_orderN, al', a_nKind, a_nVal, a_nA, a_nB, a_lv, a_nd, a_nv, a_outs, a_tKind, a_tVal, a_tA, a_tB, a_tN, a_preRel, a_preJ, a_preK, a_ruleUse, a_pend, a_pendN, a_tv, a_cv, a_mx, a_par, a_mp, a_res, a_bnd, a_order, a_stk, a_stSt)) :
    ∀ d i al, i + d = 32 → (∀ c, c < i → al c = (if pa_K L K c = 0 then 0 else 1)) → (∀ c, i ≤ c → al c = a_alive c) → wY_deleteDead_7 post f_maxNodes f_maxRules f_phase f_nCount f_outCnt f_apps f_ruleCount f_cex f_curLive f_orderN (d + 1) (nI i) al a_nKind a_nVal a_nA a_nB a_lv a_nd a_nv a_outs a_tKind a_tVal a_tA a_tB a_tN a_preRel a_preJ a_preK a_ruleUse a_pend a_pendN a_tv a_cv a_mx a_par a_mp a_res a_bnd a_order a_stk a_stSt := by
  intro d
  induction d with
  | zero =>
    intro i al hi h1 h2
    refine pk_le 32 i (fun _ => h al (fun c _ hc => h1 c (by omega)) (fun c hc => h2 c (by omega))) (fun h => absurd h (by omega))
  | succ d ih =>
    intro i al hi h1 h2
    have hin : vp_in (nI i) 64 := pk_in i 64 (by omega)
    have hals := hal i (by omega) (by omega)
    have hlvs := hlv i (by omega) (by omega)
    have step : ∀ al', al' i = (if pa_K L K i = 0 then 0 else 1) → (∀ c, c ≠ i → al' c = al c) → wY_deleteDead_7 post f_maxNodes f_maxRules f_phase f_nCount f_outCnt f_apps f_ruleCount f_cex f_curLive f_orderN (d + 1) (nI (i + 1)) al' a_nKind a_nVal a_nA a_nB a_lv a_nd a_nv a_outs a_tKind a_tVal a_tA a_tB a_tN a_preRel a_preJ a_preK a_ruleUse a_pend a_pendN a_tv a_cv a_mx a_par a_mp a_res a_bnd a_order a_stk a_stSt := by
      intro al' k1 k2
      refine ih (i + 1) al' (by omega) (fun c hc => ?_) (fun c hc => ?_)
      · by_cases e : c = i
        · rw [e]
          exact k1
        · rw [k2 c e]
          exact h1 c (by omega)
      · rw [k2 c (by omega)]
        exact h2 c (by omega)
    refine pk_le 32 i (fun h => absurd h (by omega)) (fun _ => ⟨hin, ?_⟩)
    rw [nI_clamp (by omega)]
    have ei : al i = a_alive i := h2 i (by omega)
    rw [ei, hals]
    have e0 : i ∉ L → pa_K L K i = 0 := fun h => if_pos ⟨by omega, h⟩
    have eL : i ∈ L → pa_K L K i = K i := fun h => if_neg (fun hx => hx.2 h)
    by_cases hK : K i = 0
    · rw [if_pos hK]
      refine br_t rfl (nm_r (nI_1 _) (step al ?_ (fun _ _ => rfl)))
      rw [ei, hals, if_pos hK]
      by_cases hx : i ∈ L
      · rw [if_pos (by rw [eL hx]; exact hK)]
      · rw [if_pos (e0 hx)]
    · rw [if_neg hK]
      refine br_f (by decide) ⟨hin, ?_⟩
      by_cases hL : i ∈ L
      · refine br_f (fun h0 => hlvs.mp h0 hL) (nm_r (nI_1 _) (step al ?_ (fun _ _ => rfl)))
        rw [ei, hals, if_neg hK, if_neg (by rw [eL hL]; exact hK)]
      · refine br_t (hlvs.mpr hL) ⟨hin, ?_⟩
        rw [pr_vb0]
        refine nm_e (nm_r (nI_1 _) (step _ ?_ (fun c hc => pk_un hc)))
        rw [pk_us, if_pos (e0 hL)]
theorem y_deleteDead {post : SY → Prop} {oc : Nat} (hG : pr_gw 0 K V A B rk) (hg : gr_at 0 K V A B a_nKind a_nVal a_nA a_nB) (hal : al_at 0 K a_alive) (hoc : oc ≤ 4) (hO : ∀ k, k < oc → pr_T 0 K (O k) ∧ a_outs k = nI (O k)) (hL : L = pr_lv A B O 0 oc)
    (h : ∀ al' lv', al_at 0 (pa_K L K) al' → (∀ c, 32 ≤ c → al' c = a_alive c) → post (f_maxNodes, f_maxRules, f_phase, f_nCount, (nI oc), f_apps, f_ruleCount, f_cex, f_curLive, f_orderN, al', a_nKind, a_nVal, a_nA, a_nB, lv', a_nd, a_nv, a_outs, a_tKind, a_tVal, a_tA, a_tB, a_tN, a_preRel, a_preJ, a_preK, a_ruleUse, a_pend, a_pendN, a_tv, a_cv, a_mx, a_par, a_mp, a_res, a_bnd, a_order, a_stk, a_stSt)) : wpY_deleteDead post (f_maxNodes, f_maxRules, f_phase, f_nCount, (nI oc), f_apps, f_ruleCount, f_cex, f_curLive, f_orderN, a_alive, a_nKind, a_nVal, a_nA, a_nB, a_lv, a_nd, a_nv, a_outs, a_tKind, a_tVal, a_tA, a_tB, a_tN, a_preRel, a_preJ, a_preK, a_ruleUse, a_pend, a_pendN, a_tv, a_cv, a_mx, a_par, a_mp, a_res, a_bnd, a_order, a_stk, a_stSt) := by
  unfold wpY_deleteDead
  refine y_liveMark (g := 0) (O := O) (L := L) (by omega) hG hg hal hoc (fun k hk => by have := hO k hk; simpa using this) (by simpa using hL) (fun lv' hlv => ⟨33, ?_⟩)
  exact y_del7 hal (fun c a b => hlv c (by omega) (by omega)) (fun al' k1 k2 => h al' lv' k1 k2) 32 0 a_alive (by omega) (fun c hc => absurd hc (by omega)) (fun c _ => rfl)
theorem y_uses119 {post : Int32 → Prop} {dn oc : Nat} (hd : dn < 64) (hoc : oc ≤ 4) (hO : ∀ k, k < oc → pr_T 0 K (O k) ∧ a_outs k = nI (O k)) {c0 : Nat} (h : post (nI (c0 + pr_rs (fun k => if O k = dn then 1 else 0) 0 oc))) :
    ∀ d i, i + d = oc → wY_uses_119 post (nI dn) f_maxNodes f_maxRules f_phase f_nCount (nI oc) f_apps f_ruleCount f_cex f_curLive f_orderN a_alive a_nKind a_nVal a_nA a_nB a_lv a_nd a_nv a_outs a_tKind a_tVal a_tA a_tB a_tN a_preRel a_preJ a_preK a_ruleUse a_pend a_pendN a_tv a_cv a_mx a_par a_mp a_res a_bnd a_order a_stk a_stSt (d + 1) (nI (c0 + pr_rs (fun k => if O k = dn then 1 else 0) 0 i)) (nI i) := by
  intro d
  induction d with
  | zero =>
    intro i hi
    refine pk_le oc i (fun _ => ?_) (fun h => absurd h (by omega))
    rw [show i = oc by omega]
    exact h
  | succ d ih =>
    intro i hi
    have hh := ih (i + 1) (by omega)
    rw [show pr_rs (fun k => if O k = dn then 1 else 0) 0 (i + 1) = pr_rs (fun k => if O k = dn then 1 else 0) 0 i + (if O (0 + i) = dn then 1 else 0) from rfl, Nat.zero_add] at hh
    obtain ⟨to, eo⟩ := hO i (by omega)
    have to2 := to.2.1
    refine pk_le oc i (fun h => absurd h (by omega)) (fun _ => pk_le 4 i (fun h => absurd h (by omega)) (fun _ => ⟨pk_in i 8 (by omega), ?_⟩))
    rw [nI_clamp (by omega), eo]
    refine pk_eq (O i) dn (fun e => ?_) (fun e => ?_)
    · rw [if_pos e] at hh
      exact nm_r (nI_1 _) (nm_r (nI_1 _) hh)
    · rw [if_neg e] at hh
      exact nm_r (nI_1 _) hh
theorem y_uses4 {post : Int32 → Prop} {dn : Nat} (hd : dn < 64) (hG : pr_gw 0 K V A B rk) (hg : gr_at 0 K V A B a_nKind a_nVal a_nA a_nB) (hal : al_at 0 K a_alive) (hLT : ∀ x, x ∈ L → pr_T 0 K x) (hlv : ∀ c, 0 ≤ c → c < 0 + 32 → (a_lv c = 0 ↔ c ∉ L))
    (h : ∃ f, wY_uses_119 post (nI dn) f_maxNodes f_maxRules f_phase f_nCount f_outCnt f_apps f_ruleCount f_cex f_curLive f_orderN a_alive a_nKind a_nVal a_nA a_nB a_lv a_nd a_nv a_outs a_tKind a_tVal a_tA a_tB a_tN a_preRel a_preJ a_preK a_ruleUse a_pend a_pendN a_tv a_cv a_mx a_par a_mp a_res a_bnd a_order a_stk a_stSt f (nI (pr_rs (fun s => if s ∈ L then pr_e1 A B dn s else 0) 0 32)) 0) :
    ∀ d i, i + d = 32 → wY_uses_4 post (nI dn) f_maxNodes f_maxRules f_phase f_nCount f_outCnt f_apps f_ruleCount f_cex f_curLive f_orderN a_alive a_nKind a_nVal a_nA a_nB a_lv a_nd a_nv a_outs a_tKind a_tVal a_tA a_tB a_tN a_preRel a_preJ a_preK a_ruleUse a_pend a_pendN a_tv a_cv a_mx a_par a_mp a_res a_bnd a_order a_stk a_stSt (d + 1) (nI (pr_rs (fun s => if s ∈ L then pr_e1 A B dn s else 0) 0 i)) (nI i) := by
  intro d
  induction d with
  | zero =>
    intro i hi
    refine pk_le 32 i (fun _ => ?_) (fun h => absurd h (by omega))
    rw [show i = 32 by omega]
    exact h
  | succ d ih =>
    intro i hi
    have hh := ih (i + 1) (by omega)
    rw [show pr_rs (fun s => if s ∈ L then pr_e1 A B dn s else 0) 0 (i + 1) = pr_rs (fun s => if s ∈ L then pr_e1 A B dn s else 0) 0 i + (if 0 + i ∈ L then pr_e1 A B dn (0 + i) else 0) from rfl, Nat.zero_add] at hh
    generalize pr_rs (fun s => if s ∈ L then pr_e1 A B dn s else 0) 0 i = q at hh ⊢
    have hin : vp_in (nI i) 64 := pk_in i 64 (by omega)
    have hcl : (nI i).toNatClampNeg = i := nI_clamp (by omega)
    have hals := hal i (by omega) (by omega)
    have hlvs := hlv i (by omega) (by omega)
    refine pk_le 32 i (fun h => absurd h (by omega)) (fun _ => ⟨hin, ?_⟩)
    rw [hcl]
    by_cases hL : i ∈ L
    · have ts := hLT _ hL
      obtain ⟨g1, g2, g3, g4, g5, g6, g7, g8, g9, g10⟩ := hG i ts
      obtain ⟨k1, k2, k3, k4⟩ := hg i ts
      have hK0 := ts.2.2
      have hK1 : 1 ≤ K i := Nat.pos_of_ne_zero hK0
      rw [if_neg hK0] at hals
      have ha : ¬ a_alive i = 0 := by
        rw [hals]
        decide
      have hl : ¬ a_lv i = 0 := fun h0 => hlvs.mp h0 hL
      rw [if_pos hL] at hh
      unfold pr_e1 at hh
      have h67 : ∀ q', wY_uses_4 post (nI dn) f_maxNodes f_maxRules f_phase f_nCount f_outCnt f_apps f_ruleCount f_cex f_curLive f_orderN a_alive a_nKind a_nVal a_nA a_nB a_lv a_nd a_nv a_outs a_tKind a_tVal a_tA a_tB a_tN a_preRel a_preJ a_preK a_ruleUse a_pend a_pendN a_tv a_cv a_mx a_par a_mp a_res a_bnd a_order a_stk a_stSt (d + 1) (nI (q' + (if B i = some dn then 1 else 0))) (nI (i + 1)) → wY_uses_67 post (wY_uses_4 post (nI dn) f_maxNodes f_maxRules f_phase f_nCount f_outCnt f_apps f_ruleCount f_cex f_curLive f_orderN a_alive a_nKind a_nVal a_nA a_nB a_lv a_nd a_nv a_outs a_tKind a_tVal a_tA a_tB a_tN a_preRel a_preJ a_preK a_ruleUse a_pend a_pendN a_tv a_cv a_mx a_par a_mp a_res a_bnd a_order a_stk a_stSt (d + 1)) (nI dn) (nI q') (nI i) f_maxNodes f_maxRules f_phase f_nCount f_outCnt f_apps f_ruleCount f_cex f_curLive f_orderN a_alive a_nKind a_nVal a_nA a_nB a_lv a_nd a_nv a_outs a_tKind a_tVal a_tA a_tB a_tN a_preRel a_preJ a_preK a_ruleUse a_pend a_pendN a_tv a_cv a_mx a_par a_mp a_res a_bnd a_order a_stk a_stSt := by
        intro q' hq
        refine ⟨hin, ?_⟩
        rw [hcl]
        refine br_f ha ⟨hin, br_f hl ⟨hin, ?_⟩⟩
        rw [k1]
        by_cases hb : K i ≤ 8
        · obtain ⟨c, hc⟩ := g9 hb
          have tc := (g10 c (Or.inr hc)).1.2.1
          refine y_isBin_t hK1 hb (br_f (by decide) ⟨hin, ?_⟩)
          rw [k4, hc]
          refine pk_eq c dn (fun e => ?_) (fun e => ?_)
          · rw [hc, e, if_pos rfl] at hq
            exact nm_r (nI_1 _) (nm_r (nI_1 _) hq)
          · rw [hc, if_neg (fun h => e (Option.some.inj h))] at hq
            exact nm_r (nI_1 _) hq
        · rw [g7 (by omega), if_neg (fun h => nomatch h)] at hq
          exact y_isBin_f (by omega) (by omega) (br_t rfl (nm_r (nI_1 _) hq))
      have h54 : K i ≤ 10 → wY_uses_54 post (wY_uses_4 post (nI dn) f_maxNodes f_maxRules f_phase f_nCount f_outCnt f_apps f_ruleCount f_cex f_curLive f_orderN a_alive a_nKind a_nVal a_nA a_nB a_lv a_nd a_nv a_outs a_tKind a_tVal a_tA a_tB a_tN a_preRel a_preJ a_preK a_ruleUse a_pend a_pendN a_tv a_cv a_mx a_par a_mp a_res a_bnd a_order a_stk a_stSt (d + 1)) (nI dn) (nI q) (nI i) f_maxNodes f_maxRules f_phase f_nCount f_outCnt f_apps f_ruleCount f_cex f_curLive f_orderN a_alive a_nKind a_nVal a_nA a_nB a_lv a_nd a_nv a_outs a_tKind a_tVal a_tA a_tB a_tN a_preRel a_preJ a_preK a_ruleUse a_pend a_pendN a_tv a_cv a_mx a_par a_mp a_res a_bnd a_order a_stk a_stSt := by
        intro hu
        obtain ⟨c, hc⟩ := g8 hu
        have tc := (g10 c (Or.inl hc)).1.2.1
        refine ⟨hin, ?_⟩
        rw [hcl, k3, hc]
        refine pk_eq c dn (fun e => ?_) (fun e => ?_)
        · rw [hc, e, if_pos rfl] at hh
          refine nm_r (nI_1 _) (h67 (q + 1) ?_)
          rw [Nat.add_assoc]
          exact hh
        · rw [hc, if_neg (fun h => e (Option.some.inj h)), Nat.zero_add] at hh
          exact h67 q hh
      refine br_f ha ⟨hin, br_f hl ⟨hin, ?_⟩⟩
      rw [k1]
      by_cases hb : K i ≤ 8
      · exact y_isBin_t hK1 hb (br_f (by decide) (h54 (Nat.le_trans hb (by decide))))
      · refine y_isBin_f (by omega) (by omega) (br_t rfl ⟨hin, ?_⟩)
        by_cases hu : K i ≤ 10
        · exact y_isUn_t (by omega) (br_f (by decide) (h54 hu))
        · refine y_isUn_f (by omega) (by omega) (br_t rfl (h67 q ?_))
          rw [g6 (by omega), if_neg (fun h => nomatch h), Nat.zero_add] at hh
          exact hh
    · rw [if_neg hL, Nat.add_zero] at hh
      have h67 : wY_uses_67 post (wY_uses_4 post (nI dn) f_maxNodes f_maxRules f_phase f_nCount f_outCnt f_apps f_ruleCount f_cex f_curLive f_orderN a_alive a_nKind a_nVal a_nA a_nB a_lv a_nd a_nv a_outs a_tKind a_tVal a_tA a_tB a_tN a_preRel a_preJ a_preK a_ruleUse a_pend a_pendN a_tv a_cv a_mx a_par a_mp a_res a_bnd a_order a_stk a_stSt (d + 1)) (nI dn) (nI q) (nI i) f_maxNodes f_maxRules f_phase f_nCount f_outCnt f_apps f_ruleCount f_cex f_curLive f_orderN a_alive a_nKind a_nVal a_nA a_nB a_lv a_nd a_nv a_outs a_tKind a_tVal a_tA a_tB a_tN a_preRel a_preJ a_preK a_ruleUse a_pend a_pendN a_tv a_cv a_mx a_par a_mp a_res a_bnd a_order a_stk a_stSt := by
        refine ⟨hin, ?_⟩
        rw [hcl]
        by_cases h0 : a_alive i = 0
        · exact br_t h0 (nm_r (nI_1 _) hh)
        · exact br_f h0 ⟨hin, br_t (hlvs.mpr hL) (nm_r (nI_1 _) hh)⟩
      by_cases h0 : a_alive i = 0
      · exact br_t h0 h67
      · exact br_f h0 ⟨hin, br_t (hlvs.mpr hL) h67⟩
theorem y_uses {post : Int32 → Prop} {dn oc : Nat} (hd : dn < 64) (hG : pr_gw 0 K V A B rk) (hg : gr_at 0 K V A B a_nKind a_nVal a_nA a_nB) (hal : al_at 0 K a_alive) (hoc : oc ≤ 4) (hO : ∀ k, k < oc → pr_T 0 K (O k) ∧ a_outs k = nI (O k)) (hL : L = pr_lv A B O 0 oc)
    (hlv : ∀ c, 0 ≤ c → c < 0 + 32 → (a_lv c = 0 ↔ c ∉ L)) (h : post (nI (pr_us A B O L oc dn))) : wpY_uses post (f_maxNodes, f_maxRules, f_phase, f_nCount, (nI oc), f_apps, f_ruleCount, f_cex, f_curLive, f_orderN, a_alive, a_nKind, a_nVal, a_nA, a_nB, a_lv, a_nd, a_nv, a_outs, a_tKind, a_tVal, a_tA, a_tB, a_tN, a_preRel, a_preJ, a_preK, a_ruleUse, a_pend, a_pendN, a_tv, a_cv, a_mx, a_par, a_mp, a_res, a_bnd, a_order, a_stk, a_stSt) (nI dn) := by
  have hlk := pr_lv_ok (O := O) (ob := 0) (pr_gw_T hG) (pr_gw_r hG) oc (fun k hk => by rw [Nat.zero_add]; exact (hO k hk).1)
  rw [← hL] at hlk
  have e := pr_rs_list (w := pr_e1 A B dn) (lo := 0) (n := 32) hlk.1 (fun x hx => ⟨(hlk.2.2.2 x hx).1.1, (hlk.2.2.2 x hx).1.2.1⟩)
  refine ⟨33, y_uses4 hd hG hg hal (fun x hx => (hlk.2.2.2 x hx).1) hlv ⟨oc + 1, ?_⟩ 32 0 (by omega)⟩
  rw [e]
  exact y_uses119 hd hoc hO (c0 := pr_sm (pr_e1 A B dn) L) h oc 0 (by omega)
end YH
