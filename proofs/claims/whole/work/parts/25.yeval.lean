/-! Y: eval by passes -/
section YI
variable {f_maxNodes f_maxRules f_phase f_nCount f_outCnt f_apps f_ruleCount f_cex f_curLive f_orderN : Int32} {a_alive a_nKind a_nVal a_nA a_nB a_lv a_nd a_nv a_outs a_tKind a_tVal a_tA a_tB a_tN a_preRel a_preJ a_preK a_ruleUse a_pend a_pendN a_tv a_cv a_mx a_par a_mp a_res a_bnd a_order a_stk a_stSt : Nat → Int32}
variable {lo : Nat} {K : Nat → Nat} {V : Nat → Int32} {A B : Nat → Option Nat} {rk O : Nat → Nat} {ar : Int32}
def y_snd (T : Nat → Prop) (ev : Nat → Int32) (nd nv : Nat → Int32) : Prop := ∀ c, T c → nd c ≠ 0 → nv c = ev c
theorem y_evalStep {post : SY → Prop} {n : Nat} (hlo : lo ≤ 32) (hG : pr_gw lo K V A B rk) (hg : gr_at lo K V A B a_nKind a_nVal a_nA a_nB) (tn : pr_T lo K n) (hs : y_snd (pr_T lo K) (pr_ev K V A B ar 32) a_nd a_nv)
    (hy : (∀ c, A n = some c ∨ B n = some c → a_nd c ≠ 0) → post (f_maxNodes, f_maxRules, f_phase, f_nCount, f_outCnt, f_apps, f_ruleCount, f_cex, f_curLive, f_orderN, a_alive, a_nKind, a_nVal, a_nA, a_nB, a_lv, (upd a_nd n 1), (upd a_nv n (pr_ev K V A B ar 32 n)), a_outs, a_tKind, a_tVal, a_tA, a_tB, a_tN, a_preRel, a_preJ, a_preK, a_ruleUse, a_pend, a_pendN, a_tv, a_cv, a_mx, a_par, a_mp, a_res, a_bnd, a_order, a_stk, a_stSt)) (hno : (∃ c, (A n = some c ∨ B n = some c) ∧ a_nd c = 0) → post (f_maxNodes, f_maxRules, f_phase, f_nCount, f_outCnt, f_apps, f_ruleCount, f_cex, f_curLive, f_orderN, a_alive, a_nKind, a_nVal, a_nA, a_nB, a_lv, a_nd, a_nv, a_outs, a_tKind, a_tVal, a_tA, a_tB, a_tN, a_preRel, a_preJ, a_preK, a_ruleUse, a_pend, a_pendN, a_tv, a_cv, a_mx, a_par, a_mp, a_res, a_bnd, a_order, a_stk, a_stSt)) : wpY_evalStep post (f_maxNodes, f_maxRules, f_phase, f_nCount, f_outCnt, f_apps, f_ruleCount, f_cex, f_curLive, f_orderN, a_alive, a_nKind, a_nVal, a_nA, a_nB, a_lv, a_nd, a_nv, a_outs, a_tKind, a_tVal, a_tA, a_tB, a_tN, a_preRel, a_preJ, a_preK, a_ruleUse, a_pend, a_pendN, a_tv, a_cv, a_mx, a_par, a_mp, a_res, a_bnd, a_order, a_stk, a_stSt) (nI n) ar := by
  have tn2 := tn.2.1
  obtain ⟨g1, g2, g3, g4, g5, g6, g7, g8, g9, g10⟩ := hG n tn
  obtain ⟨k1, k2, k3, k4⟩ := hg n tn
  have hK0 := tn.2.2
  have hK1 : 1 ≤ K n := Nat.pos_of_ne_zero hK0
  have hin : vp_in (nI n) 64 := pk_in n 64 (by omega)
  have hcl : (nI n).toNatClampNeg = n := nI_clamp (by omega)
  have hev := pr_ev_eq (ar := ar) hG tn
  unfold pr_en at hev
  unfold wpY_evalStep
  refine ⟨hin, ?_⟩
  rw [hcl]
  refine nm_r k1 ⟨hin, nm_r k3 ⟨hin, nm_r k4 ?_⟩⟩
  refine pk_eq (K n) 11 (fun e => ⟨hin, hin, ?_⟩) (fun n11 => pk_eq (K n) 12 (fun e => ⟨hin, hin, ?_⟩) (fun n12 => ?_))
  · rw [if_pos e] at hev
    rw [k2, pr_vb1, ← hev]
    exact nm_e ⟨hin, nm_e (hy fun c hc => by rw [g6 (by omega), g7 (by omega)] at hc; rcases hc with x | x <;> cases x)⟩
  · rw [if_neg n11, if_pos e] at hev
    unfold pr_ag at hev
    rw [k2, pr_vb1, ← hev]
    exact nm_e ⟨hin, nm_e (hy fun c hc => by rw [g6 (by omega), g7 (by omega)] at hc; rcases hc with x | x <;> cases x)⟩
  · rw [if_neg n11, if_neg n12] at hev
    obtain ⟨ca, hca⟩ := g8 (by omega)
    have tca := (g10 ca (Or.inl hca)).1
    have tca2 := tca.2.1
    rw [hca] at hev ⊢
    have hina : vp_in (nI ca) 64 := pk_in ca 64 (by omega)
    have hcla : (nI ca).toNatClampNeg = ca := nI_clamp (by omega)
    by_cases hb : K n ≤ 8
    · obtain ⟨cb, hcb⟩ := g9 hb
      have tcb := (g10 cb (Or.inr hcb)).1
      have tcb2 := tcb.2.1
      rw [hcb] at hev ⊢
      have hinb : vp_in (nI cb) 64 := pk_in cb 64 (by omega)
      have hclb : (nI cb).toNatClampNeg = cb := nI_clamp (by omega)
      refine y_isUn_f (by omega) (by omega) (br_t rfl (y_isBin_t hK1 hb (br_f (by decide) ?_)))
      show (nI ca < 0 → _) ∧ (¬ nI ca < 0 → _)
      refine br_f (nI_pos (by omega)) (pk_le 64 ca (fun h => absurd h (by omega)) (fun _ => ?_))
      show (nI cb < 0 → _) ∧ (¬ nI cb < 0 → _)
      refine br_f (nI_pos (by omega)) (pk_le 64 cb (fun h => absurd h (by omega)) (fun _ => ⟨hina, ?_⟩))
      show (a_nd (nI ca).toNatClampNeg = 0 → _) ∧ (¬ a_nd (nI ca).toNatClampNeg = 0 → _)
      rw [hcla]
      refine br_c (fun h0 => hno ⟨ca, Or.inl hca, h0⟩) (fun h0 => ⟨hinb, ?_⟩)
      show (a_nd (nI cb).toNatClampNeg = 0 → _) ∧ (¬ a_nd (nI cb).toNatClampNeg = 0 → _)
      rw [hclb]
      refine br_c (fun h1 => hno ⟨cb, Or.inr hcb, h1⟩) (fun h1 => ⟨hina, hinb, y_op (by omega) (by omega) ⟨hin, ?_⟩⟩)
      show ∀ x, x = upd a_nv (nI n).toNatClampNeg (pr_op (K n) (a_nv (nI ca).toNatClampNeg) (a_nv (nI cb).toNatClampNeg)) → _
      rw [hcl, hcla, hclb, pr_vb1, hs ca tca h0, hs cb tcb h1]
      replace hev : pr_ev K V A B ar 32 n = pr_op (K n) (pr_ev K V A B ar 32 ca) (pr_ev K V A B ar 32 cb) := hev
      rw [← hev]
      refine nm_e ⟨hin, nm_e (hy fun c hc => ?_)⟩
      rcases hc with x | x
      · rw [hca] at x
        cases x
        exact h0
      · rw [hcb] at x
        cases x
        exact h1
    · have hB := g7 (by omega)
      rw [hB] at hev ⊢
      refine y_isUn_t (by omega) (br_f (by decide) ?_)
      show (nI ca < 0 → _) ∧ (¬ nI ca < 0 → _)
      refine br_f (nI_pos (by omega)) (pk_le 64 ca (fun h => absurd h (by omega)) (fun _ => ⟨hina, ?_⟩))
      show (a_nd (nI ca).toNatClampNeg = 0 → _) ∧ (¬ a_nd (nI ca).toNatClampNeg = 0 → _)
      rw [hcla]
      refine br_c (fun h0 => y_isBin_f (by omega) (by omega) (br_t rfl (hno ⟨ca, Or.inl hca, h0⟩))) (fun h0 => ⟨hina, y_op (by omega) (by omega) ⟨hin, ?_⟩⟩)
      show ∀ x, x = upd a_nv n (pr_op (K n) (a_nv (nI ca).toNatClampNeg) 0) → _
      rw [hcla, pr_vb1, hs ca tca h0]
      replace hev : pr_ev K V A B ar 32 n = pr_op (K n) (pr_ev K V A B ar 32 ca) 0 := hev
      rw [← hev]
      refine nm_e ⟨hin, nm_e (hy fun c hc => ?_)⟩
      rcases hc with x | x
      · rw [hca] at x
        cases x
        exact h0
      · rw [hB] at x
        cases x
theorem y_eval76 {post : Int32 → SY → Prop} {J65 : Int32 → Int32 → Int32 → Int32 → Int32 → Int32 → Int32 → Int32 → Int32 → Int32 → Int32 → (Nat → Int32) → (Nat → Int32) → (Nat → Int32) → (Nat → Int32) → (Nat → Int32) → (Nat → Int32) → (Nat → Int32) → (Nat → Int32) → (Nat → Int32) → (Nat → Int32) → (Nat → Int32) → (Nat → Int32) → (Nat → Int32) → (Nat → Int32) → (Nat → Int32) → (Nat → Int32) → (Nat → Int32) → (Nat → Int32) → (Nat → Int32) → (Nat → Int32) → (Nat → Int32) → (Nat → Int32) → (Nat → Int32) → (Nat → Int32) → (Nat → Int32) → (Nat → Int32) → (Nat → Int32) → (Nat → Int32) → (Nat → Int32) → (Nat → Int32) → Prop} {p : Nat} {x1 : Int32} {nd0 : Nat → Int32} (hlo : lo ≤ 32) (hG : pr_gw lo K V A B rk) (hg : gr_at lo K V A B a_nKind a_nVal a_nA a_nB) (hal : al_at lo K a_alive)
    (h : ∀ nd' nv', y_snd (pr_T lo K) (pr_ev K V A B ar 32) nd' nv' → (∀ x, pr_T lo K x → (∀ c, A x = some c ∨ B x = some c → nd0 c ≠ 0) → nd' x ≠ 0) → J65 (nI (p + 1)) f_maxNodes f_maxRules f_phase f_nCount f_outCnt f_apps f_ruleCount f_cex f_curLive f_orderN a_alive a_nKind a_nVal a_nA a_nB a_lv nd' nv' a_outs a_tKind a_tVal a_tA a_tB a_tN a_preRel a_preJ a_preK a_ruleUse a_pend a_pendN a_tv a_cv a_mx a_par a_mp a_res a_bnd a_order a_stk a_stSt) :
    ∀ d s nd nv, s + d = lo + 32 → lo ≤ s → y_snd (pr_T lo K) (pr_ev K V A B ar 32) nd nv → (∀ c, nd0 c ≠ 0 → nd c ≠ 0) → (∀ x, x < s → pr_T lo K x → (∀ c, A x = some c ∨ B x = some c → nd0 c ≠ 0) → nd x ≠ 0) → wY_eval_76 post J65 x1 ar (nI lo) (nI p) (d + 1) (nI s) f_maxNodes f_maxRules f_phase f_nCount f_outCnt f_apps f_ruleCount f_cex f_curLive f_orderN a_alive a_nKind a_nVal a_nA a_nB a_lv nd nv a_outs a_tKind a_tVal a_tA a_tB a_tN a_preRel a_preJ a_preK a_ruleUse a_pend a_pendN a_tv a_cv a_mx a_par a_mp a_res a_bnd a_order a_stk a_stSt := by
  intro d
  have e32 : nI lo + 32 = nI (lo + 32) := nI_add lo 32
  induction d with
  | zero =>
    intro s nd nv hs h0 h1 h2 h3
    show ((nI lo + 32) ≤ nI s → _) ∧ (¬ (nI lo + 32) ≤ nI s → _)
    rw [e32]
    exact pk_le (lo + 32) s (fun _ => nm_r (nI_1 _) (h nd nv h1 fun x tx => h3 x (by have := tx.2.1; omega) tx)) (fun h => absurd h (by omega))
  | succ d ih =>
    intro s nd nv hs h0 h1 h2 h3
    have hin : vp_in (nI s) 64 := pk_in s 64 (by omega)
    have hals := hal s h0 (by omega)
    show ((nI lo + 32) ≤ nI s → _) ∧ (¬ (nI lo + 32) ≤ nI s → _)
    rw [e32]
    refine pk_le (lo + 32) s (fun h => absurd h (by omega)) (fun _ => ⟨hin, ?_⟩)
    rw [nI_clamp (by omega)]
    by_cases hK : K s = 0
    · rw [if_pos hK] at hals
      refine br_t hals (nm_r (nI_1 _) (ih (s + 1) nd nv (by omega) (by omega) h1 h2 fun x hx tx => ?_))
      refine h3 x ?_ tx
      have : x ≠ s := fun e => tx.2.2 (e ▸ hK)
      omega
    · rw [if_neg hK] at hals
      have ts : pr_T lo K s := ⟨h0, by omega, hK⟩
      refine br_f (by rw [hals]; decide) ⟨hin, br_c (fun hz => ?_) (fun hz => nm_r (nI_1 _) (ih (s + 1) nd nv (by omega) (by omega) h1 h2 fun x hx tx hx0 => ?_))⟩
      · refine y_evalStep hlo hG hg ts h1 (fun hy => nm_r (nI_1 _) (ih (s + 1) _ _ (by omega) (by omega) (fun c tc hc => ?_) (fun c hc => ?_) (fun x hx tx hx0 => ?_))) (fun hno => nm_r (nI_1 _) (ih (s + 1) nd nv (by omega) (by omega) h1 h2 fun x hx tx hx0 => ?_))
        · by_cases e : c = s
          · rw [e, pk_us]
          · rw [pk_un e] at hc ⊢
            exact h1 c tc hc
        · by_cases e : c = s
          · rw [e, pk_us]
            decide
          · rw [pk_un e]
            exact h2 c hc
        · by_cases e : x = s
          · rw [e, pk_us]
            decide
          · rw [pk_un e]
            exact h3 x (by omega) tx hx0
        · by_cases e : x = s
          · subst e
            obtain ⟨c, hc, hc0⟩ := hno
            exact absurd hc0 (h2 c (hx0 c hc))
          · exact h3 x (by omega) tx hx0
      · by_cases e : x = s
        · rw [e]
          exact hz
        · exact h3 x (by omega) tx hx0
theorem y_eval65 {post : Int32 → SY → Prop} {g k oc : Nat} (hgc : g < 2) (hk : k < oc) (hoc : oc ≤ 4) (hG : pr_gw (g * 32) K V A B rk) (hg : gr_at (g * 32) K V A B a_nKind a_nVal a_nA a_nB) (hal : al_at (g * 32) K a_alive) (hO : ∀ k, k < oc → pr_T (g * 32) K (O (g * 4 + k)) ∧ a_outs (g * 4 + k) = nI (O (g * 4 + k)))
    (h : ∀ nd' nv', post (pr_ev K V A B ar 32 (O (g * 4 + k))) (f_maxNodes, f_maxRules, f_phase, f_nCount, f_outCnt, f_apps, f_ruleCount, f_cex, f_curLive, f_orderN, a_alive, a_nKind, a_nVal, a_nA, a_nB, a_lv, nd', nv', a_outs, a_tKind, a_tVal, a_tA, a_tB, a_tN, a_preRel, a_preJ, a_preK, a_ruleUse, a_pend, a_pendN, a_tv, a_cv, a_mx, a_par, a_mp, a_res, a_bnd, a_order, a_stk, a_stSt)) :
    ∀ d p nd nv, p + d = 34 → y_snd (pr_T (g * 32) K) (pr_ev K V A B ar 32) nd nv → (∀ c, pr_T (g * 32) K c → rk c < p → nd c ≠ 0) → wY_eval_65 post (nI k) ar (nI (g * 32)) (d + 1) (nI p) f_maxNodes f_maxRules f_phase f_nCount f_outCnt f_apps f_ruleCount f_cex f_curLive f_orderN a_alive a_nKind a_nVal a_nA a_nB a_lv nd nv a_outs a_tKind a_tVal a_tA a_tB a_tN a_preRel a_preJ a_preK a_ruleUse a_pend a_pendN a_tv a_cv a_mx a_par a_mp a_res a_bnd a_order a_stk a_stSt := by
  intro d
  induction d with
  | zero =>
    intro p nd nv hp h1 h2
    obtain ⟨to, eo⟩ := hO k hk
    have to2 := to.2.1
    have h139 : wY_eval_139 post (nI k) (nI (g * 4)) f_maxNodes f_maxRules f_phase f_nCount f_outCnt f_apps f_ruleCount f_cex f_curLive f_orderN a_alive a_nKind a_nVal a_nA a_nB a_lv nd nv a_outs a_tKind a_tVal a_tA a_tB a_tN a_preRel a_preJ a_preK a_ruleUse a_pend a_pendN a_tv a_cv a_mx a_par a_mp a_res a_bnd a_order a_stk a_stSt := by
      show vp_in (nI (g * 4) + nI k) 8 ∧ _
      rw [nI_add]
      refine ⟨pk_in (g * 4 + k) 8 (by omega), ?_⟩
      rw [nI_clamp (by omega)]
      refine nm_r eo (br_f (nI_pos (by omega)) (pk_le 64 (O (g * 4 + k)) (fun h => absurd h (by omega)) (fun _ => ⟨pk_in (O (g * 4 + k)) 64 (by omega), ?_⟩)))
      have hr := pr_gw_r hG _ to
      rw [nI_clamp (by omega), h1 _ to (h2 _ to (by omega)), pr_by_id (pr_ev_by hG 32 _ to hr)]
      exact h nd nv
    refine pk_le 34 p (fun _ => pk_eq (g * 32) 0 (fun e => ?_) (fun e => ?_)) (fun h => absurd h (by omega))
    · have : g = 0 := by omega
      subst this
      exact h139
    · have : g = 1 := by omega
      subst this
      exact h139
  | succ d ih =>
    intro p nd nv hp h1 h2
    refine pk_le 34 p (fun h => absurd h (by omega)) (fun _ => ⟨33, ?_⟩)
    refine y_eval76 (nd0 := nd) (by omega) hG hg hal (fun nd' nv' k1 k2 => ?_) 32 (g * 32) nd nv (by omega) (by omega) h1 (fun c hc => hc) (fun x hx tx => absurd tx.1 (by omega))
    refine ih (p + 1) nd' nv' (by omega) k1 (fun c tc hr => k2 c tc fun x hx => ?_)
    have := pr_gw_T hG c x tc hx
    exact h2 x this.1 (by omega)
theorem y_eval38 {post : Int32 → SY → Prop} {g k oc : Nat} (hgc : g < 2) (hk : k < oc) (hoc : oc ≤ 4) (hG : pr_gw (g * 32) K V A B rk) (hg : gr_at (g * 32) K V A B a_nKind a_nVal a_nA a_nB) (hal : al_at (g * 32) K a_alive) (hO : ∀ k, k < oc → pr_T (g * 32) K (O (g * 4 + k)) ∧ a_outs (g * 4 + k) = nI (O (g * 4 + k)))
    (h : ∀ nd' nv', post (pr_ev K V A B ar 32 (O (g * 4 + k))) (f_maxNodes, f_maxRules, f_phase, f_nCount, f_outCnt, f_apps, f_ruleCount, f_cex, f_curLive, f_orderN, a_alive, a_nKind, a_nVal, a_nA, a_nB, a_lv, nd', nv', a_outs, a_tKind, a_tVal, a_tA, a_tB, a_tN, a_preRel, a_preJ, a_preK, a_ruleUse, a_pend, a_pendN, a_tv, a_cv, a_mx, a_par, a_mp, a_res, a_bnd, a_order, a_stk, a_stSt)) :
    ∃ n, wY_eval_38 post (nI k) ar (nI (g * 32)) f_maxNodes f_maxRules f_phase f_nCount f_outCnt f_apps f_ruleCount f_cex f_curLive f_orderN n (nI (g * 32)) a_alive a_nKind a_nVal a_nA a_nB a_lv a_nd a_nv a_outs a_tKind a_tVal a_tA a_tB a_tN a_preRel a_preJ a_preK a_ruleUse a_pend a_pendN a_tv a_cv a_mx a_par a_mp a_res a_bnd a_order a_stk a_stSt := by
  have e32 : nI (g * 32) + 32 = nI (g * 32 + 32) := nI_add (g * 32) 32
  have l : ∀ d s nd, s + d = g * 32 + 32 → g * 32 ≤ s → (∀ c, g * 32 ≤ c → c < s → nd c = 0) → wY_eval_38 post (nI k) ar (nI (g * 32)) f_maxNodes f_maxRules f_phase f_nCount f_outCnt f_apps f_ruleCount f_cex f_curLive f_orderN (d + 1) (nI s) a_alive a_nKind a_nVal a_nA a_nB a_lv nd a_nv a_outs a_tKind a_tVal a_tA a_tB a_tN a_preRel a_preJ a_preK a_ruleUse a_pend a_pendN a_tv a_cv a_mx a_par a_mp a_res a_bnd a_order a_stk a_stSt := by
    intro d
    induction d with
    | zero =>
      intro s nd hs h0 h1
      show ((nI (g * 32) + 32) ≤ nI s → _) ∧ (¬ (nI (g * 32) + 32) ≤ nI s → _)
      rw [e32]
      refine pk_le (g * 32 + 32) s (fun _ => ⟨35, ?_⟩) (fun h => absurd h (by omega))
      exact y_eval65 hgc hk hoc hG hg hal hO h 34 0 nd a_nv (by omega) (fun c tc hc => absurd (h1 c tc.1 (by have := tc.2.1; omega)) hc) (fun c _ hr => absurd hr (by omega))
    | succ d ih =>
      intro s nd hs h0 h1
      show ((nI (g * 32) + 32) ≤ nI s → _) ∧ (¬ (nI (g * 32) + 32) ≤ nI s → _)
      rw [e32]
      refine pk_le (g * 32 + 32) s (fun h => absurd h (by omega)) (fun _ => ⟨pk_in s 64 (by omega), ?_⟩)
      rw [nI_clamp (by omega), pr_vb0]
      refine nm_e (nm_r (nI_1 _) (ih (s + 1) _ (by omega) (by omega) fun c c1 c2 => ?_))
      by_cases e : c = s
      · rw [e, pk_us]
      · rw [pk_un e]
        exact h1 c c1 (by omega)
  exact ⟨33, l 32 (g * 32) a_nd (by omega) (by omega) (fun c c1 c2 => absurd c2 (by omega))⟩
end YI
