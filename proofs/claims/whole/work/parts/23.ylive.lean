/-! Y: liveMark, liveSum, deleteDead -/
def al_at (lo : Nat) (K : Nat → Nat) (al : Nat → Int32) : Prop := ∀ n, lo ≤ n → n < lo + 32 → al n = (if K n = 0 then 0 else 1)
def pr_mk (o : Option Nat) (lv : Nat → Int32) : Nat → Int32 := match o with
  | none => lv
  | some c => upd lv c 1
theorem pr_mk_mono {o : Option Nat} {lv : Nat → Int32} {x : Nat} (h : lv x ≠ 0) : pr_mk o lv x ≠ 0 := by
  cases o with
  | none => exact h
  | some c =>
    show upd lv c 1 x ≠ 0
    by_cases e : x = c
    · rw [e, pk_us]
      decide
    · rw [pk_un e]
      exact h
theorem pr_mk_s {lv : Nat → Int32} {c : Nat} {o : Option Nat} (h : o = some c) : pr_mk o lv c ≠ 0 := by
  subst h
  show upd lv c 1 c ≠ 0
  rw [pk_us]
  decide
theorem pr_mk_inv {o : Option Nat} {lv : Nat → Int32} {x : Nat} (h : pr_mk o lv x ≠ 0) : lv x ≠ 0 ∨ o = some x := by
  cases o with
  | none => exact Or.inl h
  | some c =>
    replace h : upd lv c 1 x ≠ 0 := h
    by_cases e : x = c
    · exact Or.inr (by rw [e])
    · rw [pk_un e] at h
      exact Or.inl h
/-- a listed node is an output or an operand of a listed node -/
theorem pr_lk_pred {T : Nat → Prop} {A B : Nat → Option Nat} {O : Nat → Nat} {ob k : Nat} {L : List Nat} (h : pr_lk T A B O ob k L) : ∀ c, c ∈ L → (∃ i, i < k ∧ O (ob + i) = c) ∨ ∃ x, x ∈ L ∧ (A x = some c ∨ B x = some c) := by
  obtain ⟨h1, h2, h3, h4⟩ := h
  intro c hc
  have := (h4 c hc).2 (fun c => c ∈ L ∧ ((∃ i, i < k ∧ O (ob + i) = c) ∨ ∃ x, x ∈ L ∧ (A x = some c ∨ B x = some c))) (fun x y hx hy => ⟨h2 x y hx.1 hy, Or.inr ⟨x, hx.1, hy⟩⟩) (fun i hi => ⟨h3 i hi, Or.inl ⟨i, hi, rfl⟩⟩)
  exact this.2
section YG
variable {f_maxNodes f_maxRules f_phase f_nCount f_outCnt f_apps f_ruleCount f_cex f_curLive f_orderN : Int32} {a_alive a_nKind a_nVal a_nA a_nB a_lv a_nd a_nv a_outs a_tKind a_tVal a_tA a_tB a_tN a_preRel a_preJ a_preK a_ruleUse a_pend a_pendN a_tv a_cv a_mx a_par a_mp a_res a_bnd a_order a_stk a_stSt : Nat → Int32}
variable {lo : Nat} {K : Nat → Nat} {V : Nat → Int32} {A B : Nat → Option Nat} {rk O : Nat → Nat} {post : SY → Prop} {L : List Nat}
theorem y_mark {c : Nat} (hc : c < 64) (h : post (f_maxNodes, f_maxRules, f_phase, f_nCount, f_outCnt, f_apps, f_ruleCount, f_cex, f_curLive, f_orderN, a_alive, a_nKind, a_nVal, a_nA, a_nB, (upd a_lv c 1), a_nd, a_nv, a_outs, a_tKind, a_tVal, a_tA, a_tB, a_tN, a_preRel, a_preJ, a_preK, a_ruleUse, a_pend, a_pendN, a_tv, a_cv, a_mx, a_par, a_mp, a_res, a_bnd, a_order, a_stk, a_stSt)) : wpY_mark post (f_maxNodes, f_maxRules, f_phase, f_nCount, f_outCnt, f_apps, f_ruleCount, f_cex, f_curLive, f_orderN, a_alive, a_nKind, a_nVal, a_nA, a_nB, a_lv, a_nd, a_nv, a_outs, a_tKind, a_tVal, a_tA, a_tB, a_tN, a_preRel, a_preJ, a_preK, a_ruleUse, a_pend, a_pendN, a_tv, a_cv, a_mx, a_par, a_mp, a_res, a_bnd, a_order, a_stk, a_stSt) (nI c) := by
  unfold wpY_mark
  refine br_f (nI_pos (by omega)) (pk_le 64 c (fun h => absurd h (by omega)) (fun _ => ⟨pk_in c 64 hc, ?_⟩))
  rw [nI_clamp (by omega), pr_vb1]
  exact nm_e h
theorem y_lm_body {J68 : Int32 → Int32 → Int32 → Int32 → Int32 → Int32 → Int32 → Int32 → Int32 → Int32 → Int32 → (Nat → Int32) → (Nat → Int32) → (Nat → Int32) → (Nat → Int32) → (Nat → Int32) → (Nat → Int32) → (Nat → Int32) → (Nat → Int32) → (Nat → Int32) → (Nat → Int32) → (Nat → Int32) → (Nat → Int32) → (Nat → Int32) → (Nat → Int32) → (Nat → Int32) → (Nat → Int32) → (Nat → Int32) → (Nat → Int32) → (Nat → Int32) → (Nat → Int32) → (Nat → Int32) → (Nat → Int32) → (Nat → Int32) → (Nat → Int32) → (Nat → Int32) → (Nat → Int32) → (Nat → Int32) → (Nat → Int32) → (Nat → Int32) → (Nat → Int32) → Prop} {f s x3 : Nat} (hlo : lo ≤ 32) (hG : pr_gw lo K V A B rk) (hg : gr_at lo K V A B a_nKind a_nVal a_nA a_nB) (hal : al_at lo K a_alive) (h1 : lo ≤ s) (h2 : s < lo + 32)
    (h : wY_liveMark_77 post J68 (nI lo) (nI x3) f (nI (s + 1)) f_maxNodes f_maxRules f_phase f_nCount f_outCnt f_apps f_ruleCount f_cex f_curLive f_orderN a_alive a_nKind a_nVal a_nA a_nB (if K s = 0 ∨ a_lv s = 0 then a_lv else pr_mk (B s) (pr_mk (A s) a_lv)) a_nd a_nv a_outs a_tKind a_tVal a_tA a_tB a_tN a_preRel a_preJ a_preK a_ruleUse a_pend a_pendN a_tv a_cv a_mx a_par a_mp a_res a_bnd a_order a_stk a_stSt) :
    wY_liveMark_77 post J68 (nI lo) (nI x3) (f + 1) (nI s) f_maxNodes f_maxRules f_phase f_nCount f_outCnt f_apps f_ruleCount f_cex f_curLive f_orderN a_alive a_nKind a_nVal a_nA a_nB a_lv a_nd a_nv a_outs a_tKind a_tVal a_tA a_tB a_tN a_preRel a_preJ a_preK a_ruleUse a_pend a_pendN a_tv a_cv a_mx a_par a_mp a_res a_bnd a_order a_stk a_stSt := by
  have hin : vp_in (nI s) 64 := pk_in s 64 (by omega)
  have hcl : (nI s).toNatClampNeg = s := nI_clamp (by omega)
  have e32 : nI lo + 32 = nI (lo + 32) := nI_add lo 32
  have hals := hal s h1 h2
  show ((nI lo + 32) ≤ nI s → _) ∧ (¬ (nI lo + 32) ≤ nI s → _)
  rw [e32]
  refine pk_le (lo + 32) s (fun h => absurd h (by omega)) (fun _ => ⟨hin, ?_⟩)
  rw [hcl]
  by_cases hK : K s = 0
  · rw [if_pos hK] at hals
    rw [if_pos (Or.inl hK)] at h
    refine br_t hals ⟨hin, ?_⟩
    rw [hcl]
    exact br_t hals (nm_r (nI_1 _) h)
  · rw [if_neg hK] at hals
    have hal1 : ¬ a_alive s = 0 := by
      rw [hals]
      decide
    by_cases hl : a_lv s = 0
    · rw [if_pos (Or.inr hl)] at h
      refine br_f hal1 ⟨hin, br_t hl ⟨hin, ?_⟩⟩
      rw [hcl]
      exact br_f hal1 ⟨hin, br_t hl (nm_r (nI_1 _) h)⟩
    · rw [if_neg (fun hx => hx.elim hK hl)] at h
      have ts : pr_T lo K s := ⟨h1, h2, hK⟩
      have hK1 : 1 ≤ K s := Nat.pos_of_ne_zero hK
      obtain ⟨g1, g2, g3, g4, g5, g6, g7, g8, g9, g10⟩ := hG s ts
      obtain ⟨k1, k2, k3, k4⟩ := hg s ts
      have h145 : ∀ lv, lv s ≠ 0 → wY_liveMark_77 post J68 (nI lo) (nI x3) f (nI (s + 1)) f_maxNodes f_maxRules f_phase f_nCount f_outCnt f_apps f_ruleCount f_cex f_curLive f_orderN a_alive a_nKind a_nVal a_nA a_nB (pr_mk (B s) lv) a_nd a_nv a_outs a_tKind a_tVal a_tA a_tB a_tN a_preRel a_preJ a_preK a_ruleUse a_pend a_pendN a_tv a_cv a_mx a_par a_mp a_res a_bnd a_order a_stk a_stSt → wY_liveMark_145 post J68 (wY_liveMark_77 post J68 (nI lo) (nI x3) f) (nI lo) (nI x3) (nI s) f_maxNodes f_maxRules f_phase f_nCount f_outCnt f_apps f_ruleCount f_cex f_curLive f_orderN a_alive a_nKind a_nVal a_nA a_nB lv a_nd a_nv a_outs a_tKind a_tVal a_tA a_tB a_tN a_preRel a_preJ a_preK a_ruleUse a_pend a_pendN a_tv a_cv a_mx a_par a_mp a_res a_bnd a_order a_stk a_stSt := by
        intro lv hlv hh
        refine ⟨hin, ?_⟩
        rw [hcl]
        refine br_f hal1 ⟨hin, br_f hlv ⟨hin, ?_⟩⟩
        rw [k1]
        by_cases hb : K s ≤ 8
        · obtain ⟨c, hc⟩ := g9 hb
          have tc := (g10 c (Or.inr hc)).1.2.1
          refine y_isBin_t hK1 hb (br_f (by decide) ⟨hin, ?_⟩)
          rw [k4, hc]
          rw [hc] at hh
          exact y_mark (by omega) (nm_r (nI_1 _) hh)
        · rw [g7 (by omega)] at hh
          exact y_isBin_f (by omega) (by omega) (br_t rfl (nm_r (nI_1 _) hh))
      have h134 : K s ≤ 10 → wY_liveMark_134 post J68 (wY_liveMark_77 post J68 (nI lo) (nI x3) f) (nI lo) (nI x3) (nI s) f_maxNodes f_maxRules f_phase f_nCount f_outCnt f_apps f_ruleCount f_cex f_curLive f_orderN a_alive a_nKind a_nVal a_nA a_nB a_lv a_nd a_nv a_outs a_tKind a_tVal a_tA a_tB a_tN a_preRel a_preJ a_preK a_ruleUse a_pend a_pendN a_tv a_cv a_mx a_par a_mp a_res a_bnd a_order a_stk a_stSt := by
        intro hu
        obtain ⟨c, hc⟩ := g8 hu
        have tc := (g10 c (Or.inl hc)).1.2.1
        refine ⟨hin, ?_⟩
        rw [hcl, k3, hc]
        rw [hc] at h
        exact y_mark (by omega) (h145 _ (pr_mk_mono (o := some c) hl) h)
      refine br_f hal1 ⟨hin, br_f hl ⟨hin, ?_⟩⟩
      rw [k1]
      by_cases hb : K s ≤ 8
      · exact y_isBin_t hK1 hb (br_f (by decide) (h134 (Nat.le_trans hb (by decide))))
      · refine y_isBin_f (by omega) (by omega) (br_t rfl ⟨hin, ?_⟩)
        by_cases hu : K s ≤ 10
        · exact y_isUn_t (by omega) (br_f (by decide) (h134 hu))
        · refine y_isUn_f (by omega) (by omega) (br_t rfl (h145 _ hl ?_))
          rw [g6 (by omega)] at h
          exact h
def y_lvs (lo : Nat) (L : List Nat) (lv : Nat → Int32) : Prop := ∀ c, lo ≤ c → c < lo + 32 → lv c ≠ 0 → c ∈ L
theorem y_lm_pass {J68 : Int32 → Int32 → Int32 → Int32 → Int32 → Int32 → Int32 → Int32 → Int32 → Int32 → Int32 → (Nat → Int32) → (Nat → Int32) → (Nat → Int32) → (Nat → Int32) → (Nat → Int32) → (Nat → Int32) → (Nat → Int32) → (Nat → Int32) → (Nat → Int32) → (Nat → Int32) → (Nat → Int32) → (Nat → Int32) → (Nat → Int32) → (Nat → Int32) → (Nat → Int32) → (Nat → Int32) → (Nat → Int32) → (Nat → Int32) → (Nat → Int32) → (Nat → Int32) → (Nat → Int32) → (Nat → Int32) → (Nat → Int32) → (Nat → Int32) → (Nat → Int32) → (Nat → Int32) → (Nat → Int32) → (Nat → Int32) → (Nat → Int32) → (Nat → Int32) → Prop} {x3 : Nat} {lv0 : Nat → Int32} (hlo : lo ≤ 32) (hG : pr_gw lo K V A B rk) (hg : gr_at lo K V A B a_nKind a_nVal a_nA a_nB) (hal : al_at lo K a_alive) (hcl : pr_cl A B (fun x => x ∈ L))
    (hLT : ∀ x, x ∈ L → pr_T lo K x)
    (h : ∀ lv', y_lvs lo L lv' → (∀ c, lv0 c ≠ 0 → lv' c ≠ 0) → (∀ x, lo ≤ x → x < lo + 32 → K x ≠ 0 → lv0 x ≠ 0 → ∀ c, A x = some c ∨ B x = some c → lv' c ≠ 0) → J68 (nI (x3 + 1)) f_maxNodes f_maxRules f_phase f_nCount f_outCnt f_apps f_ruleCount f_cex f_curLive f_orderN a_alive a_nKind a_nVal a_nA a_nB lv' a_nd a_nv a_outs a_tKind a_tVal a_tA a_tB a_tN a_preRel a_preJ a_preK a_ruleUse a_pend a_pendN a_tv a_cv a_mx a_par a_mp a_res a_bnd a_order a_stk a_stSt) :
    ∀ d s lv, s + d = lo + 32 → lo ≤ s → y_lvs lo L lv → (∀ c, lv0 c ≠ 0 → lv c ≠ 0) → (∀ x, lo ≤ x → x < s → K x ≠ 0 → lv0 x ≠ 0 → ∀ c, A x = some c ∨ B x = some c → lv c ≠ 0) → wY_liveMark_77 post J68 (nI lo) (nI x3) (d + 1) (nI s) f_maxNodes f_maxRules f_phase f_nCount f_outCnt f_apps f_ruleCount f_cex f_curLive f_orderN a_alive a_nKind a_nVal a_nA a_nB lv a_nd a_nv a_outs a_tKind a_tVal a_tA a_tB a_tN a_preRel a_preJ a_preK a_ruleUse a_pend a_pendN a_tv a_cv a_mx a_par a_mp a_res a_bnd a_order a_stk a_stSt := by
  intro d
  induction d with
  | zero =>
    intro s lv hs h0 h1 h2 h3
    have e32 : nI lo + 32 = nI (lo + 32) := nI_add lo 32
    show ((nI lo + 32) ≤ nI s → _) ∧ (¬ (nI lo + 32) ≤ nI s → _)
    rw [e32]
    refine pk_le (lo + 32) s (fun _ => nm_r (nI_1 _) (h lv h1 h2 fun x a b => h3 x a (by omega))) (fun h => absurd h (by omega))
  | succ d ih =>
    intro s lv hs h0 h1 h2 h3
    refine y_lm_body hlo hG hg hal h0 (by omega) ?_
    refine ih (s + 1) _ (by omega) (by omega) ?_ ?_ ?_
    · intro c c1 c2 hc
      by_cases hx : K s = 0 ∨ lv s = 0
      · rw [if_pos hx] at hc
        exact h1 c c1 c2 hc
      · rw [if_neg hx] at hc
        have hsL : s ∈ L := h1 s h0 (by omega) fun h => hx (Or.inr h)
        rcases pr_mk_inv hc with hc | hc
        · rcases pr_mk_inv hc with hc | hc
          · exact h1 c c1 c2 hc
          · exact hcl s c hsL (Or.inl hc)
        · exact hcl s c hsL (Or.inr hc)
    · intro c hc
      by_cases hx : K s = 0 ∨ lv s = 0
      · rw [if_pos hx]
        exact h2 c hc
      · rw [if_neg hx]
        exact pr_mk_mono (pr_mk_mono (h2 c hc))
    · intro x x1 x2 hK hx c hc
      by_cases e : x = s
      · subst e
        rw [if_neg (fun hh => hh.elim hK (h2 x hx))]
        rcases hc with hc | hc
        · exact pr_mk_mono (pr_mk_s hc)
        · exact pr_mk_s hc
      · have := h3 x x1 (by omega) hK hx c hc
        by_cases hx : K s = 0 ∨ lv s = 0
        · rw [if_pos hx]
          exact this
        · rw [if_neg hx]
          exact pr_mk_mono (pr_mk_mono this)
theorem y_lm_passes {ob oc : Nat} (hlo : lo ≤ 32) (hG : pr_gw lo K V A B rk) (hg : gr_at lo K V A B a_nKind a_nVal a_nA a_nB) (hal : al_at lo K a_alive) (hL : pr_lk (pr_T lo K) A B O ob oc L)
    (h : ∀ lv', (∀ c, lo ≤ c → c < lo + 32 → (lv' c = 0 ↔ c ∉ L)) → post (f_maxNodes, f_maxRules, f_phase, f_nCount, f_outCnt, f_apps, f_ruleCount, f_cex, f_curLive, f_orderN, a_alive, a_nKind, a_nVal, a_nA, a_nB, lv', a_nd, a_nv, a_outs, a_tKind, a_tVal, a_tA, a_tB, a_tN, a_preRel, a_preJ, a_preK, a_ruleUse, a_pend, a_pendN, a_tv, a_cv, a_mx, a_par, a_mp, a_res, a_bnd, a_order, a_stk, a_stSt)) :
    ∀ d p lv, p + d = 34 → y_lvs lo L lv → (∀ i, i < oc → lv (O (ob + i)) ≠ 0) → (∀ c, c ∈ L → 32 ≤ rk c + p → lv c ≠ 0) → wY_liveMark_68 post (nI lo) (d + 1) (nI p) f_maxNodes f_maxRules f_phase f_nCount f_outCnt f_apps f_ruleCount f_cex f_curLive f_orderN a_alive a_nKind a_nVal a_nA a_nB lv a_nd a_nv a_outs a_tKind a_tVal a_tA a_tB a_tN a_preRel a_preJ a_preK a_ruleUse a_pend a_pendN a_tv a_cv a_mx a_par a_mp a_res a_bnd a_order a_stk a_stSt := by
  intro d
  induction d with
  | zero =>
    intro p lv hp h1 h2 h3
    refine pk_le 34 p (fun _ => h lv fun c c1 c2 => ⟨fun h0 hc => h3 c hc (by omega) h0, fun hc => ?_⟩) (fun h => absurd h (by omega))
    apply Classical.byContradiction
    intro h0
    exact hc (h1 c c1 c2 h0)
  | succ d ih =>
    intro p lv hp h1 h2 h3
    refine pk_le 34 p (fun h => absurd h (by omega)) (fun _ => ⟨33, ?_⟩)
    refine y_lm_pass (L := L) (lv0 := lv) hlo hG hg hal hL.2.1 (fun x hx => (hL.2.2.2 x hx).1) (fun lv' k1 k2 k3 => ?_) 32 lo lv (by omega) (by omega) h1 (fun c hc => hc) (fun x a b => absurd b (by omega))
    refine ih (p + 1) lv' (by omega) k1 (fun i hi => k2 _ (h2 i hi)) (fun c hc hr => ?_)
    rcases pr_lk_pred hL c hc with ⟨i, hi, e⟩ | ⟨x, hx, he⟩
    · rw [← e]
      exact k2 _ (h2 i hi)
    · have tx := (hL.2.2.2 x hx).1
      have hrx := (pr_gw_T hG x c tx he).2
      exact k3 x tx.1 tx.2.1 tx.2.2 (h3 x hx (by omega)) c he
theorem y_liveMark {g oc : Nat} (hgc : g < 2) (hG : pr_gw (g * 32) K V A B rk) (hg : gr_at (g * 32) K V A B a_nKind a_nVal a_nA a_nB) (hal : al_at (g * 32) K a_alive) (hoc : oc ≤ 4) (hO : ∀ k, k < oc → pr_T (g * 32) K (O (g * 4 + k)) ∧ a_outs (g * 4 + k) = nI (O (g * 4 + k))) (hL : L = pr_lv A B O (g * 4) oc)
    (h : ∀ lv', (∀ c, g * 32 ≤ c → c < g * 32 + 32 → (lv' c = 0 ↔ c ∉ L)) → post (f_maxNodes, f_maxRules, f_phase, f_nCount, (nI oc), f_apps, f_ruleCount, f_cex, f_curLive, f_orderN, a_alive, a_nKind, a_nVal, a_nA, a_nB, lv', a_nd, a_nv, a_outs, a_tKind, a_tVal, a_tA, a_tB, a_tN, a_preRel, a_preJ, a_preK, a_ruleUse, a_pend, a_pendN, a_tv, a_cv, a_mx, a_par, a_mp, a_res, a_bnd, a_order, a_stk, a_stSt)) : wpY_liveMark post (f_maxNodes, f_maxRules, f_phase, f_nCount, (nI oc), f_apps, f_ruleCount, f_cex, f_curLive, f_orderN, a_alive, a_nKind, a_nVal, a_nA, a_nB, a_lv, a_nd, a_nv, a_outs, a_tKind, a_tVal, a_tA, a_tB, a_tN, a_preRel, a_preJ, a_preK, a_ruleUse, a_pend, a_pendN, a_tv, a_cv, a_mx, a_par, a_mp, a_res, a_bnd, a_order, a_stk, a_stSt) (nI (g * 32)) := by
  have hlk := pr_lv_ok (O := O) (ob := g * 4) (pr_gw_T hG) (pr_gw_r hG) oc (fun k hk => (hO k hk).1)
  rw [← hL] at hlk
  have l35 : ∀ d i lv, i + d = oc → y_lvs (g * 32) L lv → (∀ k, k < i → lv (O (g * 4 + k)) ≠ 0) → wY_liveMark_35 post (nI (g * 32)) (nI (g * 4)) (d + 1) (nI i) f_maxNodes f_maxRules f_phase f_nCount (nI oc) f_apps f_ruleCount f_cex f_curLive f_orderN a_alive a_nKind a_nVal a_nA a_nB lv a_nd a_nv a_outs a_tKind a_tVal a_tA a_tB a_tN a_preRel a_preJ a_preK a_ruleUse a_pend a_pendN a_tv a_cv a_mx a_par a_mp a_res a_bnd a_order a_stk a_stSt := by
    intro d
    induction d with
    | zero =>
      intro i lv hi h1 h2
      refine pk_le oc i (fun _ => ⟨35, ?_⟩) (fun h => absurd h (by omega))
      have e : i = oc := by omega
      rw [e] at h2
      exact y_lm_passes (by omega) hG hg hal hlk h 34 0 lv (by omega) h1 h2 (fun c hc hr => absurd (pr_gw_r hG c (hlk.2.2.2 c hc).1) (by omega))
    | succ d ih =>
      intro i lv hi h1 h2
      obtain ⟨to, eo⟩ := hO i (by omega)
      have to2 := to.2.1
      refine pk_le oc i (fun h => absurd h (by omega)) (fun _ => pk_le 4 i (fun h => absurd h (by omega)) (fun _ => ?_))
      rw [nI_add]
      refine ⟨pk_in (g * 4 + i) 8 (by omega), ?_⟩
      rw [nI_clamp (by omega), eo]
      refine y_mark (by omega) (nm_r (nI_1 _) (ih (i + 1) _ (by omega) (fun c c1 c2 hc => ?_) (fun k hk => ?_)))
      · by_cases e : c = O (g * 4 + i)
        · rw [e]
          exact hlk.2.2.1 i (by omega)
        · rw [pk_un e] at hc
          exact h1 c c1 c2 hc
      · by_cases e : O (g * 4 + k) = O (g * 4 + i)
        · rw [e, pk_us]
          decide
        · rw [pk_un e]
          refine h2 k ?_
          have : k ≠ i := fun hx => e (by rw [hx])
          omega
  have l2 : ∀ d s lv, s + d = g * 32 + 32 → g * 32 ≤ s → (∀ c, g * 32 ≤ c → c < s → lv c = 0) → wY_liveMark_2 post (nI (g * 32)) f_maxNodes f_maxRules f_phase f_nCount (nI oc) f_apps f_ruleCount f_cex f_curLive f_orderN (d + 1) (nI s) a_alive a_nKind a_nVal a_nA a_nB lv a_nd a_nv a_outs a_tKind a_tVal a_tA a_tB a_tN a_preRel a_preJ a_preK a_ruleUse a_pend a_pendN a_tv a_cv a_mx a_par a_mp a_res a_bnd a_order a_stk a_stSt := by
    intro d
    have e32 : nI (g * 32) + 32 = nI (g * 32 + 32) := nI_add (g * 32) 32
    induction d with
    | zero =>
      intro s lv hs h0 h1
      show ((nI (g * 32) + 32) ≤ nI s → _) ∧ (¬ (nI (g * 32) + 32) ≤ nI s → _)
      rw [e32]
      refine pk_le (g * 32 + 32) s (fun _ => ?_) (fun h => absurd h (by omega))
      have hh := l35 oc 0 lv (by omega) (fun c c1 c2 hc => absurd (h1 c c1 (by omega)) hc) (fun k hk => absurd hk (by omega))
      refine pk_eq (g * 32) 0 (fun e => ⟨oc + 1, ?_⟩) (fun e => ⟨oc + 1, ?_⟩)
      · have : g = 0 := by omega
        subst this
        exact hh
      · have : g = 1 := by omega
        subst this
        exact hh
    | succ d ih =>
      intro s lv hs h0 h1
      show ((nI (g * 32) + 32) ≤ nI s → _) ∧ (¬ (nI (g * 32) + 32) ≤ nI s → _)
      rw [e32]
      refine pk_le (g * 32 + 32) s (fun h => absurd h (by omega)) (fun _ => ⟨pk_in s 64 (by omega), ?_⟩)
      rw [nI_clamp (by omega), pr_vb0]
      refine nm_e (nm_r (nI_1 _) (ih (s + 1) _ (by omega) (by omega) fun c c1 c2 => ?_))
      by_cases e : c = s
      · rw [e, pk_us]
      · rw [pk_un e]
        exact h1 c c1 (by omega)
  exact ⟨33, l2 32 (g * 32) a_lv (by omega) (by omega) (fun c c1 c2 => absurd c2 (by omega))⟩
end YG
