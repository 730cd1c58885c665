/-! Y: the order of the nodes -/
section YE
variable {f_maxNodes f_maxRules f_phase f_nCount f_outCnt f_apps f_ruleCount f_cex f_curLive f_orderN : Int32} {a_alive a_nKind a_nVal a_nA a_nB a_lv a_nd a_nv a_outs a_tKind a_tVal a_tA a_tB a_tN a_preRel a_preJ a_preK a_ruleUse a_pend a_pendN a_tv a_cv a_mx a_par a_mp a_res a_bnd a_order a_stk a_stSt : Nat → Int32}
variable {K : Nat → Nat} {V : Nat → Int32} {A B : Nat → Option Nat} {rk : Nat → Nat} {post : SY → Prop} {J28 : Int32 → Int32 → (Nat → Int32) → (Nat → Int32) → (Nat → Int32) → (Nat → Int32) → (Nat → Int32) → (Nat → Int32) → (Nat → Int32) → (Nat → Int32) → (Nat → Int32) → (Nat → Int32) → (Nat → Int32) → (Nat → Int32) → (Nat → Int32) → (Nat → Int32) → (Nat → Int32) → (Nat → Int32) → (Nat → Int32) → (Nat → Int32) → (Nat → Int32) → (Nat → Int32) → (Nat → Int32) → (Nat → Int32) → (Nat → Int32) → (Nat → Int32) → (Nat → Int32) → (Nat → Int32) → (Nat → Int32) → (Nat → Int32) → (Nat → Int32) → (Nat → Int32) → Prop} {x1 : Int32}
theorem y_199_skip {J100 : Int32 → Int32 → Int32 → (Nat → Int32) → (Nat → Int32) → (Nat → Int32) → (Nat → Int32) → (Nat → Int32) → (Nat → Int32) → (Nat → Int32) → (Nat → Int32) → (Nat → Int32) → (Nat → Int32) → (Nat → Int32) → (Nat → Int32) → (Nat → Int32) → (Nat → Int32) → (Nat → Int32) → (Nat → Int32) → (Nat → Int32) → (Nat → Int32) → (Nat → Int32) → (Nat → Int32) → (Nat → Int32) → (Nat → Int32) → (Nat → Int32) → (Nat → Int32) → (Nat → Int32) → (Nat → Int32) → (Nat → Int32) → (Nat → Int32) → (Nat → Int32) → (Nat → Int32) → Prop} {d step s : Nat} {x4 : Int32} {o : Option Nat} (hs : s < 2) (hd : d < 40) (ho : ∀ c, o = some c → c < 32 ∧ a_nd c ≠ 0)
    (h : J100 (nI (d + 1)) (nI (step + 1)) f_orderN a_alive a_nKind a_nVal a_nA a_nB a_lv a_nd a_nv a_outs a_tKind a_tVal a_tA a_tB a_tN a_preRel a_preJ a_preK a_ruleUse a_pend a_pendN a_tv a_cv a_mx a_par a_mp a_res a_bnd a_order a_stk (upd a_stSt d (nI (s + 1)))) : wY_buildOrder_199 post J28 J100 x1 (nI (d + 1)) (nI step) x4 (nI s) (pr_oI o) f_maxNodes f_maxRules f_phase f_nCount f_outCnt f_apps f_ruleCount f_cex f_curLive f_orderN a_alive a_nKind a_nVal a_nA a_nB a_lv a_nd a_nv a_outs a_tKind a_tVal a_tA a_tB a_tN a_preRel a_preJ a_preK a_ruleUse a_pend a_pendN a_tv a_cv a_mx a_par a_mp a_res a_bnd a_order a_stk a_stSt := by
  refine pk_eq s 2 (fun h => absurd h (by omega)) (fun _ => ?_)
  rw [nI_pred]
  refine ⟨pk_in d 40 hd, ?_⟩
  rw [nI_clamp (by omega), nI_1]
  refine nm_e ?_
  cases o with
  | none => exact br_t (by decide) (nm_r (nI_1 _) h)
  | some c =>
    have hc := ho c rfl
    refine br_f (nI_pos (by omega)) (pk_le 32 c (fun h => absurd h (by omega)) (fun _ => ⟨pk_in c 64 (by omega), ?_⟩))
    rw [show (pr_oI (some c)).toNatClampNeg = c from nI_clamp (by omega)]
    exact br_f hc.2 (nm_r (nI_1 _) h)
theorem y_199_push {J100 : Int32 → Int32 → Int32 → (Nat → Int32) → (Nat → Int32) → (Nat → Int32) → (Nat → Int32) → (Nat → Int32) → (Nat → Int32) → (Nat → Int32) → (Nat → Int32) → (Nat → Int32) → (Nat → Int32) → (Nat → Int32) → (Nat → Int32) → (Nat → Int32) → (Nat → Int32) → (Nat → Int32) → (Nat → Int32) → (Nat → Int32) → (Nat → Int32) → (Nat → Int32) → (Nat → Int32) → (Nat → Int32) → (Nat → Int32) → (Nat → Int32) → (Nat → Int32) → (Nat → Int32) → (Nat → Int32) → (Nat → Int32) → (Nat → Int32) → (Nat → Int32) → (Nat → Int32) → Prop} {d step s c : Nat} {x4 : Int32} (hs : s < 2) (hd : d < 39) (hc : c < 32) (h0 : a_nd c = 0)
    (h : J100 (nI (d + 1 + 1)) (nI (step + 1)) f_orderN a_alive a_nKind a_nVal a_nA a_nB a_lv a_nd a_nv a_outs a_tKind a_tVal a_tA a_tB a_tN a_preRel a_preJ a_preK a_ruleUse a_pend a_pendN a_tv a_cv a_mx a_par a_mp a_res a_bnd a_order (upd a_stk (d + 1) (nI c)) (upd (upd a_stSt d (nI (s + 1))) (d + 1) 0)) : wY_buildOrder_199 post J28 J100 x1 (nI (d + 1)) (nI step) x4 (nI s) (pr_oI (some c)) f_maxNodes f_maxRules f_phase f_nCount f_outCnt f_apps f_ruleCount f_cex f_curLive f_orderN a_alive a_nKind a_nVal a_nA a_nB a_lv a_nd a_nv a_outs a_tKind a_tVal a_tA a_tB a_tN a_preRel a_preJ a_preK a_ruleUse a_pend a_pendN a_tv a_cv a_mx a_par a_mp a_res a_bnd a_order a_stk a_stSt := by
  refine pk_eq s 2 (fun h => absurd h (by omega)) (fun _ => ?_)
  rw [nI_pred]
  refine ⟨pk_in d 40 (by omega), ?_⟩
  rw [nI_clamp (by omega), nI_1]
  refine nm_e ?_
  refine br_f (nI_pos (by omega)) (pk_le 32 c (fun h => absurd h (by omega)) (fun _ => ⟨pk_in c 64 (by omega), ?_⟩))
  rw [show (pr_oI (some c)).toNatClampNeg = c from nI_clamp (by omega)]
  refine br_t h0 (pk_le 40 (d + 1) (fun h => absurd h (by omega)) (fun _ => ⟨pk_in (d + 1) 40 (by omega), ?_⟩))
  rw [nI_clamp (by omega)]
  exact nm_e ⟨pk_in (d + 1) 40 (by omega), nm_e (nm_r (nI_1 _) (nm_r (nI_1 _) h))⟩
theorem y_199_pop {J100 : Int32 → Int32 → Int32 → (Nat → Int32) → (Nat → Int32) → (Nat → Int32) → (Nat → Int32) → (Nat → Int32) → (Nat → Int32) → (Nat → Int32) → (Nat → Int32) → (Nat → Int32) → (Nat → Int32) → (Nat → Int32) → (Nat → Int32) → (Nat → Int32) → (Nat → Int32) → (Nat → Int32) → (Nat → Int32) → (Nat → Int32) → (Nat → Int32) → (Nat → Int32) → (Nat → Int32) → (Nat → Int32) → (Nat → Int32) → (Nat → Int32) → (Nat → Int32) → (Nat → Int32) → (Nat → Int32) → (Nat → Int32) → (Nat → Int32) → (Nat → Int32) → (Nat → Int32) → Prop} {d step n k : Nat} {x7 : Int32} (hn : n < 64) (h0 : a_nd n = 0) (hk : k < 32)
    (h : J100 (nI d) (nI (step + 1)) (nI (k + 1)) a_alive a_nKind a_nVal a_nA a_nB a_lv (upd a_nd n 1) a_nv a_outs a_tKind a_tVal a_tA a_tB a_tN a_preRel a_preJ a_preK a_ruleUse a_pend a_pendN a_tv a_cv a_mx a_par a_mp a_res a_bnd (upd a_order k (nI n)) a_stk a_stSt) : wY_buildOrder_199 post J28 J100 x1 (nI (d + 1)) (nI step) (nI n) (nI 2) x7 f_maxNodes f_maxRules f_phase f_nCount f_outCnt f_apps f_ruleCount f_cex f_curLive (nI k) a_alive a_nKind a_nVal a_nA a_nB a_lv a_nd a_nv a_outs a_tKind a_tVal a_tA a_tB a_tN a_preRel a_preJ a_preK a_ruleUse a_pend a_pendN a_tv a_cv a_mx a_par a_mp a_res a_bnd a_order a_stk a_stSt := by
  refine br_t rfl (nm_r (pk_m1 _) ⟨pk_in n 64 hn, ?_⟩)
  rw [nI_clamp (by omega)]
  refine br_t h0 (pk_le 32 k (fun h => absurd h (by omega)) (fun _ => ⟨pk_in n 64 hn, ?_⟩))
  rw [pr_vb1, nI_clamp (by omega)]
  exact nm_e ⟨pk_in k 32 hk, nm_e (nm_r (nI_1 _) (nm_r (nI_1 _) h))⟩
/-- one step of the loop, the top being n in state s: to the join at 199 with the operand of that state -/
theorem y_bo_step (hG : pr_gw 0 K V A B rk) (hg : gr_at 0 K V A B a_nKind a_nVal a_nA a_nB) {f d step n s : Nat} (tn : pr_T 0 K n) (hd : d < 40) (hst : step < 200) (hs : s < 3) (htop : a_stk d = nI n) (hss : a_stSt d = nI s)
    (h : wY_buildOrder_199 post J28 (wY_buildOrder_100 post J28 x1 f_maxNodes f_maxRules f_phase f_nCount f_outCnt f_apps f_ruleCount f_cex f_curLive f) x1 (nI (d + 1)) (nI step) (nI n) (nI s) (pr_oI (if s = 0 then A n else if s = 1 then B n else none)) f_maxNodes f_maxRules f_phase f_nCount f_outCnt f_apps f_ruleCount f_cex f_curLive f_orderN a_alive a_nKind a_nVal a_nA a_nB a_lv a_nd a_nv a_outs a_tKind a_tVal a_tA a_tB a_tN a_preRel a_preJ a_preK a_ruleUse a_pend a_pendN a_tv a_cv a_mx a_par a_mp a_res a_bnd a_order a_stk a_stSt) :
    wY_buildOrder_100 post J28 x1 f_maxNodes f_maxRules f_phase f_nCount f_outCnt f_apps f_ruleCount f_cex f_curLive (f + 1) (nI (d + 1)) (nI step) f_orderN a_alive a_nKind a_nVal a_nA a_nB a_lv a_nd a_nv a_outs a_tKind a_tVal a_tA a_tB a_tN a_preRel a_preJ a_preK a_ruleUse a_pend a_pendN a_tv a_cv a_mx a_par a_mp a_res a_bnd a_order a_stk a_stSt := by
  have tn2 := tn.2.1
  obtain ⟨g1, g2, g3, g4, g5, g6, g7, g8, g9, g10⟩ := hG n tn
  obtain ⟨k1, k2, k3, k4⟩ := hg n tn
  have hk0 : K n ≠ 0 := tn.2.2
  refine pk_le 200 step (fun h => absurd h (by omega)) (fun _ => pk_le (d + 1) 0 (fun h => absurd h (by omega)) (fun _ => ?_))
  rw [nI_pred]
  refine ⟨pk_in d 40 hd, ?_⟩
  rw [nI_clamp (n := d) (by omega)]
  refine nm_r htop ⟨pk_in n 64 (by omega), ?_⟩
  rw [nI_clamp (n := n) (by omega)]
  refine nm_r k1 ⟨pk_in d 40 hd, nm_r hss ?_⟩
  refine pk_eq s 0 (fun e => ?_) (fun ne => ?_)
  · subst e
    rw [if_pos rfl] at h
    have h175 : ∀ x7, x7 = pr_oI (A n) → wY_buildOrder_175 post J28 (wY_buildOrder_100 post J28 x1 f_maxNodes f_maxRules f_phase f_nCount f_outCnt f_apps f_ruleCount f_cex f_curLive f) x1 (nI (d + 1)) (nI step) (nI n) (nI (K n)) (nI 0) x7 f_maxNodes f_maxRules f_phase f_nCount f_outCnt f_apps f_ruleCount f_cex f_curLive f_orderN a_alive a_nKind a_nVal a_nA a_nB a_lv a_nd a_nv a_outs a_tKind a_tVal a_tA a_tB a_tN a_preRel a_preJ a_preK a_ruleUse a_pend a_pendN a_tv a_cv a_mx a_par a_mp a_res a_bnd a_order a_stk a_stSt := by
      intro x7 hx
      rw [hx]
      exact br_f (by decide) h
    have h166 : wY_buildOrder_166 post J28 (wY_buildOrder_100 post J28 x1 f_maxNodes f_maxRules f_phase f_nCount f_outCnt f_apps f_ruleCount f_cex f_curLive f) x1 (nI (d + 1)) (nI step) (nI n) (nI (K n)) (nI 0) f_maxNodes f_maxRules f_phase f_nCount f_outCnt f_apps f_ruleCount f_cex f_curLive f_orderN a_alive a_nKind a_nVal a_nA a_nB a_lv a_nd a_nv a_outs a_tKind a_tVal a_tA a_tB a_tN a_preRel a_preJ a_preK a_ruleUse a_pend a_pendN a_tv a_cv a_mx a_par a_mp a_res a_bnd a_order a_stk a_stSt := by
      refine ⟨pk_in n 64 (by omega), ?_⟩
      rw [nI_clamp (n := n) (by omega)]
      exact nm_r k3 (h175 _ rfl)
    by_cases hb : K n ≤ 8
    · exact y_isBin_t (by omega) hb (br_f (by decide) h166)
    · refine y_isBin_f (by omega) (by omega) (br_t rfl ?_)
      by_cases hu : K n ≤ 10
      · exact y_isUn_t (by omega) (br_f (by decide) h166)
      · refine y_isUn_f (by omega) (by omega) (br_t rfl (h175 _ ?_))
        rw [g6 (by omega)]
        rfl
  · rw [if_neg ne] at h
    refine pk_eq s 1 (fun e => ?_) (fun ne1 => ?_)
    · subst e
      rw [if_pos rfl] at h
      by_cases hb : K n ≤ 8
      · refine y_isBin_t (by omega) hb (br_f (by decide) ⟨pk_in n 64 (by omega), ?_⟩)
        rw [nI_clamp (n := n) (by omega)]
        exact nm_r k4 h
      · refine y_isBin_f (by omega) (by omega) (br_t rfl ?_)
        rw [g7 (by omega)] at h
        exact h
    · rw [if_neg ne1] at h
      exact h
end YE
section YF
variable {f_maxNodes f_maxRules f_phase f_nCount f_outCnt f_apps f_ruleCount f_cex f_curLive f_orderN : Int32} {a_alive a_nKind a_nVal a_nA a_nB a_lv a_nd a_nv a_outs a_tKind a_tVal a_tA a_tB a_tN a_preRel a_preJ a_preK a_ruleUse a_pend a_pendN a_tv a_cv a_mx a_par a_mp a_res a_bnd a_order a_stk a_stSt : Nat → Int32}
variable {K : Nat → Nat} {V : Nat → Int32} {A B : Nat → Option Nat} {rk : Nat → Nat} {post : SY → Prop} {J28 : Int32 → Int32 → (Nat → Int32) → (Nat → Int32) → (Nat → Int32) → (Nat → Int32) → (Nat → Int32) → (Nat → Int32) → (Nat → Int32) → (Nat → Int32) → (Nat → Int32) → (Nat → Int32) → (Nat → Int32) → (Nat → Int32) → (Nat → Int32) → (Nat → Int32) → (Nat → Int32) → (Nat → Int32) → (Nat → Int32) → (Nat → Int32) → (Nat → Int32) → (Nat → Int32) → (Nat → Int32) → (Nat → Int32) → (Nat → Int32) → (Nat → Int32) → (Nat → Int32) → (Nat → Int32) → (Nat → Int32) → (Nat → Int32) → (Nat → Int32) → (Nat → Int32) → Prop} {x1 : Int32}
def y_nd (T : Nat → Prop) (L : List Nat) (nd : Nat → Int32) : Prop := ∀ c, T c → (nd c = 0 ↔ c ∉ L)
theorem y_visit (hG : pr_gw 0 K V A B rk) (hg : gr_at 0 K V A B a_nKind a_nVal a_nA a_nB) :
    ∀ q n, rk n < q → pr_T 0 K n → ∀ L : List Nat, L.Nodup → pr_cl A B (fun x => x ∈ L) → n ∉ L → (∀ x, x ∈ L → pr_T 0 K x) →
      ∀ f d step nd od stk ss, 201 ≤ f + step → d + rk n < 32 → step + 3 * (pr_po A B q n L).length ≤ 200 + 3 * L.length → stk d = nI n → ss d = nI 0 → pr_ls od L → y_nd (pr_T 0 K) L nd →
      (∀ f' nd' od' stk' ss', 201 + 3 * L.length ≤ f' + step + 3 * (pr_po A B q n L).length → (∀ i, i < d → stk' i = stk i ∧ ss' i = ss i) → pr_ls od' (pr_po A B q n L) → y_nd (pr_T 0 K) (pr_po A B q n L) nd' →
        wY_buildOrder_100 post J28 x1 f_maxNodes f_maxRules f_phase f_nCount f_outCnt f_apps f_ruleCount f_cex f_curLive f' (nI d) (nI (step + 3 * (pr_po A B q n L).length - 3 * L.length)) (nI (pr_po A B q n L).length) a_alive a_nKind a_nVal a_nA a_nB a_lv nd' a_nv a_outs a_tKind a_tVal a_tA a_tB a_tN a_preRel a_preJ a_preK a_ruleUse a_pend a_pendN a_tv a_cv a_mx a_par a_mp a_res a_bnd od' stk' ss') →
      wY_buildOrder_100 post J28 x1 f_maxNodes f_maxRules f_phase f_nCount f_outCnt f_apps f_ruleCount f_cex f_curLive f (nI (d + 1)) (nI step) (nI L.length) a_alive a_nKind a_nVal a_nA a_nB a_lv nd a_nv a_outs a_tKind a_tVal a_tA a_tB a_tN a_preRel a_preJ a_preK a_ruleUse a_pend a_pendN a_tv a_cv a_mx a_par a_mp a_res a_bnd od stk ss := by
  intro q
  have hT := pr_gw_T hG
  induction q with
  | zero =>
    intro n h
    omega
  | succ q ih =>
    intro n hq tn L nd0 cl hnL hreg f d step nd od stk ss hf hd hst htop hss hls hnd hk
    have hgA : gr_at 0 K V A B a_nKind a_nVal a_nA a_nB := hg
    have ep : pr_po A B (q + 1) n L = pr_oc (pr_po A B q) (B n) (pr_oc (pr_po A B q) (A n) L) ++ [n] := by
      show (if n ∈ L then L else _) = _
      rw [if_neg hnL]
    obtain ⟨M1, e1, a1, b1, c1, d1⟩ := pr_oc_ok (T := pr_T 0 K) (rk := rk) (g := pr_po A B q) (o := A n) (L := L) (fun c hc => pr_po_ok hT q c (by have := (hT n c tn (Or.inl hc)).2; omega) (hT n c tn (Or.inl hc)).1) nd0 cl
    obtain ⟨M2, e2, a2, b2, c2, d2⟩ := pr_oc_ok (T := pr_T 0 K) (rk := rk) (g := pr_po A B q) (o := B n) (L := L ++ M1) (fun c hc => pr_po_ok hT q c (by have := (hT n c tn (Or.inr hc)).2; omega) (hT n c tn (Or.inr hc)).1) a1 b1
    rw [e1, e2] at ep
    have reg1 : ∀ x, x ∈ L ++ M1 → pr_T 0 K x := by
      intro x hx
      rcases List.mem_append.mp hx with hx | hx
      · exact hreg x hx
      · exact (d1 x hx).1
    have reg2 : ∀ x, x ∈ L ++ M1 ++ M2 → pr_T 0 K x := by
      intro x hx
      rcases List.mem_append.mp hx with hx | hx
      · exact reg1 x hx
      · exact (d2 x hx).1
    have r1 : ∀ x, x ∈ M1 → rk x < rk n := by
      intro x hx
      obtain ⟨_, c, hc, hr, _⟩ := d1 x hx
      have := (hT n c tn (Or.inl hc)).2
      omega
    have r2 : ∀ x, x ∈ M2 → rk x < rk n := by
      intro x hx
      obtain ⟨_, c, hc, hr, _⟩ := d2 x hx
      have := (hT n c tn (Or.inr hc)).2
      omega
    have n1 : n ∉ L ++ M1 := by
      intro h
      rcases List.mem_append.mp h with h | h
      · exact hnL h
      · exact Nat.lt_irrefl _ (r1 n h)
    have n2 : n ∉ L ++ M1 ++ M2 := by
      intro h
      rcases List.mem_append.mp h with h | h
      · exact n1 h
      · exact Nat.lt_irrefl _ (r2 n h)
    have len1 : (L ++ M1).length = L.length + M1.length := List.length_append
    have len2 : (L ++ M1 ++ M2).length = L.length + M1.length + M2.length := by rw [List.length_append, len1]
    have lenP : (pr_po A B (q + 1) n L).length = L.length + M1.length + M2.length + 1 := by
      rw [ep, List.length_append, len2]
      rfl
    have hnd3 : (L ++ M1 ++ M2 ++ [n]).Nodup := by
      rw [List.nodup_append]
      refine ⟨a2, by simp, fun x hx y hy e => ?_⟩
      rw [List.mem_singleton] at hy
      subst e
      subst hy
      exact n2 hx
    have l3le := pr_len (lo := 0) (n := 32) hnd3 (fun x hx => by
      rcases List.mem_append.mp hx with hx | hx
      · exact ⟨(reg2 x hx).1, (reg2 x hx).2.1⟩
      · rw [List.mem_singleton] at hx
        subst hx
        exact ⟨tn.1, tn.2.1⟩)
    rw [List.length_append, len2, List.length_singleton] at l3le
    have tn2 := tn.2.1
    -- the pop
    have hpop : ∀ f' nd' od' stk' ss', 201 ≤ f' + (step + 2 + 3 * (M1.length + M2.length)) → (∀ i, i < d → stk' i = stk i ∧ ss' i = ss i) → stk' d = nI n → ss' d = nI 2 → pr_ls od' (L ++ M1 ++ M2) → y_nd (pr_T 0 K) (L ++ M1 ++ M2) nd' →
        wY_buildOrder_100 post J28 x1 f_maxNodes f_maxRules f_phase f_nCount f_outCnt f_apps f_ruleCount f_cex f_curLive f' (nI (d + 1)) (nI (step + 2 + 3 * (M1.length + M2.length))) (nI (L.length + M1.length + M2.length)) a_alive a_nKind a_nVal a_nA a_nB a_lv nd' a_nv a_outs a_tKind a_tVal a_tA a_tB a_tN a_preRel a_preJ a_preK a_ruleUse a_pend a_pendN a_tv a_cv a_mx a_par a_mp a_res a_bnd od' stk' ss' := by
      intro f' nd' od' stk' ss' hf' hst' htop' hss' hls' hnd'
      obtain ⟨g, rfl⟩ : ∃ g, f' = g + 1 := ⟨f' - 1, by omega⟩
      refine y_bo_step hG hgA (s := 2) tn (by omega) (by omega) (by omega) htop' hss' ?_
      refine y_199_pop (by omega) ((hnd' n tn).mpr n2) (by omega) ?_
      have hh := hk g (upd nd' n 1) (upd od' (L.length + M1.length + M2.length) (nI n)) stk' ss' (by omega) hst' (by
        rw [ep]
        have := pr_ls_s (n := n) hls'
        rw [len2] at this
        exact this) (by
        rw [ep]
        intro c tc
        by_cases e : c = n
        · subst e
          rw [pk_us]
          exact ⟨fun h => absurd h (by decide), fun h => absurd (by simp) h⟩
        · rw [pk_un e, hnd' c tc, List.mem_append (t := [n]), List.mem_singleton]
          exact ⟨fun h h' => h'.elim h e, fun h h' => h (Or.inl h')⟩)
      rw [lenP] at hh
      rw [show step + 2 + 3 * (M1.length + M2.length) + 1 = step + 3 * (L.length + M1.length + M2.length + 1) - 3 * L.length by omega]
      exact hh
    -- operand B
    have hB : ∀ f' nd' od' stk' ss', 201 ≤ f' + (step + 1 + 3 * M1.length) → (∀ i, i < d → stk' i = stk i ∧ ss' i = ss i) → stk' d = nI n → ss' d = nI 1 → pr_ls od' (L ++ M1) → y_nd (pr_T 0 K) (L ++ M1) nd' →
        wY_buildOrder_100 post J28 x1 f_maxNodes f_maxRules f_phase f_nCount f_outCnt f_apps f_ruleCount f_cex f_curLive f' (nI (d + 1)) (nI (step + 1 + 3 * M1.length)) (nI (L.length + M1.length)) a_alive a_nKind a_nVal a_nA a_nB a_lv nd' a_nv a_outs a_tKind a_tVal a_tA a_tB a_tN a_preRel a_preJ a_preK a_ruleUse a_pend a_pendN a_tv a_cv a_mx a_par a_mp a_res a_bnd od' stk' ss' := by
      intro f' nd' od' stk' ss' hf' hst' htop' hss' hls' hnd'
      obtain ⟨g, rfl⟩ : ∃ g, f' = g + 1 := ⟨f' - 1, by omega⟩
      refine y_bo_step hG hgA (s := 1) tn (by omega) (by omega) (by omega) htop' hss' ?_
      rw [if_neg (by omega), if_pos rfl]
      by_cases hb : ∃ c, B n = some c ∧ c ∉ L ++ M1
      · obtain ⟨c, hc, hcn⟩ := hb
        have tc := hT n c tn (Or.inr hc)
        have tc2 := tc.1.2.1
        have ec : L ++ M1 ++ M2 = pr_po A B q c (L ++ M1) := by
          rw [← e2, hc]
          rfl
        rw [hc]
        refine y_199_push (s := 1) (by omega) (by omega) (by omega) ((hnd' c tc.1).mpr hcn) ?_
        have hM2 : 1 ≤ M2.length := by
          have hin : c ∈ L ++ M1 ++ M2 := c2 c hc
          rcases List.mem_append.mp hin with h | h
          · exact absurd h hcn
          · exact List.length_pos_of_mem h
        rw [← len1]
        refine ih c (by omega) tc.1 (L ++ M1) a1 b1 hcn reg1 g (d + 1) (step + 1 + 3 * M1.length + 1) nd' od' _ _ (by omega) (by omega) ?_ pk_us pk_us hls' hnd' ?_
        · rw [← ec, len2, len1]
          omega
        · rw [← ec]
          intro f2 nd2 od2 stk2 ss2 hf2 hst2 hls2 hnd2
          rw [len2, len1] at hf2
          have := hpop f2 nd2 od2 stk2 ss2 (by omega) (fun i hi => by
            have h2 := hst2 i (by omega)
            rw [h2.1, h2.2, pk_un (by omega), pk_un (by omega), pk_un (by omega)]
            exact hst' i hi) (by rw [(hst2 d (by omega)).1, pk_un (by omega)]; exact htop') (by rw [(hst2 d (by omega)).2, pk_un (by omega), pk_us]) hls2 hnd2
          rw [show step + 1 + 3 * M1.length + 1 + 3 * (L ++ M1 ++ M2).length - 3 * (L ++ M1).length = step + 2 + 3 * (M1.length + M2.length) by rw [len2, len1]; omega, len2]
          exact this
      · have hM2 : M2 = [] := by
          have : pr_oc (pr_po A B q) (B n) (L ++ M1) = L ++ M1 := by
            cases hb' : B n with
            | none => rfl
            | some c =>
              have hcm : c ∈ L ++ M1 := by
                apply Classical.byContradiction
                intro hcn
                exact hb ⟨c, hb', hcn⟩
              show pr_po A B q c (L ++ M1) = L ++ M1
              cases q with
              | zero => rfl
              | succ q => exact if_pos hcm
          rw [this] at e2
          have := congrArg List.length e2
          rw [len2, len1] at this
          exact List.eq_nil_of_length_eq_zero (by omega)
        subst hM2
        rw [List.append_nil] at hpop
        refine y_199_skip (s := 1) (by omega) (by omega) (fun c hc => ?_) ?_
        · have tc := hT n c tn (Or.inr hc)
          refine ⟨by have := tc.1.2.1; omega, fun h0 => ?_⟩
          exact hb ⟨c, hc, (hnd' c tc.1).mp h0⟩
        · have := hpop g nd' od' stk' (upd ss' d (nI 2)) (by simp only [List.length_nil]; omega) (fun i hi => by rw [pk_un (by omega)]; exact hst' i hi) htop' pk_us hls' hnd'
          rw [show step + 1 + 3 * M1.length + 1 = step + 2 + 3 * (M1.length + ([] : List Nat).length) by simp only [List.length_nil]; omega]
          exact this
    -- operand A
    obtain ⟨g, rfl⟩ : ∃ g, f = g + 1 := ⟨f - 1, by omega⟩
    refine y_bo_step hG hgA (s := 0) tn (by omega) (by omega) (by omega) htop hss ?_
    rw [if_pos rfl]
    by_cases ha : ∃ c, A n = some c ∧ c ∉ L
    · obtain ⟨c, hc, hcn⟩ := ha
      have tc := hT n c tn (Or.inl hc)
      have tc2 := tc.1.2.1
      have ec : L ++ M1 = pr_po A B q c L := by
        rw [← e1, hc]
        rfl
      rw [hc]
      refine y_199_push (s := 0) (by omega) (by omega) (by omega) ((hnd c tc.1).mpr hcn) ?_
      refine ih c (by omega) tc.1 L nd0 cl hcn hreg g (d + 1) (step + 1) nd od _ _ (by omega) (by omega) ?_ pk_us pk_us hls hnd ?_
      · rw [← ec, len1]
        omega
      · rw [← ec]
        intro f2 nd2 od2 stk2 ss2 hf2 hst2 hls2 hnd2
        rw [len1] at hf2
        have := hB f2 nd2 od2 stk2 ss2 (by omega) (fun i hi => by
          have h2 := hst2 i (by omega)
          rw [h2.1, h2.2, pk_un (by omega), pk_un (by omega), pk_un (by omega)]
          exact ⟨rfl, rfl⟩) (by rw [(hst2 d (by omega)).1, pk_un (by omega)]; exact htop) (by rw [(hst2 d (by omega)).2, pk_un (by omega), pk_us]) hls2 hnd2
        rw [show step + 1 + 3 * (L ++ M1).length - 3 * L.length = step + 1 + 3 * M1.length by rw [len1]; omega, len1]
        exact this
    · have hM1 : M1 = [] := by
        have : pr_oc (pr_po A B q) (A n) L = L := by
          cases ha' : A n with
          | none => rfl
          | some c =>
            have hcm : c ∈ L := by
              apply Classical.byContradiction
              intro hcn
              exact ha ⟨c, ha', hcn⟩
            show pr_po A B q c L = L
            cases q with
            | zero => rfl
            | succ q => exact if_pos hcm
        rw [this] at e1
        have := congrArg List.length e1
        rw [len1] at this
        exact List.eq_nil_of_length_eq_zero (by omega)
      subst hM1
      rw [List.append_nil] at hB
      refine y_199_skip (s := 0) (by omega) (by omega) (fun c hc => ?_) ?_
      · have tc := hT n c tn (Or.inl hc)
        refine ⟨by have := tc.1.2.1; omega, fun h0 => ?_⟩
        exact ha ⟨c, hc, (hnd c tc.1).mp h0⟩
      · have := hB g nd od stk (upd ss d (nI 1)) (by simp only [List.length_nil]; omega) (fun i hi => by rw [pk_un (by omega)]; exact ⟨rfl, rfl⟩) htop pk_us hls hnd
        rw [show step + 1 = step + 1 + 3 * ([] : List Nat).length from rfl]
        exact this
end YF
