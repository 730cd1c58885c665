/-! Y: applying a rule -/
def yb_at (R : pr_PT) (C : Nat → Bool) (i : Nat) (s : pb_S) (al0 nk0 nv0 na0 nb0 al nk nv na nb rs : Nat → Int32) : Prop :=
  al_at 0 s.1 al ∧ gr_at 0 s.1 s.2.1 s.2.2.1 s.2.2.2.1 nk nv na nb ∧ (∀ n, 32 ≤ n → al n = al0 n ∧ nk n = nk0 n ∧ nv n = nv0 n ∧ na n = na0 n ∧ nb n = nb0 n) ∧ ∀ q, q < i → ¬ pb_sk R C q → rs q = pr_oI (s.2.2.2.2 q)
theorem yb_new {i κ : Nat} {R : pr_PT} {C : Nat → Bool} {s : pb_S} {x : Int32} {a b : Option Nat} {al0 nk0 nv0 na0 nb0 al nk nv na nb rs : Nat → Int32} (hκ : 1 ≤ κ) (h : yb_at R C i s al0 nk0 nv0 na0 nb0 al nk nv na nb rs) :
    yb_at R C (i + 1) (pb_new i κ x a b s) al0 nk0 nv0 na0 nb0 (upd al (pr_fr s.1) 1) (upd nk (pr_fr s.1) (nI κ)) (upd nv (pr_fr s.1) x) (upd na (pr_fr s.1) (pr_oI a)) (upd nb (pr_fr s.1) (pr_oI b)) (upd rs i (nI (pr_fr s.1))) := by
  obtain ⟨h1, h2, h3, h4⟩ := h
  have hfr := pr_fr_le s.1
  refine ⟨fun n h0 hn => ?_, fun n hn => ?_, fun n hn => ?_, fun q hq hq' => ?_⟩
  · show upd al (pr_fr s.1) 1 n = (if pr_st s.1 (pr_fr s.1) κ n = 0 then 0 else 1)
    by_cases e : n = pr_fr s.1
    · rw [e, pk_us, pr_st_s, if_neg (by omega)]
    · rw [pk_un e, pr_st_n e]
      exact h1 n h0 hn
  · show upd nk (pr_fr s.1) (nI κ) n = nI (pr_st s.1 (pr_fr s.1) κ n) ∧ upd nv (pr_fr s.1) x n = pr_st s.2.1 (pr_fr s.1) x n ∧ upd na (pr_fr s.1) (pr_oI a) n = pr_oI (pr_st s.2.2.1 (pr_fr s.1) a n) ∧ upd nb (pr_fr s.1) (pr_oI b) n = pr_oI (pr_st s.2.2.2.1 (pr_fr s.1) b n)
    by_cases e : n = pr_fr s.1
    · rw [e, pk_us, pk_us, pk_us, pk_us, pr_st_s, pr_st_s, pr_st_s, pr_st_s]
      exact ⟨rfl, rfl, rfl, rfl⟩
    · rw [pk_un e, pk_un e, pk_un e, pk_un e, pr_st_n e, pr_st_n e, pr_st_n e, pr_st_n e]
      refine h2 n ⟨hn.1, hn.2.1, ?_⟩
      have := hn.2.2
      replace this : pr_st s.1 (pr_fr s.1) κ n ≠ 0 := this
      rw [pr_st_n e] at this
      exact this
  · rw [pk_un (by omega), pk_un (by omega), pk_un (by omega), pk_un (by omega), pk_un (by omega)]
    exact h3 n hn
  · show upd rs i (nI (pr_fr s.1)) q = pr_oI (pr_st s.2.2.2.2 i (some (pr_fr s.1)) q)
    by_cases e : q = i
    · rw [e, pk_us, pr_st_s]
      rfl
    · rw [pk_un e, pr_st_n e]
      exact h4 q (by omega) hq'
/-- a slot is free whenever a node is to be made -/
def pb_fr (R : pr_PT) (C : Nat → Bool) (i : Nat) (s : pb_S) : Prop := pt_rm1 R C i = 1 → ∃ x, x < 32 ∧ s.1 x = 0
theorem pb_fr_of {K0 : Nat → Nat} {V0 : Nat → Int32} {A0 B0 : Nat → Option Nat} {rk : Nat → Nat} {bd : Nat → Option Nat} {R : pr_PT} {C : Nat → Bool} {Lo : List Nat} {β i : Nat} {s : pb_S} {ρ : Nat → Nat} (hct : pr_ct K0 + pt_rm R C ≤ 32) (hi : i < pt_n R) (h : pb_inv K0 V0 A0 B0 rk bd R C Lo β i s ρ) : pb_fr R C i s := by
  intro hm
  have hs : pr_rs (pt_rm1 R C) 0 (i + 1) = pr_rs (pt_rm1 R C) 0 i + 1 := by
    show pr_rs (pt_rm1 R C) 0 i + pt_rm1 R C (0 + i) = _
    rw [Nat.zero_add, hm]
  have hup : pr_rs (pt_rm1 R C) 0 (i + 1) ≤ pt_rm R C := pr_rs_up (by omega)
  have := h.2.2.2.1
  exact pr_ct_free (by omega)
section YX
variable {f_maxNodes f_maxRules f_phase f_nCount f_outCnt f_apps f_ruleCount f_cex f_curLive f_orderN : Int32} {a_alive a_nKind a_nVal a_nA a_nB a_lv a_nd a_nv a_outs a_tKind a_tVal a_tA a_tB a_tN a_preRel a_preJ a_preK a_ruleUse a_pend a_pendN a_tv a_cv a_mx a_par a_mp a_res a_bnd a_order a_stk a_stSt : Nat → Int32}
variable {K : Nat → Nat} {V : Nat → Int32} {A B : Nat → Option Nat} {O rk : Nat → Nat} {P R : pr_PT} {C : Nat → Bool} {tv : Nat → Int32} {bd : Nat → Option Nat} {al0 nk0 nv0 na0 nb0 : Nat → Int32}
theorem y_newNode {post : Int32 → SY → Prop} {p1 p2 p3 p4 : Int32} (hal : al_at 0 K a_alive) (hf : ∃ x, x < 32 ∧ K x = 0) (h : post (nI (pr_fr K)) (f_maxNodes, f_maxRules, f_phase, f_nCount, f_outCnt, f_apps, f_ruleCount, f_cex, f_curLive, f_orderN, (upd a_alive (pr_fr K) 1), (upd a_nKind (pr_fr K) p1), (upd a_nVal (pr_fr K) p2), (upd a_nA (pr_fr K) p3), (upd a_nB (pr_fr K) p4), a_lv, a_nd, a_nv, a_outs, a_tKind, a_tVal, a_tA, a_tB, a_tN, a_preRel, a_preJ, a_preK, a_ruleUse, a_pend, a_pendN, a_tv, a_cv, a_mx, a_par, a_mp, a_res, a_bnd, a_order, a_stk, a_stSt)) : wpY_newNode post (f_maxNodes, f_maxRules, f_phase, f_nCount, f_outCnt, f_apps, f_ruleCount, f_cex, f_curLive, f_orderN, a_alive, a_nKind, a_nVal, a_nA, a_nB, a_lv, a_nd, a_nv, a_outs, a_tKind, a_tVal, a_tA, a_tB, a_tN, a_preRel, a_preJ, a_preK, a_ruleUse, a_pend, a_pendN, a_tv, a_cv, a_mx, a_par, a_mp, a_res, a_bnd, a_order, a_stk, a_stSt) p1 p2 p3 p4 := by
  obtain ⟨f1, f2, f3⟩ := pr_fr_ok hf
  have l : ∀ d s, s + d = pr_fr K → wY_newNode_3 post p1 p2 p3 p4 f_maxNodes f_maxRules f_phase f_nCount f_outCnt f_apps f_ruleCount f_cex f_curLive f_orderN a_alive a_nKind a_nVal a_nA a_nB a_lv a_nd a_nv a_outs a_tKind a_tVal a_tA a_tB a_tN a_preRel a_preJ a_preK a_ruleUse a_pend a_pendN a_tv a_cv a_mx a_par a_mp a_res a_bnd a_order a_stk a_stSt (d + 1) (nI s) := by
    intro d
    induction d with
    | zero =>
      intro s hs
      have e : s = pr_fr K := by omega
      subst e
      have hin : vp_in (nI (pr_fr K)) 64 := pk_in (pr_fr K) 64 (by omega)
      have ha := hal (pr_fr K) (by omega) (by omega)
      rw [if_pos f1] at ha
      refine pk_le 32 (pr_fr K) (fun h => absurd h (by omega)) (fun _ => ⟨hin, ?_⟩)
      rw [nI_clamp (by omega), pr_vb1]
      exact br_t ha ⟨hin, nm_e ⟨hin, nm_e ⟨hin, nm_e ⟨hin, nm_e ⟨hin, nm_e h⟩⟩⟩⟩⟩
    | succ d ih =>
      intro s hs
      have ha := hal s (by omega) (by omega)
      rw [if_neg (f3 s (by omega))] at ha
      refine pk_le 32 s (fun h => absurd h (by omega)) (fun _ => ⟨pk_in s 64 (by omega), ?_⟩)
      rw [nI_clamp (by omega)]
      exact br_f (by rw [ha]; decide) (nm_r (nI_1 _) (ih (s + 1) (by omega)))
  exact ⟨pr_fr K + 1, l (pr_fr K) 0 (by omega)⟩
theorem y_app111 {post : SY → Prop} {J47 : Int32 → Int32 → Int32 → Int32 → Int32 → Int32 → Int32 → Int32 → Int32 → Int32 → Int32 → (Nat → Int32) → (Nat → Int32) → (Nat → Int32) → (Nat → Int32) → (Nat → Int32) → (Nat → Int32) → (Nat → Int32) → (Nat → Int32) → (Nat → Int32) → (Nat → Int32) → (Nat → Int32) → (Nat → Int32) → (Nat → Int32) → (Nat → Int32) → (Nat → Int32) → (Nat → Int32) → (Nat → Int32) → (Nat → Int32) → (Nat → Int32) → (Nat → Int32) → (Nat → Int32) → (Nat → Int32) → (Nat → Int32) → (Nat → Int32) → (Nat → Int32) → (Nat → Int32) → (Nat → Int32) → (Nat → Int32) → (Nat → Int32) → (Nat → Int32) → Prop} {r i : Nat} {x2 x6 : Int32} {s : pb_S} (hr : r < 16) (hR : pt_ok R) (h14 : ∀ i, i < pt_n R → pt_k R i ≠ 14) (hi : i < pt_n R) (hU : tr_at 0 (r * 2 + 1) R a_tN a_tKind a_tVal a_tA a_tB) (hcv : ∀ q, q < pt_n R → a_cv q = pr_b (pt_cv R C q)) (htv : ∀ q, q < pt_n R → a_tv q = tv q) (hbn : ∀ j, j < 2 → a_bnd j = pr_oI (bd j)) (hsk : ¬ pb_sk R C i)
    (hfx : pb_fx R C i s) (hfr : pb_fr R C i s) (hb : yb_at R C i s al0 nk0 nv0 na0 nb0 a_alive a_nKind a_nVal a_nA a_nB a_res)
    (h : ∀ al nk nv na nb rs, yb_at R C (i + 1) (pb_st R C tv bd i s) al0 nk0 nv0 na0 nb0 al nk nv na nb rs → J47 (nI (i + 1)) f_maxNodes f_maxRules f_phase f_nCount f_outCnt f_apps f_ruleCount f_cex f_curLive f_orderN al nk nv na nb a_lv a_nd a_nv a_outs a_tKind a_tVal a_tA a_tB a_tN a_preRel a_preJ a_preK a_ruleUse a_pend a_pendN a_tv a_cv a_mx a_par a_mp rs a_bnd a_order a_stk a_stSt) :
    wY_apply_111 post J47 (nI r) x2 (nI (r * 2 + 1)) x6 (nI i) (nI ((r * 2 + 1) * 8 + i)) (nI (pt_k R i)) f_maxNodes f_maxRules f_phase f_nCount f_outCnt f_apps f_ruleCount f_cex f_curLive f_orderN a_alive a_nKind a_nVal a_nA a_nB a_lv a_nd a_nv a_outs a_tKind a_tVal a_tA a_tB a_tN a_preRel a_preJ a_preK a_ruleUse a_pend a_pendN a_tv a_cv a_mx a_par a_mp a_res a_bnd a_order a_stk a_stSt := by
  have h8 := hR.1
  obtain ⟨e1, e2, e3, e4⟩ := hU.2 i hi
  have hn := hR.2 i hi
  have hs := pt_sm hR i hi
  have hin : vp_in (nI ((r * 2 + 1) * 8 + i)) 272 := pk_in ((r * 2 + 1) * 8 + i) 272 (by omega)
  have hcl : (nI ((r * 2 + 1) * 8 + i)).toNatClampNeg = (r * 2 + 1) * 8 + i := nI_clamp (by omega)
  have hin8 : vp_in (nI i) 8 := pk_in i 8 (by omega)
  have hci : (nI i).toNatClampNeg = i := nI_clamp (by omega)
  unfold pb_st at h
  have hsk' : ¬ (pt_cv R C i = true ∧ pt_mx R C i = false) := hsk
  rw [if_neg hsk'] at h
  refine pk_eq (pt_k R i) 13 (fun h13 => ⟨hin, ?_⟩) (fun n13 => ⟨hin8, ?_⟩)
  · have hv2 := hn.2.2.1 (by omega)
    rw [hcl, e2, hci, nI_clamp (n := pt_v R i) (by omega), hbn _ hv2]
    refine ⟨pk_in (pt_v R i) 2 hv2, hin8, nm_e (nm_r (nI_1 _) (h _ _ _ _ _ _ ?_))⟩
    rw [if_pos h13]
    refine ⟨hb.1, hb.2.1, hb.2.2.1, fun q hq hq' => ?_⟩
    show _ = pr_oI (pr_st s.2.2.2.2 i (bd (pt_v R i)) q)
    by_cases e : q = i
    · rw [e, pk_us, pr_st_s]
    · rw [pk_un e, pr_st_n e]
      exact hb.2.2.2 q (by omega) hq'
  · rw [if_neg n13] at h
    rw [hci, hcv i hi, htv i hi, hcl]
    refine br_c (fun h0 => ?_) (fun h0 => ⟨hin8, ?_⟩)
    · have hc := (pr_b0 _).mp h0
      rw [if_neg (by rw [hc]; decide)] at h
      have hfree := hfr (by unfold pt_rm1; rw [if_pos (Or.inl hc)])
      have hk10 : pt_k R i ≤ 10 := by
        apply Classical.byContradiction
        intro hk
        have h11 : pt_k R i = 11 := by
          have := hn.1
          have := h14 i hi
          omega
        rw [pt_cv_eq hR hi] at hc
        unfold pt_cF at hc
        rw [if_neg n13, hn.2.2.2.2.1 (by omega), hn.2.2.2.2.2.1 (by omega)] at hc
        cases hc
      obtain ⟨ca, hca⟩ := hn.2.2.2.2.2.2.1 hk10
      have pa := pb_ch (C := C) hR hi hc (Or.inl hca)
      have eA : a_tA ((r * 2 + 1) * 8 + i) = nI ca := by
        rw [e3, hca]
        show nI (0 + ca) = nI ca
        rw [Nat.zero_add]
      have hrA : a_res ca = pr_oI (pr_or s.2.2.2.2 (pt_a R i)) := by
        rw [hca]
        exact hb.2.2.2 ca pa.2 pa.1
      by_cases hb8 : pt_k R i ≤ 8
      · obtain ⟨cb, hcb⟩ := hn.2.2.2.2.2.2.2.1 hb8
        have pbb := pb_ch (C := C) hR hi hc (Or.inr hcb)
        have eB : a_tB ((r * 2 + 1) * 8 + i) = nI cb := by
          rw [e4, hcb]
          show nI (0 + cb) = nI cb
          rw [Nat.zero_add]
        have hrB : a_res cb = pr_oI (pr_or s.2.2.2.2 (pt_b R i)) := by
          rw [hcb]
          exact hb.2.2.2 cb pbb.2 pbb.1
        refine y_isBin_t hn.1.1 hb8 (br_f (by decide) ⟨hin, ?_⟩)
        rw [eA, eB, nI_clamp (n := ca) (by omega), nI_clamp (n := cb) (by omega), hrA, hrB]
        refine ⟨pk_in ca 8 (by omega), hin, pk_in cb 8 (by omega), y_newNode hb.1 hfree ⟨hin8, nm_e (nm_r (nI_1 _) (h _ _ _ _ _ _ (yb_new hn.1.1 hb)))⟩⟩
      · have hBn : pt_b R i = none := hn.2.2.2.2.2.1 (by omega)
        refine y_isBin_f (by omega) (by omega) (br_t rfl ⟨hin, ?_⟩)
        rw [eA, nI_clamp (n := ca) (by omega), hrA]
        rw [hBn] at h
        exact ⟨pk_in ca 8 (by omega), y_newNode hb.1 hfree ⟨hin8, nm_e (nm_r (nI_1 _) (h _ _ _ _ _ _ (yb_new (b := none) hn.1.1 hb)))⟩⟩
    · have hc : pt_cv R C i = true := by
        cases hx : pt_cv R C i with
        | true => rfl
        | false => rw [hx] at h0; exact absurd rfl h0
      have hmx : pt_mx R C i = true := by
        cases hx : pt_mx R C i with
        | true => rfl
        | false => exact absurd ⟨hc, hx⟩ hsk
      have hfree := hfr (by unfold pt_rm1; rw [if_pos (Or.inr ⟨hmx, n13⟩)])
      rw [if_pos hc] at h
      exact y_newNode hb.1 hfree ⟨hin8, nm_e (nm_r (nI_1 _) (h _ _ _ _ _ _ (yb_new (κ := 11) (a := none) (b := none) (by omega) hb)))⟩
theorem y_app412 {post : SY → Prop} {r oc Rn y : Nat} (hoc : oc ≤ 4) (hRn : Rn < 32) (hO : ∀ k, k < oc → O k < 32 ∧ a_outs k = nI (O k))
    (h : ∀ ou, (∀ k, k < oc → ou k = nI (pa_O Rn y oc O k)) → (∀ k, 4 ≤ k → ou k = a_outs k) → wY_apply_453 post (nI r) f_maxNodes f_maxRules f_phase f_nCount (nI oc) f_apps f_ruleCount f_cex f_curLive f_orderN a_alive a_nKind a_nVal a_nA a_nB a_lv a_nd a_nv ou a_tKind a_tVal a_tA a_tB a_tN a_preRel a_preJ a_preK a_ruleUse a_pend a_pendN a_tv a_cv a_mx a_par a_mp a_res a_bnd a_order a_stk a_stSt) :
    ∀ d i ou, i + d = oc → (∀ k, k < i → ou k = nI (pa_O Rn y oc O k)) → (∀ k, i ≤ k → ou k = a_outs k) → wY_apply_412 post (nI r) (nI Rn) (nI y) f_maxNodes f_maxRules f_phase f_nCount (nI oc) f_apps f_ruleCount f_cex f_curLive f_orderN (d + 1) (nI i) a_alive a_nKind a_nVal a_nA a_nB a_lv a_nd a_nv ou a_tKind a_tVal a_tA a_tB a_tN a_preRel a_preJ a_preK a_ruleUse a_pend a_pendN a_tv a_cv a_mx a_par a_mp a_res a_bnd a_order a_stk a_stSt := by
  intro d
  induction d with
  | zero =>
    intro i ou hi h1 h2
    have e : i = oc := by omega
    subst e
    exact pk_le i i (fun _ => h ou h1 (fun k hk => h2 k (by omega))) (fun h => absurd h (by omega))
  | succ d ih =>
    intro i ou hi h1 h2
    obtain ⟨o1, o2⟩ := hO i (by omega)
    refine pk_le oc i (fun h => absurd h (by omega)) (fun _ => pk_le 4 i (fun h => absurd h (by omega)) (fun _ => ⟨pk_in i 8 (by omega), ?_⟩))
    rw [nI_clamp (by omega), h2 i (by omega), o2]
    refine pk_eq (O i) Rn (fun e => ⟨pk_in i 8 (by omega), nm_e (nm_r (nI_1 _) (ih (i + 1) _ (by omega) (fun k hk => ?_) (fun k hk => ?_)))⟩) (fun e => nm_r (nI_1 _) (ih (i + 1) ou (by omega) (fun k hk => ?_) (fun k hk => h2 k (by omega))))
    · by_cases ek : k = i
      · rw [ek, pk_us]
        unfold pa_O
        rw [if_pos ⟨by omega, e⟩]
      · rw [pk_un ek]
        exact h1 k (by omega)
    · rw [pk_un (by omega)]
      exact h2 k (by omega)
    · by_cases ek : k = i
      · rw [ek, h2 i (by omega), o2]
        unfold pa_O
        rw [if_neg (fun hh => e hh.2)]
      · exact h1 k (by omega)
theorem y_app294 {post : SY → Prop} {r Rn y : Nat} {K1 : Nat → Nat} {V1 : Nat → Int32} {A1 B1 : Nat → Option Nat} (hRn : Rn < 32) (hK : ∀ n, pr_T 0 K1 n → K1 n ≤ 12 ∧ (11 ≤ K1 n → A1 n = none) ∧ (9 ≤ K1 n → B1 n = none) ∧ ∀ c, (A1 n = some c ∨ B1 n = some c) → c < 32) (hal : al_at 0 K1 a_alive) (hg : gr_at 0 K1 V1 A1 B1 a_nKind a_nVal a_nA a_nB)
    (h : ∀ na nb, gr_at 0 K1 V1 (pa_A Rn y A1) (pa_A Rn y B1) a_nKind a_nVal na nb → (∀ n, 32 ≤ n → na n = a_nA n ∧ nb n = a_nB n) → ∃ f, wY_apply_412 post (nI r) (nI Rn) (nI y) f_maxNodes f_maxRules f_phase f_nCount f_outCnt f_apps f_ruleCount f_cex f_curLive f_orderN f 0 a_alive a_nKind a_nVal na nb a_lv a_nd a_nv a_outs a_tKind a_tVal a_tA a_tB a_tN a_preRel a_preJ a_preK a_ruleUse a_pend a_pendN a_tv a_cv a_mx a_par a_mp a_res a_bnd a_order a_stk a_stSt) :
    ∀ d i na nb, i + d = 32 → (∀ n, n < i → pr_T 0 K1 n → na n = pr_oI (pa_A Rn y A1 n) ∧ nb n = pr_oI (pa_A Rn y B1 n)) → (∀ n, i ≤ n → na n = a_nA n ∧ nb n = a_nB n) → wY_apply_294 post (nI r) (nI Rn) (nI y) f_maxNodes f_maxRules f_phase f_nCount f_outCnt f_apps f_ruleCount f_cex f_curLive f_orderN (d + 1) (nI i) a_alive a_nKind a_nVal na nb a_lv a_nd a_nv a_outs a_tKind a_tVal a_tA a_tB a_tN a_preRel a_preJ a_preK a_ruleUse a_pend a_pendN a_tv a_cv a_mx a_par a_mp a_res a_bnd a_order a_stk a_stSt := by
  intro d
  induction d with
  | zero =>
    intro i na nb hi h1 h2
    have e : i = 32 := by omega
    subst e
    refine pk_le 32 32 (fun _ => h na nb (fun n hn => ?_) (fun n hn => h2 n hn)) (fun h => absurd h (by omega))
    obtain ⟨z1, z2, z3, z4⟩ := hg n hn
    have := h1 n (by have := hn.2.1; omega) hn
    exact ⟨z1, z2, this.1, this.2⟩
  | succ d ih =>
    intro i na nb hi h1 h2
    have hin : vp_in (nI i) 64 := pk_in i 64 (by omega)
    have hcl : (nI i).toNatClampNeg = i := nI_clamp (by omega)
    have hals := hal i (by omega) (by omega)
    obtain ⟨ei1, ei2⟩ := h2 i (by omega)
    have nx : ∀ na' nb', (pr_T 0 K1 i → na' i = pr_oI (pa_A Rn y A1 i) ∧ nb' i = pr_oI (pa_A Rn y B1 i)) → (∀ n, n ≠ i → na' n = na n ∧ nb' n = nb n) → wY_apply_294 post (nI r) (nI Rn) (nI y) f_maxNodes f_maxRules f_phase f_nCount f_outCnt f_apps f_ruleCount f_cex f_curLive f_orderN (d + 1) (nI (i + 1)) a_alive a_nKind a_nVal na' nb' a_lv a_nd a_nv a_outs a_tKind a_tVal a_tA a_tB a_tN a_preRel a_preJ a_preK a_ruleUse a_pend a_pendN a_tv a_cv a_mx a_par a_mp a_res a_bnd a_order a_stk a_stSt := by
      intro na' nb' k1 k2
      refine ih (i + 1) na' nb' (by omega) (fun n hn tn => ?_) (fun n hn => ?_)
      · by_cases e : n = i
        · subst e
          exact k1 tn
        · rw [(k2 n e).1, (k2 n e).2]
          exact h1 n (by omega) tn
      · rw [(k2 n (by omega)).1, (k2 n (by omega)).2]
        exact h2 n (by omega)
    refine pk_le 32 i (fun h => absurd h (by omega)) (fun _ => ⟨hin, ?_⟩)
    rw [hcl]
    by_cases hz : K1 i = 0
    · rw [if_pos hz] at hals
      refine br_t hals ⟨hin, ?_⟩
      rw [hcl]
      exact br_t hals (nm_r (nI_1 _) (nx na nb (fun t => absurd hz t.2.2) (fun n _ => ⟨rfl, rfl⟩)))
    · rw [if_neg hz] at hals
      have ha : ¬ a_alive i = 0 := by
        rw [hals]
        decide
      have ti : pr_T 0 K1 i := ⟨by omega, by omega, hz⟩
      have hK1 : 1 ≤ K1 i := Nat.pos_of_ne_zero hz
      obtain ⟨z1, z2, z3, z4⟩ := hg i ti
      obtain ⟨w1, w2, w3, w4⟩ := hK i ti
      have rdA : (if i < 32 ∧ a_nA i = nI Rn then nI y else a_nA i) = pr_oI (pa_A Rn y A1 i) := pr_oI_rd (by omega) (by omega) (fun c hc => by have := w4 c (Or.inl hc); omega) z3
      have rdB : (if i < 32 ∧ a_nB i = nI Rn then nI y else a_nB i) = pr_oI (pa_A Rn y B1 i) := pr_oI_rd (by omega) (by omega) (fun c hc => by have := w4 c (Or.inr hc); omega) z4
      have h359 : ∀ na', na' i = pr_oI (pa_A Rn y A1 i) → (∀ n, n ≠ i → na' n = na n) → wY_apply_359 post (wY_apply_294 post (nI r) (nI Rn) (nI y) f_maxNodes f_maxRules f_phase f_nCount f_outCnt f_apps f_ruleCount f_cex f_curLive f_orderN (d + 1)) (nI r) (nI Rn) (nI y) (nI i) f_maxNodes f_maxRules f_phase f_nCount f_outCnt f_apps f_ruleCount f_cex f_curLive f_orderN a_alive a_nKind a_nVal na' nb a_lv a_nd a_nv a_outs a_tKind a_tVal a_tA a_tB a_tN a_preRel a_preJ a_preK a_ruleUse a_pend a_pendN a_tv a_cv a_mx a_par a_mp a_res a_bnd a_order a_stk a_stSt := by
        intro na' k1 k2
        refine ⟨hin, ?_⟩
        rw [hcl]
        refine br_f ha ⟨hin, ?_⟩
        rw [z1]
        by_cases hb : K1 i ≤ 8
        · refine y_isBin_t hK1 hb (br_f (by decide) ⟨hin, ?_⟩)
          rw [ei2]
          refine br_c (fun e => ⟨hin, nm_e (nm_r (nI_1 _) (nx na' _ (fun _ => ⟨k1, ?_⟩) (fun n hn => ⟨k2 n hn, pk_un hn⟩)))⟩) (fun e => nm_r (nI_1 _) (nx na' nb (fun _ => ⟨k1, ?_⟩) (fun n hn => ⟨k2 n hn, rfl⟩)))
          · rw [if_pos ⟨by omega, e⟩] at rdB
            rw [pk_us]
            exact rdB
          · rw [if_neg (fun hh => e hh.2)] at rdB
            rw [ei2]
            exact rdB
        · refine y_isBin_f (by omega) (by omega) (br_t rfl (nm_r (nI_1 _) (nx na' nb (fun _ => ⟨k1, ?_⟩) (fun n hn => ⟨k2 n hn, rfl⟩))))
          rw [if_neg (fun hh => by
            have hz4 := z4
            rw [w3 (by omega)] at hz4
            rw [hz4] at hh
            exact pr_ne1 (a := Rn) (by omega) hh.2.symm)] at rdB
          rw [ei2]
          exact rdB
      have h339 : wY_apply_339 post (wY_apply_294 post (nI r) (nI Rn) (nI y) f_maxNodes f_maxRules f_phase f_nCount f_outCnt f_apps f_ruleCount f_cex f_curLive f_orderN (d + 1)) (nI r) (nI Rn) (nI y) (nI i) f_maxNodes f_maxRules f_phase f_nCount f_outCnt f_apps f_ruleCount f_cex f_curLive f_orderN a_alive a_nKind a_nVal na nb a_lv a_nd a_nv a_outs a_tKind a_tVal a_tA a_tB a_tN a_preRel a_preJ a_preK a_ruleUse a_pend a_pendN a_tv a_cv a_mx a_par a_mp a_res a_bnd a_order a_stk a_stSt := by
        refine ⟨hin, ?_⟩
        rw [hcl, ei1]
        refine br_c (fun e => ⟨hin, nm_e (h359 _ ?_ (fun n hn => pk_un hn))⟩) (fun e => h359 na ?_ (fun _ _ => rfl))
        · rw [if_pos ⟨by omega, e⟩] at rdA
          rw [pk_us]
          exact rdA
        · rw [if_neg (fun hh => e hh.2)] at rdA
          rw [ei1]
          exact rdA
      refine br_f ha ⟨hin, ?_⟩
      rw [z1]
      by_cases hb : K1 i ≤ 8
      · exact y_isBin_t hK1 hb (br_f (by decide) h339)
      · refine y_isBin_f (by omega) (by omega) (br_t rfl ⟨hin, ?_⟩)
        by_cases hu : K1 i ≤ 10
        · exact y_isUn_t (by omega) (br_f (by decide) h339)
        · refine y_isUn_f (by omega) (by omega) (br_t rfl (h359 na ?_ (fun _ _ => rfl)))
          rw [if_neg (fun hh => by
            have hz3 := z3
            rw [w2 (by omega)] at hz3
            rw [hz3] at hh
            exact pr_ne1 (a := Rn) (by omega) hh.2.symm)] at rdA
          rw [ei1]
          exact rdA
theorem y_apply {post : SY → Prop} {r oc Rn y : Nat} {s : pb_S} {rk2 : Nat → Nat} {L2 : List Nat} (hr : r < 16) (hoc : oc ≤ 4) (hRn : Rn < 32) (hP : pt_ok P) (hR : pt_ok R) (hRf : pt_fin R) (h14 : ∀ i, i < pt_n R → pt_k R i ≠ 14) (hT : tr_at 0 (r * 2) P a_tN a_tKind a_tVal a_tA a_tB) (hU : tr_at 0 (r * 2 + 1) R a_tN a_tKind a_tVal a_tA a_tB) (hC : C = pt_has P 14) (hbn : ∀ j, j < 2 → a_bnd j = pr_oI (bd j)) (hbT : ∀ j d, bd j = some d → pr_T 0 K d)
    (hG : pr_gw 0 K V A B rk) (hg : gr_at 0 K V A B a_nKind a_nVal a_nA a_nB) (hal : al_at 0 K a_alive) (htv : tv = pt_tv R (by_v K V bd 0) (by_v K V bd 1)) (hfx : ∀ i, i ≤ pt_n R → pb_fx R C i (pb_run R C tv bd i (K, V, A, B, fun _ => none))) (hfr : ∀ i, i < pt_n R → pb_fr R C i (pb_run R C tv bd i (K, V, A, B, fun _ => none))) (hs : s = pb_run R C tv bd (pt_n R) (K, V, A, B, fun _ => none)) (hy : s.2.2.2.2 (pt_n R - 1) = some y) (hy32 : y < 32)
    (hK1 : ∀ n, pr_T 0 s.1 n → s.1 n ≤ 12 ∧ (11 ≤ s.1 n → s.2.2.1 n = none) ∧ (9 ≤ s.1 n → s.2.2.2.1 n = none) ∧ ∀ c, (s.2.2.1 n = some c ∨ s.2.2.2.1 n = some c) → c < 32) (hO : ∀ k, k < oc → O k < 32 ∧ a_outs k = nI (O k))
    (hG2 : pr_gw 0 s.1 s.2.1 (pa_A Rn y s.2.2.1) (pa_A Rn y s.2.2.2.1) rk2) (hO2 : ∀ k, k < oc → pr_T 0 s.1 (pa_O Rn y oc O k)) (hL2 : L2 = pr_lv (pa_A Rn y s.2.2.1) (pa_A Rn y s.2.2.2.1) (pa_O Rn y oc O) 0 oc)
    (h : ∀ al nk nv na nb ou lv cv' mx' par' tv' rs, gr_at 0 s.1 s.2.1 (pa_A Rn y s.2.2.1) (pa_A Rn y s.2.2.2.1) nk nv na nb → al_at 0 (pa_K L2 s.1) al → (∀ n, 32 ≤ n → al n = a_alive n ∧ nk n = a_nKind n ∧ nv n = a_nVal n ∧ na n = a_nA n ∧ nb n = a_nB n) → (∀ k, k < oc → ou k = nI (pa_O Rn y oc O k)) → (∀ k, 4 ≤ k → ou k = a_outs k) → post (f_maxNodes, f_maxRules, f_phase, f_nCount, (nI oc), (f_apps + 1), f_ruleCount, f_cex, f_curLive, f_orderN, al, nk, nv, na, nb, lv, a_nd, a_nv, ou, a_tKind, a_tVal, a_tA, a_tB, a_tN, a_preRel, a_preJ, a_preK, (upd a_ruleUse r (a_ruleUse r + 1)), a_pend, a_pendN, tv', cv', mx', par', a_mp, rs, a_bnd, a_order, a_stk, a_stSt)) :
    wpY_apply post (f_maxNodes, f_maxRules, f_phase, f_nCount, (nI oc), f_apps, f_ruleCount, f_cex, f_curLive, f_orderN, a_alive, a_nKind, a_nVal, a_nA, a_nB, a_lv, a_nd, a_nv, a_outs, a_tKind, a_tVal, a_tA, a_tB, a_tN, a_preRel, a_preJ, a_preK, a_ruleUse, a_pend, a_pendN, a_tv, a_cv, a_mx, a_par, a_mp, a_res, a_bnd, a_order, a_stk, a_stSt) (nI r) (nI Rn) := by
  have h8 := hR.1
  have h0 := hRf.1
  have e2 : 2 * nI r = nI (r * 2) := by
    rw [show (2 : Int32) = nI 2 from rfl, pk_mul, Nat.mul_comm]
  have e3 : (2 * nI r) + 1 = nI (r * 2 + 1) := by
    rw [e2, nI_1]
  unfold wpY_apply
  refine y_constFlags (C := C) (by omega) hP hR h14 hC hT hU (fun cv' mx' par' c1 c2 => ?_)
  refine y_bindConst (j := 0) (bd := bd) (by omega) hG hg (hbn 0 (by omega)) (hbT 0) ?_
  refine y_bindConst (j := 1) (bd := bd) (by omega) hG hg (hbn 1 (by omega)) (hbT 1) ?_
  refine nm_r e3 ⟨pk_in (r * 2 + 1) 34 (by omega), ?_⟩
  rw [nI_clamp (by omega)]
  refine nm_r hU.1 ?_
  refine y_evalTree (by omega) hR h0 hU (fun tv' t1 => ⟨pt_n R + 1, ?_⟩)
  have l47 : ∀ d i al nk nv na nb rs, i + d = pt_n R → yb_at R C i (pb_run R C tv bd i (K, V, A, B, fun _ => none)) a_alive a_nKind a_nVal a_nA a_nB al nk nv na nb rs → wY_apply_47 post (nI r) (nI Rn) (nI (r * 2 + 1)) (nI (pt_n R)) (d + 1) (nI i) f_maxNodes f_maxRules f_phase f_nCount (nI oc) f_apps f_ruleCount f_cex f_curLive f_orderN al nk nv na nb a_lv a_nd a_nv a_outs a_tKind a_tVal a_tA a_tB a_tN a_preRel a_preJ a_preK a_ruleUse a_pend a_pendN tv' cv' mx' par' a_mp rs a_bnd a_order a_stk a_stSt := by
    intro d
    induction d with
    | zero =>
      intro i al nk nv na nb rs hi hb
      have ei : i = pt_n R := by omega
      subst ei
      rw [← hs] at hb
      refine pk_le (pt_n R) (pt_n R) (fun _ => ?_) (fun h => absurd h (by omega))
      refine pk_le (pt_n R) 0 (fun h => absurd h (by omega)) (fun _ => pk_lt 8 (pt_n R) (fun h => absurd h (by omega)) (fun _ => ?_))
      rw [pr_s1 h0]
      refine ⟨pk_in (pt_n R - 1) 8 (by omega), ?_⟩
      rw [nI_clamp (by omega), hb.2.2.2 (pt_n R - 1) (by omega) (pr_root_ns hRf), hy]
      refine br_t (nI_pos' (n := y) (by omega)) ⟨33, ?_⟩
      refine y_app294 (K1 := s.1) (V1 := s.2.1) (A1 := s.2.2.1) (B1 := s.2.2.2.1) hRn hK1 hb.1 hb.2.1 (fun na' nb' k1 k2 => ⟨oc + 1, ?_⟩) 32 0 na nb (by omega) (fun n hn => absurd hn (by omega)) (fun n _ => ⟨rfl, rfl⟩)
      refine y_app412 hoc hRn hO (fun ou o1 o2 => ?_) oc 0 _ (by omega) (fun k hk => absurd hk (by omega)) (fun k _ => rfl)
      have hinr : vp_in (nI r) 16 := pk_in r 16 hr
      refine y_deleteDead (O := pa_O Rn y oc O) (L := L2) hG2 k1 hb.1 hoc (fun k hk => ⟨hO2 k hk, o1 k hk⟩) hL2 (fun al' lv' a1 a2 => ⟨hinr, hinr, ?_⟩)
      rw [nI_clamp (by omega)]
      refine nm_e (nm_e (h al' nk nv na' nb' ou lv' cv' mx' par' tv' rs k1 a1 (fun n hn => ?_) o1 o2))
      have := hb.2.2.1 n hn
      rw [a2 n hn, (k2 n hn).1, (k2 n hn).2]
      exact this
    | succ d ih =>
      intro i al nk nv na nb rs hi hb
      have hi' : i < pt_n R := by omega
      obtain ⟨k1, _⟩ := hU.2 i hi'
      have hin8 : vp_in (nI i) 8 := pk_in i 8 (by omega)
      have hci : (nI i).toNatClampNeg = i := nI_clamp (by omega)
      refine pk_le (pt_n R) i (fun h => absurd h (by omega)) (fun _ => pk_le 8 i (fun h => absurd h (by omega)) (fun _ => ?_))
      refine nm_r (nx_8 (r * 2 + 1) i) ⟨pk_in ((r * 2 + 1) * 8 + i) 272 (by omega), ?_⟩
      rw [nI_clamp (n := (r * 2 + 1) * 8 + i) (by omega)]
      refine nm_r k1 ⟨hin8, ?_⟩
      rw [hci, c1 i hi', c2 i hi']
      have go : ¬ pb_sk R C i → wY_apply_111 post (wY_apply_47 post (nI r) (nI Rn) (nI (r * 2 + 1)) (nI (pt_n R)) (d + 1)) (nI r) (nI Rn) (nI (r * 2 + 1)) (nI (pt_n R)) (nI i) (nI ((r * 2 + 1) * 8 + i)) (nI (pt_k R i)) f_maxNodes f_maxRules f_phase f_nCount (nI oc) f_apps f_ruleCount f_cex f_curLive f_orderN al nk nv na nb a_lv a_nd a_nv a_outs a_tKind a_tVal a_tA a_tB a_tN a_preRel a_preJ a_preK a_ruleUse a_pend a_pendN tv' cv' mx' par' a_mp rs a_bnd a_order a_stk a_stSt := fun hsk =>
        y_app111 (tv := tv) (bd := bd) hr hR h14 hi' hU c1 (fun q hq => by rw [t1 q hq, htv]) hbn hsk (hfx i (by omega)) (hfr i hi') hb (fun al' nk' nv' na' nb' rs' hb' => ih (i + 1) al' nk' nv' na' nb' rs' (by omega) hb')
      refine br_c (fun z0 => go fun hsk => ?_) (fun z0 => ⟨hin8, br_c (fun z1 => ⟨hin8, ?_⟩) (fun z1 => go fun hsk => ?_)⟩)
      · have := (pr_b0 _).mp z0
        rw [hsk.1] at this
        cases this
      · have hc : pt_cv R C i = true := by
          cases hx : pt_cv R C i with
          | true => rfl
          | false => rw [hx] at z0; exact absurd rfl z0
        have hsk : pt_cv R C i = true ∧ pt_mx R C i = false := ⟨hc, (pr_b0 _).mp z1⟩
        refine nm_e (nm_r (nI_1 _) (ih (i + 1) al nk nv na nb _ (by omega) ?_))
        show yb_at R C (i + 1) (pb_st R C tv bd i (pb_run R C tv bd i (K, V, A, B, fun _ => none))) a_alive a_nKind a_nVal a_nA a_nB al nk nv na nb (upd rs i (-1))
        unfold pb_st
        rw [if_pos hsk]
        refine ⟨hb.1, hb.2.1, hb.2.2.1, fun q hq hq' => ?_⟩
        have e : q ≠ i := fun e => hq' (by rw [e]; exact hsk)
        rw [pk_un e]
        exact hb.2.2.2 q (by omega) hq'
      · rw [hsk.2] at z1
        exact z1 rfl
  exact l47 (pt_n R) 0 _ _ _ _ _ _ (by omega) ⟨hal, hg, fun n _ => ⟨rfl, rfl, rfl, rfl, rfl⟩, fun q hq => absurd hq (by omega)⟩
end YX
