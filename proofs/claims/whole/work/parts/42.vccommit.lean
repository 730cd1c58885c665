/-! ruleCommit -/
section VCs
variable {mN : Nat} {mR : Nat} {rc : Nat} {ph : Nat} {nc : Nat} {oc : Nat} {cx : Int32} {ap : Int32} {P : Nat → pr_PT} {R : Nat → pr_PT} {rl : Nat → Nat} {rj : Nat → Nat} {rK : Nat → Nat} {uc : Nat → Int32} {D : Nat → pr_PT} {ps : Nat → Nat → Nat} {dc : Nat → Nat} {dl : Nat} {dj : Nat} {dk : Nat} {K : Nat → Nat} {V : Nat → Int32} {A : Nat → Option Nat} {B : Nat → Option Nat} {O : Nat → Nat}
theorem sp_commit {c : Int32} (h : sp_ok mN mR rc ph nc oc cx ap P R rl rj rK uc D ps dc dl dj dk K V A B O) (hv : jd_v rc mR (D 0) (D 1) (dc 0) (dc 1) dl dj dk 0 c) : rc < mR ∧ c = -1 ∧ sp_ok mN mR (rc + 1) ph nc oc c ap (pr_st P rc (D 0)) (pr_st R rc (D 1)) (pr_st rl rc dl) (pr_st rj rc dj) (pr_st rK rc dk) (pr_st uc rc 0) D ps dc dl dj dk K V A B O := by
  obtain ⟨o1, o2, o3, o4, o5, o6, o7, o8, ⟨d1, d2, d3, d4⟩, o10⟩ := h
  have hk : c = -1 ∧ jd_ok rc mR (D 0) (D 1) (dc 0) (dc 1) dl dj dk 5 := by
    rcases hv with ⟨e, _⟩ | ⟨e, _⟩ | ⟨e, _⟩ | ⟨e, _⟩ | ⟨e, _⟩ | ⟨e, _⟩ | ⟨e, ec, x, x'⟩
    · omega
    · omega
    · omega
    · omega
    · omega
    · omega
    · exact ⟨ec, x⟩
  obtain ⟨hc, k1, k2, k3, k4, k5⟩ := hk
  have ne := k1 (by omega)
  have hsh := k2 (by omega)
  have hvf := k3 (by omega)
  have hpf := k4 (by omega)
  have hco := k5 (by omega)
  have hf0 : pt_fin (D 0) := by
    have h1 := (d1 0 (by omega)).2
    rw [hsh.1] at h1
    exact pd_fin h1
  have hf1 : pt_fin (D 1) := by
    have h1 := (d1 1 (by omega)).2
    rw [hsh.2.1] at h1
    exact pd_fin h1
  have hok0 := (d1 0 (by omega)).1
  have hok1 := (d1 1 (by omega)).1
  refine ⟨by omega, hc, o1, o2, o3, o4, by omega, o6, o7, fun r hr => ?_, ⟨d1, d2, d3, d4⟩, o10⟩
  by_cases e : r = rc
  · subst e
    rw [pr_st_s, pr_st_s, pr_st_s, pr_st_s, pr_st_s]
    refine ⟨hok0, hf0, hsh.2.2, hok1, hf1, d2, fun q hq hk => ?_, d3, fun hl => ⟨(d4 hl).1, (d4 hl).2, hpf hl⟩, hco, fun j hj => ?_⟩
    · rcases ((jd_vf_iff (P := D 0) hok1).mp hvf).2 q hq hk with y | y
      · obtain ⟨p, p1, p2, p3⟩ := pt_has_t.mp y
        exact ⟨p, p1, by omega, p3⟩
      · obtain ⟨p, p1, p2, p3⟩ := pt_has_t.mp y
        exact ⟨p, p1, by omega, p3⟩
    · obtain ⟨p, p1, p2, p3⟩ := pt_has_t.mp hj
      have hv2 := (hok0.2 p p1).2.2.1 (by omega)
      cases hx : pt_has (D 0) 14 j with
      | false => rfl
      | true => exact absurd ⟨hj, hx⟩ (hvf j (by omega)).1
  · rw [pr_st_n e, pr_st_n e, pr_st_n e, pr_st_n e, pr_st_n e]
    exact o8 r (by omega)
theorem sp_cx {c : Int32} (h : sp_ok mN mR rc ph nc oc cx ap P R rl rj rK uc D ps dc dl dj dk K V A B O) : sp_ok mN mR rc ph nc oc c ap P R rl rj rK uc D ps dc dl dj dk K V A B O := h
end VCs
section VCy
variable {f_maxNodes f_maxRules f_phase f_nCount f_outCnt f_apps f_ruleCount f_cex f_curLive f_orderN : Int32} {a_alive a_nKind a_nVal a_nA a_nB a_lv a_nd a_nv a_outs a_tKind a_tVal a_tA a_tB a_tN a_preRel a_preJ a_preK a_ruleUse a_pend a_pendN a_tv a_cv a_mx a_par a_mp a_res a_bnd a_order a_stk a_stSt : Nat → Int32}
theorem y_copy {post : Int32 → SY → Prop} {rc : Nat} (hrc : rc ≤ 15)
    (h : ∀ tk tv ta tb, (∀ q, q < 8 → tk (rc * 16 + q) = a_tKind (256 + q) ∧ tv (rc * 16 + q) = a_tVal (256 + q) ∧ ta (rc * 16 + q) = a_tA (256 + q) ∧ tb (rc * 16 + q) = a_tB (256 + q) ∧ tk (rc * 16 + 8 + q) = a_tKind (264 + q) ∧ tv (rc * 16 + 8 + q) = a_tVal (264 + q) ∧ ta (rc * 16 + 8 + q) = a_tA (264 + q) ∧ tb (rc * 16 + 8 + q) = a_tB (264 + q)) →
      (∀ x, x < rc * 16 ∨ rc * 16 + 16 ≤ x → tk x = a_tKind x ∧ tv x = a_tVal x ∧ ta x = a_tA x ∧ tb x = a_tB x) →
      wY_ruleCommit_277 post 0 f_maxNodes f_maxRules f_phase f_nCount f_outCnt f_apps (nI (rc + 1)) f_cex f_curLive f_orderN a_alive a_nKind a_nVal a_nA a_nB a_lv a_nd a_nv a_outs tk tv ta tb (upd (upd a_tN (rc * 2) (a_tN 32)) (rc * 2 + 1) (a_tN 33)) (upd a_preRel rc (a_preRel 16)) (upd a_preJ rc (a_preJ 16)) (upd a_preK rc (a_preK 16)) (upd a_ruleUse rc 0) a_pend a_pendN a_tv a_cv a_mx a_par a_mp a_res a_bnd a_order a_stk a_stSt) :
    ∀ d i tk tv ta tb, i + d = 8 → (∀ q, q < i → tk (rc * 16 + q) = a_tKind (256 + q) ∧ tv (rc * 16 + q) = a_tVal (256 + q) ∧ ta (rc * 16 + q) = a_tA (256 + q) ∧ tb (rc * 16 + q) = a_tB (256 + q) ∧ tk (rc * 16 + 8 + q) = a_tKind (264 + q) ∧ tv (rc * 16 + 8 + q) = a_tVal (264 + q) ∧ ta (rc * 16 + 8 + q) = a_tA (264 + q) ∧ tb (rc * 16 + 8 + q) = a_tB (264 + q)) →
      (∀ x, x < rc * 16 ∨ rc * 16 + 16 ≤ x → tk x = a_tKind x ∧ tv x = a_tVal x ∧ ta x = a_tA x ∧ tb x = a_tB x) →
      wY_ruleCommit_11 post 0 f_maxNodes f_maxRules f_phase f_nCount f_outCnt f_apps (nI rc) f_cex f_curLive f_orderN (d + 1) (nI i) a_alive a_nKind a_nVal a_nA a_nB a_lv a_nd a_nv a_outs tk tv ta tb a_tN a_preRel a_preJ a_preK a_ruleUse a_pend a_pendN a_tv a_cv a_mx a_par a_mp a_res a_bnd a_order a_stk a_stSt := by
  intro d
  have e2 : (2 : Int32) * nI rc = nI (rc * 2) := by
    rw [show (2 : Int32) = nI 2 from rfl, pk_mul, Nat.mul_comm]
  have e16 : nI rc * 16 = nI (rc * 16) := pk_mul rc 16
  induction d with
  | zero =>
    intro i tk tv ta tb hi h1 h2
    refine pk_le 8 i (fun _ => ?_) (fun h => absurd h (by omega))
    have hcc : (nI rc).toNatClampNeg = rc := nI_clamp (by omega)
    rw [e2, nI_1]
    refine ⟨pk_in (rc * 2) 34 (by omega), ?_⟩
    rw [nI_clamp (n := rc * 2) (by omega), nI_clamp (n := rc * 2 + 1) (by omega), hcc]
    refine nm_e ⟨pk_in (rc * 2 + 1) 34 (by omega), ?_⟩
    rw [pk_un (show 33 ≠ rc * 2 by omega)]
    exact nm_e ⟨pk_in rc 17 (by omega), nm_e ⟨pk_in rc 17 (by omega), nm_e ⟨pk_in rc 17 (by omega), nm_e ⟨pk_in rc 16 (by omega), nm_e (nm_r (nI_1 _) (h tk tv ta tb (fun q hq => h1 q (by omega)) h2))⟩⟩⟩⟩
  | succ d ih =>
    intro i tk tv ta tb hi h1 h2
    have ea : (nI rc * 16) + nI i = nI (rc * 16 + i) := by rw [e16, nI_add]
    have eb : nI (rc * 16 + i) + 8 = nI (rc * 16 + 8 + i) := by
      rw [show (8 : Int32) = nI 8 from rfl, nI_add]
      exact congrArg nI (by omega)
    have ec : (256 : Int32) + nI i = nI (256 + i) := nI_add 256 i
    have ed : (264 : Int32) + nI i = nI (264 + i) := nI_add 264 i
    have i1 : vp_in (nI (256 + i)) 272 := pk_in (256 + i) 272 (by omega)
    have i2 : vp_in (nI (264 + i)) 272 := pk_in (264 + i) 272 (by omega)
    have i3 : vp_in (nI (rc * 16 + i)) 272 := pk_in (rc * 16 + i) 272 (by omega)
    have i4 : vp_in (nI (rc * 16 + 8 + i)) 272 := pk_in (rc * 16 + 8 + i) 272 (by omega)
    refine pk_le 8 i (fun h => absurd h (by omega)) (fun _ => nm_r ea (nm_r eb ?_))
    rw [ec, ed, nI_clamp (n := 256 + i) (by omega), nI_clamp (n := 264 + i) (by omega), nI_clamp (n := rc * 16 + i) (by omega), nI_clamp (n := rc * 16 + 8 + i) (by omega)]
    refine ⟨i1, i3, nm_e ⟨i1, i3, nm_e ⟨i1, i3, nm_e ⟨i1, i3, nm_e ⟨i2, i4, nm_e ⟨i2, i4, nm_e ⟨i2, i4, nm_e ⟨i2, i4, nm_e (nm_r (nI_1 _) (ih (i + 1) _ _ _ _ (by omega) (fun q hq => ?_) (fun x hx => ?_)))⟩⟩⟩⟩⟩⟩⟩⟩
    · have k2 := h2 (256 + i) (Or.inr (by omega))
      have k4 := h2 (264 + i) (Or.inr (by omega))
      by_cases e : q = i
      · subst e
        rw [pk_un (show rc * 16 + q ≠ rc * 16 + 8 + q by omega), pk_un (show rc * 16 + q ≠ rc * 16 + 8 + q by omega), pk_un (show rc * 16 + q ≠ rc * 16 + 8 + q by omega), pk_un (show rc * 16 + q ≠ rc * 16 + 8 + q by omega), pk_us, pk_us, pk_us, pk_us, pk_us, pk_us, pk_us, pk_us, pk_un (show 264 + q ≠ rc * 16 + q by omega), pk_un (show 264 + q ≠ rc * 16 + q by omega), pk_un (show 264 + q ≠ rc * 16 + q by omega), pk_un (show 264 + q ≠ rc * 16 + q by omega)]
        exact ⟨k2.1, k2.2.1, k2.2.2.1, k2.2.2.2, k4.1, k4.2.1, k4.2.2.1, k4.2.2.2⟩
      · have n1 : rc * 16 + q ≠ rc * 16 + 8 + i := by omega
        have n2 : rc * 16 + q ≠ rc * 16 + i := by omega
        have n3 : rc * 16 + 8 + q ≠ rc * 16 + 8 + i := by omega
        have n4 : rc * 16 + 8 + q ≠ rc * 16 + i := by omega
        rw [pk_un n1, pk_un n1, pk_un n1, pk_un n1, pk_un n2, pk_un n2, pk_un n2, pk_un n2, pk_un n3, pk_un n3, pk_un n3, pk_un n3, pk_un n4, pk_un n4, pk_un n4, pk_un n4]
        exact h1 q (by omega)
    · have n1 : x ≠ rc * 16 + 8 + i := by omega
      have n2 : x ≠ rc * 16 + i := by omega
      rw [pk_un n1, pk_un n1, pk_un n1, pk_un n1, pk_un n2, pk_un n2, pk_un n2, pk_un n2]
      exact h2 x hx
end VCy
theorem i_vc_ruleCommit {k : Nat} {u : SX} {v : SY} (I : i_Rel k u v) (hk : k + 4 ≤ 2050) : wpX_ruleCommit (fun r u' => wpY_ruleCommit (fun r' v' => r' = r ∧ i_Rel (k + 4) u' v') v) u := by
  obtain ⟨mN, mR, rc, ph, nc, oc, cx, ap, P, R, rl, rj, rK, uc, D, ps, dc, dl, dj, dk, K, V, A, B, O, hok, hx, hy⟩ := I
  obtain ⟨f_maxNodes, f_maxRules, f_ruleCount, f_counterexample, f_optimized, f_nodeCount, f_outputCount, f_applications, a_preRelation, a_preVariable, a_preConstant, a_roomNeeded, a_useCount, a_treeSize, a_treeKind, a_treeValue, a_treeA, a_treeB, a_treeResult, a_constantValued, a_maximal, a_counterpart, a_boundNode, a_pending, a_pendingCount, a_nodeKind, a_nodeValue, a_nodeA, a_nodeB, a_nodeResult, a_nodeUses, a_outputNode, a_seen, a_order, a_walkStack⟩ := u
  obtain ⟨f_maxNodes', f_maxRules', f_phase', f_nCount', f_outCnt', f_apps', f_ruleCount', f_cex', f_curLive', f_orderN', a_alive', a_nKind', a_nVal', a_nA', a_nB', a_lv', a_nd', a_nv', a_outs', a_tKind', a_tVal', a_tA', a_tB', a_tN', a_preRel', a_preJ', a_preK', a_ruleUse', a_pend', a_pendN', a_tv', a_cv', a_mx', a_par', a_mp', a_res', a_bnd', a_order', a_stk', a_stSt'⟩ := v
  obtain ⟨e1, e2, e3, e4, e5, e6, e7, e8, h9, h10, h11, h12⟩ := hx
  obtain ⟨d1, d2, d3, d4, d5, d6, d7, d8, g9, g10, g11, g12⟩ := hy
  subst e1 e2 e3 e4 e5 e6 e7 e8 d1 d2 d3 d4 d5 d6 d7 d8
  have hok' := hok
  obtain ⟨o1, o2, o3, o4, o5, o6, o7, o8, ⟨s1, s2, s3, s4⟩, o10⟩ := hok
  have hn : ∀ r, r < rc → pt_n (P r) ≤ 8 ∧ pt_n (R r) ≤ 8 := fun r hr => pr_rule_n (o8 r hr)
  have q0 := s1 0 (by omega)
  have q1 := s1 1 (by omega)
  have x0 := h10 0 (by omega)
  have x1 := h10 1 (by omega)
  have y0 := g10 0 (by omega)
  have y1 := g10 1 (by omega)
  unfold wpX_ruleCommit
  refine x_judge (P := D 0) (R := D 1) (c0 := dc 0) (c1 := dc 1) o5 o4 q0.1 q1.1 q0.2 q1.2 s2 (fun h => (s4 h).1) s3 x0.1 x1.1 h11 x0.2.1 x1.2.1 (fun w c cv' mx' tr' hv hcm hkeep => ?_)
  -- what Y does after its check, for the same verdict
  have hY : ∀ u' : SX, (w ≠ 0 → ∀ v', ry mN mR rc ph nc oc c f_apps' P R rl rj rK uc (fun _ => pt_0) ps (fun _ => 0) 0 dj dk K V A B O v' → i_Rel (k + 4) u' v') → (w = 0 → ∀ v', ry mN mR (rc + 1) ph nc oc c f_apps' (pr_st P rc (D 0)) (pr_st R rc (D 1)) (pr_st rl rc dl) (pr_st rj rc dj) (pr_st rK rc dk) (pr_st uc rc 0) (fun _ => pt_0) ps (fun _ => 0) 0 dj dk K V A B O v' → i_Rel (k + 4) u' v') →
      wpY_ruleCommit (fun r' v' => r' = nI w ∧ i_Rel (k + 4) u' v') ((nI mN), (nI mR), (nI ph), (nI nc), (nI oc), f_apps', (nI rc), f_cex', f_curLive', f_orderN', a_alive', a_nKind', a_nVal', a_nA', a_nB', a_lv', a_nd', a_nv', a_outs', a_tKind', a_tVal', a_tA', a_tB', a_tN', a_preRel', a_preJ', a_preK', a_ruleUse', a_pend', a_pendN', a_tv', a_cv', a_mx', a_par', a_mp', a_res', a_bnd', a_order', a_stk', a_stSt') := by
    intro u' hw hw0
    unfold wpY_ruleCommit
    refine y_check (P := D 0) (R := D 1) (c0 := dc 0) (c1 := dc 1) (dl := dl) (dj := dj) (dk := dk) o5 o4 q0.1 q1.1 q0.2 q1.2 s2 (fun h => (s4 h).1) s3 y0.1 y1.1 g11 y0.2.1 y1.2.1 (fun w' c' tv' cv'' mx'' par' hv' => ?_)
    obtain ⟨ew, ec⟩ := jd_u hv hv'
    subst ew ec
    have hw6 : w ≤ 6 := by
      rcases hv with ⟨e, _⟩ | ⟨e, _⟩ | ⟨e, _⟩ | ⟨e, _⟩ | ⟨e, _⟩ | ⟨e, _⟩ | ⟨e, _⟩ <;> omega
    have hc6 : w ≠ 6 → c = -1 := by
      intro h6
      rcases hv with ⟨e, ec, _⟩ | ⟨e, ec, _⟩ | ⟨e, ec, _⟩ | ⟨e, ec, _⟩ | ⟨e, ec, _⟩ | ⟨e, _⟩ | ⟨e, ec, _⟩
      · exact ec
      · exact ec
      · exact ec
      · exact ec
      · exact ec
      · exact absurd e h6
      · exact ec
    refine pk_eq w 0 (fun e0 => ?_) (fun ne0 => ?_)
    · subst e0
      obtain ⟨hlt, hcm1, _⟩ := sp_commit hok' hv
      refine ⟨9, y_copy (by omega) (fun tk tv ta tb k1 k2 => ?_) 8 0 _ _ _ _ (by omega) (fun q hq => absurd hq (by omega)) (fun x _ => ⟨rfl, rfl, rfl, rfl⟩)⟩
      refine br_f (by decide) (y_ruleBegin ⟨rfl, hw0 rfl _ ?_⟩)
      rw [← hcm1]
      refine ry_empty (fun r hr => ?_) (by omega) (fun r hr => ?_) g12
      · by_cases e : r = rc
        · rw [e, pr_st_s, pr_st_s]
          exact ⟨q0.1.1, q1.1.1⟩
        · rw [pr_st_n e, pr_st_n e]
          exact hn r (by omega)
      · by_cases e : r = rc
        · subst e
          rw [pr_st_s, pr_st_s, pr_st_s, pr_st_s, pr_st_s, pr_st_s, pk_us]
          have n0 := q0.1.1
          have n1 := q1.1.1
          refine ⟨⟨?_, fun i hi => ?_⟩, ⟨?_, fun i hi => ?_⟩, ⟨?_, fun hl => ?_⟩, rfl⟩
          · rw [pk_un (by omega), pk_us]
            exact y0.1.1
          · have := k1 i (by omega)
            rw [show r * 2 * 8 + i = r * 16 + i by omega, this.1, this.2.1, this.2.2.1, this.2.2.2.1]
            exact y0.1.2 i hi
          · rw [pk_us]
            exact y1.1.1
          · have := k1 i (by omega)
            rw [show (r * 2 + 1) * 8 + i = r * 16 + 8 + i by omega, this.2.2.2.2.1, this.2.2.2.2.2.1, this.2.2.2.2.2.2.1, this.2.2.2.2.2.2.2]
            exact y1.1.2 i hi
          · rw [pk_us]
            exact g11.1
          · rw [pk_us, pk_us]
            exact g11.2 hl
        · rw [pr_st_n e, pr_st_n e, pr_st_n e, pr_st_n e, pr_st_n e, pr_st_n e, pk_un e]
          obtain ⟨z1, z2, z3, z4⟩ := g9 r (by omega)
          have hnr := hn r (by omega)
          exact ⟨tr_cong z1 (by rw [pk_un (by omega), pk_un (by omega)]) (fun i hi => k2 _ (Or.inl (by omega))), tr_cong z2 (by rw [pk_un (by omega), pk_un (by omega)]) (fun i hi => k2 _ (Or.inl (by omega))), pe_cong z3 (pk_un e) (pk_un e) (pk_un e), z4⟩
    · refine pk_eq w 6 (fun e6 => ?_) (fun ne6 => ?_)
      · refine y_ruleBegin ⟨rfl, hw ne0 _ ?_⟩
        rw [if_pos e6]
        exact ry_empty hn (by omega) g9 g12
      · refine y_ruleBegin ⟨rfl, hw ne0 _ ?_⟩
        rw [← hc6 ne6]
        exact ry_empty hn (by omega) g9 g12
  have hw6 : w ≤ 6 := by
    rcases hv with ⟨e, _⟩ | ⟨e, _⟩ | ⟨e, _⟩ | ⟨e, _⟩ | ⟨e, _⟩ | ⟨e, _⟩ | ⟨e, _⟩ <;> omega
  refine pk_eq w 0 (fun e0 => ?_) (fun ne0 => ?_)
  · subst e0
    obtain ⟨hlt, hcm1, hsp⟩ := sp_commit hok' hv
    obtain ⟨cm1, cm2⟩ := hcm rfl
    refine x_room (by omega) q1.1 x1.1 cm1 cm2 ⟨pk_in rc 17 (by omega), ?_⟩
    rw [nI_clamp (by omega)]
    refine nm_e ⟨pk_in rc 17 (by omega), nm_e (nm_r (nI_1 _) (x_emptyDraft (by omega) (hY _ (fun h => absurd rfl h) (fun _ v' hv' => ?_))))⟩
    refine ⟨_, _, _, _, _, _, _, _, _, _, _, _, _, _, _, _, _, _, _, _, _, _, _, _, _, sp_empty hsp, rx_empty (fun r hr => ?_) (fun r hr => ?_) h12, hv'⟩
    · by_cases e : r = rc
      · rw [e, pr_st_s, pr_st_s]
        exact ⟨q0.1.1, q1.1.1⟩
      · rw [pr_st_n e, pr_st_n e]
        exact hn r (by omega)
    · by_cases e : r = rc
      · subst e
        rw [pr_st_s, pr_st_s, pr_st_s, pr_st_s, pr_st_s, pr_st_s, pk_us]
        exact ⟨⟨x0.1, x1.1, cm1, cm2, pk_us⟩, h11, rfl⟩
      · rw [pr_st_n e, pr_st_n e, pr_st_n e, pr_st_n e, pr_st_n e, pr_st_n e, pk_un e]
        have hr' : r < rc := by omega
        refine ⟨xr_cong hn (fun r hr => (h9 r hr).1) (fun _ _ => rfl) (fun p hp => ⟨rfl, rfl, rfl, rfl, (hkeep p hp).1, (hkeep p hp).2⟩) (fun r' hr' => pk_un (by omega)) r hr', (h9 r hr').2⟩
  · refine x_emptyDraft (by omega) (hY _ (fun _ v' hv' => ?_) (fun h => absurd h ne0))
    refine ⟨_, _, _, _, _, _, _, _, _, _, _, _, _, _, _, _, _, _, _, _, _, _, _, _, _, sp_empty (sp_cx (c := c) hok'), rx_empty hn (fun r hr => ?_) h12, hv'⟩
    exact ⟨xr_cong hn (fun r hr => (h9 r hr).1) (fun _ _ => rfl) (fun p hp => ⟨rfl, rfl, rfl, rfl, (hkeep p hp).1, (hkeep p hp).2⟩) (fun _ _ => rfl) r hr, (h9 r hr).2⟩
