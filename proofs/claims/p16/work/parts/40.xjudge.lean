/-! judging the draft: the pure verdict; X -/
def pr_ph (rl rj rK : Nat) (v0 v1 : Int32) : Bool :=
  if rl = 1 then decide ((if rj = 0 then v0 else v1) = nI rK) else if rl = 2 then !decide ((if rj = 0 then v0 else v1) = nI rK) else if rl = 3 then !decide (nI rK ≤ (if rj = 0 then v0 else v1)) else if rl = 4 then !decide ((if rj = 0 then v0 else v1) < nI rK) else true
def jd_sh (P : pr_PT) (c0 c1 : Nat) : Prop := c0 = 1 ∧ c1 = 1 ∧ pt_k P (pt_n P - 1) ≤ 10
def jd_vf (P R : pr_PT) : Prop := ∀ j, j < 2 → ¬ (pt_has P 13 j = true ∧ pt_has P 14 j = true) ∧ (pt_has P 13 j = false → pt_has P 14 j = false → pt_has R 13 j = false)
def jd_pf (P : pr_PT) (dl dj : Nat) : Prop := dl ≠ 0 → pt_has P 14 dj = true
def jd_hi (P : pr_PT) (j : Nat) : Nat := if pt_has P 13 j = true ∨ pt_has P 14 j = true then 255 else 0
def jd_bad (P R : pr_PT) (dl dj dk a b : Nat) : Prop := pr_ph dl dj dk (nI a) (nI b) = true ∧ pt_tv P (nI a) (nI b) (pt_n P - 1) ≠ pt_tv R (nI a) (nI b) (pt_n R - 1)
def jd_first (P R : pr_PT) (dl dj dk a b : Nat) : Prop := a ≤ jd_hi P 0 ∧ b ≤ jd_hi P 1 ∧ jd_bad P R dl dj dk a b ∧ (∀ a' b', a' < a → b' ≤ jd_hi P 1 → ¬ jd_bad P R dl dj dk a' b') ∧ ∀ b', b' < b → ¬ jd_bad P R dl dj dk a b'
def jd_none (P R : pr_PT) (dl dj dk : Nat) : Prop := ∀ a b, a ≤ jd_hi P 0 → b ≤ jd_hi P 1 → ¬ jd_bad P R dl dj dk a b
def jd_ok (rc mR : Nat) (P R : pr_PT) (c0 c1 dl dj dk : Nat) (q : Nat) : Prop :=
  (1 ≤ q → rc ≠ mR) ∧ (2 ≤ q → jd_sh P c0 c1) ∧ (3 ≤ q → jd_vf P R) ∧ (4 ≤ q → jd_pf P dl dj) ∧ (5 ≤ q → pt_rw R (pt_has P 14) < pt_pw P)
/-- the verdict v with the counterexample c -/
def jd_v (rc mR : Nat) (P R : pr_PT) (c0 c1 dl dj dk : Nat) (v : Nat) (c : Int32) : Prop :=
  (v = 1 ∧ c = -1 ∧ rc = mR) ∨ (v = 2 ∧ c = -1 ∧ jd_ok rc mR P R c0 c1 dl dj dk 1 ∧ ¬ jd_sh P c0 c1) ∨ (v = 3 ∧ c = -1 ∧ jd_ok rc mR P R c0 c1 dl dj dk 2 ∧ ¬ jd_vf P R) ∨ (v = 4 ∧ c = -1 ∧ jd_ok rc mR P R c0 c1 dl dj dk 3 ∧ ¬ jd_pf P dl dj) ∨
  (v = 5 ∧ c = -1 ∧ jd_ok rc mR P R c0 c1 dl dj dk 4 ∧ ¬ pt_rw R (pt_has P 14) < pt_pw P) ∨ (v = 6 ∧ jd_ok rc mR P R c0 c1 dl dj dk 5 ∧ ∃ a b, jd_first P R dl dj dk a b ∧ c = nI a + 256 * nI b) ∨ (v = 0 ∧ c = -1 ∧ jd_ok rc mR P R c0 c1 dl dj dk 5 ∧ jd_none P R dl dj dk)
theorem jd_first_u {P R : pr_PT} {dl dj dk a b a' b' : Nat} (h : jd_first P R dl dj dk a b) (h' : jd_first P R dl dj dk a' b') : a = a' ∧ b = b' := by
  obtain ⟨h1, h2, h3, h4, h5⟩ := h
  obtain ⟨k1, k2, k3, k4, k5⟩ := h'
  have e : a = a' := by
    apply Classical.byContradiction
    intro hne
    by_cases hl : a < a'
    · exact k4 a b hl h2 h3
    · exact h4 a' b' (by omega) k2 k3
  subst e
  refine ⟨rfl, ?_⟩
  apply Classical.byContradiction
  intro hne
  by_cases hl : b < b'
  · exact k5 b hl h3
  · exact h5 b' (by omega) k3
theorem jd_u {rc mR : Nat} {P R : pr_PT} {c0 c1 dl dj dk v v' : Nat} {c c' : Int32} (h : jd_v rc mR P R c0 c1 dl dj dk v c) (h' : jd_v rc mR P R c0 c1 dl dj dk v' c') : v = v' ∧ c = c' := by
  rcases h with ⟨e, ec, x⟩ | ⟨e, ec, x, x'⟩ | ⟨e, ec, x, x'⟩ | ⟨e, ec, x, x'⟩ | ⟨e, ec, x, x'⟩ | ⟨e, x, a, b, x', ec⟩ | ⟨e, ec, x, x'⟩ <;>
  rcases h' with ⟨f, fc, y⟩ | ⟨f, fc, y, y'⟩ | ⟨f, fc, y, y'⟩ | ⟨f, fc, y, y'⟩ | ⟨f, fc, y, y'⟩ | ⟨f, y, a', b', y', fc⟩ | ⟨f, fc, y, y'⟩
  all_goals first
    | exact ⟨e.trans f.symm, ec.trans fc.symm⟩
    | exact absurd x (y.1 (by omega))
    | exact absurd y (x.1 (by omega))
    | exact absurd (y.2.1 (by omega)) x'
    | exact absurd (x.2.1 (by omega)) y'
    | exact absurd (y.2.2.1 (by omega)) x'
    | exact absurd (x.2.2.1 (by omega)) y'
    | exact absurd (y.2.2.2.1 (by omega)) x'
    | exact absurd (x.2.2.2.1 (by omega)) y'
    | exact absurd (y.2.2.2.2 (by omega)) x'
    | exact absurd (x.2.2.2.2 (by omega)) y'
    | exact absurd y'.2.2.1 (x' a' b' y'.1 y'.2.1)
    | exact absurd x'.2.2.1 (y' a b x'.1 x'.2.1)
    | (obtain ⟨e1, e2⟩ := jd_first_u x' y'
       subst e1 e2
       exact ⟨e.trans f.symm, ec.trans fc.symm⟩)
section XQ
variable {f_maxNodes f_maxRules f_ruleCount f_counterexample f_optimized f_nodeCount f_outputCount f_applications : Int32} {a_preRelation a_preVariable a_preConstant a_roomNeeded a_useCount a_treeSize a_treeKind a_treeValue a_treeA a_treeB a_treeResult a_constantValued a_maximal a_counterpart a_boundNode a_pending a_pendingCount a_nodeKind a_nodeValue a_nodeA a_nodeB a_nodeResult a_nodeUses a_outputNode a_seen a_order a_walkStack : Nat → Int32}
variable {post : Int32 → Prop} {r rl rj rK : Nat} {v0 v1 : Int32}
theorem x_preHolds (hr : r < 17) (h4 : rl ≤ 4) (hj : rl ≠ 0 → rj < 2) (hpe : pe_at r rl rj rK a_preRelation a_preVariable a_preConstant) (h : post (pr_b (pr_ph rl rj rK v0 v1))) : wpX_preconditionHolds post (f_maxNodes, f_maxRules, f_ruleCount, f_counterexample, f_optimized, f_nodeCount, f_outputCount, f_applications, a_preRelation, a_preVariable, a_preConstant, a_roomNeeded, a_useCount, a_treeSize, a_treeKind, a_treeValue, a_treeA, a_treeB, a_treeResult, a_constantValued, a_maximal, a_counterpart, a_boundNode, a_pending, a_pendingCount, a_nodeKind, a_nodeValue, a_nodeA, a_nodeB, a_nodeResult, a_nodeUses, a_outputNode, a_seen, a_order, a_walkStack) (nI r) v0 v1 := by
  have hin : vp_in (nI r) 17 := pk_in r 17 hr
  have hcl : (nI r).toNatClampNeg = r := nI_clamp (by omega)
  have h14 : ∀ z, (rl ≠ 0 → z = (if rj = 0 then v0 else v1)) → wX_preconditionHolds_14 post (nI r) z f_maxNodes f_maxRules f_ruleCount f_counterexample f_optimized f_nodeCount f_outputCount f_applications a_preRelation a_preVariable a_preConstant a_roomNeeded a_useCount a_treeSize a_treeKind a_treeValue a_treeA a_treeB a_treeResult a_constantValued a_maximal a_counterpart a_boundNode a_pending a_pendingCount a_nodeKind a_nodeValue a_nodeA a_nodeB a_nodeResult a_nodeUses a_outputNode a_seen a_order a_walkStack := by
    intro z hz
    unfold pr_ph at h
    refine ⟨hin, ?_⟩
    rw [hcl]
    refine nm_e ⟨hin, nm_r hpe.1 ?_⟩
    refine pk_lt rl 1 (fun h1 => ?_) (fun h1 => pk_lt 4 rl (fun h => absurd h (by omega)) (fun _ => ?_))
    · rw [if_neg (by omega), if_neg (by omega), if_neg (by omega), if_neg (by omega)] at h
      exact h
    · rw [(hpe.2 (by omega)).2]
      rw [← hz (by omega)] at h
      refine pk_eq rl 1 (fun e => ?_) (fun n1 => pk_eq rl 2 (fun e => ?_) (fun n2 => pk_eq rl 3 (fun e => ?_) (fun n3 => pk_eq rl 4 (fun e => ?_) (fun _ => trivial))))
      · rw [if_pos e] at h
        refine br_c (fun hc => ?_) (fun hc => ?_)
        · rw [decide_eq_true hc] at h
          exact h
        · rw [decide_eq_false hc] at h
          exact h
      · rw [if_neg n1, if_pos e] at h
        refine br_c (fun hc => ?_) (fun hc => ?_)
        · rw [decide_eq_true hc] at h
          exact h
        · rw [decide_eq_false hc] at h
          exact h
      · rw [if_neg n1, if_neg n2, if_pos e] at h
        refine br_c (fun hc => ?_) (fun hc => ?_)
        · rw [decide_eq_true hc] at h
          exact h
        · rw [decide_eq_false hc] at h
          exact h
      · rw [if_neg n1, if_neg n2, if_neg n3, if_pos e] at h
        refine br_c (fun hc => ?_) (fun hc => ?_)
        · rw [decide_eq_true hc] at h
          exact h
        · rw [decide_eq_false hc] at h
          exact h
  unfold wpX_preconditionHolds
  refine ⟨hin, ?_⟩
  rw [hcl]
  refine br_c (fun hz => h14 _ fun hl => ?_) (fun hz => h14 _ fun hl => ?_)
  · have := (hpe.2 hl).1
    rw [this, pr_eq0 (by have := hj hl; omega)] at hz
    rw [if_pos hz]
  · have := (hpe.2 hl).1
    rw [this, pr_eq0 (by have := hj hl; omega)] at hz
    rw [if_neg hz]
end XQ
section XR
variable {f_maxNodes f_maxRules f_ruleCount f_counterexample f_optimized f_nodeCount f_outputCount f_applications : Int32} {a_preRelation a_preVariable a_preConstant a_roomNeeded a_useCount a_treeSize a_treeKind a_treeValue a_treeA a_treeB a_treeResult a_constantValued a_maximal a_counterpart a_boundNode a_pending a_pendingCount a_nodeKind a_nodeValue a_nodeA a_nodeB a_nodeResult a_nodeUses a_outputNode a_seen a_order a_walkStack : Nat → Int32}
variable {rc : Nat} {P R : pr_PT} {c0 c1 dl dj dk : Nat}
theorem x_shape {post : Int32 → Prop} (hrc : rc ≤ 16) (hP : pt_ok P) (hT : tr_at ((rc * 2 + 0) * 8) (rc * 2 + 0) P a_treeSize a_treeKind a_treeValue a_treeA a_treeB) (e0 : a_pendingCount 0 = nI c0) (e1 : a_pendingCount 1 = nI c1) (hc0 : c0 ≤ pt_n P) (hc1 : c1 ≤ 8)
    (hy : jd_sh P c0 c1 → post 1) (hno : ¬ jd_sh P c0 c1 → post 0) : wpX_draftHasShape post (f_maxNodes, f_maxRules, (nI rc), f_counterexample, f_optimized, f_nodeCount, f_outputCount, f_applications, a_preRelation, a_preVariable, a_preConstant, a_roomNeeded, a_useCount, a_treeSize, a_treeKind, a_treeValue, a_treeA, a_treeB, a_treeResult, a_constantValued, a_maximal, a_counterpart, a_boundNode, a_pending, a_pendingCount, a_nodeKind, a_nodeValue, a_nodeA, a_nodeB, a_nodeResult, a_nodeUses, a_outputNode, a_seen, a_order, a_walkStack) := by
  have h8 := hP.1
  unfold wpX_draftHasShape
  refine pk_eq c0 1 (fun h0 => pk_eq c1 1 (fun h1 => ?_) (fun h1 => hno fun h => h1 h.2.1) e1) (fun h0 => hno fun h => h0 h.1) e0
  refine x_treeOf rc 0 ?_
  refine x_endOf (by omega) hT.1 ?_
  have e : nI ((rc * 2 + 0) * 8 + pt_n P) - 1 = nI ((rc * 2 + 0) * 8 + (pt_n P - 1)) := by
    rw [pr_s1 (by omega)]
    exact congrArg nI (by omega)
  rw [e]
  refine ⟨pk_in ((rc * 2 + 0) * 8 + (pt_n P - 1)) 272 (by omega), ?_⟩
  rw [nI_clamp (by omega), (hT.2 (pt_n P - 1) (by omega)).1]
  have hn := (hP.2 (pt_n P - 1) (by omega)).1
  have har := pr_ar_c (pt_k P (pt_n P - 1))
  refine x_arity (by omega) (pk_le (pr_ar (pt_k P (pt_n P - 1))) 0 (fun ha => hno fun h => ?_) (fun ha => hy ⟨h0, h1, by omega⟩) rfl rfl (by omega))
  have := h.2.2
  omega
theorem x_varFit {post : Int32 → Prop} (hrc : rc ≤ 16) (hP : pt_ok P) (hR : pt_ok R) (hT : tr_at ((rc * 2 + 0) * 8) (rc * 2 + 0) P a_treeSize a_treeKind a_treeValue a_treeA a_treeB) (hU : tr_at ((rc * 2 + 1) * 8) (rc * 2 + 1) R a_treeSize a_treeKind a_treeValue a_treeA a_treeB)
    (hy : jd_vf P R → post 1) (hno : ¬ jd_vf P R → post 0) : wpX_variablesFit post (f_maxNodes, f_maxRules, f_ruleCount, f_counterexample, f_optimized, f_nodeCount, f_outputCount, f_applications, a_preRelation, a_preVariable, a_preConstant, a_roomNeeded, a_useCount, a_treeSize, a_treeKind, a_treeValue, a_treeA, a_treeB, a_treeResult, a_constantValued, a_maximal, a_counterpart, a_boundNode, a_pending, a_pendingCount, a_nodeKind, a_nodeValue, a_nodeA, a_nodeB, a_nodeResult, a_nodeUses, a_outputNode, a_seen, a_order, a_walkStack) (nI rc) := by
  unfold wpX_variablesFit
  refine x_treeOf rc 0 ?_
  refine x_treeOf rc 1 ⟨3, ?_⟩
  have step : ∀ d j, j + d = 2 → (∀ i, i < j → ¬ (pt_has P 13 i = true ∧ pt_has P 14 i = true) ∧ (pt_has P 13 i = false → pt_has P 14 i = false → pt_has R 13 i = false)) → wX_variablesFit_15 post (nI (rc * 2 + 0)) (nI (rc * 2 + 1)) f_maxNodes f_maxRules f_ruleCount f_counterexample f_optimized f_nodeCount f_outputCount f_applications a_preRelation a_preVariable a_preConstant a_roomNeeded a_useCount a_treeSize a_treeKind a_treeValue a_treeA a_treeB a_treeResult a_constantValued a_maximal a_counterpart a_boundNode a_pending a_pendingCount a_nodeKind a_nodeValue a_nodeA a_nodeB a_nodeResult a_nodeUses a_outputNode a_seen a_order a_walkStack (d + 1) (nI j) := by
    intro d
    induction d with
    | zero =>
      intro j hj h
      exact pk_le 2 j (fun _ => hy fun i hi => h i (by omega)) (fun h => absurd h (by omega))
    | succ d ih =>
      intro j hj h
      refine pk_le 2 j (fun h => absurd h (by omega)) (fun _ => ?_)
      refine x_occurs (by omega) hP hT (by decide) (by omega) ?_
      refine x_occurs (by omega) hP hT (by decide) (by omega) ?_
      have h55 : ¬ (pt_has P 13 j = true ∧ pt_has P 14 j = true) → wX_variablesFit_55 post (wX_variablesFit_15 post (nI (rc * 2 + 0)) (nI (rc * 2 + 1)) f_maxNodes f_maxRules f_ruleCount f_counterexample f_optimized f_nodeCount f_outputCount f_applications a_preRelation a_preVariable a_preConstant a_roomNeeded a_useCount a_treeSize a_treeKind a_treeValue a_treeA a_treeB a_treeResult a_constantValued a_maximal a_counterpart a_boundNode a_pending a_pendingCount a_nodeKind a_nodeValue a_nodeA a_nodeB a_nodeResult a_nodeUses a_outputNode a_seen a_order a_walkStack (d + 1)) (nI (rc * 2 + 0)) (nI (rc * 2 + 1)) (nI j) (pr_b (pt_has P 13 j)) (pr_b (pt_has P 14 j)) f_maxNodes f_maxRules f_ruleCount f_counterexample f_optimized f_nodeCount f_outputCount f_applications a_preRelation a_preVariable a_preConstant a_roomNeeded a_useCount a_treeSize a_treeKind a_treeValue a_treeA a_treeB a_treeResult a_constantValued a_maximal a_counterpart a_boundNode a_pending a_pendingCount a_nodeKind a_nodeValue a_nodeA a_nodeB a_nodeResult a_nodeUses a_outputNode a_seen a_order a_walkStack := by
        intro hn
        have nx : (pt_has P 13 j = false → pt_has P 14 j = false → pt_has R 13 j = false) → wX_variablesFit_15 post (nI (rc * 2 + 0)) (nI (rc * 2 + 1)) f_maxNodes f_maxRules f_ruleCount f_counterexample f_optimized f_nodeCount f_outputCount f_applications a_preRelation a_preVariable a_preConstant a_roomNeeded a_useCount a_treeSize a_treeKind a_treeValue a_treeA a_treeB a_treeResult a_constantValued a_maximal a_counterpart a_boundNode a_pending a_pendingCount a_nodeKind a_nodeValue a_nodeA a_nodeB a_nodeResult a_nodeUses a_outputNode a_seen a_order a_walkStack (d + 1) (nI (j + 1)) := by
          intro hj2
          refine ih (j + 1) (by omega) fun i hi => ?_
          by_cases e : i = j
          · rw [e]
            exact ⟨hn, hj2⟩
          · exact h i (by omega)
        refine br_c (fun z0 => br_c (fun z1 => ?_) (fun z1 => nm_r (nI_1 _) (nx fun _ hh => absurd (by rw [hh]; rfl) z1))) (fun z0 => nm_r (nI_1 _) (nx fun hh _ => absurd (by rw [hh]; rfl) z0))
        refine x_occurs (by omega) hR hU (by decide) (by omega) ?_
        refine br_c (fun z2 => nm_r (nI_1 _) (nx fun _ _ => (pr_b0 _).mp z2)) (fun z2 => hno fun hv => ?_)
        have := (hv j (by omega)).2 ((pr_b0 _).mp z0) ((pr_b0 _).mp z1)
        rw [this] at z2
        exact z2 rfl
      refine br_c (fun z0 => h55 fun hh => ?_) (fun z0 => br_c (fun z1 => h55 fun hh => ?_) (fun z1 => hno fun hv => (hv j (by omega)).1 ⟨?_, ?_⟩))
      · have := (pr_b0 _).mp z0
        rw [hh.1] at this
        cases this
      · have := (pr_b0 _).mp z1
        rw [hh.2] at this
        cases this
      · cases hx : pt_has P 13 j with
        | true => rfl
        | false => rw [hx] at z0; exact absurd rfl z0
      · cases hx : pt_has P 14 j with
        | true => rfl
        | false => rw [hx] at z1; exact absurd rfl z1
  exact step 2 0 (by omega) (fun i hi => absurd hi (by omega))
theorem x_preFit {post : Int32 → Prop} (hrc : rc ≤ 16) (hP : pt_ok P) (hd : dl ≠ 0 → dj < 2) (hdl : dl ≤ 4) (hT : tr_at ((rc * 2 + 0) * 8) (rc * 2 + 0) P a_treeSize a_treeKind a_treeValue a_treeA a_treeB) (hpe : pe_at rc dl dj dk a_preRelation a_preVariable a_preConstant)
    (hy : jd_pf P dl dj → post 1) (hno : ¬ jd_pf P dl dj → post 0) : wpX_preconditionFits post (f_maxNodes, f_maxRules, f_ruleCount, f_counterexample, f_optimized, f_nodeCount, f_outputCount, f_applications, a_preRelation, a_preVariable, a_preConstant, a_roomNeeded, a_useCount, a_treeSize, a_treeKind, a_treeValue, a_treeA, a_treeB, a_treeResult, a_constantValued, a_maximal, a_counterpart, a_boundNode, a_pending, a_pendingCount, a_nodeKind, a_nodeValue, a_nodeA, a_nodeB, a_nodeResult, a_nodeUses, a_outputNode, a_seen, a_order, a_walkStack) (nI rc) := by
  have hin : vp_in (nI rc) 17 := pk_in rc 17 (by omega)
  unfold wpX_preconditionFits
  refine x_treeOf rc 0 ⟨hin, ?_⟩
  rw [nI_clamp (by omega), hpe.1]
  refine pk_eq dl 0 (fun e => hy fun h => absurd e h) (fun e => ⟨hin, ?_⟩)
  rw [(hpe.2 e).1]
  have hj := hd e
  refine x_occurs (by omega) hP hT (by decide) (by omega) (br_c (fun z => hno fun h => ?_) (fun z => hy fun _ => ?_))
  · have := h e
    rw [(pr_b0 _).mp z] at this
    cases this
  · cases hx : pt_has P 14 dj with
    | true => rfl
    | false => rw [hx] at z; exact absurd rfl z
theorem x_lastV {post : Int32 → Prop} {j : Nat} (hj : j < 2) (hrc : rc ≤ 16) (hP : pt_ok P) (hT : tr_at ((rc * 2 + 0) * 8) (rc * 2 + 0) P a_treeSize a_treeKind a_treeValue a_treeA a_treeB) (h : post (nI (jd_hi P j))) : wpX_lastValueOf post (f_maxNodes, f_maxRules, f_ruleCount, f_counterexample, f_optimized, f_nodeCount, f_outputCount, f_applications, a_preRelation, a_preVariable, a_preConstant, a_roomNeeded, a_useCount, a_treeSize, a_treeKind, a_treeValue, a_treeA, a_treeB, a_treeResult, a_constantValued, a_maximal, a_counterpart, a_boundNode, a_pending, a_pendingCount, a_nodeKind, a_nodeValue, a_nodeA, a_nodeB, a_nodeResult, a_nodeUses, a_outputNode, a_seen, a_order, a_walkStack) (nI rc) (nI j) := by
  unfold wpX_lastValueOf
  unfold jd_hi at h
  refine x_treeOf rc 0 ?_
  refine x_occurs (by omega) hP hT (by decide) (by omega) (br_c (fun z => ?_) (fun z => ?_))
  · refine x_occurs (by omega) hP hT (by decide) (by omega) (br_c (fun z1 => ?_) (fun z1 => ?_))
    · rw [if_neg (fun hh => by
        rw [(pr_b0 _).mp z, (pr_b0 _).mp z1] at hh
        rcases hh with y | y <;> cases y)] at h
      exact h
    · rw [if_pos (Or.inr (by
        cases hx : pt_has P 14 j with
        | true => rfl
        | false => rw [hx] at z1; exact absurd rfl z1))] at h
      exact h
  · rw [if_pos (Or.inl (by
      cases hx : pt_has P 13 j with
      | true => rfl
      | false => rw [hx] at z; exact absurd rfl z))] at h
    exact h
theorem jd_hi_le (P : pr_PT) (j : Nat) : jd_hi P j ≤ 255 := by
  unfold jd_hi
  by_cases h : pt_has P 13 j = true ∨ pt_has P 14 j = true
  · rw [if_pos h]
    omega
  · rw [if_neg h]
    omega
end XR
section XS
variable {f_maxNodes f_maxRules f_ruleCount f_counterexample f_optimized f_nodeCount f_outputCount f_applications : Int32} {a_preRelation a_preVariable a_preConstant a_roomNeeded a_useCount a_treeSize a_treeKind a_treeValue a_treeA a_treeB a_treeResult a_constantValued a_maximal a_counterpart a_boundNode a_pending a_pendingCount a_nodeKind a_nodeValue a_nodeA a_nodeB a_nodeResult a_nodeUses a_outputNode a_seen a_order a_walkStack : Nat → Int32}
variable {rc : Nat} {P R : pr_PT} {dl dj dk : Nat} {post : Int32 → St2 → Prop}
theorem x_ff41 {J31 : Int32 → Int32 → Int32 → Int32 → Int32 → Int32 → Int32 → Int32 → Int32 → (Nat → Int32) → (Nat → Int32) → (Nat → Int32) → (Nat → Int32) → (Nat → Int32) → (Nat → Int32) → (Nat → Int32) → (Nat → Int32) → (Nat → Int32) → (Nat → Int32) → (Nat → Int32) → (Nat → Int32) → (Nat → Int32) → (Nat → Int32) → (Nat → Int32) → (Nat → Int32) → (Nat → Int32) → (Nat → Int32) → (Nat → Int32) → (Nat → Int32) → (Nat → Int32) → (Nat → Int32) → (Nat → Int32) → (Nat → Int32) → (Nat → Int32) → (Nat → Int32) → (Nat → Int32) → Prop} {a : Nat} {x4 : Int32} (hrc : rc ≤ 16) (hP : pt_ok P) (hR : pt_ok R) (hP0 : 0 < pt_n P) (hR0 : 0 < pt_n R) (hd : dl ≠ 0 → dj < 2) (hdl : dl ≤ 4) (hT : tr_at ((rc * 2 + 0) * 8) (rc * 2 + 0) P a_treeSize a_treeKind a_treeValue a_treeA a_treeB) (hU : tr_at ((rc * 2 + 1) * 8) (rc * 2 + 1) R a_treeSize a_treeKind a_treeValue a_treeA a_treeB) (hpe : pe_at rc dl dj dk a_preRelation a_preVariable a_preConstant)
    (hJ : ∀ tr', (∀ b, b ≤ jd_hi P 1 → ¬ jd_bad P R dl dj dk a b) → J31 (nI (a + 1)) f_maxNodes f_maxRules f_ruleCount f_counterexample f_optimized f_nodeCount f_outputCount f_applications a_preRelation a_preVariable a_preConstant a_roomNeeded a_useCount a_treeSize a_treeKind a_treeValue a_treeA a_treeB tr' a_constantValued a_maximal a_counterpart a_boundNode a_pending a_pendingCount a_nodeKind a_nodeValue a_nodeA a_nodeB a_nodeResult a_nodeUses a_outputNode a_seen a_order a_walkStack)
    (hb : ∀ b tr', b ≤ jd_hi P 1 → jd_bad P R dl dj dk a b → (∀ b', b' < b → ¬ jd_bad P R dl dj dk a b') → post (nI a + 256 * nI b) (f_maxNodes, f_maxRules, f_ruleCount, f_counterexample, f_optimized, f_nodeCount, f_outputCount, f_applications, a_preRelation, a_preVariable, a_preConstant, a_roomNeeded, a_useCount, a_treeSize, a_treeKind, a_treeValue, a_treeA, a_treeB, tr', a_constantValued, a_maximal, a_counterpart, a_boundNode, a_pending, a_pendingCount, a_nodeKind, a_nodeValue, a_nodeA, a_nodeB, a_nodeResult, a_nodeUses, a_outputNode, a_seen, a_order, a_walkStack)) :
    ∀ d b tr, b + d = jd_hi P 1 + 1 → (∀ b', b' < b → ¬ jd_bad P R dl dj dk a b') → wX_firstFailure_41 post J31 (nI rc) (nI (rc * 2 + 0)) (nI (rc * 2 + 1)) x4 (nI (jd_hi P 1)) (nI a) (d + 1) (nI b) f_maxNodes f_maxRules f_ruleCount f_counterexample f_optimized f_nodeCount f_outputCount f_applications a_preRelation a_preVariable a_preConstant a_roomNeeded a_useCount a_treeSize a_treeKind a_treeValue a_treeA a_treeB tr a_constantValued a_maximal a_counterpart a_boundNode a_pending a_pendingCount a_nodeKind a_nodeValue a_nodeA a_nodeB a_nodeResult a_nodeUses a_outputNode a_seen a_order a_walkStack := by
  intro d
  have hh := jd_hi_le P 1
  induction d with
  | zero =>
    intro b tr hb' h
    exact pk_lt (jd_hi P 1) b (fun _ => nm_r (nI_1 _) (hJ tr fun b hb'' => h b (by omega))) (fun h => absurd h (by omega))
  | succ d ih =>
    intro b tr hb' h
    refine pk_lt (jd_hi P 1) b (fun h => absurd h (by omega)) (fun _ => ?_)
    have nx : ∀ tr', ¬ jd_bad P R dl dj dk a b → wX_firstFailure_41 post J31 (nI rc) (nI (rc * 2 + 0)) (nI (rc * 2 + 1)) x4 (nI (jd_hi P 1)) (nI a) (d + 1) (nI (b + 1)) f_maxNodes f_maxRules f_ruleCount f_counterexample f_optimized f_nodeCount f_outputCount f_applications a_preRelation a_preVariable a_preConstant a_roomNeeded a_useCount a_treeSize a_treeKind a_treeValue a_treeA a_treeB tr' a_constantValued a_maximal a_counterpart a_boundNode a_pending a_pendingCount a_nodeKind a_nodeValue a_nodeA a_nodeB a_nodeResult a_nodeUses a_outputNode a_seen a_order a_walkStack := by
      intro tr' hn
      refine ih (b + 1) tr' (by omega) fun b' hb'' => ?_
      by_cases e : b' = b
      · rw [e]
        exact hn
      · exact h b' (by omega)
    refine x_preHolds (by omega) hdl hd hpe (br_c (fun z => nm_r (nI_1 _) (nx tr fun hx => ?_)) (fun z => ?_))
    · have := hx.1
      rw [(pr_b0 _).mp z] at this
      cases this
    · have hph : pr_ph dl dj dk (nI a) (nI b) = true := by
        cases hx : pr_ph dl dj dk (nI a) (nI b) with
        | true => rfl
        | false => rw [hx] at z; exact absurd rfl z
      refine x_evaluateTree (by omega) hP hP0 hT (fun tr1 _ => ?_)
      refine x_evaluateTree (by omega) hR hR0 hU (fun tr2 _ => ?_)
      refine br_c (fun e => nm_r (nI_1 _) (nx tr2 fun hx => hx.2 e)) (fun e => hb b tr2 (by omega) ⟨hph, e⟩ h)
theorem x_ff (hrc : rc ≤ 16) (hP : pt_ok P) (hR : pt_ok R) (hP0 : 0 < pt_n P) (hR0 : 0 < pt_n R) (hd : dl ≠ 0 → dj < 2) (hdl : dl ≤ 4) (hT : tr_at ((rc * 2 + 0) * 8) (rc * 2 + 0) P a_treeSize a_treeKind a_treeValue a_treeA a_treeB) (hU : tr_at ((rc * 2 + 1) * 8) (rc * 2 + 1) R a_treeSize a_treeKind a_treeValue a_treeA a_treeB) (hpe : pe_at rc dl dj dk a_preRelation a_preVariable a_preConstant)
    (hn : ∀ tr', jd_none P R dl dj dk → post (-1) (f_maxNodes, f_maxRules, f_ruleCount, f_counterexample, f_optimized, f_nodeCount, f_outputCount, f_applications, a_preRelation, a_preVariable, a_preConstant, a_roomNeeded, a_useCount, a_treeSize, a_treeKind, a_treeValue, a_treeA, a_treeB, tr', a_constantValued, a_maximal, a_counterpart, a_boundNode, a_pending, a_pendingCount, a_nodeKind, a_nodeValue, a_nodeA, a_nodeB, a_nodeResult, a_nodeUses, a_outputNode, a_seen, a_order, a_walkStack))
    (hb : ∀ a b tr', jd_first P R dl dj dk a b → post (nI a + 256 * nI b) (f_maxNodes, f_maxRules, f_ruleCount, f_counterexample, f_optimized, f_nodeCount, f_outputCount, f_applications, a_preRelation, a_preVariable, a_preConstant, a_roomNeeded, a_useCount, a_treeSize, a_treeKind, a_treeValue, a_treeA, a_treeB, tr', a_constantValued, a_maximal, a_counterpart, a_boundNode, a_pending, a_pendingCount, a_nodeKind, a_nodeValue, a_nodeA, a_nodeB, a_nodeResult, a_nodeUses, a_outputNode, a_seen, a_order, a_walkStack)) : wpX_firstFailure post (f_maxNodes, f_maxRules, f_ruleCount, f_counterexample, f_optimized, f_nodeCount, f_outputCount, f_applications, a_preRelation, a_preVariable, a_preConstant, a_roomNeeded, a_useCount, a_treeSize, a_treeKind, a_treeValue, a_treeA, a_treeB, a_treeResult, a_constantValued, a_maximal, a_counterpart, a_boundNode, a_pending, a_pendingCount, a_nodeKind, a_nodeValue, a_nodeA, a_nodeB, a_nodeResult, a_nodeUses, a_outputNode, a_seen, a_order, a_walkStack) (nI rc) := by
  have hh := jd_hi_le P 0
  have l31 : ∀ d a tr, a + d = jd_hi P 0 + 1 → (∀ a' b', a' < a → b' ≤ jd_hi P 1 → ¬ jd_bad P R dl dj dk a' b') → wX_firstFailure_31 post (nI rc) (nI (rc * 2 + 0)) (nI (rc * 2 + 1)) (nI (jd_hi P 0)) (nI (jd_hi P 1)) (d + 1) (nI a) f_maxNodes f_maxRules f_ruleCount f_counterexample f_optimized f_nodeCount f_outputCount f_applications a_preRelation a_preVariable a_preConstant a_roomNeeded a_useCount a_treeSize a_treeKind a_treeValue a_treeA a_treeB tr a_constantValued a_maximal a_counterpart a_boundNode a_pending a_pendingCount a_nodeKind a_nodeValue a_nodeA a_nodeB a_nodeResult a_nodeUses a_outputNode a_seen a_order a_walkStack := by
    intro d
    induction d with
    | zero =>
      intro a tr ha h
      exact pk_lt (jd_hi P 0) a (fun _ => hn tr fun a' b' h1 h2 => h a' b' (by omega) h2) (fun h => absurd h (by omega))
    | succ d ih =>
      intro a tr ha h
      refine pk_lt (jd_hi P 0) a (fun h => absurd h (by omega)) (fun _ => ⟨jd_hi P 1 + 1 + 1, ?_⟩)
      refine x_ff41 hrc hP hR hP0 hR0 hd hdl hT hU hpe (fun tr' h' => ih (a + 1) tr' (by omega) fun a' b' h1 h2 => ?_) (fun b tr' h1 h2 h3 => hb a b tr' ⟨by omega, h1, h2, h, h3⟩) (jd_hi P 1 + 1) 0 tr (by omega) (fun b' h => absurd h (by omega))
      by_cases e : a' = a
      · rw [e]
        exact h' b' h2
      · exact h a' b' (by omega) h2
  unfold wpX_firstFailure
  refine x_treeOf rc 0 ?_
  refine x_treeOf rc 1 ?_
  refine x_lastV (j := 0) (by omega) hrc hP hT ?_
  refine x_lastV (j := 1) (by omega) hrc hP hT ⟨jd_hi P 0 + 1 + 1, ?_⟩
  exact l31 (jd_hi P 0 + 1) 0 a_treeResult (by omega) (fun a' b' h => absurd h (by omega))
end XS
section XT
variable {f_maxNodes f_maxRules f_ruleCount f_counterexample f_optimized f_nodeCount f_outputCount f_applications : Int32} {a_preRelation a_preVariable a_preConstant a_roomNeeded a_useCount a_treeSize a_treeKind a_treeValue a_treeA a_treeB a_treeResult a_constantValued a_maximal a_counterpart a_boundNode a_pending a_pendingCount a_nodeKind a_nodeValue a_nodeA a_nodeB a_nodeResult a_nodeUses a_outputNode a_seen a_order a_walkStack : Nat → Int32}
variable {rc mR : Nat} {P R : pr_PT} {c0 c1 dl dj dk : Nat} {post : Int32 → St2 → Prop}
theorem x_judge {ps0 ps1 : Nat → Nat} (hrc : rc ≤ mR) (hmR : mR ≤ 16) (hP : pt_ok P) (hR : pt_ok R) (hp0 : pd_ok P ps0 c0) (hp1 : pd_ok R ps1 c1) (h14 : ∀ i, i < pt_n R → pt_k R i ≠ 14) (hd : dl ≠ 0 → dj < 2) (hdl : dl ≤ 4) (hT : tr_at ((rc * 2 + 0) * 8) (rc * 2 + 0) P a_treeSize a_treeKind a_treeValue a_treeA a_treeB) (hU : tr_at ((rc * 2 + 1) * 8) (rc * 2 + 1) R a_treeSize a_treeKind a_treeValue a_treeA a_treeB) (hpe : pe_at rc dl dj dk a_preRelation a_preVariable a_preConstant)
    (e0 : a_pendingCount 0 = nI c0) (e1 : a_pendingCount 1 = nI c1)
    (h : ∀ v c cv' mx' tr', jd_v rc mR P R c0 c1 dl dj dk v c → (v = 0 → (∀ q, q < pt_n R → cv' ((rc * 2 + 1) * 8 + q) = pr_b (pt_cv R (pt_has P 14) q)) ∧ (∀ q, q < pt_n R → mx' ((rc * 2 + 1) * 8 + q) = pr_b (pt_mx R (pt_has P 14) q))) → (∀ q, q < rc * 16 → cv' q = a_constantValued q ∧ mx' q = a_maximal q) → post (nI v) (f_maxNodes, (nI mR), (nI rc), c, f_optimized, f_nodeCount, f_outputCount, f_applications, a_preRelation, a_preVariable, a_preConstant, a_roomNeeded, a_useCount, a_treeSize, a_treeKind, a_treeValue, a_treeA, a_treeB, tr', cv', mx', a_counterpart, a_boundNode, a_pending, a_pendingCount, a_nodeKind, a_nodeValue, a_nodeA, a_nodeB, a_nodeResult, a_nodeUses, a_outputNode, a_seen, a_order, a_walkStack)) :
    wpX_judgeDraft post (f_maxNodes, (nI mR), (nI rc), (-1), f_optimized, f_nodeCount, f_outputCount, f_applications, a_preRelation, a_preVariable, a_preConstant, a_roomNeeded, a_useCount, a_treeSize, a_treeKind, a_treeValue, a_treeA, a_treeB, a_treeResult, a_constantValued, a_maximal, a_counterpart, a_boundNode, a_pending, a_pendingCount, a_nodeKind, a_nodeValue, a_nodeA, a_nodeB, a_nodeResult, a_nodeUses, a_outputNode, a_seen, a_order, a_walkStack) := by
  have triv : ∀ q, q < rc * 16 → a_constantValued q = a_constantValued q ∧ a_maximal q = a_maximal q := fun _ _ => ⟨rfl, rfl⟩
  unfold wpX_judgeDraft
  refine pk_eq rc mR (fun e => h 1 (-1) _ _ _ (Or.inl ⟨rfl, rfl, e⟩) (fun h => absurd h (by omega)) triv) (fun ne => ?_)
  refine x_shape (by omega) hP hT e0 e1 hp0.1 (by have := hp1.1; have := hR.1; omega) (fun hsh => br_f (by decide) ?_) (fun hsh => br_t rfl (h 2 (-1) _ _ _ (Or.inr (Or.inl ⟨rfl, rfl, ⟨fun _ => ne, fun h => absurd h (by omega), fun h => absurd h (by omega), fun h => absurd h (by omega), fun h => absurd h (by omega)⟩, hsh⟩)) (fun h => absurd h (by omega)) triv))
  have hfP : pt_fin P := by
    have e := hsh.1
    subst e
    exact pd_fin hp0
  have hfR : pt_fin R := by
    have e := hsh.2.1
    subst e
    exact pd_fin hp1
  refine x_varFit (by omega) hP hR hT hU (fun hvf => br_f (by decide) ?_) (fun hvf => br_t rfl (h 3 (-1) _ _ _ (Or.inr (Or.inr (Or.inl ⟨rfl, rfl, ⟨fun _ => ne, fun _ => hsh, fun h => absurd h (by omega), fun h => absurd h (by omega), fun h => absurd h (by omega)⟩, hvf⟩))) (fun h => absurd h (by omega)) triv))
  refine x_preFit (by omega) hP hd hdl hT hpe (fun hpf => br_f (by decide) ?_) (fun hpf => br_t rfl (h 4 (-1) _ _ _ (Or.inr (Or.inr (Or.inr (Or.inl ⟨rfl, rfl, ⟨fun _ => ne, fun _ => hsh, fun _ => hvf, fun h => absurd h (by omega), fun h => absurd h (by omega)⟩, hpf⟩)))) (fun h => absurd h (by omega)) triv))
  refine x_markConst (by omega) hP hR h14 rfl hT hU (fun cv' k1 k2 => ?_)
  refine x_markMax (by omega) hR hfR hU k1 (fun mx' m1 m2 => ?_)
  have hkeep : ∀ q, q < rc * 16 → cv' q = a_constantValued q ∧ mx' q = a_maximal q := fun q hq => ⟨k2 q (Or.inl (by omega)), m2 q (Or.inl (by omega))⟩
  refine x_repW (by omega) hR hU k1 ?_
  refine x_patW (by omega) hP hT ?_
  have w1 : pt_rw R (pt_has P 14) < 2 ^ 31 := by
    have h8 := hR.1
    have : pt_rw R (pt_has P 14) ≤ pt_n R * 3 := pr_rs_bound (fun x _ _ => by
      show (if pt_cv R (pt_has P 14) x = true then 0 else pr_w (pt_k R x)) ≤ 3
      have := pr_w_le (pt_k R x)
      by_cases hx : pt_cv R (pt_has P 14) x = true
      · rw [if_pos hx]
        omega
      · rw [if_neg hx]
        exact this)
    omega
  have w2 : pt_pw P < 2 ^ 31 := by
    have h8 := hP.1
    have : pt_pw P ≤ pt_n P * 3 := pr_rs_bound (fun x _ _ => pr_w_le (pt_k P x))
    omega
  refine pk_lt (pt_rw R (pt_has P 14)) (pt_pw P) (fun hco => ?_) (fun hco => h 5 (-1) cv' mx' _ (Or.inr (Or.inr (Or.inr (Or.inr (Or.inl ⟨rfl, rfl, ⟨fun _ => ne, fun _ => hsh, fun _ => hvf, fun _ => hpf, fun h => absurd h (by omega)⟩, by omega⟩))))) (fun h => absurd h (by omega)) hkeep) rfl rfl w1 w2
  have hok5 : jd_ok rc mR P R c0 c1 dl dj dk 5 := ⟨fun _ => ne, fun _ => hsh, fun _ => hvf, fun _ => hpf, fun _ => hco⟩
  refine x_ff (by omega) hP hR hfP.1 hfR.1 hd hdl hT hU hpe (fun tr' hn => br_t rfl (h 0 (-1) cv' mx' tr' (Or.inr (Or.inr (Or.inr (Or.inr (Or.inr (Or.inr ⟨rfl, rfl, hok5, hn⟩)))))) (fun _ => ⟨k1, m1⟩) hkeep)) (fun a b tr' hf => br_f ?_ (h 6 _ cv' mx' tr' (Or.inr (Or.inr (Or.inr (Or.inr (Or.inr (Or.inl ⟨rfl, hok5, a, b, hf, rfl⟩)))))) (fun h => absurd h (by omega)) hkeep))
  have ha := Nat.le_trans hf.1 (jd_hi_le P 0)
  have hb := Nat.le_trans hf.2.1 (jd_hi_le P 1)
  have e : nI a + 256 * nI b = nI (a + 256 * b) := by
    rw [show (256 : Int32) = nI 256 from rfl, pk_mul, nI_add]
  rw [e]
  exact pr_ne1 (by omega)
end XT
