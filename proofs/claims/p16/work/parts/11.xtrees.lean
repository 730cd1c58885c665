/-! X: trees evaluated, marked, weighed -/
section XC
variable {f_maxNodes f_maxRules f_ruleCount f_counterexample f_optimized f_nodeCount f_outputCount f_applications : Int32} {a_preRelation a_preVariable a_preConstant a_roomNeeded a_useCount a_treeSize a_treeKind a_treeValue a_treeA a_treeB a_treeResult a_constantValued a_maximal a_counterpart a_boundNode a_pending a_pendingCount a_nodeKind a_nodeValue a_nodeA a_nodeB a_nodeResult a_nodeUses a_outputNode a_seen a_order a_walkStack : Nat → Int32}
variable {post : Int32 → St2 → Prop} {w : Nat} {t : pr_PT} {v0 v1 : Int32}
theorem x_evaluateTree13 (hw : w < 34) (ht : pt_ok t) (h0 : 0 < pt_n t) (hT : tr_at (w * 8) w t a_treeSize a_treeKind a_treeValue a_treeA a_treeB) (h : ∀ tr', (∀ q, q < pt_n t → tr' (w * 8 + q) = pt_tv t v0 v1 q) → post (pt_tv t v0 v1 (pt_n t - 1)) (f_maxNodes, f_maxRules, f_ruleCount, f_counterexample, f_optimized, f_nodeCount, f_outputCount, f_applications, a_preRelation, a_preVariable, a_preConstant, a_roomNeeded, a_useCount, a_treeSize, a_treeKind, a_treeValue, a_treeA, a_treeB, tr', a_constantValued, a_maximal, a_counterpart, a_boundNode, a_pending, a_pendingCount, a_nodeKind, a_nodeValue, a_nodeA, a_nodeB, a_nodeResult, a_nodeUses, a_outputNode, a_seen, a_order, a_walkStack)) :
    ∀ d i tr, i + d = pt_n t → (∀ q, q < i → tr (w * 8 + q) = pt_tv t v0 v1 q) → wX_evaluateTree_13 post v0 v1 (nI (w * 8 + pt_n t)) f_maxNodes f_maxRules f_ruleCount f_counterexample f_optimized f_nodeCount f_outputCount f_applications (d + 1) (nI (w * 8 + i)) a_preRelation a_preVariable a_preConstant a_roomNeeded a_useCount a_treeSize a_treeKind a_treeValue a_treeA a_treeB tr a_constantValued a_maximal a_counterpart a_boundNode a_pending a_pendingCount a_nodeKind a_nodeValue a_nodeA a_nodeB a_nodeResult a_nodeUses a_outputNode a_seen a_order a_walkStack := by
  intro d
  have h8 := ht.1
  induction d with
  | zero =>
    intro i tr hi hq
    refine pk_le (w * 8 + pt_n t) (w * 8 + i) (fun _ => ?_) (fun h => absurd h (by omega))
    rw [pr_s1 (by omega), show w * 8 + pt_n t - 1 = w * 8 + (pt_n t - 1) by omega]
    refine ⟨pk_in (w * 8 + (pt_n t - 1)) 272 (by omega), ?_⟩
    rw [nI_clamp (by omega), hq _ (by omega)]
    exact h tr fun q hq' => hq q (by omega)
  | succ d ih =>
    intro i tr hi hq
    have hi' : i < pt_n t := by omega
    obtain ⟨e1, e2, e3, e4⟩ := hT.2 i hi'
    have hn := ht.2 i hi'
    have h9 := hn.2.2.2.2.2.2.2.2.1
    have hs := pt_sm ht i hi'
    have hcl : (nI (w * 8 + i)).toNatClampNeg = w * 8 + i := nI_clamp (by omega)
    have hnx : ∀ x : Int32, x = pt_tv t v0 v1 i → wX_evaluateTree_13 post v0 v1 (nI (w * 8 + pt_n t)) f_maxNodes f_maxRules f_ruleCount f_counterexample f_optimized f_nodeCount f_outputCount f_applications (d + 1) (nI (w * 8 + i) + 1) a_preRelation a_preVariable a_preConstant a_roomNeeded a_useCount a_treeSize a_treeKind a_treeValue a_treeA a_treeB (upd tr (w * 8 + i) x) a_constantValued a_maximal a_counterpart a_boundNode a_pending a_pendingCount a_nodeKind a_nodeValue a_nodeA a_nodeB a_nodeResult a_nodeUses a_outputNode a_seen a_order a_walkStack := by
      intro x hx
      rw [nI_1]
      refine ih (i + 1) _ (by omega) fun q hq' => ?_
      by_cases e : q = i
      · rw [e, pk_us, hx]
      · rw [pk_un (by omega)]
        exact hq q (by omega)
    have heq := pt_tv_eq (v0 := v0) (v1 := v1) ht hi'
    unfold pt_vF at heq
    have hin : vp_in (nI (w * 8 + i)) 272 := pk_in (w * 8 + i) 272 (by omega)
    refine pk_le (w * 8 + pt_n t) (w * 8 + i) (fun h => absurd h (by omega)) (fun _ => ⟨hin, ?_⟩)
    rw [hcl]
    refine nm_r e1 ?_
    have h1314 : 13 ≤ pt_k t i → wX_evaluateTree_67 post (wX_evaluateTree_13 post v0 v1 (nI (w * 8 + pt_n t)) f_maxNodes f_maxRules f_ruleCount f_counterexample f_optimized f_nodeCount f_outputCount f_applications (d + 1)) v0 v1 (nI (w * 8 + pt_n t)) (nI (w * 8 + i)) f_maxNodes f_maxRules f_ruleCount f_counterexample f_optimized f_nodeCount f_outputCount f_applications a_preRelation a_preVariable a_preConstant a_roomNeeded a_useCount a_treeSize a_treeKind a_treeValue a_treeA a_treeB tr a_constantValued a_maximal a_counterpart a_boundNode a_pending a_pendingCount a_nodeKind a_nodeValue a_nodeA a_nodeB a_nodeResult a_nodeUses a_outputNode a_seen a_order a_walkStack := by
      intro h13
      rw [if_neg (by omega), if_pos h13] at heq
      refine ⟨hin, ?_⟩
      rw [hcl, e2]
      refine pk_eq (pt_v t i) 0 (fun e => ⟨hin, ?_⟩) (fun e => ⟨hin, ?_⟩)
      · rw [if_pos e] at heq
        exact nm_e (nm_e (hnx _ heq.symm))
      · rw [if_neg e] at heq
        exact nm_e (nm_e (hnx _ heq.symm))
    refine pk_eq (pt_k t i) 11 (fun e => ⟨hin, hin, ?_⟩) (fun n11 => pk_eq (pt_k t i) 13 (fun e => h1314 (by omega)) (fun n13 => pk_eq (pt_k t i) 14 (fun e => h1314 (by omega)) (fun n14 => ⟨hin, ?_⟩)))
    · rw [if_pos e] at heq
      rw [e2]
      exact nm_e (nm_e (hnx _ heq.symm))
    · have hk : pt_k t i ≤ 10 := by have := hn.1; omega
      rw [if_neg n11, if_neg (by omega)] at heq
      obtain ⟨ca, hca⟩ := hn.2.2.2.2.2.2.1 hk
      have hca' := h9 ca (Or.inl hca)
      have eA : a_treeA (w * 8 + i) = nI (w * 8 + ca) := by
        rw [e3, hca]
        rfl
      rw [hca] at heq
      by_cases hb : pt_k t i ≤ 8
      · obtain ⟨cb, hcb⟩ := hn.2.2.2.2.2.2.2.1 hb
        have hcb' := h9 cb (Or.inr hcb)
        have eB : a_treeB (w * 8 + i) = nI (w * 8 + cb) := by
          rw [e4, hcb]
          rfl
        rw [hcb] at heq
        rw [eB]
        refine br_f (pr_ne1 (by omega)) ⟨hin, pk_in (w * 8 + cb) 272 (by omega), ?_⟩
        rw [nI_clamp (n := w * 8 + cb) (by omega)]
        refine ⟨hin, ?_⟩
        rw [hcl, eA, nI_clamp (n := w * 8 + ca) (by omega)]
        refine ⟨pk_in (w * 8 + ca) 272 (by omega), x_compute hn.1.1 hk ⟨hin, ?_⟩⟩
        refine nm_e (nm_e (hnx _ ?_))
        rw [heq, hq ca (by omega), hq cb (by omega)]
        rfl
      · have eB : a_treeB (w * 8 + i) = -1 := by
          rw [e4, hn.2.2.2.2.2.1 (by omega)]
          rfl
        rw [hn.2.2.2.2.2.1 (by omega)] at heq
        rw [eB]
        refine br_t rfl ⟨hin, ?_⟩
        rw [hcl, eA, nI_clamp (n := w * 8 + ca) (by omega)]
        refine ⟨pk_in (w * 8 + ca) 272 (by omega), x_compute hn.1.1 hk ⟨hin, ?_⟩⟩
        refine nm_e (nm_e (hnx _ ?_))
        rw [heq, hq ca (by omega)]
        rfl
theorem x_evaluateTree (hw : w < 34) (ht : pt_ok t) (h0 : 0 < pt_n t) (hT : tr_at (w * 8) w t a_treeSize a_treeKind a_treeValue a_treeA a_treeB) (h : ∀ tr', (∀ q, q < pt_n t → tr' (w * 8 + q) = pt_tv t v0 v1 q) → post (pt_tv t v0 v1 (pt_n t - 1)) (f_maxNodes, f_maxRules, f_ruleCount, f_counterexample, f_optimized, f_nodeCount, f_outputCount, f_applications, a_preRelation, a_preVariable, a_preConstant, a_roomNeeded, a_useCount, a_treeSize, a_treeKind, a_treeValue, a_treeA, a_treeB, tr', a_constantValued, a_maximal, a_counterpart, a_boundNode, a_pending, a_pendingCount, a_nodeKind, a_nodeValue, a_nodeA, a_nodeB, a_nodeResult, a_nodeUses, a_outputNode, a_seen, a_order, a_walkStack)) :
    wpX_evaluateTree post (f_maxNodes, f_maxRules, f_ruleCount, f_counterexample, f_optimized, f_nodeCount, f_outputCount, f_applications, a_preRelation, a_preVariable, a_preConstant, a_roomNeeded, a_useCount, a_treeSize, a_treeKind, a_treeValue, a_treeA, a_treeB, a_treeResult, a_constantValued, a_maximal, a_counterpart, a_boundNode, a_pending, a_pendingCount, a_nodeKind, a_nodeValue, a_nodeA, a_nodeB, a_nodeResult, a_nodeUses, a_outputNode, a_seen, a_order, a_walkStack) (nI w) v0 v1 := by
  unfold wpX_evaluateTree
  refine x_endOf hw hT.1 ?_
  refine x_firstOf ⟨pt_n t + 1, ?_⟩
  exact x_evaluateTree13 hw ht h0 hT h (pt_n t) 0 a_treeResult (by omega) (fun q hq => absurd hq (by omega))
end XC
section XD
variable {f_maxNodes f_maxRules f_ruleCount f_counterexample f_optimized f_nodeCount f_outputCount f_applications : Int32} {a_preRelation a_preVariable a_preConstant a_roomNeeded a_useCount a_treeSize a_treeKind a_treeValue a_treeA a_treeB a_treeResult a_constantValued a_maximal a_counterpart a_boundNode a_pending a_pendingCount a_nodeKind a_nodeValue a_nodeA a_nodeB a_nodeResult a_nodeUses a_outputNode a_seen a_order a_walkStack : Nat → Int32}
variable {post : St2 → Prop} {r wp w : Nat} {p t : pr_PT} {C : Nat → Bool}
theorem x_markConst25 (hwp : wp < 34) (hw : w < 34) (hp : pt_ok p) (ht : pt_ok t) (h14 : ∀ i, i < pt_n t → pt_k t i ≠ 14) (hC : C = pt_has p 14) (hP : tr_at (wp * 8) wp p a_treeSize a_treeKind a_treeValue a_treeA a_treeB) (hT : tr_at (w * 8) w t a_treeSize a_treeKind a_treeValue a_treeA a_treeB)
    (h : ∀ cv', (∀ q, q < pt_n t → cv' (w * 8 + q) = pr_b (pt_cv t C q)) → (∀ q, q < w * 8 ∨ w * 8 + pt_n t ≤ q → cv' q = a_constantValued q) → post (f_maxNodes, f_maxRules, f_ruleCount, f_counterexample, f_optimized, f_nodeCount, f_outputCount, f_applications, a_preRelation, a_preVariable, a_preConstant, a_roomNeeded, a_useCount, a_treeSize, a_treeKind, a_treeValue, a_treeA, a_treeB, a_treeResult, cv', a_maximal, a_counterpart, a_boundNode, a_pending, a_pendingCount, a_nodeKind, a_nodeValue, a_nodeA, a_nodeB, a_nodeResult, a_nodeUses, a_outputNode, a_seen, a_order, a_walkStack)) :
    ∀ d i cv, i + d = pt_n t → (∀ q, q < i → cv (w * 8 + q) = pr_b (pt_cv t C q)) → (∀ q, q < w * 8 ∨ w * 8 + pt_n t ≤ q → cv q = a_constantValued q) → wX_markConstantValued_25 post (nI wp) (nI (w * 8 + pt_n t)) f_maxNodes f_maxRules f_ruleCount f_counterexample f_optimized f_nodeCount f_outputCount f_applications (d + 1) (nI (w * 8 + i)) a_preRelation a_preVariable a_preConstant a_roomNeeded a_useCount a_treeSize a_treeKind a_treeValue a_treeA a_treeB a_treeResult cv a_maximal a_counterpart a_boundNode a_pending a_pendingCount a_nodeKind a_nodeValue a_nodeA a_nodeB a_nodeResult a_nodeUses a_outputNode a_seen a_order a_walkStack := by
  intro d
  have h8 := ht.1
  induction d with
  | zero =>
    intro i cv hi hq hq2
    refine pk_le (w * 8 + pt_n t) (w * 8 + i) (fun _ => ?_) (fun h => absurd h (by omega))
    exact h cv (fun q hq' => hq q (by omega)) hq2
  | succ d ih =>
    intro i cv hi hq hq2
    have hi' : i < pt_n t := by omega
    obtain ⟨e1, e2, e3, e4⟩ := hT.2 i hi'
    have hn := ht.2 i hi'
    have h9 := hn.2.2.2.2.2.2.2.2.1
    have hs := pt_sm ht i hi'
    have hcl : (nI (w * 8 + i)).toNatClampNeg = w * 8 + i := nI_clamp (by omega)
    have hnx : ∀ x : Int32, x = pr_b (pt_cv t C i) → wX_markConstantValued_25 post (nI wp) (nI (w * 8 + pt_n t)) f_maxNodes f_maxRules f_ruleCount f_counterexample f_optimized f_nodeCount f_outputCount f_applications (d + 1) (nI (w * 8 + i) + 1) a_preRelation a_preVariable a_preConstant a_roomNeeded a_useCount a_treeSize a_treeKind a_treeValue a_treeA a_treeB a_treeResult (upd cv (w * 8 + i) x) a_maximal a_counterpart a_boundNode a_pending a_pendingCount a_nodeKind a_nodeValue a_nodeA a_nodeB a_nodeResult a_nodeUses a_outputNode a_seen a_order a_walkStack := by
      intro x hx
      rw [nI_1]
      refine ih (i + 1) _ (by omega) (fun q hq' => ?_) (fun q hq' => ?_)
      · by_cases e : q = i
        · rw [e, pk_us, hx]
        · rw [pk_un (by omega)]
          exact hq q (by omega)
      · rw [pk_un (by omega)]
        exact hq2 q hq'
    have heq := pt_cv_eq (C := C) ht hi'
    unfold pt_cF at heq
    have hin : vp_in (nI (w * 8 + i)) 272 := pk_in (w * 8 + i) 272 (by omega)
    refine pk_le (w * 8 + pt_n t) (w * 8 + i) (fun h => absurd h (by omega)) (fun _ => ⟨hin, ?_⟩)
    rw [hcl, e1]
    refine pk_eq (pt_k t i) 13 (fun e => ⟨hin, ?_⟩) (fun n13 => ⟨hin, ?_⟩)
    · rw [e2]
      refine x_occurs hwp hp hP (by decide) hs.2 ⟨hin, ?_⟩
      rw [pr_nb]
      rw [if_pos e] at heq
      exact nm_e (nm_e (hnx _ (by rw [heq, hC])))
    · rw [if_neg n13] at heq
      have h100 : (pr_ob (pt_cv t C) (pt_a t i) = true) → wX_markConstantValued_100 post (wX_markConstantValued_25 post (nI wp) (nI (w * 8 + pt_n t)) f_maxNodes f_maxRules f_ruleCount f_counterexample f_optimized f_nodeCount f_outputCount f_applications (d + 1)) (nI wp) (nI (w * 8 + pt_n t)) (nI (w * 8 + i)) (nI (w * 8 + i)) f_maxNodes f_maxRules f_ruleCount f_counterexample f_optimized f_nodeCount f_outputCount f_applications a_preRelation a_preVariable a_preConstant a_roomNeeded a_useCount a_treeSize a_treeKind a_treeValue a_treeA a_treeB a_treeResult cv a_maximal a_counterpart a_boundNode a_pending a_pendingCount a_nodeKind a_nodeValue a_nodeA a_nodeB a_nodeResult a_nodeUses a_outputNode a_seen a_order a_walkStack := by
        intro ha
        rw [ha, Bool.true_and] at heq
        refine ⟨hin, ?_⟩
        rw [hcl, e4]
        cases hb : pt_b t i with
        | none =>
          rw [hb] at heq
          refine br_t rfl ⟨hin, ?_⟩
          skip
          exact nm_e (nm_e (hnx _ (by rw [heq]; rfl)))
        | some cb =>
          rw [hb] at heq
          have hcb := h9 cb (Or.inr hb)
          show _ ∧ _
          refine br_f (pr_ne1 (by omega)) ⟨hin, pk_in (w * 8 + cb) 272 (by omega), ?_⟩
          rw [show (pr_oX (w * 8) (some cb)).toNatClampNeg = w * 8 + cb from nI_clamp (by omega), hq cb (by omega)]
          replace heq : pt_cv t C i = pt_cv t C cb := heq
          rw [← heq]
          refine br_c (fun h0 => ⟨hin, ?_⟩) (fun h0 => ⟨hin, ?_⟩)
          · skip
            exact nm_e (nm_e (hnx _ h0.symm))
          · skip
            refine nm_e (nm_e (hnx _ ?_))
            cases hx : pt_cv t C i with
            | true => rfl
            | false => rw [hx] at h0; exact absurd rfl h0
      rw [e3]
      cases ha : pt_a t i with
      | none => exact br_t rfl (h100 (by rw [ha]; rfl))
      | some ca =>
        have hca := h9 ca (Or.inl ha)
        refine br_f (pr_ne1 (by omega)) ⟨hin, pk_in (w * 8 + ca) 272 (by omega), ?_⟩
        rw [show (pr_oX (w * 8) (some ca)).toNatClampNeg = w * 8 + ca from nI_clamp (by omega), hq ca (by omega)]
        refine br_c (fun h0 => ⟨hin, ?_⟩) (fun h0 => h100 ?_)
        · skip
          rw [ha] at heq
          refine nm_e (nm_e (hnx _ ?_))
          replace heq : pt_cv t C i = (pt_cv t C ca && pr_ob (pt_cv t C) (pt_b t i)) := heq
          rw [(pr_b0 _).mp h0, Bool.false_and] at heq
          rw [heq]
          rfl
        · rw [ha]
          show pt_cv t C ca = true
          cases hx : pt_cv t C ca with
          | true => rfl
          | false => rw [hx] at h0; exact absurd rfl h0
theorem x_markConst (hr : r < 17) (hp : pt_ok p) (ht : pt_ok t) (h14 : ∀ i, i < pt_n t → pt_k t i ≠ 14) (hC : C = pt_has p 14) (hP : tr_at ((r * 2 + 0) * 8) (r * 2 + 0) p a_treeSize a_treeKind a_treeValue a_treeA a_treeB) (hT : tr_at ((r * 2 + 1) * 8) (r * 2 + 1) t a_treeSize a_treeKind a_treeValue a_treeA a_treeB)
    (h : ∀ cv', (∀ q, q < pt_n t → cv' ((r * 2 + 1) * 8 + q) = pr_b (pt_cv t C q)) → (∀ q, q < (r * 2 + 1) * 8 ∨ (r * 2 + 1) * 8 + pt_n t ≤ q → cv' q = a_constantValued q) → post (f_maxNodes, f_maxRules, f_ruleCount, f_counterexample, f_optimized, f_nodeCount, f_outputCount, f_applications, a_preRelation, a_preVariable, a_preConstant, a_roomNeeded, a_useCount, a_treeSize, a_treeKind, a_treeValue, a_treeA, a_treeB, a_treeResult, cv', a_maximal, a_counterpart, a_boundNode, a_pending, a_pendingCount, a_nodeKind, a_nodeValue, a_nodeA, a_nodeB, a_nodeResult, a_nodeUses, a_outputNode, a_seen, a_order, a_walkStack)) :
    wpX_markConstantValued post (f_maxNodes, f_maxRules, f_ruleCount, f_counterexample, f_optimized, f_nodeCount, f_outputCount, f_applications, a_preRelation, a_preVariable, a_preConstant, a_roomNeeded, a_useCount, a_treeSize, a_treeKind, a_treeValue, a_treeA, a_treeB, a_treeResult, a_constantValued, a_maximal, a_counterpart, a_boundNode, a_pending, a_pendingCount, a_nodeKind, a_nodeValue, a_nodeA, a_nodeB, a_nodeResult, a_nodeUses, a_outputNode, a_seen, a_order, a_walkStack) (nI r) := by
  unfold wpX_markConstantValued
  refine x_treeOf r 0 ?_
  refine x_treeOf r 1 ?_
  refine x_endOf (by omega) hT.1 ?_
  refine x_firstOf ⟨pt_n t + 1, ?_⟩
  exact x_markConst25 (by omega) (by omega) hp ht h14 hC hP hT h (pt_n t) 0 a_constantValued (by omega) (fun q hq => absurd hq (by omega)) (fun q _ => rfl)
end XD
