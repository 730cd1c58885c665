/-! X: maximal marks, weights, room -/
theorem nx_m1 (a i : Nat) : nI (a + (i + 1)) + (-1) = nI (a + i) := pk_m1 (a + i)
theorem nx_lt {a : Nat} (h : a < 2 ^ 30) : nI a + (-1) < nI a := by
  rw [Int32.lt_iff_toInt_lt, Int32.toInt_add, nI_toInt (by omega), show ((-1 : Int32)).toInt = -1 from by decide, Int.bmod_eq_of_le (by omega) (by omega)]
  omega
def mx_on (w : Nat) (t : pr_PT) (C : Nat → Bool) (S : Nat → Prop) (mx : Nat → Int32) : Prop := ∀ q, q < pt_n t → S q → mx (w * 8 + q) = pr_b (pt_mx t C q)
theorem mx_up {w : Nat} {t : pr_PT} {C : Nat → Bool} {S S' : Nat → Prop} {mx : Nat → Int32} {c : Nat} {x : Int32} (h : mx_on w t C S mx) (hx : x = pr_b (pt_mx t C c)) (hS : ∀ q, q < pt_n t → S' q → q = c ∨ S q) : mx_on w t C S' (upd mx (w * 8 + c) x) := by
  intro q hq hs
  by_cases e : q = c
  · rw [e, pk_us, hx]
  · rw [pk_un (by omega)]
    rcases hS q hq hs with h' | h'
    · exact absurd h' e
    · exact h q hq h'
theorem mx_v {t : pr_PT} {C : Nat → Bool} {c i : Nat} (h : pt_p t c = some i) : pt_mx t C c = (pt_cv t C c && !pt_cv t C i) := by
  unfold pt_mx
  rw [h]
section XE
variable {f_maxNodes f_maxRules f_ruleCount f_counterexample f_optimized f_nodeCount f_outputCount f_applications : Int32} {a_preRelation a_preVariable a_preConstant a_roomNeeded a_useCount a_treeSize a_treeKind a_treeValue a_treeA a_treeB a_treeResult a_constantValued a_maximal a_counterpart a_boundNode a_pending a_pendingCount a_nodeKind a_nodeValue a_nodeA a_nodeB a_nodeResult a_nodeUses a_outputNode a_seen a_order a_walkStack : Nat → Int32}
variable {post : St2 → Prop} {r w : Nat} {t : pr_PT} {C : Nat → Bool}
theorem x_markMax33 (hw1 : 1 ≤ w) (hw : w < 34) (ht : pt_ok t) (hf : pt_fin t) (hT : tr_at (w * 8) w t a_treeSize a_treeKind a_treeValue a_treeA a_treeB) (hcv : ∀ q, q < pt_n t → a_constantValued (w * 8 + q) = pr_b (pt_cv t C q))
    (h : ∀ mx', (∀ q, q < pt_n t → mx' (w * 8 + q) = pr_b (pt_mx t C q)) → (∀ q, q < w * 8 ∨ w * 8 + pt_n t ≤ q → mx' q = a_maximal q) → post (f_maxNodes, f_maxRules, f_ruleCount, f_counterexample, f_optimized, f_nodeCount, f_outputCount, f_applications, a_preRelation, a_preVariable, a_preConstant, a_roomNeeded, a_useCount, a_treeSize, a_treeKind, a_treeValue, a_treeA, a_treeB, a_treeResult, a_constantValued, mx', a_counterpart, a_boundNode, a_pending, a_pendingCount, a_nodeKind, a_nodeValue, a_nodeA, a_nodeB, a_nodeResult, a_nodeUses, a_outputNode, a_seen, a_order, a_walkStack)) :
    ∀ i mx, i ≤ pt_n t → mx_on w t C (pm_as t i) mx → (∀ q, q < w * 8 ∨ w * 8 + pt_n t ≤ q → mx q = a_maximal q) → wX_markMaximal_33 post (nI w) f_maxNodes f_maxRules f_ruleCount f_counterexample f_optimized f_nodeCount f_outputCount f_applications (i + 1) (nI (w * 8 + i) + (-1)) a_preRelation a_preVariable a_preConstant a_roomNeeded a_useCount a_treeSize a_treeKind a_treeValue a_treeA a_treeB a_treeResult a_constantValued mx a_counterpart a_boundNode a_pending a_pendingCount a_nodeKind a_nodeValue a_nodeA a_nodeB a_nodeResult a_nodeUses a_outputNode a_seen a_order a_walkStack := by
  intro i
  have h8 := ht.1
  induction i with
  | zero =>
    intro mx hi hm hq2
    unfold wX_markMaximal_33
    refine x_firstOf (br_t (nx_lt (a := w * 8) (by omega)) ?_)
    refine h mx (fun q hq => hm q hq ?_) hq2
    by_cases e : q + 1 = pt_n t
    · exact Or.inl e
    · obtain ⟨x, hx⟩ := hf.2.2 q (by omega)
      have := (ht.2 q hq).2.2.2.2.2.2.2.2.2.2 x hx
      exact Or.inr ⟨x, by omega, this.2.1, hx⟩
  | succ i ih =>
    intro mx hi hm hq2
    have hi' : i < pt_n t := by omega
    obtain ⟨e1, e2, e3, e4⟩ := hT.2 i hi'
    have hn := ht.2 i hi'
    have h9 := hn.2.2.2.2.2.2.2.2.1
    have hcl : (nI (w * 8 + i)).toNatClampNeg = w * 8 + i := nI_clamp (by omega)
    have hin : vp_in (nI (w * 8 + i)) 272 := pk_in (w * 8 + i) 272 (by omega)
    have h95 : ∀ mx, mx_on w t C (fun q => pm_as t (i + 1) q ∨ pt_a t i = some q) mx → (∀ q, q < w * 8 ∨ w * 8 + pt_n t ≤ q → mx q = a_maximal q) → wX_markMaximal_95 post (wX_markMaximal_33 post (nI w) f_maxNodes f_maxRules f_ruleCount f_counterexample f_optimized f_nodeCount f_outputCount f_applications (i + 1)) (nI w) (nI (w * 8 + i)) f_maxNodes f_maxRules f_ruleCount f_counterexample f_optimized f_nodeCount f_outputCount f_applications a_preRelation a_preVariable a_preConstant a_roomNeeded a_useCount a_treeSize a_treeKind a_treeValue a_treeA a_treeB a_treeResult a_constantValued mx a_counterpart a_boundNode a_pending a_pendingCount a_nodeKind a_nodeValue a_nodeA a_nodeB a_nodeResult a_nodeUses a_outputNode a_seen a_order a_walkStack := by
      intro mx hm hq2
      refine ⟨hin, ?_⟩
      rw [hcl, e4]
      cases hb : pt_b t i with
      | none =>
        refine br_t rfl (nm_e (ih mx (by omega) (fun q hq hs => hm q hq ?_) hq2))
        rcases pm_as_s hs with x | x
        · exact Or.inl x
        · rcases ((ht.2 q hq).2.2.2.2.2.2.2.2.2.2 i x).2.2 with y | y
          · exact Or.inr y
          · rw [hb] at y
            cases y
      | some cb =>
        have hcb := h9 cb (Or.inr hb)
        have hcin : vp_in (pr_oX (w * 8) (some cb)) 272 := pk_in (w * 8 + cb) 272 (by omega)
        have hccl : (pr_oX (w * 8) (some cb)).toNatClampNeg = w * 8 + cb := nI_clamp (by omega)
        have fin : ∀ x : Int32, x = pr_b (pt_mx t C cb) → wX_markMaximal_33 post (nI w) f_maxNodes f_maxRules f_ruleCount f_counterexample f_optimized f_nodeCount f_outputCount f_applications (i + 1) (nI (w * 8 + i) + (-1)) a_preRelation a_preVariable a_preConstant a_roomNeeded a_useCount a_treeSize a_treeKind a_treeValue a_treeA a_treeB a_treeResult a_constantValued (upd mx (w * 8 + cb) x) a_counterpart a_boundNode a_pending a_pendingCount a_nodeKind a_nodeValue a_nodeA a_nodeB a_nodeResult a_nodeUses a_outputNode a_seen a_order a_walkStack := by
          intro x hx
          refine ih _ (by omega) (mx_up hm hx fun q hq hs => ?_) (fun q hq => ?_)
          · rcases pm_as_s hs with y | y
            · exact Or.inr (Or.inl y)
            · rcases ((ht.2 q hq).2.2.2.2.2.2.2.2.2.2 i y).2.2 with z | z
              · exact Or.inr (Or.inr z)
              · rw [hb] at z
                cases z
                exact Or.inl rfl
          · rw [pk_un (by omega)]
            exact hq2 q hq
        refine br_f (pr_ne1 (by omega)) ⟨hin, hin, ?_⟩
        rw [hccl, hcv i hi', hcv cb (by omega)]
        have hv := mx_v (C := C) hcb.2
        refine br_c (fun h0 => ⟨hin, hcin, ?_⟩) (fun h0 => ⟨hcin, ?_⟩)
        · rw [(pr_b0 _).mp h0, Bool.not_false, Bool.and_true] at hv
          refine br_c (fun h1 => ⟨hcin, ?_⟩) (fun h1 => ⟨hcin, ?_⟩)
          · skip
            exact nm_e (nm_e (fin _ (by rw [hv]; exact h1.symm)))
          · skip
            refine nm_e (nm_e (fin _ ?_))
            rw [hv]
            cases hx : pt_cv t C cb with
            | true => rfl
            | false => rw [hx] at h1; exact absurd rfl h1
        · skip
          refine nm_e (nm_e (fin _ ?_))
          cases hx : pt_cv t C i with
          | true => rw [hv, hx, Bool.not_true, Bool.and_false]; rfl
          | false => rw [hx] at h0; exact absurd rfl h0
    rw [nx_m1]
    unfold wX_markMaximal_33
    refine x_firstOf ?_
    refine pk_lt (w * 8 + i) (w * 8) (fun h => absurd h (by omega)) (fun _ => ⟨hin, ?_⟩)
    rw [hcl, e3]
    cases ha : pt_a t i with
    | none =>
      refine br_t rfl (h95 mx (fun q hq hs => hm q hq ?_) hq2)
      rcases hs with x | x
      · exact x
      · rw [ha] at x
        cases x
    | some ca =>
      have hca := h9 ca (Or.inl ha)
      have hcin : vp_in (pr_oX (w * 8) (some ca)) 272 := pk_in (w * 8 + ca) 272 (by omega)
      have hccl : (pr_oX (w * 8) (some ca)).toNatClampNeg = w * 8 + ca := nI_clamp (by omega)
      have fin : ∀ x : Int32, vp_nar .boolean x = pr_b (pt_mx t C ca) → wX_markMaximal_94 post (wX_markMaximal_33 post (nI w) f_maxNodes f_maxRules f_ruleCount f_counterexample f_optimized f_nodeCount f_outputCount f_applications (i + 1)) (nI w) (nI (w * 8 + i)) x (pr_oX (w * 8) (some ca)) f_maxNodes f_maxRules f_ruleCount f_counterexample f_optimized f_nodeCount f_outputCount f_applications a_preRelation a_preVariable a_preConstant a_roomNeeded a_useCount a_treeSize a_treeKind a_treeValue a_treeA a_treeB a_treeResult a_constantValued mx a_counterpart a_boundNode a_pending a_pendingCount a_nodeKind a_nodeValue a_nodeA a_nodeB a_nodeResult a_nodeUses a_outputNode a_seen a_order a_walkStack := by
        intro x hx
        refine ⟨hcin, ?_⟩
        rw [hccl]
        refine nm_e (h95 _ (mx_up hm hx fun q _ hs => ?_) (fun q hq => ?_))
        · rcases hs with y | y
          · exact Or.inr y
          · rw [ha] at y
            cases y
            exact Or.inl rfl
        · rw [pk_un (by omega)]
          exact hq2 q hq
      refine br_f (pr_ne1 (by omega)) ⟨hin, hin, ?_⟩
      rw [hccl, hcv i hi', hcv ca (by omega)]
      have hv := mx_v (C := C) hca.2
      refine br_c (fun h0 => ⟨hin, hcin, ?_⟩) (fun h0 => ?_)
      · rw [(pr_b0 _).mp h0, Bool.not_false, Bool.and_true] at hv
        refine br_c (fun h1 => fin 0 ?_) (fun h1 => fin 1 ?_)
        · rw [pr_vb0, hv]
          exact h1.symm
        · rw [pr_vb1, hv]
          cases hx : pt_cv t C ca with
          | true => rfl
          | false => rw [hx] at h1; exact absurd rfl h1
      · refine fin 0 ?_
        rw [pr_vb0]
        cases hx : pt_cv t C i with
        | true => rw [hv, hx, Bool.not_true, Bool.and_false]; rfl
        | false => rw [hx] at h0; exact absurd rfl h0
theorem x_markMax (hr : r < 17) (ht : pt_ok t) (hf : pt_fin t) (hT : tr_at ((r * 2 + 1) * 8) (r * 2 + 1) t a_treeSize a_treeKind a_treeValue a_treeA a_treeB) (hcv : ∀ q, q < pt_n t → a_constantValued ((r * 2 + 1) * 8 + q) = pr_b (pt_cv t C q))
    (h : ∀ mx', (∀ q, q < pt_n t → mx' ((r * 2 + 1) * 8 + q) = pr_b (pt_mx t C q)) → (∀ q, q < (r * 2 + 1) * 8 ∨ (r * 2 + 1) * 8 + pt_n t ≤ q → mx' q = a_maximal q) → post (f_maxNodes, f_maxRules, f_ruleCount, f_counterexample, f_optimized, f_nodeCount, f_outputCount, f_applications, a_preRelation, a_preVariable, a_preConstant, a_roomNeeded, a_useCount, a_treeSize, a_treeKind, a_treeValue, a_treeA, a_treeB, a_treeResult, a_constantValued, mx', a_counterpart, a_boundNode, a_pending, a_pendingCount, a_nodeKind, a_nodeValue, a_nodeA, a_nodeB, a_nodeResult, a_nodeUses, a_outputNode, a_seen, a_order, a_walkStack)) :
    wpX_markMaximal post (f_maxNodes, f_maxRules, f_ruleCount, f_counterexample, f_optimized, f_nodeCount, f_outputCount, f_applications, a_preRelation, a_preVariable, a_preConstant, a_roomNeeded, a_useCount, a_treeSize, a_treeKind, a_treeValue, a_treeA, a_treeB, a_treeResult, a_constantValued, a_maximal, a_counterpart, a_boundNode, a_pending, a_pendingCount, a_nodeKind, a_nodeValue, a_nodeA, a_nodeB, a_nodeResult, a_nodeUses, a_outputNode, a_seen, a_order, a_walkStack) (nI r) := by
  have h8 := ht.1
  have h0 := hf.1
  have e1 : nI ((r * 2 + 1) * 8 + pt_n t) - 1 = nI ((r * 2 + 1) * 8 + (pt_n t - 1)) := by
    rw [pr_s1 (by omega)]
    exact congrArg nI (by omega)
  have e2 : nI ((r * 2 + 1) * 8 + (pt_n t - 1)) = nI ((r * 2 + 1) * 8 + pt_n t) + (-1) := by
    rw [pr_m1 (by omega)]
    exact congrArg nI (by omega)
  unfold wpX_markMaximal
  refine x_treeOf r 1 ?_
  refine x_endOf (by omega) hT.1 ?_
  rw [e1]
  refine ⟨pk_in ((r * 2 + 1) * 8 + (pt_n t - 1)) 272 (by omega), pk_in ((r * 2 + 1) * 8 + (pt_n t - 1)) 272 (by omega), ?_⟩
  rw [nI_clamp (by omega), hcv _ (by omega), pr_nb]
  refine nm_e (nm_r e2 ⟨pt_n t + 1, ?_⟩)
  refine x_markMax33 (by omega) (by omega) ht hf hT hcv h (pt_n t) _ (Nat.le_refl _) ?_ (fun q hq => pk_un (by omega))
  intro q hq hs
  have e : q + 1 = pt_n t := by
    rcases hs with x | ⟨p, x1, x2, _⟩
    · exact x
    · omega
  rw [show pt_n t - 1 = q by omega, pk_us]
  unfold pt_mx
  have hp := hf.2.1
  rw [show pt_n t - 1 = q by omega] at hp
  rw [hp]
  show _ = pr_b (pt_cv t C q && true)
  rw [Bool.and_true]
end XE
section XF
variable {f_maxNodes f_maxRules f_ruleCount f_counterexample f_optimized f_nodeCount f_outputCount f_applications : Int32} {a_preRelation a_preVariable a_preConstant a_roomNeeded a_useCount a_treeSize a_treeKind a_treeValue a_treeA a_treeB a_treeResult a_constantValued a_maximal a_counterpart a_boundNode a_pending a_pendingCount a_nodeKind a_nodeValue a_nodeA a_nodeB a_nodeResult a_nodeUses a_outputNode a_seen a_order a_walkStack : Nat → Int32}
variable {post : Int32 → Prop} {r w : Nat} {t : pr_PT} {C : Nat → Bool}
theorem x_patW21 (hw : w < 34) (ht : pt_ok t) (hT : tr_at (w * 8) w t a_treeSize a_treeKind a_treeValue a_treeA a_treeB) (h : post (nI (pt_pw t))) :
    ∀ d i, i + d = pt_n t → wX_patternWeight_21 post (nI (w * 8 + pt_n t)) f_maxNodes f_maxRules f_ruleCount f_counterexample f_optimized f_nodeCount f_outputCount f_applications a_preRelation a_preVariable a_preConstant a_roomNeeded a_useCount a_treeSize a_treeKind a_treeValue a_treeA a_treeB a_treeResult a_constantValued a_maximal a_counterpart a_boundNode a_pending a_pendingCount a_nodeKind a_nodeValue a_nodeA a_nodeB a_nodeResult a_nodeUses a_outputNode a_seen a_order a_walkStack (d + 1) (nI (pr_rs (fun i => pr_w (pt_k t i)) 0 i)) (nI (w * 8 + i)) := by
  intro d
  have h8 := ht.1
  induction d with
  | zero =>
    intro i hi
    refine pk_le (w * 8 + pt_n t) (w * 8 + i) (fun _ => ?_) (fun h => absurd h (by omega))
    rw [show i = pt_n t by omega]
    exact h
  | succ d ih =>
    intro i hi
    have hi' : i < pt_n t := by omega
    obtain ⟨e1, _⟩ := hT.2 i hi'
    have hs := pt_sm ht i hi'
    refine pk_le (w * 8 + pt_n t) (w * 8 + i) (fun h => absurd h (by omega)) (fun _ => ⟨pk_in (w * 8 + i) 272 (by omega), ?_⟩)
    rw [nI_clamp (by omega), e1]
    refine x_weight (by omega) (nm_r (nI_add _ _) (nm_r (nI_1 _) ?_))
    have := ih (i + 1) (by omega)
    rw [show pr_rs (fun i => pr_w (pt_k t i)) 0 (i + 1) = pr_rs (fun i => pr_w (pt_k t i)) 0 i + pr_w (pt_k t (0 + i)) from rfl, Nat.zero_add] at this
    exact this
theorem x_patW (hr : r < 17) (ht : pt_ok t) (hT : tr_at ((r * 2 + 0) * 8) (r * 2 + 0) t a_treeSize a_treeKind a_treeValue a_treeA a_treeB) (h : post (nI (pt_pw t))) : wpX_patternWeight post (f_maxNodes, f_maxRules, f_ruleCount, f_counterexample, f_optimized, f_nodeCount, f_outputCount, f_applications, a_preRelation, a_preVariable, a_preConstant, a_roomNeeded, a_useCount, a_treeSize, a_treeKind, a_treeValue, a_treeA, a_treeB, a_treeResult, a_constantValued, a_maximal, a_counterpart, a_boundNode, a_pending, a_pendingCount, a_nodeKind, a_nodeValue, a_nodeA, a_nodeB, a_nodeResult, a_nodeUses, a_outputNode, a_seen, a_order, a_walkStack) (nI r) := by
  unfold wpX_patternWeight
  refine x_treeOf r 0 ?_
  refine x_endOf (by omega) hT.1 ?_
  refine x_firstOf ⟨pt_n t + 1, ?_⟩
  exact x_patW21 (by omega) ht hT h (pt_n t) 0 (by omega)
theorem x_repW21 (hw : w < 34) (ht : pt_ok t) (hT : tr_at (w * 8) w t a_treeSize a_treeKind a_treeValue a_treeA a_treeB) (hcv : ∀ q, q < pt_n t → a_constantValued (w * 8 + q) = pr_b (pt_cv t C q)) (h : post (nI (pt_rw t C))) :
    ∀ d i, i + d = pt_n t → wX_replacementWeight_21 post (nI (w * 8 + pt_n t)) f_maxNodes f_maxRules f_ruleCount f_counterexample f_optimized f_nodeCount f_outputCount f_applications a_preRelation a_preVariable a_preConstant a_roomNeeded a_useCount a_treeSize a_treeKind a_treeValue a_treeA a_treeB a_treeResult a_constantValued a_maximal a_counterpart a_boundNode a_pending a_pendingCount a_nodeKind a_nodeValue a_nodeA a_nodeB a_nodeResult a_nodeUses a_outputNode a_seen a_order a_walkStack (d + 1) (nI (pr_rs (fun i => if pt_cv t C i then 0 else pr_w (pt_k t i)) 0 i)) (nI (w * 8 + i)) := by
  intro d
  have h8 := ht.1
  induction d with
  | zero =>
    intro i hi
    refine pk_le (w * 8 + pt_n t) (w * 8 + i) (fun _ => ?_) (fun h => absurd h (by omega))
    rw [show i = pt_n t by omega]
    exact h
  | succ d ih =>
    intro i hi
    have hi' : i < pt_n t := by omega
    obtain ⟨e1, _⟩ := hT.2 i hi'
    have hs := pt_sm ht i hi'
    have hh := ih (i + 1) (by omega)
    rw [show pr_rs (fun i => if pt_cv t C i then 0 else pr_w (pt_k t i)) 0 (i + 1) = pr_rs (fun i => if pt_cv t C i then 0 else pr_w (pt_k t i)) 0 i + (if pt_cv t C (0 + i) then 0 else pr_w (pt_k t (0 + i))) from rfl, Nat.zero_add] at hh
    refine pk_le (w * 8 + pt_n t) (w * 8 + i) (fun h => absurd h (by omega)) (fun _ => ⟨pk_in (w * 8 + i) 272 (by omega), ?_⟩)
    rw [nI_clamp (by omega), hcv i hi']
    refine br_c (fun h0 => ⟨pk_in (w * 8 + i) 272 (by omega), ?_⟩) (fun h0 => nm_r (nI_1 _) ?_)
    · rw [e1]
      rw [(pr_b0 _).mp h0, if_neg (by decide)] at hh
      exact x_weight (by omega) (nm_r (nI_add _ _) (nm_r (nI_1 _) hh))
    · have hx : pt_cv t C i = true := by
        cases hx : pt_cv t C i with
        | true => rfl
        | false => rw [hx] at h0; exact absurd rfl h0
      rw [hx, if_pos rfl, Nat.add_zero] at hh
      exact hh
theorem x_repW (hr : r < 17) (ht : pt_ok t) (hT : tr_at ((r * 2 + 1) * 8) (r * 2 + 1) t a_treeSize a_treeKind a_treeValue a_treeA a_treeB) (hcv : ∀ q, q < pt_n t → a_constantValued ((r * 2 + 1) * 8 + q) = pr_b (pt_cv t C q)) (h : post (nI (pt_rw t C))) : wpX_replacementWeight post (f_maxNodes, f_maxRules, f_ruleCount, f_counterexample, f_optimized, f_nodeCount, f_outputCount, f_applications, a_preRelation, a_preVariable, a_preConstant, a_roomNeeded, a_useCount, a_treeSize, a_treeKind, a_treeValue, a_treeA, a_treeB, a_treeResult, a_constantValued, a_maximal, a_counterpart, a_boundNode, a_pending, a_pendingCount, a_nodeKind, a_nodeValue, a_nodeA, a_nodeB, a_nodeResult, a_nodeUses, a_outputNode, a_seen, a_order, a_walkStack) (nI r) := by
  unfold wpX_replacementWeight
  refine x_treeOf r 1 ?_
  refine x_endOf (by omega) hT.1 ?_
  refine x_firstOf ⟨pt_n t + 1, ?_⟩
  exact x_repW21 (by omega) ht hT hcv h (pt_n t) 0 (by omega)
theorem x_room21 (hw : w < 34) (ht : pt_ok t) (hT : tr_at (w * 8) w t a_treeSize a_treeKind a_treeValue a_treeA a_treeB) (hcv : ∀ q, q < pt_n t → a_constantValued (w * 8 + q) = pr_b (pt_cv t C q)) (hmx : ∀ q, q < pt_n t → a_maximal (w * 8 + q) = pr_b (pt_mx t C q)) (h : post (nI (pt_rm t C))) :
    ∀ d i, i + d = pt_n t → wX_countRoomNeeded_21 post (nI (w * 8 + pt_n t)) f_maxNodes f_maxRules f_ruleCount f_counterexample f_optimized f_nodeCount f_outputCount f_applications a_preRelation a_preVariable a_preConstant a_roomNeeded a_useCount a_treeSize a_treeKind a_treeValue a_treeA a_treeB a_treeResult a_constantValued a_maximal a_counterpart a_boundNode a_pending a_pendingCount a_nodeKind a_nodeValue a_nodeA a_nodeB a_nodeResult a_nodeUses a_outputNode a_seen a_order a_walkStack (d + 1) (nI (pr_rs (pt_rm1 t C) 0 i)) (nI (w * 8 + i)) := by
  intro d
  have h8 := ht.1
  induction d with
  | zero =>
    intro i hi
    refine pk_le (w * 8 + pt_n t) (w * 8 + i) (fun _ => ?_) (fun h => absurd h (by omega))
    rw [show i = pt_n t by omega]
    exact h
  | succ d ih =>
    intro i hi
    have hi' : i < pt_n t := by omega
    obtain ⟨e1, _⟩ := hT.2 i hi'
    have hs := pt_sm ht i hi'
    have hh := ih (i + 1) (by omega)
    rw [show pr_rs (pt_rm1 t C) 0 (i + 1) = pr_rs (pt_rm1 t C) 0 i + pt_rm1 t C (0 + i) from rfl, Nat.zero_add] at hh
    unfold pt_rm1 at hh
    have hin : vp_in (nI (w * 8 + i)) 272 := pk_in (w * 8 + i) 272 (by omega)
    refine pk_le (w * 8 + pt_n t) (w * 8 + i) (fun h => absurd h (by omega)) (fun _ => ⟨hin, ?_⟩)
    rw [nI_clamp (by omega), hcv i hi']
    refine br_c (fun h0 => ?_) (fun h0 => ⟨hin, ?_⟩)
    · rw [if_pos (Or.inl ((pr_b0 _).mp h0))] at hh
      exact nm_r (nI_1 _) (nm_r (nI_1 _) hh)
    · rw [hmx i hi']
      have hc : ¬ pt_cv t C i = false := fun hx => by rw [hx] at h0; exact h0 rfl
      refine br_c (fun h1 => ?_) (fun h1 => ⟨hin, ?_⟩)
      · rw [if_neg (fun hx => by
          rcases hx with hx | hx
          · exact hc hx
          · have := (pr_b0 _).mp h1
            rw [hx.1] at this
            cases this), Nat.add_zero] at hh
        exact nm_r (nI_1 _) hh
      · rw [e1]
        have hm : pt_mx t C i = true := by
          cases hx : pt_mx t C i with
          | true => rfl
          | false => rw [hx] at h1; exact absurd rfl h1
        refine pk_eq (pt_k t i) 13 (fun h2 => ?_) (fun h2 => ?_)
        · rw [if_neg (fun hx => by
            rcases hx with hx | hx
            · exact hc hx
            · exact hx.2 h2), Nat.add_zero] at hh
          exact nm_r (nI_1 _) hh
        · rw [if_pos (Or.inr ⟨hm, h2⟩)] at hh
          exact nm_r (nI_1 _) (nm_r (nI_1 _) hh)
theorem x_room (hr : r < 17) (ht : pt_ok t) (hT : tr_at ((r * 2 + 1) * 8) (r * 2 + 1) t a_treeSize a_treeKind a_treeValue a_treeA a_treeB) (hcv : ∀ q, q < pt_n t → a_constantValued ((r * 2 + 1) * 8 + q) = pr_b (pt_cv t C q)) (hmx : ∀ q, q < pt_n t → a_maximal ((r * 2 + 1) * 8 + q) = pr_b (pt_mx t C q)) (h : post (nI (pt_rm t C))) : wpX_countRoomNeeded post (f_maxNodes, f_maxRules, f_ruleCount, f_counterexample, f_optimized, f_nodeCount, f_outputCount, f_applications, a_preRelation, a_preVariable, a_preConstant, a_roomNeeded, a_useCount, a_treeSize, a_treeKind, a_treeValue, a_treeA, a_treeB, a_treeResult, a_constantValued, a_maximal, a_counterpart, a_boundNode, a_pending, a_pendingCount, a_nodeKind, a_nodeValue, a_nodeA, a_nodeB, a_nodeResult, a_nodeUses, a_outputNode, a_seen, a_order, a_walkStack) (nI r) := by
  unfold wpX_countRoomNeeded
  refine x_treeOf r 1 ?_
  refine x_endOf (by omega) hT.1 ?_
  refine x_firstOf ⟨pt_n t + 1, ?_⟩
  exact x_room21 (by omega) ht hT hcv hmx h (pt_n t) 0 (by omega)
end XF
