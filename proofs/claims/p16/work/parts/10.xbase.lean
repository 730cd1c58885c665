/-! X: small methods, trees read -/
def tr_at (o w : Nat) (t : pr_PT) (sz kd vl ta tb : Nat → Int32) : Prop :=
  sz w = nI (pt_n t) ∧ ∀ i, i < pt_n t → kd (w * 8 + i) = nI (pt_k t i) ∧ vl (w * 8 + i) = nI (pt_v t i) ∧ ta (w * 8 + i) = pr_oX o (pt_a t i) ∧ tb (w * 8 + i) = pr_oX o (pt_b t i)
theorem nx_8 (w n : Nat) : nI w * 8 + nI n = nI (w * 8 + n) := by
  rw [show (8 : Int32) = nI 8 from rfl, pk_mul, nI_add]
theorem nx_2 (r s : Nat) : nI r * 2 + nI s = nI (r * 2 + s) := by
  rw [show (2 : Int32) = nI 2 from rfl, pk_mul, nI_add]
section XB
variable {f_maxNodes f_maxRules f_ruleCount f_counterexample f_optimized f_nodeCount f_outputCount f_applications : Int32} {a_preRelation a_preVariable a_preConstant a_roomNeeded a_useCount a_treeSize a_treeKind a_treeValue a_treeA a_treeB a_treeResult a_constantValued a_maximal a_counterpart a_boundNode a_pending a_pendingCount a_nodeKind a_nodeValue a_nodeA a_nodeB a_nodeResult a_nodeUses a_outputNode a_seen a_order a_walkStack : Nat → Int32}
variable {post : Int32 → Prop} {w n κ j : Nat} {t : pr_PT}
theorem x_treeOf (r s : Nat) (h : post (nI (r * 2 + s))) : wpX_treeOf post () (nI r) (nI s) := by
  show post ((nI r * 2) + nI s)
  rw [nx_2]
  exact h
theorem x_firstOf (h : post (nI (w * 8))) : wpX_firstOf post () (nI w) := by
  show post (nI w * 8)
  rw [show (8 : Int32) = nI 8 from rfl, pk_mul]
  exact h
theorem x_endOf (hw : w < 34) (e : a_treeSize w = nI n) (h : post (nI (w * 8 + n))) : wpX_endOf post (f_maxNodes, f_maxRules, f_ruleCount, f_counterexample, f_optimized, f_nodeCount, f_outputCount, f_applications, a_preRelation, a_preVariable, a_preConstant, a_roomNeeded, a_useCount, a_treeSize, a_treeKind, a_treeValue, a_treeA, a_treeB, a_treeResult, a_constantValued, a_maximal, a_counterpart, a_boundNode, a_pending, a_pendingCount, a_nodeKind, a_nodeValue, a_nodeA, a_nodeB, a_nodeResult, a_nodeUses, a_outputNode, a_seen, a_order, a_walkStack) (nI w) := by
  show vp_in (nI w) 34 ∧ post ((nI w * 8) + a_treeSize (nI w).toNatClampNeg)
  rw [nI_clamp (by omega), e, nx_8]
  exact ⟨vp_in_nI hw (by omega), h⟩
theorem x_arity (hκ : κ < 2 ^ 31) (h : post (nI (pr_ar κ))) : wpX_arity post () (nI κ) := by
  have hz : ¬ (1 ≤ κ ∧ κ ≤ 8) → wX_arity_13 post (nI κ) := by
    intro hn
    refine pk_eq κ 9 (fun e => ?_) (fun e => pk_eq κ 10 (fun e' => ?_) (fun e' => ?_))
    · rw [pr_ar_1 (Or.inl e)] at h
      exact h
    · rw [pr_ar_1 (Or.inr e')] at h
      exact h
    · rw [pr_ar_0 (by omega)] at h
      exact h
  refine pk_lt κ 1 (fun h1 => hz (by omega)) (fun h1 => pk_lt 8 κ (fun h8 => hz (by omega)) (fun h8 => ?_))
  rw [pr_ar_2 h1 h8] at h
  exact h
theorem x_arity_o {p : Int32} (hp : p < 0 ∨ nI 15 ≤ p) (h : post 0) : wpX_arity post () p := by
  have h9 : ¬ p = 9 := fun e => by
    subst e
    rcases hp with h | h
    · exact absurd h (by decide)
    · exact absurd h (by decide)
  have h10 : ¬ p = 10 := fun e => by
    subst e
    rcases hp with h | h
    · exact absurd h (by decide)
    · exact absurd h (by decide)
  have hz : wX_arity_13 post p := br_f h9 (br_f h10 h)
  rcases hp with hp | hp
  · exact br_t (Int32.lt_trans hp (by decide)) hz
  · have h8 : (8 : Int32) < p := Int32.lt_of_lt_of_le (b := nI 15) (by decide) hp
    by_cases h1 : p < 1
    · exact br_t h1 hz
    · exact br_f h1 (br_t h8 hz)
theorem x_isWord_t (hj : j < 256) (h : post 1) : wpX_isWord post () (nI j) :=
  br_f (nI_pos (by omega)) (pk_lt 255 j (fun h => absurd h (by omega)) (fun _ => h))
theorem x_isWord_f {p : Int32} (hp : p < 0 ∨ nI 256 ≤ p) (h : post 0) : wpX_isWord post () p := by
  by_cases h0 : p < 0
  · exact br_t h0 h
  · refine br_f h0 (br_t ?_ h)
    rcases hp with hp | hp
    · exact absurd hp h0
    · exact Int32.lt_of_lt_of_le (b := nI 256) (by decide) hp
theorem x_isVariable_t (hj : j < 2) (h : post 1) : wpX_isVariable post () (nI j) :=
  br_f (nI_pos (by omega)) (pk_le 2 j (fun h => absurd h (by omega)) (fun _ => h))
theorem x_isVariable_f {p : Int32} (hp : p < 0 ∨ nI 2 ≤ p) (h : post 0) : wpX_isVariable post () p := by
  by_cases h0 : p < 0
  · exact br_t h0 h
  · refine br_f h0 (br_t ?_ h)
    rcases hp with hp | hp
    · exact absurd hp h0
    · exact hp
theorem x_weight (hκ : κ < 2 ^ 31) (h : post (nI (pr_w κ))) : wpX_weight post () (nI κ) := by
  refine pk_eq κ 3 (fun e => ?_) (fun e => x_arity hκ ?_)
  · rw [e] at h
    exact h
  · unfold pr_w at h
    rw [if_neg e] at h
    by_cases hk : 1 ≤ κ ∧ κ ≤ 10
    · rw [if_pos hk] at h
      refine br_f ?_ h
      rw [← nI_0, nI_leI (by rcases pr_ar_c κ with x | x | x <;> omega) (by omega)]
      rcases pr_ar_c κ with x | x | x <;> omega
    · rw [if_neg hk] at h
      rw [pr_ar_0 (by omega)]
      exact br_t (by decide) h
theorem x_compute {a b : Int32} (h1 : 1 ≤ κ) (h10 : κ ≤ 10) (h : post (pr_op κ a b)) : wpX_compute post () (nI κ) a b := by
  unfold pr_op at h
  refine pk_lt κ 1 (fun h => absurd h (by omega)) (fun _ => pk_lt 10 κ (fun h => absurd h (by omega)) (fun _ => ?_))
  refine pk_eq κ 1 (fun e => ?_) (fun n1 => pk_eq κ 2 (fun e => ?_) (fun n2 => pk_eq κ 3 (fun e => ?_) (fun n3 => pk_eq κ 4 (fun e => ?_) (fun n4 => pk_eq κ 5 (fun e => ?_) (fun n5 => pk_eq κ 6 (fun e => ?_) (fun n6 => pk_eq κ 7 (fun e => ?_) (fun n7 => pk_eq κ 8 (fun e => ?_) (fun n8 => pk_eq κ 9 (fun e => ?_) (fun n9 => pk_eq κ 10 (fun e => ?_) (fun n10 => trivial))))))))))
  · rw [if_pos e] at h; exact h
  · rw [if_neg n1, if_pos e] at h; exact h
  · rw [if_neg n1, if_neg n2, if_pos e] at h; exact h
  · rw [if_neg n1, if_neg n2, if_neg n3, if_pos e] at h; exact h
  · rw [if_neg n1, if_neg n2, if_neg n3, if_neg n4, if_pos e] at h; exact h
  · rw [if_neg n1, if_neg n2, if_neg n3, if_neg n4, if_neg n5, if_pos e] at h; exact h
  · rw [if_neg n1, if_neg n2, if_neg n3, if_neg n4, if_neg n5, if_neg n6, if_pos e] at h
    by_cases hb : b < 8
    · rw [if_pos hb] at h
      exact br_f (Int32.not_le.mpr hb) h
    · rw [if_neg hb] at h
      exact br_t (Int32.not_lt.mp hb) h
  · rw [if_neg n1, if_neg n2, if_neg n3, if_neg n4, if_neg n5, if_neg n6, if_neg n7, if_pos e] at h
    by_cases hb : b < 8
    · rw [if_pos hb] at h
      exact br_f (Int32.not_le.mpr hb) h
    · rw [if_neg hb] at h
      exact br_t (Int32.not_lt.mp hb) h
  · rw [if_neg n1, if_neg n2, if_neg n3, if_neg n4, if_neg n5, if_neg n6, if_neg n7, if_neg n8, if_pos e] at h; exact h
  · rw [if_neg n1, if_neg n2, if_neg n3, if_neg n4, if_neg n5, if_neg n6, if_neg n7, if_neg n8, if_neg n9] at h; exact h
theorem x_occurs13 {o : Nat} (hw : w < 34) (ht : pt_n t ≤ 8) (hT : tr_at o w t a_treeSize a_treeKind a_treeValue a_treeA a_treeB) (hk : ∀ i, i < pt_n t → pt_k t i < 100 ∧ pt_v t i < 1000) (hκ : κ < 100) (hj : j < 1000) (h : post (pr_b (pt_has t κ j))) :
    ∀ d i, i + d = pt_n t → pt_hs t κ j i = false → wX_occurs_13 post (nI κ) (nI j) (nI (w * 8 + pt_n t)) f_maxNodes f_maxRules f_ruleCount f_counterexample f_optimized f_nodeCount f_outputCount f_applications a_preRelation a_preVariable a_preConstant a_roomNeeded a_useCount a_treeSize a_treeKind a_treeValue a_treeA a_treeB a_treeResult a_constantValued a_maximal a_counterpart a_boundNode a_pending a_pendingCount a_nodeKind a_nodeValue a_nodeA a_nodeB a_nodeResult a_nodeUses a_outputNode a_seen a_order a_walkStack (d + 1) (nI (w * 8 + i)) := by
  intro d
  induction d with
  | zero =>
    intro i hi hs
    refine pk_le (w * 8 + pt_n t) (w * 8 + i) (fun _ => ?_) (fun h => absurd h (by omega))
    have e : i = pt_n t := by omega
    unfold pt_has at h
    rw [← e, hs] at h
    exact h
  | succ d ih =>
    intro i hi hs
    have hi' : i < pt_n t := by omega
    obtain ⟨e1, e2, _, _⟩ := hT.2 i hi'
    have hk' := hk i hi'
    have hcl : (nI (w * 8 + i)).toNatClampNeg = w * 8 + i := nI_clamp (by omega)
    have hnx : ¬ (pt_k t i = κ ∧ pt_v t i = j) → wX_occurs_13 post (nI κ) (nI j) (nI (w * 8 + pt_n t)) f_maxNodes f_maxRules f_ruleCount f_counterexample f_optimized f_nodeCount f_outputCount f_applications a_preRelation a_preVariable a_preConstant a_roomNeeded a_useCount a_treeSize a_treeKind a_treeValue a_treeA a_treeB a_treeResult a_constantValued a_maximal a_counterpart a_boundNode a_pending a_pendingCount a_nodeKind a_nodeValue a_nodeA a_nodeB a_nodeResult a_nodeUses a_outputNode a_seen a_order a_walkStack (d + 1) (nI (w * 8 + i) + 1) := by
      intro hx
      rw [nI_1]
      refine ih (i + 1) (by omega) ?_
      show (pt_hs t κ j i || (decide (pt_k t i = κ) && decide (pt_v t i = j))) = false
      rw [hs, Bool.false_or, Bool.and_eq_false_iff, decide_eq_false_iff_not, decide_eq_false_iff_not]
      by_cases h1 : pt_k t i = κ
      · exact Or.inr fun h2 => hx ⟨h1, h2⟩
      · exact Or.inl h1
    refine pk_le (w * 8 + pt_n t) (w * 8 + i) (fun h => absurd h (by omega)) (fun _ => ⟨pk_in (w * 8 + i) 272 (by omega), ?_⟩)
    rw [hcl, e1]
    refine pk_eq (pt_k t i) κ (fun h1 => ⟨pk_in (w * 8 + i) 272 (by omega), ?_⟩) (fun h1 => nm_e (hnx fun hx => h1 hx.1))
    rw [e2]
    refine pk_eq (pt_v t i) j (fun h2 => ?_) (fun h2 => nm_e (hnx fun hx => h2 hx.2))
    rw [pt_has_t.mpr ⟨i, hi', h1, h2⟩] at h
    exact h
theorem pt_sm (ht : pt_ok t) : ∀ i, i < pt_n t → pt_k t i < 100 ∧ pt_v t i < 1000 := by
  intro i hi
  obtain ⟨h1, h2, h3, h4, _⟩ := ht.2 i hi
  refine ⟨by omega, ?_⟩
  by_cases h : pt_k t i ≤ 10
  · have := h4 h
    omega
  · by_cases h' : pt_k t i = 11
    · have := h2 h'
      omega
    · have := h3 (by omega)
      omega
theorem x_occurs {o : Nat} (hw : w < 34) (ht : pt_ok t) (hT : tr_at o w t a_treeSize a_treeKind a_treeValue a_treeA a_treeB) (hκ : κ < 100) (hj : j < 1000) (h : post (pr_b (pt_has t κ j))) : wpX_occurs post (f_maxNodes, f_maxRules, f_ruleCount, f_counterexample, f_optimized, f_nodeCount, f_outputCount, f_applications, a_preRelation, a_preVariable, a_preConstant, a_roomNeeded, a_useCount, a_treeSize, a_treeKind, a_treeValue, a_treeA, a_treeB, a_treeResult, a_constantValued, a_maximal, a_counterpart, a_boundNode, a_pending, a_pendingCount, a_nodeKind, a_nodeValue, a_nodeA, a_nodeB, a_nodeResult, a_nodeUses, a_outputNode, a_seen, a_order, a_walkStack) (nI w) (nI κ) (nI j) := by
  unfold wpX_occurs
  refine x_endOf hw hT.1 ?_
  refine x_firstOf ⟨pt_n t + 1, ?_⟩
  exact x_occurs13 hw ht.1 hT (pt_sm ht) hκ hj h (pt_n t) 0 (by omega) rfl
end XB
