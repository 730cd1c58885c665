/-! X: matching -/
def bx_v (V : Nat → Int32) (bd : Nat → Option Nat) (j : Nat) : Int32 := match bd j with
  | none => 0
  | some d => V d
def by_v (K : Nat → Nat) (V : Nat → Int32) (bd : Nat → Option Nat) (j : Nat) : Int32 := match bd j with
  | none => 0
  | some d => if K d = 11 then V d else 0
theorem pm_bd {K : Nat → Nat} {V : Nat → Int32} {A B : Nat → Option Nat} {us : Nat → Nat} {P : pr_PT} {R i : Nat} {s : pm_S} (h : pm_inv K V A B us P R i s) {j d : Nat} (hj : s.2 j = some d) : pr_T 0 K d := by
  obtain ⟨q, h1, h2, h3, h4, h5⟩ := h.2.2.2 j d hj
  have := (h.2.1 q h1 h2).1
  rw [h5] at this
  exact this
section XV
variable {f_maxNodes f_maxRules f_ruleCount f_counterexample f_optimized f_nodeCount f_outputCount f_applications : Int32} {a_preRelation a_preVariable a_preConstant a_roomNeeded a_useCount a_treeSize a_treeKind a_treeValue a_treeA a_treeB a_treeResult a_constantValued a_maximal a_counterpart a_boundNode a_pending a_pendingCount a_nodeKind a_nodeValue a_nodeA a_nodeB a_nodeResult a_nodeUses a_outputNode a_seen a_order a_walkStack : Nat → Int32}
variable {K : Nat → Nat} {V : Nat → Int32} {A B : Nat → Option Nat} {us rk : Nat → Nat} {P : pr_PT} {Rn w : Nat}
theorem x_boundValue {post : Int32 → Prop} {bd : Nat → Option Nat} {j : Nat} (hj : j < 2) (hg : gr_at 0 K V A B a_nodeKind a_nodeValue a_nodeA a_nodeB) (hb : a_boundNode j = pr_oI (bd j)) (hT : ∀ d, bd j = some d → pr_T 0 K d) (h : post (bx_v V bd j)) : wpX_boundValue post (f_maxNodes, f_maxRules, f_ruleCount, f_counterexample, f_optimized, f_nodeCount, f_outputCount, f_applications, a_preRelation, a_preVariable, a_preConstant, a_roomNeeded, a_useCount, a_treeSize, a_treeKind, a_treeValue, a_treeA, a_treeB, a_treeResult, a_constantValued, a_maximal, a_counterpart, a_boundNode, a_pending, a_pendingCount, a_nodeKind, a_nodeValue, a_nodeA, a_nodeB, a_nodeResult, a_nodeUses, a_outputNode, a_seen, a_order, a_walkStack) (nI j) := by
  have hin : vp_in (nI j) 2 := pk_in j 2 hj
  unfold wpX_boundValue
  refine ⟨hin, ?_⟩
  rw [nI_clamp (by omega), hb]
  unfold bx_v at h
  cases e : bd j with
  | none =>
    rw [e] at h
    exact br_t rfl h
  | some d =>
    rw [e] at h
    have td := hT d e
    have td2 := td.2.1
    refine br_f (pr_ne1 (by omega)) ⟨hin, pk_in d 64 (by omega), ?_⟩
    rw [show (pr_oI (some d)).toNatClampNeg = d from nI_clamp (by omega), (hg d td).2.1]
    exact h
theorem x_leaf {post : Int32 → St2 → Prop} {i : Nat} {s : pm_S} (hw : w < 34) (hP : pt_ok P) (hi : i < pt_n P) (hk : 11 ≤ pt_k P i) (hG : pr_gw 0 K V A B rk) (hg : gr_at 0 K V A B a_nodeKind a_nodeValue a_nodeA a_nodeB) (hT : tr_at (w * 8) w P a_treeSize a_treeKind a_treeValue a_treeA a_treeB) (td : pr_T 0 K (s.1 i)) (hbd : ∀ j d, s.2 j = some d → pr_T 0 K d) (hbn : ∀ j, j < 2 → a_boundNode j = pr_oI (s.2 j))
    (hno : pm_st K V A B us P i s = none → ∀ bn', post 0 (f_maxNodes, f_maxRules, f_ruleCount, f_counterexample, f_optimized, f_nodeCount, f_outputCount, f_applications, a_preRelation, a_preVariable, a_preConstant, a_roomNeeded, a_useCount, a_treeSize, a_treeKind, a_treeValue, a_treeA, a_treeB, a_treeResult, a_constantValued, a_maximal, a_counterpart, bn', a_pending, a_pendingCount, a_nodeKind, a_nodeValue, a_nodeA, a_nodeB, a_nodeResult, a_nodeUses, a_outputNode, a_seen, a_order, a_walkStack))
    (hy : ∀ s' bn', pm_st K V A B us P i s = some s' → s'.1 = s.1 → (∀ j, j < 2 → bn' j = pr_oI (s'.2 j)) → post 1 (f_maxNodes, f_maxRules, f_ruleCount, f_counterexample, f_optimized, f_nodeCount, f_outputCount, f_applications, a_preRelation, a_preVariable, a_preConstant, a_roomNeeded, a_useCount, a_treeSize, a_treeKind, a_treeValue, a_treeA, a_treeB, a_treeResult, a_constantValued, a_maximal, a_counterpart, bn', a_pending, a_pendingCount, a_nodeKind, a_nodeValue, a_nodeA, a_nodeB, a_nodeResult, a_nodeUses, a_outputNode, a_seen, a_order, a_walkStack)) : wpX_leafFits post (f_maxNodes, f_maxRules, f_ruleCount, f_counterexample, f_optimized, f_nodeCount, f_outputCount, f_applications, a_preRelation, a_preVariable, a_preConstant, a_roomNeeded, a_useCount, a_treeSize, a_treeKind, a_treeValue, a_treeA, a_treeB, a_treeResult, a_constantValued, a_maximal, a_counterpart, a_boundNode, a_pending, a_pendingCount, a_nodeKind, a_nodeValue, a_nodeA, a_nodeB, a_nodeResult, a_nodeUses, a_outputNode, a_seen, a_order, a_walkStack) (nI (w * 8 + i)) (nI (s.1 i)) := by
  have h8 := hP.1
  have td2 := td.2.1
  obtain ⟨e1, e2, _, _⟩ := hT.2 i hi
  have hn := hP.2 i hi
  have hs := pt_sm hP i hi
  obtain ⟨k1, k2, k3, k4⟩ := hg _ td
  have hK12 := (hG _ td).1
  have hin : vp_in (nI (w * 8 + i)) 272 := pk_in (w * 8 + i) 272 (by omega)
  have hcl : (nI (w * 8 + i)).toNatClampNeg = w * 8 + i := nI_clamp (by omega)
  have hinn : vp_in (nI (s.1 i)) 64 := pk_in (s.1 i) 64 (by omega)
  have hcn : (nI (s.1 i)).toNatClampNeg = s.1 i := nI_clamp (by omega)
  unfold pm_st at hno hy
  unfold wpX_leafFits
  refine ⟨hin, ?_⟩
  rw [hcl, hcn, k1, k2, e2]
  refine nm_r e1 (pk_eq (pt_k P i) 11 (fun e => ⟨hinn, ?_⟩) (fun n11 => ?_))
  · rw [if_pos e] at hno hy
    refine pk_eq (K (s.1 i)) 11 (fun hK => ⟨hinn, hin, br_c (fun hv => ?_) (fun hv => ?_)⟩) (fun hK => ?_)
    · exact hy s _ (if_pos ⟨hK, hv⟩) rfl hbn
    · exact hno (if_neg fun hh => hv hh.2) _
    · exact hno (if_neg fun hh => hK hh.1) _
  · rw [if_neg n11, if_pos (show 13 ≤ pt_k P i by have := hn.1; omega)] at hno hy
    have hv2 := hn.2.2.1 (by have := hn.1; omega)
    have h64 : ¬ (pt_k P i = 14 ∧ K (s.1 i) ≠ 11) → wX_leafFits_64 post (nI (w * 8 + i)) (nI (s.1 i)) f_maxNodes f_maxRules f_ruleCount f_counterexample f_optimized f_nodeCount f_outputCount f_applications a_preRelation a_preVariable a_preConstant a_roomNeeded a_useCount a_treeSize a_treeKind a_treeValue a_treeA a_treeB a_treeResult a_constantValued a_maximal a_counterpart a_boundNode a_pending a_pendingCount a_nodeKind a_nodeValue a_nodeA a_nodeB a_nodeResult a_nodeUses a_outputNode a_seen a_order a_walkStack := by
      intro h14
      rw [if_neg h14] at hno hy
      unfold pm_lf at hno hy
      have hinj : vp_in (nI (pt_v P i)) 2 := pk_in (pt_v P i) 2 hv2
      refine ⟨hin, ?_⟩
      rw [hcl]
      refine nm_r e2 ⟨hinj, ?_⟩
      rw [nI_clamp (by omega), hbn _ hv2]
      cases hb : s.2 (pt_v P i) with
      | none =>
        rw [hb] at hno hy
        refine br_t rfl ⟨hinj, nm_e ⟨hinj, ?_⟩⟩
        rw [nI_clamp (by omega), pk_us]
        refine br_t rfl (hy _ _ rfl rfl fun j hj => ?_)
        show upd a_boundNode (pt_v P i) (nI (s.1 i)) j = pr_oI (pr_st s.2 (pt_v P i) (some (s.1 i)) j)
        by_cases ej : j = pt_v P i
        · rw [ej, pk_us, pr_st_s]
          rfl
        · rw [pk_un ej, pr_st_n ej]
          exact hbn j hj
      | some x =>
        rw [hb] at hno hy
        have tx := (hbd _ x hb).2.1
        refine br_f (pr_ne1 (by omega)) ⟨hinj, ?_⟩
        rw [nI_clamp (by omega), hbn _ hv2, hb]
        refine pk_eq x (s.1 i) (fun ex => ?_) (fun ex => ?_)
        · exact hy s _ (if_pos ex) rfl hbn
        · exact hno (if_neg ex) _
    refine pk_eq (pt_k P i) 14 (fun e14 => ⟨hinn, ?_⟩) (fun n14 => h64 fun hh => n14 hh.1)
    refine pk_eq (K (s.1 i)) 11 (fun hK => h64 fun hh => hh.2 hK) (fun hK => ?_)
    rw [if_pos ⟨e14, hK⟩] at hno
    exact hno rfl _
theorem x_opf {post : Int32 → St2 → Prop} {i : Nat} {s : pm_S} {z : Int32} (hw : w < 34) (hP : pt_ok P) (hi : i < pt_n P) (hk : pt_k P i ≤ 10) (hG : pr_gw 0 K V A B rk) (hg : gr_at 0 K V A B a_nodeKind a_nodeValue a_nodeA a_nodeB) (hT : tr_at (w * 8) w P a_treeSize a_treeKind a_treeValue a_treeA a_treeB) (td : pr_T 0 K (s.1 i)) (hu : a_nodeUses (s.1 i) = nI (us (s.1 i))) (hub : us (s.1 i) < 2 ^ 31) (hz : z = 0 ↔ i + 1 ≠ pt_n P) (hcp : ∀ q, q < pt_n P → pm_as P (i + 1) q → a_counterpart (w * 8 + q) = nI (s.1 q))
    (hno : pm_st K V A B us P i s = none → ∀ cp', post 0 (f_maxNodes, f_maxRules, f_ruleCount, f_counterexample, f_optimized, f_nodeCount, f_outputCount, f_applications, a_preRelation, a_preVariable, a_preConstant, a_roomNeeded, a_useCount, a_treeSize, a_treeKind, a_treeValue, a_treeA, a_treeB, a_treeResult, a_constantValued, a_maximal, cp', a_boundNode, a_pending, a_pendingCount, a_nodeKind, a_nodeValue, a_nodeA, a_nodeB, a_nodeResult, a_nodeUses, a_outputNode, a_seen, a_order, a_walkStack))
    (hy : ∀ s' cp', pm_st K V A B us P i s = some s' → s'.2 = s.2 → (∀ q, q < pt_n P → pm_as P i q → cp' (w * 8 + q) = nI (s'.1 q)) → post 1 (f_maxNodes, f_maxRules, f_ruleCount, f_counterexample, f_optimized, f_nodeCount, f_outputCount, f_applications, a_preRelation, a_preVariable, a_preConstant, a_roomNeeded, a_useCount, a_treeSize, a_treeKind, a_treeValue, a_treeA, a_treeB, a_treeResult, a_constantValued, a_maximal, cp', a_boundNode, a_pending, a_pendingCount, a_nodeKind, a_nodeValue, a_nodeA, a_nodeB, a_nodeResult, a_nodeUses, a_outputNode, a_seen, a_order, a_walkStack)) : wpX_operationFits post (f_maxNodes, f_maxRules, f_ruleCount, f_counterexample, f_optimized, f_nodeCount, f_outputCount, f_applications, a_preRelation, a_preVariable, a_preConstant, a_roomNeeded, a_useCount, a_treeSize, a_treeKind, a_treeValue, a_treeA, a_treeB, a_treeResult, a_constantValued, a_maximal, a_counterpart, a_boundNode, a_pending, a_pendingCount, a_nodeKind, a_nodeValue, a_nodeA, a_nodeB, a_nodeResult, a_nodeUses, a_outputNode, a_seen, a_order, a_walkStack) (nI (w * 8 + i)) (nI (s.1 i)) z := by
  have h8 := hP.1
  have td2 := td.2.1
  obtain ⟨e1, e2, e3, e4⟩ := hT.2 i hi
  have hn := hP.2 i hi
  have h9 := hn.2.2.2.2.2.2.2.2.1
  have h10 := hn.2.2.2.2.2.2.2.2.2.1
  have hs := pt_sm hP i hi
  obtain ⟨k1, k2, k3, k4⟩ := hg _ td
  obtain ⟨g1, g2, g3, g4, g5, g6, g7, g8, g9, g10⟩ := hG _ td
  have hin : vp_in (nI (w * 8 + i)) 272 := pk_in (w * 8 + i) 272 (by omega)
  have hcl : (nI (w * 8 + i)).toNatClampNeg = w * 8 + i := nI_clamp (by omega)
  have hinn : vp_in (nI (s.1 i)) 64 := pk_in (s.1 i) 64 (by omega)
  have hcn : (nI (s.1 i)).toNatClampNeg = s.1 i := nI_clamp (by omega)
  obtain ⟨ca, hca⟩ := hn.2.2.2.2.2.2.1 hk
  have hca' := h9 ca (Or.inl hca)
  unfold pm_st at hno hy
  rw [if_neg (by omega), if_neg (by omega)] at hno hy
  have h31 : K (s.1 i) = pt_k P i → (i + 1 = pt_n P ∨ us (s.1 i) = 1) → wX_operationFits_31 post (nI (w * 8 + i)) (nI (s.1 i)) f_maxNodes f_maxRules f_ruleCount f_counterexample f_optimized f_nodeCount f_outputCount f_applications a_preRelation a_preVariable a_preConstant a_roomNeeded a_useCount a_treeSize a_treeKind a_treeValue a_treeA a_treeB a_treeResult a_constantValued a_maximal a_counterpart a_boundNode a_pending a_pendingCount a_nodeKind a_nodeValue a_nodeA a_nodeB a_nodeResult a_nodeUses a_outputNode a_seen a_order a_walkStack := by
    intro hK hr
    have hy' := fun cp' => hy (pm_ch A B P i (s.1 i) s.1, s.2) cp' (if_pos ⟨hK, hr⟩) rfl
    obtain ⟨da, hda⟩ := g8 (by rw [hK]; exact hk)
    refine ⟨hin, hinn, ?_⟩
    rw [hcl, hcn, e3, e4, hca]
    refine ⟨pk_in (w * 8 + ca) 272 (by omega), ?_⟩
    rw [show (pr_oX (w * 8) (some ca)).toNatClampNeg = w * 8 + ca from nI_clamp (by omega), k3, hda]
    refine nm_e ⟨hin, ?_⟩
    cases hb : pt_b P i with
    | none =>
      refine br_t rfl (hy' _ fun q hq hq' => ?_)
      show upd a_counterpart (w * 8 + ca) (nI da) (w * 8 + q) = nI (pm_ch A B P i (s.1 i) s.1 q)
      unfold pm_ch
      by_cases e : q = ca
      · subst e
        rw [pk_us, if_pos hca, hda]
        rfl
      · rw [pk_un (by omega), if_neg (fun h => e (by rw [hca] at h; exact (Option.some.inj h).symm)), hb, if_neg (fun h => (nomatch h))]
        rcases pm_as_s hq' with y | y
        · exact hcp q hq y
        · rcases ((hP.2 q hq).2.2.2.2.2.2.2.2.2.2 i y).2.2 with z | z
          · rw [hca] at z
            exact absurd (Option.some.inj z).symm e
          · rw [hb] at z
            cases z
    | some cb =>
      have hcb' := h9 cb (Or.inr hb)
      have hk8 : pt_k P i ≤ 8 := by
        apply Classical.byContradiction
        intro hx
        rw [hn.2.2.2.2.2.1 (by omega)] at hb
        cases hb
      obtain ⟨db, hdb⟩ := g9 (by rw [hK]; exact hk8)
      refine br_f (pr_ne1 (by omega)) ⟨hin, hinn, pk_in (w * 8 + cb) 272 (by omega), ?_⟩
      rw [show (pr_oX (w * 8) (some cb)).toNatClampNeg = w * 8 + cb from nI_clamp (by omega), k4, hdb]
      have hab : ca ≠ cb := fun e => h10 ca hca (by rw [e]; exact hb)
      refine nm_e (hy' _ fun q hq hq' => ?_)
      show upd (upd a_counterpart (w * 8 + ca) (nI da)) (w * 8 + cb) (nI db) (w * 8 + q) = nI (pm_ch A B P i (s.1 i) s.1 q)
      unfold pm_ch
      by_cases e : q = cb
      · subst e
        rw [pk_us, if_neg (fun h => hab (by rw [hca] at h; exact Option.some.inj h)), if_pos hb, hdb]
        rfl
      · rw [pk_un (by omega)]
        by_cases e' : q = ca
        · subst e'
          rw [pk_us, if_pos hca, hda]
          rfl
        · rw [pk_un (by omega), if_neg (fun h => e' (by rw [hca] at h; exact (Option.some.inj h).symm)), if_neg (fun h => e (by rw [hb] at h; exact (Option.some.inj h).symm))]
          rcases pm_as_s hq' with y | y
          · exact hcp q hq y
          · rcases ((hP.2 q hq).2.2.2.2.2.2.2.2.2.2 i y).2.2 with z | z
            · rw [hca] at z
              exact absurd (Option.some.inj z).symm e'
            · rw [hb] at z
              exact absurd (Option.some.inj z).symm e
  unfold wpX_operationFits
  refine ⟨hinn, hin, ?_⟩
  rw [hcl, hcn, k1, e1, hu]
  refine pk_eq (K (s.1 i)) (pt_k P i) (fun hK => br_c (fun hz0 => ⟨hinn, ?_⟩) (fun hz1 => ?_)) (fun hK => hno (if_neg fun hh => hK hh.1) _)
  · have hne := hz.mp hz0
    refine pk_eq (us (s.1 i)) 1 (fun h1 => h31 hK (Or.inr h1)) (fun h1 => hno (if_neg fun hh => ?_) _)
    rcases hh.2 with y | y
    · exact hne y
    · exact h1 y
  · refine h31 hK (Or.inl ?_)
    apply Classical.byContradiction
    intro hne
    exact hz1 (hz.mpr hne)
theorem x_matches41 {post : Int32 → St2 → Prop} {r rl rj rK : Nat} (hr : r < 17) (hw : w = r * 2 + 0) (hP : pt_ok P) (hf : pt_fin P) (hG : pr_gw 0 K V A B rk) (hg : gr_at 0 K V A B a_nodeKind a_nodeValue a_nodeA a_nodeB) (hT : tr_at (w * 8) w P a_treeSize a_treeKind a_treeValue a_treeA a_treeB) (hu : ∀ d, pr_T 0 K d → a_nodeUses d = nI (us d) ∧ us d < 2 ^ 31) (h4 : rl ≤ 4) (hj : rl ≠ 0 → rj < 2) (hpe : pe_at r rl rj rK a_preRelation a_preVariable a_preConstant) :
    ∀ i s cp bn, i ≤ pt_n P → pm_inv K V A B us P Rn i s → (∀ q, q < pt_n P → pm_as P i q → cp (w * 8 + q) = nI (s.1 q)) → (∀ j, j < 2 → bn j = pr_oI (s.2 j)) →
      (pm_run K V A B us P i s = none → ∀ cp' bn', post 0 (f_maxNodes, f_maxRules, f_ruleCount, f_counterexample, f_optimized, f_nodeCount, f_outputCount, f_applications, a_preRelation, a_preVariable, a_preConstant, a_roomNeeded, a_useCount, a_treeSize, a_treeKind, a_treeValue, a_treeA, a_treeB, a_treeResult, a_constantValued, a_maximal, cp', bn', a_pending, a_pendingCount, a_nodeKind, a_nodeValue, a_nodeA, a_nodeB, a_nodeResult, a_nodeUses, a_outputNode, a_seen, a_order, a_walkStack)) →
      (∀ s' cp' bn', pm_run K V A B us P i s = some s' → (∀ j, j < 2 → bn' j = pr_oI (s'.2 j)) → post (pr_b (pr_ph rl rj rK (bx_v V s'.2 0) (bx_v V s'.2 1))) (f_maxNodes, f_maxRules, f_ruleCount, f_counterexample, f_optimized, f_nodeCount, f_outputCount, f_applications, a_preRelation, a_preVariable, a_preConstant, a_roomNeeded, a_useCount, a_treeSize, a_treeKind, a_treeValue, a_treeA, a_treeB, a_treeResult, a_constantValued, a_maximal, cp', bn', a_pending, a_pendingCount, a_nodeKind, a_nodeValue, a_nodeA, a_nodeB, a_nodeResult, a_nodeUses, a_outputNode, a_seen, a_order, a_walkStack)) →
      wX_matches_41 post (nI r) (nI w) (nI (w * 8 + (pt_n P - 1))) (i + 1) (nI (w * 8 + i) + (-1)) f_maxNodes f_maxRules f_ruleCount f_counterexample f_optimized f_nodeCount f_outputCount f_applications a_preRelation a_preVariable a_preConstant a_roomNeeded a_useCount a_treeSize a_treeKind a_treeValue a_treeA a_treeB a_treeResult a_constantValued a_maximal cp bn a_pending a_pendingCount a_nodeKind a_nodeValue a_nodeA a_nodeB a_nodeResult a_nodeUses a_outputNode a_seen a_order a_walkStack := by
  intro i
  have h8 := hP.1
  induction i with
  | zero =>
    intro s cp bn hi hinv hcp hbn hno hy
    unfold wX_matches_41
    refine x_firstOf (br_t (nx_lt (a := w * 8) (by omega)) ?_)
    refine x_boundValue (j := 0) (bd := s.2) (by omega) hg (hbn 0 (by omega)) (fun d hd => pm_bd hinv hd) ?_
    refine x_boundValue (j := 1) (bd := s.2) (by omega) hg (hbn 1 (by omega)) (fun d hd => pm_bd hinv hd) ?_
    refine x_preHolds hr h4 hj hpe ⟨?_, hy s cp bn rfl hbn⟩
    cases pr_ph rl rj rK (bx_v V s.2 0) (bx_v V s.2 1) <;> decide
  | succ i ih =>
    intro s cp bn hi hinv hcp hbn hno hy
    have hi' : i < pt_n P := by omega
    obtain ⟨e1, e2, e3, e4⟩ := hT.2 i hi'
    have hn := hP.2 i hi'
    have has := pm_as_i hP hf hi'
    have td := hinv.2.2.1 i hi' has
    have hin : vp_in (nI (w * 8 + i)) 272 := pk_in (w * 8 + i) 272 (by omega)
    have hcl : (nI (w * 8 + i)).toNatClampNeg = w * 8 + i := nI_clamp (by omega)
    have hrun : pm_run K V A B us P (i + 1) s = (match pm_st K V A B us P i s with
      | none => none
      | some s' => pm_run K V A B us P i s') := rfl
    rw [nx_m1]
    unfold wX_matches_41
    refine x_firstOf (pk_lt (w * 8 + i) (w * 8) (fun h => absurd h (by omega)) (fun _ => ⟨hin, ?_⟩))
    rw [hcl]
    refine nm_r (hcp i hi' has) ⟨hin, ?_⟩
    rw [e3]
    by_cases hk : pt_k P i ≤ 10
    · obtain ⟨ca, hca⟩ := hn.2.2.2.2.2.2.1 hk
      have hca' := hn.2.2.2.2.2.2.2.2.1 ca (Or.inl hca)
      have h98 : ∀ z : Int32, (z = 0 ↔ i + 1 ≠ pt_n P) → wX_matches_98 post (wX_matches_41 post (nI r) (nI w) (nI (w * 8 + (pt_n P - 1))) (i + 1)) (nI r) (nI w) (nI (w * 8 + (pt_n P - 1))) (nI (w * 8 + i)) z (nI (s.1 i)) (nI (w * 8 + i)) f_maxNodes f_maxRules f_ruleCount f_counterexample f_optimized f_nodeCount f_outputCount f_applications a_preRelation a_preVariable a_preConstant a_roomNeeded a_useCount a_treeSize a_treeKind a_treeValue a_treeA a_treeB a_treeResult a_constantValued a_maximal cp bn a_pending a_pendingCount a_nodeKind a_nodeValue a_nodeA a_nodeB a_nodeResult a_nodeUses a_outputNode a_seen a_order a_walkStack := by
        intro z hz
        unfold wX_matches_98
        refine x_opf (us := us) (by omega) hP hi' hk hG hg hT td (hu _ td).1 (hu _ td).2 hz hcp (fun hs cp' => br_t rfl (hno (by rw [hrun, hs]) cp' bn)) (fun s' cp' hs h2 hc' => br_f (by decide) (nm_e ?_))
        exact ih s' cp' bn (by omega) (pm_step hP hf hG hi' hinv hs) hc' (fun j hj' => by rw [h2]; exact hbn j hj') (fun h => hno (by rw [hrun, hs]; exact h)) (fun s2 cp2 bn2 h => hy s2 cp2 bn2 (by rw [hrun, hs]; exact h))
      rw [hca]
      refine br_f (pr_ne1 (by omega)) (pk_eq (w * 8 + i) (w * 8 + (pt_n P - 1)) (fun e => h98 1 ⟨fun h => absurd h (by decide), fun h => absurd (by omega) h⟩) (fun e => h98 0 ⟨fun _ h => e (by omega), fun _ => rfl⟩))
    · rw [hn.2.2.2.2.1 (by omega)]
      refine br_t rfl ?_
      refine x_leaf (us := us) (by omega) hP hi' (by omega) hG hg hT td (fun j d hd => pm_bd hinv hd) hbn (fun hs bn' => br_t rfl (hno (by rw [hrun, hs]) cp bn')) (fun s' bn' hs h1 hb' => br_f (by decide) (nm_e ?_))
      refine ih s' cp bn' (by omega) (pm_step hP hf hG hi' hinv hs) (fun q hq hq' => ?_) hb' (fun h => hno (by rw [hrun, hs]; exact h)) (fun s2 cp2 bn2 h => hy s2 cp2 bn2 (by rw [hrun, hs]; exact h))
      rw [h1]
      rcases pm_as_s hq' with y | y
      · exact hcp q hq y
      · rcases ((hP.2 q hq).2.2.2.2.2.2.2.2.2.2 i y).2.2 with z | z
        · rw [hn.2.2.2.2.1 (by omega)] at z
          cases z
        · rw [hn.2.2.2.2.2.1 (by omega)] at z
          cases z
theorem x_matches {post : Int32 → St2 → Prop} {r rl rj rK : Nat} (hr : r < 17) (hP : pt_ok P) (hf : pt_fin P) (hG : pr_gw 0 K V A B rk) (hg : gr_at 0 K V A B a_nodeKind a_nodeValue a_nodeA a_nodeB) (hT : tr_at ((r * 2 + 0) * 8) (r * 2 + 0) P a_treeSize a_treeKind a_treeValue a_treeA a_treeB) (hu : ∀ d, pr_T 0 K d → a_nodeUses d = nI (us d) ∧ us d < 2 ^ 31) (h4 : rl ≤ 4) (hj : rl ≠ 0 → rj < 2) (hpe : pe_at r rl rj rK a_preRelation a_preVariable a_preConstant) (tR : pr_T 0 K Rn)
    (hno : pm_run K V A B us P (pt_n P) (fun _ => Rn, fun _ => none) = none → ∀ cp' bn', post 0 (f_maxNodes, f_maxRules, f_ruleCount, f_counterexample, f_optimized, f_nodeCount, f_outputCount, f_applications, a_preRelation, a_preVariable, a_preConstant, a_roomNeeded, a_useCount, a_treeSize, a_treeKind, a_treeValue, a_treeA, a_treeB, a_treeResult, a_constantValued, a_maximal, cp', bn', a_pending, a_pendingCount, a_nodeKind, a_nodeValue, a_nodeA, a_nodeB, a_nodeResult, a_nodeUses, a_outputNode, a_seen, a_order, a_walkStack))
    (hy : ∀ s' cp' bn', pm_run K V A B us P (pt_n P) (fun _ => Rn, fun _ => none) = some s' → (∀ j, j < 2 → bn' j = pr_oI (s'.2 j)) → post (pr_b (pr_ph rl rj rK (bx_v V s'.2 0) (bx_v V s'.2 1))) (f_maxNodes, f_maxRules, f_ruleCount, f_counterexample, f_optimized, f_nodeCount, f_outputCount, f_applications, a_preRelation, a_preVariable, a_preConstant, a_roomNeeded, a_useCount, a_treeSize, a_treeKind, a_treeValue, a_treeA, a_treeB, a_treeResult, a_constantValued, a_maximal, cp', bn', a_pending, a_pendingCount, a_nodeKind, a_nodeValue, a_nodeA, a_nodeB, a_nodeResult, a_nodeUses, a_outputNode, a_seen, a_order, a_walkStack)) :
    wpX_matches post (f_maxNodes, f_maxRules, f_ruleCount, f_counterexample, f_optimized, f_nodeCount, f_outputCount, f_applications, a_preRelation, a_preVariable, a_preConstant, a_roomNeeded, a_useCount, a_treeSize, a_treeKind, a_treeValue, a_treeA, a_treeB, a_treeResult, a_constantValued, a_maximal, a_counterpart, a_boundNode, a_pending, a_pendingCount, a_nodeKind, a_nodeValue, a_nodeA, a_nodeB, a_nodeResult, a_nodeUses, a_outputNode, a_seen, a_order, a_walkStack) (nI r) (nI Rn) := by
  have h8 := hP.1
  have h0 := hf.1
  have e1 : nI ((r * 2 + 0) * 8 + pt_n P) - 1 = nI ((r * 2 + 0) * 8 + (pt_n P - 1)) := by
    rw [pr_s1 (by omega)]
    exact congrArg nI (by omega)
  have e2 : nI ((r * 2 + 0) * 8 + (pt_n P - 1)) = nI ((r * 2 + 0) * 8 + pt_n P) + (-1) := by
    rw [pr_m1 (by omega)]
    exact congrArg nI (by omega)
  unfold wpX_matches
  refine x_treeOf r 0 ?_
  refine x_endOf (by omega) hT.1 ?_
  refine nm_r e1 (nm_e (nm_e ⟨pk_in ((r * 2 + 0) * 8 + (pt_n P - 1)) 272 (by omega), ?_⟩))
  rw [nI_clamp (by omega)]
  refine nm_e ⟨pt_n P + 1, ?_⟩
  have := x_matches41 (w := r * 2 + 0) (Rn := Rn) (post := post) hr rfl hP hf hG hg hT hu h4 hj hpe (pt_n P) (fun _ => Rn, fun _ => none) (upd a_counterpart ((r * 2 + 0) * 8 + (pt_n P - 1)) (nI Rn)) (upd (upd a_boundNode 0 (-1)) 1 (-1)) (Nat.le_refl _) (pm_inv0 hf tR) (fun q hq hq' => by
    have e : q = pt_n P - 1 := by
      rcases hq' with y | ⟨p, y1, y2, _⟩
      · omega
      · omega
    rw [e, pk_us]) (fun j hj' => by
    have : j = 0 ∨ j = 1 := by omega
    rcases this with e | e
    · subst e
      rw [pk_un (by omega), pk_us]
      rfl
    · subst e
      rw [pk_us]
      rfl) hno hy
  rw [← e2] at this
  exact this
end XV
