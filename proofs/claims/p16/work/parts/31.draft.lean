/-! the draft: emptied, appended to, its precondition -/
theorem tr_cong {o w : Nat} {t : pr_PT} {sz kd vl ta tb sz' kd' vl' ta' tb' : Nat → Int32} (h : tr_at o w t sz kd vl ta tb) (e : sz' w = sz w) (hi : ∀ i, i < pt_n t → kd' (w * 8 + i) = kd (w * 8 + i) ∧ vl' (w * 8 + i) = vl (w * 8 + i) ∧ ta' (w * 8 + i) = ta (w * 8 + i) ∧ tb' (w * 8 + i) = tb (w * 8 + i)) : tr_at o w t sz' kd' vl' ta' tb' := by
  refine ⟨e.trans h.1, fun i hi' => ?_⟩
  obtain ⟨a, b, c, d⟩ := hi i hi'
  rw [a, b, c, d]
  exact h.2 i hi'
theorem up_up {f : Nat → Int32} {k : Nat} {a b : Int32} : upd (upd f k a) k b = upd f k b := by
  funext j
  by_cases e : j = k
  · rw [e, pk_us, pk_us]
  · rw [pk_un e, pk_un e, pk_un e]
def ac_ok (n c : Nat) (p1 p2 : Int32) (κ v : Nat) : Prop :=
  p1 = nI κ ∧ 1 ≤ κ ∧ κ ≤ 14 ∧ κ ≠ 12 ∧ n < 8 ∧ pr_ar κ ≤ c ∧ (κ = 11 → p2 = nI v ∧ v < 256) ∧ (13 ≤ κ → p2 = nI v ∧ v < 2) ∧ (κ ≤ 10 → v = 0)
theorem ac_u {n c : Nat} {p1 p2 : Int32} {κ v κ' v' : Nat} (h : ac_ok n c p1 p2 κ v) (h' : ac_ok n c p1 p2 κ' v') : κ = κ' ∧ v = v' := by
  obtain ⟨a1, a2, a3, a4, a5, a6, a7, a8, a9⟩ := h
  obtain ⟨b1, b2, b3, b4, b5, b6, b7, b8, b9⟩ := h'
  have e : κ = κ' := pr_im (a1.symm.trans b1) (by omega) (by omega)
  subst e
  refine ⟨rfl, ?_⟩
  by_cases h1 : κ ≤ 10
  · rw [a9 h1, b9 h1]
  · by_cases h2 : κ = 11
    · have x := a7 h2
      have y := b7 h2
      exact pr_im (x.1.symm.trans y.1) (by omega) (by omega)
    · have x := a8 (by omega)
      have y := b8 (by omega)
      exact pr_im (x.1.symm.trans y.1) (by omega) (by omega)
/-- the draft's arrays after an accepted append -/
theorem dr_add {x s κ v : Nat} {o : Nat → Nat} {D : Nat → pr_PT} {ps : Nat → Nat → Nat} {dc : Nat → Nat} {sz kd vl ta tb pn pc : Nat → Int32} (hs : s < 2) (h8 : ∀ s, s < 2 → pt_n (D s) ≤ 8 ∧ dc s ≤ pt_n (D s)) (hn : pt_n (D s) < 8) (hc : pr_ar κ ≤ dc s) (hv0 : κ ≤ 10 → v = 0) (hk1 : 1 ≤ κ)
    (h : dr_at x o D ps dc sz kd vl ta tb pn pc) :
    dr_at x o (pr_st D s (pt_add (D s) (ps s) (dc s) κ v)) (pr_st ps s (pd_add (D s) (ps s) (dc s) κ)) (pr_st dc s (dc s - pr_ar κ + 1))
      (upd sz (x * 2 + s) (nI (pt_n (D s) + 1))) (upd kd ((x * 2 + s) * 8 + pt_n (D s)) (nI κ)) (upd vl ((x * 2 + s) * 8 + pt_n (D s)) (nI v)) (upd ta ((x * 2 + s) * 8 + pt_n (D s)) (pr_oX (o s) (pt_a0 (ps s) (dc s) κ))) (upd tb ((x * 2 + s) * 8 + pt_n (D s)) (pr_oX (o s) (pt_b0 (ps s) (dc s) κ)))
      (upd pn (s * 8 + (dc s - pr_ar κ)) (nI (o s + pt_n (D s)))) (upd pc s (nI (dc s - pr_ar κ + 1))) := by
  intro s' hs'
  have hh := h s' hs'
  have h8s := h8 s hs
  have h8' := h8 s' hs'
  by_cases e : s' = s
  · subst e
    rw [pr_st_s, pr_st_s, pr_st_s]
    refine ⟨⟨?_, fun i hi => ?_⟩, pk_us, fun q hq => ?_⟩
    · rw [pk_us]
      rfl
    · have hi' : i < pt_n (D s') + 1 := hi
      show _ = nI (pr_st (pt_k (D s')) (pt_n (D s')) κ i) ∧ _ = nI (pr_st (pt_v (D s')) (pt_n (D s')) (if pr_ar κ = 0 then v else 0) i) ∧ _ = pr_oX (o s') (pr_st (pt_a (D s')) (pt_n (D s')) (pt_a0 (ps s') (dc s') κ) i) ∧ _ = pr_oX (o s') (pr_st (pt_b (D s')) (pt_n (D s')) (pt_b0 (ps s') (dc s') κ) i)
      by_cases ei : i = pt_n (D s')
      · rw [ei, pk_us, pk_us, pk_us, pk_us, pr_st_s, pr_st_s, pr_st_s, pr_st_s]
        refine ⟨rfl, ?_, rfl, rfl⟩
        by_cases h0 : pr_ar κ = 0
        · rw [if_pos h0]
        · rw [if_neg h0, hv0]
          rcases pr_ar_c κ with y | y | y <;> omega
      · rw [pr_st_n ei, pr_st_n ei, pr_st_n ei, pr_st_n ei, pk_un (by omega), pk_un (by omega), pk_un (by omega), pk_un (by omega)]
        exact hh.1.2 i (by omega)
    · unfold pd_add
      by_cases eq : q = dc s' - pr_ar κ
      · rw [eq, pk_us, pr_st_s]
      · rw [pr_st_n eq, pk_un (by omega)]
        exact hh.2.2 q (by omega)
  · rw [pr_st_n e, pr_st_n e, pr_st_n e]
    refine ⟨tr_cong hh.1 (pk_un (by omega)) (fun i hi => ?_), ?_, fun q hq => ?_⟩
    · exact ⟨pk_un (by omega), pk_un (by omega), pk_un (by omega), pk_un (by omega)⟩
    · rw [pk_un e]
      exact hh.2.1
    · rw [pk_un (by omega)]
      exact hh.2.2 q hq
section XDr
variable {f_maxNodes f_maxRules f_ruleCount f_counterexample f_optimized f_nodeCount f_outputCount f_applications : Int32} {a_preRelation a_preVariable a_preConstant a_roomNeeded a_useCount a_treeSize a_treeKind a_treeValue a_treeA a_treeB a_treeResult a_constantValued a_maximal a_counterpart a_boundNode a_pending a_pendingCount a_nodeKind a_nodeValue a_nodeA a_nodeB a_nodeResult a_nodeUses a_outputNode a_seen a_order a_walkStack : Nat → Int32}
variable {rc : Nat}
theorem x_emptyDraft {post : St2 → Prop} (hrc : rc ≤ 16) (h : post (f_maxNodes, f_maxRules, (nI rc), f_counterexample, f_optimized, f_nodeCount, f_outputCount, f_applications, (upd a_preRelation rc 0), a_preVariable, a_preConstant, a_roomNeeded, a_useCount, (upd (upd a_treeSize (rc * 2 + 0) 0) (rc * 2 + 1) 0), a_treeKind, a_treeValue, a_treeA, a_treeB, a_treeResult, a_constantValued, a_maximal, a_counterpart, a_boundNode, a_pending, (upd (upd a_pendingCount 0 0) 1 0), a_nodeKind, a_nodeValue, a_nodeA, a_nodeB, a_nodeResult, a_nodeUses, a_outputNode, a_seen, a_order, a_walkStack)) : wpX_emptyDraft post (f_maxNodes, f_maxRules, (nI rc), f_counterexample, f_optimized, f_nodeCount, f_outputCount, f_applications, a_preRelation, a_preVariable, a_preConstant, a_roomNeeded, a_useCount, a_treeSize, a_treeKind, a_treeValue, a_treeA, a_treeB, a_treeResult, a_constantValued, a_maximal, a_counterpart, a_boundNode, a_pending, a_pendingCount, a_nodeKind, a_nodeValue, a_nodeA, a_nodeB, a_nodeResult, a_nodeUses, a_outputNode, a_seen, a_order, a_walkStack) := by
  unfold wpX_emptyDraft
  refine ⟨3, ?_⟩
  refine br_f (by decide) (x_treeOf rc 0 ⟨pk_in (rc * 2 + 0) 34 (by omega), ?_⟩)
  rw [nI_clamp (by omega)]
  refine nm_e ⟨pk_in 0 2 (by omega), nm_e (nm_r (show (0 : Int32) + 1 = 1 by decide) ?_)⟩
  refine br_f (by decide) (x_treeOf rc 1 ⟨pk_in (rc * 2 + 1) 34 (by omega), ?_⟩)
  rw [nI_clamp (by omega)]
  refine nm_e ⟨pk_in 1 2 (by omega), nm_e (nm_r (show (1 : Int32) + 1 = 2 by decide) ?_)⟩
  refine br_t (by decide) ⟨pk_in rc 17 (by omega), ?_⟩
  rw [nI_clamp (by omega)]
  exact nm_e h
theorem x_append {post : Int32 → St2 → Prop} {s n c : Nat} {pst : Nat → Nat} {p1 p2 : Int32} (hrc : rc ≤ 16) (hs : s < 2) (hn : n ≤ 8) (hc : c ≤ n) (e1 : a_treeSize (rc * 2 + s) = nI n) (e2 : a_pendingCount s = nI c) (e3 : ∀ q, q < c → a_pending (s * 8 + q) = nI ((rc * 2 + s) * 8 + pst q))
    (hy : ∀ κ v, ac_ok n c p1 p2 κ v → post 1 (f_maxNodes, f_maxRules, (nI rc), f_counterexample, f_optimized, f_nodeCount, f_outputCount, f_applications, a_preRelation, a_preVariable, a_preConstant, a_roomNeeded, a_useCount, (upd a_treeSize (rc * 2 + s) (nI (n + 1))), (upd a_treeKind ((rc * 2 + s) * 8 + n) (nI κ)), (upd a_treeValue ((rc * 2 + s) * 8 + n) (nI v)), (upd a_treeA ((rc * 2 + s) * 8 + n) (pr_oX ((rc * 2 + s) * 8) (pt_a0 pst c κ))), (upd a_treeB ((rc * 2 + s) * 8 + n) (pr_oX ((rc * 2 + s) * 8) (pt_b0 pst c κ))), a_treeResult, a_constantValued, a_maximal, a_counterpart, a_boundNode, (upd a_pending (s * 8 + (c - pr_ar κ)) (nI ((rc * 2 + s) * 8 + n))), (upd a_pendingCount s (nI (c - pr_ar κ + 1))), a_nodeKind, a_nodeValue, a_nodeA, a_nodeB, a_nodeResult, a_nodeUses, a_outputNode, a_seen, a_order, a_walkStack))
    (hno : (∀ κ v, ¬ ac_ok n c p1 p2 κ v) → post 0 (f_maxNodes, f_maxRules, (nI rc), f_counterexample, f_optimized, f_nodeCount, f_outputCount, f_applications, a_preRelation, a_preVariable, a_preConstant, a_roomNeeded, a_useCount, a_treeSize, a_treeKind, a_treeValue, a_treeA, a_treeB, a_treeResult, a_constantValued, a_maximal, a_counterpart, a_boundNode, a_pending, a_pendingCount, a_nodeKind, a_nodeValue, a_nodeA, a_nodeB, a_nodeResult, a_nodeUses, a_outputNode, a_seen, a_order, a_walkStack)) : wpX_appendTreeNode post (f_maxNodes, f_maxRules, (nI rc), f_counterexample, f_optimized, f_nodeCount, f_outputCount, f_applications, a_preRelation, a_preVariable, a_preConstant, a_roomNeeded, a_useCount, a_treeSize, a_treeKind, a_treeValue, a_treeA, a_treeB, a_treeResult, a_constantValued, a_maximal, a_counterpart, a_boundNode, a_pending, a_pendingCount, a_nodeKind, a_nodeValue, a_nodeA, a_nodeB, a_nodeResult, a_nodeUses, a_outputNode, a_seen, a_order, a_walkStack) (nI s) p1 p2 := by
  unfold wpX_appendTreeNode
  refine x_treeOf rc s ?_
  have hin2 : vp_in (nI s) 2 := pk_in s 2 hs
  have hcs : (nI s).toNatClampNeg = s := nI_clamp (by omega)
  have hin34 : vp_in (nI (rc * 2 + s)) 34 := pk_in (rc * 2 + s) 34 (by omega)
  have hcw : (nI (rc * 2 + s)).toNatClampNeg = rc * 2 + s := nI_clamp (by omega)
  rcases pk_ix p1 (n := 15) (by omega) with hp | hp | ⟨κ, hκ, rfl⟩
  · have hno' := hno fun κ v h => by
      have := h.1
      rw [this] at hp
      exact nI_pos (by have := h.2.2.1; omega) hp
    refine x_arity_o (Or.inl hp) ⟨hin2, ?_⟩
    rw [hcs, hcw]
    refine nm_r e2 ⟨hin34, ?_⟩
    have hne : ∀ q : Nat, q < 2 ^ 31 → ¬ p1 = nI q := fun q hq e => by
      rw [e] at hp
      exact nI_pos hq hp
    refine br_c (fun _ => hno') (fun _ => br_f (hne 11 (by omega)) (br_f (hne 13 (by omega)) (br_f (hne 14 (by omega)) (x_arity_o (Or.inl hp) (br_t (by decide) (br_t rfl hno'))))))
  · have hne : ∀ q : Nat, q < 15 → ¬ p1 = nI q := fun q hq e => by
      rw [e, nI_leI (by omega) (by omega)] at hp
      omega
    have hno' := hno fun κ v h => hne κ (by have := h.2.2.1; omega) h.1
    refine x_arity_o (Or.inr hp) ⟨hin2, ?_⟩
    rw [hcs, hcw]
    refine nm_r e2 ⟨hin34, ?_⟩
    refine br_c (fun _ => hno') (fun _ => br_f (hne 11 (by omega)) (br_f (hne 13 (by omega)) (br_f (hne 14 (by omega)) (x_arity_o (Or.inr hp) (br_t (by decide) (br_t rfl hno'))))))
  · have hino : ∀ (P : Nat → Nat → Prop), (∀ κ' v, ac_ok n c (nI κ) p2 κ' v → κ' = κ) := fun _ κ' v h => (pr_im h.1 (by omega) (by have := h.2.2.1; omega)).symm
    have hk : ∀ κ' v, ac_ok n c (nI κ) p2 κ' v → κ' = κ := hino (fun _ _ => True)
    refine x_arity (by omega) ⟨hin2, ?_⟩
    rw [hcs, hcw, e1]
    refine nm_r e2 ⟨hin34, ?_⟩
    refine pk_eq n 8 (fun e => hno fun κ' v h => absurd h.2.2.2.2.1 (by omega)) (fun ne8 => ?_)
    -- a node that may stand in a tree
    have hgo : ∀ v, 1 ≤ κ → κ ≠ 12 → (κ = 11 → p2 = nI v ∧ v < 256) → (13 ≤ κ → p2 = nI v ∧ v < 2) → (κ ≤ 10 → v = 0) →
        ((nI (pr_ar κ) ≤ nI c → wpX_endOf (fun r_10 => ∀ x8_46 : Int32, x8_46 = ((nI s * 8) + nI c) - nI (pr_ar κ) → (vp_in r_10 272 ∧ ∀ a_treeKind_48 : Nat → Int32, a_treeKind_48 = upd a_treeKind r_10.toNatClampNeg (nI κ) → ((nI (pr_ar κ) = 0 → (wX_appendTreeNode_97 post (nI s) (nI (rc * 2 + s)) (nI (pr_ar κ)) (nI c) r_10 x8_46 p2 r_10 f_maxNodes f_maxRules (nI rc) f_counterexample f_optimized f_nodeCount f_outputCount f_applications a_preRelation a_preVariable a_preConstant a_roomNeeded a_useCount a_treeSize a_treeKind_48 a_treeValue a_treeA a_treeB a_treeResult a_constantValued a_maximal a_counterpart a_boundNode a_pending a_pendingCount a_nodeKind a_nodeValue a_nodeA a_nodeB a_nodeResult a_nodeUses a_outputNode a_seen a_order a_walkStack)) ∧ (¬ nI (pr_ar κ) = 0 → (wX_appendTreeNode_97 post (nI s) (nI (rc * 2 + s)) (nI (pr_ar κ)) (nI c) r_10 x8_46 0 r_10 f_maxNodes f_maxRules (nI rc) f_counterexample f_optimized f_nodeCount f_outputCount f_applications a_preRelation a_preVariable a_preConstant a_roomNeeded a_useCount a_treeSize a_treeKind_48 a_treeValue a_treeA a_treeB a_treeResult a_constantValued a_maximal a_counterpart a_boundNode a_pending a_pendingCount a_nodeKind a_nodeValue a_nodeA a_nodeB a_nodeResult a_nodeUses a_outputNode a_seen a_order a_walkStack))))) (f_maxNodes, f_maxRules, (nI rc), f_counterexample, f_optimized, f_nodeCount, f_outputCount, f_applications, a_preRelation, a_preVariable, a_preConstant, a_roomNeeded, a_useCount, a_treeSize, a_treeKind, a_treeValue, a_treeA, a_treeB, a_treeResult, a_constantValued, a_maximal, a_counterpart, a_boundNode, a_pending, a_pendingCount, a_nodeKind, a_nodeValue, a_nodeA, a_nodeB, a_nodeResult, a_nodeUses, a_outputNode, a_seen, a_order, a_walkStack) (nI (rc * 2 + s))) ∧ (¬ nI (pr_ar κ) ≤ nI c → post 0 (f_maxNodes, f_maxRules, (nI rc), f_counterexample, f_optimized, f_nodeCount, f_outputCount, f_applications, a_preRelation, a_preVariable, a_preConstant, a_roomNeeded, a_useCount, a_treeSize, a_treeKind, a_treeValue, a_treeA, a_treeB, a_treeResult, a_constantValued, a_maximal, a_counterpart, a_boundNode, a_pending, a_pendingCount, a_nodeKind, a_nodeValue, a_nodeA, a_nodeB, a_nodeResult, a_nodeUses, a_outputNode, a_seen, a_order, a_walkStack))) := by
      intro v k1 k12 k11 k13 k10
      have har := pr_ar_c κ
      refine pk_le (pr_ar κ) c (fun hle => ?_) (fun hlt => hno fun κ' v' h => ?_)
      · have hacc : ac_ok n c (nI κ) p2 κ v := ⟨rfl, k1, by omega, k12, by omega, hle, k11, k13, k10⟩
        have hfin := hy κ v hacc
        refine x_endOf (by omega) e1 ?_
        have e8 : ((nI s * 8) + nI c) - nI (pr_ar κ) = nI (s * 8 + (c - pr_ar κ)) := by
          rw [nx_8, pk_sub (by omega)]
          exact congrArg nI (by omega)
        refine nm_r e8 ⟨pk_in ((rc * 2 + s) * 8 + n) 272 (by omega), ?_⟩
        have hcp : (nI ((rc * 2 + s) * 8 + n)).toNatClampNeg = (rc * 2 + s) * 8 + n := nI_clamp (by omega)
        have hinp : vp_in (nI ((rc * 2 + s) * 8 + n)) 272 := pk_in ((rc * 2 + s) * 8 + n) 272 (by omega)
        rw [hcp]
        refine nm_e ?_
        have hco : (nI (s * 8 + (c - pr_ar κ))).toNatClampNeg = s * 8 + (c - pr_ar κ) := nI_clamp (by omega)
        have h97 : ∀ x, x = nI v → wX_appendTreeNode_97 post (nI s) (nI (rc * 2 + s)) (nI (pr_ar κ)) (nI c) (nI ((rc * 2 + s) * 8 + n)) (nI (s * 8 + (c - pr_ar κ))) x (nI ((rc * 2 + s) * 8 + n)) f_maxNodes f_maxRules (nI rc) f_counterexample f_optimized f_nodeCount f_outputCount f_applications a_preRelation a_preVariable a_preConstant a_roomNeeded a_useCount a_treeSize (upd a_treeKind ((rc * 2 + s) * 8 + n) (nI κ)) a_treeValue a_treeA a_treeB a_treeResult a_constantValued a_maximal a_counterpart a_boundNode a_pending a_pendingCount a_nodeKind a_nodeValue a_nodeA a_nodeB a_nodeResult a_nodeUses a_outputNode a_seen a_order a_walkStack := by
          intro x hx
          subst hx
          refine ⟨hinp, ?_⟩
          rw [hcp]
          refine nm_e ?_
          have h147 : ∀ z, z = pr_oX ((rc * 2 + s) * 8) (pt_b0 pst c κ) → wX_appendTreeNode_147 post (nI s) (nI (rc * 2 + s)) (nI (pr_ar κ)) (nI c) (nI ((rc * 2 + s) * 8 + n)) (nI (s * 8 + (c - pr_ar κ))) z (nI ((rc * 2 + s) * 8 + n)) f_maxNodes f_maxRules (nI rc) f_counterexample f_optimized f_nodeCount f_outputCount f_applications a_preRelation a_preVariable a_preConstant a_roomNeeded a_useCount a_treeSize (upd a_treeKind ((rc * 2 + s) * 8 + n) (nI κ)) (upd a_treeValue ((rc * 2 + s) * 8 + n) (nI v)) (upd a_treeA ((rc * 2 + s) * 8 + n) (pr_oX ((rc * 2 + s) * 8) (pt_a0 pst c κ))) a_treeB a_treeResult a_constantValued a_maximal a_counterpart a_boundNode a_pending a_pendingCount a_nodeKind a_nodeValue a_nodeA a_nodeB a_nodeResult a_nodeUses a_outputNode a_seen a_order a_walkStack := by
            intro z hz
            subst hz
            have ec : (nI c - nI (pr_ar κ)) + 1 = nI (c - pr_ar κ + 1) := by
              rw [pk_sub hle, nI_1]
            refine ⟨hinp, ?_⟩
            rw [hcp, hcw, hco, hcs, ec, e1, nI_1]
            exact nm_e ⟨hin34, hin34, nm_e ⟨pk_in (s * 8 + (c - pr_ar κ)) 16 (by omega), nm_e ⟨hin2, nm_e hfin⟩⟩⟩
          have h121 : ∀ z, z = pr_oX ((rc * 2 + s) * 8) (pt_a0 pst c κ) → wX_appendTreeNode_121 post (nI s) (nI (rc * 2 + s)) (nI (pr_ar κ)) (nI c) (nI ((rc * 2 + s) * 8 + n)) (nI (s * 8 + (c - pr_ar κ))) z (nI ((rc * 2 + s) * 8 + n)) f_maxNodes f_maxRules (nI rc) f_counterexample f_optimized f_nodeCount f_outputCount f_applications a_preRelation a_preVariable a_preConstant a_roomNeeded a_useCount a_treeSize (upd a_treeKind ((rc * 2 + s) * 8 + n) (nI κ)) (upd a_treeValue ((rc * 2 + s) * 8 + n) (nI v)) a_treeA a_treeB a_treeResult a_constantValued a_maximal a_counterpart a_boundNode a_pending a_pendingCount a_nodeKind a_nodeValue a_nodeA a_nodeB a_nodeResult a_nodeUses a_outputNode a_seen a_order a_walkStack := by
            intro z hz
            subst hz
            refine ⟨hinp, ?_⟩
            rw [hcp]
            refine nm_e (pk_eq (pr_ar κ) 2 (fun h2 => ?_) (fun h2 => ?_))
            · have e9 : nI (s * 8 + (c - pr_ar κ)) + 1 = nI (s * 8 + (c - pr_ar κ + 1)) := nI_1 _
              rw [e9]
              refine ⟨pk_in (s * 8 + (c - pr_ar κ + 1)) 16 (by omega), h147 _ ?_⟩
              rw [nI_clamp (by omega), e3 _ (by omega)]
              unfold pt_b0
              rw [if_pos h2]
              rfl
            · refine h147 _ ?_
              unfold pt_b0
              rw [if_neg h2]
              rfl
          refine pk_lt (pr_ar κ) 1 (fun h1 => h121 _ ?_) (fun h1 => ⟨pk_in (s * 8 + (c - pr_ar κ)) 16 (by omega), h121 _ ?_⟩)
          · unfold pt_a0
            rw [if_neg (by omega)]
            rfl
          · rw [hco, e3 _ (by omega)]
            unfold pt_a0
            rw [if_pos h1]
            rfl
        refine pk_eq (pr_ar κ) 0 (fun h0 => h97 _ ?_) (fun h0 => h97 _ ?_)
        · by_cases h11 : κ = 11
          · exact (k11 h11).1
          · exact (k13 (by omega)).1
        · rw [k10 (by omega)]
          rfl
      · have := hk κ' v' h
        subst this
        have := h.2.2.2.2.2.1
        omega
    have hbad : (∀ v, ¬ ac_ok n c (nI κ) p2 κ v) → post 0 (f_maxNodes, f_maxRules, (nI rc), f_counterexample, f_optimized, f_nodeCount, f_outputCount, f_applications, a_preRelation, a_preVariable, a_preConstant, a_roomNeeded, a_useCount, a_treeSize, a_treeKind, a_treeValue, a_treeA, a_treeB, a_treeResult, a_constantValued, a_maximal, a_counterpart, a_boundNode, a_pending, a_pendingCount, a_nodeKind, a_nodeValue, a_nodeA, a_nodeB, a_nodeResult, a_nodeUses, a_outputNode, a_seen, a_order, a_walkStack) := fun hb => hno fun κ' v h => by
      have := hk κ' v h
      subst this
      exact hb v h
    refine pk_eq κ 11 (fun h11 => ?_) (fun n11 => pk_eq κ 13 (fun h13 => ?_) (fun n13 => pk_eq κ 14 (fun h14 => ?_) (fun n14 => ?_)))
    · rcases pk_ix p2 (n := 256) (by omega) with hq | hq | ⟨v, hv, rfl⟩
      · exact x_isWord_f (Or.inl hq) ⟨by decide, br_t rfl (hbad fun v h => by
          have := h.2.2.2.2.2.2.1 h11
          rw [this.1] at hq
          exact nI_pos (by omega) hq)⟩
      · exact x_isWord_f (Or.inr hq) ⟨by decide, br_t rfl (hbad fun v h => by
          have := h.2.2.2.2.2.2.1 h11
          rw [this.1, nI_leI (by omega) (by omega)] at hq
          omega)⟩
      · exact x_isWord_t hv ⟨by decide, br_f (by decide) (hgo v (by omega) (by omega) (fun _ => ⟨rfl, hv⟩) (fun h => absurd h (by omega)) (fun h => absurd h (by omega)))⟩
    · rcases pk_ix p2 (n := 2) (by omega) with hq | hq | ⟨v, hv, rfl⟩
      · exact x_isVariable_f (Or.inl hq) ⟨by decide, br_t rfl (hbad fun v h => by
          have := h.2.2.2.2.2.2.2.1 (by omega)
          rw [this.1] at hq
          exact nI_pos (by omega) hq)⟩
      · exact x_isVariable_f (Or.inr hq) ⟨by decide, br_t rfl (hbad fun v h => by
          have := h.2.2.2.2.2.2.2.1 (by omega)
          rw [this.1, nI_leI (by omega) (by omega)] at hq
          omega)⟩
      · exact x_isVariable_t hv ⟨by decide, br_f (by decide) (hgo v (by omega) (by omega) (fun h => absurd h (by omega)) (fun _ => ⟨rfl, hv⟩) (fun h => absurd h (by omega)))⟩
    · rcases pk_ix p2 (n := 2) (by omega) with hq | hq | ⟨v, hv, rfl⟩
      · exact x_isVariable_f (Or.inl hq) ⟨by decide, br_t rfl (hbad fun v h => by
          have := h.2.2.2.2.2.2.2.1 (by omega)
          rw [this.1] at hq
          exact nI_pos (by omega) hq)⟩
      · exact x_isVariable_f (Or.inr hq) ⟨by decide, br_t rfl (hbad fun v h => by
          have := h.2.2.2.2.2.2.2.1 (by omega)
          rw [this.1, nI_leI (by omega) (by omega)] at hq
          omega)⟩
      · exact x_isVariable_t hv ⟨by decide, br_f (by decide) (hgo v (by omega) (by omega) (fun h => absurd h (by omega)) (fun _ => ⟨rfl, hv⟩) (fun h => absurd h (by omega)))⟩
    · refine x_arity (by omega) (pk_le (pr_ar κ) 0 (fun h0 => br_t rfl (hbad fun v h => ?_)) (fun h0 => br_f (by decide) (hgo 0 ?_ ?_ ?_ ?_ (fun _ => rfl))) rfl rfl ?_)
      · have har := pr_ar_c κ
        have := h.2.1
        have := h.2.2.2.1
        omega
      · have har := pr_ar_c κ
        omega
      · have har := pr_ar_c κ
        omega
      · intro h
        exact absurd h n11
      · intro h
        have har := pr_ar_c κ
        omega
      · have har := pr_ar_c κ
        omega
end XDr
