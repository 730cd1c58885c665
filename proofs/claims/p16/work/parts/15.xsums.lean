/-! X: what reads the list: cost, count, uses, deletion, values -/
section XJ
variable {f_maxNodes f_maxRules f_ruleCount f_counterexample f_optimized f_nodeCount f_outputCount f_applications : Int32} {a_preRelation a_preVariable a_preConstant a_roomNeeded a_useCount a_treeSize a_treeKind a_treeValue a_treeA a_treeB a_treeResult a_constantValued a_maximal a_counterpart a_boundNode a_pending a_pendingCount a_nodeKind a_nodeValue a_nodeA a_nodeB a_nodeResult a_nodeUses a_outputNode a_seen a_order a_walkStack : Nat → Int32}
variable {lo : Nat} {K : Nat → Nat} {V : Nat → Int32} {A B : Nat → Option Nat} {rk O : Nat → Nat} {L : List Nat}
theorem pr_sm_tk (w : Nat → Nat) : ∀ (L : List Nat) (i : Nat), i < L.length → pr_sm w (L.take (i + 1)) = pr_sm w (L.take i) + w (L.getD i 0)
  | [], i, h => absurd h (by show ¬ i < 0; omega)
  | x :: L, 0, _ => by
    show w x + pr_sm w (L.take 0) = 0 + w x
    rw [List.take_zero]
    show w x + 0 = 0 + w x
    omega
  | x :: L, i + 1, h => by
    have hi : i < L.length := by
      rw [List.length_cons] at h
      omega
    have := pr_sm_tk w L i hi
    show w x + pr_sm w (L.take (i + 1)) = w x + pr_sm w (L.take i) + w (L.getD i 0)
    omega
theorem pr_sm_all (w : Nat → Nat) (L : List Nat) : pr_sm w (L.take L.length) = pr_sm w L := by
  rw [List.take_length]
theorem x_liveCost11 {post : Int32 → St2 → Prop} (hlo : lo ≤ 32) (hG : pr_gw lo K V A B rk) (hg : gr_at lo K V A B a_nodeKind a_nodeValue a_nodeA a_nodeB) (hLT : ∀ x, x ∈ L → pr_T lo K x) (hlen : L.length ≤ 32) (hls : pr_ls a_order L) (h : post (nI (pr_sm (fun s => pr_w (K s)) L)) (f_maxNodes, f_maxRules, f_ruleCount, f_counterexample, f_optimized, f_nodeCount, f_outputCount, f_applications, a_preRelation, a_preVariable, a_preConstant, a_roomNeeded, a_useCount, a_treeSize, a_treeKind, a_treeValue, a_treeA, a_treeB, a_treeResult, a_constantValued, a_maximal, a_counterpart, a_boundNode, a_pending, a_pendingCount, a_nodeKind, a_nodeValue, a_nodeA, a_nodeB, a_nodeResult, a_nodeUses, a_outputNode, a_seen, a_order, a_walkStack)) :
    ∀ d i, i + d = L.length → wX_liveCost_11 post (nI L.length) f_maxNodes f_maxRules f_ruleCount f_counterexample f_optimized f_nodeCount f_outputCount f_applications a_preRelation a_preVariable a_preConstant a_roomNeeded a_useCount a_treeSize a_treeKind a_treeValue a_treeA a_treeB a_treeResult a_constantValued a_maximal a_counterpart a_boundNode a_pending a_pendingCount a_nodeKind a_nodeValue a_nodeA a_nodeB a_nodeResult a_nodeUses a_outputNode a_seen a_order a_walkStack (d + 1) (nI (pr_sm (fun s => pr_w (K s)) (L.take i))) (nI i) := by
  intro d
  induction d with
  | zero =>
    intro i hi
    refine pk_le L.length i (fun _ => ?_) (fun h => absurd h (by omega))
    rw [show i = L.length by omega, pr_sm_all]
    exact h
  | succ d ih =>
    intro i hi
    have hi' : i < L.length := by omega
    have tx := hLT _ (pr_gd_m hi')
    have tx2 := tx.2.1
    have hh := ih (i + 1) (by omega)
    rw [pr_sm_tk _ L i hi'] at hh
    refine pk_le L.length i (fun h => absurd h (by omega)) (fun _ => ⟨pk_in i 32 (by omega), ?_⟩)
    rw [nI_clamp (n := i) (by omega), hls i hi']
    refine ⟨pk_in (L.getD i 0) 64 (by omega), ?_⟩
    rw [nI_clamp (by omega), (hg _ tx).1]
    have := (hG _ tx).1
    exact x_weight (by omega) (nm_r (nI_add _ _) (nm_r (nI_1 _) hh))
theorem x_liveCost {post : Int32 → St2 → Prop} {g oc : Nat} (hG : pr_gw (g * 32) K V A B rk) (hg : gr_at (g * 32) K V A B a_nodeKind a_nodeValue a_nodeA a_nodeB) (hgc : g < 2) (hoc : oc ≤ 4) (hO : ∀ k, k < oc → pr_T (g * 32) K (O (g * 4 + k)) ∧ a_outputNode (g * 4 + k) = nI (O (g * 4 + k))) (hL : L = pr_lv A B O (g * 4) oc)
    (h : ∀ se' od' st', post (nI (pr_sm (fun s => pr_w (K s)) L)) (f_maxNodes, f_maxRules, f_ruleCount, f_counterexample, f_optimized, f_nodeCount, (nI oc), f_applications, a_preRelation, a_preVariable, a_preConstant, a_roomNeeded, a_useCount, a_treeSize, a_treeKind, a_treeValue, a_treeA, a_treeB, a_treeResult, a_constantValued, a_maximal, a_counterpart, a_boundNode, a_pending, a_pendingCount, a_nodeKind, a_nodeValue, a_nodeA, a_nodeB, a_nodeResult, a_nodeUses, a_outputNode, se', od', st')) : wpX_liveCost post (f_maxNodes, f_maxRules, f_ruleCount, f_counterexample, f_optimized, f_nodeCount, (nI oc), f_applications, a_preRelation, a_preVariable, a_preConstant, a_roomNeeded, a_useCount, a_treeSize, a_treeKind, a_treeValue, a_treeA, a_treeB, a_treeResult, a_constantValued, a_maximal, a_counterpart, a_boundNode, a_pending, a_pendingCount, a_nodeKind, a_nodeValue, a_nodeA, a_nodeB, a_nodeResult, a_nodeUses, a_outputNode, a_seen, a_order, a_walkStack) (nI g) := by
  have hlk := pr_lv_ok (O := O) (ob := g * 4) (pr_gw_T hG) (pr_gw_r hG) oc (fun k hk => (hO k hk).1)
  have hlen := pr_len hlk.1 (fun x hx => ⟨(hlk.2.2.2 x hx).1.1, (hlk.2.2.2 x hx).1.2.1⟩)
  unfold wpX_liveCost
  refine x_listLive (by omega) hG hg hgc hoc hO (fun se' od' st' h1 h2 => ⟨(pr_lv A B O (g * 4) oc).length + 1, ?_⟩)
  exact x_liveCost11 (by omega) hG hg (fun x hx => (hlk.2.2.2 x hx).1) hlen h2 (by rw [← hL]; exact h se' od' st') _ 0 (by omega)
theorem x_evaluateNode {post : St2 → Prop} {ar : Int32} {n : Nat} (hlo : lo ≤ 32) (hG : pr_gw lo K V A B rk) (hg : gr_at lo K V A B a_nodeKind a_nodeValue a_nodeA a_nodeB) (tn : pr_T lo K n) (hch : ∀ c, A n = some c ∨ B n = some c → a_nodeResult c = pr_ev K V A B ar 32 c)
    (h : post (f_maxNodes, f_maxRules, f_ruleCount, f_counterexample, f_optimized, f_nodeCount, f_outputCount, f_applications, a_preRelation, a_preVariable, a_preConstant, a_roomNeeded, a_useCount, a_treeSize, a_treeKind, a_treeValue, a_treeA, a_treeB, a_treeResult, a_constantValued, a_maximal, a_counterpart, a_boundNode, a_pending, a_pendingCount, a_nodeKind, a_nodeValue, a_nodeA, a_nodeB, (upd a_nodeResult n (pr_ev K V A B ar 32 n)), a_nodeUses, a_outputNode, a_seen, a_order, a_walkStack)) : wpX_evaluateNode post (f_maxNodes, f_maxRules, f_ruleCount, f_counterexample, f_optimized, f_nodeCount, f_outputCount, f_applications, a_preRelation, a_preVariable, a_preConstant, a_roomNeeded, a_useCount, a_treeSize, a_treeKind, a_treeValue, a_treeA, a_treeB, a_treeResult, a_constantValued, a_maximal, a_counterpart, a_boundNode, a_pending, a_pendingCount, a_nodeKind, a_nodeValue, a_nodeA, a_nodeB, a_nodeResult, a_nodeUses, a_outputNode, a_seen, a_order, a_walkStack) (nI n) ar := by
  have tn2 := tn.2.1
  obtain ⟨g1, g2, g3, g4, g5, g6, g7, g8, g9, g10⟩ := hG n tn
  obtain ⟨k1, k2, k3, k4⟩ := hg n tn
  have hK0 := tn.2.2
  have hin : vp_in (nI n) 64 := pk_in n 64 (by omega)
  have hcl : (nI n).toNatClampNeg = n := nI_clamp (by omega)
  rw [pr_ev_eq hG tn] at h
  unfold pr_en at h
  unfold wpX_evaluateNode
  refine ⟨hin, ?_⟩
  rw [hcl]
  refine nm_r k1 (pk_eq (K n) 11 (fun e => ⟨hin, hin, ?_⟩) (fun n11 => pk_eq (K n) 12 (fun e => ⟨hin, hin, ?_⟩) (fun n12 => ⟨hin, ?_⟩)))
  · rw [if_pos e] at h
    rw [k2]
    exact nm_e h
  · rw [if_neg n11, if_pos e] at h
    rw [k2]
    exact nm_e h
  · rw [if_neg n11, if_neg n12] at h
    obtain ⟨ca, hca⟩ := g8 (by omega)
    have tca := (g10 ca (Or.inl hca)).1.2.1
    rw [hca] at h
    have h83 : ∀ b, b = pr_ov (pr_ev K V A B ar 32) (B n) → wX_evaluateNode_83 post (nI n) (nI (K n)) b f_maxNodes f_maxRules f_ruleCount f_counterexample f_optimized f_nodeCount f_outputCount f_applications a_preRelation a_preVariable a_preConstant a_roomNeeded a_useCount a_treeSize a_treeKind a_treeValue a_treeA a_treeB a_treeResult a_constantValued a_maximal a_counterpart a_boundNode a_pending a_pendingCount a_nodeKind a_nodeValue a_nodeA a_nodeB a_nodeResult a_nodeUses a_outputNode a_seen a_order a_walkStack := by
      intro b hb
      subst hb
      refine ⟨hin, ?_⟩
      rw [hcl, k3, hca]
      refine ⟨pk_in ca 64 (by omega), ?_⟩
      rw [show (pr_oI (some ca)).toNatClampNeg = ca from nI_clamp (by omega), hch ca (Or.inl hca)]
      exact x_compute (by omega) (by omega) ⟨hin, nm_e h⟩
    rw [k4]
    cases hb : B n with
    | none => exact br_t rfl (h83 _ (by rw [hb]; rfl))
    | some cb =>
      have tcb := (g10 cb (Or.inr hb)).1.2.1
      refine br_f (pr_ne1 (by omega)) ⟨hin, pk_in cb 64 (by omega), ?_⟩
      rw [show (pr_oI (some cb)).toNatClampNeg = cb from nI_clamp (by omega)]
      exact h83 _ (by rw [hb, hch cb (Or.inr hb)]; rfl)
end XJ
/-- in a postorder list the operands of a node stand before it -/
def pr_pre (A B : Nat → Option Nat) (L : List Nat) : Prop := ∀ i, i < L.length → ∀ c, A (L.getD i 0) = some c ∨ B (L.getD i 0) = some c → ∃ k, k < i ∧ L.getD k 0 = c
theorem pr_pre_oc {T : Nat → Prop} {A B : Nat → Option Nat} {rk : Nat → Nat} {g : Nat → List Nat → List Nat} {o : Option Nat} {L : List Nat} (hg : ∀ c, o = some c → ∀ L : List Nat, L.Nodup → pr_cl A B (fun x => x ∈ L) → pr_pre A B L → pr_pre A B (g c L)) (h1 : L.Nodup) (h2 : pr_cl A B (fun x => x ∈ L)) (h3 : pr_pre A B L) : pr_pre A B (pr_oc g o L) := by
  cases o with
  | none => exact h3
  | some c => exact hg c rfl L h1 h2 h3
theorem pr_gd_ex {L : List Nat} {x : Nat} (h : x ∈ L) : ∃ k, k < L.length ∧ L.getD k 0 = x := by
  obtain ⟨k, hk, e⟩ := List.getElem_of_mem h
  refine ⟨k, hk, ?_⟩
  rw [List.getD_eq_getElem?_getD, List.getElem?_eq_getElem hk]
  exact e
theorem pr_pre_po {T : Nat → Prop} {A B : Nat → Option Nat} {rk : Nat → Nat} (hT : ∀ n c, T n → (A n = some c ∨ B n = some c) → T c ∧ rk c < rk n) :
    ∀ f n, rk n < f → T n → ∀ L : List Nat, L.Nodup → pr_cl A B (fun x => x ∈ L) → pr_pre A B L → pr_pre A B (pr_po A B f n L) := by
  intro f
  induction f with
  | zero =>
    intro n h
    omega
  | succ f ih =>
    intro n hn tn L h1 h2 h3
    show pr_pre A B (if n ∈ L then L else pr_oc (pr_po A B f) (B n) (pr_oc (pr_po A B f) (A n) L) ++ [n])
    by_cases hm : n ∈ L
    · rw [if_pos hm]
      exact h3
    · rw [if_neg hm]
      obtain ⟨M1, e1, a1, b1, c1, d1⟩ := pr_oc_ok (T := T) (rk := rk) (g := pr_po A B f) (o := A n) (L := L) (fun c hc => pr_po_ok hT f c (by have := (hT n c tn (Or.inl hc)).2; omega) (hT n c tn (Or.inl hc)).1) h1 h2
      obtain ⟨M2, e2, a2, b2, c2, d2⟩ := pr_oc_ok (T := T) (rk := rk) (g := pr_po A B f) (o := B n) (L := L ++ M1) (fun c hc => pr_po_ok hT f c (by have := (hT n c tn (Or.inr hc)).2; omega) (hT n c tn (Or.inr hc)).1) a1 b1
      have p1 : pr_pre A B (L ++ M1) := by
        rw [← e1]
        exact pr_pre_oc (T := T) (rk := rk) (fun c hc => ih c (by have := (hT n c tn (Or.inl hc)).2; omega) (hT n c tn (Or.inl hc)).1) h1 h2 h3
      have p2 : pr_pre A B (L ++ M1 ++ M2) := by
        rw [← e2]
        exact pr_pre_oc (T := T) (rk := rk) (fun c hc => ih c (by have := (hT n c tn (Or.inr hc)).2; omega) (hT n c tn (Or.inr hc)).1) a1 b1 p1
      rw [e1, e2]
      intro i hi c hc
      rw [List.length_append, List.length_singleton] at hi
      by_cases e : i = (L ++ M1 ++ M2).length
      · rw [e, pr_gd_s] at hc
        have hin : c ∈ L ++ M1 ++ M2 := by
          rcases hc with hc | hc
          · exact List.mem_append_left _ (c1 c hc)
          · exact c2 c hc
        obtain ⟨k, hk, ek⟩ := pr_gd_ex hin
        exact ⟨k, by omega, by rw [pr_gd_l hk]; exact ek⟩
      · rw [pr_gd_l (by omega)] at hc
        obtain ⟨k, hk, ek⟩ := p2 i (by omega) c hc
        exact ⟨k, hk, by rw [pr_gd_l (by omega)]; exact ek⟩
theorem pr_pre_lv {T : Nat → Prop} {A B : Nat → Option Nat} {rk O : Nat → Nat} {ob : Nat} (hT : ∀ n c, T n → (A n = some c ∨ B n = some c) → T c ∧ rk c < rk n) (hr : ∀ n, T n → rk n < 32) :
    ∀ k, (∀ i, i < k → T (O (ob + i))) → pr_pre A B (pr_lv A B O ob k)
  | 0, _ => fun i hi => absurd hi (by show ¬ i < 0; omega)
  | k + 1, ho => by
    have hl := pr_lv_ok (O := O) (ob := ob) hT hr k (fun i hi => ho i (by omega))
    exact pr_pre_po hT 32 _ (hr _ (ho k (by omega))) (ho k (by omega)) _ hl.1 hl.2.1 (pr_pre_lv hT hr k (fun i hi => ho i (by omega)))
section XK
variable {f_maxNodes f_maxRules f_ruleCount f_counterexample f_optimized f_nodeCount f_outputCount f_applications : Int32} {a_preRelation a_preVariable a_preConstant a_roomNeeded a_useCount a_treeSize a_treeKind a_treeValue a_treeA a_treeB a_treeResult a_constantValued a_maximal a_counterpart a_boundNode a_pending a_pendingCount a_nodeKind a_nodeValue a_nodeA a_nodeB a_nodeResult a_nodeUses a_outputNode a_seen a_order a_walkStack : Nat → Int32}
variable {K : Nat → Nat} {V : Nat → Int32} {A B : Nat → Option Nat} {rk O : Nat → Nat} {L : List Nat} {post : Int32 → St2 → Prop}
theorem x_eval39 {g k oc : Nat} {ar : Int32} (hgc : g < 2) (hk : k < oc) (hoc : oc ≤ 4) (hG : pr_gw (g * 32) K V A B rk) (hg : gr_at (g * 32) K V A B a_nodeKind a_nodeValue a_nodeA a_nodeB) (hO : ∀ k, k < oc → pr_T (g * 32) K (O (g * 4 + k)) ∧ a_outputNode (g * 4 + k) = nI (O (g * 4 + k)))
    (hL : pr_lk (pr_T (g * 32) K) A B O (g * 4) oc L) (hpre : pr_pre A B L) (hls : pr_ls a_order L)
    (h : ∀ nr', post (pr_ev K V A B ar 32 (O (g * 4 + k))) (f_maxNodes, f_maxRules, f_ruleCount, f_counterexample, f_optimized, f_nodeCount, f_outputCount, f_applications, a_preRelation, a_preVariable, a_preConstant, a_roomNeeded, a_useCount, a_treeSize, a_treeKind, a_treeValue, a_treeA, a_treeB, a_treeResult, a_constantValued, a_maximal, a_counterpart, a_boundNode, a_pending, a_pendingCount, a_nodeKind, a_nodeValue, a_nodeA, a_nodeB, nr', a_nodeUses, a_outputNode, a_seen, a_order, a_walkStack)) :
    ∀ d i nr, i + d = L.length → (∀ q, q < i → nr (L.getD q 0) = pr_ev K V A B ar 32 (L.getD q 0)) → wX_eval_39 post (nI k) ar (nI g) (nI L.length) (d + 1) (nI i) f_maxNodes f_maxRules f_ruleCount f_counterexample f_optimized f_nodeCount f_outputCount f_applications a_preRelation a_preVariable a_preConstant a_roomNeeded a_useCount a_treeSize a_treeKind a_treeValue a_treeA a_treeB a_treeResult a_constantValued a_maximal a_counterpart a_boundNode a_pending a_pendingCount a_nodeKind a_nodeValue a_nodeA a_nodeB nr a_nodeUses a_outputNode a_seen a_order a_walkStack := by
  intro d
  have hlen := pr_len hL.1 (fun x hx => ⟨(hL.2.2.2 x hx).1.1, (hL.2.2.2 x hx).1.2.1⟩)
  induction d with
  | zero =>
    intro i nr hi hq
    have e4 : nI g * 4 + nI k = nI (g * 4 + k) := by
      rw [show (4 : Int32) = nI 4 from rfl, pk_mul, nI_add]
    obtain ⟨to, eo⟩ := hO k hk
    have to2 := to.2.1
    refine pk_le L.length i (fun _ => ?_) (fun h => absurd h (by omega))
    rw [e4]
    refine ⟨pk_in (g * 4 + k) 8 (by omega), ?_⟩
    rw [nI_clamp (by omega), eo]
    refine ⟨pk_in (O (g * 4 + k)) 64 (by omega), ?_⟩
    rw [nI_clamp (by omega)]
    obtain ⟨q, hq1, hq2⟩ := pr_gd_ex (hL.2.2.1 k hk)
    have := hq q (by omega)
    rw [hq2] at this
    rw [this]
    exact h nr
  | succ d ih =>
    intro i nr hi hq
    have hi' : i < L.length := by omega
    have tx := (hL.2.2.2 _ (pr_gd_m hi')).1
    refine pk_le L.length i (fun h => absurd h (by omega)) (fun _ => ⟨pk_in i 32 (by omega), ?_⟩)
    rw [nI_clamp (by omega), hls i hi']
    refine x_evaluateNode (by omega) hG hg tx (fun c hc => ?_) (nm_r (nI_1 _) (ih (i + 1) _ (by omega) fun q hq' => ?_))
    · obtain ⟨q, q1, q2⟩ := hpre i hi' c hc
      have := hq q q1
      rw [q2] at this
      exact this
    · by_cases e : L.getD q 0 = L.getD i 0
      · rw [e, pk_us]
      · rw [pk_un e]
        refine hq q ?_
        have : q ≠ i := fun hx => e (by rw [hx])
        omega
theorem x_eval26 {g k oc : Nat} {ar : Int32} (hgc : g < 2) (hk : k < oc) (hoc : oc ≤ 4) (hG : pr_gw (g * 32) K V A B rk) (hg : gr_at (g * 32) K V A B a_nodeKind a_nodeValue a_nodeA a_nodeB) (hO : ∀ k, k < oc → pr_T (g * 32) K (O (g * 4 + k)) ∧ a_outputNode (g * 4 + k) = nI (O (g * 4 + k)))
    (h : ∀ nr' se' od' st', post (pr_ev K V A B ar 32 (O (g * 4 + k))) (f_maxNodes, f_maxRules, f_ruleCount, f_counterexample, f_optimized, f_nodeCount, (nI oc), f_applications, a_preRelation, a_preVariable, a_preConstant, a_roomNeeded, a_useCount, a_treeSize, a_treeKind, a_treeValue, a_treeA, a_treeB, a_treeResult, a_constantValued, a_maximal, a_counterpart, a_boundNode, a_pending, a_pendingCount, a_nodeKind, a_nodeValue, a_nodeA, a_nodeB, nr', a_nodeUses, a_outputNode, se', od', st')) :
    wX_eval_26 post (nI k) ar (nI g) f_maxNodes f_maxRules f_ruleCount f_counterexample f_optimized f_nodeCount (nI oc) f_applications a_preRelation a_preVariable a_preConstant a_roomNeeded a_useCount a_treeSize a_treeKind a_treeValue a_treeA a_treeB a_treeResult a_constantValued a_maximal a_counterpart a_boundNode a_pending a_pendingCount a_nodeKind a_nodeValue a_nodeA a_nodeB a_nodeResult a_nodeUses a_outputNode a_seen a_order a_walkStack := by
  have hlk := pr_lv_ok (O := O) (ob := g * 4) (pr_gw_T hG) (pr_gw_r hG) oc (fun k hk => (hO k hk).1)
  have hpre := pr_pre_lv (O := O) (ob := g * 4) (pr_gw_T hG) (pr_gw_r hG) oc (fun k hk => (hO k hk).1)
  unfold wX_eval_26
  refine x_listLive (by omega) hG hg hgc hoc hO (fun se' od' st' h1 h2 => ⟨(pr_lv A B O (g * 4) oc).length + 1, ?_⟩)
  exact x_eval39 hgc hk hoc hG hg hO hlk hpre h2 (fun nr' => h nr' se' od' st') _ 0 a_nodeResult (by omega) (fun q hq => absurd hq (by omega))
end XK
