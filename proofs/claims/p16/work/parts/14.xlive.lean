/-! X: listLive and what reads its list -/
section XI
variable {f_maxNodes f_maxRules f_ruleCount f_counterexample f_optimized f_nodeCount f_outputCount f_applications : Int32} {a_preRelation a_preVariable a_preConstant a_roomNeeded a_useCount a_treeSize a_treeKind a_treeValue a_treeA a_treeB a_treeResult a_constantValued a_maximal a_counterpart a_boundNode a_pending a_pendingCount a_nodeKind a_nodeValue a_nodeA a_nodeB a_nodeResult a_nodeUses a_outputNode a_seen a_order a_walkStack : Nat → Int32}
variable {lo : Nat} {K : Nat → Nat} {V : Nat → Int32} {A B : Nat → Option Nat} {rk O : Nat → Nat} {post : Int32 → St2 → Prop}
theorem x_listBelow (hlo : lo ≤ 32) (hG : pr_gw lo K V A B rk) (hg : gr_at lo K V A B a_nodeKind a_nodeValue a_nodeA a_nodeB) {n : Nat} (tn : pr_T lo K n) {L : List Nat} (nd : L.Nodup) (cl : pr_cl A B (fun x => x ∈ L)) (hnL : n ∉ L) (hreg : ∀ x, x ∈ L → lo ≤ x ∧ x < lo + 32)
    (hls : pr_ls a_order L) (hse : ∀ c, c < 64 → (a_seen c = 0 ↔ c ∉ L))
    (h : ∀ se' od' st', (∀ c, c < 64 → (se' c = 0 ↔ c ∉ pr_po A B 32 n L)) → pr_ls od' (pr_po A B 32 n L) → post (nI (pr_po A B 32 n L).length) (f_maxNodes, f_maxRules, f_ruleCount, f_counterexample, f_optimized, f_nodeCount, f_outputCount, f_applications, a_preRelation, a_preVariable, a_preConstant, a_roomNeeded, a_useCount, a_treeSize, a_treeKind, a_treeValue, a_treeA, a_treeB, a_treeResult, a_constantValued, a_maximal, a_counterpart, a_boundNode, a_pending, a_pendingCount, a_nodeKind, a_nodeValue, a_nodeA, a_nodeB, a_nodeResult, a_nodeUses, a_outputNode, se', od', st')) :
    wpX_listBelow post (f_maxNodes, f_maxRules, f_ruleCount, f_counterexample, f_optimized, f_nodeCount, f_outputCount, f_applications, a_preRelation, a_preVariable, a_preConstant, a_roomNeeded, a_useCount, a_treeSize, a_treeKind, a_treeValue, a_treeA, a_treeB, a_treeResult, a_constantValued, a_maximal, a_counterpart, a_boundNode, a_pending, a_pendingCount, a_nodeKind, a_nodeValue, a_nodeA, a_nodeB, a_nodeResult, a_nodeUses, a_outputNode, a_seen, a_order, a_walkStack) (nI n) (nI L.length) := by
  have tn2 := tn.2.1
  have hT := pr_gw_T hG
  have hrk := pr_gw_r hG n tn
  obtain ⟨M, eM, m1, m2, m3, m4⟩ := pr_po_ok hT 32 n hrk tn L nd cl
  have hlen : (L ++ M).length ≤ 32 := pr_len m1 (lo := lo) (fun x hx => by
    rcases List.mem_append.mp hx with hx | hx
    · exact hreg x hx
    · exact ⟨(m4 x hx).1.1, (m4 x hx).1.2.1⟩)
  unfold wpX_listBelow
  refine nm_e ⟨pk_in n 64 (by omega), ?_⟩
  rw [nI_clamp (by omega)]
  refine nm_e ⟨65, ?_⟩
  refine x_visit hlo hG hg 32 n hrk tn L nd cl hnL hreg 65 0 0 (upd a_seen n 1) a_order (upd a_walkStack 0 (nI n)) (by omega) (by omega) ?_ pk_us hls ?_ ?_ ?_
  · rw [eM]
    omega
  · intro c tc rc
    rw [pk_un (fun e => by rw [e] at rc; omega)]
    have := tc.2.1
    exact hse c (by omega)
  · rw [pk_us]
    decide
  · intro f' se' od' st' hf' _ hls' hsk
    obtain ⟨g, rfl⟩ : ∃ g, f' = g + 1 := ⟨f' - 1, by rw [eM] at hf'; omega⟩
    have hpost := h se' od' st' (fun c hc => ?_) hls'
    · by_cases h64 : (64 : Int32) ≤ nI (0 + 2 * (pr_po A B 32 n L).length - 2 * L.length - 1)
      · exact br_t h64 hpost
      · exact br_f h64 (br_t (by decide) hpost)
    · by_cases hx : c ∈ pr_po A B 32 n L
      · refine ⟨fun h0 => ?_, fun hn => absurd hx hn⟩
        exfalso
        by_cases hl : c ∈ L
        · have hcn : c ≠ n := fun e => hnL (e ▸ hl)
          rw [(hsk c).2 (Or.inl hl), pk_un hcn] at h0
          exact (hse c hc).mp h0 hl
        · exact (hsk c).1 hx hl h0
      · refine ⟨fun _ => hx, fun _ => ?_⟩
        have hcn : c ≠ n := fun e => hx (by rw [e, eM]; exact m3)
        rw [(hsk c).2 (Or.inr hx), pk_un hcn]
        exact (hse c hc).mpr fun hl => hx (by rw [eM]; exact List.mem_append_left _ hl)
theorem x_live25 {g oc : Nat} (hlo : lo ≤ 32) (hG : pr_gw lo K V A B rk) (hg : gr_at lo K V A B a_nodeKind a_nodeValue a_nodeA a_nodeB) (hgc : g < 2) (hoc : oc ≤ 4) (hO : ∀ k, k < oc → pr_T lo K (O (g * 4 + k)) ∧ a_outputNode (g * 4 + k) = nI (O (g * 4 + k)))
    (h : ∀ se' od' st', (∀ c, c < 64 → (se' c = 0 ↔ c ∉ pr_lv A B O (g * 4) oc)) → pr_ls od' (pr_lv A B O (g * 4) oc) → post (nI (pr_lv A B O (g * 4) oc).length) (f_maxNodes, f_maxRules, f_ruleCount, f_counterexample, f_optimized, f_nodeCount, (nI oc), f_applications, a_preRelation, a_preVariable, a_preConstant, a_roomNeeded, a_useCount, a_treeSize, a_treeKind, a_treeValue, a_treeA, a_treeB, a_treeResult, a_constantValued, a_maximal, a_counterpart, a_boundNode, a_pending, a_pendingCount, a_nodeKind, a_nodeValue, a_nodeA, a_nodeB, a_nodeResult, a_nodeUses, a_outputNode, se', od', st')) :
    ∀ d i se od st, i + d = oc → (∀ c, c < 64 → (se c = 0 ↔ c ∉ pr_lv A B O (g * 4) i)) → pr_ls od (pr_lv A B O (g * 4) i) → wX_listLive_25 post (nI g) (d + 1) (nI (pr_lv A B O (g * 4) i).length) (nI i) f_maxNodes f_maxRules f_ruleCount f_counterexample f_optimized f_nodeCount (nI oc) f_applications a_preRelation a_preVariable a_preConstant a_roomNeeded a_useCount a_treeSize a_treeKind a_treeValue a_treeA a_treeB a_treeResult a_constantValued a_maximal a_counterpart a_boundNode a_pending a_pendingCount a_nodeKind a_nodeValue a_nodeA a_nodeB a_nodeResult a_nodeUses a_outputNode se od st := by
  intro d
  have hT := pr_gw_T hG
  induction d with
  | zero =>
    intro i se od st hi hse hls
    refine pk_le oc i (fun _ => ?_) (fun h => absurd h (by omega))
    have e : i = oc := by omega
    subst e
    exact h se od st hse hls
  | succ d ih =>
    intro i se od st hi hse hls
    obtain ⟨to, eo⟩ := hO i (by omega)
    have to2 := to.2.1
    obtain ⟨l1, l2, l3, l4⟩ := pr_lv_ok (O := O) (ob := g * 4) hT (pr_gw_r hG) i (fun k hk => (hO k (by omega)).1)
    have e4 : nI g * 4 + nI i = nI (g * 4 + i) := by
      rw [show (4 : Int32) = nI 4 from rfl, pk_mul, nI_add]
    refine pk_le oc i (fun h => absurd h (by omega)) (fun _ => ?_)
    rw [e4]
    refine ⟨pk_in (g * 4 + i) 8 (by omega), ?_⟩
    rw [nI_clamp (by omega)]
    refine nm_r eo ⟨pk_in (O (g * 4 + i)) 64 (by omega), ?_⟩
    rw [nI_clamp (by omega)]
    refine br_c (fun h0 => ?_) (fun h0 => ?_)
    · have hnl := (hse _ (by omega)).mp h0
      refine x_listBelow hlo hG hg to l1 l2 hnl (fun x hx => ⟨(l4 x hx).1.1, (l4 x hx).1.2.1⟩) hls hse (fun se' od' st' h1 h2 => ?_)
      exact nm_r (nI_1 _) (ih (i + 1) se' od' st' (by omega) h1 h2)
    · have hin : O (g * 4 + i) ∈ pr_lv A B O (g * 4) i := by
        apply Classical.byContradiction
        intro hn
        exact h0 ((hse _ (by omega)).mpr hn)
      have ee : pr_lv A B O (g * 4) (i + 1) = pr_lv A B O (g * 4) i := by
        show (if O (g * 4 + i) ∈ pr_lv A B O (g * 4) i then pr_lv A B O (g * 4) i else _) = _
        rw [if_pos hin]
      have := ih (i + 1) se od st (by omega) (by rw [ee]; exact hse) (by rw [ee]; exact hls)
      rw [ee] at this
      exact nm_r (nI_1 _) this
theorem x_listLive {g oc : Nat} (hlo : lo ≤ 32) (hG : pr_gw lo K V A B rk) (hg : gr_at lo K V A B a_nodeKind a_nodeValue a_nodeA a_nodeB) (hgc : g < 2) (hoc : oc ≤ 4) (hO : ∀ k, k < oc → pr_T lo K (O (g * 4 + k)) ∧ a_outputNode (g * 4 + k) = nI (O (g * 4 + k)))
    (h : ∀ se' od' st', (∀ c, c < 64 → (se' c = 0 ↔ c ∉ pr_lv A B O (g * 4) oc)) → pr_ls od' (pr_lv A B O (g * 4) oc) → post (nI (pr_lv A B O (g * 4) oc).length) (f_maxNodes, f_maxRules, f_ruleCount, f_counterexample, f_optimized, f_nodeCount, (nI oc), f_applications, a_preRelation, a_preVariable, a_preConstant, a_roomNeeded, a_useCount, a_treeSize, a_treeKind, a_treeValue, a_treeA, a_treeB, a_treeResult, a_constantValued, a_maximal, a_counterpart, a_boundNode, a_pending, a_pendingCount, a_nodeKind, a_nodeValue, a_nodeA, a_nodeB, a_nodeResult, a_nodeUses, a_outputNode, se', od', st')) :
    wpX_listLive post (f_maxNodes, f_maxRules, f_ruleCount, f_counterexample, f_optimized, f_nodeCount, (nI oc), f_applications, a_preRelation, a_preVariable, a_preConstant, a_roomNeeded, a_useCount, a_treeSize, a_treeKind, a_treeValue, a_treeA, a_treeB, a_treeResult, a_constantValued, a_maximal, a_counterpart, a_boundNode, a_pending, a_pendingCount, a_nodeKind, a_nodeValue, a_nodeA, a_nodeB, a_nodeResult, a_nodeUses, a_outputNode, a_seen, a_order, a_walkStack) (nI g) := by
  have l2 : ∀ d i se, i + d = 64 → (∀ c, c < i → se c = 0) → wX_listLive_2 post (nI g) f_maxNodes f_maxRules f_ruleCount f_counterexample f_optimized f_nodeCount (nI oc) f_applications (d + 1) (nI i) a_preRelation a_preVariable a_preConstant a_roomNeeded a_useCount a_treeSize a_treeKind a_treeValue a_treeA a_treeB a_treeResult a_constantValued a_maximal a_counterpart a_boundNode a_pending a_pendingCount a_nodeKind a_nodeValue a_nodeA a_nodeB a_nodeResult a_nodeUses a_outputNode se a_order a_walkStack := by
    intro d
    induction d with
    | zero =>
      intro i se hi hse
      refine pk_le 64 i (fun _ => ⟨oc + 1, ?_⟩) (fun h => absurd h (by omega))
      refine x_live25 hlo hG hg hgc hoc hO h oc 0 se a_order a_walkStack (by omega) (fun c hc => ⟨fun _ hx => (by cases hx), fun _ => hse c (by omega)⟩) (fun i hi => absurd hi (by show ¬ i < 0; omega))
    | succ d ih =>
      intro i se hi hse
      refine pk_le 64 i (fun h => absurd h (by omega)) (fun _ => ⟨pk_in i 64 (by omega), ?_⟩)
      rw [nI_clamp (by omega)]
      refine nm_e (nm_r (nI_1 _) (ih (i + 1) _ (by omega) fun c hc => ?_))
      by_cases e : c = i
      · rw [e, pk_us]
      · rw [pk_un e]
        exact hse c (by omega)
  exact ⟨65, l2 64 0 a_seen (by omega) (fun c hc => absurd hc (by omega))⟩
end XI
