/-! X: applyRule -/
theorem pr_root_ns {R : pr_PT} {C : Nat → Bool} (hRf : pt_fin R) : ¬ pb_sk R C (pt_n R - 1) := by
  intro hsk
  have := hsk.2
  unfold pt_mx at this
  rw [hsk.1, hRf.2.1] at this
  cases this
theorem pr_oI_rd {Rn y n : Nat} {f : Nat → Option Nat} {g : Nat → Int32} (hn : n < 32) (hR : Rn < 2 ^ 31) (hc : ∀ c, f n = some c → c < 2 ^ 31) (hg : g n = pr_oI (f n)) : (if n < 32 ∧ g n = nI Rn then nI y else g n) = pr_oI (pa_A Rn y f n) := by
  unfold pa_A
  rw [if_pos hn]
  unfold pr_rd
  rw [hg]
  cases e : f n with
  | none =>
    rw [if_neg (fun hh => pr_ne1 hR hh.2.symm), if_neg (fun h => (nomatch h))]
  | some c =>
    by_cases ec : c = Rn
    · subst ec
      rw [if_pos ⟨hn, rfl⟩, if_pos rfl]
      rfl
    · rw [if_neg (fun hh => ec (pr_im hh.2 (hc c e) hR)), if_neg (fun h => ec (Option.some.inj h))]
section XX
variable {f_maxNodes f_maxRules f_ruleCount f_counterexample f_optimized f_nodeCount f_outputCount f_applications : Int32} {a_preRelation a_preVariable a_preConstant a_roomNeeded a_useCount a_treeSize a_treeKind a_treeValue a_treeA a_treeB a_treeResult a_constantValued a_maximal a_counterpart a_boundNode a_pending a_pendingCount a_nodeKind a_nodeValue a_nodeA a_nodeB a_nodeResult a_nodeUses a_outputNode a_seen a_order a_walkStack : Nat → Int32}
variable {K : Nat → Nat} {V : Nat → Int32} {A B : Nat → Option Nat} {O : Nat → Nat} {R : pr_PT} {C : Nat → Bool} {tv : Nat → Int32} {bd : Nat → Option Nat}
theorem x_applyRule {post : St2 → Prop} {r oc Rn y : Nat} {s : pb_S} (hr : r < 17) (hoc : oc ≤ 4) (hRn : Rn < 32) (hR : pt_ok R) (hRf : pt_fin R) (h14 : ∀ i, i < pt_n R → pt_k R i ≠ 14) (hU : tr_at ((r * 2 + 1) * 8) (r * 2 + 1) R a_treeSize a_treeKind a_treeValue a_treeA a_treeB) (hcv : ∀ q, q < pt_n R → a_constantValued ((r * 2 + 1) * 8 + q) = pr_b (pt_cv R C q)) (hmx : ∀ q, q < pt_n R → a_maximal ((r * 2 + 1) * 8 + q) = pr_b (pt_mx R C q)) (hbn : ∀ j, j < 2 → a_boundNode j = pr_oI (bd j)) (hbT : ∀ j d, bd j = some d → pr_T 0 K d)
    (hg : gr_at 0 K V A B a_nodeKind a_nodeValue a_nodeA a_nodeB) (hk : ∀ n, n < 32 → a_nodeKind n = nI (K n)) (htv : ∀ q, q < pt_n R → pt_cv R C q = true → pt_tv R (bx_v V bd 0) (bx_v V bd 1) q = tv q) (hfx : ∀ i, i ≤ pt_n R → pb_fx R C i (pb_run R C tv bd i (K, V, A, B, fun _ => none))) (hs : s = pb_run R C tv bd (pt_n R) (K, V, A, B, fun _ => none)) (hy : s.2.2.2.2 (pt_n R - 1) = some y) (hy32 : y < 32)
    (hop : ∀ n c, pr_T 0 s.1 n → (s.2.2.1 n = some c ∨ s.2.2.2.1 n = some c) → c < 32) (hO : ∀ k, k < oc → O k < 32 ∧ a_outputNode k = nI (O k))
    (h : ∀ nk nv na nb ou tr cp, gr_at 0 s.1 s.2.1 (pa_A Rn y s.2.2.1) (pa_A Rn y s.2.2.2.1) nk nv na nb → (∀ n, 32 ≤ n → nk n = a_nodeKind n ∧ nv n = a_nodeValue n ∧ na n = a_nodeA n ∧ nb n = a_nodeB n) → (∀ k, k < oc → ou k = nI (pa_O Rn y oc O k)) → (∀ k, 4 ≤ k → ou k = a_outputNode k) → post (f_maxNodes, f_maxRules, f_ruleCount, f_counterexample, f_optimized, f_nodeCount, (nI oc), (f_applications + 1), a_preRelation, a_preVariable, a_preConstant, a_roomNeeded, (upd a_useCount r (a_useCount r + 1)), a_treeSize, a_treeKind, a_treeValue, a_treeA, a_treeB, tr, a_constantValued, a_maximal, cp, a_boundNode, a_pending, a_pendingCount, nk, nv, na, nb, a_nodeResult, a_nodeUses, ou, a_seen, a_order, a_walkStack)) :
    wpX_applyRule post (f_maxNodes, f_maxRules, f_ruleCount, f_counterexample, f_optimized, f_nodeCount, (nI oc), f_applications, a_preRelation, a_preVariable, a_preConstant, a_roomNeeded, a_useCount, a_treeSize, a_treeKind, a_treeValue, a_treeA, a_treeB, a_treeResult, a_constantValued, a_maximal, a_counterpart, a_boundNode, a_pending, a_pendingCount, a_nodeKind, a_nodeValue, a_nodeA, a_nodeB, a_nodeResult, a_nodeUses, a_outputNode, a_seen, a_order, a_walkStack) (nI r) (nI Rn) := by
  have h8 := hR.1
  have h0 := hRf.1
  have l43 : ∀ tr, (∀ q, q < pt_n R → tr ((r * 2 + 1) * 8 + q) = pt_tv R (bx_v V bd 0) (bx_v V bd 1) q) → ∀ d i nk nv na nb cp, i + d = pt_n R → xb_at (r * 2 + 1) R C i (pb_run R C tv bd i (K, V, A, B, fun _ => none)) a_nodeKind a_nodeValue a_nodeA a_nodeB nk nv na nb cp → wX_applyRule_43 post (nI r) (nI Rn) (nI ((r * 2 + 1) * 8 + pt_n R)) (d + 1) (nI ((r * 2 + 1) * 8 + i)) f_maxNodes f_maxRules f_ruleCount f_counterexample f_optimized f_nodeCount (nI oc) f_applications a_preRelation a_preVariable a_preConstant a_roomNeeded a_useCount a_treeSize a_treeKind a_treeValue a_treeA a_treeB tr a_constantValued a_maximal cp a_boundNode a_pending a_pendingCount nk nv na nb a_nodeResult a_nodeUses a_outputNode a_seen a_order a_walkStack := by
    intro tr htr d
    induction d with
    | zero =>
      intro i nk nv na nb cp hi hb
      have ei : i = pt_n R := by omega
      subst ei
      rw [← hs] at hb
      refine pk_le ((r * 2 + 1) * 8 + pt_n R) ((r * 2 + 1) * 8 + pt_n R) (fun _ => ?_) (fun h => absurd h (by omega))
      have e1 : nI ((r * 2 + 1) * 8 + pt_n R) - 1 = nI ((r * 2 + 1) * 8 + (pt_n R - 1)) := by
        rw [pr_s1 (by omega)]
        exact congrArg nI (by omega)
      rw [e1]
      refine ⟨pk_in ((r * 2 + 1) * 8 + (pt_n R - 1)) 272 (by omega), ?_⟩
      rw [nI_clamp (n := (r * 2 + 1) * 8 + (pt_n R - 1)) (by omega), hb.2.2.2 (pt_n R - 1) (by omega) (pr_root_ns hRf), hy]
      have hinr : vp_in (nI r) 17 := pk_in r 17 hr
      refine x_redirect (y := y) hoc (fun na' nb' ou' k1 k2 k3 => nm_e ⟨hinr, hinr, ?_⟩)
      rw [nI_clamp (by omega)]
      refine nm_e (h nk nv na' nb' ou' tr cp (fun n hn => ?_) (fun n hn => ?_) (fun k hk => ?_) (fun k hk => ?_))
      · obtain ⟨z1, z2, z3, z4⟩ := hb.2.1 n hn
        have hn32 : n < 32 := by have := hn.2.1; omega
        refine ⟨z1, z2, ?_, ?_⟩
        · rw [k1 n]
          exact pr_oI_rd hn32 (by omega) (fun c hc => by have := hop n c hn (Or.inl hc); omega) z3
        · rw [k2 n]
          exact pr_oI_rd hn32 (by omega) (fun c hc => by have := hop n c hn (Or.inr hc); omega) z4
      · rw [k1 n, k2 n, if_neg (fun hh => absurd hh.1 (by omega)), if_neg (fun hh => absurd hh.1 (by omega))]
        exact hb.2.2.1 n hn
      · obtain ⟨o1, o2⟩ := hO k hk
        rw [k3 k, o2]
        unfold pa_O
        by_cases e : O k = Rn
        · rw [if_pos ⟨hk, by rw [e]⟩, if_pos ⟨hk, e⟩]
        · rw [if_neg (fun hh => e (pr_im hh.2 (by omega) (by omega))), if_neg (fun hh => e hh.2)]
      · rw [k3 k, if_neg (fun hh => absurd hh.1 (by omega))]
    | succ d ih =>
      intro i nk nv na nb cp hi hb
      refine pk_le ((r * 2 + 1) * 8 + pt_n R) ((r * 2 + 1) * 8 + i) (fun h => absurd h (by omega)) (fun _ => ?_)
      refine x_buildNode (R := R) (C := C) (tv := tv) (bd := bd) (w := r * 2 + 1) (nk0 := a_nodeKind) (nv0 := a_nodeValue) (na0 := a_nodeA) (nb0 := a_nodeB) (by omega) hR h14 (by omega) hU hcv hmx (fun q hq hc => by rw [htr q hq]; exact htv q hq hc) hbn (hfx i (by omega)) hb (fun rr nk' nv' na' nb' hb' => ⟨pk_in ((r * 2 + 1) * 8 + i) 272 (by omega), ?_⟩)
      rw [nI_clamp (by omega)]
      exact nm_e (nm_r (nI_1 _) (ih (i + 1) nk' nv' na' nb' _ (by omega) hb'))
  unfold wpX_applyRule
  refine x_treeOf r 1 ?_
  refine x_endOf (by omega) hU.1 ?_
  refine x_boundValue (j := 0) (bd := bd) (K := K) (A := A) (B := B) (by omega) hg (hbn 0 (by omega)) (hbT 0) ?_
  refine x_boundValue (j := 1) (bd := bd) (K := K) (A := A) (B := B) (by omega) hg (hbn 1 (by omega)) (hbT 1) ?_
  refine x_evaluateTree (by omega) hR h0 hU (fun tr htr => ?_)
  refine x_firstOf ⟨pt_n R + 1, ?_⟩
  exact l43 tr htr (pt_n R) 0 _ _ _ _ _ (by omega) ⟨hk, hg, fun n _ => ⟨rfl, rfl, rfl, rfl⟩, fun q hq => absurd hq (by omega)⟩
end XX
