/-! X: deletion of what is not listed; uses counted -/
section XU
variable {f_maxNodes f_maxRules f_ruleCount f_counterexample f_optimized f_nodeCount f_outputCount f_applications : Int32} {a_preRelation a_preVariable a_preConstant a_roomNeeded a_useCount a_treeSize a_treeKind a_treeValue a_treeA a_treeB a_treeResult a_constantValued a_maximal a_counterpart a_boundNode a_pending a_pendingCount a_nodeKind a_nodeValue a_nodeA a_nodeB a_nodeResult a_nodeUses a_outputNode a_seen a_order a_walkStack : Nat → Int32}
variable {K : Nat → Nat} {V : Nat → Int32} {A B : Nat → Option Nat} {rk O : Nat → Nat} {L : List Nat} {post : St2 → Prop}
theorem x_delete (hse : ∀ c, c < 64 → (a_seen c = 0 ↔ c ∉ L))
    (h : ∀ nk nv na nb, (∀ n, n < 32 → n ∉ L → nk n = 0) → (∀ n, n ∈ L ∨ 32 ≤ n → nk n = a_nodeKind n ∧ nv n = a_nodeValue n ∧ na n = a_nodeA n ∧ nb n = a_nodeB n) → post (f_maxNodes, f_maxRules, f_ruleCount, f_counterexample, f_optimized, f_nodeCount, f_outputCount, f_applications, a_preRelation, a_preVariable, a_preConstant, a_roomNeeded, a_useCount, a_treeSize, a_treeKind, a_treeValue, a_treeA, a_treeB, a_treeResult, a_constantValued, a_maximal, a_counterpart, a_boundNode, a_pending, a_pendingCount, nk, nv, na, nb, a_nodeResult, a_nodeUses, a_outputNode, a_seen, a_order, a_walkStack)) : wpX_deleteUnseenNodes post (f_maxNodes, f_maxRules, f_ruleCount, f_counterexample, f_optimized, f_nodeCount, f_outputCount, f_applications, a_preRelation, a_preVariable, a_preConstant, a_roomNeeded, a_useCount, a_treeSize, a_treeKind, a_treeValue, a_treeA, a_treeB, a_treeResult, a_constantValued, a_maximal, a_counterpart, a_boundNode, a_pending, a_pendingCount, a_nodeKind, a_nodeValue, a_nodeA, a_nodeB, a_nodeResult, a_nodeUses, a_outputNode, a_seen, a_order, a_walkStack) := by
  have l : ∀ d i nk nv na nb, i + d = 32 → (∀ n, n < i → n ∉ L → nk n = 0) → (∀ n, n ∈ L ∨ i ≤ n → nk n = a_nodeKind n ∧ nv n = a_nodeValue n ∧ na n = a_nodeA n ∧ nb n = a_nodeB n) → wX_deleteUnseenNodes_2 post (d + 1) (nI i) f_maxNodes f_maxRules f_ruleCount f_counterexample f_optimized f_nodeCount f_outputCount f_applications a_preRelation a_preVariable a_preConstant a_roomNeeded a_useCount a_treeSize a_treeKind a_treeValue a_treeA a_treeB a_treeResult a_constantValued a_maximal a_counterpart a_boundNode a_pending a_pendingCount nk nv na nb a_nodeResult a_nodeUses a_outputNode a_seen a_order a_walkStack := by
    intro d
    induction d with
    | zero =>
      intro i nk nv na nb hi h1 h2
      exact pk_le 32 i (fun _ => h nk nv na nb (fun n hn => h1 n (by omega)) (fun n hn => h2 n (by rcases hn with x | x; exact Or.inl x; exact Or.inr (by omega)))) (fun h => absurd h (by omega))
    | succ d ih =>
      intro i nk nv na nb hi h1 h2
      have hs := hse i (by omega)
      refine pk_le 32 i (fun h => absurd h (by omega)) (fun _ => ⟨pk_in i 64 (by omega), ?_⟩)
      rw [nI_clamp (by omega)]
      refine br_c (fun h0 => ?_) (fun h0 => nm_r (nI_1 _) (ih (i + 1) nk nv na nb (by omega) (fun n hn hl => ?_) (fun n hn => h2 n (by rcases hn with x | x; exact Or.inl x; exact Or.inr (by omega)))))
      · have hl := hs.mp h0
        refine x_setNode (by omega) (nm_r (nI_1 _) (ih (i + 1) _ _ _ _ (by omega) (fun n hn hnl => ?_) (fun n hn => ?_)))
        · by_cases e : n = i
          · rw [e, pk_us]
          · rw [pk_un e]
            exact h1 n (by omega) hnl
        · have e : n ≠ i := by
            intro e
            subst e
            rcases hn with x | x
            · exact hl x
            · omega
          rw [pk_un e, pk_un e, pk_un e, pk_un e]
          exact h2 n (by rcases hn with x | x; exact Or.inl x; exact Or.inr (by omega))
      · by_cases e : n = i
        · subst e
          exact absurd (hs.mpr hl) h0
        · exact h1 n (by omega) hl
  exact ⟨33, l 32 0 _ _ _ _ (by omega) (fun n hn => absurd hn (by omega)) (fun n _ => ⟨rfl, rfl, rfl, rfl⟩)⟩
theorem x_uses97 {oc : Nat} {us0 : Nat → Nat} (hoc : oc ≤ 4) (hO : ∀ k, k < oc → pr_T 0 K (O k) ∧ a_outputNode k = nI (O k)) (hOL : ∀ k, k < oc → O k ∈ L)
    (h : ∀ nu, (∀ d, d ∈ L → nu d = nI (us0 d + pr_rs (fun k => if O k = d then 1 else 0) 0 oc)) → post (f_maxNodes, f_maxRules, f_ruleCount, f_counterexample, f_optimized, f_nodeCount, (nI oc), f_applications, a_preRelation, a_preVariable, a_preConstant, a_roomNeeded, a_useCount, a_treeSize, a_treeKind, a_treeValue, a_treeA, a_treeB, a_treeResult, a_constantValued, a_maximal, a_counterpart, a_boundNode, a_pending, a_pendingCount, a_nodeKind, a_nodeValue, a_nodeA, a_nodeB, a_nodeResult, nu, a_outputNode, a_seen, a_order, a_walkStack)) :
    ∀ d i nu, i + d = oc → (∀ x, x ∈ L → nu x = nI (us0 x + pr_rs (fun k => if O k = x then 1 else 0) 0 i)) → wX_countUses_97 post f_maxNodes f_maxRules f_ruleCount f_counterexample f_optimized f_nodeCount (nI oc) f_applications (d + 1) (nI i) a_preRelation a_preVariable a_preConstant a_roomNeeded a_useCount a_treeSize a_treeKind a_treeValue a_treeA a_treeB a_treeResult a_constantValued a_maximal a_counterpart a_boundNode a_pending a_pendingCount a_nodeKind a_nodeValue a_nodeA a_nodeB a_nodeResult nu a_outputNode a_seen a_order a_walkStack := by
  intro d
  induction d with
  | zero =>
    intro i nu hi hu
    have e : i = oc := by omega
    subst e
    exact pk_le i i (fun _ => h nu hu) (fun h => absurd h (by omega))
  | succ d ih =>
    intro i nu hi hu
    obtain ⟨to, eo⟩ := hO i (by omega)
    have to2 := to.2.1
    have hin : vp_in (nI (O i)) 64 := pk_in (O i) 64 (by omega)
    refine pk_le oc i (fun h => absurd h (by omega)) (fun _ => ⟨pk_in i 8 (by omega), ?_⟩)
    rw [nI_clamp (n := i) (by omega), eo, nI_clamp (by omega), hu _ (hOL i (by omega)), nI_1]
    refine ⟨hin, hin, nm_e (nm_r (nI_1 _) (ih (i + 1) _ (by omega) fun x hx => ?_))⟩
    show _ = nI (us0 x + (pr_rs (fun k => if O k = x then 1 else 0) 0 i + (if O (0 + i) = x then 1 else 0)))
    rw [Nat.zero_add]
    by_cases e : x = O i
    · subst e
      rw [pk_us, if_pos rfl, Nat.add_assoc]
    · rw [pk_un e, if_neg (fun h => e h.symm), Nat.add_zero]
      exact hu x hx
theorem x_uses27 (hG : pr_gw 0 K V A B rk) (hg : gr_at 0 K V A B a_nodeKind a_nodeValue a_nodeA a_nodeB) (hLT : ∀ x, x ∈ L → pr_T 0 K x) (hcl : pr_cl A B (fun x => x ∈ L)) (hlen : L.length ≤ 32) (hls : pr_ls a_order L)
    (h : ∀ nu, (∀ d, d ∈ L → nu d = nI (pr_sm (pr_e1 A B d) L)) → ∃ n, wX_countUses_97 post f_maxNodes f_maxRules f_ruleCount f_counterexample f_optimized f_nodeCount f_outputCount f_applications n 0 a_preRelation a_preVariable a_preConstant a_roomNeeded a_useCount a_treeSize a_treeKind a_treeValue a_treeA a_treeB a_treeResult a_constantValued a_maximal a_counterpart a_boundNode a_pending a_pendingCount a_nodeKind a_nodeValue a_nodeA a_nodeB a_nodeResult nu a_outputNode a_seen a_order a_walkStack) :
    ∀ d i nu, i + d = L.length → (∀ x, x ∈ L → nu x = nI (pr_sm (pr_e1 A B x) (L.take i))) → wX_countUses_27 post (nI L.length) f_maxNodes f_maxRules f_ruleCount f_counterexample f_optimized f_nodeCount f_outputCount f_applications (d + 1) (nI i) a_preRelation a_preVariable a_preConstant a_roomNeeded a_useCount a_treeSize a_treeKind a_treeValue a_treeA a_treeB a_treeResult a_constantValued a_maximal a_counterpart a_boundNode a_pending a_pendingCount a_nodeKind a_nodeValue a_nodeA a_nodeB a_nodeResult nu a_outputNode a_seen a_order a_walkStack := by
  intro d
  induction d with
  | zero =>
    intro i nu hi hu
    refine pk_le L.length i (fun _ => h nu fun x hx => ?_) (fun h => absurd h (by omega))
    rw [hu x hx, show i = L.length by omega, pr_sm_all]
  | succ d ih =>
    intro i nu hi hu
    have hi' : i < L.length := by omega
    have hmem := pr_gd_m hi'
    have tx := hLT _ hmem
    have tx2 := tx.2.1
    obtain ⟨k1, k2, k3, k4⟩ := hg _ tx
    obtain ⟨g1, g2, g3, g4, g5, g6, g7, g8, g9, g10⟩ := hG _ tx
    have hin : vp_in (nI (L.getD i 0)) 64 := pk_in (L.getD i 0) 64 (by omega)
    have hcx : (nI (L.getD i 0)).toNatClampNeg = L.getD i 0 := nI_clamp (by omega)
    have nx : ∀ nu', (∀ x, x ∈ L → nu' x = nI (pr_sm (pr_e1 A B x) (L.take i) + pr_e1 A B x (L.getD i 0))) → wX_countUses_27 post (nI L.length) f_maxNodes f_maxRules f_ruleCount f_counterexample f_optimized f_nodeCount f_outputCount f_applications (d + 1) (nI (i + 1)) a_preRelation a_preVariable a_preConstant a_roomNeeded a_useCount a_treeSize a_treeKind a_treeValue a_treeA a_treeB a_treeResult a_constantValued a_maximal a_counterpart a_boundNode a_pending a_pendingCount a_nodeKind a_nodeValue a_nodeA a_nodeB a_nodeResult nu' a_outputNode a_seen a_order a_walkStack := by
      intro nu' hn'
      refine ih (i + 1) nu' (by omega) fun x hx => ?_
      rw [pr_sm_tk _ L i hi']
      exact hn' x hx
    have h64 : ∀ nu', (∀ x, x ∈ L → nu' x = nI (pr_sm (pr_e1 A B x) (L.take i) + (if A (L.getD i 0) = some x then 1 else 0))) → wX_countUses_64 post (wX_countUses_27 post (nI L.length) f_maxNodes f_maxRules f_ruleCount f_counterexample f_optimized f_nodeCount f_outputCount f_applications (d + 1)) (nI L.length) (nI i) (nI (L.getD i 0)) f_maxNodes f_maxRules f_ruleCount f_counterexample f_optimized f_nodeCount f_outputCount f_applications a_preRelation a_preVariable a_preConstant a_roomNeeded a_useCount a_treeSize a_treeKind a_treeValue a_treeA a_treeB a_treeResult a_constantValued a_maximal a_counterpart a_boundNode a_pending a_pendingCount a_nodeKind a_nodeValue a_nodeA a_nodeB a_nodeResult nu' a_outputNode a_seen a_order a_walkStack := by
      intro nu' hn'
      refine ⟨hin, ?_⟩
      rw [hcx, k4]
      cases hb : B (L.getD i 0) with
      | none =>
        refine br_t rfl (nm_r (nI_1 _) (nx nu' fun x hx => ?_))
        have e1 : pr_e1 A B x (L.getD i 0) = (if A (L.getD i 0) = some x then 1 else 0) + (if B (L.getD i 0) = some x then 1 else 0) := rfl
        rw [hb, if_neg (c := none = some x) (fun h => (nomatch h)), Nat.add_zero] at e1
        rw [hn' x hx, e1]
      | some c =>
        have hcL := hcl _ c hmem (Or.inr hb)
        have tc := (hLT c hcL).2.1
        have hinc : vp_in (nI c) 64 := pk_in c 64 (by omega)
        refine br_f (pr_ne1 (by omega)) ⟨hin, hinc, hinc, ?_⟩
        rw [show (pr_oI (some c)).toNatClampNeg = c from nI_clamp (by omega), hn' c hcL, nI_1]
        refine nm_e (nm_r (nI_1 _) (nx _ fun x hx => ?_))
        have e1 : pr_e1 A B x (L.getD i 0) = (if A (L.getD i 0) = some x then 1 else 0) + (if B (L.getD i 0) = some x then 1 else 0) := rfl
        rw [hb] at e1
        by_cases e : x = c
        · subst e
          rw [if_pos (c := some x = some x) rfl] at e1
          rw [pk_us, e1]
          exact congrArg nI (by omega)
        · rw [if_neg (c := some c = some x) (fun h => e (Option.some.inj h).symm), Nat.add_zero] at e1
          rw [pk_un e, hn' x hx, e1]
    refine pk_le L.length i (fun h => absurd h (by omega)) (fun _ => ⟨pk_in i 32 (by omega), ?_⟩)
    rw [nI_clamp (n := i) (by omega)]
    refine nm_r (hls i hi') ⟨hin, ?_⟩
    rw [hcx, k3]
    cases ha : A (L.getD i 0) with
    | none =>
      refine br_t rfl (h64 nu fun x hx => ?_)
      rw [ha, if_neg (fun h => (nomatch h)), Nat.add_zero]
      exact hu x hx
    | some c =>
      have hcL := hcl _ c hmem (Or.inl ha)
      have tc := (hLT c hcL).2.1
      have hinc : vp_in (nI c) 64 := pk_in c 64 (by omega)
      refine br_f (pr_ne1 (by omega)) ⟨hin, hinc, hinc, ?_⟩
      rw [show (pr_oI (some c)).toNatClampNeg = c from nI_clamp (by omega), hu c hcL, nI_1]
      refine nm_e (h64 _ fun x hx => ?_)
      rw [ha]
      by_cases e : x = c
      · subst e
        rw [pk_us, if_pos rfl]
      · rw [pk_un e, if_neg (fun h => e (Option.some.inj h).symm), Nat.add_zero]
        exact hu x hx
theorem x_countUses {oc : Nat} (hG : pr_gw 0 K V A B rk) (hg : gr_at 0 K V A B a_nodeKind a_nodeValue a_nodeA a_nodeB) (hL : pr_lk (pr_T 0 K) A B O 0 oc L) (hoc : oc ≤ 4) (hO : ∀ k, k < oc → pr_T 0 K (O k) ∧ a_outputNode k = nI (O k)) (hls : pr_ls a_order L)
    (h : ∀ nu, (∀ d, d ∈ L → nu d = nI (pr_us A B O L oc d)) → post (f_maxNodes, f_maxRules, f_ruleCount, f_counterexample, f_optimized, f_nodeCount, (nI oc), f_applications, a_preRelation, a_preVariable, a_preConstant, a_roomNeeded, a_useCount, a_treeSize, a_treeKind, a_treeValue, a_treeA, a_treeB, a_treeResult, a_constantValued, a_maximal, a_counterpart, a_boundNode, a_pending, a_pendingCount, a_nodeKind, a_nodeValue, a_nodeA, a_nodeB, a_nodeResult, nu, a_outputNode, a_seen, a_order, a_walkStack)) : wpX_countUses post (f_maxNodes, f_maxRules, f_ruleCount, f_counterexample, f_optimized, f_nodeCount, (nI oc), f_applications, a_preRelation, a_preVariable, a_preConstant, a_roomNeeded, a_useCount, a_treeSize, a_treeKind, a_treeValue, a_treeA, a_treeB, a_treeResult, a_constantValued, a_maximal, a_counterpart, a_boundNode, a_pending, a_pendingCount, a_nodeKind, a_nodeValue, a_nodeA, a_nodeB, a_nodeResult, a_nodeUses, a_outputNode, a_seen, a_order, a_walkStack) (nI L.length) := by
  have hLT : ∀ x, x ∈ L → pr_T 0 K x := fun x hx => (hL.2.2.2 x hx).1
  have hlen := pr_len (lo := 0) (n := 32) hL.1 (fun x hx => ⟨(hLT x hx).1, (hLT x hx).2.1⟩)
  have hOL : ∀ k, k < oc → O k ∈ L := fun k hk => by
    have := hL.2.2.1 k hk
    rw [Nat.zero_add] at this
    exact this
  have l2 : ∀ d i nu, i + d = L.length → (∀ q, q < i → nu (L.getD q 0) = 0) → wX_countUses_2 post (nI L.length) f_maxNodes f_maxRules f_ruleCount f_counterexample f_optimized f_nodeCount (nI oc) f_applications (d + 1) (nI i) a_preRelation a_preVariable a_preConstant a_roomNeeded a_useCount a_treeSize a_treeKind a_treeValue a_treeA a_treeB a_treeResult a_constantValued a_maximal a_counterpart a_boundNode a_pending a_pendingCount a_nodeKind a_nodeValue a_nodeA a_nodeB a_nodeResult nu a_outputNode a_seen a_order a_walkStack := by
    intro d
    induction d with
    | zero =>
      intro i nu hi hu
      refine pk_le L.length i (fun _ => ⟨L.length + 1, ?_⟩) (fun h => absurd h (by omega))
      refine x_uses27 hG hg hLT hL.2.1 hlen hls (fun nu' hn' => ⟨oc + 1, ?_⟩) L.length 0 nu (by omega) (fun x hx => ?_)
      · exact x_uses97 (us0 := fun d => pr_sm (pr_e1 A B d) L) hoc hO hOL (fun nu2 hn2 => h nu2 hn2) oc 0 nu' (by omega) hn'
      · obtain ⟨q, q1, q2⟩ := pr_gd_ex hx
        have := hu q (by omega)
        rw [q2] at this
        rw [this]
        rfl
    | succ d ih =>
      intro i nu hi hu
      have hi' : i < L.length := by omega
      have tx2 := (hLT _ (pr_gd_m hi')).2.1
      refine pk_le L.length i (fun h => absurd h (by omega)) (fun _ => ⟨pk_in i 32 (by omega), ?_⟩)
      rw [nI_clamp (n := i) (by omega), hls i hi']
      refine ⟨pk_in (L.getD i 0) 64 (by omega), ?_⟩
      rw [nI_clamp (by omega)]
      refine nm_e (nm_r (nI_1 _) (ih (i + 1) _ (by omega) fun q hq => ?_))
      by_cases e : L.getD q 0 = L.getD i 0
      · rw [e, pk_us]
      · rw [pk_un e]
        refine hu q ?_
        have : q ≠ i := fun hx => e (by rw [hx])
        omega
  exact ⟨L.length + 1, l2 L.length 0 a_nodeUses (by omega) (fun q hq => absurd hq (by omega))⟩
end XU
