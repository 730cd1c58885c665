/-! X: the walk over a graph -/
def gr_at (lo : Nat) (K : Nat → Nat) (V : Nat → Int32) (A B : Nat → Option Nat) (ka va aa ba : Nat → Int32) : Prop :=
  ∀ n, pr_T lo K n → ka n = nI (K n) ∧ va n = V n ∧ aa n = pr_oI (A n) ∧ ba n = pr_oI (B n)
def pr_ls (od : Nat → Int32) (L : List Nat) : Prop := ∀ i, i < L.length → od i = nI (L.getD i 0)
theorem pr_gd_l {L M : List Nat} {i : Nat} (h : i < L.length) : (L ++ M).getD i 0 = L.getD i 0 := by
  rw [List.getD_eq_getElem?_getD, List.getD_eq_getElem?_getD, List.getElem?_append_left h]
theorem pr_gd_s {L : List Nat} {n : Nat} : (L ++ [n]).getD L.length 0 = n := by
  simp [List.getD_eq_getElem?_getD]
theorem pr_gd_m {L : List Nat} {i : Nat} (h : i < L.length) : L.getD i 0 ∈ L := by
  rw [List.getD_eq_getElem?_getD, List.getElem?_eq_getElem h]
  exact List.getElem_mem h
theorem pr_ls_s {od : Nat → Int32} {L : List Nat} {n : Nat} (h : pr_ls od L) : pr_ls (upd od L.length (nI n)) (L ++ [n]) := by
  intro i hi
  rw [List.length_append, List.length_singleton] at hi
  by_cases e : i = L.length
  · rw [e, pk_us, pr_gd_s]
  · rw [pk_un e, pr_gd_l (by omega)]
    exact h i (by omega)
section XG
variable {f_maxNodes f_maxRules f_ruleCount f_counterexample f_optimized f_nodeCount f_outputCount f_applications : Int32} {a_preRelation a_preVariable a_preConstant a_roomNeeded a_useCount a_treeSize a_treeKind a_treeValue a_treeA a_treeB a_treeResult a_constantValued a_maximal a_counterpart a_boundNode a_pending a_pendingCount a_nodeKind a_nodeValue a_nodeA a_nodeB a_nodeResult a_nodeUses a_outputNode a_seen a_order a_walkStack : Nat → Int32}
variable {lo : Nat} {K : Nat → Nat} {V : Nat → Int32} {A B : Nat → Option Nat} {rk : Nat → Nat}
theorem x_un_31B {post : Int32 → Prop} (hlo : lo ≤ 32) (hg : gr_at lo K V A B a_nodeKind a_nodeValue a_nodeA a_nodeB) {n c : Nat} (hn : pr_T lo K n) (hc : pr_T lo K c) (e : B n = some c) (h0 : a_seen c = 0) (h : post (nI c)) : wX_unseenOperand_31 post (nI n) f_maxNodes f_maxRules f_ruleCount f_counterexample f_optimized f_nodeCount f_outputCount f_applications a_preRelation a_preVariable a_preConstant a_roomNeeded a_useCount a_treeSize a_treeKind a_treeValue a_treeA a_treeB a_treeResult a_constantValued a_maximal a_counterpart a_boundNode a_pending a_pendingCount a_nodeKind a_nodeValue a_nodeA a_nodeB a_nodeResult a_nodeUses a_outputNode a_seen a_order a_walkStack := by
  have hn2 := hn.2.1
  have hc2 := hc.2.1
  have hin : vp_in (nI n) 64 := pk_in n 64 (by omega)
  refine ⟨hin, ?_⟩
  rw [nI_clamp (by omega), (hg n hn).2.2.2, e]
  refine br_f (pr_ne1 (by omega)) ⟨hin, pk_in c 64 (by omega), ?_⟩
  rw [show (pr_oI (some c)).toNatClampNeg = c from nI_clamp (by omega)]
  exact br_t h0 ⟨hin, h⟩
theorem x_un_31N {post : Int32 → Prop} (hlo : lo ≤ 32) (hg : gr_at lo K V A B a_nodeKind a_nodeValue a_nodeA a_nodeB) (hT : ∀ n c, pr_T lo K n → (A n = some c ∨ B n = some c) → pr_T lo K c ∧ rk c < rk n) {n : Nat} (hn : pr_T lo K n) (h0 : ∀ c, B n = some c → a_seen c ≠ 0) (h : post (-1)) : wX_unseenOperand_31 post (nI n) f_maxNodes f_maxRules f_ruleCount f_counterexample f_optimized f_nodeCount f_outputCount f_applications a_preRelation a_preVariable a_preConstant a_roomNeeded a_useCount a_treeSize a_treeKind a_treeValue a_treeA a_treeB a_treeResult a_constantValued a_maximal a_counterpart a_boundNode a_pending a_pendingCount a_nodeKind a_nodeValue a_nodeA a_nodeB a_nodeResult a_nodeUses a_outputNode a_seen a_order a_walkStack := by
  have hn2 := hn.2.1
  have hin : vp_in (nI n) 64 := pk_in n 64 (by omega)
  refine ⟨hin, ?_⟩
  rw [nI_clamp (by omega), (hg n hn).2.2.2]
  cases e : B n with
  | none => exact br_t rfl h
  | some c =>
    have hc2 := (hT n c hn (Or.inr e)).1.2.1
    refine br_f (pr_ne1 (by omega)) ⟨hin, pk_in c 64 (by omega), ?_⟩
    rw [show (pr_oI (some c)).toNatClampNeg = c from nI_clamp (by omega)]
    exact br_f (h0 c e) h
theorem x_un_A {post : Int32 → Prop} (hlo : lo ≤ 32) (hg : gr_at lo K V A B a_nodeKind a_nodeValue a_nodeA a_nodeB) {n c : Nat} (hn : pr_T lo K n) (hc : pr_T lo K c) (e : A n = some c) (h0 : a_seen c = 0) (h : post (nI c)) : wpX_unseenOperand post (f_maxNodes, f_maxRules, f_ruleCount, f_counterexample, f_optimized, f_nodeCount, f_outputCount, f_applications, a_preRelation, a_preVariable, a_preConstant, a_roomNeeded, a_useCount, a_treeSize, a_treeKind, a_treeValue, a_treeA, a_treeB, a_treeResult, a_constantValued, a_maximal, a_counterpart, a_boundNode, a_pending, a_pendingCount, a_nodeKind, a_nodeValue, a_nodeA, a_nodeB, a_nodeResult, a_nodeUses, a_outputNode, a_seen, a_order, a_walkStack) (nI n) := by
  have hn2 := hn.2.1
  have hc2 := hc.2.1
  have hin : vp_in (nI n) 64 := pk_in n 64 (by omega)
  unfold wpX_unseenOperand
  refine ⟨hin, ?_⟩
  rw [nI_clamp (by omega), (hg n hn).2.2.1, e]
  refine br_f (pr_ne1 (by omega)) ⟨hin, pk_in c 64 (by omega), ?_⟩
  rw [show (pr_oI (some c)).toNatClampNeg = c from nI_clamp (by omega)]
  exact br_t h0 ⟨hin, h⟩
theorem x_un_31 {post : Int32 → Prop} (hlo : lo ≤ 32) (hg : gr_at lo K V A B a_nodeKind a_nodeValue a_nodeA a_nodeB) (hT : ∀ n c, pr_T lo K n → (A n = some c ∨ B n = some c) → pr_T lo K c ∧ rk c < rk n) {n : Nat} (hn : pr_T lo K n) (h0 : ∀ c, A n = some c → a_seen c ≠ 0) (h : wX_unseenOperand_31 post (nI n) f_maxNodes f_maxRules f_ruleCount f_counterexample f_optimized f_nodeCount f_outputCount f_applications a_preRelation a_preVariable a_preConstant a_roomNeeded a_useCount a_treeSize a_treeKind a_treeValue a_treeA a_treeB a_treeResult a_constantValued a_maximal a_counterpart a_boundNode a_pending a_pendingCount a_nodeKind a_nodeValue a_nodeA a_nodeB a_nodeResult a_nodeUses a_outputNode a_seen a_order a_walkStack) : wpX_unseenOperand post (f_maxNodes, f_maxRules, f_ruleCount, f_counterexample, f_optimized, f_nodeCount, f_outputCount, f_applications, a_preRelation, a_preVariable, a_preConstant, a_roomNeeded, a_useCount, a_treeSize, a_treeKind, a_treeValue, a_treeA, a_treeB, a_treeResult, a_constantValued, a_maximal, a_counterpart, a_boundNode, a_pending, a_pendingCount, a_nodeKind, a_nodeValue, a_nodeA, a_nodeB, a_nodeResult, a_nodeUses, a_outputNode, a_seen, a_order, a_walkStack) (nI n) := by
  have hn2 := hn.2.1
  have hin : vp_in (nI n) 64 := pk_in n 64 (by omega)
  unfold wpX_unseenOperand
  refine ⟨hin, ?_⟩
  rw [nI_clamp (by omega), (hg n hn).2.2.1]
  cases e : A n with
  | none => exact br_t rfl h
  | some c =>
    have hc2 := (hT n c hn (Or.inl e)).1.2.1
    refine br_f (pr_ne1 (by omega)) ⟨hin, pk_in c 64 (by omega), ?_⟩
    rw [show (pr_oI (some c)).toNatClampNeg = c from nI_clamp (by omega)]
    exact br_f (h0 c e) h
end XG
section XH
variable {f_maxNodes f_maxRules f_ruleCount f_counterexample f_optimized f_nodeCount f_outputCount f_applications : Int32} {a_preRelation a_preVariable a_preConstant a_roomNeeded a_useCount a_treeSize a_treeKind a_treeValue a_treeA a_treeB a_treeResult a_constantValued a_maximal a_counterpart a_boundNode a_pending a_pendingCount a_nodeKind a_nodeValue a_nodeA a_nodeB a_nodeResult a_nodeUses a_outputNode a_seen a_order a_walkStack : Nat → Int32}
variable {lo : Nat} {K : Nat → Nat} {V : Nat → Int32} {A B : Nat → Option Nat} {rk : Nat → Nat} {post : Int32 → St2 → Prop}
theorem x_lb_pop {f c d step n : Nat} {se od st : Nat → Int32} (hc : c < 32) (hd : d < 32) (hs : step < 64) (htop : st d = nI n)
    (hu : ∀ P : Int32 → Prop, P (-1) → wpX_unseenOperand P (f_maxNodes, f_maxRules, f_ruleCount, f_counterexample, f_optimized, f_nodeCount, f_outputCount, f_applications, a_preRelation, a_preVariable, a_preConstant, a_roomNeeded, a_useCount, a_treeSize, a_treeKind, a_treeValue, a_treeA, a_treeB, a_treeResult, a_constantValued, a_maximal, a_counterpart, a_boundNode, a_pending, a_pendingCount, a_nodeKind, a_nodeValue, a_nodeA, a_nodeB, a_nodeResult, a_nodeUses, a_outputNode, se, od, st) (nI n))
    (h : wX_listBelow_22 post f_maxNodes f_maxRules f_ruleCount f_counterexample f_optimized f_nodeCount f_outputCount f_applications f (nI (c + 1)) (nI d) (nI (step + 1)) a_preRelation a_preVariable a_preConstant a_roomNeeded a_useCount a_treeSize a_treeKind a_treeValue a_treeA a_treeB a_treeResult a_constantValued a_maximal a_counterpart a_boundNode a_pending a_pendingCount a_nodeKind a_nodeValue a_nodeA a_nodeB a_nodeResult a_nodeUses a_outputNode se (upd od c (nI n)) st) :
    wX_listBelow_22 post f_maxNodes f_maxRules f_ruleCount f_counterexample f_optimized f_nodeCount f_outputCount f_applications (f + 1) (nI c) (nI (d + 1)) (nI step) a_preRelation a_preVariable a_preConstant a_roomNeeded a_useCount a_treeSize a_treeKind a_treeValue a_treeA a_treeB a_treeResult a_constantValued a_maximal a_counterpart a_boundNode a_pending a_pendingCount a_nodeKind a_nodeValue a_nodeA a_nodeB a_nodeResult a_nodeUses a_outputNode se od st := by
  refine pk_le 64 step (fun h => absurd h (by omega)) (fun _ => pk_le (d + 1) 0 (fun h => absurd h (by omega)) (fun _ => ?_))
  rw [nI_pred]
  refine ⟨pk_in d 32 hd, ?_⟩
  rw [nI_clamp (by omega)]
  refine nm_r htop (hu _ (br_t rfl ⟨pk_in c 32 hc, ?_⟩))
  rw [nI_clamp (by omega)]
  exact nm_e (nm_r (nI_1 _) (nm_r (pk_m1 _) (nm_r (nI_1 _) h)))
theorem x_lb_push {f c d step n x : Nat} {se od st : Nat → Int32} (hx : x < 64) (hd : d + 1 < 32) (hs : step < 64) (htop : st d = nI n)
    (hu : ∀ P : Int32 → Prop, P (nI x) → wpX_unseenOperand P (f_maxNodes, f_maxRules, f_ruleCount, f_counterexample, f_optimized, f_nodeCount, f_outputCount, f_applications, a_preRelation, a_preVariable, a_preConstant, a_roomNeeded, a_useCount, a_treeSize, a_treeKind, a_treeValue, a_treeA, a_treeB, a_treeResult, a_constantValued, a_maximal, a_counterpart, a_boundNode, a_pending, a_pendingCount, a_nodeKind, a_nodeValue, a_nodeA, a_nodeB, a_nodeResult, a_nodeUses, a_outputNode, se, od, st) (nI n))
    (h : wX_listBelow_22 post f_maxNodes f_maxRules f_ruleCount f_counterexample f_optimized f_nodeCount f_outputCount f_applications f (nI c) (nI (d + 1 + 1)) (nI (step + 1)) a_preRelation a_preVariable a_preConstant a_roomNeeded a_useCount a_treeSize a_treeKind a_treeValue a_treeA a_treeB a_treeResult a_constantValued a_maximal a_counterpart a_boundNode a_pending a_pendingCount a_nodeKind a_nodeValue a_nodeA a_nodeB a_nodeResult a_nodeUses a_outputNode (upd se x 1) od (upd st (d + 1) (nI x))) :
    wX_listBelow_22 post f_maxNodes f_maxRules f_ruleCount f_counterexample f_optimized f_nodeCount f_outputCount f_applications (f + 1) (nI c) (nI (d + 1)) (nI step) a_preRelation a_preVariable a_preConstant a_roomNeeded a_useCount a_treeSize a_treeKind a_treeValue a_treeA a_treeB a_treeResult a_constantValued a_maximal a_counterpart a_boundNode a_pending a_pendingCount a_nodeKind a_nodeValue a_nodeA a_nodeB a_nodeResult a_nodeUses a_outputNode se od st := by
  refine pk_le 64 step (fun h => absurd h (by omega)) (fun _ => pk_le (d + 1) 0 (fun h => absurd h (by omega)) (fun _ => ?_))
  rw [nI_pred]
  refine ⟨pk_in d 32 (by omega), ?_⟩
  rw [nI_clamp (by omega)]
  refine nm_r htop (hu _ (br_f (pr_ne1 (by omega)) ⟨pk_in (d + 1) 32 hd, ?_⟩))
  rw [nI_clamp (n := d + 1) (by omega), nI_clamp (n := x) (by omega)]
  exact nm_e ⟨pk_in x 64 hx, nm_e (nm_r (nI_1 _) (nm_r (nI_1 _) h))⟩
def x_sn (T : Nat → Prop) (rk : Nat → Nat) (L : List Nat) (n : Nat) (se : Nat → Int32) : Prop := ∀ c, T c → rk c < rk n → (se c = 0 ↔ c ∉ L)
def x_sk (L L' : List Nat) (se se' : Nat → Int32) : Prop := ∀ c, (c ∈ L' → c ∉ L → se' c ≠ 0) ∧ ((c ∈ L ∨ c ∉ L') → se' c = se c)
theorem x_visit (hlo : lo ≤ 32) (hG : pr_gw lo K V A B rk) (hg : gr_at lo K V A B a_nodeKind a_nodeValue a_nodeA a_nodeB) :
    ∀ q n, rk n < q → pr_T lo K n → ∀ L : List Nat, L.Nodup → pr_cl A B (fun x => x ∈ L) → n ∉ L → (∀ x, x ∈ L → lo ≤ x ∧ x < lo + 32) →
      ∀ f d step se od st, 65 ≤ f + step → d + rk n < 32 → step + 2 * (pr_po A B q n L).length ≤ 64 + 2 * L.length → st d = nI n → pr_ls od L → x_sn (pr_T lo K) rk L n se → se n ≠ 0 →
      (∀ f' se' od' st', 65 + 2 * L.length + 1 ≤ f' + step + 2 * (pr_po A B q n L).length → (∀ i, i < d → st' i = st i) → pr_ls od' (pr_po A B q n L) → x_sk L (pr_po A B q n L) se se' →
        wX_listBelow_22 post f_maxNodes f_maxRules f_ruleCount f_counterexample f_optimized f_nodeCount f_outputCount f_applications f' (nI (pr_po A B q n L).length) (nI d) (nI (step + 2 * (pr_po A B q n L).length - 2 * L.length - 1)) a_preRelation a_preVariable a_preConstant a_roomNeeded a_useCount a_treeSize a_treeKind a_treeValue a_treeA a_treeB a_treeResult a_constantValued a_maximal a_counterpart a_boundNode a_pending a_pendingCount a_nodeKind a_nodeValue a_nodeA a_nodeB a_nodeResult a_nodeUses a_outputNode se' od' st') →
      wX_listBelow_22 post f_maxNodes f_maxRules f_ruleCount f_counterexample f_optimized f_nodeCount f_outputCount f_applications f (nI L.length) (nI (d + 1)) (nI step) a_preRelation a_preVariable a_preConstant a_roomNeeded a_useCount a_treeSize a_treeKind a_treeValue a_treeA a_treeB a_treeResult a_constantValued a_maximal a_counterpart a_boundNode a_pending a_pendingCount a_nodeKind a_nodeValue a_nodeA a_nodeB a_nodeResult a_nodeUses a_outputNode se od st := by
  intro q
  have hT := pr_gw_T hG
  induction q with
  | zero =>
    intro n h
    omega
  | succ q ih =>
    intro n hq tn L nd cl hnL hreg f d step se od st hf hd hst htop hls hsn hsn0 hk
    have hgA : gr_at lo K V A B a_nodeKind a_nodeValue a_nodeA a_nodeB := hg
    -- the three lists
    have ep : pr_po A B (q + 1) n L = pr_oc (pr_po A B q) (B n) (pr_oc (pr_po A B q) (A n) L) ++ [n] := by
      show (if n ∈ L then L else _) = _
      rw [if_neg hnL]
    obtain ⟨M1, e1, a1, b1, c1, d1⟩ := pr_oc_ok (T := pr_T lo K) (rk := rk) (g := pr_po A B q) (o := A n) (L := L) (fun c hc => pr_po_ok hT q c (by have := (hT n c tn (Or.inl hc)).2; omega) (hT n c tn (Or.inl hc)).1) nd cl
    obtain ⟨M2, e2, a2, b2, c2, d2⟩ := pr_oc_ok (T := pr_T lo K) (rk := rk) (g := pr_po A B q) (o := B n) (L := L ++ M1) (fun c hc => pr_po_ok hT q c (by have := (hT n c tn (Or.inr hc)).2; omega) (hT n c tn (Or.inr hc)).1) a1 b1
    rw [e1, e2] at ep
    have reg1 : ∀ x, x ∈ L ++ M1 → lo ≤ x ∧ x < lo + 32 := by
      intro x hx
      rcases List.mem_append.mp hx with hx | hx
      · exact hreg x hx
      · exact ⟨(d1 x hx).1.1, (d1 x hx).1.2.1⟩
    have reg2 : ∀ x, x ∈ L ++ M1 ++ M2 → lo ≤ x ∧ x < lo + 32 := by
      intro x hx
      rcases List.mem_append.mp hx with hx | hx
      · exact reg1 x hx
      · exact ⟨(d2 x hx).1.1, (d2 x hx).1.2.1⟩
    have r1 : ∀ x, x ∈ M1 → rk x < rk n := by
      intro x hx
      obtain ⟨_, c, hc, hr, _⟩ := d1 x hx
      have := (hT n c tn (Or.inl hc)).2
      omega
    have r2 : ∀ x, x ∈ M2 → rk x < rk n := by
      intro x hx
      obtain ⟨_, c, hc, hr, _⟩ := d2 x hx
      have := (hT n c tn (Or.inr hc)).2
      omega
    have n1 : n ∉ L ++ M1 := by
      intro h
      rcases List.mem_append.mp h with h | h
      · exact hnL h
      · exact Nat.lt_irrefl _ (r1 n h)
    have n2 : n ∉ L ++ M1 ++ M2 := by
      intro h
      rcases List.mem_append.mp h with h | h
      · exact n1 h
      · exact Nat.lt_irrefl _ (r2 n h)
    have len1 : (L ++ M1).length = L.length + M1.length := List.length_append
    have len2 : (L ++ M1 ++ M2).length = L.length + M1.length + M2.length := by rw [List.length_append, len1]
    have lenP : (pr_po A B (q + 1) n L).length = L.length + M1.length + M2.length + 1 := by
      rw [ep, List.length_append, len2]
      rfl
    have hnd3 : (L ++ M1 ++ M2 ++ [n]).Nodup := by
      rw [List.nodup_append]
      refine ⟨a2, by simp, fun x hx y hy e => ?_⟩
      rw [List.mem_singleton] at hy
      subst e
      subst hy
      exact n2 hx
    have l2le := pr_len (lo := lo) (n := 32) hnd3 (fun x hx => by
      rcases List.mem_append.mp hx with hx | hx
      · exact reg2 x hx
      · rw [List.mem_singleton] at hx
        subst hx
        exact ⟨tn.1, tn.2.1⟩)
    rw [List.length_append, len2, List.length_singleton] at l2le
    have hdn : d < 32 := by omega
    -- the pop
    have hpop : ∀ f' se' od' st', 65 ≤ f' + (step + 2 * (M1.length + M2.length)) → (∀ i, i < d + 1 → st' i = st i) → pr_ls od' (L ++ M1 ++ M2) → x_sk L (L ++ M1 ++ M2) se se' →
        wX_listBelow_22 post f_maxNodes f_maxRules f_ruleCount f_counterexample f_optimized f_nodeCount f_outputCount f_applications f' (nI (L ++ M1 ++ M2).length) (nI (d + 1)) (nI (step + 2 * (M1.length + M2.length))) a_preRelation a_preVariable a_preConstant a_roomNeeded a_useCount a_treeSize a_treeKind a_treeValue a_treeA a_treeB a_treeResult a_constantValued a_maximal a_counterpart a_boundNode a_pending a_pendingCount a_nodeKind a_nodeValue a_nodeA a_nodeB a_nodeResult a_nodeUses a_outputNode se' od' st' := by
      intro f' se' od' st' hf' hst' hls' hsk'
      obtain ⟨g, rfl⟩ : ∃ g, f' = g + 1 := ⟨f' - 1, by omega⟩
      have hseen : ∀ c, c ∈ L ++ M1 ++ M2 → pr_T lo K c → rk c < rk n → se' c ≠ 0 := by
        intro c hc tc rc
        by_cases hcl : c ∈ L
        · rw [(hsk' c).2 (Or.inl hcl)]
          intro h0
          exact (hsn c tc rc).mp h0 hcl
        · exact (hsk' c).1 hc hcl
      rw [len2]
      refine x_lb_pop (n := n) (by omega) hdn (by omega) (by rw [hst' d (by omega)]; exact htop) (fun P hP => ?_) ?_
      · refine x_un_31 hlo hgA hT tn (fun c hc => ?_) (x_un_31N hlo hgA hT tn (fun c hc => ?_) hP)
        · exact hseen c (List.mem_append_left _ (c1 c hc)) (hT n c tn (Or.inl hc)).1 (hT n c tn (Or.inl hc)).2
        · exact hseen c (c2 c hc) (hT n c tn (Or.inr hc)).1 (hT n c tn (Or.inr hc)).2
      · have hh := hk g se' (upd od' (L.length + M1.length + M2.length) (nI n)) st' (by omega) (fun i hi => hst' i (by omega)) (by
          rw [ep]
          have := pr_ls_s (n := n) hls'
          rw [len2] at this
          exact this) (by
          rw [ep]
          intro c
          constructor
          · intro h1 h2
            rcases List.mem_append.mp h1 with h1 | h1
            · exact (hsk' c).1 h1 h2
            · rw [List.mem_singleton] at h1
              subst h1
              rw [(hsk' c).2 (Or.inr n2)]
              exact hsn0
          · intro h1
            refine (hsk' c).2 ?_
            rcases h1 with h1 | h1
            · exact Or.inl h1
            · exact Or.inr fun h2 => h1 (List.mem_append_left _ h2))
        rw [lenP] at hh
        rw [show step + 2 * (M1.length + M2.length) + 1 = step + 2 * (L.length + M1.length + M2.length + 1) - 2 * L.length - 1 by omega]
        exact hh
    -- operand B
    have hB : ∀ f' se' od' st', 65 ≤ f' + (step + 2 * M1.length) → (∀ i, i < d + 1 → st' i = st i) → pr_ls od' (L ++ M1) → x_sk L (L ++ M1) se se' →
        wX_listBelow_22 post f_maxNodes f_maxRules f_ruleCount f_counterexample f_optimized f_nodeCount f_outputCount f_applications f' (nI (L ++ M1).length) (nI (d + 1)) (nI (step + 2 * M1.length)) a_preRelation a_preVariable a_preConstant a_roomNeeded a_useCount a_treeSize a_treeKind a_treeValue a_treeA a_treeB a_treeResult a_constantValued a_maximal a_counterpart a_boundNode a_pending a_pendingCount a_nodeKind a_nodeValue a_nodeA a_nodeB a_nodeResult a_nodeUses a_outputNode se' od' st' := by
      intro f' se' od' st' hf' hst' hls' hsk'
      by_cases hb : ∃ c, B n = some c ∧ c ∉ L ++ M1
      · obtain ⟨c, hc, hcn⟩ := hb
        have tc := hT n c tn (Or.inr hc)
        have ec : L ++ M1 ++ M2 = pr_po A B q c (L ++ M1) := by
          rw [← e2, hc]
          rfl
        obtain ⟨g, rfl⟩ : ∃ g, f' = g + 1 := ⟨f' - 1, by omega⟩
        have tc2 := tc.1.2.1
        have hseq : ∀ x, pr_T lo K x → rk x < rk n → (se' x = 0 ↔ x ∉ L ++ M1) := by
          intro x tx rx
          by_cases hx : x ∈ L ++ M1
          · refine ⟨fun h0 => ?_, fun h => absurd hx h⟩
            exfalso
            by_cases hxl : x ∈ L
            · rw [(hsk' x).2 (Or.inl hxl)] at h0
              exact (hsn x tx rx).mp h0 hxl
            · exact (hsk' x).1 hx hxl h0
          · refine ⟨fun _ => hx, fun _ => ?_⟩
            rw [(hsk' x).2 (Or.inr hx)]
            exact (hsn x tx rx).mpr fun h => hx (List.mem_append_left _ h)
        have hM2 : 1 ≤ M2.length := by
          have hin : c ∈ L ++ M1 ++ M2 := c2 c hc
          rcases List.mem_append.mp hin with h | h
          · exact absurd h hcn
          · exact List.length_pos_of_mem h
        refine x_lb_push (n := n) (x := c) (by omega) (by omega) (by omega) (by rw [hst' d (by omega)]; exact htop) (fun P hP => ?_) ?_
        · refine x_un_31 hlo hgA hT tn (fun x hx => ?_) (x_un_31B hlo hgA tn tc.1 hc ((hseq c tc.1 tc.2).mpr hcn) hP)
          have tx := hT n x tn (Or.inl hx)
          exact fun h0 => (hseq x tx.1 tx.2).mp h0 (c1 x hx)
        · refine ih c (by omega) tc.1 (L ++ M1) a1 b1 hcn reg1 g (d + 1) (step + 2 * M1.length + 1) (upd se' c 1) od' (upd st' (d + 1) (nI c)) (by omega) (by omega) ?_ pk_us hls' ?_ ?_ ?_
          · rw [← ec, len2, len1]
            omega
          · intro x tx rx
            rw [pk_un (fun e => by rw [e] at rx; omega)]
            exact hseq x tx (by omega)
          · rw [pk_us]
            decide
          · rw [← ec]
            intro f2 se2 od2 st2 hf2 hst2 hls2 hsk2
            rw [len2, len1] at hf2
            have := hpop f2 se2 od2 st2 (by omega) (fun i hi => by rw [hst2 i hi, pk_un (by omega)]; exact hst' i (by omega)) hls2 (by
              intro x
              constructor
              · intro h1 h2
                by_cases hx : x ∈ L ++ M1
                · rw [(hsk2 x).2 (Or.inl hx)]
                  by_cases e : x = c
                  · rw [e, pk_us]
                    decide
                  · rw [pk_un e]
                    exact (hsk' x).1 hx h2
                · exact (hsk2 x).1 h1 hx
              · intro h1
                have hxc : x ≠ c := by
                  intro e
                  subst e
                  rcases h1 with h1 | h1
                  · exact hcn (List.mem_append_left _ h1)
                  · exact h1 (c2 x hc)
                have hx1 : se2 x = upd se' c 1 x := (hsk2 x).2 (by
                  rcases h1 with h1 | h1
                  · exact Or.inl (List.mem_append_left _ h1)
                  · exact Or.inr h1)
                rw [hx1, pk_un hxc]
                refine (hsk' x).2 ?_
                rcases h1 with h1 | h1
                · exact Or.inl h1
                · exact Or.inr fun h => h1 (List.mem_append_left _ h))
            rw [show step + 2 * M1.length + 1 + 2 * (L ++ M1 ++ M2).length - 2 * (L ++ M1).length - 1 = step + 2 * (M1.length + M2.length) by rw [len2, len1]; omega]
            exact this
      · have hM2 : M2 = [] := by
          have : pr_oc (pr_po A B q) (B n) (L ++ M1) = L ++ M1 := by
            cases hb' : B n with
            | none => rfl
            | some c =>
              have hcm : c ∈ L ++ M1 := by
                apply Classical.byContradiction
                intro hcn
                exact hb ⟨c, hb', hcn⟩
              show pr_po A B q c (L ++ M1) = L ++ M1
              cases q with
              | zero => rfl
              | succ q => exact if_pos hcm
          rw [this] at e2
          have := congrArg List.length e2
          rw [len2, len1] at this
          exact List.eq_nil_of_length_eq_zero (by omega)
        subst hM2
        rw [List.append_nil] at hpop
        exact hpop f' se' od' st' (by simpa using hf') hst' hls' hsk'
    -- operand A
    by_cases ha : ∃ c, A n = some c ∧ c ∉ L
    · obtain ⟨c, hc, hcn⟩ := ha
      have tc := hT n c tn (Or.inl hc)
      have ec : L ++ M1 = pr_po A B q c L := by
        rw [← e1, hc]
        rfl
      obtain ⟨g, rfl⟩ : ∃ g, f = g + 1 := ⟨f - 1, by omega⟩
      have tc2 := tc.1.2.1
      have hM1 : 1 ≤ M1.length := by
        have hin : c ∈ L ++ M1 := c1 c hc
        rcases List.mem_append.mp hin with h | h
        · exact absurd h hcn
        · exact List.length_pos_of_mem h
      refine x_lb_push (n := n) (x := c) (by omega) (by omega) (by omega) htop (fun P hP => x_un_A hlo hgA tn tc.1 hc ((hsn c tc.1 tc.2).mpr hcn) hP) ?_
      refine ih c (by omega) tc.1 L nd cl hcn hreg g (d + 1) (step + 1) (upd se c 1) od (upd st (d + 1) (nI c)) (by omega) (by omega) ?_ pk_us hls ?_ ?_ ?_
      · rw [← ec, len1]
        omega
      · intro x tx rx
        rw [pk_un (fun e => by rw [e] at rx; omega)]
        exact hsn x tx (by omega)
      · rw [pk_us]
        decide
      · rw [← ec]
        intro f2 se2 od2 st2 hf2 hst2 hls2 hsk2
        rw [len1] at hf2
        have := hB f2 se2 od2 st2 (by omega) (fun i hi => by rw [hst2 i hi, pk_un (by omega)]) hls2 (by
          intro x
          constructor
          · intro h1 h2
            exact (hsk2 x).1 h1 h2
          · intro h1
            have hxc : x ≠ c := by
              intro e
              subst e
              rcases h1 with h1 | h1
              · exact hcn h1
              · exact h1 (c1 x hc)
            rw [(hsk2 x).2 h1, pk_un hxc])
        rw [show step + 1 + 2 * (L ++ M1).length - 2 * L.length - 1 = step + 2 * M1.length by rw [len1]; omega]
        exact this
    · have hM1 : M1 = [] := by
        have : pr_oc (pr_po A B q) (A n) L = L := by
          cases ha' : A n with
          | none => rfl
          | some c =>
            have hcm : c ∈ L := by
              apply Classical.byContradiction
              intro hcn
              exact ha ⟨c, ha', hcn⟩
            show pr_po A B q c L = L
            cases q with
            | zero => rfl
            | succ q => exact if_pos hcm
        rw [this] at e1
        have := congrArg List.length e1
        rw [len1] at this
        exact List.eq_nil_of_length_eq_zero (by omega)
      subst hM1
      rw [List.append_nil] at hB
      exact hB f se od st (by simpa using hf) (fun i _ => rfl) hls (fun x => ⟨fun h1 h2 => absurd h1 h2, fun _ => rfl⟩)
end XH
