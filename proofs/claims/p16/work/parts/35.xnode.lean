/-! addNode, clearDag -/
section VNx
variable {f_maxNodes f_maxRules f_ruleCount f_counterexample f_optimized f_nodeCount f_outputCount f_applications : Int32} {a_preRelation a_preVariable a_preConstant a_roomNeeded a_useCount a_treeSize a_treeKind a_treeValue a_treeA a_treeB a_treeResult a_constantValued a_maximal a_counterpart a_boundNode a_pending a_pendingCount a_nodeKind a_nodeValue a_nodeA a_nodeB a_nodeResult a_nodeUses a_outputNode a_seen a_order a_walkStack : Nat → Int32}
variable {mN : Nat} {mR : Nat} {rc : Nat} {ph : Nat} {nc : Nat} {oc : Nat} {cx : Int32} {ap : Int32} {P : Nat → pr_PT} {R : Nat → pr_PT} {rl : Nat → Nat} {rj : Nat → Nat} {rK : Nat → Nat} {uc : Nat → Int32} {D : Nat → pr_PT} {ps : Nat → Nat → Nat} {dc : Nat → Nat} {dl : Nat} {dj : Nat} {dk : Nat} {K : Nat → Nat} {V : Nat → Int32} {A : Nat → Option Nat} {B : Nat → Option Nat} {O : Nat → Nat}
/-- addNode: refused, or (before optimize) one more node -/
theorem rx_node {u : St2} {post : Int32 → St2 → Prop} {v1 v2 v3 : Int32} (hok : sp_ok mN mR rc ph nc oc cx ap P R rl rj rK uc D ps dc dl dj dk K V A B O) (hx : rx mN mR rc ph nc oc cx ap P R rl rj rK uc D ps dc dl dj dk K V A B O u) (hno : ∀ a, post a u) (h : ∀ r κ x a b u', ph = 0 → sp_ok mN mR rc ph (nc + 1) oc cx ap P R rl rj rK uc D ps dc dl dj dk (pr_st K nc κ) (pr_st V nc x) (pr_st A nc a) (pr_st B nc b) O → rx mN mR rc ph (nc + 1) oc cx ap P R rl rj rK uc D ps dc dl dj dk (pr_st K nc κ) (pr_st V nc x) (pr_st A nc a) (pr_st B nc b) O u' → post r u') : wpX_addNode post u v1 v2 v3 := by
  obtain ⟨f_maxNodes, f_maxRules, f_ruleCount, f_counterexample, f_optimized, f_nodeCount, f_outputCount, f_applications, a_preRelation, a_preVariable, a_preConstant, a_roomNeeded, a_useCount, a_treeSize, a_treeKind, a_treeValue, a_treeA, a_treeB, a_treeResult, a_constantValued, a_maximal, a_counterpart, a_boundNode, a_pending, a_pendingCount, a_nodeKind, a_nodeValue, a_nodeA, a_nodeB, a_nodeResult, a_nodeUses, a_outputNode, a_seen, a_order, a_walkStack⟩ := u
  obtain ⟨e1, e2, e3, e4, e5, e6, e7, e8, h9, h10, h11, h12⟩ := hx
  subst e1 e2 e3 e4 e5 e6 e7 e8
  have hmN := hok.2.1
  have hph := hok.2.2.2.2.2.1
  have hncs : ph = 0 → nc ≤ mN := fun h => by
    obtain ⟨_, _, _, _, q3, _⟩ := hok.2.2.2.2.2.2.2.2.2
    exact (q3 h).2.1
  unfold wpX_addNode
  refine pk_eq ph 0 (fun hp => ?_) (fun hp => hno _)
  subst hp
  have hnc := hncs rfl
  refine pk_eq nc mN (fun hm => hno _) (fun hm => ?_)
  rcases pk_ix v1 (n := 13) (by omega) with hp | hp | ⟨κ, hκ, rfl⟩
  · exact br_t (Int32.lt_trans hp (by decide)) (hno _)
  · have h1 : ¬ v1 < 1 := fun h => absurd (Int32.lt_of_le_of_lt hp h) (by decide)
    have h12 : ¬ v1 ≤ 12 := fun h => absurd (Int32.le_trans hp h) (by decide)
    exact br_f h1 (br_f h12 (hno _))
  · refine pk_lt κ 1 (fun h1 => hno _) (fun h1 => br_t (nI_le (b := 12) (by omega) (by decide)) ?_)
    have hlt : nc < mN := by omega
    have hk12 : κ ≤ 12 := by omega
    have fin : ∀ (r x : Int32) (a b : Option Nat), pr_by x → (κ = 12 → ∃ i, i < 4 ∧ x = nI i) → (κ ≤ 10 → x = 0) → (11 ≤ κ → a = none) → (9 ≤ κ → b = none) → (κ ≤ 10 → ∃ c, a = some c) → (κ ≤ 8 → ∃ c, b = some c) → (∀ c, a = some c ∨ b = some c → c < nc) →
        post r ((nI mN), (nI mR), (nI rc), f_counterexample, (nI 0), (nI (nc + 1)), (nI oc), f_applications, a_preRelation, a_preVariable, a_preConstant, a_roomNeeded, a_useCount, a_treeSize, a_treeKind, a_treeValue, a_treeA, a_treeB, a_treeResult, a_constantValued, a_maximal, a_counterpart, a_boundNode, a_pending, a_pendingCount, (upd a_nodeKind nc (nI κ)), (upd a_nodeValue nc x), (upd a_nodeA nc (pr_oI a)), (upd a_nodeB nc (pr_oI b)), a_nodeResult, a_nodeUses, a_outputNode, a_seen, a_order, a_walkStack) := by
      intro r x a b hv hv12 hv0 ha hb ha' hb' hc
      exact h r κ x a b _ rfl (sp_node hok rfl hlt h1 hk12 hv hv12 hv0 ha hb ha' hb' hc) ⟨rfl, rfl, rfl, rfl, rfl, rfl, rfl, rfl, h9, h10, h11, gr_node h12⟩
    have hcl : nI nc + 1 = nI (nc + 1) := nI_1 nc
    have har := pr_ar_c κ
    refine pk_eq κ 12 (fun e12 => ?_) (fun n12 => ?_)
    · subst e12
      by_cases q0 : v2 < 0
      · exact br_t q0 (hno _)
      · obtain ⟨a, ha, rfl⟩ := nI_of q0
        refine br_f q0 (pk_lt a 4 (fun h4 => ?_) (fun h4 => hno _))
        refine x_arity (κ := 12) (by decide) (br_t (by decide) (br_f (by decide) ?_))
        refine nm_r hcl (br_t rfl (x_setNode (by omega) ?_))
        have eb : nI a &&& 255 = nI a := pr_by_id ⟨a, by omega, rfl⟩
        rw [eb]
        exact fin _ (nI a) none none ⟨a, by omega, rfl⟩ (fun _ => ⟨a, h4, rfl⟩) (fun h => absurd h (by omega)) (fun _ => rfl) (fun _ => rfl) (fun h => absurd h (by omega)) (fun h => absurd h (by omega)) (fun c hc => by rcases hc with y | y <;> cases y)
    · by_cases e11 : κ = 11
      · subst e11
        refine x_arity (κ := 11) (by decide) (br_t (by decide) (br_f (by decide) ?_))
        refine nm_r hcl (br_t rfl (x_setNode (by omega) ?_))
        exact fin _ (v2 &&& 255) none none (pr_by_and _) (fun h => absurd h (by omega)) (fun h => absurd h (by omega)) (fun _ => rfl) (fun _ => rfl) (fun h => absurd h (by omega)) (fun h => absurd h (by omega)) (fun c hc => by rcases hc with y | y <;> cases y)
      · have hk10 : κ ≤ 10 := by omega
        refine x_arity (by omega) (pk_lt (pr_ar κ) 1 (fun h => absurd h (by omega)) (fun _ => ?_))
        rcases pk_ix v2 (n := nc) (by omega) with hq | hq | ⟨a, ha, rfl⟩
        · exact x_isAdded_f (nc := nc) (Or.inl hq) (br_t rfl (hno _))
        · exact x_isAdded_f (nc := nc) (Or.inr hq) (br_t rfl (hno _))
        · refine x_isAdded_t (nc := nc) ha (by omega) (br_f (by decide) ?_)
          by_cases hb : κ ≤ 8
          · have ha2 := pr_ar_2 h1 hb
            rw [ha2]
            refine br_t rfl ?_
            rcases pk_ix v3 (n := nc) (by omega) with hq | hq | ⟨b, hb', rfl⟩
            · exact x_isAdded_f (nc := nc) (Or.inl hq) (br_t rfl (hno _))
            · exact x_isAdded_f (nc := nc) (Or.inr hq) (br_t rfl (hno _))
            · refine x_isAdded_t (nc := nc) hb' (by omega) (br_f (by decide) ?_)
              refine nm_r hcl (br_f (by decide) (br_t rfl (x_setNode (by omega) ?_)))
              exact fin _ 0 (some a) (some b) pr_by_0 (fun h => absurd h n12) (fun _ => rfl) (fun h => absurd h (by omega)) (fun h => absurd h (by omega)) (fun _ => ⟨a, rfl⟩) (fun _ => ⟨b, rfl⟩) (fun c hc => by
                rcases hc with y | y
                · cases y
                  exact ha
                · cases y
                  exact hb')
          · have ha1 := pr_ar_1 (κ := κ) (by omega)
            rw [ha1]
            refine br_f (by decide) ?_
            refine nm_r hcl (br_f (by decide) (br_f (by decide) (x_setNode (by omega) ?_)))
            exact fin _ 0 (some a) none pr_by_0 (fun h => absurd h n12) (fun _ => rfl) (fun h => absurd h (by omega)) (fun _ => rfl) (fun _ => ⟨a, rfl⟩) (fun h => absurd h hb) (fun c hc => by
              rcases hc with y | y
              · cases y
                exact ha
              · cases y)
theorem rx_clear {u : St2} {post : St2 → Prop} (hok : sp_ok mN mR rc ph nc oc cx ap P R rl rj rK uc D ps dc dl dj dk K V A B O) (hx : rx mN mR rc ph nc oc cx ap P R rl rj rK uc D ps dc dl dj dk K V A B O u) (h : ∀ u', sp_ok mN mR rc 0 0 0 cx 0 P R rl rj rK (fun _ => 0) D ps dc dl dj dk (fun _ => 0) (fun _ => 0) (fun _ => none) (fun _ => none) (fun _ => 0) → rx mN mR rc 0 0 0 cx 0 P R rl rj rK (fun _ => 0) D ps dc dl dj dk (fun _ => 0) (fun _ => 0) (fun _ => none) (fun _ => none) (fun _ => 0) u' → post u') : wpX_clearDag post u := by
  obtain ⟨f_maxNodes, f_maxRules, f_ruleCount, f_counterexample, f_optimized, f_nodeCount, f_outputCount, f_applications, a_preRelation, a_preVariable, a_preConstant, a_roomNeeded, a_useCount, a_treeSize, a_treeKind, a_treeValue, a_treeA, a_treeB, a_treeResult, a_constantValued, a_maximal, a_counterpart, a_boundNode, a_pending, a_pendingCount, a_nodeKind, a_nodeValue, a_nodeA, a_nodeB, a_nodeResult, a_nodeUses, a_outputNode, a_seen, a_order, a_walkStack⟩ := u
  obtain ⟨e1, e2, e3, e4, e5, e6, e7, e8, h9, h10, h11, h12⟩ := hx
  subst e1 e2 e3 e4 e5 e6 e7 e8
  obtain ⟨o1, o2, o3, o4, o5, o6, o7, o8, o9, o10⟩ := hok
  have hnT : ∀ lo n, ¬ pr_T lo (fun _ => 0) n := fun lo n h => h.2.2 rfl
  have lx : ∀ (post : St2 → Prop) (d i : Nat) (us : Nat → Int32), (∀ us', (∀ r, r < 17 → us' r = 0) → post ((nI mN), (nI mR), (nI rc), f_counterexample, 0, 0, 0, 0, a_preRelation, a_preVariable, a_preConstant, a_roomNeeded, us', a_treeSize, a_treeKind, a_treeValue, a_treeA, a_treeB, a_treeResult, a_constantValued, a_maximal, a_counterpart, a_boundNode, a_pending, a_pendingCount, a_nodeKind, a_nodeValue, a_nodeA, a_nodeB, a_nodeResult, a_nodeUses, a_outputNode, a_seen, a_order, a_walkStack)) → i + d = 17 → (∀ r, r < i → us r = 0) → wX_clearDag_22 post (nI mN) (nI mR) (nI rc) f_counterexample 0 0 0 0 (d + 1) (nI i) a_preRelation a_preVariable a_preConstant a_roomNeeded us a_treeSize a_treeKind a_treeValue a_treeA a_treeB a_treeResult a_constantValued a_maximal a_counterpart a_boundNode a_pending a_pendingCount a_nodeKind a_nodeValue a_nodeA a_nodeB a_nodeResult a_nodeUses a_outputNode a_seen a_order a_walkStack := by
    intro post d
    induction d with
    | zero =>
      intro i us h hi hu
      exact pk_le 17 i (fun _ => h us fun r hr => hu r (by omega)) (fun h => absurd h (by omega))
    | succ d ih =>
      intro i us h hi hu
      refine pk_le 17 i (fun h => absurd h (by omega)) (fun _ => ⟨pk_in i 17 (by omega), ?_⟩)
      rw [nI_clamp (by omega)]
      refine nm_e (nm_r (nI_1 _) (ih (i + 1) _ h (by omega) fun r hr => ?_))
      by_cases e : r = i
      · rw [e, pk_us]
      · rw [pk_un e]
        exact hu r (by omega)
  refine ⟨18, lx _ 17 0 _ (fun us' hu' => ?_) (by omega) (fun r hr => absurd hr (by omega))⟩
  exact h _ ⟨o1, o2, o3, o4, o5, by omega, by omega, o8, o9, fun n => n, fun n => n, fun n hn => absurd hn (hnT 0 n), fun k hk => absurd hk (by omega), fun _ => ⟨rfl, by omega, fun n _ => ⟨fun _ => Nat.zero_le n, fun _ => rfl⟩⟩, fun h => absurd h (by omega)⟩ ⟨rfl, rfl, rfl, rfl, rfl, rfl, rfl, rfl, fun r hr => ⟨(h9 r hr).1, (h9 r hr).2.1, hu' r (by omega)⟩, h10, h11, fun n hn => absurd hn (hnT 0 n), fun k hk => absurd hk (by omega), fun h => absurd h (by omega)⟩
end VNx
