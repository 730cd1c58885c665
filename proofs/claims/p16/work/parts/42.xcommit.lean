/-! ruleCommit -/
theorem jd_vf_iff {P R : pr_PT} (hR : pt_ok R) : jd_vf P R ↔ (∀ j, j < 2 → ¬ (pt_has P 13 j = true ∧ pt_has P 14 j = true)) ∧ ∀ i, i < pt_n R → pt_k R i = 13 → pt_has P 13 (pt_v R i) = true ∨ pt_has P 14 (pt_v R i) = true := by
  constructor
  · intro h
    refine ⟨fun j hj => (h j hj).1, fun i hi hk => ?_⟩
    have hv := (hR.2 i hi).2.2.1 (by omega)
    cases h1 : pt_has P 13 (pt_v R i) with
    | true => exact Or.inl rfl
    | false =>
      cases h2 : pt_has P 14 (pt_v R i) with
      | true => exact Or.inr rfl
      | false =>
        have := (h _ hv).2 h1 h2
        rw [pt_has_t.mpr ⟨i, hi, hk, rfl⟩] at this
        cases this
  · rintro ⟨h1, h2⟩ j hj
    refine ⟨h1 j hj, fun a b => ?_⟩
    rw [pt_has_f]
    rintro i hi ⟨hk, hv⟩
    rcases h2 i hi hk with y | y
    · rw [hv, a] at y
      cases y
    · rw [hv, b] at y
      cases y
section VCs
variable {mN : Nat} {mR : Nat} {rc : Nat} {ph : Nat} {nc : Nat} {oc : Nat} {cx : Int32} {ap : Int32} {P : Nat → pr_PT} {R : Nat → pr_PT} {rl : Nat → Nat} {rj : Nat → Nat} {rK : Nat → Nat} {uc : Nat → Int32} {D : Nat → pr_PT} {ps : Nat → Nat → Nat} {dc : Nat → Nat} {dl : Nat} {dj : Nat} {dk : Nat} {K : Nat → Nat} {V : Nat → Int32} {A : Nat → Option Nat} {B : Nat → Option Nat} {O : Nat → Nat}
theorem sp_commit {c : Int32} (h : sp_ok mN mR rc ph nc oc cx ap P R rl rj rK uc D ps dc dl dj dk K V A B O) (hv : jd_v rc mR (D 0) (D 1) (dc 0) (dc 1) dl dj dk 0 c) : rc < mR ∧ c = -1 ∧ sp_ok mN mR (rc + 1) ph nc oc c ap (pr_st P rc (D 0)) (pr_st R rc (D 1)) (pr_st rl rc dl) (pr_st rj rc dj) (pr_st rK rc dk) (pr_st uc rc 0) D ps dc dl dj dk K V A B O := by
  obtain ⟨o1, o2, o3, o4, o5, o6, o7, o8, ⟨d1, d2, d3, d4⟩, o10⟩ := h
  have hk : c = -1 ∧ jd_ok rc mR (D 0) (D 1) (dc 0) (dc 1) dl dj dk 5 := by
    rcases hv with ⟨e, _⟩ | ⟨e, _⟩ | ⟨e, _⟩ | ⟨e, _⟩ | ⟨e, _⟩ | ⟨e, _⟩ | ⟨e, ec, x, x'⟩
    · omega
    · omega
    · omega
    · omega
    · omega
    · omega
    · exact ⟨ec, x⟩
  obtain ⟨hc, k1, k2, k3, k4, k5⟩ := hk
  have ne := k1 (by omega)
  have hsh := k2 (by omega)
  have hvf := k3 (by omega)
  have hpf := k4 (by omega)
  have hco := k5 (by omega)
  have hf0 : pt_fin (D 0) := by
    have h1 := (d1 0 (by omega)).2
    rw [hsh.1] at h1
    exact pd_fin h1
  have hf1 : pt_fin (D 1) := by
    have h1 := (d1 1 (by omega)).2
    rw [hsh.2.1] at h1
    exact pd_fin h1
  have hok0 := (d1 0 (by omega)).1
  have hok1 := (d1 1 (by omega)).1
  refine ⟨by omega, hc, o1, o2, o3, o4, by omega, o6, o7, fun r hr => ?_, ⟨d1, d2, d3, d4⟩, o10⟩
  by_cases e : r = rc
  · subst e
    rw [pr_st_s, pr_st_s, pr_st_s, pr_st_s, pr_st_s]
    refine ⟨hok0, hf0, hsh.2.2, hok1, hf1, d2, fun q hq hk => ?_, d3, fun hl => ⟨(d4 hl).1, (d4 hl).2, hpf hl⟩, hco, fun j hj => ?_⟩
    · rcases ((jd_vf_iff (P := D 0) hok1).mp hvf).2 q hq hk with y | y
      · obtain ⟨p, p1, p2, p3⟩ := pt_has_t.mp y
        exact ⟨p, p1, by omega, p3⟩
      · obtain ⟨p, p1, p2, p3⟩ := pt_has_t.mp y
        exact ⟨p, p1, by omega, p3⟩
    · obtain ⟨p, p1, p2, p3⟩ := pt_has_t.mp hj
      have hv2 := (hok0.2 p p1).2.2.1 (by omega)
      cases hx : pt_has (D 0) 14 j with
      | false => rfl
      | true => exact absurd ⟨hj, hx⟩ (hvf j (by omega)).1
  · rw [pr_st_n e, pr_st_n e, pr_st_n e, pr_st_n e, pr_st_n e]
    exact o8 r (by omega)
theorem sp_cx {c : Int32} (h : sp_ok mN mR rc ph nc oc cx ap P R rl rj rK uc D ps dc dl dj dk K V A B O) : sp_ok mN mR rc ph nc oc c ap P R rl rj rK uc D ps dc dl dj dk K V A B O := h
end VCs
section VCx
variable {f_maxNodes f_maxRules f_ruleCount f_counterexample f_optimized f_nodeCount f_outputCount f_applications : Int32} {a_preRelation a_preVariable a_preConstant a_roomNeeded a_useCount a_treeSize a_treeKind a_treeValue a_treeA a_treeB a_treeResult a_constantValued a_maximal a_counterpart a_boundNode a_pending a_pendingCount a_nodeKind a_nodeValue a_nodeA a_nodeB a_nodeResult a_nodeUses a_outputNode a_seen a_order a_walkStack : Nat → Int32}
variable {mN : Nat} {mR : Nat} {rc : Nat} {ph : Nat} {nc : Nat} {oc : Nat} {cx : Int32} {ap : Int32} {P : Nat → pr_PT} {R : Nat → pr_PT} {rl : Nat → Nat} {rj : Nat → Nat} {rK : Nat → Nat} {uc : Nat → Int32} {D : Nat → pr_PT} {ps : Nat → Nat → Nat} {dc : Nat → Nat} {dl : Nat} {dj : Nat} {dk : Nat} {K : Nat → Nat} {V : Nat → Int32} {A : Nat → Option Nat} {B : Nat → Option Nat} {O : Nat → Nat}
/-- ruleCommit: refused, or one more rule, which is sound; the draft is empty again -/
theorem rx_commit {u : St2} {post : Int32 → St2 → Prop} (hok : sp_ok mN mR rc ph nc oc cx ap P R rl rj rK uc D ps dc dl dj dk K V A B O) (hx : rx mN mR rc ph nc oc cx ap P R rl rj rK uc D ps dc dl dj dk K V A B O u)
    (h0 : ∀ a c u', sp_ok mN mR rc ph nc oc c ap P R rl rj rK uc (fun _ => pt_0) ps (fun _ => 0) 0 dj dk K V A B O → rx mN mR rc ph nc oc c ap P R rl rj rK uc (fun _ => pt_0) ps (fun _ => 0) 0 dj dk K V A B O u' → post a u')
    (h1 : ∀ a c u', jd_none (D 0) (D 1) dl dj dk → sp_ok mN mR (rc + 1) ph nc oc c ap (pr_st P rc (D 0)) (pr_st R rc (D 1)) (pr_st rl rc dl) (pr_st rj rc dj) (pr_st rK rc dk) (pr_st uc rc 0) (fun _ => pt_0) ps (fun _ => 0) 0 dj dk K V A B O → rx mN mR (rc + 1) ph nc oc c ap (pr_st P rc (D 0)) (pr_st R rc (D 1)) (pr_st rl rc dl) (pr_st rj rc dj) (pr_st rK rc dk) (pr_st uc rc 0) (fun _ => pt_0) ps (fun _ => 0) 0 dj dk K V A B O u' → post a u') : wpX_ruleCommit post u := by
  obtain ⟨f_maxNodes, f_maxRules, f_ruleCount, f_counterexample, f_optimized, f_nodeCount, f_outputCount, f_applications, a_preRelation, a_preVariable, a_preConstant, a_roomNeeded, a_useCount, a_treeSize, a_treeKind, a_treeValue, a_treeA, a_treeB, a_treeResult, a_constantValued, a_maximal, a_counterpart, a_boundNode, a_pending, a_pendingCount, a_nodeKind, a_nodeValue, a_nodeA, a_nodeB, a_nodeResult, a_nodeUses, a_outputNode, a_seen, a_order, a_walkStack⟩ := u
  obtain ⟨e1, e2, e3, e4, e5, e6, e7, e8, h9, h10, h11, h12⟩ := hx
  subst e1 e2 e3 e4 e5 e6 e7 e8
  have hok' := hok
  obtain ⟨o1, o2, o3, o4, o5, o6, o7, o8, ⟨s1, s2, s3, s4⟩, o10⟩ := hok
  have hn : ∀ r, r < rc → pt_n (P r) ≤ 8 ∧ pt_n (R r) ≤ 8 := fun r hr => pr_rule_n (o8 r hr)
  have q0 := s1 0 (by omega)
  have q1 := s1 1 (by omega)
  have x0 := h10 0 (by omega)
  have x1 := h10 1 (by omega)
  unfold wpX_ruleCommit
  refine x_judge (P := D 0) (R := D 1) (c0 := dc 0) (c1 := dc 1) o5 o4 q0.1 q1.1 q0.2 q1.2 s2 (fun h => (s4 h).1) s3 x0.1 x1.1 h11 x0.2.1 x1.2.1 (fun w c cv' mx' tr' hv hcm hkeep => ?_)
  have hw6 : w ≤ 6 := by
    rcases hv with ⟨e, _⟩ | ⟨e, _⟩ | ⟨e, _⟩ | ⟨e, _⟩ | ⟨e, _⟩ | ⟨e, _⟩ | ⟨e, _⟩ <;> omega
  refine pk_eq w 0 (fun e0 => ?_) (fun ne0 => ?_)
  · subst e0
    have hnone : jd_none (D 0) (D 1) dl dj dk := by
      rcases hv with ⟨e, _⟩ | ⟨e, _⟩ | ⟨e, _⟩ | ⟨e, _⟩ | ⟨e, _⟩ | ⟨e, _⟩ | ⟨e, ec, x, x'⟩
      · omega
      · omega
      · omega
      · omega
      · omega
      · omega
      · exact x'
    obtain ⟨hlt, hcm1, hsp⟩ := sp_commit hok' hv
    obtain ⟨cm1, cm2⟩ := hcm rfl
    refine x_room (by omega) q1.1 x1.1 cm1 cm2 ⟨pk_in rc 17 (by omega), ?_⟩
    rw [nI_clamp (by omega)]
    refine nm_e ⟨pk_in rc 17 (by omega), nm_e (nm_r (nI_1 _) (x_emptyDraft (by omega) (h1 _ _ _ hnone (sp_empty hsp) (rx_empty (fun r hr => ?_) (fun r hr => ?_) h12))))⟩
    · by_cases e : r = rc
      · rw [e, pr_st_s, pr_st_s]
        exact ⟨q0.1.1, q1.1.1⟩
      · rw [pr_st_n e, pr_st_n e]
        exact hn r (by omega)
    · by_cases e : r = rc
      · subst e
        rw [pr_st_s, pr_st_s, pr_st_s, pr_st_s, pr_st_s, pr_st_s, pk_us]
        exact ⟨⟨x0.1, x1.1, cm1, cm2, pk_us⟩, h11, rfl⟩
      · rw [pr_st_n e, pr_st_n e, pr_st_n e, pr_st_n e, pr_st_n e, pr_st_n e, pk_un e]
        have hr' : r < rc := by omega
        refine ⟨xr_cong hn (fun r hr => (h9 r hr).1) (fun _ _ => rfl) (fun p hp => ⟨rfl, rfl, rfl, rfl, (hkeep p hp).1, (hkeep p hp).2⟩) (fun r' hr' => pk_un (by omega)) r hr', (h9 r hr').2⟩
  · refine x_emptyDraft (by omega) (h0 _ _ _ (sp_empty (sp_cx (c := c) hok')) (rx_empty hn (fun r hr => ?_) h12))
    exact ⟨xr_cong hn (fun r hr => (h9 r hr).1) (fun _ _ => rfl) (fun p hp => ⟨rfl, rfl, rfl, rfl, (hkeep p hp).1, (hkeep p hp).2⟩) (fun _ _ => rfl) r hr, (h9 r hr).2⟩
end VCx
