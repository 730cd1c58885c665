/-! the relation: one pure state, both sides related to it -/
def pr_rule (P R : pr_PT) (rl rj rK : Nat) : Prop :=
  pt_ok P ∧ pt_fin P ∧ pt_k P (pt_n P - 1) ≤ 10 ∧ pt_ok R ∧ pt_fin R ∧ (∀ i, i < pt_n R → pt_k R i ≠ 14) ∧ (∀ q, q < pt_n R → pt_k R q = 13 → ∃ p, p < pt_n P ∧ 13 ≤ pt_k P p ∧ pt_v P p = pt_v R q) ∧
  rl ≤ 4 ∧ (rl ≠ 0 → rj < 2 ∧ rK < 256 ∧ pt_has P 14 rj = true) ∧ pt_rw R (pt_has P 14) < pt_pw P ∧ (∀ j, pt_has P 13 j = true → pt_has P 14 j = false)
def sp_dr (D : Nat → pr_PT) (ps : Nat → Nat → Nat) (dc : Nat → Nat) (dl dj dk : Nat) : Prop :=
  (∀ s, s < 2 → pt_ok (D s) ∧ pd_ok (D s) (ps s) (dc s)) ∧ (∀ i, i < pt_n (D 1) → pt_k (D 1) i ≠ 14) ∧ dl ≤ 4 ∧ (dl ≠ 0 → dj < 2 ∧ dk < 256)
def sp_gr (mN ph nc oc : Nat) (K : Nat → Nat) (V : Nat → Int32) (A B : Nat → Option Nat) (O : Nat → Nat) : Prop :=
  ∃ rk rk2 : Nat → Nat, pr_gw 0 K V A B rk ∧ (∀ k, k < oc → pr_T 0 K (O k)) ∧ (ph = 0 → (rk = fun n => n) ∧ nc ≤ mN ∧ ∀ n, n < 32 → (K n = 0 ↔ nc ≤ n)) ∧ (ph = 1 → pr_gw 32 K V A B rk2 ∧ (∀ k, k < oc → pr_T 32 K (O (4 + k))) ∧ ∀ x, pr_T 0 K x → x ∈ pr_lv A B O 0 oc)
def sp_ok (mN : Nat) (mR : Nat) (rc : Nat) (ph : Nat) (nc : Nat) (oc : Nat) (cx : Int32) (ap : Int32) (P : Nat → pr_PT) (R : Nat → pr_PT) (rl : Nat → Nat) (rj : Nat → Nat) (rK : Nat → Nat) (uc : Nat → Int32) (D : Nat → pr_PT) (ps : Nat → Nat → Nat) (dc : Nat → Nat) (dl : Nat) (dj : Nat) (dk : Nat) (K : Nat → Nat) (V : Nat → Int32) (A : Nat → Option Nat) (B : Nat → Option Nat) (O : Nat → Nat) : Prop :=
  8 ≤ mN ∧ mN ≤ 32 ∧ 1 ≤ mR ∧ mR ≤ 16 ∧ rc ≤ mR ∧ ph ≤ 1 ∧ oc ≤ 4 ∧ (∀ r, r < rc → pr_rule (P r) (R r) (rl r) (rj r) (rK r)) ∧ sp_dr D ps dc dl dj dk ∧ sp_gr mN ph nc oc K V A B O
/-- a precondition kept in arrays at the place x -/
def pe_at (x rl rj rK : Nat) (pr pv pc : Nat → Int32) : Prop := pr x = nI rl ∧ (rl ≠ 0 → pv x = nI rj ∧ pc x = nI rK)
def xr_rule (r : Nat) (P R : pr_PT) (sz kd vl ta tb cv mx rn : Nat → Int32) : Prop :=
  tr_at ((r * 2 + 0) * 8) (r * 2 + 0) P sz kd vl ta tb ∧ tr_at ((r * 2 + 1) * 8) (r * 2 + 1) R sz kd vl ta tb ∧ (∀ q, q < pt_n R → cv ((r * 2 + 1) * 8 + q) = pr_b (pt_cv R (pt_has P 14) q)) ∧ (∀ q, q < pt_n R → mx ((r * 2 + 1) * 8 + q) = pr_b (pt_mx R (pt_has P 14) q)) ∧ rn r = nI (pt_rm R (pt_has P 14))
/-- the draft in the rule slot x, its pending subtrees as places from the offset o s on -/
def dr_at (x : Nat) (o : Nat → Nat) (D : Nat → pr_PT) (ps : Nat → Nat → Nat) (dc : Nat → Nat) (sz kd vl ta tb pn pc : Nat → Int32) : Prop :=
  ∀ s, s < 2 → tr_at (o s) (x * 2 + s) (D s) sz kd vl ta tb ∧ pc s = nI (dc s) ∧ ∀ q, q < dc s → pn (s * 8 + q) = nI (o s + ps s q)
def gr_all (ph oc : Nat) (K : Nat → Nat) (V : Nat → Int32) (A B : Nat → Option Nat) (O : Nat → Nat) (nk nv na nb ou : Nat → Int32) : Prop :=
  gr_at 0 K V A B nk nv na nb ∧ (∀ k, k < oc → ou k = nI (O k)) ∧ (ph = 1 → gr_at 32 K V A B nk nv na nb ∧ ∀ k, k < oc → ou (4 + k) = nI (O (4 + k)))
def rx (mN : Nat) (mR : Nat) (rc : Nat) (ph : Nat) (nc : Nat) (oc : Nat) (cx : Int32) (ap : Int32) (P : Nat → pr_PT) (R : Nat → pr_PT) (rl : Nat → Nat) (rj : Nat → Nat) (rK : Nat → Nat) (uc : Nat → Int32) (D : Nat → pr_PT) (ps : Nat → Nat → Nat) (dc : Nat → Nat) (dl : Nat) (dj : Nat) (dk : Nat) (K : Nat → Nat) (V : Nat → Int32) (A : Nat → Option Nat) (B : Nat → Option Nat) (O : Nat → Nat) (u : St2) : Prop := match u with
  | (f_maxNodes, f_maxRules, f_ruleCount, f_counterexample, f_optimized, f_nodeCount, f_outputCount, f_applications, a_preRelation, a_preVariable, a_preConstant, a_roomNeeded, a_useCount, a_treeSize, a_treeKind, a_treeValue, a_treeA, a_treeB, a_treeResult, a_constantValued, a_maximal, a_counterpart, a_boundNode, a_pending, a_pendingCount, a_nodeKind, a_nodeValue, a_nodeA, a_nodeB, a_nodeResult, a_nodeUses, a_outputNode, a_seen, a_order, a_walkStack) => f_maxNodes = nI mN ∧ f_maxRules = nI mR ∧ f_ruleCount = nI rc ∧ f_counterexample = cx ∧ f_optimized = nI ph ∧ f_nodeCount = nI nc ∧ f_outputCount = nI oc ∧ f_applications = ap ∧
    (∀ r, r < rc → xr_rule r (P r) (R r) a_treeSize a_treeKind a_treeValue a_treeA a_treeB a_constantValued a_maximal a_roomNeeded ∧ pe_at r (rl r) (rj r) (rK r) a_preRelation a_preVariable a_preConstant ∧ a_useCount r = uc r) ∧
    dr_at rc (fun s => (rc * 2 + s) * 8) D ps dc a_treeSize a_treeKind a_treeValue a_treeA a_treeB a_pending a_pendingCount ∧ pe_at rc dl dj dk a_preRelation a_preVariable a_preConstant ∧
    gr_all ph oc K V A B O a_nodeKind a_nodeValue a_nodeA a_nodeB a_outputNode
theorem gr_O0 {ph oc : Nat} {K : Nat → Nat} {V : Nat → Int32} {A B : Nat → Option Nat} {O : Nat → Nat} {nk nv na nb ou : Nat → Int32} (h : gr_all ph oc K V A B O nk nv na nb ou) (hO : ∀ k, k < oc → pr_T 0 K (O k)) : ∀ k, k < oc → pr_T (0 * 32) K (O (0 * 4 + k)) ∧ ou (0 * 4 + k) = nI (O (0 * 4 + k)) := by
  intro k hk
  have h1 := hO k hk
  have h2 := h.2.1 k hk
  rw [show 0 * 4 + k = k by omega]
  exact ⟨h1, h2⟩
theorem gr_1 {ph oc : Nat} {K : Nat → Nat} {V : Nat → Int32} {A B : Nat → Option Nat} {O : Nat → Nat} {nk nv na nb ou : Nat → Int32} (h : gr_all ph oc K V A B O nk nv na nb ou) (hp : ph = 1) (hO : ∀ k, k < oc → pr_T 32 K (O (4 + k))) : ∀ k, k < oc → pr_T (1 * 32) K (O (1 * 4 + k)) ∧ ou (1 * 4 + k) = nI (O (1 * 4 + k)) :=
  fun k hk => ⟨hO k hk, (h.2.2 hp).2 k hk⟩
theorem x_start {post : St2 → Prop} {u : St0} (h : ∀ v, sp_ok 32 16 0 0 0 0 (-1) 0 (fun _ => pt_0) (fun _ => pt_0) (fun _ => 0) (fun _ => 0) (fun _ => 0) (fun _ => 0) (fun _ => pt_0) (fun _ _ => 0) (fun _ => 0) 0 0 0 (fun _ => 0) (fun _ => 0) (fun _ => none) (fun _ => none) (fun _ => 0) → rx 32 16 0 0 0 0 (-1) 0 (fun _ => pt_0) (fun _ => pt_0) (fun _ => 0) (fun _ => 0) (fun _ => 0) (fun _ => 0) (fun _ => pt_0) (fun _ _ => 0) (fun _ => 0) 0 0 0 (fun _ => 0) (fun _ => 0) (fun _ => none) (fun _ => none) (fun _ => 0) v → post v) : wpX_init post 27 2835 u 32 16 := by
  have n0 : ∀ q : Nat, ¬ q < pt_n pt_0 := fun q h => absurd h (by show ¬ q < 0; omega)
  have hnT : ∀ lo n, ¬ pr_T lo (fun _ => 0) n := fun lo n h => h.2.2 rfl
  have fin : post (nI 32, nI 16, 0, (-1), 0, 0, 0, 0, (fun _ => 0), (fun _ => 0), (fun _ => 0), (fun _ => 0), (fun _ => 0), (fun _ => 0), (fun _ => 0), (fun _ => 0), (fun _ => 0), (fun _ => 0), (fun _ => 0), (fun _ => 0), (fun _ => 0), (fun _ => 0), (fun _ => 0), (fun _ => 0), (fun _ => 0), (fun _ => 0), (fun _ => 0), (fun _ => 0), (fun _ => 0), (fun _ => 0), (fun _ => 0), (fun _ => 0), (fun _ => 0), (fun _ => 0), (fun _ => 0)) := by
    refine h _ ?_ ?_
    · exact ⟨by omega, by omega, by omega, by omega, by omega, by omega, by omega, fun r hr => absurd hr (by omega), ⟨fun s _ => ⟨pt_0_ok, pd_0_ok _⟩, fun i hi => absurd hi (n0 i), by omega, fun h => absurd rfl h⟩, fun n => n, fun n => n, fun n hn => absurd hn (hnT 0 n), fun k hk => absurd hk (by omega), fun _ => ⟨rfl, by omega, fun n _ => ⟨fun _ => Nat.zero_le n, fun _ => rfl⟩⟩, fun h => absurd h (by omega)⟩
    · exact ⟨rfl, rfl, rfl, rfl, rfl, rfl, rfl, rfl, fun r hr => absurd hr (by omega), fun s hs => ⟨⟨rfl, fun i hi => absurd hi (n0 i)⟩, rfl, fun q hq => absurd hq (Nat.not_lt_zero q)⟩, ⟨rfl, fun h => absurd rfl h⟩, fun n hn => absurd hn (hnT 0 n), fun k hk => absurd hk (by omega), fun h => absurd h (by omega)⟩
  obtain ⟨u1, u2, u3, u4, u5, u6, u7, u8⟩ := u
  unfold wpX_init
  refine ⟨by omega, by omega, by omega, by omega, by omega, by omega, by omega, by omega, by omega, by omega, by omega, by omega, by omega, by omega, by omega, by omega, by omega, by omega, by omega, by omega, by omega, by omega, by omega, by omega, by omega, by omega, by omega, by omega, by omega, by omega, by omega, by omega, by omega, by omega, by omega, by omega, by omega, by omega, by omega, by omega, by omega, by omega, by omega, by omega, by omega, by omega, by omega, by omega, by omega, by omega, by omega, by omega, by omega, by omega, ?_⟩
  exact br_t (by decide) (br_t (by decide) (br_t (by decide) (br_t (by decide) fin)))
