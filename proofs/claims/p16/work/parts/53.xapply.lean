/-! X: applying a rule -/
section PIV
variable {K : Nat → Nat} {V : Nat → Int32} {A B : Nat → Option Nat} {us rk : Nat → Nat} {P R : pr_PT} {Rn : Nat} {bd : Nat → Option Nat} {m : Nat → Nat} {tv : Nat → Int32}
theorem pa_inv (hG : pr_gw 0 K V A B rk) (hP : pt_ok P) (hPf : pt_fin P) (hPr : pt_k P (pt_n P - 1) ≤ 10) (hR : pt_ok R) (h14 : ∀ i, i < pt_n R → pt_k R i ≠ 14)
    (hv : ∀ q, q < pt_n R → pt_k R q = 13 → ∃ p, p < pt_n P ∧ 13 ≤ pt_k P p ∧ pt_v P p = pt_v R q)
    (hm : pm_inv K V A B us P Rn 0 (m, bd)) {C : Nat → Bool} (hct : pr_ct K + pt_rm R C ≤ 32) (htv : ∀ q, q < pt_n R → pr_by (tv q)) :
    ∃ Lo β, ∀ i, i ≤ pt_n R → ∃ ρ, pb_inv K V A B rk bd R C Lo β i (pb_run R C tv bd i (K, V, A, B, fun _ => none)) ρ := by
  have hRk : 1 ≤ pt_n P := hPf.1
  have hbr : ∀ j y, bd j = some y → pr_T 0 K y ∧ rk y < rk Rn := by
    intro j y hj
    obtain ⟨q, _, h2, h3, h4, h5⟩ := hm.2.2.2 j y hj
    have hq := hm.2.1 q (by omega) h2
    replace h5 : m q = y := h5
    have hne : q + 1 ≠ pt_n P := by
      intro e
      rw [show pt_n P - 1 = q by omega] at hPr
      omega
    have hr := pm_rk hP hPf hG hm (pt_n P - 1 - q) q (by omega) hne
    replace hr : rk (m q) < rk Rn := hr
    rw [h5] at hr
    have ht := hq.1
    replace ht : pr_T 0 K (m q) := ht
    rw [h5] at ht
    exact ⟨ht, hr⟩
  have hlo : ∀ x, x ∈ pm_lo P m (pt_n P) → K x ≠ 0 := by
    intro x hx
    obtain ⟨p, h1, h2, h3⟩ := pm_lo_m.mp hx
    have := (hm.2.1 p (by omega) h1).1.2.2
    replace this : K (m p) ≠ 0 := this
    rw [h3] at this
    exact this
  have hbd : ∀ q, q < pt_n R → pt_k R q = 13 → ∃ y, bd (pt_v R q) = some y ∧ pr_T 0 K y ∧ 16 * rk y ≤ 16 * rk Rn - 16 := by
    intro q hq hk
    obtain ⟨p, h1, h2, h3⟩ := hv q hq hk
    have := ((hm.2.1 p (by omega) h1).2.2.1 h2).1
    replace this : bd (pt_v P p) = some (m p) := this
    rw [h3] at this
    have hb := hbr _ _ this
    exact ⟨_, this, hb.1, by omega⟩
  exact ⟨pm_lo P m (pt_n P), 16 * rk Rn - 16, pb_all (K0 := K) (V0 := V) (A0 := A) (B0 := B) (rk := rk) (bd := bd) (R := R) (C := C) (Lo := pm_lo P m (pt_n P)) (β := 16 * rk Rn - 16) (tv := tv) hR h14 hct hlo htv hbd rfl⟩
end PIV
theorem pb_ch {R : pr_PT} {C : Nat → Bool} (hR : pt_ok R) {i c : Nat} (hi : i < pt_n R) (hc : pt_cv R C i = false) (h : pt_a R i = some c ∨ pt_b R i = some c) : ¬ pb_sk R C c ∧ c < i := by
  have h9 := (hR.2 i hi).2.2.2.2.2.2.2.2.1 c h
  refine ⟨fun hs => ?_, h9.1⟩
  have := hs.2
  unfold pt_mx at this
  rw [hs.1, h9.2] at this
  replace this : (true && !pt_cv R C i) = false := this
  rw [hc] at this
  cases this
theorem pr_fr_le (K : Nat → Nat) : pr_fr K < 32 := by
  have : ∀ f s, pr_lf K f s ≤ s + f := by
    intro f
    induction f with
    | zero => intro s; exact Nat.le_refl _
    | succ f ih =>
      intro s
      show (if K s = 0 then s else pr_lf K f (s + 1)) ≤ s + (f + 1)
      by_cases h : K s = 0
      · rw [if_pos h]
        omega
      · rw [if_neg h]
        have := ih (s + 1)
        omega
  have := this 31 0
  show pr_lf K 31 0 < 32
  omega
/-- what is known of a graph in the making -/
def pb_fx (R : pr_PT) (C : Nat → Bool) (i : Nat) (s : pb_S) : Prop := (∀ n, n < 32 → s.1 n < 100) ∧ ∀ q, q < i → ¬ pb_sk R C q → ∃ z, s.2.2.2.2 q = some z ∧ z < 32
theorem pb_fx_of {K0 : Nat → Nat} {V0 : Nat → Int32} {A0 B0 : Nat → Option Nat} {rk : Nat → Nat} {bd : Nat → Option Nat} {R : pr_PT} {C : Nat → Bool} {Lo : List Nat} {β i : Nat} {s : pb_S} {ρ : Nat → Nat} (hG : pr_gw 0 K0 V0 A0 B0 rk) (h : pb_inv K0 V0 A0 B0 rk bd R C Lo β i s ρ) : pb_fx R C i s := by
  obtain ⟨h1, h2, h3, h4, h5⟩ := h
  refine ⟨fun n hn => ?_, fun q hq hq' => ?_⟩
  · by_cases hK : K0 n = 0
    · by_cases hs : s.1 n = 0
      · rw [hs]
        omega
      · have := (h2 n hK hs).2.1
        omega
    · rw [(h1 n hK).1]
      have := (hG n ⟨by omega, by omega, hK⟩).1
      omega
  · obtain ⟨y, y1, y2, _⟩ := h3 q hq hq'
    exact ⟨y, y1, by have := y2.2.1; omega⟩
/-- the arrays of X while a replacement is built -/
def xb_at (w : Nat) (R : pr_PT) (C : Nat → Bool) (i : Nat) (s : pb_S) (nk0 nv0 na0 nb0 nk nv na nb cp : Nat → Int32) : Prop :=
  (∀ n, n < 32 → nk n = nI (s.1 n)) ∧ gr_at 0 s.1 s.2.1 s.2.2.1 s.2.2.2.1 nk nv na nb ∧ (∀ n, 32 ≤ n → nk n = nk0 n ∧ nv n = nv0 n ∧ na n = na0 n ∧ nb n = nb0 n) ∧ ∀ q, q < i → ¬ pb_sk R C q → cp (w * 8 + q) = pr_oI (s.2.2.2.2 q)
theorem xb_new {w i κ : Nat} {R : pr_PT} {C : Nat → Bool} {s : pb_S} {x : Int32} {a b : Option Nat} {nk0 nv0 na0 nb0 nk nv na nb cp : Nat → Int32} (h : xb_at w R C i s nk0 nv0 na0 nb0 nk nv na nb cp) :
    xb_at w R C (i + 1) (pb_new i κ x a b s) nk0 nv0 na0 nb0 (upd nk (pr_fr s.1) (nI κ)) (upd nv (pr_fr s.1) x) (upd na (pr_fr s.1) (pr_oI a)) (upd nb (pr_fr s.1) (pr_oI b)) (upd cp (w * 8 + i) (nI (pr_fr s.1))) := by
  obtain ⟨h1, h2, h3, h4⟩ := h
  have hfr := pr_fr_le s.1
  refine ⟨fun n hn => ?_, fun n hn => ?_, fun n hn => ?_, fun q hq hq' => ?_⟩
  · show upd nk (pr_fr s.1) (nI κ) n = nI (pr_st s.1 (pr_fr s.1) κ n)
    by_cases e : n = pr_fr s.1
    · rw [e, pk_us, pr_st_s]
    · rw [pk_un e, pr_st_n e]
      exact h1 n hn
  · show upd nk (pr_fr s.1) (nI κ) n = nI (pr_st s.1 (pr_fr s.1) κ n) ∧ upd nv (pr_fr s.1) x n = pr_st s.2.1 (pr_fr s.1) x n ∧ upd na (pr_fr s.1) (pr_oI a) n = pr_oI (pr_st s.2.2.1 (pr_fr s.1) a n) ∧ upd nb (pr_fr s.1) (pr_oI b) n = pr_oI (pr_st s.2.2.2.1 (pr_fr s.1) b n)
    by_cases e : n = pr_fr s.1
    · rw [e, pk_us, pk_us, pk_us, pk_us, pr_st_s, pr_st_s, pr_st_s, pr_st_s]
      exact ⟨rfl, rfl, rfl, rfl⟩
    · rw [pk_un e, pk_un e, pk_un e, pk_un e, pr_st_n e, pr_st_n e, pr_st_n e, pr_st_n e]
      refine h2 n ⟨hn.1, hn.2.1, ?_⟩
      have := hn.2.2
      replace this : pr_st s.1 (pr_fr s.1) κ n ≠ 0 := this
      rw [pr_st_n e] at this
      exact this
  · rw [pk_un (by omega), pk_un (by omega), pk_un (by omega), pk_un (by omega)]
    exact h3 n hn
  · show upd cp (w * 8 + i) (nI (pr_fr s.1)) (w * 8 + q) = pr_oI (pr_st s.2.2.2.2 i (some (pr_fr s.1)) q)
    by_cases e : q = i
    · rw [e, pk_us, pr_st_s]
      rfl
    · rw [pk_un (by omega), pr_st_n e]
      exact h4 q (by omega) hq'
section XW
variable {f_maxNodes f_maxRules f_ruleCount f_counterexample f_optimized f_nodeCount f_outputCount f_applications : Int32} {a_preRelation a_preVariable a_preConstant a_roomNeeded a_useCount a_treeSize a_treeKind a_treeValue a_treeA a_treeB a_treeResult a_constantValued a_maximal a_counterpart a_boundNode a_pending a_pendingCount a_nodeKind a_nodeValue a_nodeA a_nodeB a_nodeResult a_nodeUses a_outputNode a_seen a_order a_walkStack : Nat → Int32}
variable {R : pr_PT} {C : Nat → Bool} {tv : Nat → Int32} {bd : Nat → Option Nat} {w : Nat} {nk0 nv0 na0 nb0 : Nat → Int32}
theorem x_freeNode {post : Int32 → Prop} {K : Nat → Nat} (hk : ∀ n, n < 32 → a_nodeKind n = nI (K n)) (hK : ∀ n, n < 32 → K n < 100) (h : post (nI (pr_fr K))) : wpX_freeNode post (f_maxNodes, f_maxRules, f_ruleCount, f_counterexample, f_optimized, f_nodeCount, f_outputCount, f_applications, a_preRelation, a_preVariable, a_preConstant, a_roomNeeded, a_useCount, a_treeSize, a_treeKind, a_treeValue, a_treeA, a_treeB, a_treeResult, a_constantValued, a_maximal, a_counterpart, a_boundNode, a_pending, a_pendingCount, a_nodeKind, a_nodeValue, a_nodeA, a_nodeB, a_nodeResult, a_nodeUses, a_outputNode, a_seen, a_order, a_walkStack) := by
  have l : ∀ f s, s + f = 31 → post (nI (pr_lf K f s)) → wX_freeNode_2 post f_maxNodes f_maxRules f_ruleCount f_counterexample f_optimized f_nodeCount f_outputCount f_applications a_preRelation a_preVariable a_preConstant a_roomNeeded a_useCount a_treeSize a_treeKind a_treeValue a_treeA a_treeB a_treeResult a_constantValued a_maximal a_counterpart a_boundNode a_pending a_pendingCount a_nodeKind a_nodeValue a_nodeA a_nodeB a_nodeResult a_nodeUses a_outputNode a_seen a_order a_walkStack (f + 1) (nI s) := by
    intro f
    induction f with
    | zero =>
      intro s hs h
      have e : s = 31 := by omega
      subst e
      exact pk_le 31 31 (fun _ => h) (fun h => absurd h (by omega))
    | succ f ih =>
      intro s hs h
      replace h : post (nI (if K s = 0 then s else pr_lf K f (s + 1))) := h
      have := hK s (by omega)
      refine pk_le 31 s (fun h => absurd h (by omega)) (fun _ => ⟨pk_in s 64 (by omega), ?_⟩)
      rw [nI_clamp (by omega), hk s (by omega)]
      refine pk_eq (K s) 0 (fun e => ?_) (fun e => nm_r (nI_1 _) (ih (s + 1) (by omega) ?_))
      · rw [if_pos e] at h
        exact h
      · rw [if_neg e] at h
        exact h
  exact ⟨32, l 31 0 (by omega) h⟩
theorem x_buildNode {post : Int32 → St2 → Prop} {i : Nat} {s : pb_S} (hw : w < 34) (hR : pt_ok R) (h14 : ∀ i, i < pt_n R → pt_k R i ≠ 14) (hi : i < pt_n R) (hU : tr_at (w * 8) w R a_treeSize a_treeKind a_treeValue a_treeA a_treeB) (hcv : ∀ q, q < pt_n R → a_constantValued (w * 8 + q) = pr_b (pt_cv R C q)) (hmx : ∀ q, q < pt_n R → a_maximal (w * 8 + q) = pr_b (pt_mx R C q)) (htr : ∀ q, q < pt_n R → pt_cv R C q = true → a_treeResult (w * 8 + q) = tv q) (hbn : ∀ j, j < 2 → a_boundNode j = pr_oI (bd j))
    (hfx : pb_fx R C i s) (hb : xb_at w R C i s nk0 nv0 na0 nb0 a_nodeKind a_nodeValue a_nodeA a_nodeB a_counterpart)
    (h : ∀ r nk nv na nb, xb_at w R C (i + 1) (pb_st R C tv bd i s) nk0 nv0 na0 nb0 nk nv na nb (upd a_counterpart (w * 8 + i) r) → post r (f_maxNodes, f_maxRules, f_ruleCount, f_counterexample, f_optimized, f_nodeCount, f_outputCount, f_applications, a_preRelation, a_preVariable, a_preConstant, a_roomNeeded, a_useCount, a_treeSize, a_treeKind, a_treeValue, a_treeA, a_treeB, a_treeResult, a_constantValued, a_maximal, a_counterpart, a_boundNode, a_pending, a_pendingCount, nk, nv, na, nb, a_nodeResult, a_nodeUses, a_outputNode, a_seen, a_order, a_walkStack)) : wpX_buildNode post (f_maxNodes, f_maxRules, f_ruleCount, f_counterexample, f_optimized, f_nodeCount, f_outputCount, f_applications, a_preRelation, a_preVariable, a_preConstant, a_roomNeeded, a_useCount, a_treeSize, a_treeKind, a_treeValue, a_treeA, a_treeB, a_treeResult, a_constantValued, a_maximal, a_counterpart, a_boundNode, a_pending, a_pendingCount, a_nodeKind, a_nodeValue, a_nodeA, a_nodeB, a_nodeResult, a_nodeUses, a_outputNode, a_seen, a_order, a_walkStack) (nI (w * 8 + i)) := by
  have h8 := hR.1
  obtain ⟨e1, e2, e3, e4⟩ := hU.2 i hi
  have hn := hR.2 i hi
  have h9 := hn.2.2.2.2.2.2.2.2.1
  have hs := pt_sm hR i hi
  have hin : vp_in (nI (w * 8 + i)) 272 := pk_in (w * 8 + i) 272 (by omega)
  have hcl : (nI (w * 8 + i)).toNatClampNeg = w * 8 + i := nI_clamp (by omega)
  have hfr := pr_fr_le s.1
  unfold pb_st at h
  unfold wpX_buildNode
  refine ⟨hin, ?_⟩
  rw [hcl, e1, e2, hcv i hi, hmx i hi]
  refine pk_eq (pt_k R i) 13 (fun h13 => ⟨hin, ?_⟩) (fun n13 => ⟨hin, ?_⟩)
  · have hv2 := hn.2.2.1 (by omega)
    refine ⟨pk_in (pt_v R i) 2 hv2, ?_⟩
    rw [nI_clamp (by omega), hbn _ hv2]
    refine h _ a_nodeKind a_nodeValue a_nodeA a_nodeB ?_
    by_cases hsk : pt_cv R C i = true ∧ pt_mx R C i = false
    · rw [if_pos hsk]
      refine ⟨hb.1, hb.2.1, hb.2.2.1, fun q hq hq' => ?_⟩
      have e : q ≠ i := fun e => hq' (by rw [e]; exact hsk)
      rw [pk_un (by omega)]
      exact hb.2.2.2 q (by omega) hq'
    · rw [if_neg hsk, if_pos h13]
      refine ⟨hb.1, hb.2.1, hb.2.2.1, fun q hq hq' => ?_⟩
      show _ = pr_oI (pr_st s.2.2.2.2 i (bd (pt_v R i)) q)
      by_cases e : q = i
      · rw [e, pk_us, pr_st_s]
      · rw [pk_un (by omega), pr_st_n e]
        exact hb.2.2.2 q (by omega) hq'
  · rw [if_neg n13] at h
    have h43 : ¬ (pt_cv R C i = true ∧ pt_mx R C i = false) → wX_buildNode_43 post (nI (w * 8 + i)) f_maxNodes f_maxRules f_ruleCount f_counterexample f_optimized f_nodeCount f_outputCount f_applications a_preRelation a_preVariable a_preConstant a_roomNeeded a_useCount a_treeSize a_treeKind a_treeValue a_treeA a_treeB a_treeResult a_constantValued a_maximal a_counterpart a_boundNode a_pending a_pendingCount a_nodeKind a_nodeValue a_nodeA a_nodeB a_nodeResult a_nodeUses a_outputNode a_seen a_order a_walkStack := by
      intro hsk
      rw [if_neg hsk] at h
      unfold wX_buildNode_43
      refine x_freeNode hb.1 hfx.1 ⟨hin, ?_⟩
      rw [hcl, hcv i hi]
      refine br_c (fun h0 => ⟨hin, ?_⟩) (fun h0 => ⟨hin, ?_⟩)
      · have hc := (pr_b0 _).mp h0
        rw [if_neg (by rw [hc]; decide)] at h
        have hk10 : pt_k R i ≤ 10 := by
          apply Classical.byContradiction
          intro hk
          have h11 : pt_k R i = 11 := by
            have := hn.1
            have := h14 i hi
            omega
          rw [pt_cv_eq hR hi] at hc
          unfold pt_cF at hc
          rw [if_neg n13, hn.2.2.2.2.1 (by omega), hn.2.2.2.2.2.1 (by omega)] at hc
          cases hc
        obtain ⟨ca, hca⟩ := hn.2.2.2.2.2.2.1 hk10
        have pa := pb_ch (C := C) hR hi hc (Or.inl hca)
        have h100 : ∀ z, z = pr_oI (pr_or s.2.2.2.2 (pt_b R i)) → wX_buildNode_100 post (nI (w * 8 + i)) (nI (pr_fr s.1)) z f_maxNodes f_maxRules f_ruleCount f_counterexample f_optimized f_nodeCount f_outputCount f_applications a_preRelation a_preVariable a_preConstant a_roomNeeded a_useCount a_treeSize a_treeKind a_treeValue a_treeA a_treeB a_treeResult a_constantValued a_maximal a_counterpart a_boundNode a_pending a_pendingCount a_nodeKind a_nodeValue a_nodeA a_nodeB a_nodeResult a_nodeUses a_outputNode a_seen a_order a_walkStack := by
          intro z hz
          subst hz
          refine ⟨hin, hin, ?_⟩
          rw [hcl, e1, e3, hca]
          refine ⟨pk_in (w * 8 + ca) 272 (by omega), ?_⟩
          rw [show (pr_oX (w * 8) (some ca)).toNatClampNeg = w * 8 + ca from nI_clamp (by omega), hb.2.2.2 ca pa.2 pa.1]
          refine x_setNode2 (by omega) (h _ _ _ _ _ ?_)
          rw [hca]
          exact xb_new hb
        rw [e4]
        cases hbb : pt_b R i with
        | none => exact br_t rfl (h100 _ (by rw [hbb]; rfl))
        | some cb =>
          have pbb := pb_ch (C := C) hR hi hc (Or.inr hbb)
          refine br_f (pr_ne1 (by omega)) ⟨hin, pk_in (w * 8 + cb) 272 (by omega), ?_⟩
          rw [show (pr_oX (w * 8) (some cb)).toNatClampNeg = w * 8 + cb from nI_clamp (by omega)]
          exact h100 _ (by rw [hbb, hb.2.2.2 cb pbb.2 pbb.1]; rfl)
      · have hc : pt_cv R C i = true := by
          cases hx : pt_cv R C i with
          | true => rfl
          | false => rw [hx] at h0; exact absurd rfl h0
        rw [if_pos hc] at h
        rw [htr i hi hc]
        exact x_setNode2 (by omega) (h _ _ _ _ _ (xb_new (κ := 11) (a := none) (b := none) hb))
    refine br_c (fun h0 => h43 fun hh => ?_) (fun h0 => ⟨hin, br_c (fun h1 => ?_) (fun h1 => h43 fun hh => ?_)⟩)
    · rw [hh.1] at h0
      exact absurd h0 (by decide)
    · have hc : pt_cv R C i = true := by
        cases hx : pt_cv R C i with
        | true => rfl
        | false => rw [hx] at h0; exact absurd rfl h0
      have hsk : pt_cv R C i = true ∧ pt_mx R C i = false := ⟨hc, (pr_b0 _).mp h1⟩
      refine h _ a_nodeKind a_nodeValue a_nodeA a_nodeB ?_
      rw [if_pos hsk]
      refine ⟨hb.1, hb.2.1, hb.2.2.1, fun q hq hq' => ?_⟩
      have e : q ≠ i := fun e => hq' (by rw [e]; exact hsk)
      rw [pk_un (by omega)]
      exact hb.2.2.2 q (by omega) hq'
    · rw [hh.2] at h1
      exact h1 rfl
theorem x_redirect {post : St2 → Prop} {oc Rn y : Nat} (hoc : oc ≤ 4)
    (h : ∀ na nb ou, (∀ n, na n = if n < 32 ∧ a_nodeA n = nI Rn then nI y else a_nodeA n) → (∀ n, nb n = if n < 32 ∧ a_nodeB n = nI Rn then nI y else a_nodeB n) → (∀ k, ou k = if k < oc ∧ a_outputNode k = nI Rn then nI y else a_outputNode k) → post (f_maxNodes, f_maxRules, f_ruleCount, f_counterexample, f_optimized, f_nodeCount, (nI oc), f_applications, a_preRelation, a_preVariable, a_preConstant, a_roomNeeded, a_useCount, a_treeSize, a_treeKind, a_treeValue, a_treeA, a_treeB, a_treeResult, a_constantValued, a_maximal, a_counterpart, a_boundNode, a_pending, a_pendingCount, a_nodeKind, a_nodeValue, na, nb, a_nodeResult, a_nodeUses, ou, a_seen, a_order, a_walkStack)) :
    wpX_redirect post (f_maxNodes, f_maxRules, f_ruleCount, f_counterexample, f_optimized, f_nodeCount, (nI oc), f_applications, a_preRelation, a_preVariable, a_preConstant, a_roomNeeded, a_useCount, a_treeSize, a_treeKind, a_treeValue, a_treeA, a_treeB, a_treeResult, a_constantValued, a_maximal, a_counterpart, a_boundNode, a_pending, a_pendingCount, a_nodeKind, a_nodeValue, a_nodeA, a_nodeB, a_nodeResult, a_nodeUses, a_outputNode, a_seen, a_order, a_walkStack) (nI Rn) (nI y) := by
  have l50 : ∀ na nb d i ou, (∀ ou', (∀ k, ou' k = if k < oc ∧ a_outputNode k = nI Rn then nI y else a_outputNode k) → post (f_maxNodes, f_maxRules, f_ruleCount, f_counterexample, f_optimized, f_nodeCount, (nI oc), f_applications, a_preRelation, a_preVariable, a_preConstant, a_roomNeeded, a_useCount, a_treeSize, a_treeKind, a_treeValue, a_treeA, a_treeB, a_treeResult, a_constantValued, a_maximal, a_counterpart, a_boundNode, a_pending, a_pendingCount, a_nodeKind, a_nodeValue, na, nb, a_nodeResult, a_nodeUses, ou', a_seen, a_order, a_walkStack)) → i + d = oc → (∀ k, ou k = if k < i ∧ a_outputNode k = nI Rn then nI y else a_outputNode k) → wX_redirect_50 post (nI Rn) (nI y) f_maxNodes f_maxRules f_ruleCount f_counterexample f_optimized f_nodeCount (nI oc) f_applications (d + 1) (nI i) a_preRelation a_preVariable a_preConstant a_roomNeeded a_useCount a_treeSize a_treeKind a_treeValue a_treeA a_treeB a_treeResult a_constantValued a_maximal a_counterpart a_boundNode a_pending a_pendingCount a_nodeKind a_nodeValue na nb a_nodeResult a_nodeUses ou a_seen a_order a_walkStack := by
    intro na nb d
    induction d with
    | zero =>
      intro i ou h hi ho
      have e : i = oc := by omega
      subst e
      exact pk_le i i (fun _ => h ou ho) (fun h => absurd h (by omega))
    | succ d ih =>
      intro i ou h hi ho
      have ei : ou i = a_outputNode i := by
        rw [ho i, if_neg (fun hh => absurd hh.1 (by omega))]
      refine pk_le oc i (fun h => absurd h (by omega)) (fun _ => ⟨pk_in i 8 (by omega), ?_⟩)
      rw [nI_clamp (by omega), ei]
      refine br_c (fun e => ⟨pk_in i 8 (by omega), nm_e (nm_r (nI_1 _) (ih (i + 1) _ h (by omega) fun k => ?_))⟩) (fun e => nm_r (nI_1 _) (ih (i + 1) ou h (by omega) fun k => ?_))
      · by_cases ek : k = i
        · rw [ek, pk_us, if_pos ⟨by omega, e⟩]
        · rw [pk_un ek, ho k]
          by_cases hc : k < i ∧ a_outputNode k = nI Rn
          · rw [if_pos hc, if_pos ⟨by omega, hc.2⟩]
          · rw [if_neg hc, if_neg (fun hh => hc ⟨by omega, hh.2⟩)]
      · rw [ho k]
        by_cases hc : k < i ∧ a_outputNode k = nI Rn
        · rw [if_pos hc, if_pos ⟨by omega, hc.2⟩]
        · rw [if_neg hc, if_neg (fun hh => hc ⟨?_, hh.2⟩)]
          have : k ≠ i := fun hx => e (by rw [← hx]; exact hh.2)
          omega
  have l2 : ∀ d i na nb, i + d = 32 → (∀ n, na n = if n < i ∧ a_nodeA n = nI Rn then nI y else a_nodeA n) → (∀ n, nb n = if n < i ∧ a_nodeB n = nI Rn then nI y else a_nodeB n) → wX_redirect_2 post (nI Rn) (nI y) f_maxNodes f_maxRules f_ruleCount f_counterexample f_optimized f_nodeCount (nI oc) f_applications (d + 1) (nI i) a_preRelation a_preVariable a_preConstant a_roomNeeded a_useCount a_treeSize a_treeKind a_treeValue a_treeA a_treeB a_treeResult a_constantValued a_maximal a_counterpart a_boundNode a_pending a_pendingCount a_nodeKind a_nodeValue na nb a_nodeResult a_nodeUses a_outputNode a_seen a_order a_walkStack := by
    intro d
    have up : ∀ (f g : Nat → Int32) (i : Nat), (∀ n, f n = if n < i ∧ g n = nI Rn then nI y else g n) → (g i = nI Rn → ∀ n, upd f i (nI y) n = if n < i + 1 ∧ g n = nI Rn then nI y else g n) ∧ (¬ g i = nI Rn → ∀ n, f n = if n < i + 1 ∧ g n = nI Rn then nI y else g n) := by
      intro f g i hf
      constructor
      · intro e n
        by_cases en : n = i
        · rw [en, pk_us, if_pos ⟨by omega, e⟩]
        · rw [pk_un en, hf n]
          by_cases hc : n < i ∧ g n = nI Rn
          · rw [if_pos hc, if_pos ⟨by omega, hc.2⟩]
          · rw [if_neg hc, if_neg (fun hh => hc ⟨by omega, hh.2⟩)]
      · intro e n
        rw [hf n]
        by_cases hc : n < i ∧ g n = nI Rn
        · rw [if_pos hc, if_pos ⟨by omega, hc.2⟩]
        · rw [if_neg hc, if_neg (fun hh => hc ⟨?_, hh.2⟩)]
          have : n ≠ i := fun hx => e (by rw [← hx]; exact hh.2)
          omega
    induction d with
    | zero =>
      intro i na nb hi h1 h2
      have e : i = 32 := by omega
      subst e
      exact pk_le 32 32 (fun _ => ⟨oc + 1, l50 na nb oc 0 a_outputNode (fun ou' ho => h na nb ou' h1 h2 ho) (by omega) (fun k => by rw [if_neg (fun hh => absurd hh.1 (by omega))])⟩) (fun h => absurd h (by omega))
    | succ d ih =>
      intro i na nb hi h1 h2
      have hin : vp_in (nI i) 64 := pk_in i 64 (by omega)
      have hcl : (nI i).toNatClampNeg = i := nI_clamp (by omega)
      have ea : na i = a_nodeA i := by
        rw [h1 i, if_neg (fun hh => absurd hh.1 (by omega))]
      have eb : nb i = a_nodeB i := by
        rw [h2 i, if_neg (fun hh => absurd hh.1 (by omega))]
      have h25 : ∀ na', (∀ n, na' n = if n < i + 1 ∧ a_nodeA n = nI Rn then nI y else a_nodeA n) → wX_redirect_25 post (wX_redirect_2 post (nI Rn) (nI y) f_maxNodes f_maxRules f_ruleCount f_counterexample f_optimized f_nodeCount (nI oc) f_applications (d + 1)) (nI Rn) (nI y) (nI i) f_maxNodes f_maxRules f_ruleCount f_counterexample f_optimized f_nodeCount (nI oc) f_applications a_preRelation a_preVariable a_preConstant a_roomNeeded a_useCount a_treeSize a_treeKind a_treeValue a_treeA a_treeB a_treeResult a_constantValued a_maximal a_counterpart a_boundNode a_pending a_pendingCount a_nodeKind a_nodeValue na' nb a_nodeResult a_nodeUses a_outputNode a_seen a_order a_walkStack := by
        intro na' hn'
        refine ⟨hin, ?_⟩
        rw [hcl, eb]
        exact br_c (fun e => ⟨hin, nm_e (nm_r (nI_1 _) (ih (i + 1) na' _ (by omega) hn' ((up nb a_nodeB i h2).1 e)))⟩) (fun e => nm_r (nI_1 _) (ih (i + 1) na' nb (by omega) hn' ((up nb a_nodeB i h2).2 e)))
      refine pk_le 32 i (fun h => absurd h (by omega)) (fun _ => ⟨hin, ?_⟩)
      rw [hcl, ea]
      exact br_c (fun e => ⟨hin, nm_e (h25 _ ((up na a_nodeA i h1).1 e))⟩) (fun e => h25 na ((up na a_nodeA i h1).2 e))
  exact ⟨33, l2 32 0 a_nodeA a_nodeB (by omega) (fun n => by rw [if_neg (fun hh => absurd hh.1 (by omega))]) (fun n => by rw [if_neg (fun hh => absurd hh.1 (by omega))])⟩
end XW
