/-! the ORIGINAL kept; optimize -/
def k0_f {α : Type} (f : Nat → α) : Nat → α := fun x => if x < 32 then f x else f (x - 32)
def k0_s (o : Option Nat) : Option Nat := match o with
  | none => none
  | some c => some (c + 32)
def k0_A (f : Nat → Option Nat) : Nat → Option Nat := fun x => if x < 32 then f x else k0_s (f (x - 32))
def k0_O (O : Nat → Nat) : Nat → Nat := fun k => if k < 4 then O k else O (k - 4) + 32
theorem k0_lo {α : Type} {f : Nat → α} {x : Nat} (h : x < 32) : k0_f f x = f x := if_pos h
theorem k0_hi {α : Type} {f : Nat → α} {x : Nat} : k0_f f (32 + x) = f x := by
  unfold k0_f
  rw [if_neg (by omega), show 32 + x - 32 = x by omega]
theorem k0_Alo {f : Nat → Option Nat} {x : Nat} (h : x < 32) : k0_A f x = f x := if_pos h
theorem k0_Ahi {f : Nat → Option Nat} {x : Nat} : k0_A f (32 + x) = k0_s (f x) := by
  unfold k0_A
  rw [if_neg (by omega), show 32 + x - 32 = x by omega]
theorem k0_s_s {o : Option Nat} {c : Nat} (h : k0_s o = some c) : ∃ d, o = some d ∧ c = d + 32 := by
  cases o with
  | none => cases h
  | some d =>
    refine ⟨d, rfl, ?_⟩
    exact (Option.some.inj h).symm
theorem k0_gw0 {K : Nat → Nat} {V : Nat → Int32} {A B : Nat → Option Nat} {rk : Nat → Nat} (h : pr_gw 0 K V A B rk) : pr_gw 0 (k0_f K) (k0_f V) (k0_A A) (k0_A B) rk := by
  intro n hn
  have hn32 : n < 32 := by have := hn.2.1; omega
  have hn' : pr_T 0 K n := ⟨hn.1, hn.2.1, by have := hn.2.2; rw [k0_lo hn32] at this; exact this⟩
  rw [k0_lo hn32, k0_lo hn32, k0_Alo hn32, k0_Alo hn32]
  obtain ⟨g1, g2, g3, g4, g5, g6, g7, g8, g9, g10⟩ := h n hn'
  refine ⟨g1, g2, g3, g4, g5, g6, g7, g8, g9, fun c hc => ?_⟩
  have := g10 c hc
  exact ⟨⟨this.1.1, this.1.2.1, by rw [k0_lo (by have := this.1.2.1; omega)]; exact this.1.2.2⟩, this.2⟩
theorem k0_gw32 {K : Nat → Nat} {V : Nat → Int32} {A B : Nat → Option Nat} {rk : Nat → Nat} {L : List Nat} (h : pr_gw 0 K V A B rk) : pr_gw 32 (pa_K L (k0_f K)) (k0_f V) (k0_A A) (k0_A B) (fun x => rk (x - 32)) := by
  have eK : ∀ x, 32 ≤ x → pa_K L (k0_f K) x = K (x - 32) := by
    intro x hx
    unfold pa_K k0_f
    rw [if_neg (fun hh => absurd hh.1 (by omega)), if_neg (by omega)]
  intro n hn
  have h32 : 32 ≤ n := hn.1
  obtain ⟨m, rfl⟩ : ∃ m, n = 32 + m := ⟨n - 32, by omega⟩
  have hm := hn.2.2
  rw [eK _ h32, show 32 + m - 32 = m by omega] at hm
  have hm' : pr_T 0 K m := ⟨by omega, by have := hn.2.1; omega, hm⟩
  rw [eK _ h32, k0_hi, k0_Ahi, k0_Ahi, show 32 + m - 32 = m by omega]
  obtain ⟨g1, g2, g3, g4, g5, g6, g7, g8, g9, g10⟩ := h m hm'
  refine ⟨g1, by show rk (32 + m - 32) < 32; rw [show 32 + m - 32 = m by omega]; exact g2, g3, g4, g5, fun h => by rw [g6 h]; rfl, fun h => by rw [g7 h]; rfl, fun h => ?_, fun h => ?_, fun c hc => ?_⟩
  · obtain ⟨c, hc⟩ := g8 h
    rw [hc]
    exact ⟨c + 32, rfl⟩
  · obtain ⟨c, hc⟩ := g9 h
    rw [hc]
    exact ⟨c + 32, rfl⟩
  · have hd : ∃ d, (A m = some d ∨ B m = some d) ∧ c = d + 32 := by
      rcases hc with hc | hc
      · obtain ⟨d, d1, d2⟩ := k0_s_s hc
        exact ⟨d, Or.inl d1, d2⟩
      · obtain ⟨d, d1, d2⟩ := k0_s_s hc
        exact ⟨d, Or.inr d1, d2⟩
    obtain ⟨d, d1, rfl⟩ := hd
    have := g10 d d1
    refine ⟨⟨by omega, by have := this.1.2.1; omega, ?_⟩, ?_⟩
    · rw [eK _ (by omega), show d + 32 - 32 = d by omega]
      exact this.1.2.2
    · show rk (d + 32 - 32) < rk (32 + m - 32)
      rw [show d + 32 - 32 = d by omega, show 32 + m - 32 = m by omega]
      exact this.2
section KPs
variable {mN : Nat} {mR : Nat} {rc : Nat} {ph : Nat} {nc : Nat} {oc : Nat} {cx : Int32} {ap : Int32} {P : Nat → pr_PT} {R : Nat → pr_PT} {rl : Nat → Nat} {rj : Nat → Nat} {rK : Nat → Nat} {uc : Nat → Int32} {D : Nat → pr_PT} {ps : Nat → Nat → Nat} {dc : Nat → Nat} {dl : Nat} {dj : Nat} {dk : Nat} {K : Nat → Nat} {V : Nat → Int32} {A : Nat → Option Nat} {B : Nat → Option Nat} {O : Nat → Nat}
theorem sp_keep (h : sp_ok mN mR rc ph nc oc cx ap P R rl rj rK uc D ps dc dl dj dk K V A B O) (hph : ph = 0) {L : List Nat} (hL : L = pr_lv (k0_A A) (k0_A B) (k0_O O) 0 oc) : sp_ok mN mR rc 1 nc oc cx ap P R rl rj rK uc D ps dc dl dj dk (pa_K L (k0_f K)) (k0_f V) (k0_A A) (k0_A B) (k0_O O) := by
  obtain ⟨o1, o2, o3, o4, o5, o6, o7, o8, o9, rk, rk', q1, q2, q3, q4⟩ := h
  have g0 := k0_gw0 q1
  have hO0 : ∀ k, k < oc → pr_T 0 (k0_f K) (k0_O O k) := by
    intro k hk
    have := q2 k hk
    unfold k0_O
    rw [if_pos (by omega)]
    exact ⟨this.1, this.2.1, by rw [k0_lo (by have := this.2.1; omega)]; exact this.2.2⟩
  obtain ⟨l1, l2, l3, l4⟩ := pr_lv_ok (O := k0_O O) (ob := 0) (pr_gw_T g0) (pr_gw_r g0) oc (fun k hk => by rw [Nat.zero_add]; exact hO0 k hk)
  rw [← hL] at l1 l2 l3 l4
  refine ⟨o1, o2, o3, o4, o5, by omega, o7, o8, o9, rk, fun x => rk (x - 32), pr_gw_del g0 l2, fun k hk => ?_, fun h => absurd h (by omega), fun _ => ⟨k0_gw32 q1, fun k hk => ?_, fun x hx => ?_⟩⟩
  · have h1 := hO0 k hk
    have h2 := l3 k hk
    rw [Nat.zero_add] at h2
    refine ⟨h1.1, h1.2.1, ?_⟩
    unfold pa_K
    rw [if_neg (fun hh => hh.2 h2)]
    exact h1.2.2
  · have := q2 k hk
    have e : k0_O O (4 + k) = O k + 32 := by
      unfold k0_O
      rw [if_neg (by omega), show 4 + k - 4 = k by omega]
    rw [e]
    refine ⟨by omega, by have := this.2.1; omega, ?_⟩
    unfold pa_K k0_f
    rw [if_neg (fun hh => absurd hh.1 (by omega)), if_neg (by omega), show O k + 32 - 32 = O k by omega]
    exact this.2.2
  · rw [← hL]
    apply Classical.byContradiction
    intro h
    have h2 := hx.2.2
    unfold pa_K at h2
    rw [if_pos ⟨by have := hx.2.1; omega, h⟩] at h2
    exact h2 rfl
end KPs
/-- both graphs in the arrays, once the ORIGINAL is kept -/
theorem gr_keep {oc : Nat} {K : Nat → Nat} {V : Nat → Int32} {A B : Nat → Option Nat} {rk O : Nat → Nat} {L : List Nat} {nk nv na nb ou nk' nv' na' nb' ou' : Nat → Int32} (hG : pr_gw 0 K V A B rk) (hoc : oc ≤ 4) (hg : gr_at 0 K V A B nk nv na nb) (hou : ∀ k, k < oc → ou k = nI (O k))
    (h1 : ∀ n, n < 32 → nk' n = nk n ∧ nv' n = nv n ∧ na' n = na n ∧ nb' n = nb n)
    (h2 : ∀ n, pr_T 0 K n → nk' (32 + n) = nk n ∧ nv' (32 + n) = nv n ∧ na' (32 + n) = (if na n = -1 then -1 else na n + 32) ∧ nb' (32 + n) = (if nb n = -1 then -1 else nb n + 32))
    (h3 : ∀ k, k < oc → ou' k = ou k ∧ ou' (4 + k) = ou k + 32) :
    gr_all 1 oc (pa_K L (k0_f K)) (k0_f V) (k0_A A) (k0_A B) (k0_O O) nk' nv' na' nb' ou' ∧ gr_at 0 (k0_f K) (k0_f V) (k0_A A) (k0_A B) nk' nv' na' nb' := by
  have g0 : gr_at 0 (k0_f K) (k0_f V) (k0_A A) (k0_A B) nk' nv' na' nb' := by
    intro n hn
    have hn32 : n < 32 := by have := hn.2.1; omega
    have hn' : pr_T 0 K n := ⟨hn.1, hn.2.1, by have := hn.2.2; rw [k0_lo hn32] at this; exact this⟩
    obtain ⟨a1, a2, a3, a4⟩ := h1 n hn32
    rw [k0_lo hn32, k0_lo hn32, k0_Alo hn32, k0_Alo hn32, a1, a2, a3, a4]
    exact hg n hn'
  refine ⟨⟨gr_pa g0, fun k hk => ?_, fun _ => ⟨fun n hn => ?_, fun k hk => ?_⟩⟩, g0⟩
  · unfold k0_O
    rw [if_pos (by omega), (h3 k hk).1]
    exact hou k hk
  · have h32 : 32 ≤ n := hn.1
    obtain ⟨m, rfl⟩ : ∃ m, n = 32 + m := ⟨n - 32, by omega⟩
    have eK : pa_K L (k0_f K) (32 + m) = K m := by
      unfold pa_K
      rw [if_neg (fun hh => absurd hh.1 (by omega)), k0_hi]
    have hm := hn.2.2
    rw [eK] at hm
    have hm' : pr_T 0 K m := ⟨by omega, by have := hn.2.1; omega, hm⟩
    obtain ⟨a1, a2, a3, a4⟩ := h2 m hm'
    obtain ⟨z1, z2, z3, z4⟩ := hg m hm'
    rw [eK, k0_hi, k0_Ahi, k0_Ahi, a1, a2, a3, a4, z3, z4]
    have hs : ∀ o : Option Nat, (∀ c, o = some c → c < 32) → (if pr_oI o = -1 then -1 else pr_oI o + 32) = pr_oI (k0_s o) := by
      intro o ho
      cases o with
      | none => exact if_pos rfl
      | some c =>
        have := ho c rfl
        exact (if_neg (pr_ne1 (a := c) (by omega))).trans (nI_add c 32)
    refine ⟨z1, z2, hs _ fun c hc => ?_, hs _ fun c hc => ?_⟩
    · have := (pr_gw_T hG m c hm' (Or.inl hc)).1.2.1
      omega
    · have := (pr_gw_T hG m c hm' (Or.inr hc)).1.2.1
      omega
  · unfold k0_O
    rw [if_neg (by omega), show 4 + k - 4 = k by omega, (h3 k hk).2, hou k hk]
    exact nI_add (O k) 32
section KPx
variable {f_maxNodes f_maxRules f_ruleCount f_counterexample f_optimized f_nodeCount f_outputCount f_applications : Int32} {a_preRelation a_preVariable a_preConstant a_roomNeeded a_useCount a_treeSize a_treeKind a_treeValue a_treeA a_treeB a_treeResult a_constantValued a_maximal a_counterpart a_boundNode a_pending a_pendingCount a_nodeKind a_nodeValue a_nodeA a_nodeB a_nodeResult a_nodeUses a_outputNode a_seen a_order a_walkStack : Nat → Int32}
theorem x_keep {post : St2 → Prop} {nc oc : Nat} (hnc : nc ≤ 32) (hoc : oc ≤ 4)
    (h : ∀ nk nv na nb ou, (∀ n, n < 32 → nk n = a_nodeKind n ∧ nv n = a_nodeValue n ∧ na n = a_nodeA n ∧ nb n = a_nodeB n) → (∀ n, n < nc → nk (32 + n) = a_nodeKind n ∧ nv (32 + n) = a_nodeValue n ∧ na (32 + n) = (if a_nodeA n = -1 then -1 else a_nodeA n + 32) ∧ nb (32 + n) = (if a_nodeB n = -1 then -1 else a_nodeB n + 32)) → (∀ k, k < oc → ou k = a_outputNode k ∧ ou (4 + k) = a_outputNode k + 32) → post (f_maxNodes, f_maxRules, f_ruleCount, f_counterexample, f_optimized, (nI nc), (nI oc), f_applications, a_preRelation, a_preVariable, a_preConstant, a_roomNeeded, a_useCount, a_treeSize, a_treeKind, a_treeValue, a_treeA, a_treeB, a_treeResult, a_constantValued, a_maximal, a_counterpart, a_boundNode, a_pending, a_pendingCount, nk, nv, na, nb, a_nodeResult, a_nodeUses, ou, a_seen, a_order, a_walkStack)) : wpX_keepOriginal post (f_maxNodes, f_maxRules, f_ruleCount, f_counterexample, f_optimized, (nI nc), (nI oc), f_applications, a_preRelation, a_preVariable, a_preConstant, a_roomNeeded, a_useCount, a_treeSize, a_treeKind, a_treeValue, a_treeA, a_treeB, a_treeResult, a_constantValued, a_maximal, a_counterpart, a_boundNode, a_pending, a_pendingCount, a_nodeKind, a_nodeValue, a_nodeA, a_nodeB, a_nodeResult, a_nodeUses, a_outputNode, a_seen, a_order, a_walkStack) := by
  have l88 : ∀ nk nv na nb, (∀ ou, (∀ k, k < oc → ou k = a_outputNode k ∧ ou (4 + k) = a_outputNode k + 32) → post (f_maxNodes, f_maxRules, f_ruleCount, f_counterexample, f_optimized, (nI nc), (nI oc), f_applications, a_preRelation, a_preVariable, a_preConstant, a_roomNeeded, a_useCount, a_treeSize, a_treeKind, a_treeValue, a_treeA, a_treeB, a_treeResult, a_constantValued, a_maximal, a_counterpart, a_boundNode, a_pending, a_pendingCount, nk, nv, na, nb, a_nodeResult, a_nodeUses, ou, a_seen, a_order, a_walkStack)) → ∀ d i ou, i + d = oc → (∀ k, k < 4 → ou k = a_outputNode k) → (∀ k, k < i → ou (4 + k) = a_outputNode k + 32) → wX_keepOriginal_88 post f_maxNodes f_maxRules f_ruleCount f_counterexample f_optimized (nI nc) (nI oc) f_applications (d + 1) (nI i) a_preRelation a_preVariable a_preConstant a_roomNeeded a_useCount a_treeSize a_treeKind a_treeValue a_treeA a_treeB a_treeResult a_constantValued a_maximal a_counterpart a_boundNode a_pending a_pendingCount nk nv na nb a_nodeResult a_nodeUses ou a_seen a_order a_walkStack := by
    intro nk nv na nb hp d
    induction d with
    | zero =>
      intro i ou hi h1 h2
      have e : i = oc := by omega
      subst e
      exact pk_le i i (fun _ => hp ou fun k hk => ⟨h1 k (by omega), h2 k hk⟩) (fun h => absurd h (by omega))
    | succ d ih =>
      intro i ou hi h1 h2
      have e4 : (4 : Int32) + nI i = nI (4 + i) := nI_add 4 i
      refine pk_le oc i (fun h => absurd h (by omega)) (fun _ => ⟨pk_in i 8 (by omega), ?_⟩)
      rw [e4, nI_clamp (n := 4 + i) (by omega), nI_clamp (n := i) (by omega), h1 i (by omega)]
      refine ⟨pk_in (4 + i) 8 (by omega), nm_e (nm_r (nI_1 _) (ih (i + 1) _ (by omega) (fun k hk => ?_) (fun k hk => ?_)))⟩
      · rw [pk_un (by omega)]
        exact h1 k hk
      · by_cases e : k = i
        · rw [e, pk_us]
        · rw [pk_un (by omega)]
          exact h2 k (by omega)
  have l2 : ∀ d i nk nv na nb, i + d = nc → (∀ n, n < 32 → nk n = a_nodeKind n ∧ nv n = a_nodeValue n ∧ na n = a_nodeA n ∧ nb n = a_nodeB n) → (∀ n, n < i → nk (32 + n) = a_nodeKind n ∧ nv (32 + n) = a_nodeValue n ∧ na (32 + n) = (if a_nodeA n = -1 then -1 else a_nodeA n + 32) ∧ nb (32 + n) = (if a_nodeB n = -1 then -1 else a_nodeB n + 32)) → wX_keepOriginal_2 post (d + 1) (nI i) f_maxNodes f_maxRules f_ruleCount f_counterexample f_optimized (nI nc) (nI oc) f_applications a_preRelation a_preVariable a_preConstant a_roomNeeded a_useCount a_treeSize a_treeKind a_treeValue a_treeA a_treeB a_treeResult a_constantValued a_maximal a_counterpart a_boundNode a_pending a_pendingCount nk nv na nb a_nodeResult a_nodeUses a_outputNode a_seen a_order a_walkStack := by
    intro d
    induction d with
    | zero =>
      intro i nk nv na nb hi h1 h2
      have e : i = nc := by omega
      subst e
      exact pk_le i i (fun _ => ⟨oc + 1, l88 nk nv na nb (fun ou ho => h nk nv na nb ou h1 h2 ho) oc 0 _ (by omega) (fun _ _ => rfl) (fun k hk => absurd hk (by omega))⟩) (fun h => absurd h (by omega))
    | succ d ih =>
      intro i nk nv na nb hi h1 h2
      have hin : vp_in (nI i) 64 := pk_in i 64 (by omega)
      have hcl : (nI i).toNatClampNeg = i := nI_clamp (by omega)
      obtain ⟨a1, a2, a3, a4⟩ := h1 i (by omega)
      have ex : nI i + 32 = nI (32 + i) := by
        rw [show (32 : Int32) = nI 32 from rfl, nI_add, Nat.add_comm]
      have h57 : ∀ xa xb, xa = (if a_nodeA i = -1 then -1 else a_nodeA i + 32) → xb = (if a_nodeB i = -1 then -1 else a_nodeB i + 32) → wX_keepOriginal_57 post (wX_keepOriginal_2 post (d + 1)) (nI i) xa xb f_maxNodes f_maxRules f_ruleCount f_counterexample f_optimized (nI nc) (nI oc) f_applications a_preRelation a_preVariable a_preConstant a_roomNeeded a_useCount a_treeSize a_treeKind a_treeValue a_treeA a_treeB a_treeResult a_constantValued a_maximal a_counterpart a_boundNode a_pending a_pendingCount nk nv na nb a_nodeResult a_nodeUses a_outputNode a_seen a_order a_walkStack := by
        intro xa xb ea eb
        refine ⟨hin, hin, ?_⟩
        rw [hcl, ex, a1, a2]
        refine x_setNode (by omega) (nm_r (nI_1 _) (ih (i + 1) _ _ _ _ (by omega) (fun n hn => ?_) (fun n hn => ?_)))
        · rw [pk_un (by omega), pk_un (by omega), pk_un (by omega), pk_un (by omega)]
          exact h1 n hn
        · by_cases e : n = i
          · rw [e, pk_us, pk_us, pk_us, pk_us]
            exact ⟨rfl, rfl, ea, eb⟩
          · rw [pk_un (by omega), pk_un (by omega), pk_un (by omega), pk_un (by omega)]
            exact h2 n (by omega)
      have h33 : ∀ xa, xa = (if a_nodeA i = -1 then -1 else a_nodeA i + 32) → wX_keepOriginal_33 post (wX_keepOriginal_2 post (d + 1)) (nI i) xa f_maxNodes f_maxRules f_ruleCount f_counterexample f_optimized (nI nc) (nI oc) f_applications a_preRelation a_preVariable a_preConstant a_roomNeeded a_useCount a_treeSize a_treeKind a_treeValue a_treeA a_treeB a_treeResult a_constantValued a_maximal a_counterpart a_boundNode a_pending a_pendingCount nk nv na nb a_nodeResult a_nodeUses a_outputNode a_seen a_order a_walkStack := by
        intro xa ea
        refine ⟨hin, ?_⟩
        rw [hcl, a4]
        exact br_c (fun e => h57 xa _ ea (by rw [if_pos e])) (fun e => ⟨hin, h57 xa _ ea (by rw [if_neg e])⟩)
      refine pk_le nc i (fun h => absurd h (by omega)) (fun _ => ⟨hin, ?_⟩)
      rw [hcl, a3]
      exact br_c (fun e => h33 _ (by rw [if_pos e])) (fun e => ⟨hin, h33 _ (by rw [if_neg e])⟩)
  exact ⟨nc + 1, l2 nc 0 _ _ _ _ (by omega) (fun _ _ => ⟨rfl, rfl, rfl, rfl⟩) (fun n hn => absurd hn (by omega))⟩
end KPx
section KPz
variable {mN : Nat} {mR : Nat} {rc : Nat} {ph : Nat} {nc : Nat} {oc : Nat} {cx : Int32} {ap : Int32} {P : Nat → pr_PT} {R : Nat → pr_PT} {rl : Nat → Nat} {rj : Nat → Nat} {rK : Nat → Nat} {uc : Nat → Int32} {D : Nat → pr_PT} {ps : Nat → Nat → Nat} {dc : Nat → Nat} {dl : Nat} {dj : Nat} {dk : Nat} {K : Nat → Nat} {V : Nat → Int32} {A : Nat → Option Nat} {B : Nat → Option Nat} {O : Nat → Nat}
/-- optimize: what q says is kept by the steps, and holds when the ORIGINAL is kept -/
theorem rx_opt {u : St2} {post : Int32 → St2 → Prop} (q : ∀ (mN : Nat) (mR : Nat) (rc : Nat) (ph : Nat) (nc : Nat) (oc : Nat) (cx : Int32) (ap : Int32) (P : Nat → pr_PT) (R : Nat → pr_PT) (rl : Nat → Nat) (rj : Nat → Nat) (rK : Nat → Nat) (uc : Nat → Int32) (D : Nat → pr_PT) (ps : Nat → Nat → Nat) (dc : Nat → Nat) (dl : Nat) (dj : Nat) (dk : Nat) (K : Nat → Nat) (V : Nat → Int32) (A : Nat → Option Nat) (B : Nat → Option Nat) (O : Nat → Nat), Prop)
    (hq : ∀ (mN : Nat) (mR : Nat) (rc : Nat) (ph : Nat) (nc : Nat) (oc : Nat) (cx : Int32) (ap : Int32) (P : Nat → pr_PT) (R : Nat → pr_PT) (rl : Nat → Nat) (rj : Nat → Nat) (rK : Nat → Nat) (uc : Nat → Int32) (D : Nat → pr_PT) (ps : Nat → Nat → Nat) (dc : Nat → Nat) (dl : Nat) (dj : Nat) (dk : Nat) (K : Nat → Nat) (V : Nat → Int32) (A : Nat → Option Nat) (B : Nat → Option Nat) (O : Nat → Nat), sp_ok mN mR rc ph nc oc cx ap P R rl rj rK uc D ps dc dl dj dk K V A B O → ph = 1 → q mN mR rc ph nc oc cx ap P R rl rj rK uc D ps dc dl dj dk K V A B O → ∀ i r s y L2 uc', sr_f rc (pr_lv A B O 0 oc) (sr_m mN P R rl rj rK K V A B (pr_us A B O (pr_lv A B O 0 oc) oc) (pr_lv A B O 0 oc).length) i r s → (sr_b (P r) (R r) K V A B s.2 (pt_n (R r))).2.2.2.2 (pt_n (R r) - 1) = some y → L2 = pr_lv (pa_A ((pr_lv A B O 0 oc).getD i 0) y (sr_b (P r) (R r) K V A B s.2 (pt_n (R r))).2.2.1) (pa_A ((pr_lv A B O 0 oc).getD i 0) y (sr_b (P r) (R r) K V A B s.2 (pt_n (R r))).2.2.2.1) (pa_O ((pr_lv A B O 0 oc).getD i 0) y oc O) 0 oc →
      q mN mR rc ph nc oc cx (ap + 1) P R rl rj rK uc' D ps dc dl dj dk (pa_K L2 (sr_b (P r) (R r) K V A B s.2 (pt_n (R r))).1) ((sr_b (P r) (R r) K V A B s.2 (pt_n (R r))).2.1) (pa_A ((pr_lv A B O 0 oc).getD i 0) y (sr_b (P r) (R r) K V A B s.2 (pt_n (R r))).2.2.1) (pa_A ((pr_lv A B O 0 oc).getD i 0) y (sr_b (P r) (R r) K V A B s.2 (pt_n (R r))).2.2.2.1) (pa_O ((pr_lv A B O 0 oc).getD i 0) y oc O))
    (hok : sp_ok mN mR rc ph nc oc cx ap P R rl rj rK uc D ps dc dl dj dk K V A B O) (hx : rx mN mR rc ph nc oc cx ap P R rl rj rK uc D ps dc dl dj dk K V A B O u) (h1 : ph = 1 → q mN mR rc ph nc oc cx ap P R rl rj rK uc D ps dc dl dj dk K V A B O) (h0 : ph = 0 → ∀ L, L = pr_lv (k0_A A) (k0_A B) (k0_O O) 0 oc → q mN mR rc 1 nc oc cx ap P R rl rj rK uc D ps dc dl dj dk (pa_K L (k0_f K)) (k0_f V) (k0_A A) (k0_A B) (k0_O O))
    (h : ∀ a ap' uc' K' V' A' B' O' u', sp_ok mN mR rc 1 nc oc cx ap' P R rl rj rK uc' D ps dc dl dj dk K' V' A' B' O' → q mN mR rc 1 nc oc cx ap' P R rl rj rK uc' D ps dc dl dj dk K' V' A' B' O' → rx mN mR rc 1 nc oc cx ap' P R rl rj rK uc' D ps dc dl dj dk K' V' A' B' O' u' → post a u') : wpX_optimize post u := by
  have hphc : ph = 0 ∨ ph = 1 := by have := hok.2.2.2.2.2.1; omega
  rcases hphc with hph | hph
  · subst hph
    have hsp := sp_keep hok rfl (L := pr_lv (k0_A A) (k0_A B) (k0_O O) 0 oc) rfl
    obtain ⟨ap', uc', K', V', A', B', O', r1, r2, r3⟩ := op_all q hq 96 _ _ _ _ _ _ _ _ _ _ _ _ _ _ _ _ _ _ _ _ _ _ _ _ _ hsp rfl (h0 rfl _ rfl) (pr_W_le _)
    have hW := pr_W_le (pa_K (pr_lv (k0_A A) (k0_A B) (k0_O O) 0 oc) (k0_f K))
    obtain ⟨f_maxNodes, f_maxRules, f_ruleCount, f_counterexample, f_optimized, f_nodeCount, f_outputCount, f_applications, a_preRelation, a_preVariable, a_preConstant, a_roomNeeded, a_useCount, a_treeSize, a_treeKind, a_treeValue, a_treeA, a_treeB, a_treeResult, a_constantValued, a_maximal, a_counterpart, a_boundNode, a_pending, a_pendingCount, a_nodeKind, a_nodeValue, a_nodeA, a_nodeB, a_nodeResult, a_nodeUses, a_outputNode, a_seen, a_order, a_walkStack⟩ := u
    obtain ⟨e1, e2, e3, e4, e5, e6, e7, e8, h9, h10, h11, h12⟩ := hx
    subst e1 e2 e3 e4 e5 e6 e7 e8
    obtain ⟨o1, o2, o3, o4, o5, o6, o7, o8, o9, rk, rk', q1, q2, q3, q4⟩ := hok
    obtain ⟨q5, q6, q7⟩ := q3 rfl
    unfold wpX_optimize
    refine br_t rfl (x_keep (by omega) o7 (fun nk nv na nb ou k1 k2 k3 => ⟨100, ?_⟩))
    have hT2 : ∀ m, pr_T 0 K m → m < nc := fun m hm => by
      apply Classical.byContradiction
      intro hh
      exact hm.2.2 ((q7 m (by have := hm.2.1; omega)).mpr (by omega))
    have hgx := gr_keep (L := pr_lv (k0_A A) (k0_A B) (k0_O O) 0 oc) q1 o7 h12.1 h12.2.1 k1 (fun m hm => k2 m (hT2 m hm)) k3
    have hfin : xo_w post f_applications 100 1 (nI 0) ((nI mN), (nI mR), (nI rc), f_counterexample, 1, (nI nc), (nI oc), f_applications, a_preRelation, a_preVariable, a_preConstant, a_roomNeeded, a_useCount, a_treeSize, a_treeKind, a_treeValue, a_treeA, a_treeB, a_treeResult, a_constantValued, a_maximal, a_counterpart, a_boundNode, a_pending, a_pendingCount, nk, nv, na, nb, a_nodeResult, a_nodeUses, ou, a_seen, a_order, a_walkStack) :=
      r3 _ _ _ 0 100 ⟨rfl, rfl, rfl, rfl, rfl, rfl, rfl, rfl, h9, h10, h11, hgx.1⟩ (by omega) (by omega) (fun u' hu' => h _ _ _ _ _ _ _ _ _ r1 r2 hu')
    exact hfin
  · subst hph
    obtain ⟨ap', uc', K', V', A', B', O', r1, r2, r3⟩ := op_all q hq 96 _ _ _ _ _ _ _ _ _ _ _ _ _ _ _ _ _ _ _ _ _ _ _ _ _ hok rfl (h1 rfl) (pr_W_le _)
    have hW := pr_W_le K
    have hx' := hx
    obtain ⟨f_maxNodes, f_maxRules, f_ruleCount, f_counterexample, f_optimized, f_nodeCount, f_outputCount, f_applications, a_preRelation, a_preVariable, a_preConstant, a_roomNeeded, a_useCount, a_treeSize, a_treeKind, a_treeValue, a_treeA, a_treeB, a_treeResult, a_constantValued, a_maximal, a_counterpart, a_boundNode, a_pending, a_pendingCount, a_nodeKind, a_nodeValue, a_nodeA, a_nodeB, a_nodeResult, a_nodeUses, a_outputNode, a_seen, a_order, a_walkStack⟩ := u
    obtain ⟨e1, e2, e3, e4, e5, e6, e7, e8, h9, h10, h11, h12⟩ := hx
    subst e1 e2 e3 e4 e5 e6 e7 e8
    unfold wpX_optimize
    refine br_f (by decide) ⟨100, ?_⟩
    have hfin : xo_w post f_applications 100 1 (nI 0) ((nI mN), (nI mR), (nI rc), f_counterexample, (nI 1), (nI nc), (nI oc), f_applications, a_preRelation, a_preVariable, a_preConstant, a_roomNeeded, a_useCount, a_treeSize, a_treeKind, a_treeValue, a_treeA, a_treeB, a_treeResult, a_constantValued, a_maximal, a_counterpart, a_boundNode, a_pending, a_pendingCount, a_nodeKind, a_nodeValue, a_nodeA, a_nodeB, a_nodeResult, a_nodeUses, a_outputNode, a_seen, a_order, a_walkStack) :=
      r3 _ _ _ 0 100 hx' (by omega) (by omega) (fun u' hu' => h _ _ _ _ _ _ _ _ _ r1 r2 hu')
    exact hfin
end KPz
