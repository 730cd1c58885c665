/-! the invariant of the class -/
theorem k0_map (o : Option Nat) : k0_s o = o.map (fun x => x + 32) := by
  cases o <;> rfl
/-- the copy has the values -/
theorem pv_shift {K : Nat → Nat} {V : Nat → Int32} {A B : Nat → Option Nat} {rk : Nat → Nat} {L : List Nat} {ar : Int32} (hG : pr_gw 0 K V A B rk) : ∀ f x, pr_T 0 K x → pr_ev (pa_K L (k0_f K)) (k0_f V) (k0_A A) (k0_A B) ar f (x + 32) = pr_ev K V A B ar f x := by
  intro f
  induction f with
  | zero =>
    intro x _
    rfl
  | succ f ih =>
    intro x hx
    have eK : pa_K L (k0_f K) (x + 32) = K x := by
      unfold pa_K
      rw [if_neg (fun hh => absurd hh.1 (by omega)), Nat.add_comm, k0_hi]
    have hs : ∀ o : Option Nat, (∀ c, o = some c → pr_T 0 K c) → pr_ov (pr_ev (pa_K L (k0_f K)) (k0_f V) (k0_A A) (k0_A B) ar f) (k0_s o) = pr_ov (pr_ev K V A B ar f) o := by
      intro o ho
      cases o with
      | none => rfl
      | some c => exact ih c (ho c rfl)
    show pr_en (pa_K L (k0_f K)) (k0_f V) (k0_A A) (k0_A B) ar (pr_ev (pa_K L (k0_f K)) (k0_f V) (k0_A A) (k0_A B) ar f) (x + 32) = pr_en K V A B ar (pr_ev K V A B ar f) x
    unfold pr_en
    rw [eK, Nat.add_comm x 32, k0_hi, k0_Ahi, k0_Ahi, hs (A x) (fun c hc => (pr_gw_T hG x c hx (Or.inl hc)).1), hs (B x) (fun c hc => (pr_gw_T hG x c hx (Or.inr hc)).1)]
section IVK
variable {mN : Nat} {mR : Nat} {rc : Nat} {ph : Nat} {nc : Nat} {oc : Nat} {cx : Int32} {ap : Int32} {P : Nat → pr_PT} {R : Nat → pr_PT} {rl : Nat → Nat} {rj : Nat → Nat} {rK : Nat → Nat} {uc : Nat → Int32} {D : Nat → pr_PT} {ps : Nat → Nat → Nat} {dc : Nat → Nat} {dl : Nat} {dj : Nat} {dk : Nat} {K : Nat → Nat} {V : Nat → Int32} {A : Nat → Option Nat} {B : Nat → Option Nat} {O : Nat → Nat}
theorem pq_keep (hok : sp_ok mN mR rc ph nc oc cx ap P R rl rj rK uc D ps dc dl dj dk K V A B O) (hph : ph = 0) (hap : ap = 0) (hs : ∀ r, r < rc → jd_none (P r) (R r) (rl r) (rj r) (rK r)) (L : List Nat) (hL : L = pr_lv (k0_A A) (k0_A B) (k0_O O) 0 oc) : pq mN mR rc 1 nc oc cx ap P R rl rj rK uc D ps dc dl dj dk (pa_K L (k0_f K)) (k0_f V) (k0_A A) (k0_A B) (k0_O O) := by
  have hsp := sp_keep hok hph hL
  obtain ⟨o1, o2, o3, o4, o5, o6, o7, o8, o9, rk, rk', q1, q2, q3, q4⟩ := hok
  obtain ⟨_, _, _, _, _, _, _, _, _, sk, sk', u1, u2, u3, u4⟩ := hsp
  obtain ⟨u5, u6, u7⟩ := u4 rfl
  have e0 : ∀ k, k < oc → k0_O O k = O k := fun k hk => if_pos (by omega)
  have e4 : ∀ k, k < oc → k0_O O (4 + k) = O k + 32 := fun k hk => by
    unfold k0_O
    rw [if_neg (by omega), show 4 + k - 4 = k by omega]
  have eK : ∀ x, pr_T 0 (pa_K L (k0_f K)) x → K x = pa_K L (k0_f K) x := by
    intro x hx
    have h2 := hx.2.2
    have h32 : x < 32 := by have := hx.2.1; omega
    unfold pa_K at h2 ⊢
    by_cases hc : x < 32 ∧ x ∉ L
    · rw [if_pos hc] at h2
      exact absurd rfl h2
    · rw [if_neg hc, k0_lo h32]
  refine ⟨hs, 0, hap, fun k ar hk => ?_, ?_⟩
  · have h1 := u2 k hk
    rw [e4 k hk, pv_shift q1 32 (O k) (q2 k hk), e0 k hk]
    rw [e0 k hk] at h1
    refine (pv_same u1 (fun x hx => ?_) h1).symm
    have h32 : x < 32 := by have := hx.2.1; omega
    exact ⟨eK x hx, (k0_lo h32).symm, (k0_Alo h32).symm, (k0_Alo h32).symm⟩
  · have hlk := pr_lv_ok (O := k0_O O) (ob := 0) (pr_gw_T u1) (pr_gw_r u1) oc (fun k hk => by rw [Nat.zero_add]; exact u2 k hk)
    have hiff : ∀ x, x ∈ pr_lv (k0_A A) (k0_A B) (k0_O O) 0 oc ↔ pr_T 0 (pa_K L (k0_f K)) x := fun x => ⟨fun h => (hlk.2.2.2 x h).1, u7 x⟩
    have hlv : pr_lv (k0_A A) (k0_A B) (k0_O O) 4 oc = (pr_lv (k0_A A) (k0_A B) (k0_O O) 0 oc).map (fun x => x + 32) := by
      refine lv_map (T := pr_T 0 (pa_K L (k0_f K))) (fun x y h => by omega) (fun m c hm hc => (pr_gw_T u1 m c hm hc).1) (fun m hm => ?_) oc (fun k hk => ⟨by rw [Nat.zero_add]; exact u2 k hk, ?_⟩)
      · have h32 : m < 32 := by have := hm.2.1; omega
        rw [k0_Alo h32, k0_Alo h32, Nat.add_comm m 32, k0_Ahi, k0_Ahi, k0_map, k0_map]
        exact ⟨rfl, rfl⟩
      · rw [Nat.zero_add, e4 k hk, e0 k hk]
    rw [hlv, sm_map, sm_congr (w' := fun s => pr_w (pa_K L (k0_f K) s)) _ (fun x hx => ?_), sm_W hlk.1 hiff]
    · omega
    · show pr_w (pa_K L (k0_f K) (x + 32)) = pr_w (pa_K L (k0_f K) x)
      rw [← eK x ((hiff x).mp hx)]
      unfold pa_K
      rw [if_neg (fun hh => absurd hh.1 (by omega)), Nat.add_comm, k0_hi]
end IVK
/-- the invariant: some pure state, sound rules, values and weight kept -/
def gi (u : St2) : Prop := ∃ (mN : Nat) (mR : Nat) (rc : Nat) (ph : Nat) (nc : Nat) (oc : Nat) (cx : Int32) (ap : Int32) (P : Nat → pr_PT) (R : Nat → pr_PT) (rl : Nat → Nat) (rj : Nat → Nat) (rK : Nat → Nat) (uc : Nat → Int32) (D : Nat → pr_PT) (ps : Nat → Nat → Nat) (dc : Nat → Nat) (dl : Nat) (dj : Nat) (dk : Nat) (K : Nat → Nat) (V : Nat → Int32) (A : Nat → Option Nat) (B : Nat → Option Nat) (O : Nat → Nat), sp_ok mN mR rc ph nc oc cx ap P R rl rj rK uc D ps dc dl dj dk K V A B O ∧ rx mN mR rc ph nc oc cx ap P R rl rj rK uc D ps dc dl dj dk K V A B O u ∧ (∀ r, r < rc → jd_none (P r) (R r) (rl r) (rj r) (rK r)) ∧ (ph = 0 → ap = 0) ∧ (ph = 1 → pq mN mR rc ph nc oc cx ap P R rl rj rK uc D ps dc dl dj dk K V A B O)
theorem gi_start {post : St2 → Prop} {u : St0} (h : ∀ v, gi v → post v) : wpX_init post 27 2835 u 32 16 :=
  x_start (fun v a b => h v ⟨_, _, _, _, _, _, _, _, _, _, _, _, _, _, _, _, _, _, _, _, _, _, _, _, _, a, b, fun r hr => absurd hr (by omega), fun _ => rfl, fun h => absurd h (by omega)⟩)
section GI
variable {u : St2} {post : Int32 → St2 → Prop} {v1 v2 v3 : Int32}
theorem gi_begin {post : St2 → Prop} (hg : gi u) (h : ∀ u', gi u' → post u') : wpX_ruleBegin post u := by
  obtain ⟨mN, mR, rc, ph, nc, oc, cx, ap, P, R, rl, rj, rK, uc, D, ps, dc, dl, dj, dk, K, V, A, B, O, hok, hx, g1, g2, g3⟩ := hg
  exact rx_begin hok hx (fun u' a b => h u' ⟨_, _, _, _, _, _, _, _, _, _, _, _, _, _, _, _, _, _, _, _, _, _, _, _, _, a, b, g1, g2, g3⟩)
theorem gi_pat (hg : gi u) (h : ∀ a u', gi u' → post a u') : wpX_rulePat post u v1 v2 := by
  obtain ⟨mN, mR, rc, ph, nc, oc, cx, ap, P, R, rl, rj, rK, uc, D, ps, dc, dl, dj, dk, K, V, A, B, O, hok, hx, g1, g2, g3⟩ := hg
  exact rx_pat hok hx (fun a _ _ _ u' x y => h a u' ⟨_, _, _, _, _, _, _, _, _, _, _, _, _, _, _, _, _, _, _, _, _, _, _, _, _, x, y, g1, g2, g3⟩)
theorem gi_rep (hg : gi u) (h : ∀ a u', gi u' → post a u') : wpX_ruleRep post u v1 v2 := by
  obtain ⟨mN, mR, rc, ph, nc, oc, cx, ap, P, R, rl, rj, rK, uc, D, ps, dc, dl, dj, dk, K, V, A, B, O, hok, hx, g1, g2, g3⟩ := hg
  exact rx_rep hok hx (fun a _ _ _ u' x y => h a u' ⟨_, _, _, _, _, _, _, _, _, _, _, _, _, _, _, _, _, _, _, _, _, _, _, _, _, x, y, g1, g2, g3⟩)
theorem gi_pre (hg : gi u) (h : ∀ a u', gi u' → post a u') : wpX_rulePre post u v1 v2 v3 := by
  obtain ⟨mN, mR, rc, ph, nc, oc, cx, ap, P, R, rl, rj, rK, uc, D, ps, dc, dl, dj, dk, K, V, A, B, O, hok, hx, g1, g2, g3⟩ := hg
  exact rx_pre hok hx (fun a _ _ _ u' x y => h a u' ⟨_, _, _, _, _, _, _, _, _, _, _, _, _, _, _, _, _, _, _, _, _, _, _, _, _, x, y, g1, g2, g3⟩)
theorem gi_commit (hg : gi u) (h : ∀ a u', gi u' → post a u') : wpX_ruleCommit post u := by
  obtain ⟨mN, mR, rc, ph, nc, oc, cx, ap, P, R, rl, rj, rK, uc, D, ps, dc, dl, dj, dk, K, V, A, B, O, hok, hx, g1, g2, g3⟩ := hg
  refine rx_commit hok hx (fun a c u' x y => h a u' ⟨_, _, _, _, _, _, _, _, _, _, _, _, _, _, _, _, _, _, _, _, _, _, _, _, _, x, y, g1, g2, g3⟩) (fun a c u' hn x y => ?_)
  have hall : ∀ r, r < rc + 1 → jd_none (pr_st P rc (D 0) r) (pr_st R rc (D 1) r) (pr_st rl rc dl r) (pr_st rj rc dj r) (pr_st rK rc dk r) := by
    intro r hr
    by_cases e : r = rc
    · rw [e, pr_st_s, pr_st_s, pr_st_s, pr_st_s, pr_st_s]
      exact hn
    · rw [pr_st_n e, pr_st_n e, pr_st_n e, pr_st_n e, pr_st_n e]
      exact g1 r (by omega)
  exact h a u' ⟨_, _, _, _, _, _, _, _, _, _, _, _, _, _, _, _, _, _, _, _, _, _, _, _, _, x, y, hall, g2, fun hp => ⟨hall, (g3 hp).2⟩⟩
theorem gi_out (hg : gi u) (h : ∀ a u', gi u' → post a u') : wpX_addOutput post u v1 := by
  have hg' := hg
  obtain ⟨mN, mR, rc, ph, nc, oc, cx, ap, P, R, rl, rj, rK, uc, D, ps, dc, dl, dj, dk, K, V, A, B, O, hok, hx, g1, g2, g3⟩ := hg
  exact rx_out hok hx (fun a => h a u hg') (fun a n u' hp x y => h a u' ⟨_, _, _, _, _, _, _, _, _, _, _, _, _, _, _, _, _, _, _, _, _, _, _, _, _, x, y, g1, g2, fun hh => absurd hh (by omega)⟩)
theorem gi_node (hg : gi u) (h : ∀ a u', gi u' → post a u') : wpX_addNode post u v1 v2 v3 := by
  have hg' := hg
  obtain ⟨mN, mR, rc, ph, nc, oc, cx, ap, P, R, rl, rj, rK, uc, D, ps, dc, dl, dj, dk, K, V, A, B, O, hok, hx, g1, g2, g3⟩ := hg
  exact rx_node hok hx (fun a => h a u hg') (fun r κ x a b u' hp s t => h r u' ⟨_, _, _, _, _, _, _, _, _, _, _, _, _, _, _, _, _, _, _, _, _, _, _, _, _, s, t, g1, g2, fun hh => absurd hh (by omega)⟩)
theorem gi_clear {post : St2 → Prop} (hg : gi u) (h : ∀ u', gi u' → post u') : wpX_clearDag post u := by
  obtain ⟨mN, mR, rc, ph, nc, oc, cx, ap, P, R, rl, rj, rK, uc, D, ps, dc, dl, dj, dk, K, V, A, B, O, hok, hx, g1, g2, g3⟩ := hg
  exact rx_clear hok hx (fun u' s t => h u' ⟨_, _, _, _, _, _, _, _, _, _, _, _, _, _, _, _, _, _, _, _, _, _, _, _, _, s, t, g1, fun _ => rfl, fun hh => absurd hh (by omega)⟩)
theorem gi_opt (hg : gi u) (h : ∀ a u', gi u' → post a u') : wpX_optimize post u := by
  obtain ⟨mN, mR, rc, ph, nc, oc, cx, ap, P, R, rl, rj, rK, uc, D, ps, dc, dl, dj, dk, K, V, A, B, O, hok, hx, g1, g2, g3⟩ := hg
  exact rx_opt @pq pq_step hok hx g3 (fun hp L hL => pq_keep hok hp (g2 hp) g1 L hL) (fun a ap' uc' K' V' A' B' O' u' s t w => h a u' ⟨_, _, _, _, _, _, _, _, _, _, _, _, _, _, _, _, _, _, _, _, _, _, _, _, _, s, w, g1, fun hh => absurd hh (by omega), fun _ => t⟩)
end GI
section CK
variable {mN : Nat} {mR : Nat} {rc : Nat} {ph : Nat} {nc : Nat} {oc : Nat} {cx : Int32} {ap : Int32} {P : Nat → pr_PT} {R : Nat → pr_PT} {rl : Nat → Nat} {rj : Nat → Nat} {rK : Nat → Nat} {uc : Nat → Int32} {D : Nat → pr_PT} {ps : Nat → Nat → Nat} {dc : Nat → Nat} {dl : Nat} {dj : Nat} {dk : Nat} {K : Nat → Nat} {V : Nat → Int32} {A : Nat → Option Nat} {B : Nat → Option Nat} {O : Nat → Nat}
/-- the two evals of an output agree -/
theorem ck_eq (hok : sp_ok mN mR rc ph nc oc cx ap P R rl rj rK uc D ps dc dl dj dk K V A B O) (g3 : ph = 1 → pq mN mR rc ph nc oc cx ap P R rl rj rK uc D ps dc dl dj dk K V A B O) {k : Nat} (hk : k < oc) (ar : Int32) : pr_ev K V A B ar 32 (O (0 * ph * 4 + k)) = pr_ev K V A B ar 32 (O (1 * ph * 4 + k)) := by
  have hp : ph = 0 ∨ ph = 1 := by have := hok.2.2.2.2.2.1; omega
  rcases hp with hp | hp
  · subst hp
    rfl
  · subst hp
    obtain ⟨_, n, _, h, _⟩ := g3 rfl
    have := h k ar hk
    rw [show 0 * 1 * 4 + k = k by omega, show 1 * 1 * 4 + k = 4 + k by omega]
    exact this
/-- live cost and applications against the original cost -/
theorem ck_cost (hok : sp_ok mN mR rc ph nc oc cx ap P R rl rj rK uc D ps dc dl dj dk K V A B O) (g2 : ph = 0 → ap = 0) (g3 : ph = 1 → pq mN mR rc ph nc oc cx ap P R rl rj rK uc D ps dc dl dj dk K V A B O) : nI (pr_sm (fun s => pr_w (K s)) (pr_lv A B O 0 oc)) + ap ≤ nI (pr_sm (fun s => pr_w (K s)) (pr_lv A B O (ph * 4) oc)) := by
  have hp : ph = 0 ∨ ph = 1 := by have := hok.2.2.2.2.2.1; omega
  rcases hp with hp | hp
  · subst hp
    rw [g2 rfl, Int32.add_zero, Nat.zero_mul]
    exact Int32.le_refl _
  · subst hp
    obtain ⟨_, n, h1, _, h2⟩ := g3 rfl
    obtain ⟨o1, o2, o3, o4, o5, o6, o7, o8, o9, rk, rk', q1, q2, q3, q4⟩ := hok
    obtain ⟨q5, q6, q7⟩ := q4 rfl
    have hlk := pr_lv_ok (O := O) (ob := 0) (pr_gw_T q1) (pr_gw_r q1) oc (fun k hk => by rw [Nat.zero_add]; exact q2 k hk)
    have hlo := pr_lv_ok (O := O) (ob := 4) (pr_gw_T q5) (pr_gw_r q5) oc q6
    have hlen := pr_len hlo.1 (fun x hx => ⟨(hlo.2.2.2 x hx).1.1, (hlo.2.2.2 x hx).1.2.1⟩)
    have hle := pr_sm_len (w := fun s => pr_w (K s)) (c := 3) (fun x => pr_w_le (K x)) (pr_lv A B O 4 oc)
    rw [sm_W hlk.1 (fun x => ⟨fun h => (hlk.2.2.2 x h).1, q7 x⟩), h1, nI_add, Nat.one_mul]
    exact nI_le h2 (by omega)
end CK
