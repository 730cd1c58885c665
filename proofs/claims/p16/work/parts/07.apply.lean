/-! one application, pure: the graph stays a graph, the live weight falls -/
def pm_lo (P : pr_PT) (m : Nat → Nat) : Nat → List Nat
  | 0 => []
  | i + 1 => if pt_k P i ≤ 10 then m i :: pm_lo P m i else pm_lo P m i
theorem pm_lo_m {P : pr_PT} {m : Nat → Nat} {x : Nat} : ∀ {i : Nat}, x ∈ pm_lo P m i ↔ ∃ p, p < i ∧ pt_k P p ≤ 10 ∧ m p = x
  | 0 => ⟨fun h => (by cases h), fun ⟨p, h, _⟩ => absurd h (by omega)⟩
  | i + 1 => by
    show x ∈ (if pt_k P i ≤ 10 then m i :: pm_lo P m i else pm_lo P m i) ↔ _
    by_cases h : pt_k P i ≤ 10
    · rw [if_pos h, List.mem_cons, pm_lo_m (i := i)]
      constructor
      · rintro (e | ⟨p, h1, h2⟩)
        · exact ⟨i, by omega, h, e.symm⟩
        · exact ⟨p, by omega, h2⟩
      · rintro ⟨p, h1, h2, h3⟩
        by_cases e : p = i
        · rw [e] at h3
          exact Or.inl h3.symm
        · exact Or.inr ⟨p, by omega, h2, h3⟩
    · rw [if_neg h, pm_lo_m (i := i)]
      constructor
      · rintro ⟨p, h1, h2⟩
        exact ⟨p, by omega, h2⟩
      · rintro ⟨p, h1, h2, h3⟩
        refine ⟨p, ?_, h2, h3⟩
        have : p ≠ i := fun e => h (e ▸ h2)
        omega
theorem pm_lo_nd {P : pr_PT} {m : Nat → Nat} {n : Nat} (hi : ∀ p q, p < n → q < n → pt_k P p ≤ 10 → pt_k P q ≤ 10 → p ≠ q → m p ≠ m q) : ∀ i, i ≤ n → (pm_lo P m i).Nodup
  | 0, _ => by
    show ([] : List Nat).Nodup
    exact List.nodup_nil
  | i + 1, h => by
    show (if pt_k P i ≤ 10 then m i :: pm_lo P m i else pm_lo P m i).Nodup
    by_cases hk : pt_k P i ≤ 10
    · rw [if_pos hk, List.nodup_cons]
      refine ⟨fun hm => ?_, pm_lo_nd hi i (by omega)⟩
      obtain ⟨p, h1, h2, h3⟩ := pm_lo_m.mp hm
      exact hi p i (by omega) (by omega) h2 hk (by omega) h3
    · rw [if_neg hk]
      exact pm_lo_nd hi i (by omega)
theorem pm_lo_w {P : pr_PT} {m : Nat → Nat} {K : Nat → Nat} {n : Nat} (hk : ∀ p, p < n → pt_k P p ≤ 10 → K (m p) = pt_k P p) : ∀ i, i ≤ n → pr_sm (fun x => pr_w (K x)) (pm_lo P m i) = pr_rs (fun p => pr_w (pt_k P p)) 0 i
  | 0, _ => rfl
  | i + 1, h => by
    have ih := pm_lo_w hk i (by omega)
    show pr_sm (fun x => pr_w (K x)) (if pt_k P i ≤ 10 then m i :: pm_lo P m i else pm_lo P m i) = pr_rs (fun p => pr_w (pt_k P p)) 0 i + pr_w (pt_k P (0 + i))
    rw [Nat.zero_add]
    by_cases hi : pt_k P i ≤ 10
    · rw [if_pos hi]
      show pr_w (K (m i)) + pr_sm (fun x => pr_w (K x)) (pm_lo P m i) = _
      rw [ih, hk i (by omega) hi]
      omega
    · rw [if_neg hi, ih, pr_w_0 (Or.inr (by omega))]
      omega
def pr_rd (r n : Nat) (o : Option Nat) : Option Nat := if o = some r then some n else o
def pa_A (r n : Nat) (f : Nat → Option Nat) : Nat → Option Nat := fun x => if x < 32 then pr_rd r n (f x) else f x
def pa_O (r n oc : Nat) (O : Nat → Nat) : Nat → Nat := fun k => if k < oc ∧ O k = r then n else O k
def pa_K (L : List Nat) (K : Nat → Nat) : Nat → Nat := fun x => if x < 32 ∧ x ∉ L then 0 else K x
def pr_W (K : Nat → Nat) : Nat := pr_rs (fun x => pr_w (K x)) 0 32
theorem pr_W_le (K : Nat → Nat) : pr_W K ≤ 96 := pr_rs_bound (c := 3) (n := 32) (fun x _ _ => pr_w_le (K x))
theorem pr_rd_s {r n c : Nat} {o : Option Nat} (h : pr_rd r n o = some c) : (o = some r ∧ c = n) ∨ (o = some c ∧ c ≠ r) := by
  unfold pr_rd at h
  by_cases e : o = some r
  · rw [if_pos e] at h
    cases h
    exact Or.inl ⟨e, rfl⟩
  · rw [if_neg e] at h
    refine Or.inr ⟨h, fun hc => e (hc ▸ h)⟩
theorem pr_rd_n {r n : Nat} {o : Option Nat} : pr_rd r n o = none ↔ o = none := by
  unfold pr_rd
  by_cases e : o = some r
  · rw [if_pos e, e]
    exact ⟨fun h => (nomatch h), fun h => (nomatch h)⟩
  · rw [if_neg e]
theorem pr_rd_e {r n : Nat} {o : Option Nat} (h : ∃ c, o = some c) : ∃ c, pr_rd r n o = some c := by
  cases e : pr_rd r n o with
  | none =>
    obtain ⟨c, hc⟩ := h
    rw [pr_rd_n.mp e] at hc
    cases hc
  | some c => exact ⟨c, rfl⟩
/-- deleting what is not listed keeps a graph -/
theorem pr_gw_del {K : Nat → Nat} {V : Nat → Int32} {A B : Nat → Option Nat} {rk : Nat → Nat} {L : List Nat} (h : pr_gw 0 K V A B rk) (hc : pr_cl A B (fun x => x ∈ L)) : pr_gw 0 (pa_K L K) V A B rk := by
  intro n hn
  have hn' : pr_T 0 K n ∧ n ∈ L := by
    have h2 := hn.2.2
    unfold pa_K at h2
    by_cases hx : n < 32 ∧ n ∉ L
    · rw [if_pos hx] at h2
      exact absurd rfl h2
    · rw [if_neg hx] at h2
      refine ⟨⟨hn.1, hn.2.1, h2⟩, ?_⟩
      apply Classical.byContradiction
      intro hy
      exact hx ⟨by have := hn.2.1; omega, hy⟩
  have e : ∀ x, x ∈ L → pa_K L K x = K x := fun x hx => by
    unfold pa_K
    rw [if_neg (fun h => h.2 hx)]
  obtain ⟨g1, g2, g3, g4, g5, g6, g7, g8, g9, g10⟩ := h n hn'.1
  rw [e n hn'.2]
  refine ⟨g1, g2, g3, g4, g5, g6, g7, g8, g9, fun c hc' => ?_⟩
  have k := g10 c hc'
  have hcl := hc n c hn'.2 hc'
  exact ⟨⟨k.1.1, k.1.2.1, by rw [e c hcl]; exact k.1.2.2⟩, k.2⟩
section PAS
variable {K : Nat → Nat} {V : Nat → Int32} {A B : Nat → Option Nat} {us rk O : Nat → Nat} {P R : pr_PT} {Rn oc : Nat} {bd : Nat → Option Nat} {m : Nat → Nat} {tv : Nat → Int32} {L : List Nat}
theorem pa_ok (hG : pr_gw 0 K V A B rk) (hL : ∀ x, pr_T 0 K x → x ∈ L) (hO : ∀ k, k < oc → pr_T 0 K (O k)) (hu : us = pr_us A B O L oc)
    (hP : pt_ok P) (hPf : pt_fin P) (hPr : pt_k P (pt_n P - 1) ≤ 10) (hR : pt_ok R) (hRf : pt_fin R) (h14 : ∀ i, i < pt_n R → pt_k R i ≠ 14)
    (hv : ∀ q, q < pt_n R → pt_k R q = 13 → ∃ p, p < pt_n P ∧ 13 ≤ pt_k P p ∧ pt_v P p = pt_v R q)
    (hm : pm_inv K V A B us P Rn 0 (m, bd)) {C : Nat → Bool} (hct : pr_ct K + pt_rm R C ≤ 32) (htv : ∀ q, q < pt_n R → pr_by (tv q)) (hw : pt_rw R C < pt_pw P)
    {s : pb_S} (hs : s = pb_run R C tv bd (pt_n R) (K, V, A, B, fun _ => none)) :
    ∃ y rk2, s.2.2.2.2 (pt_n R - 1) = some y ∧ y < 32 ∧ (∀ x, 32 ≤ x → s.1 x = K x ∧ (K x ≠ 0 → s.2.1 x = V x ∧ s.2.2.1 x = A x ∧ s.2.2.2.1 x = B x)) ∧
      pr_gw 0 s.1 s.2.1 (pa_A Rn y s.2.2.1) (pa_A Rn y s.2.2.2.1) rk2 ∧ (∀ k, k < oc → pr_T 0 s.1 (pa_O Rn y oc O k)) ∧
      ∀ L2, L2 = pr_lv (pa_A Rn y s.2.2.1) (pa_A Rn y s.2.2.2.1) (pa_O Rn y oc O) 0 oc → pr_gw 0 (pa_K L2 s.1) s.2.1 (pa_A Rn y s.2.2.1) (pa_A Rn y s.2.2.2.1) rk2 ∧ (∀ k, k < oc → pr_T 0 (pa_K L2 s.1) (pa_O Rn y oc O k)) ∧ pr_W (pa_K L2 s.1) < pr_W K ∧ ∀ x, pr_T 0 (pa_K L2 s.1) x → x ∈ L2 := by
  have hRk : 1 ≤ pt_n P := hPf.1
  have hRT : pr_T 0 K Rn := by
    have := (hm.2.1 (pt_n P - 1) (by omega) (by omega)).1
    rw [hm.1] at this
    exact this
  have root := hm.2.1 (pt_n P - 1) (by omega) (by omega)
  -- bindings lie strictly below the root
  have hbr : ∀ j y, bd j = some y → pr_T 0 K y ∧ rk y < rk Rn := by
    intro j y hj
    obtain ⟨q, _, h2, h3, h4, h5⟩ := hm.2.2.2 j y hj
    have hq := hm.2.1 q (by omega) h2
    replace h5 : m q = y := h5
    have hne : q + 1 ≠ pt_n P := by
      intro e
      rw [show pt_n P - 1 = q by omega] at hPr
      omega
    have hr := pm_rk hP hPf hG hm (pt_n P - 1 - q) q (by omega) hne
    replace hr : rk (m q) < rk Rn := hr
    rw [h5] at hr
    have ht := hq.1
    replace ht : pr_T 0 K (m q) := ht
    rw [h5] at ht
    exact ⟨ht, hr⟩
  have hrk1 : 1 ≤ rk Rn := by
    obtain ⟨c, hc⟩ := (hP.2 (pt_n P - 1) (by omega)).2.2.2.2.2.2.1 hPr
    have h1 := (root.2.2.2 hPr).2.2.1 c hc
    replace h1 : A (m (pt_n P - 1)) = some (m c) := h1
    have e : m (pt_n P - 1) = Rn := hm.1
    rw [e] at h1
    have := (pr_gw_T hG Rn _ hRT (Or.inl h1)).2
    omega
  have hlo : ∀ x, x ∈ pm_lo P m (pt_n P) → K x ≠ 0 := by
    intro x hx
    obtain ⟨p, h1, h2, h3⟩ := pm_lo_m.mp hx
    have := (hm.2.1 p (by omega) h1).1.2.2
    replace this : K (m p) ≠ 0 := this
    rw [h3] at this
    exact this
  have hbd : ∀ q, q < pt_n R → pt_k R q = 13 → ∃ y, bd (pt_v R q) = some y ∧ pr_T 0 K y ∧ 16 * rk y ≤ 16 * rk Rn - 16 := by
    intro q hq hk
    obtain ⟨p, h1, h2, h3⟩ := hv q hq hk
    have := ((hm.2.1 p (by omega) h1).2.2.1 h2).1
    replace this : bd (pt_v P p) = some (m p) := this
    rw [h3] at this
    have hb := hbr _ _ this
    exact ⟨_, this, hb.1, by omega⟩
  obtain ⟨ρ, i1, i2, i3, i4, i5⟩ := pb_all (K0 := K) (V0 := V) (A0 := A) (B0 := B) (rk := rk) (bd := bd) (R := R) (C := C) (Lo := pm_lo P m (pt_n P)) (β := 16 * rk Rn - 16) (tv := tv) hR h14 hct hlo htv hbd rfl (pt_n R) (Nat.le_refl _)
  rw [← hs] at i1 i2 i3 i4 i5
  have hn8 := hR.1
  have hnR := hRf.1
  -- the root of the replacement
  have hnsk : ¬ pb_sk R C (pt_n R - 1) := by
    intro hsk
    have := hsk.2
    unfold pt_mx at this
    rw [hsk.1, hRf.2.1] at this
    cases this
  obtain ⟨y, y1, y2, y3, y4⟩ := i3 (pt_n R - 1) (by omega) hnsk
  have hy : y < 32 := by have := y2.2.1; omega
  have ρR : ρ Rn = 16 * rk Rn := (i1 Rn hRT.2.2).2.2.2.2
  have ρy : ρ y < ρ Rn := by omega
  have hTs : ∀ x, pr_T 0 K x → pr_T 0 s.1 x := fun x hx => ⟨hx.1, hx.2.1, by rw [(i1 x hx.2.2).1]; exact hx.2.2⟩
  have h32 : ∀ x, x < 32 → ∀ f : Nat → Option Nat, pa_A Rn y f x = pr_rd Rn y (f x) := fun x hx f => if_pos hx
  -- the graph with the redirected slots
  have edge : ∀ n c, pr_T 0 s.1 n → (s.2.2.1 n = some c ∨ s.2.2.2.1 n = some c) → pr_T 0 s.1 c ∧ ρ c < ρ n := by
    intro n c hn hc
    by_cases hK : K n = 0
    · have := (i2 n hK hn.2.2).2.2.2.2.2.2.2.2.2 c hc
      exact ⟨this.1, this.2.1⟩
    · obtain ⟨e1, e2, e3, e4, e5⟩ := i1 n hK
      rw [e3, e4] at hc
      have := pr_gw_T hG n c ⟨hn.1, hn.2.1, hK⟩ hc
      refine ⟨hTs c this.1, ?_⟩
      rw [e5, (i1 c this.1.2.2).2.2.2.2]
      omega
  have gw2 : pr_gw 0 s.1 s.2.1 (pa_A Rn y s.2.2.1) (pa_A Rn y s.2.2.2.1) (pr_rc ρ 0) := by
    intro n hn
    have hn32 : n < 32 := by have := hn.2.1; omega
    rw [h32 n hn32, h32 n hn32]
    have hch : ∀ c, (pr_rd Rn y (s.2.2.1 n) = some c ∨ pr_rd Rn y (s.2.2.2.1 n) = some c) → pr_T 0 s.1 c ∧ pr_rc ρ 0 c < pr_rc ρ 0 n := by
      intro c hc
      have key : pr_T 0 s.1 c ∧ ρ c < ρ n := by
        rcases hc with hc | hc
        · rcases pr_rd_s hc with ⟨h1, h2⟩ | ⟨h1, _⟩
          · rw [h2]
            exact ⟨y2, by have := (edge n Rn hn (Or.inl h1)).2; omega⟩
          · exact edge n c hn (Or.inl h1)
        · rcases pr_rd_s hc with ⟨h1, h2⟩ | ⟨h1, _⟩
          · rw [h2]
            exact ⟨y2, by have := (edge n Rn hn (Or.inr h1)).2; omega⟩
          · exact edge n c hn (Or.inr h1)
      exact ⟨key.1, pr_rc_mono key.2 (by omega) key.1.2.1⟩
    by_cases hK : K n = 0
    · obtain ⟨_, g1, g2, g3, g4, g5, g6, g7, g8, g9⟩ := i2 n hK hn.2.2
      exact ⟨by omega, pr_rc_lt ρ (by omega) (by omega), g2, fun h => absurd h (by omega), g3, fun h => pr_rd_n.mpr (g4 h), fun h => pr_rd_n.mpr (g5 h), fun h => pr_rd_e (g6 h), fun h => pr_rd_e (g7 h), hch⟩
    · obtain ⟨e1, e2, e3, e4, e5⟩ := i1 n hK
      obtain ⟨g1, g2, g3, g4, g5, g6, g7, g8, g9, g10⟩ := hG n ⟨hn.1, hn.2.1, hK⟩
      rw [← e1, ← e2] at g4 g5
      rw [← e1] at g1 g6 g7 g8 g9
      rw [← e2] at g3
      rw [← e3] at g6 g8
      rw [← e4] at g7 g9
      exact ⟨g1, pr_rc_lt ρ (by omega) (by omega), g3, g4, g5, fun h => pr_rd_n.mpr (g6 h), fun h => pr_rd_n.mpr (g7 h), fun h => pr_rd_e (g8 h), fun h => pr_rd_e (g9 h), hch⟩
  have hO2 : ∀ k, k < oc → pr_T 0 s.1 (pa_O Rn y oc O k) := by
    intro k hk
    unfold pa_O
    by_cases h : k < oc ∧ O k = Rn
    · rw [if_pos h]
      exact y2
    · rw [if_neg h]
      exact hTs _ (hO k hk)
  refine ⟨y, pr_rc ρ 0, y1, hy, fun x hx => ?_, gw2, hO2, fun L2 hL2 => ?_⟩
  · by_cases hK : K x = 0
    · refine ⟨?_, fun h => absurd hK h⟩
      rw [hK]
      apply Classical.byContradiction
      intro h
      have := (i2 x hK h).1
      omega
    · obtain ⟨e1, e2, e3, e4, e5⟩ := i1 x hK
      exact ⟨e1, fun _ => ⟨e2, e3, e4⟩⟩
  · obtain ⟨l1, l2, l3, l4⟩ := pr_lv_ok (O := pa_O Rn y oc O) (ob := 0) (pr_gw_T gw2) (pr_gw_r gw2) oc (fun i hi => by rw [Nat.zero_add]; exact hO2 i hi)
    rw [← hL2] at l1 l2 l3 l4
    -- the set that no live node leaves
    have inj : ∀ p q, p < pt_n P → q < pt_n P → pt_k P p ≤ 10 → q ≠ p → m q ≠ m p := by
      intro p q hp hq hk hne
      by_cases hr : p + 1 = pt_n P
      · intro e
        have := pm_rk hP hPf hG hm (pt_n P - 1 - q) q (by omega) (by omega)
        replace this : rk (m q) < rk Rn := this
        rw [e, show p = pt_n P - 1 by omega] at this
        have e2 : m (pt_n P - 1) = Rn := hm.1
        rw [e2] at this
        omega
      · exact pm_inj hP hPf hG hL hu hm (pt_n P - 1 - p) p (by omega) hr hk q hq hne
    have bdlo : ∀ j c, bd j = some c → c ∉ pm_lo P m (pt_n P) := by
      intro j c hj hc
      obtain ⟨q, _, h2, h3, h4, h5⟩ := hm.2.2.2 j c hj
      obtain ⟨p, k1, k2, k3⟩ := pm_lo_m.mp hc
      replace h5 : m q = c := h5
      exact inj p q k1 h2 k2 (fun e => by rw [e] at h3; omega) (h5.trans k3.symm)
    have newlo : ∀ c, K c = 0 → c ∉ pm_lo P m (pt_n P) := fun c hc hx => hlo c hx hc
    have ylo : y ∉ pm_lo P m (pt_n P) := by
      rcases y4 with h | ⟨j, h⟩
      · exact newlo y h
      · exact bdlo j y h
    have rootlo : Rn ∈ pm_lo P m (pt_n P) := pm_lo_m.mpr ⟨pt_n P - 1, by omega, hPr, hm.1⟩
    have hcl : pr_cl (pa_A Rn y s.2.2.1) (pa_A Rn y s.2.2.2.1) (fun x => pr_T 0 s.1 x ∧ x ∉ pm_lo P m (pt_n P)) := by
      intro x c hx hc
      have hx32 : x < 32 := by have := hx.1.2.1; omega
      rw [h32 x hx32, h32 x hx32] at hc
      have main : ∀ o : Option Nat, (∀ z, o = some z → s.2.2.1 x = some z ∨ s.2.2.2.1 x = some z) → pr_rd Rn y o = some c → pr_T 0 s.1 c ∧ c ∉ pm_lo P m (pt_n P) := by
        intro o ho he
        rcases pr_rd_s he with ⟨h1, h2⟩ | ⟨h1, h1'⟩
        · rw [h2]
          exact ⟨y2, ylo⟩
        · have hed := ho c h1
          refine ⟨(edge x c hx.1 hed).1, fun hcl => ?_⟩
          obtain ⟨p, k1, k2, k3⟩ := pm_lo_m.mp hcl
          by_cases hK : K x = 0
          · have := ((i2 x hK hx.1.2.2).2.2.2.2.2.2.2.2.2 c hed).2.2
            rcases this with h | ⟨j, h⟩
            · exact newlo c h hcl
            · exact bdlo j c h hcl
          · obtain ⟨e1, e2, e3, e4, e5⟩ := i1 x hK
            rw [e3, e4] at hed
            have hp : p + 1 < pt_n P := by
              apply Classical.byContradiction
              intro hh
              apply h1'
              rw [← k3, show p = pt_n P - 1 by omega]
              exact hm.1
            have ho2 := (pm_only hP hPf hL hu hm hp k2).2 x ⟨hx.1.1, hx.1.2.1, hK⟩ (by
              replace k3 : m p = c := k3
              show A x = some (m p) ∨ B x = some (m p)
              rw [k3]
              exact hed)
            obtain ⟨q, q1, q2, q3⟩ := ho2
            exact hx.2 (pm_lo_m.mpr ⟨q, q1, q2, q3⟩)
      rcases hc with hc | hc
      · exact main _ (fun z hz => Or.inl hz) hc
      · exact main _ (fun z hz => Or.inr hz) hc
    have hout : ∀ i, i < oc → (fun x => pr_T 0 s.1 x ∧ x ∉ pm_lo P m (pt_n P)) (pa_O Rn y oc O (0 + i)) := by
      intro i hi
      rw [Nat.zero_add]
      refine ⟨hO2 i hi, ?_⟩
      unfold pa_O
      by_cases h : i < oc ∧ O i = Rn
      · rw [if_pos h]
        exact ylo
      · rw [if_neg h]
        intro hx
        obtain ⟨p, k1, k2, k3⟩ := pm_lo_m.mp hx
        have hp : p + 1 < pt_n P := by
          apply Classical.byContradiction
          intro hh
          apply h
          refine ⟨hi, ?_⟩
          rw [← k3, show p = pt_n P - 1 by omega]
          exact hm.1
        exact (pm_only hP hPf hL hu hm hp k2).1 i hi k3.symm
    have hsub : ∀ x, x ∈ L2 → x ∉ pm_lo P m (pt_n P) := fun x hx => ((l4 x hx).2 _ hcl hout).2
    refine ⟨pr_gw_del gw2 l2, fun k hk => ?_, ?_, fun x hx => ?_⟩
    · have h1 := hO2 k hk
      have h2 := l3 k hk
      rw [Nat.zero_add] at h2
      refine ⟨h1.1, h1.2.1, ?_⟩
      unfold pa_K
      rw [if_neg (fun h => h.2 h2)]
      exact h1.2.2
    · have w1 : pr_W (pa_K L2 s.1) ≤ pb_ws (pm_lo P m (pt_n P)) s.1 := by
        refine pr_rs_le fun x _ hx => ?_
        show pr_w (pa_K L2 s.1 x) ≤ (if x ∈ pm_lo P m (pt_n P) then 0 else pr_w (s.1 x))
        unfold pa_K
        by_cases h : x ∈ L2
        · rw [if_neg (fun hh => hh.2 h), if_neg (hsub x h)]
          exact Nat.le_refl _
        · rw [if_pos ⟨by omega, h⟩, pr_w_0 (Or.inl rfl)]
          exact Nat.zero_le _
      have w2 : pb_ws (pm_lo P m (pt_n P)) K + pt_pw P = pr_W K := by
        have nd := pm_lo_nd (P := P) (m := m) (n := pt_n P) (fun p q hp hq h1 h2 hne => inj q p hq hp h2 (fun e => hne e)) (pt_n P) (Nat.le_refl _)
        have e1 := pr_rs_list (w := fun x => pr_w (K x)) (lo := 0) (n := 32) nd (fun x hx => by
          obtain ⟨p, h1, h2, h3⟩ := pm_lo_m.mp hx
          have := (hm.2.1 p (by omega) h1).1
          replace this : pr_T 0 K (m p) := this
          rw [h3] at this
          exact ⟨this.1, this.2.1⟩)
        have e2 := pm_lo_w (P := P) (m := m) (K := K) (n := pt_n P) (fun p hp hk => ((hm.2.1 p (by omega) hp).2.2.2 hk).1) (pt_n P) (Nat.le_refl _)
        rw [e2] at e1
        show pr_rs (fun x => if x ∈ pm_lo P m (pt_n P) then 0 else pr_w (K x)) 0 32 + pr_rs (fun p => pr_w (pt_k P p)) 0 (pt_n P) = pr_rs (fun x => pr_w (K x)) 0 32
        rw [← e1, ← pr_rs_add]
        refine pr_rs_congr fun x _ _ => ?_
        by_cases h : x ∈ pm_lo P m (pt_n P)
        · rw [if_pos h, if_pos h, Nat.zero_add]
        · rw [if_neg h, if_neg h]
          rfl
      have w3 : pb_ws (pm_lo P m (pt_n P)) s.1 = pb_ws (pm_lo P m (pt_n P)) K + pt_rw R C := i5
      omega
    · apply Classical.byContradiction
      intro h
      have h2 := hx.2.2
      unfold pa_K at h2
      rw [if_pos ⟨by have := hx.2.1; omega, h⟩] at h2
      exact h2 rfl
end PAS
