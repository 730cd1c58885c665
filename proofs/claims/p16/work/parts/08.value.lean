/-! the values of the nodes across an application -/
theorem pv_u {lo : Nat} {K : Nat → Nat} {V : Nat → Int32} {A B : Nat → Option Nat} {rk : Nat → Nat} {ar : Int32} {g h : Nat → Int32} (hG : pr_gw lo K V A B rk) (hg : ∀ n, pr_T lo K n → g n = pr_en K V A B ar g n) (hh : ∀ n, pr_T lo K n → h n = pr_en K V A B ar h n) : ∀ f n, pr_T lo K n → rk n < f → g n = h n := by
  intro f
  induction f with
  | zero =>
    intro n _ hf
    omega
  | succ f ih =>
    intro n hn hf
    rw [hg n hn, hh n hn]
    refine pr_en_congr fun c hc => ?_
    have ⟨tc, rc⟩ := pr_gw_T hG n c hn hc
    exact ih c tc (by omega)
theorem pv_ev {lo : Nat} {K : Nat → Nat} {V : Nat → Int32} {A B : Nat → Option Nat} {rk : Nat → Nat} {ar : Int32} {g : Nat → Int32} (hG : pr_gw lo K V A B rk) (hg : ∀ n, pr_T lo K n → g n = pr_en K V A B ar g n) {n : Nat} (hn : pr_T lo K n) : pr_ev K V A B ar 32 n = g n :=
  pv_u hG (fun n hn => pr_ev_eq hG hn) hg 32 n hn (pr_gw_r hG n hn)
/-- values look at the graph's own nodes alone -/
theorem pv_same {lo : Nat} {K K' : Nat → Nat} {V V' : Nat → Int32} {A B A' B' : Nat → Option Nat} {rk : Nat → Nat} {ar : Int32} (hG : pr_gw lo K V A B rk) (e : ∀ n, pr_T lo K n → K' n = K n ∧ V' n = V n ∧ A' n = A n ∧ B' n = B n) {n : Nat} (hn : pr_T lo K n) : pr_ev K' V' A' B' ar 32 n = pr_ev K V A B ar 32 n := by
  have main : ∀ f n, pr_T lo K n → pr_ev K' V' A' B' ar f n = pr_ev K V A B ar f n := by
    intro f
    induction f with
    | zero =>
      intro n _
      rfl
    | succ f ih =>
      intro n hn
      obtain ⟨e1, e2, e3, e4⟩ := e n hn
      show pr_en K' V' A' B' ar (pr_ev K' V' A' B' ar f) n = pr_en K V A B ar (pr_ev K V A B ar f) n
      unfold pr_en
      rw [e1, e2, e3, e4, pr_ov_congr (o := A n) (fun c hc => ih c (pr_gw_T hG n c hn (Or.inl hc)).1), pr_ov_congr (o := B n) (fun c hc => ih c (pr_gw_T hG n c hn (Or.inr hc)).1)]
  exact main 32 n hn
section PVP
variable {K : Nat → Nat} {V : Nat → Int32} {A B : Nat → Option Nat} {us rk : Nat → Nat} {P : pr_PT} {Rn : Nat} {bd : Nat → Option Nat} {m : Nat → Nat} {ar : Int32}
/-- a matched pattern has, at the bindings' values, the values of the nodes -/
theorem pv_pat (hP : pt_ok P) (hG : pr_gw 0 K V A B rk) (hm : pm_inv K V A B us P Rn 0 (m, bd)) : ∀ i, i < pt_n P → pr_ev K V A B ar 32 (m i) = pt_tv P (pr_ov (pr_ev K V A B ar 32) (bd 0)) (pr_ov (pr_ev K V A B ar 32) (bd 1)) i := by
  intro i
  induction i using Nat.strongRecOn with
  | ind i ih =>
    intro hi
    have hnd : pm_nd K V A B us P m bd i := hm.2.1 i (by omega) hi
    obtain ⟨tn, c11, c13, c10⟩ := hnd
    have hk := hP.2 i hi
    rw [pt_tv_eq hP hi]
    unfold pt_vF
    by_cases e11 : pt_k P i = 11
    · rw [if_pos e11, pr_ev_eq hG tn]
      unfold pr_en
      rw [if_pos (c11 e11).1, (c11 e11).2]
    · rw [if_neg e11]
      by_cases e13 : 13 ≤ pt_k P i
      · rw [if_pos e13]
        have hb := (c13 e13).1
        have hv := hk.2.2.1 e13
        by_cases e0 : pt_v P i = 0
        · rw [if_pos e0]
          rw [e0] at hb
          rw [hb]
          rfl
        · rw [if_neg e0]
          rw [show pt_v P i = 1 by omega] at hb
          rw [hb]
          rfl
      · rw [if_neg e13]
        have k10 : pt_k P i ≤ 10 := by have := hk.1; omega
        obtain ⟨d1, d2, d3, d4⟩ := c10 k10
        have h9 := hk.2.2.2.2.2.2.2.2.1
        rw [pr_ev_eq hG tn]
        unfold pr_en
        rw [d1, if_neg e11, if_neg (by omega)]
        obtain ⟨c, hc⟩ := hk.2.2.2.2.2.2.1 k10
        have ea : pr_ov (pr_ev K V A B ar 32) (A (m i)) = pr_ov (pt_tv P (pr_ov (pr_ev K V A B ar 32) (bd 0)) (pr_ov (pr_ev K V A B ar 32) (bd 1))) (pt_a P i) := by
          rw [d3 c hc, hc]
          have := (h9 c (Or.inl hc)).1
          exact ih c this (by omega)
        have eb : pr_ov (pr_ev K V A B ar 32) (B (m i)) = pr_ov (pt_tv P (pr_ov (pr_ev K V A B ar 32) (bd 0)) (pr_ov (pr_ev K V A B ar 32) (bd 1))) (pt_b P i) := by
          by_cases k8 : pt_k P i ≤ 8
          · obtain ⟨c', hc'⟩ := hk.2.2.2.2.2.2.2.1 k8
            rw [d4 c' hc', hc']
            have := (h9 c' (Or.inr hc')).1
            exact ih c' this (by omega)
          · have hB : B (m i) = none := (hG _ tn).2.2.2.2.2.2.1 (by omega)
            have hb : pt_b P i = none := hk.2.2.2.2.2.1 (by omega)
            rw [hB, hb]
            rfl
        rw [ea, eb]
end PVP
section PVB
variable {K0 : Nat → Nat} {V0 : Nat → Int32} {A0 B0 : Nat → Option Nat} {rk : Nat → Nat} {bd : Nat → Option Nat} {R : pr_PT} {C : Nat → Bool} {Lo : List Nat} {β : Nat} {tv g0 : Nat → Int32} {ar v0 v1 : Int32}
/-- h gives the old nodes their old values, the new ones their values, and the results the replacement's -/
def pv_in (K0 : Nat → Nat) (g0 : Nat → Int32) (ar : Int32) (R : pr_PT) (C : Nat → Bool) (v0 v1 : Int32) (i : Nat) (s : pb_S) (h : Nat → Int32) : Prop :=
  (∀ x, K0 x ≠ 0 → h x = g0 x) ∧ (∀ x, K0 x = 0 → s.1 x ≠ 0 → h x = pr_en s.1 s.2.1 s.2.2.1 s.2.2.2.1 ar h x) ∧ ∀ q y, q < i → ¬ pb_sk R C q → s.2.2.2.2 q = some y → h y = pt_tv R v0 v1 q
theorem pv_new {i κ : Nat} {v : Int32} {a b : Option Nat} {s : pb_S} {ρ : Nat → Nat} {h : Nat → Int32} (hfr : ∃ x, x < 32 ∧ s.1 x = 0) (hinv : pb_inv K0 V0 A0 B0 rk bd R C Lo β i s ρ) (hv : pv_in K0 g0 ar R C v0 v1 i s h)
    (hab : ∀ c, a = some c ∨ b = some c → s.1 c ≠ 0) (hw : (if κ = 11 then v else if κ = 12 then pr_ag ar v else pr_op κ (pr_ov h a) (pr_ov h b)) = pt_tv R v0 v1 i) : ∃ h', pv_in K0 g0 ar R C v0 v1 (i + 1) (pb_new i κ v a b s) h' := by
  obtain ⟨f1, f2, f3⟩ := pr_fr_ok hfr
  obtain ⟨i1, i2, i3, i4, i5⟩ := hinv
  obtain ⟨w1, w2, w3⟩ := hv
  have hK0 : K0 (pr_fr s.1) = 0 := by
    apply Classical.byContradiction
    intro hh
    rw [← (i1 _ hh).1] at hh
    exact hh f1
  have hne : ∀ c, s.1 c ≠ 0 → c ≠ pr_fr s.1 := fun c hc e => hc (by rw [e]; exact f1)
  refine ⟨pr_st h (pr_fr s.1) (pt_tv R v0 v1 i), fun x hx => ?_, fun x hx hx1 => ?_, fun q y hq hsk hy => ?_⟩
  · rw [pr_st_n (fun e => hx (by rw [e]; exact hK0))]
    exact w1 x hx
  · show pr_st h (pr_fr s.1) (pt_tv R v0 v1 i) x = pr_en (pr_st s.1 (pr_fr s.1) κ) (pr_st s.2.1 (pr_fr s.1) v) (pr_st s.2.2.1 (pr_fr s.1) a) (pr_st s.2.2.2.1 (pr_fr s.1) b) ar (pr_st h (pr_fr s.1) (pt_tv R v0 v1 i)) x
    by_cases e : x = pr_fr s.1
    · subst e
      unfold pr_en
      rw [pr_st_s, pr_st_s, pr_st_s, pr_st_s, pr_st_s, pr_ov_congr (o := a) (h := h) (fun c hc => pr_st_n (hne c (hab c (Or.inl hc)))), pr_ov_congr (o := b) (h := h) (fun c hc => pr_st_n (hne c (hab c (Or.inr hc))))]
      exact hw.symm
    · have hx1' : s.1 x ≠ 0 := by
        have h1 : pr_st s.1 (pr_fr s.1) κ x ≠ 0 := hx1
        rw [pr_st_n e] at h1
        exact h1
      have hch := (i2 x hx hx1').2.2.2.2.2.2.2.2.2
      unfold pr_en
      rw [pr_st_n e, pr_st_n e, pr_st_n e, pr_st_n e, pr_st_n e, pr_ov_congr (o := s.2.2.1 x) (h := h) (fun c hc => pr_st_n (hne c (hch c (Or.inl hc)).1.2.2)), pr_ov_congr (o := s.2.2.2.1 x) (h := h) (fun c hc => pr_st_n (hne c (hch c (Or.inr hc)).1.2.2))]
      exact w2 x hx hx1'
  · have hy' : pr_st s.2.2.2.2 i (some (pr_fr s.1)) q = some y := hy
    by_cases e : q = i
    · subst e
      rw [pr_st_s] at hy'
      rw [← Option.some.inj hy', pr_st_s]
    · rw [pr_st_n e] at hy'
      obtain ⟨z, z1, z2, z3⟩ := i3 q (by omega) hsk
      rw [hy'] at z1
      have ez := Option.some.inj z1
      subst ez
      rw [pr_st_n (hne y z2.2.2)]
      exact w3 q y (by omega) hsk hy'
theorem pv_step {i : Nat} {s : pb_S} {ρ : Nat → Nat} {h : Nat → Int32} (hR : pt_ok R) (h14 : ∀ i, i < pt_n R → pt_k R i ≠ 14) (hi : i < pt_n R) (hfr : pt_rm1 R C i = 1 → ∃ x, x < 32 ∧ s.1 x = 0) (hinv : pb_inv K0 V0 A0 B0 rk bd R C Lo β i s ρ) (hv : pv_in K0 g0 ar R C v0 v1 i s h)
    (htv : pt_cv R C i = true → tv i = pt_tv R v0 v1 i) (hbd : pt_k R i = 13 → ∃ y, bd (pt_v R i) = some y ∧ K0 y ≠ 0 ∧ g0 y = (if pt_v R i = 0 then v0 else v1)) : ∃ h', pv_in K0 g0 ar R C v0 v1 (i + 1) (pb_st R C tv bd i s) h' := by
  have hk := hR.2 i hi
  have h9 := hk.2.2.2.2.2.2.2.2.1
  have h14i := h14 i hi
  unfold pb_st
  by_cases hsk : pt_cv R C i = true ∧ pt_mx R C i = false
  · rw [if_pos hsk]
    refine ⟨h, hv.1, hv.2.1, fun q y hq hn hy => ?_⟩
    by_cases e : q = i
    · subst e
      exact absurd hsk hn
    · exact hv.2.2 q y (by omega) hn hy
  · rw [if_neg hsk]
    by_cases e13 : pt_k R i = 13
    · rw [if_pos e13]
      refine ⟨h, hv.1, hv.2.1, fun q y hq hn hy => ?_⟩
      have hy' : pr_st s.2.2.2.2 i (bd (pt_v R i)) q = some y := hy
      by_cases e : q = i
      · subst e
        rw [pr_st_s] at hy'
        obtain ⟨z, z1, z2, z3⟩ := hbd e13
        rw [hy'] at z1
        have ez := Option.some.inj z1
        subst ez
        rw [hv.1 y z2, z3, pt_tv_eq hR hi]
        unfold pt_vF
        rw [if_neg (show ¬ pt_k R q = 11 by rw [e13]; decide), if_pos (show 13 ≤ pt_k R q by rw [e13]; exact Nat.le_refl 13)]
      · rw [pr_st_n e] at hy'
        exact hv.2.2 q y (by omega) hn hy'
    · rw [if_neg e13]
      by_cases hc : pt_cv R C i = true
      · rw [if_pos hc]
        have hmx : pt_mx R C i = true := by
          cases hx : pt_mx R C i with
          | true => rfl
          | false => exact absurd ⟨hc, hx⟩ hsk
        refine pv_new (hfr ?_) hinv hv (fun c hh => by rcases hh with y | y <;> cases y) ?_
        · unfold pt_rm1
          rw [if_pos (Or.inr ⟨hmx, e13⟩)]
        · rw [if_pos rfl]
          exact htv hc
      · rw [if_neg hc]
        have hcf : pt_cv R C i = false := by
          cases hx : pt_cv R C i with
          | true => exact absurd hx hc
          | false => rfl
        have k11 : pt_k R i ≠ 11 := by
          intro e
          apply hc
          rw [pt_cv_eq hR hi]
          unfold pt_cF
          rw [if_neg e13, hk.2.2.2.2.1 (by omega), hk.2.2.2.2.2.1 (by omega)]
          rfl
        have k10 : pt_k R i ≤ 10 := by have := hk.1; omega
        -- the operands have results
        have hop : ∀ c, pt_a R i = some c ∨ pt_b R i = some c → ∃ y, s.2.2.2.2 c = some y ∧ s.1 y ≠ 0 ∧ h y = pt_tv R v0 v1 c := by
          intro c hc'
          obtain ⟨c1, c2⟩ := h9 c hc'
          have hn : ¬ pb_sk R C c := by
            intro hs
            have h2 := hs.2
            unfold pt_mx at h2
            rw [hs.1, c2] at h2
            replace h2 : (true && !pt_cv R C i) = false := h2
            rw [hcf] at h2
            cases h2
          obtain ⟨y, y1, y2, y3⟩ := hinv.2.2.1 c c1 hn
          exact ⟨y, y1, y2.2.2, hv.2.2 c y c1 hn y1⟩
        have hor : ∀ o : Option Nat, (∀ c, o = some c → pt_a R i = some c ∨ pt_b R i = some c) → pr_ov h (pr_or s.2.2.2.2 o) = pr_ov (pt_tv R v0 v1) o ∧ ∀ y, pr_or s.2.2.2.2 o = some y → s.1 y ≠ 0 := by
          intro o ho
          cases o with
          | none => exact ⟨rfl, fun y hy => by cases hy⟩
          | some c =>
            obtain ⟨y, y1, y2, y3⟩ := hop c (ho c rfl)
            have e : pr_or s.2.2.2.2 (some c) = some y := y1
            rw [e]
            refine ⟨y3, fun z hz => ?_⟩
            rw [← Option.some.inj hz]
            exact y2
        have ha := hor (pt_a R i) (fun c hc => Or.inl hc)
        have hb := hor (pt_b R i) (fun c hc => Or.inr hc)
        refine pv_new (hfr ?_) hinv hv (fun c hh => ?_) ?_
        · unfold pt_rm1
          rw [if_pos (Or.inl hcf)]
        · rcases hh with y | y
          · exact ha.2 c y
          · exact hb.2 c y
        · rw [if_neg k11, if_neg (by omega), ha.1, hb.1, pt_tv_eq hR hi]
          unfold pt_vF
          rw [if_neg k11, if_neg (by omega)]
theorem pv_all (hR : pt_ok R) (h14 : ∀ i, i < pt_n R → pt_k R i ≠ 14) (hfr : ∀ i, i < pt_n R → pt_rm1 R C i = 1 → ∃ x, x < 32 ∧ (pb_run R C tv bd i (K0, V0, A0, B0, fun _ => none)).1 x = 0) (hinv : ∀ i, i ≤ pt_n R → ∃ ρ, pb_inv K0 V0 A0 B0 rk bd R C Lo β i (pb_run R C tv bd i (K0, V0, A0, B0, fun _ => none)) ρ)
    (htv : ∀ i, i < pt_n R → pt_cv R C i = true → tv i = pt_tv R v0 v1 i) (hbd : ∀ i, i < pt_n R → pt_k R i = 13 → ∃ y, bd (pt_v R i) = some y ∧ K0 y ≠ 0 ∧ g0 y = (if pt_v R i = 0 then v0 else v1)) : ∀ i, i ≤ pt_n R → ∃ h, pv_in K0 g0 ar R C v0 v1 i (pb_run R C tv bd i (K0, V0, A0, B0, fun _ => none)) h := by
  intro i
  induction i with
  | zero =>
    intro _
    exact ⟨g0, fun _ _ => rfl, fun x hx hx1 => absurd hx hx1, fun q y hq => absurd hq (by omega)⟩
  | succ i ih =>
    intro hi
    obtain ⟨h, hv⟩ := ih (by omega)
    obtain ⟨ρ, hin⟩ := hinv i (by omega)
    exact pv_step hR h14 (by omega) (hfr i (by omega)) hin hv (htv i (by omega)) (hbd i (by omega))
theorem pv_rd {h : Nat → Int32} {r y : Nat} (e : h y = h r) (o : Option Nat) : pr_ov h (pr_rd r y o) = pr_ov h o := by
  unfold pr_rd
  by_cases ho : o = some r
  · rw [if_pos ho, ho]
    exact e
  · rw [if_neg ho]
/-- the values after the redirection and the deletion -/
theorem pv_app {Rn y : Nat} {s : pb_S} {rk2 : Nat → Nat} {L2 : List Nat} {ρ : Nat → Nat} {h : Nat → Int32} {i : Nat} (hG : pr_gw 0 K0 V0 A0 B0 rk) (hg : g0 = pr_ev K0 V0 A0 B0 ar 32) (hinv : pb_inv K0 V0 A0 B0 rk bd R C Lo β i s ρ) (hv : pv_in K0 g0 ar R C v0 v1 i s h) (hy : h y = h Rn)
    (hG2 : pr_gw 0 (pa_K L2 s.1) s.2.1 (pa_A Rn y s.2.2.1) (pa_A Rn y s.2.2.2.1) rk2) : ∀ x, pr_T 0 (pa_K L2 s.1) x → pr_ev (pa_K L2 s.1) s.2.1 (pa_A Rn y s.2.2.1) (pa_A Rn y s.2.2.2.1) ar 32 x = h x := by
  obtain ⟨i1, i2, i3, i4, i5⟩ := hinv
  obtain ⟨w1, w2, w3⟩ := hv
  refine fun x hx => pv_ev hG2 (fun n hn => ?_) hx
  have hn32 : n < 32 := by have := hn.2.1; omega
  have eK : pa_K L2 s.1 n = s.1 n := by
    have h2 := hn.2.2
    unfold pa_K at h2 ⊢
    by_cases hc : n < 32 ∧ n ∉ L2
    · rw [if_pos hc] at h2
      exact absurd rfl h2
    · rw [if_neg hc]
  have eA : ∀ f : Nat → Option Nat, pa_A Rn y f n = pr_rd Rn y (f n) := fun f => if_pos hn32
  have hs1 : s.1 n ≠ 0 := by
    have h2 := hn.2.2
    rw [eK] at h2
    exact h2
  unfold pr_en
  rw [eK, eA, eA, pv_rd hy, pv_rd hy]
  by_cases hK : K0 n = 0
  · have := w2 n hK hs1
    unfold pr_en at this
    exact this
  · obtain ⟨e1, e2, e3, e4, e5⟩ := i1 n hK
    have tn : pr_T 0 K0 n := ⟨hn.1, hn.2.1, hK⟩
    have := pr_ev_eq (ar := ar) hG tn
    rw [w1 n hK, hg, this, e1, e2, e3, e4]
    unfold pr_en
    rw [pr_ov_congr (o := A0 n) (h := h) (fun c hc => ?_), pr_ov_congr (o := B0 n) (h := h) (fun c hc => ?_)]
    · rw [w1 c (pr_gw_T hG n c tn (Or.inr hc)).1.2.2, hg]
    · rw [w1 c (pr_gw_T hG n c tn (Or.inl hc)).1.2.2, hg]
end PVB
