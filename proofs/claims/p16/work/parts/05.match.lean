/-! matching, pure -/
abbrev pm_S : Type := (Nat → Nat) × (Nat → Option Nat)
def pm_ch (A B : Nat → Option Nat) (P : pr_PT) (i d : Nat) (m : Nat → Nat) : Nat → Nat := fun q => if pt_a P i = some q then (A d).getD 0 else if pt_b P i = some q then (B d).getD 0 else m q
def pm_lf (P : pr_PT) (i : Nat) (s : pm_S) : Option pm_S := match s.2 (pt_v P i) with
  | none => some (s.1, pr_st s.2 (pt_v P i) (some (s.1 i)))
  | some e => if e = s.1 i then some s else none
def pm_st (K : Nat → Nat) (V : Nat → Int32) (A B : Nat → Option Nat) (us : Nat → Nat) (P : pr_PT) (i : Nat) (s : pm_S) : Option pm_S :=
  if pt_k P i = 11 then (if K (s.1 i) = 11 ∧ V (s.1 i) = nI (pt_v P i) then some s else none)
  else if 13 ≤ pt_k P i then (if pt_k P i = 14 ∧ K (s.1 i) ≠ 11 then none else pm_lf P i s)
  else if K (s.1 i) = pt_k P i ∧ (i + 1 = pt_n P ∨ us (s.1 i) = 1) then some (pm_ch A B P i (s.1 i) s.1, s.2) else none
def pm_run (K : Nat → Nat) (V : Nat → Int32) (A B : Nat → Option Nat) (us : Nat → Nat) (P : pr_PT) : Nat → pm_S → Option pm_S
  | 0, s => some s
  | i + 1, s => match pm_st K V A B us P i s with
    | none => none
    | some s' => pm_run K V A B us P i s'
def pm_nd (K : Nat → Nat) (V : Nat → Int32) (A B : Nat → Option Nat) (us : Nat → Nat) (P : pr_PT) (m : Nat → Nat) (bd : Nat → Option Nat) (i : Nat) : Prop :=
  pr_T 0 K (m i) ∧ (pt_k P i = 11 → K (m i) = 11 ∧ V (m i) = nI (pt_v P i)) ∧ (13 ≤ pt_k P i → bd (pt_v P i) = some (m i) ∧ (pt_k P i = 14 → K (m i) = 11)) ∧
  (pt_k P i ≤ 10 → K (m i) = pt_k P i ∧ (i + 1 = pt_n P ∨ us (m i) = 1) ∧ (∀ c, pt_a P i = some c → A (m i) = some (m c)) ∧ (∀ c, pt_b P i = some c → B (m i) = some (m c)))
def pm_as (P : pr_PT) (i q : Nat) : Prop := q + 1 = pt_n P ∨ ∃ p, i ≤ p ∧ p < pt_n P ∧ pt_p P q = some p
def pm_inv (K : Nat → Nat) (V : Nat → Int32) (A B : Nat → Option Nat) (us : Nat → Nat) (P : pr_PT) (R i : Nat) (s : pm_S) : Prop :=
  s.1 (pt_n P - 1) = R ∧ (∀ q, i ≤ q → q < pt_n P → pm_nd K V A B us P s.1 s.2 q) ∧ (∀ q, q < pt_n P → pm_as P i q → pr_T 0 K (s.1 q)) ∧ ∀ j d, s.2 j = some d → ∃ q, i ≤ q ∧ q < pt_n P ∧ 13 ≤ pt_k P q ∧ pt_v P q = j ∧ s.1 q = d
theorem pm_as_i {P : pr_PT} (hP : pt_ok P) (hf : pt_fin P) {i : Nat} (hi : i < pt_n P) : pm_as P (i + 1) i := by
  by_cases e : i + 1 = pt_n P
  · exact Or.inl e
  · obtain ⟨q, hq⟩ := hf.2.2 i (by omega)
    have := (hP.2 i hi).2.2.2.2.2.2.2.2.2.2 q hq
    exact Or.inr ⟨q, by omega, by omega, hq⟩
theorem pm_as_s {P : pr_PT} {i q : Nat} (h : pm_as P i q) : pm_as P (i + 1) q ∨ pt_p P q = some i := by
  rcases h with h | ⟨p, h1, h2, h3⟩
  · exact Or.inl (Or.inl h)
  · by_cases e : p = i
    · rw [e] at h3
      exact Or.inr h3
    · exact Or.inl (Or.inr ⟨p, by omega, h2, h3⟩)
theorem pm_k10 {k : Nat} (h : 1 ≤ k ∧ k ≤ 14 ∧ k ≠ 12) (h11 : k ≠ 11) (h13 : ¬ 13 ≤ k) : k ≤ 10 := by omega
section PMS
variable {K : Nat → Nat} {V : Nat → Int32} {A B : Nat → Option Nat} {us rk : Nat → Nat} {P : pr_PT} {R : Nat}
theorem pm_step (hP : pt_ok P) (hf : pt_fin P) (hG : pr_gw 0 K V A B rk) {i : Nat} (hi : i < pt_n P) {s s' : pm_S} (h : pm_inv K V A B us P R (i + 1) s) (e : pm_st K V A B us P i s = some s') : pm_inv K V A B us P R i s' := by
  obtain ⟨m, bd⟩ := s
  obtain ⟨h1, h2, h3, h4⟩ := h
  have hT : pr_T 0 K (m i) := h3 i hi (pm_as_i hP hf hi)
  have hn := hP.2 i hi
  have h9 := hn.2.2.2.2.2.2.2.2.1
  have h10 := hn.2.2.2.2.2.2.2.2.2.1
  unfold pm_st at e
  by_cases h11 : pt_k P i = 11
  · rw [if_pos h11] at e
    by_cases hc : K (m i) = 11 ∧ V (m i) = nI (pt_v P i)
    · replace e : (if K (m i) = 11 ∧ V (m i) = nI (pt_v P i) then some (m, bd) else none) = some s' := e
      rw [if_pos hc] at e
      cases e
      refine ⟨h1, fun q a b => ?_, fun q a b => ?_, fun j d hj => ?_⟩
      · by_cases eq : q = i
        · subst eq
          exact ⟨hT, fun _ => hc, fun h => absurd h (by omega), fun h => absurd h (by omega)⟩
        · exact h2 q (by omega) b
      · rcases pm_as_s b with b | b
        · exact h3 q a b
        · have := (hP.2 q a).2.2.2.2.2.2.2.2.2.2 i b
          have ha := hn.2.2.2.2.1 (by omega)
          have hb := hn.2.2.2.2.2.1 (by omega)
          rw [ha, hb] at this
          rcases this.2.2 with x | x <;> cases x
      · obtain ⟨q, a, b⟩ := h4 j d hj
        exact ⟨q, by omega, b⟩
    · replace e : (if K (m i) = 11 ∧ V (m i) = nI (pt_v P i) then some (m, bd) else none) = some s' := e
      rw [if_neg hc] at e
      cases e
  · rw [if_neg h11] at e
    by_cases h13 : 13 ≤ pt_k P i
    · rw [if_pos h13] at e
      replace e : (if pt_k P i = 14 ∧ K (m i) ≠ 11 then none else pm_lf P i (m, bd)) = some s' := e
      have hno : ∀ q, q < pt_n P → pm_as P i q → pr_T 0 K (m q) := by
        intro q a b
        rcases pm_as_s b with b | b
        · exact h3 q a b
        · have := (hP.2 q a).2.2.2.2.2.2.2.2.2.2 i b
          have ha := hn.2.2.2.2.1 (by omega)
          have hb := hn.2.2.2.2.2.1 (by omega)
          rw [ha, hb] at this
          rcases this.2.2 with x | x <;> cases x
      by_cases h14 : pt_k P i = 14 ∧ K (m i) ≠ 11
      · rw [if_pos h14] at e
        cases e
      · rw [if_neg h14] at e
        have h14' : pt_k P i = 14 → K (m i) = 11 := fun h => by
          by_cases hx : K (m i) = 11
          · exact hx
          · exact absurd ⟨h, hx⟩ h14
        unfold pm_lf at e
        cases hb : bd (pt_v P i) with
        | none =>
          replace e : (match bd (pt_v P i) with
            | none => some (m, pr_st bd (pt_v P i) (some (m i)))
            | some e => if e = m i then some (m, bd) else none) = some s' := e
          rw [hb] at e
          cases e
          refine ⟨h1, fun q a b => ?_, hno, fun j d hj => ?_⟩
          · by_cases eq : q = i
            · subst eq
              exact ⟨hT, fun h => absurd h h11, fun _ => ⟨pr_st_s, h14'⟩, fun h => absurd h (by omega)⟩
            · obtain ⟨g1, g2, g3, g4⟩ := h2 q (by omega) b
              refine ⟨g1, g2, fun h => ⟨?_, (g3 h).2⟩, g4⟩
              have hne : pt_v P q ≠ pt_v P i := by
                intro hh
                have := (g3 h).1
                rw [hh] at this
                rw [show (m, bd).2 = bd from rfl, hb] at this
                cases this
              show pr_st bd (pt_v P i) (some (m i)) (pt_v P q) = some (m q)
              rw [pr_st_n hne]
              exact (g3 h).1
          · by_cases ej : j = pt_v P i
            · subst ej
              replace hj : pr_st bd (pt_v P i) (some (m i)) (pt_v P i) = some d := hj
              rw [pr_st_s] at hj
              cases hj
              exact ⟨i, by omega, hi, h13, rfl, rfl⟩
            · replace hj : pr_st bd (pt_v P i) (some (m i)) j = some d := hj
              rw [pr_st_n ej] at hj
              obtain ⟨q, a, b⟩ := h4 j d hj
              exact ⟨q, by omega, b⟩
        | some x =>
          replace e : (match bd (pt_v P i) with
            | none => some (m, pr_st bd (pt_v P i) (some (m i)))
            | some e => if e = m i then some (m, bd) else none) = some s' := e
          rw [hb] at e
          replace e : (if x = m i then some (m, bd) else none) = some s' := e
          by_cases hx : x = m i
          · rw [if_pos hx] at e
            cases e
            refine ⟨h1, fun q a b => ?_, hno, fun j d hj => ?_⟩
            · by_cases eq : q = i
              · subst eq
                refine ⟨hT, fun h => absurd h h11, fun _ => ⟨?_, h14'⟩, fun h => absurd h (by omega)⟩
                show bd (pt_v P q) = some (m q)
                rw [hb, hx]
              · exact h2 q (by omega) b
            · obtain ⟨q, a, b⟩ := h4 j d hj
              exact ⟨q, by omega, b⟩
          · rw [if_neg hx] at e
            cases e
    · rw [if_neg h13] at e
      replace e : (if K (m i) = pt_k P i ∧ (i + 1 = pt_n P ∨ us (m i) = 1) then some (pm_ch A B P i (m i) m, bd) else none) = some s' := e
      by_cases hc : K (m i) = pt_k P i ∧ (i + 1 = pt_n P ∨ us (m i) = 1)
      · rw [if_pos hc] at e
        cases e
        have hk := hn.1
        have hG' := hG (m i) hT
        have keep : ∀ q, pt_p P q ≠ some i → pm_ch A B P i (m i) m q = m q := by
          intro q hq
          unfold pm_ch
          rw [if_neg (fun h => hq (h9 q (Or.inl h)).2), if_neg (fun h => hq (h9 q (Or.inr h)).2)]
        have keep2 : ∀ q, i ≤ q → q < pt_n P → pm_ch A B P i (m i) m q = m q := by
          intro q hq hq'
          refine keep q fun h => ?_
          have := (hP.2 q hq').2.2.2.2.2.2.2.2.2.2 i h
          omega
        have cA : ∀ c, pt_a P i = some c → A (m i) = some (pm_ch A B P i (m i) m c) := by
          intro c hc'
          unfold pm_ch
          rw [if_pos hc']
          obtain ⟨x, hx⟩ := hG'.2.2.2.2.2.2.2.1 (by rw [hc.1]; exact pm_k10 hk h11 h13)
          rw [hx]
          rfl
        have cB : ∀ c, pt_b P i = some c → B (m i) = some (pm_ch A B P i (m i) m c) := by
          intro c hc'
          unfold pm_ch
          rw [if_neg (fun h => h10 c h hc'), if_pos hc']
          have h8 : pt_k P i ≤ 8 := by
            by_cases h8 : pt_k P i ≤ 8
            · exact h8
            · rw [hn.2.2.2.2.2.1 (by omega)] at hc'
              cases hc'
          obtain ⟨x, hx⟩ := hG'.2.2.2.2.2.2.2.2.1 (by rw [hc.1]; exact h8)
          rw [hx]
          rfl
        refine ⟨?_, fun q a b => ?_, fun q a b => ?_, fun j d hj => ?_⟩
        · show pm_ch A B P i (m i) m (pt_n P - 1) = R
          rw [keep2 _ (by omega) (by omega)]
          exact h1
        · show pm_nd K V A B us P (pm_ch A B P i (m i) m) bd q
          unfold pm_nd
          rw [keep2 q a b]
          by_cases eq : q = i
          · subst eq
            exact ⟨hT, fun h => absurd h h11, fun h => absurd h h13, fun _ => ⟨hc.1, hc.2, cA, cB⟩⟩
          · obtain ⟨g1, g2, g3, g4⟩ := h2 q (by omega) b
            have g9 := (hP.2 q b).2.2.2.2.2.2.2.2.1
            refine ⟨g1, g2, g3, fun h => ⟨(g4 h).1, (g4 h).2.1, fun c hc' => ?_, fun c hc' => ?_⟩⟩
            · rw [keep c (fun hh => by
                have := (g9 c (Or.inl hc')).2
                rw [hh] at this
                cases this
                exact eq rfl)]
              exact (g4 h).2.2.1 c hc'
            · rw [keep c (fun hh => by
                have := (g9 c (Or.inr hc')).2
                rw [hh] at this
                cases this
                exact eq rfl)]
              exact (g4 h).2.2.2 c hc'
        · show pr_T 0 K (pm_ch A B P i (m i) m q)
          rcases pm_as_s b with b' | b'
          · by_cases hp : pt_p P q = some i
            · have := (hP.2 q a).2.2.2.2.2.2.2.2.2.2 i hp
              rcases this.2.2 with x | x
              · exact (pr_gw_T hG _ _ hT (Or.inl (cA q x))).1
              · exact (pr_gw_T hG _ _ hT (Or.inr (cB q x))).1
            · rw [keep q hp]
              exact h3 q a b'
          · have := (hP.2 q a).2.2.2.2.2.2.2.2.2.2 i b'
            rcases this.2.2 with x | x
            · exact (pr_gw_T hG _ _ hT (Or.inl (cA q x))).1
            · exact (pr_gw_T hG _ _ hT (Or.inr (cB q x))).1
        · obtain ⟨q, a, b, c, d', f⟩ := h4 j d hj
          exact ⟨q, by omega, b, c, d', by
            show pm_ch A B P i (m i) m q = d
            rw [keep2 q (by omega) b]
            exact f⟩
      · rw [if_neg hc] at e
        cases e
theorem pm_run_ok (hP : pt_ok P) (hf : pt_fin P) (hG : pr_gw 0 K V A B rk) : ∀ {i : Nat}, i ≤ pt_n P → ∀ {s s' : pm_S}, pm_inv K V A B us P R i s → pm_run K V A B us P i s = some s' → pm_inv K V A B us P R 0 s' := by
  intro i
  induction i with
  | zero =>
    intro _ s s' h e
    cases e
    exact h
  | succ i ih =>
    intro hi s s' h e
    replace e : (match pm_st K V A B us P i s with
      | none => none
      | some s' => pm_run K V A B us P i s') = some s' := e
    cases hs : pm_st K V A B us P i s with
    | none =>
      rw [hs] at e
      cases e
    | some s1 =>
      rw [hs] at e
      exact ih (by omega) (pm_step hP hf hG (by omega) h hs) e
theorem pm_inv0 (hf : pt_fin P) (hR : pr_T 0 K R) : pm_inv K V A B us P R (pt_n P) (fun _ => R, fun _ => none) :=
  ⟨rfl, fun q a b => absurd a (by omega), fun q _ _ => hR, fun j d h => nomatch h⟩
/-! the matched operation nodes are apart -/
theorem pm_rk (hP : pt_ok P) (hf : pt_fin P) (hG : pr_gw 0 K V A B rk) {s : pm_S} (h : pm_inv K V A B us P R 0 s) : ∀ d q, q + d + 1 = pt_n P → q + 1 ≠ pt_n P → rk (s.1 q) < rk R := by
  intro d
  induction d using Nat.strongRecOn with
  | ind d ih =>
    intro q hq hq'
    obtain ⟨p, hp⟩ := hf.2.2 q (by omega)
    have hp' := (hP.2 q (by omega)).2.2.2.2.2.2.2.2.2.2 p hp
    have hn := h.2.1 p (by omega) hp'.2.1
    have hk : pt_k P p ≤ 10 := by
      have hpn := hP.2 p hp'.2.1
      by_cases hk : pt_k P p ≤ 10
      · exact hk
      · have ha := hpn.2.2.2.2.1 (by omega)
        have hb := hpn.2.2.2.2.2.1 (by omega)
        rw [ha, hb] at hp'
        rcases hp'.2.2 with x | x <;> cases x
    have hc := (hn.2.2.2 hk).2.2
    have hlt : rk (s.1 q) < rk (s.1 p) := by
      rcases hp'.2.2 with x | x
      · exact (pr_gw_T hG _ _ hn.1 (Or.inl (hc.1 q x))).2
      · exact (pr_gw_T hG _ _ hn.1 (Or.inr (hc.2 q x))).2
    by_cases e : p + 1 = pt_n P
    · rw [show p = pt_n P - 1 by omega, h.1] at hlt
      exact hlt
    · have := ih (pt_n P - 1 - p) (by omega) p (by omega) e
      omega
theorem pm_par (hP : pt_ok P) (hf : pt_fin P) {q : Nat} (hq : q + 1 < pt_n P) : ∃ p, pt_p P q = some p ∧ q < p ∧ p < pt_n P ∧ pt_k P p ≤ 10 ∧ (pt_a P p = some q ∨ pt_b P p = some q) := by
  obtain ⟨p, hp⟩ := hf.2.2 q (by omega)
  have hp' := (hP.2 q (by omega)).2.2.2.2.2.2.2.2.2.2 p hp
  refine ⟨p, hp, hp'.1, hp'.2.1, ?_, hp'.2.2⟩
  have hpn := hP.2 p hp'.2.1
  by_cases hk : pt_k P p ≤ 10
  · exact hk
  · have ha := hpn.2.2.2.2.1 (by omega)
    have hb := hpn.2.2.2.2.2.1 (by omega)
    rw [ha, hb] at hp'
    rcases hp'.2.2 with x | x <;> cases x
def pr_e1 (A B : Nat → Option Nat) (d n : Nat) : Nat := (if A n = some d then 1 else 0) + (if B n = some d then 1 else 0)
theorem pr_e1_ge {d n : Nat} (h : A n = some d ∨ B n = some d) : 1 ≤ pr_e1 A B d n := by
  unfold pr_e1
  rcases h with h | h
  · rw [if_pos h]
    omega
  · rw [if_pos h]
    omega
theorem pr_e1_2 {d n : Nat} (h : A n = some d) (h' : B n = some d) : pr_e1 A B d n = 2 := by
  unfold pr_e1
  rw [if_pos h, if_pos h']
theorem pm_inj {O : Nat → Nat} {L : List Nat} {oc : Nat} (hP : pt_ok P) (hf : pt_fin P) (hG : pr_gw 0 K V A B rk) (hL : ∀ x, pr_T 0 K x → x ∈ L) (hu : us = pr_us A B O L oc) {s : pm_S} (h : pm_inv K V A B us P R 0 s) :
    ∀ d p, p + d + 1 = pt_n P → p + 1 ≠ pt_n P → pt_k P p ≤ 10 → ∀ q, q < pt_n P → q ≠ p → s.1 q ≠ s.1 p := by
  intro d
  induction d using Nat.strongRecOn with
  | ind d ih =>
    intro p hpd hp hk q hq hqp e
    have hrp := pm_rk hP hf hG h d p hpd hp
    by_cases hqr : q + 1 = pt_n P
    · rw [show q = pt_n P - 1 by omega, h.1] at e
      rw [← e] at hrp
      exact Nat.lt_irrefl _ hrp
    · obtain ⟨P1, a1, a2, a3, a4, a5⟩ := pm_par hP hf (q := p) (by omega)
      obtain ⟨Q1, b1, b2, b3, b4, b5⟩ := pm_par hP hf (q := q) (by omega)
      have n1 := h.2.1 P1 (by omega) a3
      have n2 := h.2.1 Q1 (by omega) b3
      have c1 := (n1.2.2.2 a4).2.2
      have c2 := (n2.2.2.2 b4).2.2
      have u1 : us (s.1 p) = 1 := by
        rcases ((h.2.1 p (by omega) (by omega)).2.2.2 hk).2.1 with x | x
        · exact absurd x hp
        · exact x
      have g1 : A (s.1 P1) = some (s.1 p) ∨ B (s.1 P1) = some (s.1 p) := by
        rcases a5 with x | x
        · exact Or.inl (c1.1 p x)
        · exact Or.inr (c1.2 p x)
      have g2 : A (s.1 Q1) = some (s.1 p) ∨ B (s.1 Q1) = some (s.1 p) := by
        rw [← e]
        rcases b5 with x | x
        · exact Or.inl (c2.1 q x)
        · exact Or.inr (c2.2 q x)
      rw [hu] at u1
      have u2 : pr_sm (pr_e1 A B (s.1 p)) L ≤ 1 := by
        have : pr_us A B O L oc (s.1 p) = pr_sm (pr_e1 A B (s.1 p)) L + pr_rs (fun k => if O k = s.1 p then 1 else 0) 0 oc := rfl
        omega
      by_cases hm : s.1 P1 = s.1 Q1
      · by_cases hPQ : P1 = Q1
        · subst hPQ
          have hdup : A (s.1 P1) = some (s.1 p) ∧ B (s.1 P1) = some (s.1 p) := by
            rcases a5 with x | x
            · rcases b5 with y | y
              · rw [x] at y
                cases y
                exact absurd rfl hqp
              · exact ⟨c1.1 p x, by rw [← e]; exact c1.2 q y⟩
            · rcases b5 with y | y
              · exact ⟨by rw [← e]; exact c1.1 q y, c1.2 p x⟩
              · rw [x] at y
                cases y
                exact absurd rfl hqp
          have := pr_sm_ge (w := pr_e1 A B (s.1 p)) (hL _ n1.1)
          rw [pr_e1_2 hdup.1 hdup.2] at this
          omega
        · by_cases hr : P1 + 1 = pt_n P
          · have := pm_rk hP hf hG h (pt_n P - 1 - Q1) Q1 (by omega) (by omega)
            rw [← hm, show P1 = pt_n P - 1 by omega, h.1] at this
            omega
          · exact ih (pt_n P - 1 - P1) (by omega) P1 (by omega) hr a4 Q1 b3 (fun x => hPQ x.symm) hm.symm
      · have := pr_sm_ge2 (w := pr_e1 A B (s.1 p)) hm (hL _ n1.1) (hL _ n2.1)
        have := pr_e1_ge g1
        have := pr_e1_ge g2
        omega
/-- an operation node of the match, not the root, is referred to by its match-parent's slot alone -/
theorem pm_only {O : Nat → Nat} {L : List Nat} {oc : Nat} (hP : pt_ok P) (hf : pt_fin P) (hL : ∀ x, pr_T 0 K x → x ∈ L) (hu : us = pr_us A B O L oc) {s : pm_S} (h : pm_inv K V A B us P R 0 s)
    {p : Nat} (hp : p + 1 < pt_n P) (hk : pt_k P p ≤ 10) : (∀ k, k < oc → O k ≠ s.1 p) ∧ ∀ y, pr_T 0 K y → (A y = some (s.1 p) ∨ B y = some (s.1 p)) → ∃ q, q < pt_n P ∧ pt_k P q ≤ 10 ∧ s.1 q = y := by
  obtain ⟨P1, a1, a2, a3, a4, a5⟩ := pm_par hP hf (q := p) hp
  have n1 := h.2.1 P1 (by omega) a3
  have c1 := (n1.2.2.2 a4).2.2
  have u1 : us (s.1 p) = 1 := by
    rcases ((h.2.1 p (by omega) (by omega)).2.2.2 hk).2.1 with x | x
    · omega
    · exact x
  have g1 : A (s.1 P1) = some (s.1 p) ∨ B (s.1 P1) = some (s.1 p) := by
    rcases a5 with x | x
    · exact Or.inl (c1.1 p x)
    · exact Or.inr (c1.2 p x)
  rw [hu] at u1
  have u2 : pr_sm (pr_e1 A B (s.1 p)) L + pr_rs (fun k => if O k = s.1 p then 1 else 0) 0 oc = 1 := u1
  have w1 := pr_sm_ge (w := pr_e1 A B (s.1 p)) (hL _ n1.1)
  have w2 := pr_e1_ge g1
  constructor
  · intro k hk' hO
    have := pr_rs_ge (f := fun k => if O k = s.1 p then 1 else 0) (lo := 0) (a := k) (by omega) (n := oc) (by omega)
    replace this : (if O k = s.1 p then 1 else 0) ≤ pr_rs (fun k => if O k = s.1 p then 1 else 0) 0 oc := this
    rw [if_pos hO] at this
    omega
  · intro y hy hr
    by_cases e : s.1 P1 = y
    · exact ⟨P1, a3, a4, e⟩
    · have := pr_sm_ge2 (w := pr_e1 A B (s.1 p)) e (hL _ n1.1) (hL _ hy)
      have := pr_e1_ge hr
      omega
end PMS
