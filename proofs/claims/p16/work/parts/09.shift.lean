/-! the live list under a renaming of the nodes; its weight -/
section SHF
variable {T : Nat → Prop} {A B A' B' : Nat → Option Nat} {φ : Nat → Nat}
theorem po_map (hφ : ∀ x y, φ x = φ y → x = y) (hT : ∀ n c, T n → (A n = some c ∨ B n = some c) → T c) (hA : ∀ n, T n → A' (φ n) = (A n).map φ ∧ B' (φ n) = (B n).map φ) :
    ∀ f n (L : List Nat), T n → pr_po A' B' f (φ n) (L.map φ) = (pr_po A B f n L).map φ := by
  have hoc : ∀ (g g' : Nat → List Nat → List Nat) (o : Option Nat) (L : List Nat), (∀ c, o = some c → ∀ L : List Nat, g' (φ c) (L.map φ) = (g c L).map φ) → pr_oc g' (o.map φ) (L.map φ) = (pr_oc g o L).map φ := by
    intro g g' o L h
    cases o with
    | none => rfl
    | some c => exact h c rfl L
  intro f
  induction f with
  | zero =>
    intro n L _
    rfl
  | succ f ih =>
    intro n L tn
    have hm : φ n ∈ L.map φ ↔ n ∈ L := by
      rw [List.mem_map]
      constructor
      · rintro ⟨x, h1, h2⟩
        rw [← hφ _ _ h2]
        exact h1
      · intro h
        exact ⟨n, h, rfl⟩
    show (if φ n ∈ L.map φ then L.map φ else pr_oc (pr_po A' B' f) (B' (φ n)) (pr_oc (pr_po A' B' f) (A' (φ n)) (L.map φ)) ++ [φ n]) = (if n ∈ L then L else pr_oc (pr_po A B f) (B n) (pr_oc (pr_po A B f) (A n) L) ++ [n]).map φ
    by_cases h : n ∈ L
    · rw [if_pos h, if_pos (hm.mpr h)]
    · rw [if_neg h, if_neg (fun hh => h (hm.mp hh)), (hA n tn).1, (hA n tn).2, hoc (pr_po A B f) (pr_po A' B' f) (A n) L (fun c hc L => ih c L (hT n c tn (Or.inl hc))), hoc (pr_po A B f) (pr_po A' B' f) (B n) _ (fun c hc L => ih c L (hT n c tn (Or.inr hc))), List.map_append]
      rfl
theorem lv_map {O O' : Nat → Nat} {ob ob' : Nat} (hφ : ∀ x y, φ x = φ y → x = y) (hT : ∀ n c, T n → (A n = some c ∨ B n = some c) → T c) (hA : ∀ n, T n → A' (φ n) = (A n).map φ ∧ B' (φ n) = (B n).map φ) :
    ∀ k, (∀ i, i < k → T (O (ob + i)) ∧ O' (ob' + i) = φ (O (ob + i))) → pr_lv A' B' O' ob' k = (pr_lv A B O ob k).map φ
  | 0, _ => rfl
  | k + 1, h => by
    show pr_po A' B' 32 (O' (ob' + k)) (pr_lv A' B' O' ob' k) = (pr_po A B 32 (O (ob + k)) (pr_lv A B O ob k)).map φ
    rw [(h k (by omega)).2, lv_map hφ hT hA k (fun i hi => h i (by omega))]
    exact po_map hφ hT hA 32 _ _ (h k (by omega)).1
end SHF
theorem sm_map {w : Nat → Nat} {φ : Nat → Nat} : ∀ L : List Nat, pr_sm w (L.map φ) = pr_sm (fun x => w (φ x)) L
  | [] => rfl
  | x :: L => by
    show w (φ x) + pr_sm w (L.map φ) = w (φ x) + pr_sm (fun x => w (φ x)) L
    rw [sm_map L]
theorem sm_congr {w w' : Nat → Nat} : ∀ L : List Nat, (∀ x, x ∈ L → w x = w' x) → pr_sm w L = pr_sm w' L
  | [], _ => rfl
  | x :: L, h => by
    show w x + pr_sm w L = w' x + pr_sm w' L
    rw [h x (List.mem_cons_self ..), sm_congr L (fun y hy => h y (List.mem_cons_of_mem _ hy))]
/-- where all nodes are live, the live weight is the weight of all -/
theorem sm_W {K : Nat → Nat} {L : List Nat} (nd : L.Nodup) (hL : ∀ x, x ∈ L ↔ pr_T 0 K x) : pr_sm (fun s => pr_w (K s)) L = pr_W K := by
  have e := pr_rs_list (w := fun s => pr_w (K s)) (lo := 0) (n := 32) nd (fun x hx => ⟨((hL x).mp hx).1, ((hL x).mp hx).2.1⟩)
  rw [← e]
  refine pr_rs_congr fun x _ hx => ?_
  show (if x ∈ L then pr_w (K x) else 0) = pr_w (K x)
  by_cases h : x ∈ L
  · rw [if_pos h]
  · rw [if_neg h]
    by_cases hK : K x = 0
    · rw [hK, pr_w_0 (Or.inl rfl)]
    · exact absurd ((hL x).mpr ⟨by omega, by omega, hK⟩) h
