/-! a tree by the depths of its nodes in their order -/
def tc_T (g : Nat → Nat) (C : Nat) : Prop := (0 < C → g 0 = 0) ∧ ∀ i, i + 1 < C → g (i + 1) ≤ g i + 1
/-- the last node before place c that lies above depth d -/
noncomputable def tc_up (g : Nat → Nat) (d c : Nat) : Nat := tc_la (fun j => g j < d) c
noncomputable def tc_pa (g : Nat → Nat) (i : Nat) : Nat := tc_up g (g i) i
def tc_U (g : Nat → Nat) (v w : Nat) : Prop := v ≤ w ∧ ∀ j, v < j → j ≤ w → g v < g j
theorem tc_gi {g : Nat → Nat} {C : Nat} (T : tc_T g C) : ∀ i, i < C → g i ≤ i := by
  intro i
  induction i with
  | zero => intro h; rw [T.1 h]; exact Nat.le_refl _
  | succ i ih =>
    intro h
    have a := ih (by omega)
    have b := T.2 i h
    omega
theorem tc_upS {g : Nat → Nat} {C c d : Nat} (T : tc_T g C) (hc : c ≤ C) (h0 : c = 0 → d = 0) (hd : ∀ i, c = i + 1 → d ≤ g i + 1) : (tc_up g d c = 0 ∧ d = 0) ∨ ∃ j, tc_up g d c = j + 1 ∧ j < c ∧ g j + 1 = d ∧ ∀ k, j < k → k < c → d ≤ g k := by
  rcases tc_laS (fun j => g j < d) c with ⟨e, n⟩ | ⟨j, e, l, y, n⟩
  · refine Or.inl ⟨e, ?_⟩
    by_cases z : c = 0
    · exact h0 z
    · have a : ¬ g 0 < d := n 0 (by omega)
      have b := T.1 (by omega)
      omega
  · have y' : g j < d := y
    have n' : ∀ k, j < k → k < c → d ≤ g k := fun k a b => by
      have m : ¬ g k < d := n k a b
      omega
    refine Or.inr ⟨j, e, l, ?_, n'⟩
    by_cases z : c = j + 1
    · have a := hd j z
      omega
    · have a := n' (j + 1) (by omega) (by omega)
      have b := T.2 j (by omega)
      omega
theorem tc_paS {g : Nat → Nat} {C i : Nat} (T : tc_T g C) (hi : i < C) : (tc_pa g i = 0 ∧ g i = 0) ∨ ∃ j, tc_pa g i = j + 1 ∧ j < i ∧ g j + 1 = g i ∧ ∀ k, j < k → k < i → g i ≤ g k :=
  tc_upS T (Nat.le_of_lt hi) (fun z => by rw [z]; exact T.1 (by omega)) (fun k e => by rw [e]; exact T.2 k (by omega))
theorem tc_paU {g : Nat → Nat} {i j : Nat} (hj : j < i) (h : g j < g i) (hn : ∀ k, j < k → k < i → g i ≤ g k) : tc_pa g i = j + 1 :=
  tc_laU hj h (fun k a b y => by
    have m := hn k a b
    have y' : g k < g i := y
    omega)
theorem tc_paL {g : Nat → Nat} {C i : Nat} (T : tc_T g C) (hi : i < C) : tc_pa g i ≤ i := by
  rcases tc_paS T hi with ⟨e, _⟩ | ⟨j, e, l, _⟩ <;> omega
/-- a child by its parent and by its depth -/
theorem tc_ch {g : Nat → Nat} {C v w : Nat} (T : tc_T g C) (hw : w < C) : tc_pa g w = v + 1 ↔ (v < w ∧ tc_U g v w ∧ g w = g v + 1) := by
  constructor
  · intro h
    rcases tc_paS T hw with ⟨e, _⟩ | ⟨j, e, l, y, n⟩
    · omega
    · have z : j = v := by omega
      subst z
      refine ⟨l, ⟨by omega, fun k a b => ?_⟩, by omega⟩
      by_cases x : k = w
      · rw [x]; omega
      · have m := n k a (by omega)
        omega
  · intro ⟨l, u, e⟩
    refine tc_paU l (by omega) (fun k a b => ?_)
    have m := u.2 k a (by omega)
    omega
theorem tc_Ur (g : Nat → Nat) (v : Nat) : tc_U g v v := ⟨Nat.le_refl _, fun j a b => by omega⟩
theorem tc_Ug {g : Nat → Nat} {v w : Nat} (h : tc_U g v w) : g v ≤ g w := by
  by_cases z : v = w
  · rw [z]; exact Nat.le_refl _
  · exact Nat.le_of_lt (h.2 w (by have := h.1; omega) (Nat.le_refl _))
/-- above w: at w itself, or above w's parent -/
theorem tc_Uup {g : Nat → Nat} {C v w j : Nat} (T : tc_T g C) (hw : w < C) (e : tc_pa g w = j + 1) (hv : w ≠ v) : tc_U g v w ↔ tc_U g v j := by
  rcases tc_paS T hw with ⟨e', _⟩ | ⟨j', e', l, y, n⟩
  · omega
  · have z : j' = j := by omega
    subst z
    constructor
    · intro h
      have h1 := h.1
      have a : v ≤ j' := by
        by_cases x : v ≤ j'
        · exact x
        · have m := n v (by omega) (by omega)
          have k := h.2 w (by omega) (Nat.le_refl _)
          omega
      exact ⟨a, fun i x y => h.2 i x (by omega)⟩
    · intro h
      have a := tc_Ug h
      refine ⟨by have := h.1; omega, fun i x z => ?_⟩
      by_cases b : i ≤ j'
      · exact h.2 i x b
      · by_cases c : i = w
        · rw [c]; omega
        · have m := n i (by omega) (by omega)
          omega
theorem tc_U0 {g : Nat → Nat} {C v w : Nat} (T : tc_T g C) (hw : w < C) (e : tc_pa g w = 0) (hv : w ≠ v) : ¬ tc_U g v w := by
  intro h
  rcases tc_paS T hw with ⟨_, y⟩ | ⟨j, e', _⟩
  · have m := h.2 w (by have := h.1; omega) (Nat.le_refl _)
    omega
  · omega
/-- the first past v -/
def tc_F (g : Nat → Nat) (C v r : Nat) : Prop := v < r ∧ r ≤ C ∧ (∀ w, v < w → w < r → g v < g w) ∧ (r < C → g r ≤ g v)
theorem tc_FU {g : Nat → Nat} {C v r w : Nat} (F : tc_F g C v r) (hw : w < C) : tc_U g v w ↔ (v ≤ w ∧ w < r) := by
  obtain ⟨f1, f2, f3, f4⟩ := F
  constructor
  · intro h
    refine ⟨h.1, ?_⟩
    by_cases z : w < r
    · exact z
    · have a := h.2 r f1 (by omega)
      have b := f4 (by omega)
      omega
  · intro h
    exact ⟨h.1, fun j a b => f3 j a (by omega)⟩
theorem tc_Fch {g : Nat → Nat} {C v r w : Nat} (T : tc_T g C) (F : tc_F g C v r) (hw : w < C) : tc_pa g w = v + 1 ↔ (v < w ∧ w < r ∧ g w = g v + 1) := by
  rw [tc_ch T hw, tc_FU F hw]
  constructor
  · intro ⟨a, b, c⟩; exact ⟨a, b.2, c⟩
  · intro ⟨a, b, c⟩; exact ⟨a, ⟨by omega, b⟩, c⟩
