section
/-! numbers (the first four are rows of the kit to paste) -/
theorem pk_us {f : Nat → Int32} {k : Nat} {x : Int32} : upd f k x k = x := if_pos rfl
theorem pk_un {f : Nat → Int32} {k j : Nat} {x : Int32} (h : j ≠ k) : upd f k x j = f j := if_neg h
theorem pk_sub {a b : Nat} (h : b ≤ a) : nI a - nI b = nI (a - b) := by
  obtain ⟨c, rfl⟩ : ∃ c, a = c + b := ⟨a - b, by omega⟩
  rw [← nI_add, Int32.add_sub_cancel, Nat.add_sub_cancel]
theorem pk_m1 (n : Nat) : nI (n + 1) + (-1) = nI n := by
  rw [← nI_1, Int32.add_assoc, show (1 : Int32) + (-1) = 0 from rfl, Int32.add_zero]
/-- a node's number and one, or 0 for none: as the answers code it -/
def tc_e : Nat → Int32
  | 0 => -1
  | n + 1 => nI n
theorem tc_e0 : tc_e 0 < 0 := by decide +kernel
theorem tc_eP {n : Nat} (h : n < 2 ^ 31) : ¬ tc_e (n + 1) < 0 := nI_pos h
theorem tc_eM (n : Nat) : tc_e (n + 1) + (-1) = tc_e n := by
  cases n with
  | zero => decide +kernel
  | succ n => exact pk_m1 n
theorem tc_eS (n : Nat) : nI n - 1 = tc_e n := by
  cases n with
  | zero => decide +kernel
  | succ n => exact nI_pred n
theorem tc_eI {a b : Nat} (ha : a < 2 ^ 31) (hb : b < 2 ^ 31) : tc_e a = tc_e b ↔ a = b := by
  constructor
  · intro h
    cases a with
    | zero =>
      cases b with
      | zero => rfl
      | succ b => exact absurd (h ▸ tc_e0) (tc_eP (n := b) (by omega))
    | succ a =>
      cases b with
      | zero => exact absurd (h ▸ tc_e0) (tc_eP (n := a) (by omega))
      | succ b =>
        have h' : nI a = nI b := h
        rw [nI_eq (by omega) (by omega)] at h'
        rw [h']
  · intro h
    rw [h]
/-! the last, the first, the number of those below c -/
noncomputable def tc_la (q : Nat → Prop) : Nat → Nat
  | 0 => 0
  | c + 1 => @ite _ (q c) (Classical.propDecidable _) (c + 1) (tc_la q c)
theorem tc_laT {q : Nat → Prop} {c : Nat} (h : q c) : tc_la q (c + 1) = c + 1 := if_pos h
theorem tc_laF {q : Nat → Prop} {c : Nat} (h : ¬ q c) : tc_la q (c + 1) = tc_la q c := if_neg h
theorem tc_laS (q : Nat → Prop) : ∀ c, (tc_la q c = 0 ∧ ∀ j, j < c → ¬ q j) ∨ (∃ j, tc_la q c = j + 1 ∧ j < c ∧ q j ∧ ∀ i, j < i → i < c → ¬ q i) := by
  intro c
  induction c with
  | zero => exact Or.inl ⟨rfl, fun j h => absurd h (by omega)⟩
  | succ c ih =>
    by_cases h : q c
    · exact Or.inr ⟨c, tc_laT h, by omega, h, fun i a b => absurd a (by omega)⟩
    · rw [tc_laF h]
      rcases ih with ⟨e, n⟩ | ⟨j, e, l, y, n⟩
      · refine Or.inl ⟨e, fun j hj => ?_⟩
        by_cases z : j = c
        · rw [z]; exact h
        · exact n j (by omega)
      · refine Or.inr ⟨j, e, by omega, y, fun i a b => ?_⟩
        by_cases z : i = c
        · rw [z]; exact h
        · exact n i a (by omega)
theorem tc_la0 {q : Nat → Prop} {c : Nat} (h : ∀ j, j < c → ¬ q j) : tc_la q c = 0 := by
  rcases tc_laS q c with ⟨e, _⟩ | ⟨j, _, l, y, _⟩
  · exact e
  · exact absurd y (h j l)
theorem tc_laU {q : Nat → Prop} {c j : Nat} (hj : j < c) (h : q j) (hn : ∀ i, j < i → i < c → ¬ q i) : tc_la q c = j + 1 := by
  rcases tc_laS q c with ⟨_, n⟩ | ⟨i, e, l, y, n⟩
  · exact absurd h (n j hj)
  · rw [e]
    by_cases a : i < j
    · exact absurd h (n j a hj)
    · by_cases b : j < i
      · exact absurd y (hn i b l)
      · omega
noncomputable def tc_fi (q : Nat → Prop) : Nat → Nat
  | 0 => 0
  | c + 1 => if tc_fi q c = 0 then @ite _ (q c) (Classical.propDecidable _) (c + 1) 0 else tc_fi q c
theorem tc_fi0 {q : Nat → Prop} : ∀ {c : Nat}, (∀ j, j < c → ¬ q j) → tc_fi q c = 0 := by
  intro c
  induction c with
  | zero => intro _; rfl
  | succ c ih =>
    intro h
    have e := ih (fun j hj => h j (by omega))
    have f : tc_fi q (c + 1) = @ite _ (q c) (Classical.propDecidable _) (c + 1) 0 := if_pos e
    rw [f]
    exact if_neg (h c (by omega))
theorem tc_fiU {q : Nat → Prop} {j : Nat} (h : q j) (hn : ∀ i, i < j → ¬ q i) : ∀ {c : Nat}, j < c → tc_fi q c = j + 1 := by
  intro c
  induction c with
  | zero => intro a; omega
  | succ c ih =>
    intro a
    by_cases z : j < c
    · have e := ih z
      have f : tc_fi q (c + 1) = tc_fi q c := if_neg (by omega)
      rw [f, e]
    · have z' : j = c := by omega
      subst z'
      have e : tc_fi q j = 0 := tc_fi0 hn
      have f : tc_fi q (j + 1) = @ite _ (q j) (Classical.propDecidable _) (j + 1) 0 := if_pos e
      rw [f]
      exact if_pos h
noncomputable def tc_cn (q : Nat → Prop) : Nat → Nat
  | 0 => 0
  | c + 1 => @ite _ (q c) (Classical.propDecidable _) (tc_cn q c + 1) (tc_cn q c)
theorem tc_cnT {q : Nat → Prop} {c : Nat} (h : q c) : tc_cn q (c + 1) = tc_cn q c + 1 := if_pos h
theorem tc_cnF {q : Nat → Prop} {c : Nat} (h : ¬ q c) : tc_cn q (c + 1) = tc_cn q c := if_neg h
theorem tc_cnL (q : Nat → Prop) : ∀ c, tc_cn q c ≤ c := by
  intro c
  induction c with
  | zero => exact Nat.le_refl _
  | succ c ih =>
    by_cases h : q c
    · rw [tc_cnT h]; omega
    · rw [tc_cnF h]; omega
theorem tc_cnE {q : Nat → Prop} {a : Nat} : ∀ {c : Nat}, a ≤ c → (∀ j, a ≤ j → j < c → ¬ q j) → tc_cn q c = tc_cn q a := by
  intro c
  induction c with
  | zero =>
    intro h _
    have e : a = 0 := by omega
    rw [e]
  | succ c ih =>
    intro h n
    by_cases z : a = c + 1
    · rw [z]
    · rw [tc_cnF (n c (by omega) (by omega))]
      exact ih (by omega) (fun j x y => n j x (by omega))
theorem tc_cn0 {q : Nat → Prop} {c : Nat} (h : ∀ j, j < c → ¬ q j) : tc_cn q c = 0 :=
  tc_cnE (a := 0) (Nat.zero_le c) (fun j _ y => h j y)
theorem tc_cnP {q : Nat → Prop} {j : Nat} (h : q j) : ∀ {c : Nat}, j < c → tc_cn q c ≠ 0 := by
  intro c
  induction c with
  | zero => intro a; omega
  | succ c ih =>
    intro a
    by_cases z : q c
    · rw [tc_cnT z]; omega
    · rw [tc_cnF z]
      refine ih ?_
      by_cases y : j = c
      · rw [y] at h; exact absurd h z
      · omega
/-- the number of those from a on that hold, by steps -/
theorem tc_cnI {q : Nat → Prop} {v r : Nat} (h : ∀ j, j < r → (q j ↔ v ≤ j)) (hv : v ≤ r) : tc_cn q r = r - v := by
  induction r with
  | zero => rw [show tc_cn q 0 = 0 from rfl]; omega
  | succ r ih =>
    by_cases z : v = r + 1
    · rw [tc_cn0 (fun j hj y => by have := (h j hj).mp y; omega)]; omega
    · have k : q r := (h r (by omega)).mpr (by omega)
      rw [tc_cnT k, ih (fun j hj => h j (by omega)) (by omega)]
      omega
end
section
/-! a tree by the depths of its nodes in their order -/
def tc_T (g : Nat → Nat) (C : Nat) : Prop := (0 < C → g 0 = 0) ∧ ∀ i, i + 1 < C → g (i + 1) ≤ g i + 1
/-- the last node before place c that lies above depth d -/
noncomputable def tc_up (g : Nat → Nat) (d c : Nat) : Nat := tc_la (fun j => g j < d) c
noncomputable def tc_pa (g : Nat → Nat) (i : Nat) : Nat := tc_up g (g i) i
def tc_U (g : Nat → Nat) (v w : Nat) : Prop := v ≤ w ∧ ∀ j, v < j → j ≤ w → g v < g j
theorem tc_gi {g : Nat → Nat} {C : Nat} (T : tc_T g C) : ∀ i, i < C → g i ≤ i := by
  intro i
  induction i with
  | zero => intro h; rw [T.1 h]; exact Nat.le_refl _
  | succ i ih =>
    intro h
    have a := ih (by omega)
    have b := T.2 i h
    omega
theorem tc_upS {g : Nat → Nat} {C c d : Nat} (T : tc_T g C) (hc : c ≤ C) (h0 : c = 0 → d = 0) (hd : ∀ i, c = i + 1 → d ≤ g i + 1) : (tc_up g d c = 0 ∧ d = 0) ∨ ∃ j, tc_up g d c = j + 1 ∧ j < c ∧ g j + 1 = d ∧ ∀ k, j < k → k < c → d ≤ g k := by
  rcases tc_laS (fun j => g j < d) c with ⟨e, n⟩ | ⟨j, e, l, y, n⟩
  · refine Or.inl ⟨e, ?_⟩
    by_cases z : c = 0
    · exact h0 z
    · have a : ¬ g 0 < d := n 0 (by omega)
      have b := T.1 (by omega)
      omega
  · have y' : g j < d := y
    have n' : ∀ k, j < k → k < c → d ≤ g k := fun k a b => by
      have m : ¬ g k < d := n k a b
      omega
    refine Or.inr ⟨j, e, l, ?_, n'⟩
    by_cases z : c = j + 1
    · have a := hd j z
      omega
    · have a := n' (j + 1) (by omega) (by omega)
      have b := T.2 j (by omega)
      omega
theorem tc_paS {g : Nat → Nat} {C i : Nat} (T : tc_T g C) (hi : i < C) : (tc_pa g i = 0 ∧ g i = 0) ∨ ∃ j, tc_pa g i = j + 1 ∧ j < i ∧ g j + 1 = g i ∧ ∀ k, j < k → k < i → g i ≤ g k :=
  tc_upS T (Nat.le_of_lt hi) (fun z => by rw [z]; exact T.1 (by omega)) (fun k e => by rw [e]; exact T.2 k (by omega))
theorem tc_paU {g : Nat → Nat} {i j : Nat} (hj : j < i) (h : g j < g i) (hn : ∀ k, j < k → k < i → g i ≤ g k) : tc_pa g i = j + 1 :=
  tc_laU hj h (fun k a b y => by
    have m := hn k a b
    have y' : g k < g i := y
    omega)
theorem tc_paL {g : Nat → Nat} {C i : Nat} (T : tc_T g C) (hi : i < C) : tc_pa g i ≤ i := by
  rcases tc_paS T hi with ⟨e, _⟩ | ⟨j, e, l, _⟩ <;> omega
/-- a child by its parent and by its depth -/
theorem tc_ch {g : Nat → Nat} {C v w : Nat} (T : tc_T g C) (hw : w < C) : tc_pa g w = v + 1 ↔ (v < w ∧ tc_U g v w ∧ g w = g v + 1) := by
  constructor
  · intro h
    rcases tc_paS T hw with ⟨e, _⟩ | ⟨j, e, l, y, n⟩
    · omega
    · have z : j = v := by omega
      subst z
      refine ⟨l, ⟨by omega, fun k a b => ?_⟩, by omega⟩
      by_cases x : k = w
      · rw [x]; omega
      · have m := n k a (by omega)
        omega
  · intro ⟨l, u, e⟩
    refine tc_paU l (by omega) (fun k a b => ?_)
    have m := u.2 k a (by omega)
    omega
theorem tc_Ur (g : Nat → Nat) (v : Nat) : tc_U g v v := ⟨Nat.le_refl _, fun j a b => by omega⟩
theorem tc_Ug {g : Nat → Nat} {v w : Nat} (h : tc_U g v w) : g v ≤ g w := by
  by_cases z : v = w
  · rw [z]; exact Nat.le_refl _
  · exact Nat.le_of_lt (h.2 w (by have := h.1; omega) (Nat.le_refl _))
/-- above w: at w itself, or above w's parent -/
theorem tc_Uup {g : Nat → Nat} {C v w j : Nat} (T : tc_T g C) (hw : w < C) (e : tc_pa g w = j + 1) (hv : w ≠ v) : tc_U g v w ↔ tc_U g v j := by
  rcases tc_paS T hw with ⟨e', _⟩ | ⟨j', e', l, y, n⟩
  · omega
  · have z : j' = j := by omega
    subst z
    constructor
    · intro h
      have h1 := h.1
      have a : v ≤ j' := by
        by_cases x : v ≤ j'
        · exact x
        · have m := n v (by omega) (by omega)
          have k := h.2 w (by omega) (Nat.le_refl _)
          omega
      exact ⟨a, fun i x y => h.2 i x (by omega)⟩
    · intro h
      have a := tc_Ug h
      refine ⟨by have := h.1; omega, fun i x z => ?_⟩
      by_cases b : i ≤ j'
      · exact h.2 i x b
      · by_cases c : i = w
        · rw [c]; omega
        · have m := n i (by omega) (by omega)
          omega
theorem tc_U0 {g : Nat → Nat} {C v w : Nat} (T : tc_T g C) (hw : w < C) (e : tc_pa g w = 0) (hv : w ≠ v) : ¬ tc_U g v w := by
  intro h
  rcases tc_paS T hw with ⟨_, y⟩ | ⟨j, e', _⟩
  · have m := h.2 w (by have := h.1; omega) (Nat.le_refl _)
    omega
  · omega
/-- the first past v -/
def tc_F (g : Nat → Nat) (C v r : Nat) : Prop := v < r ∧ r ≤ C ∧ (∀ w, v < w → w < r → g v < g w) ∧ (r < C → g r ≤ g v)
theorem tc_FU {g : Nat → Nat} {C v r w : Nat} (F : tc_F g C v r) (hw : w < C) : tc_U g v w ↔ (v ≤ w ∧ w < r) := by
  obtain ⟨f1, f2, f3, f4⟩ := F
  constructor
  · intro h
    refine ⟨h.1, ?_⟩
    by_cases z : w < r
    · exact z
    · have a := h.2 r f1 (by omega)
      have b := f4 (by omega)
      omega
  · intro h
    exact ⟨h.1, fun j a b => f3 j a (by omega)⟩
theorem tc_Fch {g : Nat → Nat} {C v r w : Nat} (T : tc_T g C) (F : tc_F g C v r) (hw : w < C) : tc_pa g w = v + 1 ↔ (v < w ∧ w < r ∧ g w = g v + 1) := by
  rw [tc_ch T hw, tc_FU F hw]
  constructor
  · intro ⟨a, b, c⟩; exact ⟨a, b.2, c⟩
  · intro ⟨a, b, c⟩; exact ⟨a, ⟨by omega, b⟩, c⟩
end
