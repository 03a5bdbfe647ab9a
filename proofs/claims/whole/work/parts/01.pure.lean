/-! numbers (the first four are rows of the kit to paste) -/
theorem pk_us {f : Nat → Int32} {k : Nat} {x : Int32} : upd f k x k = x := if_pos rfl
theorem pk_un {f : Nat → Int32} {k j : Nat} {x : Int32} (h : j ≠ k) : upd f k x j = f j := if_neg h
theorem pk_sub {a b : Nat} (h : b ≤ a) : nI a - nI b = nI (a - b) := by
  obtain ⟨c, rfl⟩ : ∃ c, a = c + b := ⟨a - b, by omega⟩
  rw [← nI_add, Int32.add_sub_cancel, Nat.add_sub_cancel]
theorem pk_m1 (n : Nat) : nI (n + 1) + (-1) = nI n := by
  rw [← nI_1, Int32.add_assoc, show (1 : Int32) + (-1) = 0 from rfl, Int32.add_zero]
/-- a node's number and one, or 0 for none: as the answers code it -/
def tc_e : Nat → Int32
  | 0 => -1
  | n + 1 => nI n
theorem tc_e0 : tc_e 0 < 0 := by decide +kernel
theorem tc_eP {n : Nat} (h : n < 2 ^ 31) : ¬ tc_e (n + 1) < 0 := nI_pos h
theorem tc_eM (n : Nat) : tc_e (n + 1) + (-1) = tc_e n := by
  cases n with
  | zero => decide +kernel
  | succ n => exact pk_m1 n
theorem tc_eS (n : Nat) : nI n - 1 = tc_e n := by
  cases n with
  | zero => decide +kernel
  | succ n => exact nI_pred n
theorem tc_eI {a b : Nat} (ha : a < 2 ^ 31) (hb : b < 2 ^ 31) : tc_e a = tc_e b ↔ a = b := by
  constructor
  · intro h
    cases a with
    | zero =>
      cases b with
      | zero => rfl
      | succ b => exact absurd (h ▸ tc_e0) (tc_eP (n := b) (by omega))
    | succ a =>
      cases b with
      | zero => exact absurd (h ▸ tc_e0) (tc_eP (n := a) (by omega))
      | succ b =>
        have h' : nI a = nI b := h
        rw [nI_eq (by omega) (by omega)] at h'
        rw [h']
  · intro h
    rw [h]
/-! the last, the first, the number of those below c -/
noncomputable def tc_la (q : Nat → Prop) : Nat → Nat
  | 0 => 0
  | c + 1 => @ite _ (q c) (Classical.propDecidable _) (c + 1) (tc_la q c)
theorem tc_laT {q : Nat → Prop} {c : Nat} (h : q c) : tc_la q (c + 1) = c + 1 := if_pos h
theorem tc_laF {q : Nat → Prop} {c : Nat} (h : ¬ q c) : tc_la q (c + 1) = tc_la q c := if_neg h
theorem tc_laS (q : Nat → Prop) : ∀ c, (tc_la q c = 0 ∧ ∀ j, j < c → ¬ q j) ∨ (∃ j, tc_la q c = j + 1 ∧ j < c ∧ q j ∧ ∀ i, j < i → i < c → ¬ q i) := by
  intro c
  induction c with
  | zero => exact Or.inl ⟨rfl, fun j h => absurd h (by omega)⟩
  | succ c ih =>
    by_cases h : q c
    · exact Or.inr ⟨c, tc_laT h, by omega, h, fun i a b => absurd a (by omega)⟩
    · rw [tc_laF h]
      rcases ih with ⟨e, n⟩ | ⟨j, e, l, y, n⟩
      · refine Or.inl ⟨e, fun j hj => ?_⟩
        by_cases z : j = c
        · rw [z]; exact h
        · exact n j (by omega)
      · refine Or.inr ⟨j, e, by omega, y, fun i a b => ?_⟩
        by_cases z : i = c
        · rw [z]; exact h
        · exact n i a (by omega)
theorem tc_la0 {q : Nat → Prop} {c : Nat} (h : ∀ j, j < c → ¬ q j) : tc_la q c = 0 := by
  rcases tc_laS q c with ⟨e, _⟩ | ⟨j, _, l, y, _⟩
  · exact e
  · exact absurd y (h j l)
theorem tc_laU {q : Nat → Prop} {c j : Nat} (hj : j < c) (h : q j) (hn : ∀ i, j < i → i < c → ¬ q i) : tc_la q c = j + 1 := by
  rcases tc_laS q c with ⟨_, n⟩ | ⟨i, e, l, y, n⟩
  · exact absurd h (n j hj)
  · rw [e]
    by_cases a : i < j
    · exact absurd h (n j a hj)
    · by_cases b : j < i
      · exact absurd y (hn i b l)
      · omega
noncomputable def tc_fi (q : Nat → Prop) : Nat → Nat
  | 0 => 0
  | c + 1 => if tc_fi q c = 0 then @ite _ (q c) (Classical.propDecidable _) (c + 1) 0 else tc_fi q c
theorem tc_fi0 {q : Nat → Prop} : ∀ {c : Nat}, (∀ j, j < c → ¬ q j) → tc_fi q c = 0 := by
  intro c
  induction c with
  | zero => intro _; rfl
  | succ c ih =>
    intro h
    have e := ih (fun j hj => h j (by omega))
    have f : tc_fi q (c + 1) = @ite _ (q c) (Classical.propDecidable _) (c + 1) 0 := if_pos e
    rw [f]
    exact if_neg (h c (by omega))
theorem tc_fiU {q : Nat → Prop} {j : Nat} (h : q j) (hn : ∀ i, i < j → ¬ q i) : ∀ {c : Nat}, j < c → tc_fi q c = j + 1 := by
  intro c
  induction c with
  | zero => intro a; omega
  | succ c ih =>
    intro a
    by_cases z : j < c
    · have e := ih z
      have f : tc_fi q (c + 1) = tc_fi q c := if_neg (by omega)
      rw [f, e]
    · have z' : j = c := by omega
      subst z'
      have e : tc_fi q j = 0 := tc_fi0 hn
      have f : tc_fi q (j + 1) = @ite _ (q j) (Classical.propDecidable _) (j + 1) 0 := if_pos e
      rw [f]
      exact if_pos h
noncomputable def tc_cn (q : Nat → Prop) : Nat → Nat
  | 0 => 0
  | c + 1 => @ite _ (q c) (Classical.propDecidable _) (tc_cn q c + 1) (tc_cn q c)
theorem tc_cnT {q : Nat → Prop} {c : Nat} (h : q c) : tc_cn q (c + 1) = tc_cn q c + 1 := if_pos h
theorem tc_cnF {q : Nat → Prop} {c : Nat} (h : ¬ q c) : tc_cn q (c + 1) = tc_cn q c := if_neg h
theorem tc_cnL (q : Nat → Prop) : ∀ c, tc_cn q c ≤ c := by
  intro c
  induction c with
  | zero => exact Nat.le_refl _
  | succ c ih =>
    by_cases h : q c
    · rw [tc_cnT h]; omega
    · rw [tc_cnF h]; omega
theorem tc_cnE {q : Nat → Prop} {a : Nat} : ∀ {c : Nat}, a ≤ c → (∀ j, a ≤ j → j < c → ¬ q j) → tc_cn q c = tc_cn q a := by
  intro c
  induction c with
  | zero =>
    intro h _
    have e : a = 0 := by omega
    rw [e]
  | succ c ih =>
    intro h n
    by_cases z : a = c + 1
    · rw [z]
    · rw [tc_cnF (n c (by omega) (by omega))]
      exact ih (by omega) (fun j x y => n j x (by omega))
theorem tc_cn0 {q : Nat → Prop} {c : Nat} (h : ∀ j, j < c → ¬ q j) : tc_cn q c = 0 :=
  tc_cnE (a := 0) (Nat.zero_le c) (fun j _ y => h j y)
theorem tc_cnP {q : Nat → Prop} {j : Nat} (h : q j) : ∀ {c : Nat}, j < c → tc_cn q c ≠ 0 := by
  intro c
  induction c with
  | zero => intro a; omega
  | succ c ih =>
    intro a
    by_cases z : q c
    · rw [tc_cnT z]; omega
    · rw [tc_cnF z]
      refine ih ?_
      by_cases y : j = c
      · rw [y] at h; exact absurd h z
      · omega
/-- the number of those from a on that hold, by steps -/
theorem tc_cnI {q : Nat → Prop} {v r : Nat} (h : ∀ j, j < r → (q j ↔ v ≤ j)) (hv : v ≤ r) : tc_cn q r = r - v := by
  induction r with
  | zero => rw [show tc_cn q 0 = 0 from rfl]; omega
  | succ r ih =>
    by_cases z : v = r + 1
    · rw [tc_cn0 (fun j hj y => by have := (h j hj).mp y; omega)]; omega
    · have k : q r := (h r (by omega)).mpr (by omega)
      rw [tc_cnT k, ih (fun j hj => h j (by omega)) (by omega)]
      omega
