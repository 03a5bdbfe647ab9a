section
/-! numbers (the first four are rows of the kit to paste) -/
theorem pk_us {f : Nat → Int32} {k : Nat} {x : Int32} : upd f k x k = x := if_pos rfl
theorem pk_un {f : Nat → Int32} {k j : Nat} {x : Int32} (h : j ≠ k) : upd f k x j = f j := if_neg h
theorem pk_sub {a b : Nat} (h : b ≤ a) : nI a - nI b = nI (a - b) := by
  obtain ⟨c, rfl⟩ : ∃ c, a = c + b := ⟨a - b, by omega⟩
  rw [← nI_add, Int32.add_sub_cancel, Nat.add_sub_cancel]
theorem pk_m1 (n : Nat) : nI (n + 1) + (-1) = nI n := by
  rw [← nI_1, Int32.add_assoc, show (1 : Int32) + (-1) = 0 from rfl, Int32.add_zero]
/-- a node's number and one, or 0 for none: as the answers code it -/
def tc_e : Nat → Int32
  | 0 => -1
  | n + 1 => nI n
theorem tc_e0 : tc_e 0 < 0 := by decide +kernel
theorem tc_eP {n : Nat} (h : n < 2 ^ 31) : ¬ tc_e (n + 1) < 0 := nI_pos h
theorem tc_eM (n : Nat) : tc_e (n + 1) + (-1) = tc_e n := by
  cases n with
  | zero => decide +kernel
  | succ n => exact pk_m1 n
theorem tc_eS (n : Nat) : nI n - 1 = tc_e n := by
  cases n with
  | zero => decide +kernel
  | succ n => exact nI_pred n
theorem tc_eI {a b : Nat} (ha : a < 2 ^ 31) (hb : b < 2 ^ 31) : tc_e a = tc_e b ↔ a = b := by
  constructor
  · intro h
    cases a with
    | zero =>
      cases b with
      | zero => rfl
      | succ b => exact absurd (h ▸ tc_e0) (tc_eP (n := b) (by omega))
    | succ a =>
      cases b with
      | zero => exact absurd (h ▸ tc_e0) (tc_eP (n := a) (by omega))
      | succ b =>
        have h' : nI a = nI b := h
        rw [nI_eq (by omega) (by omega)] at h'
        rw [h']
  · intro h
    rw [h]
/-! the last, the first, the number of those below c -/
noncomputable def tc_la (q : Nat → Prop) : Nat → Nat
  | 0 => 0
  | c + 1 => @ite _ (q c) (Classical.propDecidable _) (c + 1) (tc_la q c)
theorem tc_laT {q : Nat → Prop} {c : Nat} (h : q c) : tc_la q (c + 1) = c + 1 := if_pos h
theorem tc_laF {q : Nat → Prop} {c : Nat} (h : ¬ q c) : tc_la q (c + 1) = tc_la q c := if_neg h
theorem tc_laS (q : Nat → Prop) : ∀ c, (tc_la q c = 0 ∧ ∀ j, j < c → ¬ q j) ∨ (∃ j, tc_la q c = j + 1 ∧ j < c ∧ q j ∧ ∀ i, j < i → i < c → ¬ q i) := by
  intro c
  induction c with
  | zero => exact Or.inl ⟨rfl, fun j h => absurd h (by omega)⟩
  | succ c ih =>
    by_cases h : q c
    · exact Or.inr ⟨c, tc_laT h, by omega, h, fun i a b => absurd a (by omega)⟩
    · rw [tc_laF h]
      rcases ih with ⟨e, n⟩ | ⟨j, e, l, y, n⟩
      · refine Or.inl ⟨e, fun j hj => ?_⟩
        by_cases z : j = c
        · rw [z]; exact h
        · exact n j (by omega)
      · refine Or.inr ⟨j, e, by omega, y, fun i a b => ?_⟩
        by_cases z : i = c
        · rw [z]; exact h
        · exact n i a (by omega)
theorem tc_la0 {q : Nat → Prop} {c : Nat} (h : ∀ j, j < c → ¬ q j) : tc_la q c = 0 := by
  rcases tc_laS q c with ⟨e, _⟩ | ⟨j, _, l, y, _⟩
  · exact e
  · exact absurd y (h j l)
theorem tc_laU {q : Nat → Prop} {c j : Nat} (hj : j < c) (h : q j) (hn : ∀ i, j < i → i < c → ¬ q i) : tc_la q c = j + 1 := by
  rcases tc_laS q c with ⟨_, n⟩ | ⟨i, e, l, y, n⟩
  · exact absurd h (n j hj)
  · rw [e]
    by_cases a : i < j
    · exact absurd h (n j a hj)
    · by_cases b : j < i
      · exact absurd y (hn i b l)
      · omega
noncomputable def tc_fi (q : Nat → Prop) : Nat → Nat
  | 0 => 0
  | c + 1 => if tc_fi q c = 0 then @ite _ (q c) (Classical.propDecidable _) (c + 1) 0 else tc_fi q c
theorem tc_fi0 {q : Nat → Prop} : ∀ {c : Nat}, (∀ j, j < c → ¬ q j) → tc_fi q c = 0 := by
  intro c
  induction c with
  | zero => intro _; rfl
  | succ c ih =>
    intro h
    have e := ih (fun j hj => h j (by omega))
    have f : tc_fi q (c + 1) = @ite _ (q c) (Classical.propDecidable _) (c + 1) 0 := if_pos e
    rw [f]
    exact if_neg (h c (by omega))
theorem tc_fiU {q : Nat → Prop} {j : Nat} (h : q j) (hn : ∀ i, i < j → ¬ q i) : ∀ {c : Nat}, j < c → tc_fi q c = j + 1 := by
  intro c
  induction c with
  | zero => intro a; omega
  | succ c ih =>
    intro a
    by_cases z : j < c
    · have e := ih z
      have f : tc_fi q (c + 1) = tc_fi q c := if_neg (by omega)
      rw [f, e]
    · have z' : j = c := by omega
      subst z'
      have e : tc_fi q j = 0 := tc_fi0 hn
      have f : tc_fi q (j + 1) = @ite _ (q j) (Classical.propDecidable _) (j + 1) 0 := if_pos e
      rw [f]
      exact if_pos h
noncomputable def tc_cn (q : Nat → Prop) : Nat → Nat
  | 0 => 0
  | c + 1 => @ite _ (q c) (Classical.propDecidable _) (tc_cn q c + 1) (tc_cn q c)
theorem tc_cnT {q : Nat → Prop} {c : Nat} (h : q c) : tc_cn q (c + 1) = tc_cn q c + 1 := if_pos h
theorem tc_cnF {q : Nat → Prop} {c : Nat} (h : ¬ q c) : tc_cn q (c + 1) = tc_cn q c := if_neg h
theorem tc_cnL (q : Nat → Prop) : ∀ c, tc_cn q c ≤ c := by
  intro c
  induction c with
  | zero => exact Nat.le_refl _
  | succ c ih =>
    by_cases h : q c
    · rw [tc_cnT h]; omega
    · rw [tc_cnF h]; omega
theorem tc_cnE {q : Nat → Prop} {a : Nat} : ∀ {c : Nat}, a ≤ c → (∀ j, a ≤ j → j < c → ¬ q j) → tc_cn q c = tc_cn q a := by
  intro c
  induction c with
  | zero =>
    intro h _
    have e : a = 0 := by omega
    rw [e]
  | succ c ih =>
    intro h n
    by_cases z : a = c + 1
    · rw [z]
    · rw [tc_cnF (n c (by omega) (by omega))]
      exact ih (by omega) (fun j x y => n j x (by omega))
theorem tc_cn0 {q : Nat → Prop} {c : Nat} (h : ∀ j, j < c → ¬ q j) : tc_cn q c = 0 :=
  tc_cnE (a := 0) (Nat.zero_le c) (fun j _ y => h j y)
theorem tc_cnP {q : Nat → Prop} {j : Nat} (h : q j) : ∀ {c : Nat}, j < c → tc_cn q c ≠ 0 := by
  intro c
  induction c with
  | zero => intro a; omega
  | succ c ih =>
    intro a
    by_cases z : q c
    · rw [tc_cnT z]; omega
    · rw [tc_cnF z]
      refine ih ?_
      by_cases y : j = c
      · rw [y] at h; exact absurd h z
      · omega
/-- the number of those from a on that hold, by steps -/
theorem tc_cnI {q : Nat → Prop} {v r : Nat} (h : ∀ j, j < r → (q j ↔ v ≤ j)) (hv : v ≤ r) : tc_cn q r = r - v := by
  induction r with
  | zero => rw [show tc_cn q 0 = 0 from rfl]; omega
  | succ r ih =>
    by_cases z : v = r + 1
    · rw [tc_cn0 (fun j hj y => by have := (h j hj).mp y; omega)]; omega
    · have k : q r := (h r (by omega)).mpr (by omega)
      rw [tc_cnT k, ih (fun j hj => h j (by omega)) (by omega)]
      omega
end
section
/-! a tree by the depths of its nodes in their order -/
def tc_T (g : Nat → Nat) (C : Nat) : Prop := (0 < C → g 0 = 0) ∧ ∀ i, i + 1 < C → g (i + 1) ≤ g i + 1
/-- the last node before place c that lies above depth d -/
noncomputable def tc_up (g : Nat → Nat) (d c : Nat) : Nat := tc_la (fun j => g j < d) c
noncomputable def tc_pa (g : Nat → Nat) (i : Nat) : Nat := tc_up g (g i) i
def tc_U (g : Nat → Nat) (v w : Nat) : Prop := v ≤ w ∧ ∀ j, v < j → j ≤ w → g v < g j
theorem tc_gi {g : Nat → Nat} {C : Nat} (T : tc_T g C) : ∀ i, i < C → g i ≤ i := by
  intro i
  induction i with
  | zero => intro h; rw [T.1 h]; exact Nat.le_refl _
  | succ i ih =>
    intro h
    have a := ih (by omega)
    have b := T.2 i h
    omega
theorem tc_upS {g : Nat → Nat} {C c d : Nat} (T : tc_T g C) (hc : c ≤ C) (h0 : c = 0 → d = 0) (hd : ∀ i, c = i + 1 → d ≤ g i + 1) : (tc_up g d c = 0 ∧ d = 0) ∨ ∃ j, tc_up g d c = j + 1 ∧ j < c ∧ g j + 1 = d ∧ ∀ k, j < k → k < c → d ≤ g k := by
  rcases tc_laS (fun j => g j < d) c with ⟨e, n⟩ | ⟨j, e, l, y, n⟩
  · refine Or.inl ⟨e, ?_⟩
    by_cases z : c = 0
    · exact h0 z
    · have a : ¬ g 0 < d := n 0 (by omega)
      have b := T.1 (by omega)
      omega
  · have y' : g j < d := y
    have n' : ∀ k, j < k → k < c → d ≤ g k := fun k a b => by
      have m : ¬ g k < d := n k a b
      omega
    refine Or.inr ⟨j, e, l, ?_, n'⟩
    by_cases z : c = j + 1
    · have a := hd j z
      omega
    · have a := n' (j + 1) (by omega) (by omega)
      have b := T.2 j (by omega)
      omega
theorem tc_paS {g : Nat → Nat} {C i : Nat} (T : tc_T g C) (hi : i < C) : (tc_pa g i = 0 ∧ g i = 0) ∨ ∃ j, tc_pa g i = j + 1 ∧ j < i ∧ g j + 1 = g i ∧ ∀ k, j < k → k < i → g i ≤ g k :=
  tc_upS T (Nat.le_of_lt hi) (fun z => by rw [z]; exact T.1 (by omega)) (fun k e => by rw [e]; exact T.2 k (by omega))
theorem tc_paU {g : Nat → Nat} {i j : Nat} (hj : j < i) (h : g j < g i) (hn : ∀ k, j < k → k < i → g i ≤ g k) : tc_pa g i = j + 1 :=
  tc_laU hj h (fun k a b y => by
    have m := hn k a b
    have y' : g k < g i := y
    omega)
theorem tc_paL {g : Nat → Nat} {C i : Nat} (T : tc_T g C) (hi : i < C) : tc_pa g i ≤ i := by
  rcases tc_paS T hi with ⟨e, _⟩ | ⟨j, e, l, _⟩ <;> omega
/-- a child by its parent and by its depth -/
theorem tc_ch {g : Nat → Nat} {C v w : Nat} (T : tc_T g C) (hw : w < C) : tc_pa g w = v + 1 ↔ (v < w ∧ tc_U g v w ∧ g w = g v + 1) := by
  constructor
  · intro h
    rcases tc_paS T hw with ⟨e, _⟩ | ⟨j, e, l, y, n⟩
    · omega
    · have z : j = v := by omega
      subst z
      refine ⟨l, ⟨by omega, fun k a b => ?_⟩, by omega⟩
      by_cases x : k = w
      · rw [x]; omega
      · have m := n k a (by omega)
        omega
  · intro ⟨l, u, e⟩
    refine tc_paU l (by omega) (fun k a b => ?_)
    have m := u.2 k a (by omega)
    omega
theorem tc_Ur (g : Nat → Nat) (v : Nat) : tc_U g v v := ⟨Nat.le_refl _, fun j a b => by omega⟩
theorem tc_Ug {g : Nat → Nat} {v w : Nat} (h : tc_U g v w) : g v ≤ g w := by
  by_cases z : v = w
  · rw [z]; exact Nat.le_refl _
  · exact Nat.le_of_lt (h.2 w (by have := h.1; omega) (Nat.le_refl _))
/-- above w: at w itself, or above w's parent -/
theorem tc_Uup {g : Nat → Nat} {C v w j : Nat} (T : tc_T g C) (hw : w < C) (e : tc_pa g w = j + 1) (hv : w ≠ v) : tc_U g v w ↔ tc_U g v j := by
  rcases tc_paS T hw with ⟨e', _⟩ | ⟨j', e', l, y, n⟩
  · omega
  · have z : j' = j := by omega
    subst z
    constructor
    · intro h
      have h1 := h.1
      have a : v ≤ j' := by
        by_cases x : v ≤ j'
        · exact x
        · have m := n v (by omega) (by omega)
          have k := h.2 w (by omega) (Nat.le_refl _)
          omega
      exact ⟨a, fun i x y => h.2 i x (by omega)⟩
    · intro h
      have a := tc_Ug h
      refine ⟨by have := h.1; omega, fun i x z => ?_⟩
      by_cases b : i ≤ j'
      · exact h.2 i x b
      · by_cases c : i = w
        · rw [c]; omega
        · have m := n i (by omega) (by omega)
          omega
theorem tc_U0 {g : Nat → Nat} {C v w : Nat} (T : tc_T g C) (hw : w < C) (e : tc_pa g w = 0) (hv : w ≠ v) : ¬ tc_U g v w := by
  intro h
  rcases tc_paS T hw with ⟨_, y⟩ | ⟨j, e', _⟩
  · have m := h.2 w (by have := h.1; omega) (Nat.le_refl _)
    omega
  · omega
/-- the first past v -/
def tc_F (g : Nat → Nat) (C v r : Nat) : Prop := v < r ∧ r ≤ C ∧ (∀ w, v < w → w < r → g v < g w) ∧ (r < C → g r ≤ g v)
theorem tc_FU {g : Nat → Nat} {C v r w : Nat} (F : tc_F g C v r) (hw : w < C) : tc_U g v w ↔ (v ≤ w ∧ w < r) := by
  obtain ⟨f1, f2, f3, f4⟩ := F
  constructor
  · intro h
    refine ⟨h.1, ?_⟩
    by_cases z : w < r
    · exact z
    · have a := h.2 r f1 (by omega)
      have b := f4 (by omega)
      omega
  · intro h
    exact ⟨h.1, fun j a b => f3 j a (by omega)⟩
theorem tc_Fch {g : Nat → Nat} {C v r w : Nat} (T : tc_T g C) (F : tc_F g C v r) (hw : w < C) : tc_pa g w = v + 1 ↔ (v < w ∧ w < r ∧ g w = g v + 1) := by
  rw [tc_ch T hw, tc_FU F hw]
  constructor
  · intro ⟨a, b, c⟩; exact ⟨a, b.2, c⟩
  · intro ⟨a, b, c⟩; exact ⟨a, ⟨by omega, b⟩, c⟩
end
section
/-! each question's answer, by the first past v and by the parents -/
theorem tc_paG {g : Nat → Nat} {C v w : Nat} (T : tc_T g C) (hw : w < C) (h : v < w) (y : g v < g w) : v < tc_pa g w := by
  rcases tc_paS T hw with ⟨_, z⟩ | ⟨j, e, l, z, n⟩
  · omega
  · rw [e]
    by_cases x : j < v
    · have m := n v x h
      omega
    · omega
theorem tc_paE {g : Nat → Nat} {C v r : Nat} (T : tc_T g C) (hv : v < r) (hr : r < C) (e : g r = g v) (n : ∀ k, v < k → k < r → g v < g k) : tc_pa g r = tc_pa g v := by
  rcases tc_paS T (i := v) (by omega) with ⟨a, b⟩ | ⟨j, a, l, y, m⟩
  · rcases tc_paS T hr with ⟨a', _⟩ | ⟨j, a', l, y, m⟩
    · rw [a, a']
    · omega
  · rw [a]
    refine tc_paU (by omega) (by omega) (fun k x z => ?_)
    by_cases c : k < v
    · have := m k x c
      omega
    · by_cases d : k = v
      · rw [d]; omega
      · have := n k (by omega) z
        omega
theorem tc_nxY {g : Nat → Nat} {C v r : Nat} (T : tc_T g C) (F : tc_F g C v r) (hr : r < C) (e : g r = g v) : tc_fi (fun w => v < w ∧ tc_pa g w = tc_pa g v) C = r + 1 := by
  obtain ⟨f1, f2, f3, f4⟩ := F
  refine tc_fiU ⟨f1, tc_paE T f1 hr e f3⟩ (fun i a b => ?_) hr
  have x := tc_paG T (by omega) b.1 (f3 i b.1 a)
  have y := tc_paL T (i := v) (by omega)
  have z := b.2
  omega
theorem tc_nxN {g : Nat → Nat} {C v r : Nat} (T : tc_T g C) (F : tc_F g C v r) (hr : r < C → g r ≠ g v) : tc_fi (fun w => v < w ∧ tc_pa g w = tc_pa g v) C = 0 := by
  obtain ⟨f1, f2, f3, f4⟩ := F
  refine tc_fi0 (fun w hw b => ?_)
  have b1 := b.1
  have b2 := b.2
  by_cases z : w < r
  · have x := tc_paG T hw b1 (f3 w b1 z)
    have y := tc_paL T (i := v) (by omega)
    omega
  · have h1 := f4 (by omega)
    have h2 := hr (by omega)
    rcases tc_paS T (i := v) (by omega) with ⟨_, c⟩ | ⟨j, a, l, y, m⟩
    · omega
    · rcases tc_paS T hw with ⟨a', _⟩ | ⟨j', a', l', y', m'⟩
      · omega
      · have k : j' = j := by omega
        subst k
        by_cases x : r = w
        · subst x
          omega
        · have := m' r (by omega) (by omega)
          omega
/-! previous -/
theorem tc_pvY {g : Nat → Nat} {C v u : Nat} (T : tc_T g C) (hv : v < C) (hu : u < v) (e : g u = g v) (n : ∀ k, u < k → k < v → g v < g k) : tc_la (fun w => w < v ∧ tc_pa g w = tc_pa g v) C = u + 1 := by
  refine tc_laU (by omega) ⟨hu, (tc_paE T hu hv e.symm (fun k a b => by have := n k a b; omega)).symm⟩ (fun i a b z => ?_)
  have z1 := z.1
  have z2 := z.2
  have x := tc_paG T b a (by have := n i a z1; omega)
  have y := tc_paL T (i := u) (by omega)
  have w := tc_paE T hu hv e.symm (fun k a b => by have := n k a b; omega)
  omega
theorem tc_pvN {g : Nat → Nat} {C v u : Nat} (T : tc_T g C) (hv : v < C) (hu : u < v) (e : g u < g v) (n : ∀ k, u < k → k < v → g v < g k) : tc_la (fun w => w < v ∧ tc_pa g w = tc_pa g v) C = 0 := by
  refine tc_la0 (fun i b z => ?_)
  have z1 := z.1
  have z2 := z.2
  have p : tc_pa g v = u + 1 := tc_paU hu e (fun k a b => Nat.le_of_lt (n k a b))
  rcases tc_paS T b with ⟨a, c⟩ | ⟨j, a, l, y, m⟩
  · omega
  · have k : j = u := by omega
    subst k
    have := n i l z1
    omega
theorem tc_pv0 {g : Nat → Nat} {C v : Nat} (T : tc_T g C) (hv : v < C) (n : ∀ k, k < v → g v < g k) : tc_la (fun w => w < v ∧ tc_pa g w = tc_pa g v) C = 0 := by
  refine tc_la0 (fun i b z => ?_)
  have z1 := z.1
  have a := n 0 (by omega)
  have c := T.1 (by omega)
  omega
/-! aboveAt: e holds the depths as the class does -/
theorem tc_abv {g : Nat → Nat} {C v : Nat} {e : Nat → Int32} {d : Int32} (T : tc_T g C) (hC : C ≤ 64) (he : ∀ i, i < C → e i = nI (g i)) (hv : v < C) (hd : d ≤ nI (g v)) : tc_la (fun j => e j = d) (v + 1) = tc_fi (fun u => tc_U g u v ∧ nI (g u) = d) C := by
  have gs : ∀ i, i < C → g i < 2 ^ 31 := fun i hi => by have := tc_gi T i hi; omega
  rcases tc_laS (fun j => e j = d) (v + 1) with ⟨a, n⟩ | ⟨j, a, l, y, n⟩
  · rw [a]
    refine (tc_fi0 (fun u hu z => ?_)).symm
    have m : ¬ e u = d := n u (by have := z.1.1; omega)
    rw [he u hu] at m
    exact m z.2
  · rw [a]
    have y' : nI (g j) = d := by rw [← he j (by omega)]; exact y
    have jv : g j ≤ g v := by
      rw [← y', nI_leI (gs j (by omega)) (gs v hv)] at hd
      exact hd
    have ne : ∀ i, j < i → i ≤ v → g i ≠ g j := fun i x z w => by
      have m : ¬ e i = d := n i x (by omega)
      rw [he i (by omega), w] at m
      exact m y'
    have up : ∀ m i, j < i → i + m = v → g j < g i := by
      intro m
      induction m with
      | zero =>
        intro i x z
        have : i = v := by omega
        subst this
        have := ne i x (Nat.le_refl _)
        omega
      | succ m ih =>
        intro i x z
        have h1 := ih (i + 1) (by omega) (by omega)
        have h2 := T.2 i (by omega)
        have h3 := ne i x (by omega)
        omega
    have U : tc_U g j v := ⟨by omega, fun i x z => up (v - i) i x (by omega)⟩
    refine (tc_fiU (q := fun u => tc_U g u v ∧ nI (g u) = d) (j := j) ⟨U, y'⟩ (fun i x z => ?_) (by omega)).symm
    have z1 := z.1.2 j x (by omega)
    have z2 := z.2
    rw [← y', nI_eq (gs i (by omega)) (gs j (by omega))] at z2
    omega
theorem tc_abN {g : Nat → Nat} {C v : Nat} {d : Int32} (T : tc_T g C) (hC : C ≤ 64) (hv : v < C) (hd : ¬ d ≤ nI (g v)) : tc_fi (fun u => tc_U g u v ∧ nI (g u) = d) C = 0 := by
  refine tc_fi0 (fun u hu z => hd ?_)
  have h := tc_Ug z.1
  have k := tc_gi T v hv
  rw [← z.2]
  exact nI_le h (by omega)
/-! parent, and the last open node: by the last of their depth -/
theorem tc_lwD {g : Nat → Nat} {C c d : Nat} {e : Nat → Int32} (T : tc_T g C) (hC : C ≤ 64) (he : ∀ i, i < C → e i = nI (g i)) (hc : c ≤ C) (h0 : c = 0 → d = 0) (hd : ∀ i, c = i + 1 → d ≤ g i + 1) (d64 : d ≤ 64) : tc_la (fun j => e j = nI d - 1) c = tc_up g d c := by
  have gs : ∀ i, i < C → g i < 2 ^ 31 := fun i hi => by have := tc_gi T i hi; omega
  cases d with
  | zero =>
    rcases tc_upS T hc h0 hd with ⟨a, b⟩ | ⟨j, a, l, y, n⟩
    · rw [a]
      refine tc_la0 (fun j hj z => ?_)
      have z' : e j = nI 0 - 1 := z
      rw [he j (by omega), tc_eS] at z'
      exact absurd (z' ▸ tc_e0) (nI_pos (gs j (by omega)))
    · omega
  | succ d =>
    rcases tc_upS T hc h0 hd with ⟨a, b⟩ | ⟨j, a, l, y, n⟩
    · omega
    · rw [a]
      refine tc_laU l ?_ (fun i x z w => ?_)
      · show e j = nI (d + 1) - 1
        rw [he j (by omega), nI_pred]
        congr 1
        omega
      · have w' : e i = nI (d + 1) - 1 := w
        rw [he i (by omega), nI_pred, nI_eq (gs i (by omega)) (by omega)] at w'
        have := n i x z
        omega
theorem tc_paX {g : Nat → Nat} {C v : Nat} {e : Nat → Int32} (T : tc_T g C) (hC : C ≤ 64) (he : ∀ i, i < C → e i = nI (g i)) (hv : v < C) : tc_la (fun j => e j = nI (g v) - 1) (v + 1) = tc_pa g v := by
  have k := tc_gi T v hv
  rw [tc_laF (q := fun j => e j = nI (g v) - 1) (c := v) ?_]
  · exact tc_lwD T hC he (Nat.le_of_lt hv) (fun z => by rw [z]; exact T.1 (by omega)) (fun k e => by rw [e]; exact T.2 k (by omega)) (by omega)
  · intro z
    have z' : e v = nI (g v) - 1 := z
    rw [he v hv, tc_eS] at z'
    revert z'
    cases h : g v with
    | zero =>
      intro z'
      exact absurd (z' ▸ tc_e0) (nI_pos (by omega))
    | succ m =>
      intro z'
      have z'' : nI (m + 1) = nI m := z'
      rw [nI_eq (by omega) (by omega)] at z''
      omega
/-! size, height, leaves -/
theorem tc_szE {g : Nat → Nat} {C v r : Nat} (F : tc_F g C v r) : tc_cn (fun w => tc_U g v w) C = r - v := by
  have F' := F
  obtain ⟨f1, f2, f3, f4⟩ := F'
  rw [tc_cnE f2 (fun j a b z => by have := (tc_FU F b).mp z; omega)]
  refine tc_cnI (fun j hj => ?_) (by omega)
  rw [tc_FU F (by omega)]
  exact ⟨fun z => z.1, fun z => ⟨z, hj⟩⟩
noncomputable def tc_mx (g : Nat → Nat) (v : Nat) : Nat → Nat
  | 0 => 0
  | c + 1 => @ite _ (tc_U g v c ∧ tc_mx g v c < g c - g v) (Classical.propDecidable _) (g c - g v) (tc_mx g v c)
theorem tc_mxT {g : Nat → Nat} {v c : Nat} (h : tc_U g v c) (k : tc_mx g v c < g c - g v) : tc_mx g v (c + 1) = g c - g v := if_pos ⟨h, k⟩
theorem tc_mxF {g : Nat → Nat} {v c : Nat} (k : ¬ tc_mx g v c < g c - g v) : tc_mx g v (c + 1) = tc_mx g v c := if_neg (fun z => k z.2)
theorem tc_mxN {g : Nat → Nat} {v c : Nat} (h : ¬ tc_U g v c) : tc_mx g v (c + 1) = tc_mx g v c := if_neg (fun z => h z.1)
theorem tc_mxE {g : Nat → Nat} {v a : Nat} : ∀ {c : Nat}, a ≤ c → (∀ j, a ≤ j → j < c → ¬ tc_U g v j) → tc_mx g v c = tc_mx g v a := by
  intro c
  induction c with
  | zero =>
    intro h _
    have e : a = 0 := by omega
    rw [e]
  | succ c ih =>
    intro h n
    by_cases z : a = c + 1
    · rw [z]
    · rw [tc_mxN (n c (by omega) (by omega))]
      exact ih (by omega) (fun j x y => n j x (by omega))
theorem tc_mx0 {g : Nat → Nat} {v : Nat} : tc_mx g v (v + 1) = 0 := by
  rw [tc_mxF (by omega), tc_mxE (a := 0) (Nat.zero_le v) (fun j _ y z => by have := z.1; omega)]
  rfl
theorem tc_mxL {g : Nat → Nat} {v C : Nat} (T : tc_T g C) : ∀ c, c ≤ C → tc_mx g v c ≤ c := by
  intro c
  induction c with
  | zero => intro _; exact Nat.le_refl _
  | succ c ih =>
    intro h
    have i := ih (by omega)
    have k := tc_gi T c (by omega)
    by_cases z : tc_U g v c ∧ tc_mx g v c < g c - g v
    · rw [tc_mxT z.1 z.2]; omega
    · have e : tc_mx g v (c + 1) = tc_mx g v c := if_neg z
      omega
theorem tc_lfY {g : Nat → Nat} {C u : Nat} (T : tc_T g C) (hu : u + 1 < C) (h : g u < g (u + 1)) : tc_cn (fun w => tc_pa g w = u + 1) C ≠ 0 :=
  tc_cnP (q := fun w => tc_pa g w = u + 1) (j := u + 1) (tc_paU (by omega) h (fun k a b => by omega)) hu
theorem tc_lfN {g : Nat → Nat} {C u : Nat} (T : tc_T g C) (hu : u + 1 < C) (h : ¬ g u < g (u + 1)) : tc_cn (fun w => tc_pa g w = u + 1) C = 0 := by
  refine tc_cn0 (fun w hw z => ?_)
  have z' := (tc_ch T hw).mp z
  have m := z'.2.1.2 (u + 1) (by omega) (by have := z'.1; omega)
  omega
end
section
/-! the brackets b up to place L: C nodes begun, D of them open, g their depths -/
def tc_St (b : Nat → Int32) (g : Nat → Nat) : Nat → Nat → Nat → Prop
  | 0 => fun C D => C = 0 ∧ D = 0
  | L + 1 => fun C D => (¬ b L = 0 ∧ ∃ C' D', C = C' + 1 ∧ D = D' + 1 ∧ g C' = D' ∧ tc_St b g L C' D') ∨ (b L = 0 ∧ tc_St b g L C (D + 1))
theorem tc_StC {b : Nat → Int32} {g : Nat → Nat} : ∀ {L C D : Nat}, tc_St b g L C D → C ≤ L ∧ D ≤ C := by
  intro L
  induction L with
  | zero => intro C D h; have h1 := h.1; have h2 := h.2; omega
  | succ L ih =>
    intro C D h
    rcases h with ⟨_, C', D', rfl, rfl, _, h⟩ | ⟨_, h⟩
    · have := ih h; omega
    · have := ih h; omega
theorem tc_StT {b : Nat → Int32} {g : Nat → Nat} : ∀ {L C D : Nat}, tc_St b g L C D → tc_T g C ∧ (C = 0 → D = 0) ∧ (∀ i, C = i + 1 → D ≤ g i + 1) := by
  intro L
  induction L with
  | zero =>
    intro C D h
    have h1 := h.1
    have h2 := h.2
    subst h1 h2
    exact ⟨⟨fun z => by omega, fun i z => by omega⟩, fun _ => rfl, fun i z => by omega⟩
  | succ L ih =>
    intro C D h
    rcases h with ⟨_, C', D', rfl, rfl, e, h⟩ | ⟨_, h⟩
    · obtain ⟨T, z, n⟩ := ih h
      refine ⟨⟨fun _ => ?_, fun i hi => ?_⟩, fun x => by omega, fun i x => ?_⟩
      · by_cases y : C' = 0
        · have := z y
          rw [y] at e
          omega
        · exact T.1 (by omega)
      · by_cases y : i + 1 = C'
        · have := n i y.symm
          rw [y]
          omega
        · exact T.2 i (by omega)
      · have y : i = C' := by omega
        rw [y]
        omega
    · obtain ⟨T, z, n⟩ := ih h
      exact ⟨T, fun x => by have := z x; omega, fun i x => by have := n i x; omega⟩
theorem tc_Stg {b : Nat → Int32} {g g' : Nat → Nat} : ∀ {L C D : Nat}, (∀ i, i < C → g i = g' i) → tc_St b g L C D → tc_St b g' L C D := by
  intro L
  induction L with
  | zero => intro C D _ h; exact h
  | succ L ih =>
    intro C D hg h
    rcases h with ⟨x, C', D', rfl, rfl, e, h⟩ | ⟨x, h⟩
    · exact Or.inl ⟨x, C', D', rfl, rfl, by rw [← hg C' (by omega)]; exact e, ih (fun i hi => hg i (by omega)) h⟩
    · exact Or.inr ⟨x, ih hg h⟩
theorem tc_Stb {b b' : Nat → Int32} {g : Nat → Nat} : ∀ {L C D : Nat}, (∀ i, i < L → b i = b' i) → tc_St b g L C D → tc_St b' g L C D := by
  intro L
  induction L with
  | zero => intro C D _ h; exact h
  | succ L ih =>
    intro C D hb h
    have y := hb L (by omega)
    rcases h with ⟨x, C', D', e1, e2, e, h⟩ | ⟨x, h⟩
    · exact Or.inl ⟨by rw [← y]; exact x, C', D', e1, e2, e, ih (fun i hi => hb i (by omega)) h⟩
    · exact Or.inr ⟨by rw [← y]; exact x, ih (fun i hi => hb i (by omega)) h⟩
theorem tc_laE {q : Nat → Prop} {a : Nat} : ∀ {c : Nat}, a ≤ c → (∀ j, a ≤ j → j < c → ¬ q j) → tc_la q c = tc_la q a := by
  intro c
  induction c with
  | zero =>
    intro h _
    have e : a = 0 := by omega
    rw [e]
  | succ c ih =>
    intro h n
    by_cases z : a = c + 1
    · rw [z]
    · rw [tc_laF (n c (by omega) (by omega))]
      exact ih (by omega) (fun j x y => n j x (by omega))
/-! the reference's work -/
def tc_Pu (g : Nat → Nat) (C : Nat) (u : Nat → Int32) : Prop := ∀ i, i < C → u i = tc_e (tc_pa g i)
def tc_Pd (g : Nat → Nat) (C : Nat) (e : Nat → Int32) : Prop := ∀ i, i < C → e i = nI (g i)
theorem tc_wk {post : SY → Prop} {b : Nat → Int32} {g : Nat → Nat} {S : Nat} (hS : S ≤ 64) : ∀ L C D, L ≤ S → tc_St b g L C D → ∀ m u0 e0, (∀ u e, tc_Pu g C u → tc_Pd g C e → wY_work_12 post (nI S) m (nI L) (nI C) (tc_e (tc_up g D C)) b u e) → wY_work_12 post (nI S) (m + L) 0 0 (-1) b u0 e0 := by
  intro L
  induction L with
  | zero =>
    intro C D _ h m u0 e0 H
    have h1 := h.1
    have h2 := h.2
    subst h1 h2
    have k := H u0 e0 (fun i hi => absurd hi (by omega)) (fun i hi => absurd hi (by omega))
    rw [nI_0] at k
    exact k
  | succ L ih =>
    intro C D hL h m u0 e0 H
    rw [show m + (L + 1) = m + 1 + L from by omega]
    have hl : ¬ nI S ≤ nI L := nI_ge (by omega) (by omega)
    have il : vp_in (nI L) 64 := vp_in_nI (by omega) (by omega)
    have cl : (nI L).toNatClampNeg = L := nI_clamp (by omega)
    rcases h with ⟨hb, C', D', rfl, rfl, hg, hs⟩ | ⟨hb, hs⟩
    · refine ih C' D' (by omega) hs (m + 1) u0 e0 (fun u e hu he => ?_)
      have c1 := tc_StC hs
      obtain ⟨T, z0, n0⟩ := tc_StT hs
      have ic : vp_in (nI C') 64 := vp_in_nI (by omega) (by omega)
      have cc : (nI C').toNatClampNeg = C' := nI_clamp (by omega)
      refine br_f hl ⟨il, br_f (by rw [cl]; exact hb) ⟨ic, fun a ea => ?_⟩⟩
      have last : tc_up g (D' + 1) (C' + 1) = C' + 1 := tc_laT (by omega)
      have fin : ∀ z : Int32, z = nI D' → wY_work_72 post (wY_work_12 post (nI S) m) (nI L) z (nI C') (nI S) (nI C') (tc_e (tc_up g D' C')) b a e := by
        intro z ez
        refine ⟨ic, fun d ed x ex y ey => ?_⟩
        have ha : tc_Pu g (C' + 1) a := fun i hi => by
          rw [ea, cc]
          by_cases w : i = C'
          · subst w
            rw [pk_us, ← hg]
            exact rfl
          · rw [pk_un w]
            exact hu i (by omega)
        have hd : tc_Pd g (C' + 1) d := fun i hi => by
          rw [ed, cc]
          by_cases w : i = C'
          · subst w
            rw [pk_us, ez, hg]
          · rw [pk_un w]
            exact he i (by omega)
        have k := H a d ha hd
        rw [last] at k
        rw [ex, ey, nI_1, nI_1]
        exact k
      rcases tc_upS T (Nat.le_refl _) z0 n0 with ⟨x, y⟩ | ⟨j, x, l, y, _⟩
      · refine br_f (by rw [x]; decide +kernel) (fin 0 (by rw [y, nI_0]))
      · have ej : tc_e (tc_up g D' C') = nI j := by rw [x]; exact rfl
        refine br_t (by rw [ej]; exact nI_pos' (by omega)) ⟨by rw [ej]; exact vp_in_nI (by omega) (by omega), fin _ ?_⟩
        rw [ej, nI_clamp (by omega), he j l, nI_1, y]
    · refine ih C (D + 1) (by omega) hs (m + 1) u0 e0 (fun u e hu he => ?_)
      have c1 := tc_StC hs
      obtain ⟨T, z0, n0⟩ := tc_StT hs
      rcases tc_upS T (Nat.le_refl _) z0 n0 with ⟨x, y⟩ | ⟨j, x, l, y, n⟩
      · omega
      · have ej : tc_e (tc_up g (D + 1) C) = nI j := by rw [x]; exact rfl
        refine br_f hl ⟨il, br_t (by rw [cl]; exact hb) (br_f (by rw [ej]; exact nI_pos (by omega)) ⟨by rw [ej]; exact vp_in_nI (by omega) (by omega), fun f ef y ey => ?_⟩)⟩
        have k := H u e hu he
        have up : tc_up g D C = tc_pa g j := by
          have y' : g j = D := by omega
          have q : tc_up g D C = tc_up g D j := tc_laE (Nat.le_of_lt l) (fun i a c w => by
            have w' : g i < D := w
            by_cases ij : i = j
            · subst ij
              omega
            · have := n i (by omega) c
              omega)
          rw [q, ← y']
          exact rfl
        rw [ey, nI_1, ef, ej, nI_clamp (by omega), hu j l, ← up]
        exact k
theorem tc_work {post : SY → Prop} {b : Nat → Int32} {g : Nat → Nat} {L C D : Nat} {c l : Int32} {u e : Nat → Int32} (hL : L ≤ 64) (hs : tc_St b g L C D) (H : ∀ u e, tc_Pu g C u → tc_Pd g C e → post (nI L, nI C, tc_e (tc_up g D C), b, u, e)) : wpY_work post (nI L, c, l, b, u, e) :=
  ⟨1 + L, tc_wk hL L C D (Nat.le_refl _) hs 1 u e (fun u e hu he => br_t (nI_le (Nat.le_refl _) (by omega)) (H u e hu he))⟩
theorem pk_ix (x : Int32) {n : Nat} (hn : n < 2 ^ 31) : x < 0 ∨ nI n ≤ x ∨ ∃ j : Nat, j < n ∧ x = nI j := by
  by_cases h0 : x < 0
  · exact Or.inl h0
  · obtain ⟨j, hj, rfl⟩ := nI_of h0
    by_cases h : j < n
    · exact Or.inr (Or.inr ⟨j, h, rfl⟩)
    · exact Or.inr (Or.inl (nI_le (by omega) hj))
theorem tc_nodeY {post : Int32 → SY → Prop} {b : Nat → Int32} {g : Nat → Nat} {L C D v : Nat} {c l : Int32} {u e : Nat → Int32} (hL : L ≤ 64) (hs : tc_St b g L C D) (hv : v < C) (H : ∀ u e, tc_Pu g C u → tc_Pd g C e → post 1 (nI L, nI C, tc_e (tc_up g D C), b, u, e)) : wpY_node post (nI L, c, l, b, u, e) (nI v) := by
  have c1 := tc_StC hs
  unfold wpY_node
  exact tc_work hL hs (fun u e hu he => br_f (nI_pos (by omega)) (br_f (nI_ge hv (by omega)) (H u e hu he)))
theorem tc_nodeN {post : Int32 → SY → Prop} {b : Nat → Int32} {g : Nat → Nat} {L C D : Nat} {c l x : Int32} {u e : Nat → Int32} (hL : L ≤ 64) (hs : tc_St b g L C D) (hx : x < 0 ∨ nI C ≤ x) (H : ∀ u e, tc_Pu g C u → tc_Pd g C e → post 0 (nI L, nI C, tc_e (tc_up g D C), b, u, e)) : wpY_node post (nI L, c, l, b, u, e) x := by
  unfold wpY_node
  refine tc_work hL hs (fun u e hu he => br_c (fun _ => H u e hu he) (fun z => br_t ?_ (H u e hu he)))
  rcases hx with y | y
  · exact absurd y z
  · exact y
theorem tc_isY {post : Int32 → Prop} {L C v : Nat} {o : Int32} {b a : Nat → Int32} (hC : C ≤ 64) (hv : v < C) (H : post 1) : wpX_isNode post (nI L, nI C, o, b, a) (nI v) :=
  br_f (nI_pos (by omega)) (br_f (nI_ge hv (by omega)) H)
theorem tc_isN {post : Int32 → Prop} {L C : Nat} {o x : Int32} {b a : Nat → Int32} (hx : x < 0 ∨ nI C ≤ x) (H : post 0) : wpX_isNode post (nI L, nI C, o, b, a) x := by
  refine br_c (fun _ => H) (fun z => br_t ?_ H)
  rcases hx with y | y
  · exact absurd y z
  · exact y
end
section
/-! the class's walks, each to the answer of the pictures -/
theorem tc_rd {g : Nat → Nat} {C i : Nat} {a : Nat → Int32} (ha : tc_Pd g C a) (hC : C ≤ 64) (hi : i < C) : a (nI i).toNatClampNeg = nI (g i) := by
  rw [nI_clamp (by omega)]
  exact ha i hi
theorem tc_ru {g : Nat → Nat} {C i : Nat} {a : Nat → Int32} (ha : tc_Pu g C a) (hC : C ≤ 64) (hi : i < C) : a (nI i).toNatClampNeg = tc_e (tc_pa g i) := by
  rw [nI_clamp (by omega)]
  exact ha i hi
theorem tc_gs {g : Nat → Nat} {C : Nat} (T : tc_T g C) (hC : C ≤ 64) {i : Nat} (hi : i < C) : g i < 64 := by
  have := tc_gi T i hi
  omega
theorem tc_10 : ¬ (1 : Int32) = 0 := by decide
section
variable {post : Int32 → Prop} {g : Nat → Nat} {C : Nat} {fl fo : Int32} {b a : Nat → Int32}
theorem tc_lwl {d : Int32} {fn : Int32} : ∀ c, c ≤ 64 → post (tc_e (tc_la (fun j => a j = d) c)) → wX_lastWithDepth_2 post d fl fn fo b a (c + 1) (tc_e c) := by
  intro c
  induction c with
  | zero => intro _ H; exact br_t tc_e0 H
  | succ c ih =>
    intro hc H
    have cc : (tc_e (c + 1)).toNatClampNeg = c := nI_clamp (by omega)
    by_cases z : a c = d
    · rw [tc_laT (q := fun j => a j = d) z] at H
      exact br_f (tc_eP (by omega)) ⟨vp_in_nI (by omega) (by omega), br_t (by rw [cc]; exact z) H⟩
    · rw [tc_laF (q := fun j => a j = d) z] at H
      exact br_f (tc_eP (by omega)) ⟨vp_in_nI (by omega) (by omega), br_f (by rw [cc]; exact z) (nm_r (tc_eM c) (ih (by omega) H))⟩
theorem tc_fpl (hC : C ≤ 64) (T : tc_T g C) (ha : tc_Pd g C a) {v : Nat} (hv : v < C) (H : ∀ r, tc_F g C v r → post (nI r)) : ∀ k w, w + k = C → v < w → (∀ j, v < j → j < w → g v < g j) → wX_firstPast_4 post (nI v) fl (nI C) fo b a (k + 1) (nI w) := by
  intro k
  induction k with
  | zero =>
    intro w e l n
    have e' : w = C := by omega
    subst e'
    exact br_t (nI_le (Nat.le_refl _) (by omega)) (H w ⟨l, Nat.le_refl _, n, fun z => by omega⟩)
  | succ k ih =>
    intro w e l n
    have gv := tc_gs T hC hv
    have gw := tc_gs T hC (i := w) (by omega)
    refine br_f (nI_ge (by omega) (by omega)) ⟨vp_in_nI (by omega) (by omega), vp_in_nI (by omega) (by omega), ?_⟩
    by_cases z : g v < g w
    · refine br_t ?_ (nm_r (nI_1 w) (ih (w + 1) (by omega) (by omega) (fun j x y => ?_)))
      · rw [tc_rd ha hC hv, tc_rd ha hC (by omega)]
        exact nI_lt z (by omega)
      · by_cases q : j = w
        · rw [q]; exact z
        · exact n j x (by omega)
    · refine br_f ?_ (H w ⟨l, by omega, n, fun _ => by omega⟩)
      rw [tc_rd ha hC hv, tc_rd ha hC (by omega)]
      exact nI_nlt (by omega) (by omega)
theorem tc_fp (hC : C ≤ 64) (T : tc_T g C) (ha : tc_Pd g C a) {v : Nat} (hv : v < C) (H : ∀ r, tc_F g C v r → post (nI r)) : wpX_firstPast post (fl, nI C, fo, b, a) (nI v) := by
  unfold wpX_firstPast
  exact nm_r (nI_1 v) ⟨C - (v + 1) + 1, tc_fpl hC T ha hv H (C - (v + 1)) (v + 1) (by omega) (by omega) (fun j x y => by omega)⟩
theorem tc_chl (hC : C ≤ 64) (T : tc_T g C) (ha : tc_Pd g C a) {v r : Nat} (hv : v < C) (F : tc_F g C v r) (H : post (nI (tc_cn (fun u => tc_pa g u = v + 1) C))) : ∀ k w, w + k = r → v < w → wX_children_23 post (nI v) (nI r) fl (nI C) fo b a (k + 1) (nI (tc_cn (fun u => tc_pa g u = v + 1) w)) (nI w) := by
  have f2 := F.2.1
  intro k
  induction k with
  | zero =>
    intro w e l
    have e' : w = r := by omega
    subst e'
    rw [tc_cnE (q := fun u => tc_pa g u = v + 1) f2 (fun j x y z => by have := (tc_Fch T F y).mp z; omega)] at H
    exact br_t (nI_le (Nat.le_refl _) (by omega)) H
  | succ k ih =>
    intro w e l
    have gv := tc_gs T hC hv
    have gw := tc_gs T hC (i := w) (by omega)
    refine br_f (nI_ge (by omega) (by omega)) ⟨vp_in_nI (by omega) (by omega), vp_in_nI (by omega) (by omega), ?_⟩
    have i := ih (w + 1) (by omega) (by omega)
    by_cases z : g w = g v + 1
    · rw [tc_cnT (q := fun u => tc_pa g u = v + 1) ((tc_Fch T F (by omega)).mpr ⟨l, by omega, z⟩)] at i
      refine br_t ?_ (nm_r (nI_1 _) (nm_r (nI_1 w) i))
      rw [tc_rd ha hC hv, tc_rd ha hC (by omega), z, nI_1]
    · rw [tc_cnF (q := fun u => tc_pa g u = v + 1) (fun x => z ((tc_Fch T F (by omega)).mp x).2.2)] at i
      refine br_f ?_ (nm_r (nI_1 w) i)
      rw [tc_rd ha hC hv, tc_rd ha hC (by omega), nI_1, nI_eq (by omega) (by omega)]
      exact z
theorem tc_cdl (hC : C ≤ 64) (T : tc_T g C) (ha : tc_Pd g C a) {v r : Nat} {d : Int32} (hv : v < C) (F : tc_F g C v r) (H : post (tc_e (tc_fi (fun w => tc_pa g w = v + 1 ∧ nI (tc_cn (fun u => tc_pa g u = v + 1) w) = d) C))) : ∀ k w, w + k = r → v < w → (∀ j, j < w → ¬ (tc_pa g j = v + 1 ∧ nI (tc_cn (fun u => tc_pa g u = v + 1) j) = d)) → wX_child_24 post (nI v) d (nI r) fl (nI C) fo b a (k + 1) (nI (tc_cn (fun u => tc_pa g u = v + 1) w)) (nI w) := by
  have f2 := F.2.1
  intro k
  induction k with
  | zero =>
    intro w e l n
    have e' : w = r := by omega
    subst e'
    rw [tc_fi0 (fun j hj z => by
      by_cases y : j < w
      · exact n j y z
      · have := (tc_Fch T F hj).mp z.1
        omega)] at H
    exact br_t (nI_le (Nat.le_refl _) (by omega)) H
  | succ k ih =>
    intro w e l n
    have gv := tc_gs T hC hv
    have gw := tc_gs T hC (i := w) (by omega)
    refine br_f (nI_ge (by omega) (by omega)) ⟨vp_in_nI (by omega) (by omega), vp_in_nI (by omega) (by omega), ?_⟩
    have i := ih (w + 1) (by omega) (by omega)
    by_cases z : g w = g v + 1
    · have qw : tc_pa g w = v + 1 := (tc_Fch T F (by omega)).mpr ⟨l, by omega, z⟩
      rw [tc_cnT (q := fun u => tc_pa g u = v + 1) qw] at i
      refine br_t (by rw [tc_rd ha hC hv, tc_rd ha hC (by omega), z, nI_1]) ?_
      by_cases y : nI (tc_cn (fun u => tc_pa g u = v + 1) w) = d
      · rw [tc_fiU (q := fun w => tc_pa g w = v + 1 ∧ nI (tc_cn (fun u => tc_pa g u = v + 1) w) = d) (j := w) ⟨qw, y⟩ n (by omega)] at H
        exact br_t y H
      · refine br_f y (nm_r (nI_1 _) (nm_r (nI_1 w) (i (fun j hj x => ?_))))
        by_cases h : j = w
        · rw [h] at x; exact y x.2
        · exact n j (by omega) x
    · have qw : ¬ tc_pa g w = v + 1 := fun x => z ((tc_Fch T F (by omega)).mp x).2.2
      rw [tc_cnF (q := fun u => tc_pa g u = v + 1) qw] at i
      refine br_f ?_ (nm_r (nI_1 w) (i (fun j hj x => ?_)))
      · rw [tc_rd ha hC hv, tc_rd ha hC (by omega), nI_1, nI_eq (by omega) (by omega)]
        exact z
      · by_cases h : j = w
        · rw [h] at x; exact qw x.1
        · exact n j (by omega) x
theorem tc_pvl (hC : C ≤ 64) (T : tc_T g C) (ha : tc_Pd g C a) {v : Nat} (hv : v < C) (H : post (tc_e (tc_la (fun w => w < v ∧ tc_pa g w = tc_pa g v) C))) : ∀ c, c ≤ v → (∀ k, c ≤ k → k < v → g v < g k) → wX_previous_14 post (nI v) fl (nI C) fo b a (c + 1) (tc_e c) := by
  intro c
  induction c with
  | zero =>
    intro _ n
    rw [tc_pv0 T hv (fun k hk => n k (by omega) hk)] at H
    exact br_t tc_e0 H
  | succ c ih =>
    intro hc n
    have gv := tc_gs T hC hv
    have gc := tc_gs T hC (i := c) (by omega)
    have ic : vp_in (tc_e (c + 1)) 64 := vp_in_nI (by omega) (by omega)
    have iv : vp_in (nI v) 64 := vp_in_nI (by omega) (by omega)
    have rc : a (tc_e (c + 1)).toNatClampNeg = nI (g c) := tc_rd ha hC (by omega)
    have rv := tc_rd ha hC hv
    refine br_f (tc_eP (by omega)) ⟨ic, iv, ?_⟩
    by_cases z : g v < g c
    · refine br_t (by rw [rc, rv]; exact nI_lt z (by omega)) (nm_r (tc_eM c) (ih (by omega) (fun k x y => ?_)))
      by_cases h : k = c
      · rw [h]; exact z
      · exact n k (by omega) y
    · refine br_f (by rw [rc, rv]; exact nI_nlt (by omega) (by omega)) ⟨ic, iv, ?_⟩
      by_cases y : g c = g v
      · rw [tc_pvY T hv (u := c) (by omega) y (fun k p q => n k (by omega) q)] at H
        exact br_t (by rw [rc, rv, y]) H
      · rw [tc_pvN T hv (u := c) (by omega) (by omega) (fun k p q => n k (by omega) q)] at H
        exact br_f (by rw [rc, rv, nI_eq (by omega) (by omega)]; exact y) H
theorem tc_mtl (hC : C ≤ 64) (T : tc_T g C) (ha : tc_Pd g C a) {lo hi : Nat} {q : Nat → Prop} (hq : ∀ u, q u ↔ (tc_U g u lo ∧ tc_U g u hi)) (hl : lo ≤ hi) (hh : hi < C) (H : post (tc_e (tc_la q C))) : ∀ c, c ≤ lo + 1 → (∀ k, c ≤ k → k < C → ¬ q k) → wX_meet_44 post (nI hi) fl (nI C) fo b a (c + 1) (tc_e c) := by
  intro c
  induction c with
  | zero =>
    intro _ n
    rw [tc_la0 (fun k hk => n k (by omega) hk)] at H
    exact br_t tc_e0 H
  | succ c ih =>
    intro hc n
    refine br_f (tc_eP (by omega)) (tc_fp hC T ha (v := c) (by omega) (fun r F => ?_))
    have f1 := F.1
    have f2 := F.2.1
    by_cases z : r ≤ hi
    · refine br_t (nI_le z (by omega)) (nm_r (tc_eM c) (ih (by omega) (fun k x y w => ?_)))
      by_cases h : k = c
      · subst h
        have := (tc_FU F hh).mp ((hq k).mp w).2
        omega
      · exact n k (by omega) y w
    · have qc : q c := (hq c).mpr ⟨(tc_FU F (by omega)).mpr ⟨by omega, by omega⟩, (tc_FU F hh).mpr ⟨by omega, by omega⟩⟩
      rw [tc_laU (j := c) (by omega) qc (fun i x y => n i (by omega) y)] at H
      exact br_f (nI_ge (by omega) (by omega)) H
theorem tc_htl (hC : C ≤ 64) (T : tc_T g C) (ha : tc_Pd g C a) {v r : Nat} (hv : v < C) (F : tc_F g C v r) (H : post (nI (tc_mx g v C))) : ∀ k w, w + k = r → v < w → wX_height_28 post (nI v) (nI r) fl (nI C) fo b a (k + 1) (nI (g v + tc_mx g v w)) (nI w) := by
  have f2 := F.2.1
  have gv := tc_gs T hC hv
  intro k
  induction k with
  | zero =>
    intro w e l
    have e' : w = r := by omega
    subst e'
    rw [tc_mxE f2 (fun j x y z => by have := (tc_FU F y).mp z; omega)] at H
    refine br_t (nI_le (Nat.le_refl _) (by omega)) ⟨vp_in_nI (by omega) (by omega), ?_⟩
    rw [tc_rd ha hC hv, pk_sub (by omega), Nat.add_sub_cancel_left]
    exact H
  | succ k ih =>
    intro w e l
    have gw := tc_gs T hC (i := w) (by omega)
    have ml := tc_mxL (v := v) T w (by omega)
    have rw' : a (nI w).toNatClampNeg = nI (g w) := tc_rd ha hC (by omega)
    have iw : vp_in (nI w) 64 := vp_in_nI (by omega) (by omega)
    refine br_f (nI_ge (by omega) (by omega)) ⟨iw, ?_⟩
    have i := ih (w + 1) (by omega) (by omega)
    by_cases z : tc_mx g v w < g w - g v
    · rw [tc_mxT ((tc_FU F (by omega)).mpr ⟨by omega, by omega⟩) z, show g v + (g w - g v) = g w from by omega] at i
      exact br_f (by rw [rw']; exact nI_ge (by omega) (by omega)) ⟨iw, nm_r rw' (nm_r (nI_1 w) i)⟩
    · rw [tc_mxF z] at i
      exact br_t (by rw [rw']; exact nI_le (by omega) (by omega)) (nm_r (nI_1 w) i)
theorem tc_lfl (hC : C ≤ 64) (T : tc_T g C) (ha : tc_Pd g C a) {v : Nat} (hv : v < C) (H : post (nI (tc_cn (fun u => ¬ g u < g (u + 1)) v))) : ∀ k w, w + k = v → wX_leavesBefore_14 post (nI v) fl (nI C) fo b a (k + 1) (nI (tc_cn (fun u => ¬ g u < g (u + 1)) w)) (nI w) := by
  intro k
  induction k with
  | zero =>
    intro w e
    have e' : w = v := by omega
    subst e'
    exact br_t (nI_le (Nat.le_refl _) (by omega)) H
  | succ k ih =>
    intro w e
    have gw := tc_gs T hC (i := w) (by omega)
    have gx := tc_gs T hC (i := w + 1) (by omega)
    have rw' : a (nI w).toNatClampNeg = nI (g w) := tc_rd ha hC (by omega)
    have rx : a (nI w + 1).toNatClampNeg = nI (g (w + 1)) := by rw [nI_1]; exact tc_rd ha hC (by omega)
    refine br_f (nI_ge (by omega) (by omega)) ⟨by rw [nI_1]; exact vp_in_nI (by omega) (by omega), vp_in_nI (by omega) (by omega), ?_⟩
    have i := ih (w + 1) (by omega)
    by_cases z : g w < g (w + 1)
    · rw [tc_cnF (q := fun u => ¬ g u < g (u + 1)) (fun y => y z)] at i
      exact br_t (by rw [rw', rx]; exact nI_lt z (by omega)) (nm_r (nI_1 w) i)
    · rw [tc_cnT (q := fun u => ¬ g u < g (u + 1)) z] at i
      exact br_f (by rw [rw', rx]; exact nI_nlt (by omega) (by omega)) (nm_r (nI_1 _) (nm_r (nI_1 w) i))
end
end
section
/-! the reference's walks, each to the answer of the pictures -/
section
variable {post : Int32 → Prop} {g : Nat → Nat} {C : Nat} {fs fl : Int32} {b p d : Nat → Int32}
theorem tc_unl {fc : Int32} (hC : C ≤ 64) (T : tc_T g C) (hp : tc_Pu g C p) {v : Nat} (hv : v < C) : ∀ n w, w < C → w < n → (tc_U g v w → post 1) → (¬ tc_U g v w → post 0) → wY_under_2 post (nI v) fs fc fl b p d (n + 1) (nI w) := by
  intro n
  induction n with
  | zero => intro w _ h; omega
  | succ n ih =>
    intro w hw hn H1 H0
    have nw : ¬ nI w < 0 := nI_pos (by omega)
    refine br_f nw ?_
    by_cases z : w = v
    · subst z
      exact br_t rfl (br_f nw (H1 (tc_Ur g w)))
    · refine br_f (by rw [nI_eq (by omega) (by omega)]; exact z) ⟨vp_in_nI (by omega) (by omega), nm_r (tc_ru hp hC hw) ?_⟩
      rcases tc_paS T hw with ⟨e, _⟩ | ⟨j, e, l, _⟩
      · rw [e]
        exact br_t tc_e0 (br_t tc_e0 (H0 (tc_U0 T hw e z)))
      · rw [e]
        have u := tc_Uup T hw e z
        exact ih j (by omega) (by omega) (fun x => H1 (u.mpr x)) (fun x => H0 (fun y => x (u.mp y)))
theorem tc_un {fc : Int32} (hC : C ≤ 64) (T : tc_T g C) (hp : tc_Pu g C p) {v w : Nat} (hv : v < C) (hw : w < C) (H1 : tc_U g v w → post 1) (H0 : ¬ tc_U g v w → post 0) : wpY_under post (fs, fc, fl, b, p, d) (nI w) (nI v) :=
  ⟨w + 1 + 1, tc_unl hC T hp hv (w + 1) w hw (by omega) H1 H0⟩
theorem tc_isC (hC : C ≤ 64) (T : tc_T g C) (hp : tc_Pu g C p) {v w : Nat} (hv : v < C) (hw : w < C) : p (nI w).toNatClampNeg = nI v ↔ tc_pa g w = v + 1 := by
  have l := tc_paL T hw
  rw [tc_ru hp hC hw]
  exact tc_eI (a := tc_pa g w) (b := v + 1) (by omega) (by omega)
theorem tc_isS (hC : C ≤ 64) (T : tc_T g C) (hp : tc_Pu g C p) {v w : Nat} (hv : v < C) (hw : w < C) : p (nI w).toNatClampNeg = p (nI v).toNatClampNeg ↔ tc_pa g w = tc_pa g v := by
  have l := tc_paL T hw
  have m := tc_paL T hv
  rw [tc_ru hp hC hw, tc_ru hp hC hv]
  exact tc_eI (by omega) (by omega)
theorem tc_col (hC : C ≤ 64) (T : tc_T g C) (hp : tc_Pu g C p) {v : Nat} (hv : v < C) (H : post (nI (tc_cn (fun u => tc_pa g u = v + 1) C))) : ∀ k w, w + k = C → wY_childrenOf_4 post (nI v) fs (nI C) fl b p d (k + 1) (nI (tc_cn (fun u => tc_pa g u = v + 1) w)) (nI w) := by
  intro k
  induction k with
  | zero =>
    intro w e
    have e' : w = C := by omega
    subst e'
    exact br_t (nI_le (Nat.le_refl _) (by omega)) H
  | succ k ih =>
    intro w e
    refine br_f (nI_ge (by omega) (by omega)) ⟨vp_in_nI (by omega) (by omega), ?_⟩
    have i := ih (w + 1) (by omega)
    have q := tc_isC hC T hp hv (w := w) (by omega)
    by_cases z : tc_pa g w = v + 1
    · rw [tc_cnT (q := fun u => tc_pa g u = v + 1) z] at i
      exact br_t (q.mpr z) (nm_r (nI_1 _) (nm_r (nI_1 w) i))
    · rw [tc_cnF (q := fun u => tc_pa g u = v + 1) z] at i
      exact br_f (fun x => z (q.mp x)) (nm_r (nI_1 w) i)
theorem tc_co (hC : C ≤ 64) (T : tc_T g C) (hp : tc_Pu g C p) {v : Nat} (hv : v < C) (H : post (nI (tc_cn (fun u => tc_pa g u = v + 1) C))) : wpY_childrenOf post (fs, nI C, fl, b, p, d) (nI v) := by
  have k := tc_col (post := post) (fs := fs) (fl := fl) (b := b) (d := d) hC T hp hv H C 0 (by omega)
  rw [show tc_cn (fun u => tc_pa g u = v + 1) 0 = 0 from rfl, nI_0] at k
  exact ⟨_, k⟩
end
section
variable {post : Int32 → SY → Prop} {g : Nat → Nat} {C : Nat} {fs fl : Int32} {b p d : Nat → Int32}
theorem tc_Ysz (hC : C ≤ 64) (T : tc_T g C) (hp : tc_Pu g C p) {v : Nat} (hv : v < C) (H : post (nI (tc_cn (fun w => tc_U g v w) C)) (fs, nI C, fl, b, p, d)) : ∀ k w, w + k = C → wY_size_14 post (nI v) fs (nI C) fl b p d (k + 1) (nI (tc_cn (fun w => tc_U g v w) w)) (nI w) := by
  intro k
  induction k with
  | zero =>
    intro w e
    have e' : w = C := by omega
    subst e'
    exact br_t (nI_le (Nat.le_refl _) (by omega)) H
  | succ k ih =>
    intro w e
    have i := ih (w + 1) (by omega)
    refine br_f (nI_ge (by omega) (by omega)) (tc_un hC T hp hv (by omega) (fun z => ?_) (fun z => ?_))
    · rw [tc_cnT (q := fun w => tc_U g v w) z] at i
      exact br_f tc_10 (nm_r (nI_1 _) (nm_r (nI_1 w) i))
    · rw [tc_cnF (q := fun w => tc_U g v w) z] at i
      exact br_t rfl (nm_r (nI_1 w) i)
theorem tc_Ycd (hC : C ≤ 64) (T : tc_T g C) (hp : tc_Pu g C p) {v : Nat} {x : Int32} (hv : v < C) (H : post (tc_e (tc_fi (fun w => tc_pa g w = v + 1 ∧ nI (tc_cn (fun u => tc_pa g u = v + 1) w) = x) C)) (fs, nI C, fl, b, p, d)) : ∀ k w, w + k = C → (∀ j, j < w → ¬ (tc_pa g j = v + 1 ∧ nI (tc_cn (fun u => tc_pa g u = v + 1) j) = x)) → wY_child_12 post (nI v) x 1 fs (nI C) fl b p d (k + 1) (nI (tc_cn (fun u => tc_pa g u = v + 1) w)) (nI w) := by
  intro k
  induction k with
  | zero =>
    intro w e n
    have e' : w = C := by omega
    subst e'
    rw [tc_fi0 n] at H
    exact br_t (nI_le (Nat.le_refl _) (by omega)) H
  | succ k ih =>
    intro w e n
    have i := ih (w + 1) (by omega)
    have q := tc_isC hC T hp hv (w := w) (by omega)
    refine br_f (nI_ge (by omega) (by omega)) (br_f tc_10 ⟨vp_in_nI (by omega) (by omega), ?_⟩)
    by_cases z : tc_pa g w = v + 1
    · rw [tc_cnT (q := fun u => tc_pa g u = v + 1) z] at i
      refine br_t (q.mpr z) ?_
      by_cases y : nI (tc_cn (fun u => tc_pa g u = v + 1) w) = x
      · rw [tc_fiU (q := fun w => tc_pa g w = v + 1 ∧ nI (tc_cn (fun u => tc_pa g u = v + 1) w) = x) (j := w) ⟨z, y⟩ n (by omega)] at H
        exact br_t y H
      · refine br_f y (nm_r (nI_1 _) (nm_r (nI_1 w) (i (fun j hj s => ?_))))
        by_cases h : j = w
        · rw [h] at s; exact y s.2
        · exact n j (by omega) s
    · rw [tc_cnF (q := fun u => tc_pa g u = v + 1) z] at i
      refine br_f (fun s => z (q.mp s)) (nm_r (nI_1 w) (i (fun j hj s => ?_)))
      by_cases h : j = w
      · rw [h] at s; exact z s.1
      · exact n j (by omega) s
theorem tc_Ynx (hC : C ≤ 64) (T : tc_T g C) (hp : tc_Pu g C p) {v : Nat} (hv : v < C) (H : post (tc_e (tc_fi (fun w => v < w ∧ tc_pa g w = tc_pa g v) C)) (fs, nI C, fl, b, p, d)) : ∀ k w, w + k = C → (∀ j, j < w → ¬ (v < j ∧ tc_pa g j = tc_pa g v)) → wY_next_8 post (nI v) 1 fs (nI C) fl b p d (k + 1) (nI w) := by
  intro k
  induction k with
  | zero =>
    intro w e n
    have e' : w = C := by omega
    subst e'
    rw [tc_fi0 n] at H
    exact br_t (nI_le (Nat.le_refl _) (by omega)) H
  | succ k ih =>
    intro w e n
    have i := ih (w + 1) (by omega)
    have q := tc_isS hC T hp hv (w := w) (by omega)
    refine br_f (nI_ge (by omega) (by omega)) (br_f tc_10 ?_)
    by_cases z : w ≤ v
    · refine br_t (nI_le z (by omega)) (nm_r (nI_1 w) (i (fun j hj s => ?_)))
      have := s.1
      omega
    · refine br_f (nI_ge (by omega) (by omega)) ⟨vp_in_nI (by omega) (by omega), vp_in_nI (by omega) (by omega), ?_⟩
      by_cases y : tc_pa g w = tc_pa g v
      · rw [tc_fiU (q := fun w => v < w ∧ tc_pa g w = tc_pa g v) (j := w) ⟨by omega, y⟩ n (by omega)] at H
        exact br_t (q.mpr y) H
      · refine br_f (fun s => y (q.mp s)) (nm_r (nI_1 w) (i (fun j hj s => ?_)))
        by_cases h : j = w
        · rw [h] at s; exact y s.2
        · exact n j (by omega) s
theorem tc_Ypv (hC : C ≤ 64) (T : tc_T g C) (hp : tc_Pu g C p) {v : Nat} (hv : v < C) : ∀ c, c ≤ C → post (tc_e (tc_la (fun w => w < v ∧ tc_pa g w = tc_pa g v) c)) (fs, nI C, fl, b, p, d) → wY_previous_13 post (nI v) 1 fs (nI C) fl b p d (c + 1) (tc_e c) := by
  intro c
  induction c with
  | zero => intro _ H; exact br_t tc_e0 H
  | succ c ih =>
    intro hc H
    have q := tc_isS hC T hp hv (w := c) (by omega)
    refine br_f (tc_eP (by omega)) (br_f tc_10 ?_)
    by_cases z : v ≤ c
    · rw [tc_laF (q := fun w => w < v ∧ tc_pa g w = tc_pa g v) (fun s => by have := s.1; omega)] at H
      exact br_t (nI_le z (by omega)) (nm_r (tc_eM c) (ih (by omega) H))
    · refine br_f (nI_ge (by omega) (by omega)) ⟨vp_in_nI (by omega) (by omega), vp_in_nI (by omega) (by omega), ?_⟩
      by_cases y : tc_pa g c = tc_pa g v
      · rw [tc_laT (q := fun w => w < v ∧ tc_pa g w = tc_pa g v) ⟨by omega, y⟩] at H
        exact br_t (q.mpr y) H
      · rw [tc_laF (q := fun w => w < v ∧ tc_pa g w = tc_pa g v) (fun s => y s.2)] at H
        exact br_f (fun s => y (q.mp s)) (nm_r (tc_eM c) (ih (by omega) H))
theorem tc_Ymt (hC : C ≤ 64) (T : tc_T g C) (hp : tc_Pu g C p) (hd : tc_Pd g C d) {v w : Nat} (hv : v < C) (hw : w < C) (H : post (tc_e (tc_la (fun u => tc_U g u v ∧ tc_U g u w) C)) (fs, nI C, fl, b, p, d)) : ∀ k u, u + k = C → wY_meet_28 post (nI v) (nI w) 1 fs (nI C) fl b p d (k + 1) (tc_e (tc_la (fun u => tc_U g u v ∧ tc_U g u w) u)) (nI u) := by
  intro k
  induction k with
  | zero =>
    intro u e
    have e' : u = C := by omega
    subst e'
    exact br_t (nI_le (Nat.le_refl _) (by omega)) H
  | succ k ih =>
    intro u e
    have i := ih (u + 1) (by omega)
    refine br_f (nI_ge (by omega) (by omega)) (br_f tc_10 (tc_un hC T hp (by omega) hv (fun y => ?_) (fun y => ?_)))
    · refine br_f tc_10 (tc_un hC T hp (by omega) hw (fun z => ?_) (fun z => ?_))
      · refine br_f tc_10 ?_
        rw [tc_laT (q := fun u => tc_U g u v ∧ tc_U g u w) ⟨y, z⟩] at i
        rcases tc_laS (fun u => tc_U g u v ∧ tc_U g u w) u with ⟨x, _⟩ | ⟨j, x, l, s, _⟩
        · rw [x]
          exact br_t tc_e0 (nm_r (nI_1 u) i)
        · rw [x]
          have gj := tc_gs T hC (i := j) (by omega)
          have gu := tc_gs T hC (i := u) (by omega)
          refine br_f (tc_eP (by omega)) ⟨vp_in_nI (by omega) (by omega), vp_in_nI (by omega) (by omega), br_f ?_ (nm_r (nI_1 u) i)⟩
          have rj : d (tc_e (j + 1)).toNatClampNeg = nI (g j) := tc_rd hd hC (by omega)
          rw [tc_rd hd hC (by omega), rj]
          exact nI_ge (s.1.2 u l y.1) (by omega)
      · rw [tc_laF (q := fun u => tc_U g u v ∧ tc_U g u w) (fun s => z s.2)] at i
        exact br_t rfl (nm_r (nI_1 u) i)
    · rw [tc_laF (q := fun u => tc_U g u v ∧ tc_U g u w) (fun s => y s.1)] at i
      exact br_t rfl (nm_r (nI_1 u) i)
theorem tc_Yab (hC : C ≤ 64) (T : tc_T g C) (hp : tc_Pu g C p) (hd : tc_Pd g C d) {v : Nat} {x : Int32} (hv : v < C) (H : post (tc_e (tc_fi (fun u => tc_U g u v ∧ nI (g u) = x) C)) (fs, nI C, fl, b, p, d)) : ∀ k u, u + k = C → (∀ j, j < u → ¬ (tc_U g j v ∧ nI (g j) = x)) → wY_aboveAt_9 post (nI v) x 1 fs (nI C) fl b p d (k + 1) (nI u) := by
  intro k
  induction k with
  | zero =>
    intro u e n
    have e' : u = C := by omega
    subst e'
    rw [tc_fi0 n] at H
    exact br_t (nI_le (Nat.le_refl _) (by omega)) H
  | succ k ih =>
    intro u e n
    have i := ih (u + 1) (by omega)
    have ru := tc_rd hd hC (i := u) (by omega)
    refine br_f (nI_ge (by omega) (by omega)) (br_f tc_10 (tc_un hC T hp (by omega) hv (fun y => ?_) (fun y => ?_)))
    · refine br_f tc_10 ⟨vp_in_nI (by omega) (by omega), ?_⟩
      by_cases z : nI (g u) = x
      · rw [tc_fiU (q := fun u => tc_U g u v ∧ nI (g u) = x) (j := u) ⟨y, z⟩ n (by omega)] at H
        exact br_t (ru.trans z) H
      · refine br_f (by rw [ru]; exact z) (nm_r (nI_1 u) (i (fun j hj s => ?_)))
        by_cases h : j = u
        · rw [h] at s; exact z s.2
        · exact n j (by omega) s
    · refine br_t rfl (nm_r (nI_1 u) (i (fun j hj s => ?_)))
      by_cases h : j = u
      · rw [h] at s; exact y s.1
      · exact n j (by omega) s
theorem tc_Yht (hC : C ≤ 64) (T : tc_T g C) (hp : tc_Pu g C p) (hd : tc_Pd g C d) {v : Nat} (hv : v < C) (H : post (nI (tc_mx g v C)) (fs, nI C, fl, b, p, d)) : ∀ k w, w + k = C → wY_height_14 post (nI v) fs (nI C) fl b p d (k + 1) (nI (tc_mx g v w)) (nI w) := by
  have gv := tc_gs T hC hv
  have rv := tc_rd hd hC hv
  have iv : vp_in (nI v) 64 := vp_in_nI (by omega) (by omega)
  intro k
  induction k with
  | zero =>
    intro w e
    have e' : w = C := by omega
    subst e'
    exact br_t (nI_le (Nat.le_refl _) (by omega)) H
  | succ k ih =>
    intro w e
    have i := ih (w + 1) (by omega)
    have gw := tc_gs T hC (i := w) (by omega)
    have rw' := tc_rd hd hC (i := w) (by omega)
    have iw : vp_in (nI w) 64 := vp_in_nI (by omega) (by omega)
    have ml := tc_mxL (v := v) T w (by omega)
    refine br_f (nI_ge (by omega) (by omega)) (tc_un hC T hp hv (by omega) (fun y => ?_) (fun y => ?_))
    · have le := tc_Ug y
      have df : d (nI w).toNatClampNeg - d (nI v).toNatClampNeg = nI (g w - g v) := by rw [rw', rv, pk_sub le]
      refine br_f tc_10 ⟨iw, iv, ?_⟩
      by_cases z : tc_mx g v w < g w - g v
      · rw [tc_mxT y z] at i
        exact br_f (by rw [df]; exact nI_ge z (by omega)) ⟨iw, iv, nm_r df (nm_r (nI_1 w) i)⟩
      · rw [tc_mxF z] at i
        exact br_t (by rw [df]; exact nI_le (by omega) (by omega)) (nm_r (nI_1 w) i)
    · rw [tc_mxN y] at i
      exact br_t rfl (nm_r (nI_1 w) i)
theorem tc_Ylf (hC : C ≤ 64) (T : tc_T g C) (hp : tc_Pu g C p) {v : Nat} (hv : v < C) (H : post (nI (tc_cn (fun u => ¬ g u < g (u + 1)) v)) (fs, nI C, fl, b, p, d)) : ∀ k w, w + k = v → wY_leavesBefore_14 post (nI v) fs (nI C) fl b p d (k + 1) (nI (tc_cn (fun u => ¬ g u < g (u + 1)) w)) (nI w) := by
  intro k
  induction k with
  | zero =>
    intro w e
    have e' : w = v := by omega
    subst e'
    exact br_t (nI_le (Nat.le_refl _) (by omega)) H
  | succ k ih =>
    intro w e
    have i := ih (w + 1) (by omega)
    have cl := tc_cnL (fun u => tc_pa g u = w + 1) C
    refine br_f (nI_ge (by omega) (by omega)) (tc_co hC T hp (by omega) ?_)
    by_cases z : g w < g (w + 1)
    · rw [tc_cnF (q := fun u => ¬ g u < g (u + 1)) (fun y => y z)] at i
      have y := tc_lfY T (u := w) (by omega) z
      exact br_f (nI_ne0 (by omega) (by omega)) (nm_r (nI_1 w) i)
    · rw [tc_cnT (q := fun u => ¬ g u < g (u + 1)) z] at i
      rw [tc_lfN T (u := w) (by omega) z]
      exact br_t nI_0 (nm_r (nI_1 _) (nm_r (nI_1 w) i))
end
end
section
/-! each question's walk on either side, by a node and by what is none -/
section
variable {post : Int32 → Prop} {g : Nat → Nat} {L C : Nat} {o : Int32} {b a : Nat → Int32}
theorem tc_XNparent {x : Int32} (hx : x < 0 ∨ nI C ≤ x) (H : post (-1)) : wpX_parent post (nI L, nI C, o, b, a) x := by
  unfold wpX_parent
  exact tc_isN hx (br_t rfl H)
theorem tc_XNdepth {x : Int32} (hx : x < 0 ∨ nI C ≤ x) (H : post (-1)) : wpX_depth post (nI L, nI C, o, b, a) x := by
  unfold wpX_depth
  exact tc_isN hx (br_t rfl H)
theorem tc_XNsize {x : Int32} (hx : x < 0 ∨ nI C ≤ x) (H : post (-1)) : wpX_size post (nI L, nI C, o, b, a) x := by
  unfold wpX_size
  exact tc_isN hx (br_t rfl H)
theorem tc_XNchildren {x : Int32} (hx : x < 0 ∨ nI C ≤ x) (H : post (-1)) : wpX_children post (nI L, nI C, o, b, a) x := by
  unfold wpX_children
  exact tc_isN hx (br_t rfl H)
theorem tc_XNnext {x : Int32} (hx : x < 0 ∨ nI C ≤ x) (H : post (-1)) : wpX_next post (nI L, nI C, o, b, a) x := by
  unfold wpX_next
  exact tc_isN hx (br_t rfl H)
theorem tc_XNprevious {x : Int32} (hx : x < 0 ∨ nI C ≤ x) (H : post (-1)) : wpX_previous post (nI L, nI C, o, b, a) x := by
  unfold wpX_previous
  exact tc_isN hx (br_t rfl H)
theorem tc_XNheight {x : Int32} (hx : x < 0 ∨ nI C ≤ x) (H : post (-1)) : wpX_height post (nI L, nI C, o, b, a) x := by
  unfold wpX_height
  exact tc_isN hx (br_t rfl H)
theorem tc_XNleavesBefore {x : Int32} (hx : x < 0 ∨ nI C ≤ x) (H : post (-1)) : wpX_leavesBefore post (nI L, nI C, o, b, a) x := by
  unfold wpX_leavesBefore
  exact tc_isN hx (br_t rfl H)
theorem tc_XNchild {x y : Int32} (hx : x < 0 ∨ nI C ≤ x) (H : post (-1)) : wpX_child post (nI L, nI C, o, b, a) x y := by
  unfold wpX_child
  exact tc_isN hx (br_t rfl H)
theorem tc_XNaboveAt {x y : Int32} (hx : x < 0 ∨ nI C ≤ x) (H : post (-1)) : wpX_aboveAt post (nI L, nI C, o, b, a) x y := by
  unfold wpX_aboveAt
  exact tc_isN hx (br_t rfl H)
theorem tc_XNmeet {x y : Int32} (hx : x < 0 ∨ nI C ≤ x) (H : post (-1)) : wpX_meet post (nI L, nI C, o, b, a) x y := by
  unfold wpX_meet
  exact tc_isN hx (br_t rfl H)
theorem tc_XMmeet {v : Nat} {y : Int32} (hC : C ≤ 64) (hv : v < C) (hy : y < 0 ∨ nI C ≤ y) (H : post (-1)) : wpX_meet post (nI L, nI C, o, b, a) (nI v) y := by
  unfold wpX_meet
  exact tc_isY hC hv (br_f tc_10 (tc_isN hy (br_t rfl H)))
theorem tc_Xparent (hC : C ≤ 64) (T : tc_T g C) (ha : tc_Pd g C a) {v : Nat} (hv : v < C) (H : post (tc_e (tc_pa g v))) : wpX_parent post (nI L, nI C, o, b, a) (nI v) := by
  unfold wpX_parent
  refine tc_isY hC hv (br_f tc_10 ⟨vp_in_nI (by omega) (by omega), ?_⟩)
  rw [tc_rd ha hC hv]
  exact ⟨v + 1 + 1, tc_lwl (v + 1) (by omega) (by rw [tc_paX T hC ha hv]; exact H)⟩
theorem tc_Xdepth (hC : C ≤ 64) (ha : tc_Pd g C a) {v : Nat} (hv : v < C) (H : post (nI (g v))) : wpX_depth post (nI L, nI C, o, b, a) (nI v) := by
  unfold wpX_depth
  refine tc_isY hC hv (br_f tc_10 ⟨vp_in_nI (by omega) (by omega), ?_⟩)
  rw [tc_rd ha hC hv]
  exact H
theorem tc_Xsize (hC : C ≤ 64) (T : tc_T g C) (ha : tc_Pd g C a) {v : Nat} (hv : v < C) (H : post (nI (tc_cn (fun w => tc_U g v w) C))) : wpX_size post (nI L, nI C, o, b, a) (nI v) := by
  unfold wpX_size
  refine tc_isY hC hv (br_f tc_10 (tc_fp hC T ha hv (fun r F => ?_)))
  show post (nI r - nI v)
  rw [pk_sub (Nat.le_of_lt F.1), ← tc_szE F]
  exact H
theorem tc_Xchildren (hC : C ≤ 64) (T : tc_T g C) (ha : tc_Pd g C a) {v : Nat} (hv : v < C) (H : post (nI (tc_cn (fun u => tc_pa g u = v + 1) C))) : wpX_children post (nI L, nI C, o, b, a) (nI v) := by
  unfold wpX_children
  refine tc_isY hC hv (br_f tc_10 (tc_fp hC T ha hv (fun r F => nm_r (nI_1 v) ?_)))
  have f1 := F.1
  have k := tc_chl (post := post) (fl := nI L) (fo := o) (b := b) hC T ha hv F H (r - (v + 1)) (v + 1) (by omega) (by omega)
  rw [tc_cn0 (q := fun u => tc_pa g u = v + 1) (fun j hj z => by have := ((tc_Fch T F (by omega)).mp z).1; omega), nI_0] at k
  exact ⟨_, k⟩
theorem tc_Xchild (hC : C ≤ 64) (T : tc_T g C) (ha : tc_Pd g C a) {v : Nat} {d : Int32} (hv : v < C) (H : post (tc_e (tc_fi (fun w => tc_pa g w = v + 1 ∧ nI (tc_cn (fun u => tc_pa g u = v + 1) w) = d) C))) : wpX_child post (nI L, nI C, o, b, a) (nI v) d := by
  unfold wpX_child
  refine tc_isY hC hv (br_f tc_10 (tc_fp hC T ha hv (fun r F => nm_r (nI_1 v) ?_)))
  have f1 := F.1
  have n : ∀ j, j < v + 1 → ¬ tc_pa g j = v + 1 := fun j hj z => by
    have := ((tc_Fch T F (by omega)).mp z).1
    omega
  have k := tc_cdl (post := post) (fl := nI L) (fo := o) (b := b) hC T ha hv F H (r - (v + 1)) (v + 1) (by omega) (by omega) (fun j hj z => n j hj z.1)
  rw [tc_cn0 (q := fun u => tc_pa g u = v + 1) n, nI_0] at k
  exact ⟨_, k⟩
theorem tc_Xnext (hC : C ≤ 64) (T : tc_T g C) (ha : tc_Pd g C a) {v : Nat} (hv : v < C) (H : post (tc_e (tc_fi (fun w => v < w ∧ tc_pa g w = tc_pa g v) C))) : wpX_next post (nI L, nI C, o, b, a) (nI v) := by
  unfold wpX_next
  refine tc_isY hC hv (br_f tc_10 (tc_fp hC T ha hv (fun r F => ?_)))
  have f2 := F.2.1
  by_cases z : r < C
  · have gv := tc_gs T hC hv
    have gr := tc_gs T hC z
    refine br_f (nI_ge z (by omega)) ⟨vp_in_nI (by omega) (by omega), vp_in_nI (by omega) (by omega), ?_⟩
    by_cases y : g r = g v
    · rw [tc_nxY T F z y] at H
      exact br_t (by rw [tc_rd ha hC hv, tc_rd ha hC z, y]) H
    · rw [tc_nxN T F (fun _ => y)] at H
      exact br_f (by rw [tc_rd ha hC hv, tc_rd ha hC z, nI_eq (by omega) (by omega)]; exact y) H
  · rw [tc_nxN T F (fun y => absurd y z)] at H
    exact br_t (nI_le (by omega) (by omega)) H
theorem tc_Xprevious (hC : C ≤ 64) (T : tc_T g C) (ha : tc_Pd g C a) {v : Nat} (hv : v < C) (H : post (tc_e (tc_la (fun w => w < v ∧ tc_pa g w = tc_pa g v) C))) : wpX_previous post (nI L, nI C, o, b, a) (nI v) := by
  unfold wpX_previous
  exact tc_isY hC hv (br_f tc_10 (nm_r (tc_eS v) ⟨v + 1, tc_pvl hC T ha hv H v (Nat.le_refl _) (fun k x y => by omega)⟩))
theorem tc_Xmeet (hC : C ≤ 64) (T : tc_T g C) (ha : tc_Pd g C a) {v w : Nat} (hv : v < C) (hw : w < C) (H : post (tc_e (tc_la (fun u => tc_U g u v ∧ tc_U g u w) C))) : wpX_meet post (nI L, nI C, o, b, a) (nI v) (nI w) := by
  unfold wpX_meet
  refine tc_isY hC hv (br_f tc_10 (tc_isY hC hw (br_f tc_10 ?_)))
  by_cases z : w ≤ v
  · have l : nI w ≤ nI v := nI_le z (by omega)
    exact br_t l (br_t l ⟨w + 1 + 1, tc_mtl hC T ha (lo := w) (hi := v) (q := fun u => tc_U g u v ∧ tc_U g u w) (fun u => ⟨fun x => ⟨x.2, x.1⟩, fun x => ⟨x.2, x.1⟩⟩) z hv H (w + 1) (Nat.le_refl _) (fun k x y s => by have := s.2.1; omega)⟩)
  · have l : ¬ nI w ≤ nI v := nI_ge (by omega) (by omega)
    exact br_f l (br_f l ⟨v + 1 + 1, tc_mtl hC T ha (lo := v) (hi := w) (q := fun u => tc_U g u v ∧ tc_U g u w) (fun u => Iff.rfl) (by omega) hw H (v + 1) (Nat.le_refl _) (fun k x y s => by have := s.1.1; omega)⟩)
theorem tc_XaboveAt (hC : C ≤ 64) (T : tc_T g C) (ha : tc_Pd g C a) {v : Nat} {d : Int32} (hv : v < C) (H : post (tc_e (tc_fi (fun u => tc_U g u v ∧ nI (g u) = d) C))) : wpX_aboveAt post (nI L, nI C, o, b, a) (nI v) d := by
  unfold wpX_aboveAt
  refine tc_isY hC hv (br_f tc_10 ⟨vp_in_nI (by omega) (by omega), ?_⟩)
  by_cases z : d ≤ nI (g v)
  · exact br_t (by rw [tc_rd ha hC hv]; exact z) ⟨v + 1 + 1, tc_lwl (v + 1) (by omega) (by rw [tc_abv T hC ha hv z]; exact H)⟩
  · rw [tc_abN T hC hv z] at H
    exact br_f (by rw [tc_rd ha hC hv]; exact z) H
theorem tc_Xheight (hC : C ≤ 64) (T : tc_T g C) (ha : tc_Pd g C a) {v : Nat} (hv : v < C) (H : post (nI (tc_mx g v C))) : wpX_height post (nI L, nI C, o, b, a) (nI v) := by
  unfold wpX_height
  refine tc_isY hC hv (br_f tc_10 (tc_fp hC T ha hv (fun r F => ⟨vp_in_nI (by omega) (by omega), nm_r (tc_rd ha hC hv) (nm_r (nI_1 v) ?_)⟩)))
  have f1 := F.1
  have k := tc_htl (post := post) (fl := nI L) (fo := o) (b := b) hC T ha hv F H (r - (v + 1)) (v + 1) (by omega) (by omega)
  rw [tc_mx0, Nat.add_zero] at k
  exact ⟨_, k⟩
theorem tc_XleavesBefore (hC : C ≤ 64) (T : tc_T g C) (ha : tc_Pd g C a) {v : Nat} (hv : v < C) (H : post (nI (tc_cn (fun u => ¬ g u < g (u + 1)) v))) : wpX_leavesBefore post (nI L, nI C, o, b, a) (nI v) := by
  unfold wpX_leavesBefore
  refine tc_isY hC hv (br_f tc_10 ?_)
  have k := tc_lfl (post := post) (fl := nI L) (fo := o) (b := b) hC T ha hv H v 0 (by omega)
  rw [show tc_cn (fun u => ¬ g u < g (u + 1)) 0 = 0 from rfl, nI_0] at k
  exact ⟨_, k⟩
end
section
variable {post : Int32 → SY → Prop} {b : Nat → Int32} {g : Nat → Nat} {L C D : Nat} {c l : Int32} {u e : Nat → Int32}
theorem tc_YNparent {x : Int32} (hL : L ≤ 64) (hs : tc_St b g L C D) (hx : x < 0 ∨ nI C ≤ x) (H : ∀ u e, post (-1) (nI L, nI C, tc_e (tc_up g D C), b, u, e)) : wpY_parent post (nI L, c, l, b, u, e) x := by
  unfold wpY_parent
  exact tc_nodeN hL hs hx (fun u e _ _ => br_t rfl (H u e))
theorem tc_YNdepth {x : Int32} (hL : L ≤ 64) (hs : tc_St b g L C D) (hx : x < 0 ∨ nI C ≤ x) (H : ∀ u e, post (-1) (nI L, nI C, tc_e (tc_up g D C), b, u, e)) : wpY_depth post (nI L, c, l, b, u, e) x := by
  unfold wpY_depth
  exact tc_nodeN hL hs hx (fun u e _ _ => br_t rfl (H u e))
theorem tc_YNsize {x : Int32} (hL : L ≤ 64) (hs : tc_St b g L C D) (hx : x < 0 ∨ nI C ≤ x) (H : ∀ u e, post (-1) (nI L, nI C, tc_e (tc_up g D C), b, u, e)) : wpY_size post (nI L, c, l, b, u, e) x := by
  unfold wpY_size
  exact tc_nodeN hL hs hx (fun u e _ _ => br_t rfl (H u e))
theorem tc_YNchildren {x : Int32} (hL : L ≤ 64) (hs : tc_St b g L C D) (hx : x < 0 ∨ nI C ≤ x) (H : ∀ u e, post (-1) (nI L, nI C, tc_e (tc_up g D C), b, u, e)) : wpY_children post (nI L, c, l, b, u, e) x := by
  unfold wpY_children
  exact tc_nodeN hL hs hx (fun u e _ _ => br_t rfl (H u e))
theorem tc_YNheight {x : Int32} (hL : L ≤ 64) (hs : tc_St b g L C D) (hx : x < 0 ∨ nI C ≤ x) (H : ∀ u e, post (-1) (nI L, nI C, tc_e (tc_up g D C), b, u, e)) : wpY_height post (nI L, c, l, b, u, e) x := by
  unfold wpY_height
  exact tc_nodeN hL hs hx (fun u e _ _ => br_t rfl (H u e))
theorem tc_YNleavesBefore {x : Int32} (hL : L ≤ 64) (hs : tc_St b g L C D) (hx : x < 0 ∨ nI C ≤ x) (H : ∀ u e, post (-1) (nI L, nI C, tc_e (tc_up g D C), b, u, e)) : wpY_leavesBefore post (nI L, c, l, b, u, e) x := by
  unfold wpY_leavesBefore
  exact tc_nodeN hL hs hx (fun u e _ _ => br_t rfl (H u e))
theorem tc_YNchild {x y : Int32} (hL : L ≤ 64) (hs : tc_St b g L C D) (hx : x < 0 ∨ nI C ≤ x) (H : ∀ u e, post (-1) (nI L, nI C, tc_e (tc_up g D C), b, u, e)) : wpY_child post (nI L, c, l, b, u, e) x y := by
  unfold wpY_child
  exact tc_nodeN hL hs hx (fun u e _ _ => ⟨1, br_c (fun _ => H u e) (fun _ => br_t rfl (H u e))⟩)
theorem tc_YNaboveAt {x y : Int32} (hL : L ≤ 64) (hs : tc_St b g L C D) (hx : x < 0 ∨ nI C ≤ x) (H : ∀ u e, post (-1) (nI L, nI C, tc_e (tc_up g D C), b, u, e)) : wpY_aboveAt post (nI L, c, l, b, u, e) x y := by
  unfold wpY_aboveAt
  exact tc_nodeN hL hs hx (fun u e _ _ => ⟨1, br_c (fun _ => H u e) (fun _ => br_t rfl (H u e))⟩)
theorem tc_YNnext {x : Int32} (hL : L ≤ 64) (hs : tc_St b g L C D) (hx : x < 0 ∨ nI C ≤ x) (H : ∀ u e, post (-1) (nI L, nI C, tc_e (tc_up g D C), b, u, e)) : wpY_next post (nI L, c, l, b, u, e) x := by
  unfold wpY_next
  exact tc_nodeN hL hs hx (fun u e _ _ => ⟨1, br_c (fun _ => H u e) (fun _ => br_t rfl (H u e))⟩)
theorem tc_YNmeet {x y : Int32} (hL : L ≤ 64) (hs : tc_St b g L C D) (hx : x < 0 ∨ nI C ≤ x) (H : ∀ u e, post (-1) (nI L, nI C, tc_e (tc_up g D C), b, u, e)) : wpY_meet post (nI L, c, l, b, u, e) x y := by
  unfold wpY_meet
  exact tc_nodeN hL hs hx (fun u e _ _ => br_t rfl ⟨1, br_c (fun _ => H u e) (fun _ => br_t rfl (H u e))⟩)
theorem tc_YNprevious {x : Int32} (hL : L ≤ 64) (hs : tc_St b g L C D) (hx : x < 0 ∨ nI C ≤ x) (H : ∀ u e, post (-1) (nI L, nI C, tc_e (tc_up g D C), b, u, e)) : wpY_previous post (nI L, c, l, b, u, e) x := by
  unfold wpY_previous
  exact tc_nodeN hL hs hx (fun u e _ _ => nm_e ⟨1, br_c (fun _ => H u e) (fun _ => br_t rfl (H u e))⟩)
theorem tc_Yparent {v : Nat} (hL : L ≤ 64) (hs : tc_St b g L C D) (hv : v < C) (H : ∀ u e, post (tc_e (tc_pa g v)) (nI L, nI C, tc_e (tc_up g D C), b, u, e)) : wpY_parent post (nI L, c, l, b, u, e) (nI v) := by
  have c1 := tc_StC hs
  have hC : C ≤ 64 := by omega
  have T := (tc_StT hs).1
  unfold wpY_parent
  refine tc_nodeY hL hs hv (fun u e hu he => ?_)
  refine br_f tc_10 ⟨vp_in_nI (by omega) (by omega), ?_⟩
  rw [tc_ru hu hC hv]
  exact H u e
theorem tc_Ydepth {v : Nat} (hL : L ≤ 64) (hs : tc_St b g L C D) (hv : v < C) (H : ∀ u e, post (nI (g v)) (nI L, nI C, tc_e (tc_up g D C), b, u, e)) : wpY_depth post (nI L, c, l, b, u, e) (nI v) := by
  have c1 := tc_StC hs
  have hC : C ≤ 64 := by omega
  have T := (tc_StT hs).1
  unfold wpY_depth
  refine tc_nodeY hL hs hv (fun u e hu he => ?_)
  refine br_f tc_10 ⟨vp_in_nI (by omega) (by omega), ?_⟩
  rw [tc_rd he hC hv]
  exact H u e
theorem tc_Ysize {v : Nat} (hL : L ≤ 64) (hs : tc_St b g L C D) (hv : v < C) (H : ∀ u e, post (nI (tc_cn (fun w => tc_U g v w) C)) (nI L, nI C, tc_e (tc_up g D C), b, u, e)) : wpY_size post (nI L, c, l, b, u, e) (nI v) := by
  have c1 := tc_StC hs
  have hC : C ≤ 64 := by omega
  have T := (tc_StT hs).1
  unfold wpY_size
  refine tc_nodeY hL hs hv (fun u e hu he => ?_)
  refine br_f tc_10 ?_
  have k := tc_Ysz hC T hu hv (H u e) C 0 (by omega)
  rw [show tc_cn (fun w => tc_U g v w) 0 = 0 from rfl, nI_0] at k
  exact ⟨_, k⟩
theorem tc_Ychildren {v : Nat} (hL : L ≤ 64) (hs : tc_St b g L C D) (hv : v < C) (H : ∀ u e, post (nI (tc_cn (fun u => tc_pa g u = v + 1) C)) (nI L, nI C, tc_e (tc_up g D C), b, u, e)) : wpY_children post (nI L, c, l, b, u, e) (nI v) := by
  have c1 := tc_StC hs
  have hC : C ≤ 64 := by omega
  have T := (tc_StT hs).1
  unfold wpY_children
  refine tc_nodeY hL hs hv (fun u e hu he => ?_)
  exact br_f tc_10 (tc_co hC T hu hv (H u e))
theorem tc_Ychild {v : Nat} {x : Int32} (hL : L ≤ 64) (hs : tc_St b g L C D) (hv : v < C) (H : ∀ u e, post (tc_e (tc_fi (fun w => tc_pa g w = v + 1 ∧ nI (tc_cn (fun u => tc_pa g u = v + 1) w) = x) C)) (nI L, nI C, tc_e (tc_up g D C), b, u, e)) : wpY_child post (nI L, c, l, b, u, e) (nI v) x := by
  have c1 := tc_StC hs
  have hC : C ≤ 64 := by omega
  have T := (tc_StT hs).1
  unfold wpY_child
  refine tc_nodeY hL hs hv (fun u e hu he => ?_)
  have k := tc_Ycd hC T hu hv (H u e) C 0 (by omega) (fun j hj => by omega)
  rw [show tc_cn (fun u => tc_pa g u = v + 1) 0 = 0 from rfl, nI_0] at k
  exact ⟨_, k⟩
theorem tc_Ynext {v : Nat} (hL : L ≤ 64) (hs : tc_St b g L C D) (hv : v < C) (H : ∀ u e, post (tc_e (tc_fi (fun w => v < w ∧ tc_pa g w = tc_pa g v) C)) (nI L, nI C, tc_e (tc_up g D C), b, u, e)) : wpY_next post (nI L, c, l, b, u, e) (nI v) := by
  have c1 := tc_StC hs
  have hC : C ≤ 64 := by omega
  have T := (tc_StT hs).1
  unfold wpY_next
  refine tc_nodeY hL hs hv (fun u e hu he => ?_)
  have k := tc_Ynx hC T hu hv (H u e) C 0 (by omega) (fun j hj => by omega)
  rw [nI_0] at k
  exact ⟨_, k⟩
theorem tc_Yprevious {v : Nat} (hL : L ≤ 64) (hs : tc_St b g L C D) (hv : v < C) (H : ∀ u e, post (tc_e (tc_la (fun w => w < v ∧ tc_pa g w = tc_pa g v) C)) (nI L, nI C, tc_e (tc_up g D C), b, u, e)) : wpY_previous post (nI L, c, l, b, u, e) (nI v) := by
  have c1 := tc_StC hs
  have hC : C ≤ 64 := by omega
  have T := (tc_StT hs).1
  unfold wpY_previous
  refine tc_nodeY hL hs hv (fun u e hu he => ?_)
  exact nm_r (tc_eS C) ⟨C + 1, tc_Ypv hC T hu hv C (Nat.le_refl _) (H u e)⟩
theorem tc_YaboveAt {v : Nat} {x : Int32} (hL : L ≤ 64) (hs : tc_St b g L C D) (hv : v < C) (H : ∀ u e, post (tc_e (tc_fi (fun u => tc_U g u v ∧ nI (g u) = x) C)) (nI L, nI C, tc_e (tc_up g D C), b, u, e)) : wpY_aboveAt post (nI L, c, l, b, u, e) (nI v) x := by
  have c1 := tc_StC hs
  have hC : C ≤ 64 := by omega
  have T := (tc_StT hs).1
  unfold wpY_aboveAt
  refine tc_nodeY hL hs hv (fun u e hu he => ?_)
  have k := tc_Yab hC T hu he hv (H u e) C 0 (by omega) (fun j hj => by omega)
  rw [nI_0] at k
  exact ⟨_, k⟩
theorem tc_Yheight {v : Nat} (hL : L ≤ 64) (hs : tc_St b g L C D) (hv : v < C) (H : ∀ u e, post (nI (tc_mx g v C)) (nI L, nI C, tc_e (tc_up g D C), b, u, e)) : wpY_height post (nI L, c, l, b, u, e) (nI v) := by
  have c1 := tc_StC hs
  have hC : C ≤ 64 := by omega
  have T := (tc_StT hs).1
  unfold wpY_height
  refine tc_nodeY hL hs hv (fun u e hu he => ?_)
  refine br_f tc_10 ?_
  have k := tc_Yht hC T hu he hv (H u e) C 0 (by omega)
  rw [show tc_mx g v 0 = 0 from rfl, nI_0] at k
  exact ⟨_, k⟩
theorem tc_YleavesBefore {v : Nat} (hL : L ≤ 64) (hs : tc_St b g L C D) (hv : v < C) (H : ∀ u e, post (nI (tc_cn (fun u => ¬ g u < g (u + 1)) v)) (nI L, nI C, tc_e (tc_up g D C), b, u, e)) : wpY_leavesBefore post (nI L, c, l, b, u, e) (nI v) := by
  have c1 := tc_StC hs
  have hC : C ≤ 64 := by omega
  have T := (tc_StT hs).1
  unfold wpY_leavesBefore
  refine tc_nodeY hL hs hv (fun u e hu he => ?_)
  refine br_f tc_10 ?_
  have k := tc_Ylf hC T hu hv (H u e) v 0 (by omega)
  rw [show tc_cn (fun u => ¬ g u < g (u + 1)) 0 = 0 from rfl, nI_0] at k
  exact ⟨_, k⟩
theorem tc_Ymeet {v : Nat} {w : Nat} (hw : w < C) (hL : L ≤ 64) (hs : tc_St b g L C D) (hv : v < C) (H : ∀ u e, post (tc_e (tc_la (fun u => tc_U g u v ∧ tc_U g u w) C)) (nI L, nI C, tc_e (tc_up g D C), b, u, e)) : wpY_meet post (nI L, c, l, b, u, e) (nI v) (nI w) := by
  have c1 := tc_StC hs
  have hC : C ≤ 64 := by omega
  have T := (tc_StT hs).1
  unfold wpY_meet
  refine tc_nodeY hL hs hv (fun u e hu he => ?_)
  refine br_f tc_10 (tc_nodeY hL hs hw (fun u e hu he => br_f tc_10 ?_))
  have k := tc_Ymt hC T hu he hv hw (H u e) C 0 (by omega)
  rw [show tc_la (fun u => tc_U g u v ∧ tc_U g u w) 0 = 0 from rfl, nI_0] at k
  exact ⟨_, k⟩
theorem tc_YMmeet {v : Nat} {y : Int32} (hL : L ≤ 64) (hs : tc_St b g L C D) (hv : v < C) (hy : y < 0 ∨ nI C ≤ y) (H : ∀ u e, post (-1) (nI L, nI C, tc_e (tc_up g D C), b, u, e)) : wpY_meet post (nI L, c, l, b, u, e) (nI v) y := by
  unfold wpY_meet
  exact tc_nodeY hL hs hv (fun u e _ _ => br_f tc_10 (tc_nodeN hL hs hy (fun u e _ _ => br_t rfl ⟨1, br_c (fun _ => H u e) (fun _ => br_t rfl (H u e))⟩)))
end
end
section
/-- the same brackets on either side; the class holds the depths of the nodes that are begun -/
def i_Rel (k : Nat) (u : SX) (v : SY) : Prop := ∃ (L C D : Nat) (b : Nat → Int32) (g : Nat → Nat) (a : Nat → Int32) (c l : Int32) (p e : Nat → Int32), u = (nI L, nI C, nI D, b, a) ∧ v = (nI L, c, l, b, p, e) ∧ L ≤ 64 ∧ tc_St b g L C D ∧ tc_Pd g C a
theorem tc_R {k L C D : Nat} {b : Nat → Int32} {g : Nat → Nat} {a : Nat → Int32} {c l : Int32} {p e : Nat → Int32} (hL : L ≤ 64) (hs : tc_St b g L C D) (ha : tc_Pd g C a) : i_Rel k (nI L, nI C, nI D, b, a) (nI L, c, l, b, p, e) :=
  ⟨L, C, D, b, g, a, c, l, p, e, rfl, rfl, hL, hs, ha⟩
theorem tc_b1 : ¬ vp_nar .boolean 1 = 0 := by decide +kernel
theorem tc_b0 : vp_nar .boolean 0 = 0 := by decide +kernel
theorem i_up {k : Nat} {u : SX} {v : SY} (h : i_Rel k u v) : i_Rel (k + 3) u v := h
theorem i_vc0 : wpX_init (fun u => wpY_init (fun v => i_Rel 0 u v)) := by
  have R : i_Rel 0 (nI 0, nI 0, nI 0, fun _ => 0, fun _ => 0) (nI 0, 0, 0, fun _ => 0, fun _ => 0, fun _ => 0) :=
    tc_R (g := fun _ => 0) (by omega) ⟨rfl, rfl⟩ (fun i hi => absurd hi (by omega))
  rw [nI_0] at R
  exact R
theorem i_vc_open {k : Nat} {u : SX} {v : SY} (I : i_Rel k u v) (hk : k + 3 ≤ 1536) : wpX_open (fun r u' => wpY_open (fun r' v' => r' = r ∧ i_Rel (k + 3) u' v') v) u := by
  obtain ⟨L, C, D, b, g, a, c, l, p, e, rfl, rfl, hL, hs, ha⟩ := I
  have c1 := tc_StC hs
  by_cases z : L < 64
  · have lt : nI L < 64 := nI_lt (b := 64) z (by decide)
    have il : vp_in (nI L) 64 := vp_in_nI z (by decide)
    have cl : (nI L).toNatClampNeg = L := nI_clamp (by omega)
    have cc : (nI C).toNatClampNeg = C := nI_clamp (by omega)
    refine br_t lt ⟨il, nm_e ⟨vp_in_nI (by omega) (by decide), nm_e (nm_r (nI_1 L) (nm_r (nI_1 C) (nm_r (nI_1 D) ?_)))⟩⟩
    refine br_t lt ⟨il, nm_e (nm_r (nI_1 L) ?_)⟩
    rw [cl, cc]
    have s' : tc_St (upd b L (vp_nar .boolean 1)) (fun i => if i = C then D else g i) (L + 1) (C + 1) (D + 1) := by
      refine Or.inl ⟨by rw [pk_us]; exact tc_b1, C, D, rfl, rfl, if_pos rfl, ?_⟩
      refine tc_Stb (fun i hi => (pk_un (by omega)).symm) (tc_Stg (fun i hi => ?_) hs)
      exact (if_neg (by omega)).symm
    have a' : tc_Pd (fun i => if i = C then D else g i) (C + 1) (upd a C (nI D)) := by
      intro i hi
      by_cases y : i = C
      · subst y
        rw [pk_us]
        exact congrArg nI (if_pos rfl).symm
      · rw [pk_un y, ha i (by omega)]
        exact congrArg nI (if_neg y).symm
    exact tc_work (by omega) s' (fun u e _ _ => ⟨nI_pred C, tc_R (by omega) s' a'⟩)
  · have e64 : L = 64 := by omega
    have nlt : ¬ nI L < 64 := nI_nlt (b := 64) (by omega) (by omega)
    exact br_f nlt (br_f nlt ⟨rfl, tc_R hL hs ha⟩)
theorem i_vc_close {k : Nat} {u : SX} {v : SY} (I : i_Rel k u v) (hk : k + 3 ≤ 1536) : wpX_close (fun r u' => wpY_close (fun r' v' => r' = r ∧ i_Rel (k + 3) u' v') v) u := by
  obtain ⟨L, C, D, b, g, a, c, l, p, e, rfl, rfl, hL, hs, ha⟩ := I
  have c1 := tc_StC hs
  have hC : C ≤ 64 := by omega
  have T := (tc_StT hs).1
  obtain ⟨_, z0, n0⟩ := tc_StT hs
  have up := tc_upS T (Nat.le_refl _) z0 n0
  cases D with
  | zero =>
    rcases up with ⟨x, _⟩ | ⟨j, _, _, y, _⟩
    · refine br_t nI_0 ?_
      unfold wpY_close
      exact tc_work hL hs (fun u e _ _ => br_f (by rw [x]; decide +kernel) ⟨rfl, tc_R hL hs ha⟩)
    · omega
  | succ D =>
    rcases up with ⟨_, x⟩ | ⟨j, x, lj, y, n⟩
    · omega
    · have last : (0 : Int32) ≤ tc_e (tc_up g (D + 1) C) := by rw [x]; exact nI_pos' (n := j) (by omega)
      refine br_f (nI_ne0 (by omega) (by omega)) ?_
      by_cases z : L < 64
      · have lt : nI L < 64 := nI_lt (b := 64) z (by decide)
        have il : vp_in (nI L) 64 := vp_in_nI z (by decide)
        have cl : (nI L).toNatClampNeg = L := nI_clamp (by omega)
        have s' : tc_St (upd b L (vp_nar .boolean 0)) g (L + 1) C D :=
          Or.inr ⟨by rw [pk_us]; exact tc_b0, tc_Stb (fun i hi => (pk_un (by omega)).symm) hs⟩
        refine br_t lt ⟨il, nm_e (nm_r (nI_1 L) (nm_e ?_))⟩
        rw [tc_eS C]
        refine ⟨C + 1, tc_lwl C hC ?_⟩
        rw [tc_lwD T hC ha (Nat.le_refl _) z0 n0 (by omega), cl, nI_pred]
        unfold wpY_close
        refine tc_work hL hs (fun u e _ _ => br_t last (br_t lt ⟨il, nm_e (nm_r (nI_1 L) ⟨rfl, ?_⟩)⟩))
        rw [cl]
        exact tc_R (by omega) s' ha
      · have nlt : ¬ nI L < 64 := nI_nlt (b := 64) (by omega) (by omega)
        refine br_f nlt ?_
        unfold wpY_close
        exact tc_work hL hs (fun u e _ _ => br_t last (br_f nlt ⟨rfl, tc_R hL hs ha⟩))
theorem i_vc_undo {k : Nat} {u : SX} {v : SY} (I : i_Rel k u v) (hk : k + 3 ≤ 1536) : wpX_undo (fun r u' => wpY_undo (fun r' v' => r' = r ∧ i_Rel (k + 3) u' v') v) u := by
  obtain ⟨L, C, D, b, g, a, c, l, p, e, rfl, rfl, hL, hs, ha⟩ := I
  have c1 := tc_StC hs
  cases L with
  | zero => exact br_t nI_0 (br_t nI_0 ⟨rfl, tc_R hL hs ha⟩)
  | succ L =>
    have ne : ¬ nI (L + 1) = 0 := nI_ne0 (by omega) (by omega)
    have cl : (nI L).toNatClampNeg = L := nI_clamp (by omega)
    refine br_f ne (nm_r (nI_pred L) ⟨vp_in_nI (by omega) (by omega), ?_⟩)
    rcases hs with ⟨hb, C', D', rfl, rfl, _, hs⟩ | ⟨hb, hs⟩
    · refine br_f (by rw [cl]; exact hb) (nm_r (nI_pred C') (nm_r (nI_pred D') ?_))
      exact br_f ne (nm_r (nI_pred L) ⟨rfl, tc_R (by omega) hs (fun i hi => ha i (by omega))⟩)
    · refine br_t (by rw [cl]; exact hb) (nm_r (nI_1 D) ?_)
      exact br_f ne (nm_r (nI_pred L) ⟨rfl, tc_R (by omega) hs ha⟩)
theorem i_vc_nodes {k : Nat} {u : SX} {v : SY} (I : i_Rel k u v) (hk : k + 3 ≤ 1536) : wpX_nodes (fun r => wpY_nodes (fun r' v' => r' = r ∧ i_Rel (k + 3) u v') v) u := by
  obtain ⟨L, C, D, b, g, a, c, l, p, e, rfl, rfl, hL, hs, ha⟩ := I
  unfold wpX_nodes wpY_nodes
  exact tc_work hL hs (fun u e _ _ => ⟨rfl, tc_R hL hs ha⟩)
theorem i_vc_openNodes {k : Nat} {u : SX} {v : SY} (I : i_Rel k u v) (hk : k + 3 ≤ 1536) : wpX_openNodes (fun r => wpY_openNodes (fun r' v' => r' = r ∧ i_Rel (k + 3) u v') v) u := by
  obtain ⟨L, C, D, b, g, a, c, l, p, e, rfl, rfl, hL, hs, ha⟩ := I
  have c1 := tc_StC hs
  have hC : C ≤ 64 := by omega
  have T := (tc_StT hs).1
  obtain ⟨_, z0, n0⟩ := tc_StT hs
  unfold wpX_openNodes wpY_openNodes
  refine tc_work hL hs (fun u e _ he => ?_)
  rcases tc_upS T (Nat.le_refl _) z0 n0 with ⟨x, y⟩ | ⟨j, x, lj, y, _⟩
  · refine br_f (by rw [x]; decide +kernel) ⟨by rw [y, nI_0], tc_R hL hs ha⟩
  · have ej : tc_e (tc_up g D C) = nI j := by rw [x]; exact rfl
    refine br_t (by rw [ej]; exact nI_pos' (by omega)) ⟨by rw [ej]; exact vp_in_nI (by omega) (by omega), ?_, tc_R hL hs ha⟩
    rw [ej, tc_rd he hC lj, nI_1, y]
theorem i_vc_parent {k : Nat} {u : SX} {v : SY} (I : i_Rel k u v) (hk : k + 3 ≤ 1536) (v1 : Int32) : wpX_parent (fun r => wpY_parent (fun r' v' => r' = r ∧ i_Rel (k + 3) u v') v v1) u v1 := by
  obtain ⟨L, C, D, b, g, a, c, l, p, e, rfl, rfl, hL, hs, ha⟩ := I
  have c1 := tc_StC hs
  have hC : C ≤ 64 := by omega
  have T := (tc_StT hs).1
  rcases pk_ix v1 (n := C) (by omega) with h | h | ⟨w, hw, rfl⟩
  · exact tc_XNparent (Or.inl h) (tc_YNparent hL hs (Or.inl h) (fun _ _ => ⟨rfl, tc_R hL hs ha⟩))
  · exact tc_XNparent (Or.inr h) (tc_YNparent hL hs (Or.inr h) (fun _ _ => ⟨rfl, tc_R hL hs ha⟩))
  · exact tc_Xparent hC T ha hw (tc_Yparent hL hs hw (fun _ _ => ⟨rfl, tc_R hL hs ha⟩))
theorem i_vc_depth {k : Nat} {u : SX} {v : SY} (I : i_Rel k u v) (hk : k + 3 ≤ 1536) (v1 : Int32) : wpX_depth (fun r => wpY_depth (fun r' v' => r' = r ∧ i_Rel (k + 3) u v') v v1) u v1 := by
  obtain ⟨L, C, D, b, g, a, c, l, p, e, rfl, rfl, hL, hs, ha⟩ := I
  have c1 := tc_StC hs
  have hC : C ≤ 64 := by omega
  have T := (tc_StT hs).1
  rcases pk_ix v1 (n := C) (by omega) with h | h | ⟨w, hw, rfl⟩
  · exact tc_XNdepth (Or.inl h) (tc_YNdepth hL hs (Or.inl h) (fun _ _ => ⟨rfl, tc_R hL hs ha⟩))
  · exact tc_XNdepth (Or.inr h) (tc_YNdepth hL hs (Or.inr h) (fun _ _ => ⟨rfl, tc_R hL hs ha⟩))
  · exact tc_Xdepth hC ha hw (tc_Ydepth hL hs hw (fun _ _ => ⟨rfl, tc_R hL hs ha⟩))
theorem i_vc_size {k : Nat} {u : SX} {v : SY} (I : i_Rel k u v) (hk : k + 3 ≤ 1536) (v1 : Int32) : wpX_size (fun r => wpY_size (fun r' v' => r' = r ∧ i_Rel (k + 3) u v') v v1) u v1 := by
  obtain ⟨L, C, D, b, g, a, c, l, p, e, rfl, rfl, hL, hs, ha⟩ := I
  have c1 := tc_StC hs
  have hC : C ≤ 64 := by omega
  have T := (tc_StT hs).1
  rcases pk_ix v1 (n := C) (by omega) with h | h | ⟨w, hw, rfl⟩
  · exact tc_XNsize (Or.inl h) (tc_YNsize hL hs (Or.inl h) (fun _ _ => ⟨rfl, tc_R hL hs ha⟩))
  · exact tc_XNsize (Or.inr h) (tc_YNsize hL hs (Or.inr h) (fun _ _ => ⟨rfl, tc_R hL hs ha⟩))
  · exact tc_Xsize hC T ha hw (tc_Ysize hL hs hw (fun _ _ => ⟨rfl, tc_R hL hs ha⟩))
theorem i_vc_children {k : Nat} {u : SX} {v : SY} (I : i_Rel k u v) (hk : k + 3 ≤ 1536) (v1 : Int32) : wpX_children (fun r => wpY_children (fun r' v' => r' = r ∧ i_Rel (k + 3) u v') v v1) u v1 := by
  obtain ⟨L, C, D, b, g, a, c, l, p, e, rfl, rfl, hL, hs, ha⟩ := I
  have c1 := tc_StC hs
  have hC : C ≤ 64 := by omega
  have T := (tc_StT hs).1
  rcases pk_ix v1 (n := C) (by omega) with h | h | ⟨w, hw, rfl⟩
  · exact tc_XNchildren (Or.inl h) (tc_YNchildren hL hs (Or.inl h) (fun _ _ => ⟨rfl, tc_R hL hs ha⟩))
  · exact tc_XNchildren (Or.inr h) (tc_YNchildren hL hs (Or.inr h) (fun _ _ => ⟨rfl, tc_R hL hs ha⟩))
  · exact tc_Xchildren hC T ha hw (tc_Ychildren hL hs hw (fun _ _ => ⟨rfl, tc_R hL hs ha⟩))
theorem i_vc_next {k : Nat} {u : SX} {v : SY} (I : i_Rel k u v) (hk : k + 3 ≤ 1536) (v1 : Int32) : wpX_next (fun r => wpY_next (fun r' v' => r' = r ∧ i_Rel (k + 3) u v') v v1) u v1 := by
  obtain ⟨L, C, D, b, g, a, c, l, p, e, rfl, rfl, hL, hs, ha⟩ := I
  have c1 := tc_StC hs
  have hC : C ≤ 64 := by omega
  have T := (tc_StT hs).1
  rcases pk_ix v1 (n := C) (by omega) with h | h | ⟨w, hw, rfl⟩
  · exact tc_XNnext (Or.inl h) (tc_YNnext hL hs (Or.inl h) (fun _ _ => ⟨rfl, tc_R hL hs ha⟩))
  · exact tc_XNnext (Or.inr h) (tc_YNnext hL hs (Or.inr h) (fun _ _ => ⟨rfl, tc_R hL hs ha⟩))
  · exact tc_Xnext hC T ha hw (tc_Ynext hL hs hw (fun _ _ => ⟨rfl, tc_R hL hs ha⟩))
theorem i_vc_previous {k : Nat} {u : SX} {v : SY} (I : i_Rel k u v) (hk : k + 3 ≤ 1536) (v1 : Int32) : wpX_previous (fun r => wpY_previous (fun r' v' => r' = r ∧ i_Rel (k + 3) u v') v v1) u v1 := by
  obtain ⟨L, C, D, b, g, a, c, l, p, e, rfl, rfl, hL, hs, ha⟩ := I
  have c1 := tc_StC hs
  have hC : C ≤ 64 := by omega
  have T := (tc_StT hs).1
  rcases pk_ix v1 (n := C) (by omega) with h | h | ⟨w, hw, rfl⟩
  · exact tc_XNprevious (Or.inl h) (tc_YNprevious hL hs (Or.inl h) (fun _ _ => ⟨rfl, tc_R hL hs ha⟩))
  · exact tc_XNprevious (Or.inr h) (tc_YNprevious hL hs (Or.inr h) (fun _ _ => ⟨rfl, tc_R hL hs ha⟩))
  · exact tc_Xprevious hC T ha hw (tc_Yprevious hL hs hw (fun _ _ => ⟨rfl, tc_R hL hs ha⟩))
theorem i_vc_height {k : Nat} {u : SX} {v : SY} (I : i_Rel k u v) (hk : k + 3 ≤ 1536) (v1 : Int32) : wpX_height (fun r => wpY_height (fun r' v' => r' = r ∧ i_Rel (k + 3) u v') v v1) u v1 := by
  obtain ⟨L, C, D, b, g, a, c, l, p, e, rfl, rfl, hL, hs, ha⟩ := I
  have c1 := tc_StC hs
  have hC : C ≤ 64 := by omega
  have T := (tc_StT hs).1
  rcases pk_ix v1 (n := C) (by omega) with h | h | ⟨w, hw, rfl⟩
  · exact tc_XNheight (Or.inl h) (tc_YNheight hL hs (Or.inl h) (fun _ _ => ⟨rfl, tc_R hL hs ha⟩))
  · exact tc_XNheight (Or.inr h) (tc_YNheight hL hs (Or.inr h) (fun _ _ => ⟨rfl, tc_R hL hs ha⟩))
  · exact tc_Xheight hC T ha hw (tc_Yheight hL hs hw (fun _ _ => ⟨rfl, tc_R hL hs ha⟩))
theorem i_vc_leavesBefore {k : Nat} {u : SX} {v : SY} (I : i_Rel k u v) (hk : k + 3 ≤ 1536) (v1 : Int32) : wpX_leavesBefore (fun r => wpY_leavesBefore (fun r' v' => r' = r ∧ i_Rel (k + 3) u v') v v1) u v1 := by
  obtain ⟨L, C, D, b, g, a, c, l, p, e, rfl, rfl, hL, hs, ha⟩ := I
  have c1 := tc_StC hs
  have hC : C ≤ 64 := by omega
  have T := (tc_StT hs).1
  rcases pk_ix v1 (n := C) (by omega) with h | h | ⟨w, hw, rfl⟩
  · exact tc_XNleavesBefore (Or.inl h) (tc_YNleavesBefore hL hs (Or.inl h) (fun _ _ => ⟨rfl, tc_R hL hs ha⟩))
  · exact tc_XNleavesBefore (Or.inr h) (tc_YNleavesBefore hL hs (Or.inr h) (fun _ _ => ⟨rfl, tc_R hL hs ha⟩))
  · exact tc_XleavesBefore hC T ha hw (tc_YleavesBefore hL hs hw (fun _ _ => ⟨rfl, tc_R hL hs ha⟩))
theorem i_vc_child {k : Nat} {u : SX} {v : SY} (I : i_Rel k u v) (hk : k + 3 ≤ 1536) (v1 : Int32) (v2 : Int32) : wpX_child (fun r => wpY_child (fun r' v' => r' = r ∧ i_Rel (k + 3) u v') v v1 v2) u v1 v2 := by
  obtain ⟨L, C, D, b, g, a, c, l, p, e, rfl, rfl, hL, hs, ha⟩ := I
  have c1 := tc_StC hs
  have hC : C ≤ 64 := by omega
  have T := (tc_StT hs).1
  rcases pk_ix v1 (n := C) (by omega) with h | h | ⟨w, hw, rfl⟩
  · exact tc_XNchild (Or.inl h) (tc_YNchild hL hs (Or.inl h) (fun _ _ => ⟨rfl, tc_R hL hs ha⟩))
  · exact tc_XNchild (Or.inr h) (tc_YNchild hL hs (Or.inr h) (fun _ _ => ⟨rfl, tc_R hL hs ha⟩))
  · exact tc_Xchild hC T ha hw (tc_Ychild hL hs hw (fun _ _ => ⟨rfl, tc_R hL hs ha⟩))
theorem i_vc_aboveAt {k : Nat} {u : SX} {v : SY} (I : i_Rel k u v) (hk : k + 3 ≤ 1536) (v1 : Int32) (v2 : Int32) : wpX_aboveAt (fun r => wpY_aboveAt (fun r' v' => r' = r ∧ i_Rel (k + 3) u v') v v1 v2) u v1 v2 := by
  obtain ⟨L, C, D, b, g, a, c, l, p, e, rfl, rfl, hL, hs, ha⟩ := I
  have c1 := tc_StC hs
  have hC : C ≤ 64 := by omega
  have T := (tc_StT hs).1
  rcases pk_ix v1 (n := C) (by omega) with h | h | ⟨w, hw, rfl⟩
  · exact tc_XNaboveAt (Or.inl h) (tc_YNaboveAt hL hs (Or.inl h) (fun _ _ => ⟨rfl, tc_R hL hs ha⟩))
  · exact tc_XNaboveAt (Or.inr h) (tc_YNaboveAt hL hs (Or.inr h) (fun _ _ => ⟨rfl, tc_R hL hs ha⟩))
  · exact tc_XaboveAt hC T ha hw (tc_YaboveAt hL hs hw (fun _ _ => ⟨rfl, tc_R hL hs ha⟩))
theorem i_vc_meet {k : Nat} {u : SX} {v : SY} (I : i_Rel k u v) (hk : k + 3 ≤ 1536) (v1 : Int32) (v2 : Int32) : wpX_meet (fun r => wpY_meet (fun r' v' => r' = r ∧ i_Rel (k + 3) u v') v v1 v2) u v1 v2 := by
  obtain ⟨L, C, D, b, g, a, c, l, p, e, rfl, rfl, hL, hs, ha⟩ := I
  have c1 := tc_StC hs
  have hC : C ≤ 64 := by omega
  have T := (tc_StT hs).1
  rcases pk_ix v1 (n := C) (by omega) with h | h | ⟨w, hw, rfl⟩
  · exact tc_XNmeet (Or.inl h) (tc_YNmeet hL hs (Or.inl h) (fun _ _ => ⟨rfl, tc_R hL hs ha⟩))
  · exact tc_XNmeet (Or.inr h) (tc_YNmeet hL hs (Or.inr h) (fun _ _ => ⟨rfl, tc_R hL hs ha⟩))
  · rcases pk_ix v2 (n := C) (by omega) with h | h | ⟨x, hx, rfl⟩
    · exact tc_XMmeet hC hw (Or.inl h) (tc_YMmeet hL hs hw (Or.inl h) (fun _ _ => ⟨rfl, tc_R hL hs ha⟩))
    · exact tc_XMmeet hC hw (Or.inr h) (tc_YMmeet hL hs hw (Or.inr h) (fun _ _ => ⟨rfl, tc_R hL hs ha⟩))
    · exact tc_Xmeet hC T ha hw hx (tc_Ymeet hx hL hs hw (fun _ _ => ⟨rfl, tc_R hL hs ha⟩))
end
