/-! each question's answer, by the first past v and by the parents -/
theorem tc_paG {g : Nat → Nat} {C v w : Nat} (T : tc_T g C) (hw : w < C) (h : v < w) (y : g v < g w) : v < tc_pa g w := by
  rcases tc_paS T hw with ⟨_, z⟩ | ⟨j, e, l, z, n⟩
  · omega
  · rw [e]
    by_cases x : j < v
    · have m := n v x h
      omega
    · omega
theorem tc_paE {g : Nat → Nat} {C v r : Nat} (T : tc_T g C) (hv : v < r) (hr : r < C) (e : g r = g v) (n : ∀ k, v < k → k < r → g v < g k) : tc_pa g r = tc_pa g v := by
  rcases tc_paS T (i := v) (by omega) with ⟨a, b⟩ | ⟨j, a, l, y, m⟩
  · rcases tc_paS T hr with ⟨a', _⟩ | ⟨j, a', l, y, m⟩
    · rw [a, a']
    · omega
  · rw [a]
    refine tc_paU (by omega) (by omega) (fun k x z => ?_)
    by_cases c : k < v
    · have := m k x c
      omega
    · by_cases d : k = v
      · rw [d]; omega
      · have := n k (by omega) z
        omega
theorem tc_nxY {g : Nat → Nat} {C v r : Nat} (T : tc_T g C) (F : tc_F g C v r) (hr : r < C) (e : g r = g v) : tc_fi (fun w => v < w ∧ tc_pa g w = tc_pa g v) C = r + 1 := by
  obtain ⟨f1, f2, f3, f4⟩ := F
  refine tc_fiU ⟨f1, tc_paE T f1 hr e f3⟩ (fun i a b => ?_) hr
  have x := tc_paG T (by omega) b.1 (f3 i b.1 a)
  have y := tc_paL T (i := v) (by omega)
  have z := b.2
  omega
theorem tc_nxN {g : Nat → Nat} {C v r : Nat} (T : tc_T g C) (F : tc_F g C v r) (hr : r < C → g r ≠ g v) : tc_fi (fun w => v < w ∧ tc_pa g w = tc_pa g v) C = 0 := by
  obtain ⟨f1, f2, f3, f4⟩ := F
  refine tc_fi0 (fun w hw b => ?_)
  have b1 := b.1
  have b2 := b.2
  by_cases z : w < r
  · have x := tc_paG T hw b1 (f3 w b1 z)
    have y := tc_paL T (i := v) (by omega)
    omega
  · have h1 := f4 (by omega)
    have h2 := hr (by omega)
    rcases tc_paS T (i := v) (by omega) with ⟨_, c⟩ | ⟨j, a, l, y, m⟩
    · omega
    · rcases tc_paS T hw with ⟨a', _⟩ | ⟨j', a', l', y', m'⟩
      · omega
      · have k : j' = j := by omega
        subst k
        by_cases x : r = w
        · subst x
          omega
        · have := m' r (by omega) (by omega)
          omega
/-! previous -/
theorem tc_pvY {g : Nat → Nat} {C v u : Nat} (T : tc_T g C) (hv : v < C) (hu : u < v) (e : g u = g v) (n : ∀ k, u < k → k < v → g v < g k) : tc_la (fun w => w < v ∧ tc_pa g w = tc_pa g v) C = u + 1 := by
  refine tc_laU (by omega) ⟨hu, (tc_paE T hu hv e.symm (fun k a b => by have := n k a b; omega)).symm⟩ (fun i a b z => ?_)
  have z1 := z.1
  have z2 := z.2
  have x := tc_paG T b a (by have := n i a z1; omega)
  have y := tc_paL T (i := u) (by omega)
  have w := tc_paE T hu hv e.symm (fun k a b => by have := n k a b; omega)
  omega
theorem tc_pvN {g : Nat → Nat} {C v u : Nat} (T : tc_T g C) (hv : v < C) (hu : u < v) (e : g u < g v) (n : ∀ k, u < k → k < v → g v < g k) : tc_la (fun w => w < v ∧ tc_pa g w = tc_pa g v) C = 0 := by
  refine tc_la0 (fun i b z => ?_)
  have z1 := z.1
  have z2 := z.2
  have p : tc_pa g v = u + 1 := tc_paU hu e (fun k a b => Nat.le_of_lt (n k a b))
  rcases tc_paS T b with ⟨a, c⟩ | ⟨j, a, l, y, m⟩
  · omega
  · have k : j = u := by omega
    subst k
    have := n i l z1
    omega
theorem tc_pv0 {g : Nat → Nat} {C v : Nat} (T : tc_T g C) (hv : v < C) (n : ∀ k, k < v → g v < g k) : tc_la (fun w => w < v ∧ tc_pa g w = tc_pa g v) C = 0 := by
  refine tc_la0 (fun i b z => ?_)
  have z1 := z.1
  have a := n 0 (by omega)
  have c := T.1 (by omega)
  omega
/-! aboveAt: e holds the depths as the class does -/
theorem tc_abv {g : Nat → Nat} {C v : Nat} {e : Nat → Int32} {d : Int32} (T : tc_T g C) (hC : C ≤ 64) (he : ∀ i, i < C → e i = nI (g i)) (hv : v < C) (hd : d ≤ nI (g v)) : tc_la (fun j => e j = d) (v + 1) = tc_fi (fun u => tc_U g u v ∧ nI (g u) = d) C := by
  have gs : ∀ i, i < C → g i < 2 ^ 31 := fun i hi => by have := tc_gi T i hi; omega
  rcases tc_laS (fun j => e j = d) (v + 1) with ⟨a, n⟩ | ⟨j, a, l, y, n⟩
  · rw [a]
    refine (tc_fi0 (fun u hu z => ?_)).symm
    have m : ¬ e u = d := n u (by have := z.1.1; omega)
    rw [he u hu] at m
    exact m z.2
  · rw [a]
    have y' : nI (g j) = d := by rw [← he j (by omega)]; exact y
    have jv : g j ≤ g v := by
      rw [← y', nI_leI (gs j (by omega)) (gs v hv)] at hd
      exact hd
    have ne : ∀ i, j < i → i ≤ v → g i ≠ g j := fun i x z w => by
      have m : ¬ e i = d := n i x (by omega)
      rw [he i (by omega), w] at m
      exact m y'
    have up : ∀ m i, j < i → i + m = v → g j < g i := by
      intro m
      induction m with
      | zero =>
        intro i x z
        have : i = v := by omega
        subst this
        have := ne i x (Nat.le_refl _)
        omega
      | succ m ih =>
        intro i x z
        have h1 := ih (i + 1) (by omega) (by omega)
        have h2 := T.2 i (by omega)
        have h3 := ne i x (by omega)
        omega
    have U : tc_U g j v := ⟨by omega, fun i x z => up (v - i) i x (by omega)⟩
    refine (tc_fiU (q := fun u => tc_U g u v ∧ nI (g u) = d) (j := j) ⟨U, y'⟩ (fun i x z => ?_) (by omega)).symm
    have z1 := z.1.2 j x (by omega)
    have z2 := z.2
    rw [← y', nI_eq (gs i (by omega)) (gs j (by omega))] at z2
    omega
theorem tc_abN {g : Nat → Nat} {C v : Nat} {d : Int32} (T : tc_T g C) (hC : C ≤ 64) (hv : v < C) (hd : ¬ d ≤ nI (g v)) : tc_fi (fun u => tc_U g u v ∧ nI (g u) = d) C = 0 := by
  refine tc_fi0 (fun u hu z => hd ?_)
  have h := tc_Ug z.1
  have k := tc_gi T v hv
  rw [← z.2]
  exact nI_le h (by omega)
/-! parent, and the last open node: by the last of their depth -/
theorem tc_lwD {g : Nat → Nat} {C c d : Nat} {e : Nat → Int32} (T : tc_T g C) (hC : C ≤ 64) (he : ∀ i, i < C → e i = nI (g i)) (hc : c ≤ C) (h0 : c = 0 → d = 0) (hd : ∀ i, c = i + 1 → d ≤ g i + 1) (d64 : d ≤ 64) : tc_la (fun j => e j = nI d - 1) c = tc_up g d c := by
  have gs : ∀ i, i < C → g i < 2 ^ 31 := fun i hi => by have := tc_gi T i hi; omega
  cases d with
  | zero =>
    rcases tc_upS T hc h0 hd with ⟨a, b⟩ | ⟨j, a, l, y, n⟩
    · rw [a]
      refine tc_la0 (fun j hj z => ?_)
      have z' : e j = nI 0 - 1 := z
      rw [he j (by omega), tc_eS] at z'
      exact absurd (z' ▸ tc_e0) (nI_pos (gs j (by omega)))
    · omega
  | succ d =>
    rcases tc_upS T hc h0 hd with ⟨a, b⟩ | ⟨j, a, l, y, n⟩
    · omega
    · rw [a]
      refine tc_laU l ?_ (fun i x z w => ?_)
      · show e j = nI (d + 1) - 1
        rw [he j (by omega), nI_pred]
        congr 1
        omega
      · have w' : e i = nI (d + 1) - 1 := w
        rw [he i (by omega), nI_pred, nI_eq (gs i (by omega)) (by omega)] at w'
        have := n i x z
        omega
theorem tc_paX {g : Nat → Nat} {C v : Nat} {e : Nat → Int32} (T : tc_T g C) (hC : C ≤ 64) (he : ∀ i, i < C → e i = nI (g i)) (hv : v < C) : tc_la (fun j => e j = nI (g v) - 1) (v + 1) = tc_pa g v := by
  have k := tc_gi T v hv
  rw [tc_laF (q := fun j => e j = nI (g v) - 1) (c := v) ?_]
  · exact tc_lwD T hC he (Nat.le_of_lt hv) (fun z => by rw [z]; exact T.1 (by omega)) (fun k e => by rw [e]; exact T.2 k (by omega)) (by omega)
  · intro z
    have z' : e v = nI (g v) - 1 := z
    rw [he v hv, tc_eS] at z'
    revert z'
    cases h : g v with
    | zero =>
      intro z'
      exact absurd (z' ▸ tc_e0) (nI_pos (by omega))
    | succ m =>
      intro z'
      have z'' : nI (m + 1) = nI m := z'
      rw [nI_eq (by omega) (by omega)] at z''
      omega
/-! size, height, leaves -/
theorem tc_szE {g : Nat → Nat} {C v r : Nat} (F : tc_F g C v r) : tc_cn (fun w => tc_U g v w) C = r - v := by
  have F' := F
  obtain ⟨f1, f2, f3, f4⟩ := F'
  rw [tc_cnE f2 (fun j a b z => by have := (tc_FU F b).mp z; omega)]
  refine tc_cnI (fun j hj => ?_) (by omega)
  rw [tc_FU F (by omega)]
  exact ⟨fun z => z.1, fun z => ⟨z, hj⟩⟩
noncomputable def tc_mx (g : Nat → Nat) (v : Nat) : Nat → Nat
  | 0 => 0
  | c + 1 => @ite _ (tc_U g v c ∧ tc_mx g v c < g c - g v) (Classical.propDecidable _) (g c - g v) (tc_mx g v c)
theorem tc_mxT {g : Nat → Nat} {v c : Nat} (h : tc_U g v c) (k : tc_mx g v c < g c - g v) : tc_mx g v (c + 1) = g c - g v := if_pos ⟨h, k⟩
theorem tc_mxF {g : Nat → Nat} {v c : Nat} (k : ¬ tc_mx g v c < g c - g v) : tc_mx g v (c + 1) = tc_mx g v c := if_neg (fun z => k z.2)
theorem tc_mxN {g : Nat → Nat} {v c : Nat} (h : ¬ tc_U g v c) : tc_mx g v (c + 1) = tc_mx g v c := if_neg (fun z => h z.1)
theorem tc_mxE {g : Nat → Nat} {v a : Nat} : ∀ {c : Nat}, a ≤ c → (∀ j, a ≤ j → j < c → ¬ tc_U g v j) → tc_mx g v c = tc_mx g v a := by
  intro c
  induction c with
  | zero =>
    intro h _
    have e : a = 0 := by omega
    rw [e]
  | succ c ih =>
    intro h n
    by_cases z : a = c + 1
    · rw [z]
    · rw [tc_mxN (n c (by omega) (by omega))]
      exact ih (by omega) (fun j x y => n j x (by omega))
theorem tc_mx0 {g : Nat → Nat} {v : Nat} : tc_mx g v (v + 1) = 0 := by
  rw [tc_mxF (by omega), tc_mxE (a := 0) (Nat.zero_le v) (fun j _ y z => by have := z.1; omega)]
  rfl
theorem tc_mxL {g : Nat → Nat} {v C : Nat} (T : tc_T g C) : ∀ c, c ≤ C → tc_mx g v c ≤ c := by
  intro c
  induction c with
  | zero => intro _; exact Nat.le_refl _
  | succ c ih =>
    intro h
    have i := ih (by omega)
    have k := tc_gi T c (by omega)
    by_cases z : tc_U g v c ∧ tc_mx g v c < g c - g v
    · rw [tc_mxT z.1 z.2]; omega
    · have e : tc_mx g v (c + 1) = tc_mx g v c := if_neg z
      omega
theorem tc_lfY {g : Nat → Nat} {C u : Nat} (T : tc_T g C) (hu : u + 1 < C) (h : g u < g (u + 1)) : tc_cn (fun w => tc_pa g w = u + 1) C ≠ 0 :=
  tc_cnP (q := fun w => tc_pa g w = u + 1) (j := u + 1) (tc_paU (by omega) h (fun k a b => by omega)) hu
theorem tc_lfN {g : Nat → Nat} {C u : Nat} (T : tc_T g C) (hu : u + 1 < C) (h : ¬ g u < g (u + 1)) : tc_cn (fun w => tc_pa g w = u + 1) C = 0 := by
  refine tc_cn0 (fun w hw z => ?_)
  have z' := (tc_ch T hw).mp z
  have m := z'.2.1.2 (u + 1) (by omega) (by have := z'.1; omega)
  omega
