/-! the brackets b up to place L: C nodes begun, D of them open, g their depths -/
def tc_St (b : Nat → Int32) (g : Nat → Nat) : Nat → Nat → Nat → Prop
  | 0 => fun C D => C = 0 ∧ D = 0
  | L + 1 => fun C D => (¬ b L = 0 ∧ ∃ C' D', C = C' + 1 ∧ D = D' + 1 ∧ g C' = D' ∧ tc_St b g L C' D') ∨ (b L = 0 ∧ tc_St b g L C (D + 1))
theorem tc_StC {b : Nat → Int32} {g : Nat → Nat} : ∀ {L C D : Nat}, tc_St b g L C D → C ≤ L ∧ D ≤ C := by
  intro L
  induction L with
  | zero => intro C D h; have h1 := h.1; have h2 := h.2; omega
  | succ L ih =>
    intro C D h
    rcases h with ⟨_, C', D', rfl, rfl, _, h⟩ | ⟨_, h⟩
    · have := ih h; omega
    · have := ih h; omega
theorem tc_StT {b : Nat → Int32} {g : Nat → Nat} : ∀ {L C D : Nat}, tc_St b g L C D → tc_T g C ∧ (C = 0 → D = 0) ∧ (∀ i, C = i + 1 → D ≤ g i + 1) := by
  intro L
  induction L with
  | zero =>
    intro C D h
    have h1 := h.1
    have h2 := h.2
    subst h1 h2
    exact ⟨⟨fun z => by omega, fun i z => by omega⟩, fun _ => rfl, fun i z => by omega⟩
  | succ L ih =>
    intro C D h
    rcases h with ⟨_, C', D', rfl, rfl, e, h⟩ | ⟨_, h⟩
    · obtain ⟨T, z, n⟩ := ih h
      refine ⟨⟨fun _ => ?_, fun i hi => ?_⟩, fun x => by omega, fun i x => ?_⟩
      · by_cases y : C' = 0
        · have := z y
          rw [y] at e
          omega
        · exact T.1 (by omega)
      · by_cases y : i + 1 = C'
        · have := n i y.symm
          rw [y]
          omega
        · exact T.2 i (by omega)
      · have y : i = C' := by omega
        rw [y]
        omega
    · obtain ⟨T, z, n⟩ := ih h
      exact ⟨T, fun x => by have := z x; omega, fun i x => by have := n i x; omega⟩
theorem tc_Stg {b : Nat → Int32} {g g' : Nat → Nat} : ∀ {L C D : Nat}, (∀ i, i < C → g i = g' i) → tc_St b g L C D → tc_St b g' L C D := by
  intro L
  induction L with
  | zero => intro C D _ h; exact h
  | succ L ih =>
    intro C D hg h
    rcases h with ⟨x, C', D', rfl, rfl, e, h⟩ | ⟨x, h⟩
    · exact Or.inl ⟨x, C', D', rfl, rfl, by rw [← hg C' (by omega)]; exact e, ih (fun i hi => hg i (by omega)) h⟩
    · exact Or.inr ⟨x, ih hg h⟩
theorem tc_Stb {b b' : Nat → Int32} {g : Nat → Nat} : ∀ {L C D : Nat}, (∀ i, i < L → b i = b' i) → tc_St b g L C D → tc_St b' g L C D := by
  intro L
  induction L with
  | zero => intro C D _ h; exact h
  | succ L ih =>
    intro C D hb h
    have y := hb L (by omega)
    rcases h with ⟨x, C', D', e1, e2, e, h⟩ | ⟨x, h⟩
    · exact Or.inl ⟨by rw [← y]; exact x, C', D', e1, e2, e, ih (fun i hi => hb i (by omega)) h⟩
    · exact Or.inr ⟨by rw [← y]; exact x, ih (fun i hi => hb i (by omega)) h⟩
theorem tc_laE {q : Nat → Prop} {a : Nat} : ∀ {c : Nat}, a ≤ c → (∀ j, a ≤ j → j < c → ¬ q j) → tc_la q c = tc_la q a := by
  intro c
  induction c with
  | zero =>
    intro h _
    have e : a = 0 := by omega
    rw [e]
  | succ c ih =>
    intro h n
    by_cases z : a = c + 1
    · rw [z]
    · rw [tc_laF (n c (by omega) (by omega))]
      exact ih (by omega) (fun j x y => n j x (by omega))
/-! the reference's work -/
def tc_Pu (g : Nat → Nat) (C : Nat) (u : Nat → Int32) : Prop := ∀ i, i < C → u i = tc_e (tc_pa g i)
def tc_Pd (g : Nat → Nat) (C : Nat) (e : Nat → Int32) : Prop := ∀ i, i < C → e i = nI (g i)
theorem tc_wk {post : SY → Prop} {b : Nat → Int32} {g : Nat → Nat} {S : Nat} (hS : S ≤ 64) : ∀ L C D, L ≤ S → tc_St b g L C D → ∀ m u0 e0, (∀ u e, tc_Pu g C u → tc_Pd g C e → wY_work_12 post (nI S) m (nI L) (nI C) (tc_e (tc_up g D C)) b u e) → wY_work_12 post (nI S) (m + L) 0 0 (-1) b u0 e0 := by
  intro L
  induction L with
  | zero =>
    intro C D _ h m u0 e0 H
    have h1 := h.1
    have h2 := h.2
    subst h1 h2
    have k := H u0 e0 (fun i hi => absurd hi (by omega)) (fun i hi => absurd hi (by omega))
    rw [nI_0] at k
    exact k
  | succ L ih =>
    intro C D hL h m u0 e0 H
    rw [show m + (L + 1) = m + 1 + L from by omega]
    have hl : ¬ nI S ≤ nI L := nI_ge (by omega) (by omega)
    have il : vp_in (nI L) 64 := vp_in_nI (by omega) (by omega)
    have cl : (nI L).toNatClampNeg = L := nI_clamp (by omega)
    rcases h with ⟨hb, C', D', rfl, rfl, hg, hs⟩ | ⟨hb, hs⟩
    · refine ih C' D' (by omega) hs (m + 1) u0 e0 (fun u e hu he => ?_)
      have c1 := tc_StC hs
      obtain ⟨T, z0, n0⟩ := tc_StT hs
      have ic : vp_in (nI C') 64 := vp_in_nI (by omega) (by omega)
      have cc : (nI C').toNatClampNeg = C' := nI_clamp (by omega)
      refine br_f hl ⟨il, br_f (by rw [cl]; exact hb) ⟨ic, fun a ea => ?_⟩⟩
      have last : tc_up g (D' + 1) (C' + 1) = C' + 1 := tc_laT (by omega)
      have fin : ∀ z : Int32, z = nI D' → wY_work_72 post (wY_work_12 post (nI S) m) (nI L) z (nI C') (nI S) (nI C') (tc_e (tc_up g D' C')) b a e := by
        intro z ez
        refine ⟨ic, fun d ed x ex y ey => ?_⟩
        have ha : tc_Pu g (C' + 1) a := fun i hi => by
          rw [ea, cc]
          by_cases w : i = C'
          · subst w
            rw [pk_us, ← hg]
            exact rfl
          · rw [pk_un w]
            exact hu i (by omega)
        have hd : tc_Pd g (C' + 1) d := fun i hi => by
          rw [ed, cc]
          by_cases w : i = C'
          · subst w
            rw [pk_us, ez, hg]
          · rw [pk_un w]
            exact he i (by omega)
        have k := H a d ha hd
        rw [last] at k
        rw [ex, ey, nI_1, nI_1]
        exact k
      rcases tc_upS T (Nat.le_refl _) z0 n0 with ⟨x, y⟩ | ⟨j, x, l, y, _⟩
      · refine br_f (by rw [x]; decide +kernel) (fin 0 (by rw [y, nI_0]))
      · have ej : tc_e (tc_up g D' C') = nI j := by rw [x]; exact rfl
        refine br_t (by rw [ej]; exact nI_pos' (by omega)) ⟨by rw [ej]; exact vp_in_nI (by omega) (by omega), fin _ ?_⟩
        rw [ej, nI_clamp (by omega), he j l, nI_1, y]
    · refine ih C (D + 1) (by omega) hs (m + 1) u0 e0 (fun u e hu he => ?_)
      have c1 := tc_StC hs
      obtain ⟨T, z0, n0⟩ := tc_StT hs
      rcases tc_upS T (Nat.le_refl _) z0 n0 with ⟨x, y⟩ | ⟨j, x, l, y, n⟩
      · omega
      · have ej : tc_e (tc_up g (D + 1) C) = nI j := by rw [x]; exact rfl
        refine br_f hl ⟨il, br_t (by rw [cl]; exact hb) (br_f (by rw [ej]; exact nI_pos (by omega)) ⟨by rw [ej]; exact vp_in_nI (by omega) (by omega), fun f ef y ey => ?_⟩)⟩
        have k := H u e hu he
        have up : tc_up g D C = tc_pa g j := by
          have y' : g j = D := by omega
          have q : tc_up g D C = tc_up g D j := tc_laE (Nat.le_of_lt l) (fun i a c w => by
            have w' : g i < D := w
            by_cases ij : i = j
            · subst ij
              omega
            · have := n i (by omega) c
              omega)
          rw [q, ← y']
          exact rfl
        rw [ey, nI_1, ef, ej, nI_clamp (by omega), hu j l, ← up]
        exact k
theorem tc_work {post : SY → Prop} {b : Nat → Int32} {g : Nat → Nat} {L C D : Nat} {c l : Int32} {u e : Nat → Int32} (hL : L ≤ 64) (hs : tc_St b g L C D) (H : ∀ u e, tc_Pu g C u → tc_Pd g C e → post (nI L, nI C, tc_e (tc_up g D C), b, u, e)) : wpY_work post (nI L, c, l, b, u, e) :=
  ⟨1 + L, tc_wk hL L C D (Nat.le_refl _) hs 1 u e (fun u e hu he => br_t (nI_le (Nat.le_refl _) (by omega)) (H u e hu he))⟩
theorem pk_ix (x : Int32) {n : Nat} (hn : n < 2 ^ 31) : x < 0 ∨ nI n ≤ x ∨ ∃ j : Nat, j < n ∧ x = nI j := by
  by_cases h0 : x < 0
  · exact Or.inl h0
  · obtain ⟨j, hj, rfl⟩ := nI_of h0
    by_cases h : j < n
    · exact Or.inr (Or.inr ⟨j, h, rfl⟩)
    · exact Or.inr (Or.inl (nI_le (by omega) hj))
theorem tc_nodeY {post : Int32 → SY → Prop} {b : Nat → Int32} {g : Nat → Nat} {L C D v : Nat} {c l : Int32} {u e : Nat → Int32} (hL : L ≤ 64) (hs : tc_St b g L C D) (hv : v < C) (H : ∀ u e, tc_Pu g C u → tc_Pd g C e → post 1 (nI L, nI C, tc_e (tc_up g D C), b, u, e)) : wpY_node post (nI L, c, l, b, u, e) (nI v) := by
  have c1 := tc_StC hs
  unfold wpY_node
  exact tc_work hL hs (fun u e hu he => br_f (nI_pos (by omega)) (br_f (nI_ge hv (by omega)) (H u e hu he)))
theorem tc_nodeN {post : Int32 → SY → Prop} {b : Nat → Int32} {g : Nat → Nat} {L C D : Nat} {c l x : Int32} {u e : Nat → Int32} (hL : L ≤ 64) (hs : tc_St b g L C D) (hx : x < 0 ∨ nI C ≤ x) (H : ∀ u e, tc_Pu g C u → tc_Pd g C e → post 0 (nI L, nI C, tc_e (tc_up g D C), b, u, e)) : wpY_node post (nI L, c, l, b, u, e) x := by
  unfold wpY_node
  refine tc_work hL hs (fun u e hu he => br_c (fun _ => H u e hu he) (fun z => br_t ?_ (H u e hu he)))
  rcases hx with y | y
  · exact absurd y z
  · exact y
theorem tc_isY {post : Int32 → Prop} {L C v : Nat} {o : Int32} {b a : Nat → Int32} (hC : C ≤ 64) (hv : v < C) (H : post 1) : wpX_isNode post (nI L, nI C, o, b, a) (nI v) :=
  br_f (nI_pos (by omega)) (br_f (nI_ge hv (by omega)) H)
theorem tc_isN {post : Int32 → Prop} {L C : Nat} {o x : Int32} {b a : Nat → Int32} (hx : x < 0 ∨ nI C ≤ x) (H : post 0) : wpX_isNode post (nI L, nI C, o, b, a) x := by
  refine br_c (fun _ => H) (fun z => br_t ?_ H)
  rcases hx with y | y
  · exact absurd y z
  · exact y
