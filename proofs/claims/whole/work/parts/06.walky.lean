/-! the reference's walks, each to the answer of the pictures -/
section
variable {post : Int32 → Prop} {g : Nat → Nat} {C : Nat} {fs fl : Int32} {b p d : Nat → Int32}
theorem tc_unl {fc : Int32} (hC : C ≤ 64) (T : tc_T g C) (hp : tc_Pu g C p) {v : Nat} (hv : v < C) : ∀ n w, w < C → w < n → (tc_U g v w → post 1) → (¬ tc_U g v w → post 0) → wY_under_2 post (nI v) fs fc fl b p d (n + 1) (nI w) := by
  intro n
  induction n with
  | zero => intro w _ h; omega
  | succ n ih =>
    intro w hw hn H1 H0
    have nw : ¬ nI w < 0 := nI_pos (by omega)
    refine br_f nw ?_
    by_cases z : w = v
    · subst z
      exact br_t rfl (br_f nw (H1 (tc_Ur g w)))
    · refine br_f (by rw [nI_eq (by omega) (by omega)]; exact z) ⟨vp_in_nI (by omega) (by omega), nm_r (tc_ru hp hC hw) ?_⟩
      rcases tc_paS T hw with ⟨e, _⟩ | ⟨j, e, l, _⟩
      · rw [e]
        exact br_t tc_e0 (br_t tc_e0 (H0 (tc_U0 T hw e z)))
      · rw [e]
        have u := tc_Uup T hw e z
        exact ih j (by omega) (by omega) (fun x => H1 (u.mpr x)) (fun x => H0 (fun y => x (u.mp y)))
theorem tc_un {fc : Int32} (hC : C ≤ 64) (T : tc_T g C) (hp : tc_Pu g C p) {v w : Nat} (hv : v < C) (hw : w < C) (H1 : tc_U g v w → post 1) (H0 : ¬ tc_U g v w → post 0) : wpY_under post (fs, fc, fl, b, p, d) (nI w) (nI v) :=
  ⟨w + 1 + 1, tc_unl hC T hp hv (w + 1) w hw (by omega) H1 H0⟩
theorem tc_isC (hC : C ≤ 64) (T : tc_T g C) (hp : tc_Pu g C p) {v w : Nat} (hv : v < C) (hw : w < C) : p (nI w).toNatClampNeg = nI v ↔ tc_pa g w = v + 1 := by
  have l := tc_paL T hw
  rw [tc_ru hp hC hw]
  exact tc_eI (a := tc_pa g w) (b := v + 1) (by omega) (by omega)
theorem tc_isS (hC : C ≤ 64) (T : tc_T g C) (hp : tc_Pu g C p) {v w : Nat} (hv : v < C) (hw : w < C) : p (nI w).toNatClampNeg = p (nI v).toNatClampNeg ↔ tc_pa g w = tc_pa g v := by
  have l := tc_paL T hw
  have m := tc_paL T hv
  rw [tc_ru hp hC hw, tc_ru hp hC hv]
  exact tc_eI (by omega) (by omega)
theorem tc_col (hC : C ≤ 64) (T : tc_T g C) (hp : tc_Pu g C p) {v : Nat} (hv : v < C) (H : post (nI (tc_cn (fun u => tc_pa g u = v + 1) C))) : ∀ k w, w + k = C → wY_childrenOf_4 post (nI v) fs (nI C) fl b p d (k + 1) (nI (tc_cn (fun u => tc_pa g u = v + 1) w)) (nI w) := by
  intro k
  induction k with
  | zero =>
    intro w e
    have e' : w = C := by omega
    subst e'
    exact br_t (nI_le (Nat.le_refl _) (by omega)) H
  | succ k ih =>
    intro w e
    refine br_f (nI_ge (by omega) (by omega)) ⟨vp_in_nI (by omega) (by omega), ?_⟩
    have i := ih (w + 1) (by omega)
    have q := tc_isC hC T hp hv (w := w) (by omega)
    by_cases z : tc_pa g w = v + 1
    · rw [tc_cnT (q := fun u => tc_pa g u = v + 1) z] at i
      exact br_t (q.mpr z) (nm_r (nI_1 _) (nm_r (nI_1 w) i))
    · rw [tc_cnF (q := fun u => tc_pa g u = v + 1) z] at i
      exact br_f (fun x => z (q.mp x)) (nm_r (nI_1 w) i)
theorem tc_co (hC : C ≤ 64) (T : tc_T g C) (hp : tc_Pu g C p) {v : Nat} (hv : v < C) (H : post (nI (tc_cn (fun u => tc_pa g u = v + 1) C))) : wpY_childrenOf post (fs, nI C, fl, b, p, d) (nI v) := by
  have k := tc_col (post := post) (fs := fs) (fl := fl) (b := b) (d := d) hC T hp hv H C 0 (by omega)
  rw [show tc_cn (fun u => tc_pa g u = v + 1) 0 = 0 from rfl, nI_0] at k
  exact ⟨_, k⟩
end
section
variable {post : Int32 → SY → Prop} {g : Nat → Nat} {C : Nat} {fs fl : Int32} {b p d : Nat → Int32}
theorem tc_Ysz (hC : C ≤ 64) (T : tc_T g C) (hp : tc_Pu g C p) {v : Nat} (hv : v < C) (H : post (nI (tc_cn (fun w => tc_U g v w) C)) (fs, nI C, fl, b, p, d)) : ∀ k w, w + k = C → wY_size_14 post (nI v) fs (nI C) fl b p d (k + 1) (nI (tc_cn (fun w => tc_U g v w) w)) (nI w) := by
  intro k
  induction k with
  | zero =>
    intro w e
    have e' : w = C := by omega
    subst e'
    exact br_t (nI_le (Nat.le_refl _) (by omega)) H
  | succ k ih =>
    intro w e
    have i := ih (w + 1) (by omega)
    refine br_f (nI_ge (by omega) (by omega)) (tc_un hC T hp hv (by omega) (fun z => ?_) (fun z => ?_))
    · rw [tc_cnT (q := fun w => tc_U g v w) z] at i
      exact br_f tc_10 (nm_r (nI_1 _) (nm_r (nI_1 w) i))
    · rw [tc_cnF (q := fun w => tc_U g v w) z] at i
      exact br_t rfl (nm_r (nI_1 w) i)
theorem tc_Ycd (hC : C ≤ 64) (T : tc_T g C) (hp : tc_Pu g C p) {v : Nat} {x : Int32} (hv : v < C) (H : post (tc_e (tc_fi (fun w => tc_pa g w = v + 1 ∧ nI (tc_cn (fun u => tc_pa g u = v + 1) w) = x) C)) (fs, nI C, fl, b, p, d)) : ∀ k w, w + k = C → (∀ j, j < w → ¬ (tc_pa g j = v + 1 ∧ nI (tc_cn (fun u => tc_pa g u = v + 1) j) = x)) → wY_child_12 post (nI v) x 1 fs (nI C) fl b p d (k + 1) (nI (tc_cn (fun u => tc_pa g u = v + 1) w)) (nI w) := by
  intro k
  induction k with
  | zero =>
    intro w e n
    have e' : w = C := by omega
    subst e'
    rw [tc_fi0 n] at H
    exact br_t (nI_le (Nat.le_refl _) (by omega)) H
  | succ k ih =>
    intro w e n
    have i := ih (w + 1) (by omega)
    have q := tc_isC hC T hp hv (w := w) (by omega)
    refine br_f (nI_ge (by omega) (by omega)) (br_f tc_10 ⟨vp_in_nI (by omega) (by omega), ?_⟩)
    by_cases z : tc_pa g w = v + 1
    · rw [tc_cnT (q := fun u => tc_pa g u = v + 1) z] at i
      refine br_t (q.mpr z) ?_
      by_cases y : nI (tc_cn (fun u => tc_pa g u = v + 1) w) = x
      · rw [tc_fiU (q := fun w => tc_pa g w = v + 1 ∧ nI (tc_cn (fun u => tc_pa g u = v + 1) w) = x) (j := w) ⟨z, y⟩ n (by omega)] at H
        exact br_t y H
      · refine br_f y (nm_r (nI_1 _) (nm_r (nI_1 w) (i (fun j hj s => ?_))))
        by_cases h : j = w
        · rw [h] at s; exact y s.2
        · exact n j (by omega) s
    · rw [tc_cnF (q := fun u => tc_pa g u = v + 1) z] at i
      refine br_f (fun s => z (q.mp s)) (nm_r (nI_1 w) (i (fun j hj s => ?_)))
      by_cases h : j = w
      · rw [h] at s; exact z s.1
      · exact n j (by omega) s
theorem tc_Ynx (hC : C ≤ 64) (T : tc_T g C) (hp : tc_Pu g C p) {v : Nat} (hv : v < C) (H : post (tc_e (tc_fi (fun w => v < w ∧ tc_pa g w = tc_pa g v) C)) (fs, nI C, fl, b, p, d)) : ∀ k w, w + k = C → (∀ j, j < w → ¬ (v < j ∧ tc_pa g j = tc_pa g v)) → wY_next_8 post (nI v) 1 fs (nI C) fl b p d (k + 1) (nI w) := by
  intro k
  induction k with
  | zero =>
    intro w e n
    have e' : w = C := by omega
    subst e'
    rw [tc_fi0 n] at H
    exact br_t (nI_le (Nat.le_refl _) (by omega)) H
  | succ k ih =>
    intro w e n
    have i := ih (w + 1) (by omega)
    have q := tc_isS hC T hp hv (w := w) (by omega)
    refine br_f (nI_ge (by omega) (by omega)) (br_f tc_10 ?_)
    by_cases z : w ≤ v
    · refine br_t (nI_le z (by omega)) (nm_r (nI_1 w) (i (fun j hj s => ?_)))
      have := s.1
      omega
    · refine br_f (nI_ge (by omega) (by omega)) ⟨vp_in_nI (by omega) (by omega), vp_in_nI (by omega) (by omega), ?_⟩
      by_cases y : tc_pa g w = tc_pa g v
      · rw [tc_fiU (q := fun w => v < w ∧ tc_pa g w = tc_pa g v) (j := w) ⟨by omega, y⟩ n (by omega)] at H
        exact br_t (q.mpr y) H
      · refine br_f (fun s => y (q.mp s)) (nm_r (nI_1 w) (i (fun j hj s => ?_)))
        by_cases h : j = w
        · rw [h] at s; exact y s.2
        · exact n j (by omega) s
theorem tc_Ypv (hC : C ≤ 64) (T : tc_T g C) (hp : tc_Pu g C p) {v : Nat} (hv : v < C) : ∀ c, c ≤ C → post (tc_e (tc_la (fun w => w < v ∧ tc_pa g w = tc_pa g v) c)) (fs, nI C, fl, b, p, d) → wY_previous_13 post (nI v) 1 fs (nI C) fl b p d (c + 1) (tc_e c) := by
  intro c
  induction c with
  | zero => intro _ H; exact br_t tc_e0 H
  | succ c ih =>
    intro hc H
    have q := tc_isS hC T hp hv (w := c) (by omega)
    refine br_f (tc_eP (by omega)) (br_f tc_10 ?_)
    by_cases z : v ≤ c
    · rw [tc_laF (q := fun w => w < v ∧ tc_pa g w = tc_pa g v) (fun s => by have := s.1; omega)] at H
      exact br_t (nI_le z (by omega)) (nm_r (tc_eM c) (ih (by omega) H))
    · refine br_f (nI_ge (by omega) (by omega)) ⟨vp_in_nI (by omega) (by omega), vp_in_nI (by omega) (by omega), ?_⟩
      by_cases y : tc_pa g c = tc_pa g v
      · rw [tc_laT (q := fun w => w < v ∧ tc_pa g w = tc_pa g v) ⟨by omega, y⟩] at H
        exact br_t (q.mpr y) H
      · rw [tc_laF (q := fun w => w < v ∧ tc_pa g w = tc_pa g v) (fun s => y s.2)] at H
        exact br_f (fun s => y (q.mp s)) (nm_r (tc_eM c) (ih (by omega) H))
theorem tc_Ymt (hC : C ≤ 64) (T : tc_T g C) (hp : tc_Pu g C p) (hd : tc_Pd g C d) {v w : Nat} (hv : v < C) (hw : w < C) (H : post (tc_e (tc_la (fun u => tc_U g u v ∧ tc_U g u w) C)) (fs, nI C, fl, b, p, d)) : ∀ k u, u + k = C → wY_meet_28 post (nI v) (nI w) 1 fs (nI C) fl b p d (k + 1) (tc_e (tc_la (fun u => tc_U g u v ∧ tc_U g u w) u)) (nI u) := by
  intro k
  induction k with
  | zero =>
    intro u e
    have e' : u = C := by omega
    subst e'
    exact br_t (nI_le (Nat.le_refl _) (by omega)) H
  | succ k ih =>
    intro u e
    have i := ih (u + 1) (by omega)
    refine br_f (nI_ge (by omega) (by omega)) (br_f tc_10 (tc_un hC T hp (by omega) hv (fun y => ?_) (fun y => ?_)))
    · refine br_f tc_10 (tc_un hC T hp (by omega) hw (fun z => ?_) (fun z => ?_))
      · refine br_f tc_10 ?_
        rw [tc_laT (q := fun u => tc_U g u v ∧ tc_U g u w) ⟨y, z⟩] at i
        rcases tc_laS (fun u => tc_U g u v ∧ tc_U g u w) u with ⟨x, _⟩ | ⟨j, x, l, s, _⟩
        · rw [x]
          exact br_t tc_e0 (nm_r (nI_1 u) i)
        · rw [x]
          have gj := tc_gs T hC (i := j) (by omega)
          have gu := tc_gs T hC (i := u) (by omega)
          refine br_f (tc_eP (by omega)) ⟨vp_in_nI (by omega) (by omega), vp_in_nI (by omega) (by omega), br_f ?_ (nm_r (nI_1 u) i)⟩
          have rj : d (tc_e (j + 1)).toNatClampNeg = nI (g j) := tc_rd hd hC (by omega)
          rw [tc_rd hd hC (by omega), rj]
          exact nI_ge (s.1.2 u l y.1) (by omega)
      · rw [tc_laF (q := fun u => tc_U g u v ∧ tc_U g u w) (fun s => z s.2)] at i
        exact br_t rfl (nm_r (nI_1 u) i)
    · rw [tc_laF (q := fun u => tc_U g u v ∧ tc_U g u w) (fun s => y s.1)] at i
      exact br_t rfl (nm_r (nI_1 u) i)
theorem tc_Yab (hC : C ≤ 64) (T : tc_T g C) (hp : tc_Pu g C p) (hd : tc_Pd g C d) {v : Nat} {x : Int32} (hv : v < C) (H : post (tc_e (tc_fi (fun u => tc_U g u v ∧ nI (g u) = x) C)) (fs, nI C, fl, b, p, d)) : ∀ k u, u + k = C → (∀ j, j < u → ¬ (tc_U g j v ∧ nI (g j) = x)) → wY_aboveAt_9 post (nI v) x 1 fs (nI C) fl b p d (k + 1) (nI u) := by
  intro k
  induction k with
  | zero =>
    intro u e n
    have e' : u = C := by omega
    subst e'
    rw [tc_fi0 n] at H
    exact br_t (nI_le (Nat.le_refl _) (by omega)) H
  | succ k ih =>
    intro u e n
    have i := ih (u + 1) (by omega)
    have ru := tc_rd hd hC (i := u) (by omega)
    refine br_f (nI_ge (by omega) (by omega)) (br_f tc_10 (tc_un hC T hp (by omega) hv (fun y => ?_) (fun y => ?_)))
    · refine br_f tc_10 ⟨vp_in_nI (by omega) (by omega), ?_⟩
      by_cases z : nI (g u) = x
      · rw [tc_fiU (q := fun u => tc_U g u v ∧ nI (g u) = x) (j := u) ⟨y, z⟩ n (by omega)] at H
        exact br_t (ru.trans z) H
      · refine br_f (by rw [ru]; exact z) (nm_r (nI_1 u) (i (fun j hj s => ?_)))
        by_cases h : j = u
        · rw [h] at s; exact z s.2
        · exact n j (by omega) s
    · refine br_t rfl (nm_r (nI_1 u) (i (fun j hj s => ?_)))
      by_cases h : j = u
      · rw [h] at s; exact y s.1
      · exact n j (by omega) s
theorem tc_Yht (hC : C ≤ 64) (T : tc_T g C) (hp : tc_Pu g C p) (hd : tc_Pd g C d) {v : Nat} (hv : v < C) (H : post (nI (tc_mx g v C)) (fs, nI C, fl, b, p, d)) : ∀ k w, w + k = C → wY_height_14 post (nI v) fs (nI C) fl b p d (k + 1) (nI (tc_mx g v w)) (nI w) := by
  have gv := tc_gs T hC hv
  have rv := tc_rd hd hC hv
  have iv : vp_in (nI v) 64 := vp_in_nI (by omega) (by omega)
  intro k
  induction k with
  | zero =>
    intro w e
    have e' : w = C := by omega
    subst e'
    exact br_t (nI_le (Nat.le_refl _) (by omega)) H
  | succ k ih =>
    intro w e
    have i := ih (w + 1) (by omega)
    have gw := tc_gs T hC (i := w) (by omega)
    have rw' := tc_rd hd hC (i := w) (by omega)
    have iw : vp_in (nI w) 64 := vp_in_nI (by omega) (by omega)
    have ml := tc_mxL (v := v) T w (by omega)
    refine br_f (nI_ge (by omega) (by omega)) (tc_un hC T hp hv (by omega) (fun y => ?_) (fun y => ?_))
    · have le := tc_Ug y
      have df : d (nI w).toNatClampNeg - d (nI v).toNatClampNeg = nI (g w - g v) := by rw [rw', rv, pk_sub le]
      refine br_f tc_10 ⟨iw, iv, ?_⟩
      by_cases z : tc_mx g v w < g w - g v
      · rw [tc_mxT y z] at i
        exact br_f (by rw [df]; exact nI_ge z (by omega)) ⟨iw, iv, nm_r df (nm_r (nI_1 w) i)⟩
      · rw [tc_mxF z] at i
        exact br_t (by rw [df]; exact nI_le (by omega) (by omega)) (nm_r (nI_1 w) i)
    · rw [tc_mxN y] at i
      exact br_t rfl (nm_r (nI_1 w) i)
theorem tc_Ylf (hC : C ≤ 64) (T : tc_T g C) (hp : tc_Pu g C p) {v : Nat} (hv : v < C) (H : post (nI (tc_cn (fun u => ¬ g u < g (u + 1)) v)) (fs, nI C, fl, b, p, d)) : ∀ k w, w + k = v → wY_leavesBefore_14 post (nI v) fs (nI C) fl b p d (k + 1) (nI (tc_cn (fun u => ¬ g u < g (u + 1)) w)) (nI w) := by
  intro k
  induction k with
  | zero =>
    intro w e
    have e' : w = v := by omega
    subst e'
    exact br_t (nI_le (Nat.le_refl _) (by omega)) H
  | succ k ih =>
    intro w e
    have i := ih (w + 1) (by omega)
    have cl := tc_cnL (fun u => tc_pa g u = w + 1) C
    refine br_f (nI_ge (by omega) (by omega)) (tc_co hC T hp (by omega) ?_)
    by_cases z : g w < g (w + 1)
    · rw [tc_cnF (q := fun u => ¬ g u < g (u + 1)) (fun y => y z)] at i
      have y := tc_lfY T (u := w) (by omega) z
      exact br_f (nI_ne0 (by omega) (by omega)) (nm_r (nI_1 w) i)
    · rw [tc_cnT (q := fun u => ¬ g u < g (u + 1)) z] at i
      rw [tc_lfN T (u := w) (by omega) z]
      exact br_t nI_0 (nm_r (nI_1 _) (nm_r (nI_1 w) i))
end
