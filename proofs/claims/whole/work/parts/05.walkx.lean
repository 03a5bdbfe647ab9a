/-! the class's walks, each to the answer of the pictures -/
theorem tc_rd {g : Nat → Nat} {C i : Nat} {a : Nat → Int32} (ha : tc_Pd g C a) (hC : C ≤ 64) (hi : i < C) : a (nI i).toNatClampNeg = nI (g i) := by
  rw [nI_clamp (by omega)]
  exact ha i hi
theorem tc_ru {g : Nat → Nat} {C i : Nat} {a : Nat → Int32} (ha : tc_Pu g C a) (hC : C ≤ 64) (hi : i < C) : a (nI i).toNatClampNeg = tc_e (tc_pa g i) := by
  rw [nI_clamp (by omega)]
  exact ha i hi
theorem tc_gs {g : Nat → Nat} {C : Nat} (T : tc_T g C) (hC : C ≤ 64) {i : Nat} (hi : i < C) : g i < 64 := by
  have := tc_gi T i hi
  omega
theorem tc_10 : ¬ (1 : Int32) = 0 := by decide
section
variable {post : Int32 → Prop} {g : Nat → Nat} {C : Nat} {fl fo : Int32} {b a : Nat → Int32}
theorem tc_lwl {d : Int32} {fn : Int32} : ∀ c, c ≤ 64 → post (tc_e (tc_la (fun j => a j = d) c)) → wX_lastWithDepth_2 post d fl fn fo b a (c + 1) (tc_e c) := by
  intro c
  induction c with
  | zero => intro _ H; exact br_t tc_e0 H
  | succ c ih =>
    intro hc H
    have cc : (tc_e (c + 1)).toNatClampNeg = c := nI_clamp (by omega)
    by_cases z : a c = d
    · rw [tc_laT (q := fun j => a j = d) z] at H
      exact br_f (tc_eP (by omega)) ⟨vp_in_nI (by omega) (by omega), br_t (by rw [cc]; exact z) H⟩
    · rw [tc_laF (q := fun j => a j = d) z] at H
      exact br_f (tc_eP (by omega)) ⟨vp_in_nI (by omega) (by omega), br_f (by rw [cc]; exact z) (nm_r (tc_eM c) (ih (by omega) H))⟩
theorem tc_fpl (hC : C ≤ 64) (T : tc_T g C) (ha : tc_Pd g C a) {v : Nat} (hv : v < C) (H : ∀ r, tc_F g C v r → post (nI r)) : ∀ k w, w + k = C → v < w → (∀ j, v < j → j < w → g v < g j) → wX_firstPast_4 post (nI v) fl (nI C) fo b a (k + 1) (nI w) := by
  intro k
  induction k with
  | zero =>
    intro w e l n
    have e' : w = C := by omega
    subst e'
    exact br_t (nI_le (Nat.le_refl _) (by omega)) (H w ⟨l, Nat.le_refl _, n, fun z => by omega⟩)
  | succ k ih =>
    intro w e l n
    have gv := tc_gs T hC hv
    have gw := tc_gs T hC (i := w) (by omega)
    refine br_f (nI_ge (by omega) (by omega)) ⟨vp_in_nI (by omega) (by omega), vp_in_nI (by omega) (by omega), ?_⟩
    by_cases z : g v < g w
    · refine br_t ?_ (nm_r (nI_1 w) (ih (w + 1) (by omega) (by omega) (fun j x y => ?_)))
      · rw [tc_rd ha hC hv, tc_rd ha hC (by omega)]
        exact nI_lt z (by omega)
      · by_cases q : j = w
        · rw [q]; exact z
        · exact n j x (by omega)
    · refine br_f ?_ (H w ⟨l, by omega, n, fun _ => by omega⟩)
      rw [tc_rd ha hC hv, tc_rd ha hC (by omega)]
      exact nI_nlt (by omega) (by omega)
theorem tc_fp (hC : C ≤ 64) (T : tc_T g C) (ha : tc_Pd g C a) {v : Nat} (hv : v < C) (H : ∀ r, tc_F g C v r → post (nI r)) : wpX_firstPast post (fl, nI C, fo, b, a) (nI v) := by
  unfold wpX_firstPast
  exact nm_r (nI_1 v) ⟨C - (v + 1) + 1, tc_fpl hC T ha hv H (C - (v + 1)) (v + 1) (by omega) (by omega) (fun j x y => by omega)⟩
theorem tc_chl (hC : C ≤ 64) (T : tc_T g C) (ha : tc_Pd g C a) {v r : Nat} (hv : v < C) (F : tc_F g C v r) (H : post (nI (tc_cn (fun u => tc_pa g u = v + 1) C))) : ∀ k w, w + k = r → v < w → wX_children_23 post (nI v) (nI r) fl (nI C) fo b a (k + 1) (nI (tc_cn (fun u => tc_pa g u = v + 1) w)) (nI w) := by
  have f2 := F.2.1
  intro k
  induction k with
  | zero =>
    intro w e l
    have e' : w = r := by omega
    subst e'
    rw [tc_cnE (q := fun u => tc_pa g u = v + 1) f2 (fun j x y z => by have := (tc_Fch T F y).mp z; omega)] at H
    exact br_t (nI_le (Nat.le_refl _) (by omega)) H
  | succ k ih =>
    intro w e l
    have gv := tc_gs T hC hv
    have gw := tc_gs T hC (i := w) (by omega)
    refine br_f (nI_ge (by omega) (by omega)) ⟨vp_in_nI (by omega) (by omega), vp_in_nI (by omega) (by omega), ?_⟩
    have i := ih (w + 1) (by omega) (by omega)
    by_cases z : g w = g v + 1
    · rw [tc_cnT (q := fun u => tc_pa g u = v + 1) ((tc_Fch T F (by omega)).mpr ⟨l, by omega, z⟩)] at i
      refine br_t ?_ (nm_r (nI_1 _) (nm_r (nI_1 w) i))
      rw [tc_rd ha hC hv, tc_rd ha hC (by omega), z, nI_1]
    · rw [tc_cnF (q := fun u => tc_pa g u = v + 1) (fun x => z ((tc_Fch T F (by omega)).mp x).2.2)] at i
      refine br_f ?_ (nm_r (nI_1 w) i)
      rw [tc_rd ha hC hv, tc_rd ha hC (by omega), nI_1, nI_eq (by omega) (by omega)]
      exact z
theorem tc_cdl (hC : C ≤ 64) (T : tc_T g C) (ha : tc_Pd g C a) {v r : Nat} {d : Int32} (hv : v < C) (F : tc_F g C v r) (H : post (tc_e (tc_fi (fun w => tc_pa g w = v + 1 ∧ nI (tc_cn (fun u => tc_pa g u = v + 1) w) = d) C))) : ∀ k w, w + k = r → v < w → (∀ j, j < w → ¬ (tc_pa g j = v + 1 ∧ nI (tc_cn (fun u => tc_pa g u = v + 1) j) = d)) → wX_child_24 post (nI v) d (nI r) fl (nI C) fo b a (k + 1) (nI (tc_cn (fun u => tc_pa g u = v + 1) w)) (nI w) := by
  have f2 := F.2.1
  intro k
  induction k with
  | zero =>
    intro w e l n
    have e' : w = r := by omega
    subst e'
    rw [tc_fi0 (fun j hj z => by
      by_cases y : j < w
      · exact n j y z
      · have := (tc_Fch T F hj).mp z.1
        omega)] at H
    exact br_t (nI_le (Nat.le_refl _) (by omega)) H
  | succ k ih =>
    intro w e l n
    have gv := tc_gs T hC hv
    have gw := tc_gs T hC (i := w) (by omega)
    refine br_f (nI_ge (by omega) (by omega)) ⟨vp_in_nI (by omega) (by omega), vp_in_nI (by omega) (by omega), ?_⟩
    have i := ih (w + 1) (by omega) (by omega)
    by_cases z : g w = g v + 1
    · have qw : tc_pa g w = v + 1 := (tc_Fch T F (by omega)).mpr ⟨l, by omega, z⟩
      rw [tc_cnT (q := fun u => tc_pa g u = v + 1) qw] at i
      refine br_t (by rw [tc_rd ha hC hv, tc_rd ha hC (by omega), z, nI_1]) ?_
      by_cases y : nI (tc_cn (fun u => tc_pa g u = v + 1) w) = d
      · rw [tc_fiU (q := fun w => tc_pa g w = v + 1 ∧ nI (tc_cn (fun u => tc_pa g u = v + 1) w) = d) (j := w) ⟨qw, y⟩ n (by omega)] at H
        exact br_t y H
      · refine br_f y (nm_r (nI_1 _) (nm_r (nI_1 w) (i (fun j hj x => ?_))))
        by_cases h : j = w
        · rw [h] at x; exact y x.2
        · exact n j (by omega) x
    · have qw : ¬ tc_pa g w = v + 1 := fun x => z ((tc_Fch T F (by omega)).mp x).2.2
      rw [tc_cnF (q := fun u => tc_pa g u = v + 1) qw] at i
      refine br_f ?_ (nm_r (nI_1 w) (i (fun j hj x => ?_)))
      · rw [tc_rd ha hC hv, tc_rd ha hC (by omega), nI_1, nI_eq (by omega) (by omega)]
        exact z
      · by_cases h : j = w
        · rw [h] at x; exact qw x.1
        · exact n j (by omega) x
theorem tc_pvl (hC : C ≤ 64) (T : tc_T g C) (ha : tc_Pd g C a) {v : Nat} (hv : v < C) (H : post (tc_e (tc_la (fun w => w < v ∧ tc_pa g w = tc_pa g v) C))) : ∀ c, c ≤ v → (∀ k, c ≤ k → k < v → g v < g k) → wX_previous_14 post (nI v) fl (nI C) fo b a (c + 1) (tc_e c) := by
  intro c
  induction c with
  | zero =>
    intro _ n
    rw [tc_pv0 T hv (fun k hk => n k (by omega) hk)] at H
    exact br_t tc_e0 H
  | succ c ih =>
    intro hc n
    have gv := tc_gs T hC hv
    have gc := tc_gs T hC (i := c) (by omega)
    have ic : vp_in (tc_e (c + 1)) 64 := vp_in_nI (by omega) (by omega)
    have iv : vp_in (nI v) 64 := vp_in_nI (by omega) (by omega)
    have rc : a (tc_e (c + 1)).toNatClampNeg = nI (g c) := tc_rd ha hC (by omega)
    have rv := tc_rd ha hC hv
    refine br_f (tc_eP (by omega)) ⟨ic, iv, ?_⟩
    by_cases z : g v < g c
    · refine br_t (by rw [rc, rv]; exact nI_lt z (by omega)) (nm_r (tc_eM c) (ih (by omega) (fun k x y => ?_)))
      by_cases h : k = c
      · rw [h]; exact z
      · exact n k (by omega) y
    · refine br_f (by rw [rc, rv]; exact nI_nlt (by omega) (by omega)) ⟨ic, iv, ?_⟩
      by_cases y : g c = g v
      · rw [tc_pvY T hv (u := c) (by omega) y (fun k p q => n k (by omega) q)] at H
        exact br_t (by rw [rc, rv, y]) H
      · rw [tc_pvN T hv (u := c) (by omega) (by omega) (fun k p q => n k (by omega) q)] at H
        exact br_f (by rw [rc, rv, nI_eq (by omega) (by omega)]; exact y) H
theorem tc_mtl (hC : C ≤ 64) (T : tc_T g C) (ha : tc_Pd g C a) {lo hi : Nat} {q : Nat → Prop} (hq : ∀ u, q u ↔ (tc_U g u lo ∧ tc_U g u hi)) (hl : lo ≤ hi) (hh : hi < C) (H : post (tc_e (tc_la q C))) : ∀ c, c ≤ lo + 1 → (∀ k, c ≤ k → k < C → ¬ q k) → wX_meet_44 post (nI hi) fl (nI C) fo b a (c + 1) (tc_e c) := by
  intro c
  induction c with
  | zero =>
    intro _ n
    rw [tc_la0 (fun k hk => n k (by omega) hk)] at H
    exact br_t tc_e0 H
  | succ c ih =>
    intro hc n
    refine br_f (tc_eP (by omega)) (tc_fp hC T ha (v := c) (by omega) (fun r F => ?_))
    have f1 := F.1
    have f2 := F.2.1
    by_cases z : r ≤ hi
    · refine br_t (nI_le z (by omega)) (nm_r (tc_eM c) (ih (by omega) (fun k x y w => ?_)))
      by_cases h : k = c
      · subst h
        have := (tc_FU F hh).mp ((hq k).mp w).2
        omega
      · exact n k (by omega) y w
    · have qc : q c := (hq c).mpr ⟨(tc_FU F (by omega)).mpr ⟨by omega, by omega⟩, (tc_FU F hh).mpr ⟨by omega, by omega⟩⟩
      rw [tc_laU (j := c) (by omega) qc (fun i x y => n i (by omega) y)] at H
      exact br_f (nI_ge (by omega) (by omega)) H
theorem tc_htl (hC : C ≤ 64) (T : tc_T g C) (ha : tc_Pd g C a) {v r : Nat} (hv : v < C) (F : tc_F g C v r) (H : post (nI (tc_mx g v C))) : ∀ k w, w + k = r → v < w → wX_height_28 post (nI v) (nI r) fl (nI C) fo b a (k + 1) (nI (g v + tc_mx g v w)) (nI w) := by
  have f2 := F.2.1
  have gv := tc_gs T hC hv
  intro k
  induction k with
  | zero =>
    intro w e l
    have e' : w = r := by omega
    subst e'
    rw [tc_mxE f2 (fun j x y z => by have := (tc_FU F y).mp z; omega)] at H
    refine br_t (nI_le (Nat.le_refl _) (by omega)) ⟨vp_in_nI (by omega) (by omega), ?_⟩
    rw [tc_rd ha hC hv, pk_sub (by omega), Nat.add_sub_cancel_left]
    exact H
  | succ k ih =>
    intro w e l
    have gw := tc_gs T hC (i := w) (by omega)
    have ml := tc_mxL (v := v) T w (by omega)
    have rw' : a (nI w).toNatClampNeg = nI (g w) := tc_rd ha hC (by omega)
    have iw : vp_in (nI w) 64 := vp_in_nI (by omega) (by omega)
    refine br_f (nI_ge (by omega) (by omega)) ⟨iw, ?_⟩
    have i := ih (w + 1) (by omega) (by omega)
    by_cases z : tc_mx g v w < g w - g v
    · rw [tc_mxT ((tc_FU F (by omega)).mpr ⟨by omega, by omega⟩) z, show g v + (g w - g v) = g w from by omega] at i
      exact br_f (by rw [rw']; exact nI_ge (by omega) (by omega)) ⟨iw, nm_r rw' (nm_r (nI_1 w) i)⟩
    · rw [tc_mxF z] at i
      exact br_t (by rw [rw']; exact nI_le (by omega) (by omega)) (nm_r (nI_1 w) i)
theorem tc_lfl (hC : C ≤ 64) (T : tc_T g C) (ha : tc_Pd g C a) {v : Nat} (hv : v < C) (H : post (nI (tc_cn (fun u => ¬ g u < g (u + 1)) v))) : ∀ k w, w + k = v → wX_leavesBefore_14 post (nI v) fl (nI C) fo b a (k + 1) (nI (tc_cn (fun u => ¬ g u < g (u + 1)) w)) (nI w) := by
  intro k
  induction k with
  | zero =>
    intro w e
    have e' : w = v := by omega
    subst e'
    exact br_t (nI_le (Nat.le_refl _) (by omega)) H
  | succ k ih =>
    intro w e
    have gw := tc_gs T hC (i := w) (by omega)
    have gx := tc_gs T hC (i := w + 1) (by omega)
    have rw' : a (nI w).toNatClampNeg = nI (g w) := tc_rd ha hC (by omega)
    have rx : a (nI w + 1).toNatClampNeg = nI (g (w + 1)) := by rw [nI_1]; exact tc_rd ha hC (by omega)
    refine br_f (nI_ge (by omega) (by omega)) ⟨by rw [nI_1]; exact vp_in_nI (by omega) (by omega), vp_in_nI (by omega) (by omega), ?_⟩
    have i := ih (w + 1) (by omega)
    by_cases z : g w < g (w + 1)
    · rw [tc_cnF (q := fun u => ¬ g u < g (u + 1)) (fun y => y z)] at i
      exact br_t (by rw [rw', rx]; exact nI_lt z (by omega)) (nm_r (nI_1 w) i)
    · rw [tc_cnT (q := fun u => ¬ g u < g (u + 1)) z] at i
      exact br_f (by rw [rw', rx]; exact nI_nlt (by omega) (by omega)) (nm_r (nI_1 _) (nm_r (nI_1 w) i))
end
