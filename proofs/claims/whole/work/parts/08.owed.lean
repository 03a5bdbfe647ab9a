/-- the same brackets on either side; the class holds the depths of the nodes that are begun -/
def i_Rel (k : Nat) (u : SX) (v : SY) : Prop := ∃ (L C D : Nat) (b : Nat → Int32) (g : Nat → Nat) (a : Nat → Int32) (c l : Int32) (p e : Nat → Int32), u = (nI L, nI C, nI D, b, a) ∧ v = (nI L, c, l, b, p, e) ∧ L ≤ 64 ∧ tc_St b g L C D ∧ tc_Pd g C a
theorem tc_R {k L C D : Nat} {b : Nat → Int32} {g : Nat → Nat} {a : Nat → Int32} {c l : Int32} {p e : Nat → Int32} (hL : L ≤ 64) (hs : tc_St b g L C D) (ha : tc_Pd g C a) : i_Rel k (nI L, nI C, nI D, b, a) (nI L, c, l, b, p, e) :=
  ⟨L, C, D, b, g, a, c, l, p, e, rfl, rfl, hL, hs, ha⟩
theorem tc_b1 : ¬ vp_nar .boolean 1 = 0 := by decide +kernel
theorem tc_b0 : vp_nar .boolean 0 = 0 := by decide +kernel
theorem i_up {k : Nat} {u : SX} {v : SY} (h : i_Rel k u v) : i_Rel (k + 3) u v := h
theorem i_vc0 : wpX_init (fun u => wpY_init (fun v => i_Rel 0 u v)) := by
  have R : i_Rel 0 (nI 0, nI 0, nI 0, fun _ => 0, fun _ => 0) (nI 0, 0, 0, fun _ => 0, fun _ => 0, fun _ => 0) :=
    tc_R (g := fun _ => 0) (by omega) ⟨rfl, rfl⟩ (fun i hi => absurd hi (by omega))
  rw [nI_0] at R
  exact R
theorem i_vc_open {k : Nat} {u : SX} {v : SY} (I : i_Rel k u v) (hk : k + 3 ≤ 1536) : wpX_open (fun r u' => wpY_open (fun r' v' => r' = r ∧ i_Rel (k + 3) u' v') v) u := by
  obtain ⟨L, C, D, b, g, a, c, l, p, e, rfl, rfl, hL, hs, ha⟩ := I
  have c1 := tc_StC hs
  by_cases z : L < 64
  · have lt : nI L < 64 := nI_lt (b := 64) z (by decide)
    have il : vp_in (nI L) 64 := vp_in_nI z (by decide)
    have cl : (nI L).toNatClampNeg = L := nI_clamp (by omega)
    have cc : (nI C).toNatClampNeg = C := nI_clamp (by omega)
    refine br_t lt ⟨il, nm_e ⟨vp_in_nI (by omega) (by decide), nm_e (nm_r (nI_1 L) (nm_r (nI_1 C) (nm_r (nI_1 D) ?_)))⟩⟩
    refine br_t lt ⟨il, nm_e (nm_r (nI_1 L) ?_)⟩
    rw [cl, cc]
    have s' : tc_St (upd b L (vp_nar .boolean 1)) (fun i => if i = C then D else g i) (L + 1) (C + 1) (D + 1) := by
      refine Or.inl ⟨by rw [pk_us]; exact tc_b1, C, D, rfl, rfl, if_pos rfl, ?_⟩
      refine tc_Stb (fun i hi => (pk_un (by omega)).symm) (tc_Stg (fun i hi => ?_) hs)
      exact (if_neg (by omega)).symm
    have a' : tc_Pd (fun i => if i = C then D else g i) (C + 1) (upd a C (nI D)) := by
      intro i hi
      by_cases y : i = C
      · subst y
        rw [pk_us]
        exact congrArg nI (if_pos rfl).symm
      · rw [pk_un y, ha i (by omega)]
        exact congrArg nI (if_neg y).symm
    exact tc_work (by omega) s' (fun u e _ _ => ⟨nI_pred C, tc_R (by omega) s' a'⟩)
  · have e64 : L = 64 := by omega
    have nlt : ¬ nI L < 64 := nI_nlt (b := 64) (by omega) (by omega)
    exact br_f nlt (br_f nlt ⟨rfl, tc_R hL hs ha⟩)
theorem i_vc_close {k : Nat} {u : SX} {v : SY} (I : i_Rel k u v) (hk : k + 3 ≤ 1536) : wpX_close (fun r u' => wpY_close (fun r' v' => r' = r ∧ i_Rel (k + 3) u' v') v) u := by
  obtain ⟨L, C, D, b, g, a, c, l, p, e, rfl, rfl, hL, hs, ha⟩ := I
  have c1 := tc_StC hs
  have hC : C ≤ 64 := by omega
  have T := (tc_StT hs).1
  obtain ⟨_, z0, n0⟩ := tc_StT hs
  have up := tc_upS T (Nat.le_refl _) z0 n0
  cases D with
  | zero =>
    rcases up with ⟨x, _⟩ | ⟨j, _, _, y, _⟩
    · refine br_t nI_0 ?_
      unfold wpY_close
      exact tc_work hL hs (fun u e _ _ => br_f (by rw [x]; decide +kernel) ⟨rfl, tc_R hL hs ha⟩)
    · omega
  | succ D =>
    rcases up with ⟨_, x⟩ | ⟨j, x, lj, y, n⟩
    · omega
    · have last : (0 : Int32) ≤ tc_e (tc_up g (D + 1) C) := by rw [x]; exact nI_pos' (n := j) (by omega)
      refine br_f (nI_ne0 (by omega) (by omega)) ?_
      by_cases z : L < 64
      · have lt : nI L < 64 := nI_lt (b := 64) z (by decide)
        have il : vp_in (nI L) 64 := vp_in_nI z (by decide)
        have cl : (nI L).toNatClampNeg = L := nI_clamp (by omega)
        have s' : tc_St (upd b L (vp_nar .boolean 0)) g (L + 1) C D :=
          Or.inr ⟨by rw [pk_us]; exact tc_b0, tc_Stb (fun i hi => (pk_un (by omega)).symm) hs⟩
        refine br_t lt ⟨il, nm_e (nm_r (nI_1 L) (nm_e ?_))⟩
        rw [tc_eS C]
        refine ⟨C + 1, tc_lwl C hC ?_⟩
        rw [tc_lwD T hC ha (Nat.le_refl _) z0 n0 (by omega), cl, nI_pred]
        unfold wpY_close
        refine tc_work hL hs (fun u e _ _ => br_t last (br_t lt ⟨il, nm_e (nm_r (nI_1 L) ⟨rfl, ?_⟩)⟩))
        rw [cl]
        exact tc_R (by omega) s' ha
      · have nlt : ¬ nI L < 64 := nI_nlt (b := 64) (by omega) (by omega)
        refine br_f nlt ?_
        unfold wpY_close
        exact tc_work hL hs (fun u e _ _ => br_t last (br_f nlt ⟨rfl, tc_R hL hs ha⟩))
theorem i_vc_undo {k : Nat} {u : SX} {v : SY} (I : i_Rel k u v) (hk : k + 3 ≤ 1536) : wpX_undo (fun r u' => wpY_undo (fun r' v' => r' = r ∧ i_Rel (k + 3) u' v') v) u := by
  obtain ⟨L, C, D, b, g, a, c, l, p, e, rfl, rfl, hL, hs, ha⟩ := I
  have c1 := tc_StC hs
  cases L with
  | zero => exact br_t nI_0 (br_t nI_0 ⟨rfl, tc_R hL hs ha⟩)
  | succ L =>
    have ne : ¬ nI (L + 1) = 0 := nI_ne0 (by omega) (by omega)
    have cl : (nI L).toNatClampNeg = L := nI_clamp (by omega)
    refine br_f ne (nm_r (nI_pred L) ⟨vp_in_nI (by omega) (by omega), ?_⟩)
    rcases hs with ⟨hb, C', D', rfl, rfl, _, hs⟩ | ⟨hb, hs⟩
    · refine br_f (by rw [cl]; exact hb) (nm_r (nI_pred C') (nm_r (nI_pred D') ?_))
      exact br_f ne (nm_r (nI_pred L) ⟨rfl, tc_R (by omega) hs (fun i hi => ha i (by omega))⟩)
    · refine br_t (by rw [cl]; exact hb) (nm_r (nI_1 D) ?_)
      exact br_f ne (nm_r (nI_pred L) ⟨rfl, tc_R (by omega) hs ha⟩)
theorem i_vc_nodes {k : Nat} {u : SX} {v : SY} (I : i_Rel k u v) (hk : k + 3 ≤ 1536) : wpX_nodes (fun r => wpY_nodes (fun r' v' => r' = r ∧ i_Rel (k + 3) u v') v) u := by
  obtain ⟨L, C, D, b, g, a, c, l, p, e, rfl, rfl, hL, hs, ha⟩ := I
  unfold wpX_nodes wpY_nodes
  exact tc_work hL hs (fun u e _ _ => ⟨rfl, tc_R hL hs ha⟩)
theorem i_vc_openNodes {k : Nat} {u : SX} {v : SY} (I : i_Rel k u v) (hk : k + 3 ≤ 1536) : wpX_openNodes (fun r => wpY_openNodes (fun r' v' => r' = r ∧ i_Rel (k + 3) u v') v) u := by
  obtain ⟨L, C, D, b, g, a, c, l, p, e, rfl, rfl, hL, hs, ha⟩ := I
  have c1 := tc_StC hs
  have hC : C ≤ 64 := by omega
  have T := (tc_StT hs).1
  obtain ⟨_, z0, n0⟩ := tc_StT hs
  unfold wpX_openNodes wpY_openNodes
  refine tc_work hL hs (fun u e _ he => ?_)
  rcases tc_upS T (Nat.le_refl _) z0 n0 with ⟨x, y⟩ | ⟨j, x, lj, y, _⟩
  · refine br_f (by rw [x]; decide +kernel) ⟨by rw [y, nI_0], tc_R hL hs ha⟩
  · have ej : tc_e (tc_up g D C) = nI j := by rw [x]; exact rfl
    refine br_t (by rw [ej]; exact nI_pos' (by omega)) ⟨by rw [ej]; exact vp_in_nI (by omega) (by omega), ?_, tc_R hL hs ha⟩
    rw [ej, tc_rd he hC lj, nI_1, y]
theorem i_vc_parent {k : Nat} {u : SX} {v : SY} (I : i_Rel k u v) (hk : k + 3 ≤ 1536) (v1 : Int32) : wpX_parent (fun r => wpY_parent (fun r' v' => r' = r ∧ i_Rel (k + 3) u v') v v1) u v1 := by
  obtain ⟨L, C, D, b, g, a, c, l, p, e, rfl, rfl, hL, hs, ha⟩ := I
  have c1 := tc_StC hs
  have hC : C ≤ 64 := by omega
  have T := (tc_StT hs).1
  rcases pk_ix v1 (n := C) (by omega) with h | h | ⟨w, hw, rfl⟩
  · exact tc_XNparent (Or.inl h) (tc_YNparent hL hs (Or.inl h) (fun _ _ => ⟨rfl, tc_R hL hs ha⟩))
  · exact tc_XNparent (Or.inr h) (tc_YNparent hL hs (Or.inr h) (fun _ _ => ⟨rfl, tc_R hL hs ha⟩))
  · exact tc_Xparent hC T ha hw (tc_Yparent hL hs hw (fun _ _ => ⟨rfl, tc_R hL hs ha⟩))
theorem i_vc_depth {k : Nat} {u : SX} {v : SY} (I : i_Rel k u v) (hk : k + 3 ≤ 1536) (v1 : Int32) : wpX_depth (fun r => wpY_depth (fun r' v' => r' = r ∧ i_Rel (k + 3) u v') v v1) u v1 := by
  obtain ⟨L, C, D, b, g, a, c, l, p, e, rfl, rfl, hL, hs, ha⟩ := I
  have c1 := tc_StC hs
  have hC : C ≤ 64 := by omega
  have T := (tc_StT hs).1
  rcases pk_ix v1 (n := C) (by omega) with h | h | ⟨w, hw, rfl⟩
  · exact tc_XNdepth (Or.inl h) (tc_YNdepth hL hs (Or.inl h) (fun _ _ => ⟨rfl, tc_R hL hs ha⟩))
  · exact tc_XNdepth (Or.inr h) (tc_YNdepth hL hs (Or.inr h) (fun _ _ => ⟨rfl, tc_R hL hs ha⟩))
  · exact tc_Xdepth hC ha hw (tc_Ydepth hL hs hw (fun _ _ => ⟨rfl, tc_R hL hs ha⟩))
theorem i_vc_size {k : Nat} {u : SX} {v : SY} (I : i_Rel k u v) (hk : k + 3 ≤ 1536) (v1 : Int32) : wpX_size (fun r => wpY_size (fun r' v' => r' = r ∧ i_Rel (k + 3) u v') v v1) u v1 := by
  obtain ⟨L, C, D, b, g, a, c, l, p, e, rfl, rfl, hL, hs, ha⟩ := I
  have c1 := tc_StC hs
  have hC : C ≤ 64 := by omega
  have T := (tc_StT hs).1
  rcases pk_ix v1 (n := C) (by omega) with h | h | ⟨w, hw, rfl⟩
  · exact tc_XNsize (Or.inl h) (tc_YNsize hL hs (Or.inl h) (fun _ _ => ⟨rfl, tc_R hL hs ha⟩))
  · exact tc_XNsize (Or.inr h) (tc_YNsize hL hs (Or.inr h) (fun _ _ => ⟨rfl, tc_R hL hs ha⟩))
  · exact tc_Xsize hC T ha hw (tc_Ysize hL hs hw (fun _ _ => ⟨rfl, tc_R hL hs ha⟩))
theorem i_vc_children {k : Nat} {u : SX} {v : SY} (I : i_Rel k u v) (hk : k + 3 ≤ 1536) (v1 : Int32) : wpX_children (fun r => wpY_children (fun r' v' => r' = r ∧ i_Rel (k + 3) u v') v v1) u v1 := by
  obtain ⟨L, C, D, b, g, a, c, l, p, e, rfl, rfl, hL, hs, ha⟩ := I
  have c1 := tc_StC hs
  have hC : C ≤ 64 := by omega
  have T := (tc_StT hs).1
  rcases pk_ix v1 (n := C) (by omega) with h | h | ⟨w, hw, rfl⟩
  · exact tc_XNchildren (Or.inl h) (tc_YNchildren hL hs (Or.inl h) (fun _ _ => ⟨rfl, tc_R hL hs ha⟩))
  · exact tc_XNchildren (Or.inr h) (tc_YNchildren hL hs (Or.inr h) (fun _ _ => ⟨rfl, tc_R hL hs ha⟩))
  · exact tc_Xchildren hC T ha hw (tc_Ychildren hL hs hw (fun _ _ => ⟨rfl, tc_R hL hs ha⟩))
theorem i_vc_next {k : Nat} {u : SX} {v : SY} (I : i_Rel k u v) (hk : k + 3 ≤ 1536) (v1 : Int32) : wpX_next (fun r => wpY_next (fun r' v' => r' = r ∧ i_Rel (k + 3) u v') v v1) u v1 := by
  obtain ⟨L, C, D, b, g, a, c, l, p, e, rfl, rfl, hL, hs, ha⟩ := I
  have c1 := tc_StC hs
  have hC : C ≤ 64 := by omega
  have T := (tc_StT hs).1
  rcases pk_ix v1 (n := C) (by omega) with h | h | ⟨w, hw, rfl⟩
  · exact tc_XNnext (Or.inl h) (tc_YNnext hL hs (Or.inl h) (fun _ _ => ⟨rfl, tc_R hL hs ha⟩))
  · exact tc_XNnext (Or.inr h) (tc_YNnext hL hs (Or.inr h) (fun _ _ => ⟨rfl, tc_R hL hs ha⟩))
  · exact tc_Xnext hC T ha hw (tc_Ynext hL hs hw (fun _ _ => ⟨rfl, tc_R hL hs ha⟩))
theorem i_vc_previous {k : Nat} {u : SX} {v : SY} (I : i_Rel k u v) (hk : k + 3 ≤ 1536) (v1 : Int32) : wpX_previous (fun r => wpY_previous (fun r' v' => r' = r ∧ i_Rel (k + 3) u v') v v1) u v1 := by
  obtain ⟨L, C, D, b, g, a, c, l, p, e, rfl, rfl, hL, hs, ha⟩ := I
  have c1 := tc_StC hs
  have hC : C ≤ 64 := by omega
  have T := (tc_StT hs).1
  rcases pk_ix v1 (n := C) (by omega) with h | h | ⟨w, hw, rfl⟩
  · exact tc_XNprevious (Or.inl h) (tc_YNprevious hL hs (Or.inl h) (fun _ _ => ⟨rfl, tc_R hL hs ha⟩))
  · exact tc_XNprevious (Or.inr h) (tc_YNprevious hL hs (Or.inr h) (fun _ _ => ⟨rfl, tc_R hL hs ha⟩))
  · exact tc_Xprevious hC T ha hw (tc_Yprevious hL hs hw (fun _ _ => ⟨rfl, tc_R hL hs ha⟩))
theorem i_vc_height {k : Nat} {u : SX} {v : SY} (I : i_Rel k u v) (hk : k + 3 ≤ 1536) (v1 : Int32) : wpX_height (fun r => wpY_height (fun r' v' => r' = r ∧ i_Rel (k + 3) u v') v v1) u v1 := by
  obtain ⟨L, C, D, b, g, a, c, l, p, e, rfl, rfl, hL, hs, ha⟩ := I
  have c1 := tc_StC hs
  have hC : C ≤ 64 := by omega
  have T := (tc_StT hs).1
  rcases pk_ix v1 (n := C) (by omega) with h | h | ⟨w, hw, rfl⟩
  · exact tc_XNheight (Or.inl h) (tc_YNheight hL hs (Or.inl h) (fun _ _ => ⟨rfl, tc_R hL hs ha⟩))
  · exact tc_XNheight (Or.inr h) (tc_YNheight hL hs (Or.inr h) (fun _ _ => ⟨rfl, tc_R hL hs ha⟩))
  · exact tc_Xheight hC T ha hw (tc_Yheight hL hs hw (fun _ _ => ⟨rfl, tc_R hL hs ha⟩))
theorem i_vc_leavesBefore {k : Nat} {u : SX} {v : SY} (I : i_Rel k u v) (hk : k + 3 ≤ 1536) (v1 : Int32) : wpX_leavesBefore (fun r => wpY_leavesBefore (fun r' v' => r' = r ∧ i_Rel (k + 3) u v') v v1) u v1 := by
  obtain ⟨L, C, D, b, g, a, c, l, p, e, rfl, rfl, hL, hs, ha⟩ := I
  have c1 := tc_StC hs
  have hC : C ≤ 64 := by omega
  have T := (tc_StT hs).1
  rcases pk_ix v1 (n := C) (by omega) with h | h | ⟨w, hw, rfl⟩
  · exact tc_XNleavesBefore (Or.inl h) (tc_YNleavesBefore hL hs (Or.inl h) (fun _ _ => ⟨rfl, tc_R hL hs ha⟩))
  · exact tc_XNleavesBefore (Or.inr h) (tc_YNleavesBefore hL hs (Or.inr h) (fun _ _ => ⟨rfl, tc_R hL hs ha⟩))
  · exact tc_XleavesBefore hC T ha hw (tc_YleavesBefore hL hs hw (fun _ _ => ⟨rfl, tc_R hL hs ha⟩))
theorem i_vc_child {k : Nat} {u : SX} {v : SY} (I : i_Rel k u v) (hk : k + 3 ≤ 1536) (v1 : Int32) (v2 : Int32) : wpX_child (fun r => wpY_child (fun r' v' => r' = r ∧ i_Rel (k + 3) u v') v v1 v2) u v1 v2 := by
  obtain ⟨L, C, D, b, g, a, c, l, p, e, rfl, rfl, hL, hs, ha⟩ := I
  have c1 := tc_StC hs
  have hC : C ≤ 64 := by omega
  have T := (tc_StT hs).1
  rcases pk_ix v1 (n := C) (by omega) with h | h | ⟨w, hw, rfl⟩
  · exact tc_XNchild (Or.inl h) (tc_YNchild hL hs (Or.inl h) (fun _ _ => ⟨rfl, tc_R hL hs ha⟩))
  · exact tc_XNchild (Or.inr h) (tc_YNchild hL hs (Or.inr h) (fun _ _ => ⟨rfl, tc_R hL hs ha⟩))
  · exact tc_Xchild hC T ha hw (tc_Ychild hL hs hw (fun _ _ => ⟨rfl, tc_R hL hs ha⟩))
theorem i_vc_aboveAt {k : Nat} {u : SX} {v : SY} (I : i_Rel k u v) (hk : k + 3 ≤ 1536) (v1 : Int32) (v2 : Int32) : wpX_aboveAt (fun r => wpY_aboveAt (fun r' v' => r' = r ∧ i_Rel (k + 3) u v') v v1 v2) u v1 v2 := by
  obtain ⟨L, C, D, b, g, a, c, l, p, e, rfl, rfl, hL, hs, ha⟩ := I
  have c1 := tc_StC hs
  have hC : C ≤ 64 := by omega
  have T := (tc_StT hs).1
  rcases pk_ix v1 (n := C) (by omega) with h | h | ⟨w, hw, rfl⟩
  · exact tc_XNaboveAt (Or.inl h) (tc_YNaboveAt hL hs (Or.inl h) (fun _ _ => ⟨rfl, tc_R hL hs ha⟩))
  · exact tc_XNaboveAt (Or.inr h) (tc_YNaboveAt hL hs (Or.inr h) (fun _ _ => ⟨rfl, tc_R hL hs ha⟩))
  · exact tc_XaboveAt hC T ha hw (tc_YaboveAt hL hs hw (fun _ _ => ⟨rfl, tc_R hL hs ha⟩))
theorem i_vc_meet {k : Nat} {u : SX} {v : SY} (I : i_Rel k u v) (hk : k + 3 ≤ 1536) (v1 : Int32) (v2 : Int32) : wpX_meet (fun r => wpY_meet (fun r' v' => r' = r ∧ i_Rel (k + 3) u v') v v1 v2) u v1 v2 := by
  obtain ⟨L, C, D, b, g, a, c, l, p, e, rfl, rfl, hL, hs, ha⟩ := I
  have c1 := tc_StC hs
  have hC : C ≤ 64 := by omega
  have T := (tc_StT hs).1
  rcases pk_ix v1 (n := C) (by omega) with h | h | ⟨w, hw, rfl⟩
  · exact tc_XNmeet (Or.inl h) (tc_YNmeet hL hs (Or.inl h) (fun _ _ => ⟨rfl, tc_R hL hs ha⟩))
  · exact tc_XNmeet (Or.inr h) (tc_YNmeet hL hs (Or.inr h) (fun _ _ => ⟨rfl, tc_R hL hs ha⟩))
  · rcases pk_ix v2 (n := C) (by omega) with h | h | ⟨x, hx, rfl⟩
    · exact tc_XMmeet hC hw (Or.inl h) (tc_YMmeet hL hs hw (Or.inl h) (fun _ _ => ⟨rfl, tc_R hL hs ha⟩))
    · exact tc_XMmeet hC hw (Or.inr h) (tc_YMmeet hL hs hw (Or.inr h) (fun _ _ => ⟨rfl, tc_R hL hs ha⟩))
    · exact tc_Xmeet hC T ha hw hx (tc_Ymeet hx hL hs hw (fun _ _ => ⟨rfl, tc_R hL hs ha⟩))
