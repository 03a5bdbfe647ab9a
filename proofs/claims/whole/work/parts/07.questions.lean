/-! each question's walk on either side, by a node and by what is none -/
section
variable {post : Int32 → Prop} {g : Nat → Nat} {L C : Nat} {o : Int32} {b a : Nat → Int32}
theorem tc_XNparent {x : Int32} (hx : x < 0 ∨ nI C ≤ x) (H : post (-1)) : wpX_parent post (nI L, nI C, o, b, a) x := by
  unfold wpX_parent
  exact tc_isN hx (br_t rfl H)
theorem tc_XNdepth {x : Int32} (hx : x < 0 ∨ nI C ≤ x) (H : post (-1)) : wpX_depth post (nI L, nI C, o, b, a) x := by
  unfold wpX_depth
  exact tc_isN hx (br_t rfl H)
theorem tc_XNsize {x : Int32} (hx : x < 0 ∨ nI C ≤ x) (H : post (-1)) : wpX_size post (nI L, nI C, o, b, a) x := by
  unfold wpX_size
  exact tc_isN hx (br_t rfl H)
theorem tc_XNchildren {x : Int32} (hx : x < 0 ∨ nI C ≤ x) (H : post (-1)) : wpX_children post (nI L, nI C, o, b, a) x := by
  unfold wpX_children
  exact tc_isN hx (br_t rfl H)
theorem tc_XNnext {x : Int32} (hx : x < 0 ∨ nI C ≤ x) (H : post (-1)) : wpX_next post (nI L, nI C, o, b, a) x := by
  unfold wpX_next
  exact tc_isN hx (br_t rfl H)
theorem tc_XNprevious {x : Int32} (hx : x < 0 ∨ nI C ≤ x) (H : post (-1)) : wpX_previous post (nI L, nI C, o, b, a) x := by
  unfold wpX_previous
  exact tc_isN hx (br_t rfl H)
theorem tc_XNheight {x : Int32} (hx : x < 0 ∨ nI C ≤ x) (H : post (-1)) : wpX_height post (nI L, nI C, o, b, a) x := by
  unfold wpX_height
  exact tc_isN hx (br_t rfl H)
theorem tc_XNleavesBefore {x : Int32} (hx : x < 0 ∨ nI C ≤ x) (H : post (-1)) : wpX_leavesBefore post (nI L, nI C, o, b, a) x := by
  unfold wpX_leavesBefore
  exact tc_isN hx (br_t rfl H)
theorem tc_XNchild {x y : Int32} (hx : x < 0 ∨ nI C ≤ x) (H : post (-1)) : wpX_child post (nI L, nI C, o, b, a) x y := by
  unfold wpX_child
  exact tc_isN hx (br_t rfl H)
theorem tc_XNaboveAt {x y : Int32} (hx : x < 0 ∨ nI C ≤ x) (H : post (-1)) : wpX_aboveAt post (nI L, nI C, o, b, a) x y := by
  unfold wpX_aboveAt
  exact tc_isN hx (br_t rfl H)
theorem tc_XNmeet {x y : Int32} (hx : x < 0 ∨ nI C ≤ x) (H : post (-1)) : wpX_meet post (nI L, nI C, o, b, a) x y := by
  unfold wpX_meet
  exact tc_isN hx (br_t rfl H)
theorem tc_XMmeet {v : Nat} {y : Int32} (hC : C ≤ 64) (hv : v < C) (hy : y < 0 ∨ nI C ≤ y) (H : post (-1)) : wpX_meet post (nI L, nI C, o, b, a) (nI v) y := by
  unfold wpX_meet
  exact tc_isY hC hv (br_f tc_10 (tc_isN hy (br_t rfl H)))
theorem tc_Xparent (hC : C ≤ 64) (T : tc_T g C) (ha : tc_Pd g C a) {v : Nat} (hv : v < C) (H : post (tc_e (tc_pa g v))) : wpX_parent post (nI L, nI C, o, b, a) (nI v) := by
  unfold wpX_parent
  refine tc_isY hC hv (br_f tc_10 ⟨vp_in_nI (by omega) (by omega), ?_⟩)
  rw [tc_rd ha hC hv]
  exact ⟨v + 1 + 1, tc_lwl (v + 1) (by omega) (by rw [tc_paX T hC ha hv]; exact H)⟩
theorem tc_Xdepth (hC : C ≤ 64) (ha : tc_Pd g C a) {v : Nat} (hv : v < C) (H : post (nI (g v))) : wpX_depth post (nI L, nI C, o, b, a) (nI v) := by
  unfold wpX_depth
  refine tc_isY hC hv (br_f tc_10 ⟨vp_in_nI (by omega) (by omega), ?_⟩)
  rw [tc_rd ha hC hv]
  exact H
theorem tc_Xsize (hC : C ≤ 64) (T : tc_T g C) (ha : tc_Pd g C a) {v : Nat} (hv : v < C) (H : post (nI (tc_cn (fun w => tc_U g v w) C))) : wpX_size post (nI L, nI C, o, b, a) (nI v) := by
  unfold wpX_size
  refine tc_isY hC hv (br_f tc_10 (tc_fp hC T ha hv (fun r F => ?_)))
  show post (nI r - nI v)
  rw [pk_sub (Nat.le_of_lt F.1), ← tc_szE F]
  exact H
theorem tc_Xchildren (hC : C ≤ 64) (T : tc_T g C) (ha : tc_Pd g C a) {v : Nat} (hv : v < C) (H : post (nI (tc_cn (fun u => tc_pa g u = v + 1) C))) : wpX_children post (nI L, nI C, o, b, a) (nI v) := by
  unfold wpX_children
  refine tc_isY hC hv (br_f tc_10 (tc_fp hC T ha hv (fun r F => nm_r (nI_1 v) ?_)))
  have f1 := F.1
  have k := tc_chl (post := post) (fl := nI L) (fo := o) (b := b) hC T ha hv F H (r - (v + 1)) (v + 1) (by omega) (by omega)
  rw [tc_cn0 (q := fun u => tc_pa g u = v + 1) (fun j hj z => by have := ((tc_Fch T F (by omega)).mp z).1; omega), nI_0] at k
  exact ⟨_, k⟩
theorem tc_Xchild (hC : C ≤ 64) (T : tc_T g C) (ha : tc_Pd g C a) {v : Nat} {d : Int32} (hv : v < C) (H : post (tc_e (tc_fi (fun w => tc_pa g w = v + 1 ∧ nI (tc_cn (fun u => tc_pa g u = v + 1) w) = d) C))) : wpX_child post (nI L, nI C, o, b, a) (nI v) d := by
  unfold wpX_child
  refine tc_isY hC hv (br_f tc_10 (tc_fp hC T ha hv (fun r F => nm_r (nI_1 v) ?_)))
  have f1 := F.1
  have n : ∀ j, j < v + 1 → ¬ tc_pa g j = v + 1 := fun j hj z => by
    have := ((tc_Fch T F (by omega)).mp z).1
    omega
  have k := tc_cdl (post := post) (fl := nI L) (fo := o) (b := b) hC T ha hv F H (r - (v + 1)) (v + 1) (by omega) (by omega) (fun j hj z => n j hj z.1)
  rw [tc_cn0 (q := fun u => tc_pa g u = v + 1) n, nI_0] at k
  exact ⟨_, k⟩
theorem tc_Xnext (hC : C ≤ 64) (T : tc_T g C) (ha : tc_Pd g C a) {v : Nat} (hv : v < C) (H : post (tc_e (tc_fi (fun w => v < w ∧ tc_pa g w = tc_pa g v) C))) : wpX_next post (nI L, nI C, o, b, a) (nI v) := by
  unfold wpX_next
  refine tc_isY hC hv (br_f tc_10 (tc_fp hC T ha hv (fun r F => ?_)))
  have f2 := F.2.1
  by_cases z : r < C
  · have gv := tc_gs T hC hv
    have gr := tc_gs T hC z
    refine br_f (nI_ge z (by omega)) ⟨vp_in_nI (by omega) (by omega), vp_in_nI (by omega) (by omega), ?_⟩
    by_cases y : g r = g v
    · rw [tc_nxY T F z y] at H
      exact br_t (by rw [tc_rd ha hC hv, tc_rd ha hC z, y]) H
    · rw [tc_nxN T F (fun _ => y)] at H
      exact br_f (by rw [tc_rd ha hC hv, tc_rd ha hC z, nI_eq (by omega) (by omega)]; exact y) H
  · rw [tc_nxN T F (fun y => absurd y z)] at H
    exact br_t (nI_le (by omega) (by omega)) H
theorem tc_Xprevious (hC : C ≤ 64) (T : tc_T g C) (ha : tc_Pd g C a) {v : Nat} (hv : v < C) (H : post (tc_e (tc_la (fun w => w < v ∧ tc_pa g w = tc_pa g v) C))) : wpX_previous post (nI L, nI C, o, b, a) (nI v) := by
  unfold wpX_previous
  exact tc_isY hC hv (br_f tc_10 (nm_r (tc_eS v) ⟨v + 1, tc_pvl hC T ha hv H v (Nat.le_refl _) (fun k x y => by omega)⟩))
theorem tc_Xmeet (hC : C ≤ 64) (T : tc_T g C) (ha : tc_Pd g C a) {v w : Nat} (hv : v < C) (hw : w < C) (H : post (tc_e (tc_la (fun u => tc_U g u v ∧ tc_U g u w) C))) : wpX_meet post (nI L, nI C, o, b, a) (nI v) (nI w) := by
  unfold wpX_meet
  refine tc_isY hC hv (br_f tc_10 (tc_isY hC hw (br_f tc_10 ?_)))
  by_cases z : w ≤ v
  · have l : nI w ≤ nI v := nI_le z (by omega)
    exact br_t l (br_t l ⟨w + 1 + 1, tc_mtl hC T ha (lo := w) (hi := v) (q := fun u => tc_U g u v ∧ tc_U g u w) (fun u => ⟨fun x => ⟨x.2, x.1⟩, fun x => ⟨x.2, x.1⟩⟩) z hv H (w + 1) (Nat.le_refl _) (fun k x y s => by have := s.2.1; omega)⟩)
  · have l : ¬ nI w ≤ nI v := nI_ge (by omega) (by omega)
    exact br_f l (br_f l ⟨v + 1 + 1, tc_mtl hC T ha (lo := v) (hi := w) (q := fun u => tc_U g u v ∧ tc_U g u w) (fun u => Iff.rfl) (by omega) hw H (v + 1) (Nat.le_refl _) (fun k x y s => by have := s.1.1; omega)⟩)
theorem tc_XaboveAt (hC : C ≤ 64) (T : tc_T g C) (ha : tc_Pd g C a) {v : Nat} {d : Int32} (hv : v < C) (H : post (tc_e (tc_fi (fun u => tc_U g u v ∧ nI (g u) = d) C))) : wpX_aboveAt post (nI L, nI C, o, b, a) (nI v) d := by
  unfold wpX_aboveAt
  refine tc_isY hC hv (br_f tc_10 ⟨vp_in_nI (by omega) (by omega), ?_⟩)
  by_cases z : d ≤ nI (g v)
  · exact br_t (by rw [tc_rd ha hC hv]; exact z) ⟨v + 1 + 1, tc_lwl (v + 1) (by omega) (by rw [tc_abv T hC ha hv z]; exact H)⟩
  · rw [tc_abN T hC hv z] at H
    exact br_f (by rw [tc_rd ha hC hv]; exact z) H
theorem tc_Xheight (hC : C ≤ 64) (T : tc_T g C) (ha : tc_Pd g C a) {v : Nat} (hv : v < C) (H : post (nI (tc_mx g v C))) : wpX_height post (nI L, nI C, o, b, a) (nI v) := by
  unfold wpX_height
  refine tc_isY hC hv (br_f tc_10 (tc_fp hC T ha hv (fun r F => ⟨vp_in_nI (by omega) (by omega), nm_r (tc_rd ha hC hv) (nm_r (nI_1 v) ?_)⟩)))
  have f1 := F.1
  have k := tc_htl (post := post) (fl := nI L) (fo := o) (b := b) hC T ha hv F H (r - (v + 1)) (v + 1) (by omega) (by omega)
  rw [tc_mx0, Nat.add_zero] at k
  exact ⟨_, k⟩
theorem tc_XleavesBefore (hC : C ≤ 64) (T : tc_T g C) (ha : tc_Pd g C a) {v : Nat} (hv : v < C) (H : post (nI (tc_cn (fun u => ¬ g u < g (u + 1)) v))) : wpX_leavesBefore post (nI L, nI C, o, b, a) (nI v) := by
  unfold wpX_leavesBefore
  refine tc_isY hC hv (br_f tc_10 ?_)
  have k := tc_lfl (post := post) (fl := nI L) (fo := o) (b := b) hC T ha hv H v 0 (by omega)
  rw [show tc_cn (fun u => ¬ g u < g (u + 1)) 0 = 0 from rfl, nI_0] at k
  exact ⟨_, k⟩
end
section
variable {post : Int32 → SY → Prop} {b : Nat → Int32} {g : Nat → Nat} {L C D : Nat} {c l : Int32} {u e : Nat → Int32}
theorem tc_YNparent {x : Int32} (hL : L ≤ 64) (hs : tc_St b g L C D) (hx : x < 0 ∨ nI C ≤ x) (H : ∀ u e, post (-1) (nI L, nI C, tc_e (tc_up g D C), b, u, e)) : wpY_parent post (nI L, c, l, b, u, e) x := by
  unfold wpY_parent
  exact tc_nodeN hL hs hx (fun u e _ _ => br_t rfl (H u e))
theorem tc_YNdepth {x : Int32} (hL : L ≤ 64) (hs : tc_St b g L C D) (hx : x < 0 ∨ nI C ≤ x) (H : ∀ u e, post (-1) (nI L, nI C, tc_e (tc_up g D C), b, u, e)) : wpY_depth post (nI L, c, l, b, u, e) x := by
  unfold wpY_depth
  exact tc_nodeN hL hs hx (fun u e _ _ => br_t rfl (H u e))
theorem tc_YNsize {x : Int32} (hL : L ≤ 64) (hs : tc_St b g L C D) (hx : x < 0 ∨ nI C ≤ x) (H : ∀ u e, post (-1) (nI L, nI C, tc_e (tc_up g D C), b, u, e)) : wpY_size post (nI L, c, l, b, u, e) x := by
  unfold wpY_size
  exact tc_nodeN hL hs hx (fun u e _ _ => br_t rfl (H u e))
theorem tc_YNchildren {x : Int32} (hL : L ≤ 64) (hs : tc_St b g L C D) (hx : x < 0 ∨ nI C ≤ x) (H : ∀ u e, post (-1) (nI L, nI C, tc_e (tc_up g D C), b, u, e)) : wpY_children post (nI L, c, l, b, u, e) x := by
  unfold wpY_children
  exact tc_nodeN hL hs hx (fun u e _ _ => br_t rfl (H u e))
theorem tc_YNheight {x : Int32} (hL : L ≤ 64) (hs : tc_St b g L C D) (hx : x < 0 ∨ nI C ≤ x) (H : ∀ u e, post (-1) (nI L, nI C, tc_e (tc_up g D C), b, u, e)) : wpY_height post (nI L, c, l, b, u, e) x := by
  unfold wpY_height
  exact tc_nodeN hL hs hx (fun u e _ _ => br_t rfl (H u e))
theorem tc_YNleavesBefore {x : Int32} (hL : L ≤ 64) (hs : tc_St b g L C D) (hx : x < 0 ∨ nI C ≤ x) (H : ∀ u e, post (-1) (nI L, nI C, tc_e (tc_up g D C), b, u, e)) : wpY_leavesBefore post (nI L, c, l, b, u, e) x := by
  unfold wpY_leavesBefore
  exact tc_nodeN hL hs hx (fun u e _ _ => br_t rfl (H u e))
theorem tc_YNchild {x y : Int32} (hL : L ≤ 64) (hs : tc_St b g L C D) (hx : x < 0 ∨ nI C ≤ x) (H : ∀ u e, post (-1) (nI L, nI C, tc_e (tc_up g D C), b, u, e)) : wpY_child post (nI L, c, l, b, u, e) x y := by
  unfold wpY_child
  exact tc_nodeN hL hs hx (fun u e _ _ => ⟨1, br_c (fun _ => H u e) (fun _ => br_t rfl (H u e))⟩)
theorem tc_YNaboveAt {x y : Int32} (hL : L ≤ 64) (hs : tc_St b g L C D) (hx : x < 0 ∨ nI C ≤ x) (H : ∀ u e, post (-1) (nI L, nI C, tc_e (tc_up g D C), b, u, e)) : wpY_aboveAt post (nI L, c, l, b, u, e) x y := by
  unfold wpY_aboveAt
  exact tc_nodeN hL hs hx (fun u e _ _ => ⟨1, br_c (fun _ => H u e) (fun _ => br_t rfl (H u e))⟩)
theorem tc_YNnext {x : Int32} (hL : L ≤ 64) (hs : tc_St b g L C D) (hx : x < 0 ∨ nI C ≤ x) (H : ∀ u e, post (-1) (nI L, nI C, tc_e (tc_up g D C), b, u, e)) : wpY_next post (nI L, c, l, b, u, e) x := by
  unfold wpY_next
  exact tc_nodeN hL hs hx (fun u e _ _ => ⟨1, br_c (fun _ => H u e) (fun _ => br_t rfl (H u e))⟩)
theorem tc_YNmeet {x y : Int32} (hL : L ≤ 64) (hs : tc_St b g L C D) (hx : x < 0 ∨ nI C ≤ x) (H : ∀ u e, post (-1) (nI L, nI C, tc_e (tc_up g D C), b, u, e)) : wpY_meet post (nI L, c, l, b, u, e) x y := by
  unfold wpY_meet
  exact tc_nodeN hL hs hx (fun u e _ _ => br_t rfl ⟨1, br_c (fun _ => H u e) (fun _ => br_t rfl (H u e))⟩)
theorem tc_YNprevious {x : Int32} (hL : L ≤ 64) (hs : tc_St b g L C D) (hx : x < 0 ∨ nI C ≤ x) (H : ∀ u e, post (-1) (nI L, nI C, tc_e (tc_up g D C), b, u, e)) : wpY_previous post (nI L, c, l, b, u, e) x := by
  unfold wpY_previous
  exact tc_nodeN hL hs hx (fun u e _ _ => nm_e ⟨1, br_c (fun _ => H u e) (fun _ => br_t rfl (H u e))⟩)
theorem tc_Yparent {v : Nat} (hL : L ≤ 64) (hs : tc_St b g L C D) (hv : v < C) (H : ∀ u e, post (tc_e (tc_pa g v)) (nI L, nI C, tc_e (tc_up g D C), b, u, e)) : wpY_parent post (nI L, c, l, b, u, e) (nI v) := by
  have c1 := tc_StC hs
  have hC : C ≤ 64 := by omega
  have T := (tc_StT hs).1
  unfold wpY_parent
  refine tc_nodeY hL hs hv (fun u e hu he => ?_)
  refine br_f tc_10 ⟨vp_in_nI (by omega) (by omega), ?_⟩
  rw [tc_ru hu hC hv]
  exact H u e
theorem tc_Ydepth {v : Nat} (hL : L ≤ 64) (hs : tc_St b g L C D) (hv : v < C) (H : ∀ u e, post (nI (g v)) (nI L, nI C, tc_e (tc_up g D C), b, u, e)) : wpY_depth post (nI L, c, l, b, u, e) (nI v) := by
  have c1 := tc_StC hs
  have hC : C ≤ 64 := by omega
  have T := (tc_StT hs).1
  unfold wpY_depth
  refine tc_nodeY hL hs hv (fun u e hu he => ?_)
  refine br_f tc_10 ⟨vp_in_nI (by omega) (by omega), ?_⟩
  rw [tc_rd he hC hv]
  exact H u e
theorem tc_Ysize {v : Nat} (hL : L ≤ 64) (hs : tc_St b g L C D) (hv : v < C) (H : ∀ u e, post (nI (tc_cn (fun w => tc_U g v w) C)) (nI L, nI C, tc_e (tc_up g D C), b, u, e)) : wpY_size post (nI L, c, l, b, u, e) (nI v) := by
  have c1 := tc_StC hs
  have hC : C ≤ 64 := by omega
  have T := (tc_StT hs).1
  unfold wpY_size
  refine tc_nodeY hL hs hv (fun u e hu he => ?_)
  refine br_f tc_10 ?_
  have k := tc_Ysz hC T hu hv (H u e) C 0 (by omega)
  rw [show tc_cn (fun w => tc_U g v w) 0 = 0 from rfl, nI_0] at k
  exact ⟨_, k⟩
theorem tc_Ychildren {v : Nat} (hL : L ≤ 64) (hs : tc_St b g L C D) (hv : v < C) (H : ∀ u e, post (nI (tc_cn (fun u => tc_pa g u = v + 1) C)) (nI L, nI C, tc_e (tc_up g D C), b, u, e)) : wpY_children post (nI L, c, l, b, u, e) (nI v) := by
  have c1 := tc_StC hs
  have hC : C ≤ 64 := by omega
  have T := (tc_StT hs).1
  unfold wpY_children
  refine tc_nodeY hL hs hv (fun u e hu he => ?_)
  exact br_f tc_10 (tc_co hC T hu hv (H u e))
theorem tc_Ychild {v : Nat} {x : Int32} (hL : L ≤ 64) (hs : tc_St b g L C D) (hv : v < C) (H : ∀ u e, post (tc_e (tc_fi (fun w => tc_pa g w = v + 1 ∧ nI (tc_cn (fun u => tc_pa g u = v + 1) w) = x) C)) (nI L, nI C, tc_e (tc_up g D C), b, u, e)) : wpY_child post (nI L, c, l, b, u, e) (nI v) x := by
  have c1 := tc_StC hs
  have hC : C ≤ 64 := by omega
  have T := (tc_StT hs).1
  unfold wpY_child
  refine tc_nodeY hL hs hv (fun u e hu he => ?_)
  have k := tc_Ycd hC T hu hv (H u e) C 0 (by omega) (fun j hj => by omega)
  rw [show tc_cn (fun u => tc_pa g u = v + 1) 0 = 0 from rfl, nI_0] at k
  exact ⟨_, k⟩
theorem tc_Ynext {v : Nat} (hL : L ≤ 64) (hs : tc_St b g L C D) (hv : v < C) (H : ∀ u e, post (tc_e (tc_fi (fun w => v < w ∧ tc_pa g w = tc_pa g v) C)) (nI L, nI C, tc_e (tc_up g D C), b, u, e)) : wpY_next post (nI L, c, l, b, u, e) (nI v) := by
  have c1 := tc_StC hs
  have hC : C ≤ 64 := by omega
  have T := (tc_StT hs).1
  unfold wpY_next
  refine tc_nodeY hL hs hv (fun u e hu he => ?_)
  have k := tc_Ynx hC T hu hv (H u e) C 0 (by omega) (fun j hj => by omega)
  rw [nI_0] at k
  exact ⟨_, k⟩
theorem tc_Yprevious {v : Nat} (hL : L ≤ 64) (hs : tc_St b g L C D) (hv : v < C) (H : ∀ u e, post (tc_e (tc_la (fun w => w < v ∧ tc_pa g w = tc_pa g v) C)) (nI L, nI C, tc_e (tc_up g D C), b, u, e)) : wpY_previous post (nI L, c, l, b, u, e) (nI v) := by
  have c1 := tc_StC hs
  have hC : C ≤ 64 := by omega
  have T := (tc_StT hs).1
  unfold wpY_previous
  refine tc_nodeY hL hs hv (fun u e hu he => ?_)
  exact nm_r (tc_eS C) ⟨C + 1, tc_Ypv hC T hu hv C (Nat.le_refl _) (H u e)⟩
theorem tc_YaboveAt {v : Nat} {x : Int32} (hL : L ≤ 64) (hs : tc_St b g L C D) (hv : v < C) (H : ∀ u e, post (tc_e (tc_fi (fun u => tc_U g u v ∧ nI (g u) = x) C)) (nI L, nI C, tc_e (tc_up g D C), b, u, e)) : wpY_aboveAt post (nI L, c, l, b, u, e) (nI v) x := by
  have c1 := tc_StC hs
  have hC : C ≤ 64 := by omega
  have T := (tc_StT hs).1
  unfold wpY_aboveAt
  refine tc_nodeY hL hs hv (fun u e hu he => ?_)
  have k := tc_Yab hC T hu he hv (H u e) C 0 (by omega) (fun j hj => by omega)
  rw [nI_0] at k
  exact ⟨_, k⟩
theorem tc_Yheight {v : Nat} (hL : L ≤ 64) (hs : tc_St b g L C D) (hv : v < C) (H : ∀ u e, post (nI (tc_mx g v C)) (nI L, nI C, tc_e (tc_up g D C), b, u, e)) : wpY_height post (nI L, c, l, b, u, e) (nI v) := by
  have c1 := tc_StC hs
  have hC : C ≤ 64 := by omega
  have T := (tc_StT hs).1
  unfold wpY_height
  refine tc_nodeY hL hs hv (fun u e hu he => ?_)
  refine br_f tc_10 ?_
  have k := tc_Yht hC T hu he hv (H u e) C 0 (by omega)
  rw [show tc_mx g v 0 = 0 from rfl, nI_0] at k
  exact ⟨_, k⟩
theorem tc_YleavesBefore {v : Nat} (hL : L ≤ 64) (hs : tc_St b g L C D) (hv : v < C) (H : ∀ u e, post (nI (tc_cn (fun u => ¬ g u < g (u + 1)) v)) (nI L, nI C, tc_e (tc_up g D C), b, u, e)) : wpY_leavesBefore post (nI L, c, l, b, u, e) (nI v) := by
  have c1 := tc_StC hs
  have hC : C ≤ 64 := by omega
  have T := (tc_StT hs).1
  unfold wpY_leavesBefore
  refine tc_nodeY hL hs hv (fun u e hu he => ?_)
  refine br_f tc_10 ?_
  have k := tc_Ylf hC T hu hv (H u e) v 0 (by omega)
  rw [show tc_cn (fun u => ¬ g u < g (u + 1)) 0 = 0 from rfl, nI_0] at k
  exact ⟨_, k⟩
theorem tc_Ymeet {v : Nat} {w : Nat} (hw : w < C) (hL : L ≤ 64) (hs : tc_St b g L C D) (hv : v < C) (H : ∀ u e, post (tc_e (tc_la (fun u => tc_U g u v ∧ tc_U g u w) C)) (nI L, nI C, tc_e (tc_up g D C), b, u, e)) : wpY_meet post (nI L, c, l, b, u, e) (nI v) (nI w) := by
  have c1 := tc_StC hs
  have hC : C ≤ 64 := by omega
  have T := (tc_StT hs).1
  unfold wpY_meet
  refine tc_nodeY hL hs hv (fun u e hu he => ?_)
  refine br_f tc_10 (tc_nodeY hL hs hw (fun u e hu he => br_f tc_10 ?_))
  have k := tc_Ymt hC T hu he hv hw (H u e) C 0 (by omega)
  rw [show tc_la (fun u => tc_U g u v ∧ tc_U g u w) 0 = 0 from rfl, nI_0] at k
  exact ⟨_, k⟩
theorem tc_YMmeet {v : Nat} {y : Int32} (hL : L ≤ 64) (hs : tc_St b g L C D) (hv : v < C) (hy : y < 0 ∨ nI C ≤ y) (H : ∀ u e, post (-1) (nI L, nI C, tc_e (tc_up g D C), b, u, e)) : wpY_meet post (nI L, c, l, b, u, e) (nI v) y := by
  unfold wpY_meet
  exact tc_nodeY hL hs hv (fun u e _ _ => br_f tc_10 (tc_nodeN hL hs hy (fun u e _ _ => br_t rfl ⟨1, br_c (fun _ => H u e) (fun _ => br_t rfl (H u e))⟩)))
end
