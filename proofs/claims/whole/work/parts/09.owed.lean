/-! the relation and the owed statements -/
def i_Rel (k : Nat) (u : SX) (v : SY) : Prop := ∃ (t : Nat → Bool) (lo hi : Nat → Nat) (ab : Nat → Int32), sp_G lo hi ∧ u = (sp_mk t 10, sp_L lo, sp_L hi) ∧ v = (sp_B t, sp_E lo hi, ab)
theorem i_up {k : Nat} {u : SX} {v : SY} (h : i_Rel k u v) : i_Rel (k + 4) u v := h
theorem i_vc0 : wpX_init (fun u => wpY_init (fun v => i_Rel 0 u v)) := by
  have e1 : sp_mk (fun _ => false) 10 = 0 := sp_mk_0 10 (fun _ _ => rfl)
  have e2 : sp_E (fun _ => 0) (fun _ => 0) = fun _ => 0 := by
    funext i
    unfold sp_E
    rw [ite_self]
    rfl
  refine ⟨fun _ => false, fun _ => 0, fun _ => 0, fun _ => 0, fun _ => ⟨Nat.le_refl 0, show (0 : Nat) < 100 from by decide⟩, ?_, ?_⟩
  · rw [e1]; rfl
  · rw [e2]; rfl
theorem i_vc_put {k : Nat} {u : SX} {v : SY} (I : i_Rel k u v) (hk : k + 4 ≤ 2048) (v1 : Int32) (v2 : Int32) (v3 : Int32) : wpX_put (fun r u' => wpY_put (fun r' v' => r' = r ∧ i_Rel (k + 4) u' v') v v1 v2 v3) u v1 v2 v3 := by
  obtain ⟨t, lo, hi, ab, g, rfl, rfl⟩ := I
  have R : i_Rel (k + 4) (sp_mk t 10, sp_L lo, sp_L hi) (sp_B t, sp_E lo hi, ab) := ⟨t, lo, hi, ab, g, rfl, rfl⟩
  rcases pk_ix v1 (n := 10) (by decide) with z | z | ⟨b, hb, rfl⟩
  · exact br_t z (br_t z ⟨rfl, R⟩)
  · have z0 : ¬ v1 < 0 := Int32.not_lt.mpr (Int32.le_trans (by decide) z)
    exact br_f z0 (br_t z (br_f z0 (br_t (Int32.lt_of_lt_of_le (by decide) z) ⟨rfl, R⟩)))
  · have p : ¬ nI b < 0 := nI_pos (by omega)
    have q : ¬ (9 : Int32) < nI b := nI_nlt (a := 9) (by omega) (by decide)
    by_cases s2 : sp_Sp v2
    · obtain ⟨x, hx, hxs, rfl⟩ := s2
      by_cases s3 : sp_Sp v3
      · obtain ⟨y, hy, hys, rfl⟩ := s3
        have g1 : sp_G (sp_up lo (2 * b + 0) (x % 100)) (sp_up hi (2 * b + 0) (x / 100)) := sp_G_up g hxs (by omega)
        have g2 : sp_G (sp_up (sp_up lo (2 * b + 0) (x % 100)) (2 * b + 1) (y % 100)) (sp_up (sp_up hi (2 * b + 0) (x / 100)) (2 * b + 1) (y / 100)) := sp_G_up g1 hys (by omega)
        refine br_f p (br_f (sp_10 hb) (xw_isSpan_y hx hxs (br_f (by decide) (xw_isSpan_y hy hys (br_f (by decide) (xw_partners g hb (nm_r (sp_mk_set t hb) ?_)))))))
        refine xw_setSpan (c := 0) hb (by decide) hx ?_
        refine xw_setSpan (c := 1) hb (by decide) hy ?_
        refine xw_changes g2 hb ?_
        refine br_f p (br_f q (yw_span_y hx hxs (br_f (by decide) (yw_span_y hy hys (br_f (by decide) (yw_keep g (fun ab' K => ⟨by decide, by decide, by decide, by decide, ?_⟩)))))))
        rw [sp_r100 hx, sp_d100 hx, sp_r100 hy, sp_d100 hy]
        refine yw_lay hb (yw_changed g2 K ⟨congrArg nI ?_, ⟨_, _, _, _, g2, rfl, rfl⟩⟩)
        exact sp_diff hb (fun a ha => sp_up_n ha) sp_up2 sp_up2
      · exact br_f p (br_f (sp_10 hb) (xw_isSpan_y hx hxs (br_f (by decide) (xw_isSpan_n s3 (br_t rfl (br_f p (br_f q (yw_span_y hx hxs (br_f (by decide) (yw_span_n s3 (br_t rfl ⟨rfl, R⟩)))))))))))
    · exact br_f p (br_f (sp_10 hb) (xw_isSpan_n s2 (br_t rfl (br_f p (br_f q (yw_span_n s2 (br_t rfl ⟨rfl, R⟩)))))))
theorem i_vc_move {k : Nat} {u : SX} {v : SY} (I : i_Rel k u v) (hk : k + 4 ≤ 2048) (v1 : Int32) (v2 : Int32) (v3 : Int32) : wpX_move (fun r u' => wpY_move (fun r' v' => r' = r ∧ i_Rel (k + 4) u' v') v v1 v2 v3) u v1 v2 v3 := by
  obtain ⟨t, lo, hi, ab, g, rfl, rfl⟩ := I
  have R : i_Rel (k + 4) (sp_mk t 10, sp_L lo, sp_L hi) (sp_B t, sp_E lo hi, ab) := ⟨t, lo, hi, ab, g, rfl, rfl⟩
  unfold wpX_move wpY_move
  dsimp only
  rcases sp_out v1 with z | ⟨b, hb, rfl⟩
  · exact xw_isThere0 z (br_t rfl (yw_is0 z (br_t rfl ⟨rfl, R⟩)))
  · refine xw_isThere hb (xw_bb (fun tb => ?_) (fun tb => ?_))
    · exact yw_is hb (xw_bb (fun _ => ⟨rfl, R⟩) (fun z => sp_ne z tb))
    refine xw_stays (c := 0) g hb (by decide) (xw_bb (fun s0 => ?_) (fun s0 => ?_))
    · exact yw_is hb (xw_bb (fun z => sp_ne tb z) (fun _ => yw_stays (c := 0) g hb (by decide) rfl (xw_bb (fun _ => ⟨rfl, R⟩) (fun z => sp_ne z s0))))
    refine xw_stays (c := 1) g hb (by decide) (xw_bb (fun s1 => ?_) (fun s1 => ?_))
    · exact yw_is hb (xw_bb (fun z => sp_ne tb z) (fun _ => yw_stays (c := 0) g hb (by decide) rfl (xw_bb (fun z => sp_ne s0 z) (fun _ => yw_stays (c := 1) g hb (by decide) rfl (xw_bb (fun _ => ⟨rfl, R⟩) (fun z => sp_ne z s1))))))
    have d0 := s0
    have d1 := s1
    unfold sp_st at d0 d1
    simp only [Bool.and_eq_true, decide_eq_true_eq] at d0 d1
    have gx := g (2 * b + 0)
    have gy := g (2 * b + 1)
    have a0 := sp_addD (n := lo (2 * b + 0)) (d := v2) d0.1 (by omega) (by omega)
    have a1 := sp_addD (n := hi (2 * b + 0)) (d := v2) (by omega) d0.2 (by omega)
    have a2 := sp_addD (n := lo (2 * b + 1)) (d := v3) d1.1 (by omega) (by omega)
    have a3 := sp_addD (n := hi (2 * b + 1)) (d := v3) (by omega) d1.2 (by omega)
    have x0 : (((lo (2 * b + 0) : Nat) : Int) + v2.toInt).toNat ≤ (((hi (2 * b + 0) : Nat) : Int) + v2.toInt).toNat := by omega
    have x1 : (((hi (2 * b + 0) : Nat) : Int) + v2.toInt).toNat < 100 := by omega
    have y0 : (((lo (2 * b + 1) : Nat) : Int) + v3.toInt).toNat ≤ (((hi (2 * b + 1) : Nat) : Int) + v3.toInt).toNat := by omega
    have y1 : (((hi (2 * b + 1) : Nat) : Int) + v3.toInt).toNat < 100 := by omega
    generalize (((lo (2 * b + 0) : Nat) : Int) + v2.toInt).toNat = p0 at a0 x0
    generalize (((hi (2 * b + 0) : Nat) : Int) + v2.toInt).toNat = p1 at a1 x0 x1
    generalize (((lo (2 * b + 1) : Nat) : Int) + v3.toInt).toNat = q0 at a2 y0
    generalize (((hi (2 * b + 1) : Nat) : Int) + v3.toInt).toNat = q1 at a3 y0 y1
    have g1 : sp_G (sp_up lo (2 * b + 0) p0) (sp_up hi (2 * b + 0) p1) := sp_G_up g x0 x1
    have g2 : sp_G (sp_up (sp_up lo (2 * b + 0) p0) (2 * b + 1) q0) (sp_up (sp_up hi (2 * b + 0) p1) (2 * b + 1) q1) := sp_G_up g1 y0 y1
    refine xw_partners g hb ?_
    refine xw_shift (c := 0) hb (by decide) a0 a1 ?_
    refine xw_shift (c := 1) (v := q0) (w := q1) hb (by decide) (by rw [sp_up_n (by omega)]; exact a2) (by rw [sp_up_n (by omega)]; exact a3) ?_
    refine xw_changes g2 hb ?_
    obtain ⟨i0, w0⟩ := yw_l (lo := lo) (hi := hi) (x := (4 : Int32) * nI b) (c := 0) hb (by decide) (sp_j4 b)
    obtain ⟨i1, w1⟩ := yw_h (lo := lo) (hi := hi) (x := (4 : Int32) * nI b + 1) (c := 0) hb (by decide) (sp_i4 b 1)
    obtain ⟨i2, w2⟩ := yw_l (lo := lo) (hi := hi) (x := (4 : Int32) * nI b + 2) (c := 1) hb (by decide) (sp_i4 b 2)
    obtain ⟨i3, w3⟩ := yw_h (lo := lo) (hi := hi) (x := (4 : Int32) * nI b + 3) (c := 1) hb (by decide) (sp_i4 b 3)
    refine yw_is hb (xw_bb (fun z => sp_ne tb z) (fun _ => yw_stays (c := 0) g hb (by decide) rfl (xw_bb (fun z => sp_ne s0 z) (fun _ => yw_stays (c := 1) g hb (by decide) rfl (xw_bb (fun z => sp_ne s1 z) (fun _ => yw_keep g (fun ab' K => ⟨i0, i1, i2, i3, ?_⟩)))))))
    dsimp only
    rw [w0, w1, w2, w3, a0, a1, a2, a3]
    refine yw_lay hb ?_
    rw [sp_up_id tb]
    refine yw_changed g2 K ⟨congrArg nI ?_, ⟨_, _, _, _, g2, rfl, rfl⟩⟩
    exact sp_diff hb (fun a _ => rfl) sp_up2 sp_up2
theorem i_vc_remove {k : Nat} {u : SX} {v : SY} (I : i_Rel k u v) (hk : k + 4 ≤ 2048) (v1 : Int32) : wpX_remove (fun r u' => wpY_remove (fun r' v' => r' = r ∧ i_Rel (k + 4) u' v') v v1) u v1 := by
  obtain ⟨t, lo, hi, ab, g, rfl, rfl⟩ := I
  have R : i_Rel (k + 4) (sp_mk t 10, sp_L lo, sp_L hi) (sp_B t, sp_E lo hi, ab) := ⟨t, lo, hi, ab, g, rfl, rfl⟩
  unfold wpX_remove wpY_remove
  dsimp only
  rcases sp_out v1 with z | ⟨b, hb, rfl⟩
  · exact xw_isThere0 z (br_t rfl (yw_is0 z (br_t rfl ⟨rfl, R⟩)))
  · refine xw_isThere hb (xw_bb (fun tb => ?_) (fun tb => ?_))
    · exact yw_is hb (xw_bb (fun _ => ⟨rfl, R⟩) (fun z => sp_ne z tb))
    have e : upd (sp_B t) (nI b).toNatClampNeg (vp_nar .boolean 0) = sp_B (sp_up t b false) := by
      rw [nI_clamp (by omega)]
      exact (congrArg (upd (sp_B t) b) (sp_nar false)).trans (sp_B_u t b false)
    refine xw_partners g hb (nm_r (sp_mk_clr t hb) (xw_countBits ?_))
    refine yw_is hb (xw_bb (fun z => sp_ne tb z) (fun _ => yw_keep g (fun ab' K => ⟨vp_in_nI hb (by decide), nm_r e (yw_changed g K ⟨congrArg nI ?_, ⟨_, _, _, _, g, rfl, rfl⟩⟩)⟩)))
    rw [sp_diff hb (fun a ha => sp_up_n ha) (fun _ _ _ _ => rfl) (fun _ _ _ _ => rfl)]
    refine sp_ct_congr 10 (fun j _ => ?_)
    rw [sp_ov_n (t := sp_up t b false) (a := b) sp_up_s, Bool.xor_false]
theorem i_vc_boxes {k : Nat} {u : SX} {v : SY} (I : i_Rel k u v) (hk : k + 4 ≤ 2048) : wpX_boxes (fun r => wpY_boxes (fun r' => r' = r ∧ i_Rel (k + 4) u v) v) u := by
  have R : i_Rel (k + 4) u v := I
  obtain ⟨t, lo, hi, ab, g, rfl, rfl⟩ := I
  exact yw_boxes ⟨rfl, R⟩
theorem i_vc_edge {k : Nat} {u : SX} {v : SY} (I : i_Rel k u v) (hk : k + 4 ≤ 2048) (v1 : Int32) (v2 : Int32) : wpX_edge (fun r => wpY_edge (fun r' => r' = r ∧ i_Rel (k + 4) u v) v v1 v2) u v1 v2 := by
  have R : i_Rel (k + 4) u v := I
  obtain ⟨t, lo, hi, ab, g, rfl, rfl⟩ := I
  unfold wpX_edge wpY_edge
  dsimp only
  rcases sp_out v1 with z | ⟨b, hb, rfl⟩
  · exact xw_isThere0 z (br_t rfl (yw_is0 z (br_t rfl ⟨rfl, R⟩)))
  · refine xw_isThere hb (xw_bb (fun tb => ?_) (fun tb => ?_))
    · exact yw_is hb (xw_bb (fun _ => ⟨rfl, R⟩) (fun z => sp_ne z tb))
    rcases pk_ix v2 (n := 4) (by decide) with z | z | ⟨j, hj, rfl⟩
    · exact br_t z (yw_is hb (xw_bb (fun z => sp_ne tb z) (fun _ => br_t z ⟨rfl, R⟩)))
    · have z0 : ¬ v2 < 0 := Int32.not_lt.mpr (Int32.le_trans (by decide) z)
      have z1 : (3 : Int32) < v2 := Int32.lt_of_lt_of_le (by decide) z
      exact br_f z0 (br_f (Int32.not_le.mpr z1) (yw_is hb (xw_bb (fun z => sp_ne tb z) (fun _ => br_f z0 (br_t z1 ⟨rfl, R⟩)))))
    · have z0 : ¬ nI j < 0 := nI_pos (by omega)
      have z1 : nI j ≤ (3 : Int32) := nI_le (b := 3) (by omega) (by decide)
      have z2 : ¬ (3 : Int32) < nI j := Int32.not_lt.mpr z1
      have e1 : nI j / (2 : Int32) = nI (j / 2) := pk_div (d := 2) (by omega) (by decide) (by decide)
      have e2 : nI j - nI j / (2 : Int32) * 2 = nI (j % 2) := pk_rem (d := 2) (by omega) (by decide) (by decide)
      have e3 : (2 : Int32) * nI b + nI j / 2 = nI (2 * b + j / 2) := by rw [e1, sp_ix]
      have i : vp_in (nI (2 * b + j / 2)) 20 := vp_in_nI (by omega) (by decide)
      refine br_f z0 (br_t z1 ⟨by decide, nm_r e3 ⟨by decide, ?_⟩⟩)
      rw [nI_clamp (n := 2 * b + j / 2) (by omega), e2]
      refine pk_eq (j % 2) 0 (fun y => ⟨i, ?_⟩) (fun y => ⟨i, ?_⟩)
      · obtain ⟨w, x⟩ := yw_l (lo := lo) (hi := hi) (x := (4 : Int32) * nI b + nI j) (c := j / 2) hb (by omega) (by rw [sp_i4]; exact congrArg nI (by omega))
        exact yw_is hb (xw_bb (fun z => sp_ne tb z) (fun _ => br_f z0 (br_f z2 ⟨w, x, R⟩)))
      · obtain ⟨w, x⟩ := yw_h (lo := lo) (hi := hi) (x := (4 : Int32) * nI b + nI j) (c := j / 2) hb (by omega) (by rw [sp_i4]; exact congrArg nI (by omega))
        exact yw_is hb (xw_bb (fun z => sp_ne tb z) (fun _ => br_f z0 (br_f z2 ⟨w, x, R⟩)))
theorem i_vc_partners {k : Nat} {u : SX} {v : SY} (I : i_Rel k u v) (hk : k + 4 ≤ 2048) (v1 : Int32) : wpX_partners (fun r => wpY_partners (fun r' => r' = r ∧ i_Rel (k + 4) u v) v v1) u v1 := by
  have R : i_Rel (k + 4) u v := I
  obtain ⟨t, lo, hi, ab, g, rfl, rfl⟩ := I
  rcases sp_out v1 with z | ⟨b, hb, rfl⟩
  · exact xw_partners0 z (yw_partners0 z ⟨rfl, R⟩)
  · exact xw_partners g hb (yw_partners g hb ⟨rfl, R⟩)
theorem i_vc_pairs {k : Nat} {u : SX} {v : SY} (I : i_Rel k u v) (hk : k + 4 ≤ 2048) : wpX_pairs (fun r => wpY_pairs (fun r' => r' = r ∧ i_Rel (k + 4) u v) v) u := by
  have R : i_Rel (k + 4) u v := I
  obtain ⟨t, lo, hi, ab, g, rfl, rfl⟩ := I
  exact xw_pairs g (yw_pairs g ⟨rfl, R⟩)
theorem i_vc_pair {k : Nat} {u : SX} {v : SY} (I : i_Rel k u v) (hk : k + 4 ≤ 2048) (v1 : Int32) : wpX_pair (fun r => wpY_pair (fun r' => r' = r ∧ i_Rel (k + 4) u v) v v1) u v1 := by
  have R : i_Rel (k + 4) u v := I
  obtain ⟨t, lo, hi, ab, g, rfl, rfl⟩ := I
  exact xw_pair g (yw_pair g ⟨rfl, R⟩)
theorem i_vc_cluster {k : Nat} {u : SX} {v : SY} (I : i_Rel k u v) (hk : k + 4 ≤ 2048) (v1 : Int32) : wpX_cluster (fun r => wpY_cluster (fun r' => r' = r ∧ i_Rel (k + 4) u v) v v1) u v1 := by
  have R : i_Rel (k + 4) u v := I
  obtain ⟨t, lo, hi, ab, g, rfl, rfl⟩ := I
  rcases sp_out v1 with z | ⟨b, hb, rfl⟩
  · exact xw_cluster0 z (yw_cluster0 g z ⟨rfl, R⟩)
  · exact xw_cluster g hb (yw_cluster g hb ⟨rfl, R⟩)
theorem i_vc_clusters {k : Nat} {u : SX} {v : SY} (I : i_Rel k u v) (hk : k + 4 ≤ 2048) : wpX_clusters (fun r => wpY_clusters (fun r' => r' = r ∧ i_Rel (k + 4) u v) v) u := by
  have R : i_Rel (k + 4) u v := I
  obtain ⟨t, lo, hi, ab, g, rfl, rfl⟩ := I
  exact xw_clusters g (yw_clusters g ⟨rfl, R⟩)
theorem i_vc_at {k : Nat} {u : SX} {v : SY} (I : i_Rel k u v) (hk : k + 4 ≤ 2048) (v1 : Int32) (v2 : Int32) : wpX_at (fun r => wpY_at (fun r' => r' = r ∧ i_Rel (k + 4) u v) v v1 v2) u v1 v2 := by
  have R : i_Rel (k + 4) u v := I
  obtain ⟨t, lo, hi, ab, g, rfl, rfl⟩ := I
  exact xw_at (yw_at ⟨rfl, R⟩)
theorem i_vc_deepest {k : Nat} {u : SX} {v : SY} (I : i_Rel k u v) (hk : k + 4 ≤ 2048) : wpX_deepest (fun r => wpY_deepest (fun r' => r' = r ∧ i_Rel (k + 4) u v) v) u := by
  have R : i_Rel (k + 4) u v := I
  obtain ⟨t, lo, hi, ab, g, rfl, rfl⟩ := I
  exact xw_deepest (yw_deepest ⟨congrArg nI (sp_deep g).symm, R⟩)
theorem i_vc_rank {k : Nat} {u : SX} {v : SY} (I : i_Rel k u v) (hk : k + 4 ≤ 2048) (v1 : Int32) (v2 : Int32) : wpX_rank (fun r => wpY_rank (fun r' => r' = r ∧ i_Rel (k + 4) u v) v v1 v2) u v1 v2 := by
  have R : i_Rel (k + 4) u v := I
  obtain ⟨t, lo, hi, ab, g, rfl, rfl⟩ := I
  unfold wpX_rank wpY_rank
  dsimp only
  rcases sp_out v1 with z | ⟨b, hb, rfl⟩
  · exact xw_isThere0 z (br_t rfl (yw_is0 z (br_t rfl ⟨rfl, R⟩)))
  · refine xw_isThere hb (xw_bb (fun tb => ?_) (fun tb => ?_))
    · exact yw_is hb (xw_bb (fun _ => ⟨rfl, R⟩) (fun z => sp_ne z tb))
    by_cases c0 : v2 = 0
    · subst c0
      refine br_t rfl (xw_rank (c := 0) g hb (by decide) ?_)
      refine yw_is hb (xw_bb (fun z => sp_ne tb z) (fun _ => br_t rfl (yw_rank (c := 0) g hb (by decide) ?_)))
      exact ⟨rfl, R⟩
    · by_cases c1 : v2 = 1
      · subst c1
        refine br_f c0 (br_t rfl (xw_rank (c := 1) g hb (by decide) ?_))
        refine yw_is hb (xw_bb (fun z => sp_ne tb z) (fun _ => br_f c0 (br_t rfl (yw_rank (c := 1) g hb (by decide) ?_))))
        exact ⟨rfl, R⟩
      · exact br_f c0 (br_f c1 (yw_is hb (xw_bb (fun z => sp_ne tb z) (fun _ => br_f c0 (br_f c1 ⟨rfl, R⟩)))))
theorem i_vc_within {k : Nat} {u : SX} {v : SY} (I : i_Rel k u v) (hk : k + 4 ≤ 2048) (v1 : Int32) (v2 : Int32) : wpX_within (fun r => wpY_within (fun r' => r' = r ∧ i_Rel (k + 4) u v) v v1 v2) u v1 v2 := by
  have R : i_Rel (k + 4) u v := I
  obtain ⟨t, lo, hi, ab, g, rfl, rfl⟩ := I
  rcases sp_out v1 with z | ⟨a, ha, rfl⟩
  · exact xw_within0a z (yw_within0a z ⟨rfl, R⟩)
  · rcases sp_out v2 with z | ⟨b, hb, rfl⟩
    · exact xw_within0b ha z (yw_within0b ha z ⟨rfl, R⟩)
    · exact xw_within g ha hb (yw_within g ha hb ⟨rfl, R⟩)
