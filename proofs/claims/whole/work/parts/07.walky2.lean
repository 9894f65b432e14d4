/-! the reference's walks: sets, pairs, clusters, points, ranks -/
theorem yw_boxes {post : Int32 → Prop} {t : Nat → Bool} {ae ab : Nat → Int32} (h : post (sp_mk t 10)) : wpY_boxes post (sp_B t, ae, ab) := by
  have l : ∀ d i, i + d = 10 → wY_boxes_4 post (sp_B t) ae ab (d + 1) (sp_mk t i) (nI i) := by
    intro d
    induction d with
    | zero =>
      intro i e
      obtain rfl : i = 10 := by omega
      exact br_t sp_10e h
    | succ d ih =>
      intro i e
      have j := ih (i + 1) (by omega)
      have h10 : i < 10 := by omega
      refine br_f (sp_10 h10) ⟨vp_in_nI h10 (by decide), ?_⟩
      rw [yw_B h10]
      refine xw_bb (fun z => ?_) (fun z => ?_)
      · rw [sp_mk_f z] at j
        exact nm_r (nI_1 i) j
      · rw [sp_mk_t z] at j
        exact nm_e (nm_r (nI_1 i) j)
  show ∃ n, wY_boxes_4 post (sp_B t) ae ab n 0 0
  exact ⟨11, l 10 0 rfl⟩
theorem yw_partners {post : Int32 → Prop} {t : Nat → Bool} {lo hi : Nat → Nat} {ab : Nat → Int32} {k : Nat} (g : sp_G lo hi) (hk : k < 10) (h : post (sp_mk (sp_ov t lo hi k) 10)) : wpY_partners post (sp_B t, sp_E lo hi, ab) (nI k) := by
  have l : t k = true → ∀ d i, i + d = 10 → wY_partners_4 post (nI k) (sp_B t) (sp_E lo hi) ab (d + 1) (sp_mk (sp_ov t lo hi k) i) (nI i) := by
    intro tk d
    induction d with
    | zero =>
      intro i e
      obtain rfl : i = 10 := by omega
      exact br_t sp_10e h
    | succ d ih =>
      intro i e
      have j := ih (i + 1) (by omega)
      refine br_f (sp_10 (by omega)) (yw_is hk (xw_bb (fun z => absurd (z.symm.trans tk) (by decide)) (fun _ => yw_overlap g hk (by omega) (xw_bb (fun z => ?_) (fun z => ?_)))))
      · rw [sp_mk_f z] at j
        exact nm_r (nI_1 i) j
      · rw [sp_mk_t z] at j
        exact nm_e (nm_r (nI_1 i) j)
  show ∃ n, wY_partners_4 post (nI k) (sp_B t) (sp_E lo hi) ab n 0 0
  cases tk : t k with
  | true => exact ⟨11, l tk 10 0 rfl⟩
  | false =>
    rw [sp_mk_0 10 (fun i _ => sp_ov_n tk)] at h
    refine ⟨1, br_f (sp_10 (i := 0) (by decide)) (yw_is hk (xw_bb (fun _ => h) (fun z => absurd (z.symm.trans tk) (by decide))))⟩
theorem yw_partners0 {post : Int32 → Prop} {u : SY} {x : Int32} (hx : x < 0 ∨ nI 10 ≤ x) (h : post 0) : wpY_partners post u x := by
  obtain ⟨f, al, ah⟩ := u
  show ∃ n, wY_partners_4 post x f al ah n 0 0
  exact ⟨1, br_f (sp_10 (i := 0) (by decide)) (yw_is0 hx (br_t rfl h))⟩
theorem yw_pairs {post : Int32 → Prop} {t : Nat → Bool} {lo hi : Nat → Nat} {ab : Nat → Int32} (g : sp_G lo hi) (h : post (nI (sp_ct (sp_q (sp_ov t lo hi)) 100))) : wpY_pairs post (sp_B t, sp_E lo hi, ab) := by
  have w : ∀ d i, i + d = 100 → wY_pairs_4 post (sp_B t) (sp_E lo hi) ab (d + 1) (nI (sp_ct (sp_q (sp_ov t lo hi)) i)) (nI i) := by
    intro d
    induction d with
    | zero =>
      intro i e
      obtain rfl : i = 100 := by omega
      exact br_t sp_100e h
    | succ d ih =>
      intro i e
      have j := ih (i + 1) (by omega)
      have h100 : i < 100 := by omega
      refine br_f (sp_100 h100) ⟨by decide, by decide, ?_⟩
      rw [sp_r10 h100, sp_d10 h100]
      refine pk_le (i % 10) (i / 10) (fun z => ?_) (fun z => ⟨by decide, by decide, yw_overlap g (by omega) (by omega) (xw_bb (fun y => ?_) (fun y => ?_))⟩)
      · rw [sp_ct_f (show sp_q _ i = false by unfold sp_q; rw [decide_eq_false (by omega), Bool.false_and])] at j
        exact nm_r (nI_1 i) j
      · rw [sp_ct_f (show sp_q _ i = false by unfold sp_q; rw [y, Bool.and_false])] at j
        exact nm_r (nI_1 i) j
      · rw [sp_ct_t (show sp_q _ i = true by unfold sp_q; rw [y, Bool.and_true, decide_eq_true z])] at j
        exact nm_r (nI_1 _) (nm_r (nI_1 i) j)
  show ∃ n, wY_pairs_4 post (sp_B t) (sp_E lo hi) ab n 0 0
  exact ⟨101, w 100 0 rfl⟩
theorem yw_pair {post : Int32 → Prop} {t : Nat → Bool} {lo hi : Nat → Nat} {ab : Nat → Int32} {n : Int32} (g : sp_G lo hi) (h : post (sp_pr (sp_q (sp_ov t lo hi)) n 100 0)) : wpY_pair post (sp_B t, sp_E lo hi, ab) n := by
  have w : ∀ d i, i + d = 100 → post (sp_pr (sp_q (sp_ov t lo hi)) n d i) → wY_pair_4 post n (sp_B t) (sp_E lo hi) ab (d + 1) (nI (sp_ct (sp_q (sp_ov t lo hi)) i)) (nI i) := by
    intro d
    induction d with
    | zero =>
      intro i e h
      obtain rfl : i = 100 := by omega
      exact br_t sp_100e h
    | succ d ih =>
      intro i e h
      have j := ih (i + 1) (by omega)
      have h100 : i < 100 := by omega
      refine br_f (sp_100 h100) ⟨by decide, by decide, ?_⟩
      rw [sp_r10 h100, sp_d10 h100]
      refine pk_le (i % 10) (i / 10) (fun z => ?_) (fun z => ⟨by decide, by decide, yw_overlap g (by omega) (by omega) (xw_bb (fun y => ?_) (fun y => br_c (fun x => ?_) (fun x => ?_)))⟩)
      · have q : sp_q (sp_ov t lo hi) i = false := by unfold sp_q; rw [decide_eq_false (by omega), Bool.false_and]
        rw [sp_pr_f q] at h
        have j := j h
        rw [sp_ct_f q] at j
        exact nm_r (nI_1 i) j
      · have q : sp_q (sp_ov t lo hi) i = false := by unfold sp_q; rw [y, Bool.and_false]
        rw [sp_pr_f q] at h
        have j := j h
        rw [sp_ct_f q] at j
        exact nm_r (nI_1 i) j
      · have q : sp_q (sp_ov t lo hi) i = true := by unfold sp_q; rw [y, Bool.and_true, decide_eq_true z]
        rw [sp_pr_y q x] at h
        exact h
      · have q : sp_q (sp_ov t lo hi) i = true := by unfold sp_q; rw [y, Bool.and_true, decide_eq_true z]
        rw [sp_pr_n q x] at h
        have j := j h
        rw [sp_ct_t q] at j
        exact nm_r (nI_1 _) (nm_r (nI_1 i) j)
  show ∃ m, wY_pair_4 post n (sp_B t) (sp_E lo hi) ab m 0 0
  exact ⟨101, w 100 0 rfl h⟩
/-! clusters -/
theorem yw_cl_in {post : Int32 → Prop} {J : Int32 → Int32 → Prop} {t : Nat → Bool} {lo hi : Nat → Nat} {ab : Nat → Int32} {x : Int32} {s : Nat} (g : sp_G lo hi) (hJ : J (sp_ps (sp_ov t lo hi) x 10) (nI (s + 1))) : ∀ d j, j + d = 10 → wY_cluster_27 post J (nI s) (sp_B t) (sp_E lo hi) ab (d + 1) (sp_ps (sp_ov t lo hi) x j) (nI j) := by
  intro d
  induction d with
  | zero =>
    intro j e
    obtain rfl : j = 10 := by omega
    exact br_t sp_10e (nm_r (nI_1 s) hJ)
  | succ d ih =>
    intro j e
    have i := ih (j + 1) (by omega)
    refine br_f (sp_10 (by omega)) ?_
    rw [sp_bit (sp_ps (sp_ov t lo hi) x j) (show j < 32 by omega)]
    refine xw_b1 (fun z => yw_partners g (by omega) ?_) (fun z => ?_)
    · rw [sp_ps, sp_g_t z] at i
      exact nm_e (nm_r (nI_1 j) i)
    · rw [sp_ps, sp_g_f z] at i
      exact nm_r (nI_1 j) i
theorem yw_cl_out {post : Int32 → Prop} {t : Nat → Bool} {lo hi : Nat → Nat} {ab : Nat → Int32} {x : Int32} (g : sp_G lo hi) (h : post (sp_it (sp_ov t lo hi) x 10)) : ∀ d m, m + d = 10 → wY_cluster_18 post (sp_B t) (sp_E lo hi) ab (d + 1) (sp_it (sp_ov t lo hi) x m) (nI m) := by
  intro d
  induction d with
  | zero =>
    intro m e
    obtain rfl : m = 10 := by omega
    exact br_t sp_10e h
  | succ d ih =>
    intro m e
    exact br_f (sp_10 (by omega)) ⟨11, yw_cl_in g (ih (m + 1) (by omega)) 10 0 rfl⟩
theorem yw_cluster {post : Int32 → Prop} {t : Nat → Bool} {lo hi : Nat → Nat} {ab : Nat → Int32} {k : Nat} (g : sp_G lo hi) (hk : k < 10) (h : post (sp_cl t lo hi k)) : wpY_cluster post (sp_B t, sp_E lo hi, ab) (nI k) := by
  unfold wpY_cluster
  dsimp only
  refine yw_is hk (xw_bb (fun z => ?_) (fun z => ?_))
  · rw [sp_cl_f z, ← sp_it_0 (sp_ov t lo hi) 10] at h
    exact ⟨11, yw_cl_out g h 10 0 rfl⟩
  · rw [sp_cl_t z, ← sp_it_one _ hk] at h
    exact nm_e ⟨11, yw_cl_out g h 10 0 rfl⟩
theorem yw_cluster0 {post : Int32 → Prop} {t : Nat → Bool} {lo hi : Nat → Nat} {ab : Nat → Int32} {x : Int32} (g : sp_G lo hi) (hx : x < 0 ∨ nI 10 ≤ x) (h : post 0) : wpY_cluster post (sp_B t, sp_E lo hi, ab) x := by
  unfold wpY_cluster
  dsimp only
  rw [← sp_it_0 (sp_ov t lo hi) 10] at h
  exact yw_is0 hx (br_t rfl ⟨11, yw_cl_out g h 10 0 rfl⟩)
theorem yw_clusters {post : Int32 → Prop} {t : Nat → Bool} {lo hi : Nat → Nat} {ab : Nat → Int32} (g : sp_G lo hi) (h : post (nI (sp_ct (sp_cq t lo hi) 10))) : wpY_clusters post (sp_B t, sp_E lo hi, ab) := by
  have l : ∀ d i, i + d = 10 → wY_clusters_4 post (sp_B t) (sp_E lo hi) ab (d + 1) (nI (sp_ct (sp_cq t lo hi) i)) (nI i) := by
    intro d
    induction d with
    | zero =>
      intro i e
      obtain rfl : i = 10 := by omega
      exact br_t sp_10e h
    | succ d ih =>
      intro i e
      have j := ih (i + 1) (by omega)
      have h10 : i < 10 := by omega
      refine br_f (sp_10 h10) ⟨vp_in_nI h10 (by decide), ?_⟩
      rw [yw_B h10]
      refine xw_bb (fun z => ?_) (fun z => yw_cluster g h10 (br_c (fun y => ?_) (fun y => ?_)))
      · rw [sp_ct_f (sp_cq_n z)] at j
        exact nm_r (nI_1 i) j
      · rw [sp_ct_t (sp_cq_y z y)] at j
        exact nm_r (nI_1 _) (nm_r (nI_1 i) j)
      · rw [sp_ct_f (sp_cq_z y)] at j
        exact nm_r (nI_1 i) j
  show ∃ n, wY_clusters_4 post (sp_B t) (sp_E lo hi) ab n 0 0
  exact ⟨11, l 10 0 rfl⟩
/-! points -/
theorem yw_has {post : Int32 → Prop} {t : Nat → Bool} {lo hi : Nat → Nat} {ab : Nat → Int32} {k : Nat} {x y : Int32} (hk : k < 10) (h : post (sp_b (sp_hs t lo hi x y k))) : wpY_has post (sp_B t, sp_E lo hi, ab) (nI k) x y := by
  obtain ⟨i0, v0⟩ := yw_l (lo := lo) (hi := hi) (x := (4 : Int32) * nI k) (c := 0) hk (by decide) (sp_j4 k)
  obtain ⟨i1, v1⟩ := yw_h (lo := lo) (hi := hi) (x := (4 : Int32) * nI k + 1) (c := 0) hk (by decide) (sp_i4 k 1)
  obtain ⟨i2, v2⟩ := yw_l (lo := lo) (hi := hi) (x := (4 : Int32) * nI k + 2) (c := 1) hk (by decide) (sp_i4 k 2)
  obtain ⟨i3, v3⟩ := yw_h (lo := lo) (hi := hi) (x := (4 : Int32) * nI k + 3) (c := 1) hk (by decide) (sp_i4 k 3)
  unfold wpY_has
  dsimp only
  rw [v0, v1, v2, v3, yw_B hk]
  unfold sp_hs at h
  refine ⟨vp_in_nI hk (by decide), xw_bb (fun z => ?_) (fun z => ⟨i0, br_c (fun z0 => ?_) (fun z0 => ⟨i1, br_c (fun z1 => ?_) (fun z1 => ⟨i2, br_c (fun z2 => ?_) (fun z2 => ⟨i3, br_c (fun z3 => ?_) (fun z3 => ?_)⟩)⟩)⟩)⟩)⟩
  · exact xw_f h (by rw [z, Bool.false_and])
  · exact xw_f h (by rw [decide_eq_true z0, Bool.not_true, Bool.false_and, Bool.and_false])
  · exact xw_f h (by rw [decide_eq_true z1, Bool.not_true, Bool.false_and, Bool.and_false, Bool.and_false])
  · exact xw_f h (by rw [decide_eq_true z2, Bool.not_true, Bool.false_and, Bool.and_false, Bool.and_false, Bool.and_false])
  · exact xw_f h (by rw [decide_eq_true z3, Bool.not_true, Bool.and_false, Bool.and_false, Bool.and_false, Bool.and_false])
  · exact xw_t h (by rw [z, decide_eq_false z0, decide_eq_false z1, decide_eq_false z2, decide_eq_false z3]; rfl)
theorem yw_at {post : Int32 → Prop} {t : Nat → Bool} {lo hi : Nat → Nat} {ab : Nat → Int32} {x y : Int32} (h : post (sp_mk (sp_hs t lo hi x y) 10)) : wpY_at post (sp_B t, sp_E lo hi, ab) x y := by
  have l : ∀ d i, i + d = 10 → wY_at_5 post x y (sp_B t) (sp_E lo hi) ab (d + 1) (sp_mk (sp_hs t lo hi x y) i) (nI i) := by
    intro d
    induction d with
    | zero =>
      intro i e
      obtain rfl : i = 10 := by omega
      exact br_t sp_10e h
    | succ d ih =>
      intro i e
      have j := ih (i + 1) (by omega)
      refine br_f (sp_10 (by omega)) (yw_has (by omega) (xw_bb (fun z => ?_) (fun z => ?_)))
      · rw [sp_mk_f z] at j
        exact nm_r (nI_1 i) j
      · rw [sp_mk_t z] at j
        exact nm_e (nm_r (nI_1 i) j)
  show ∃ n, wY_at_5 post x y (sp_B t) (sp_E lo hi) ab n 0 0
  exact ⟨11, l 10 0 rfl⟩
theorem yw_count {post : Int32 → Prop} {t : Nat → Bool} {lo hi : Nat → Nat} {ab : Nat → Int32} {x y : Int32} (h : post (nI (sp_D t lo hi x y))) : wpY_count post (sp_B t, sp_E lo hi, ab) x y := by
  have l : ∀ d i, i + d = 10 → wY_count_5 post x y (sp_B t) (sp_E lo hi) ab (d + 1) (nI (sp_ct (sp_hs t lo hi x y) i)) (nI i) := by
    intro d
    induction d with
    | zero =>
      intro i e
      obtain rfl : i = 10 := by omega
      exact br_t sp_10e h
    | succ d ih =>
      intro i e
      have j := ih (i + 1) (by omega)
      refine br_f (sp_10 (by omega)) (yw_has (by omega) (xw_bb (fun z => ?_) (fun z => ?_)))
      · rw [sp_ct_f z] at j
        exact nm_r (nI_1 i) j
      · rw [sp_ct_t z] at j
        exact nm_r (nI_1 _) (nm_r (nI_1 i) j)
  show ∃ n, wY_count_5 post x y (sp_B t) (sp_E lo hi) ab n 0 0
  exact ⟨11, l 10 0 rfl⟩
theorem yw_dp_in {post : Int32 → Prop} {J : Int32 → Int32 → Prop} {t : Nat → Bool} {lo hi : Nat → Nat} {ab : Nat → Int32} {a m : Nat} (hm : m ≤ 10) (hJ : J (nI (sp_mx (sp_fY t lo hi a) m 100)) (nI (a + 1))) : ∀ d b, b + d = 100 → wY_deepest_12 post J (nI a) (sp_B t) (sp_E lo hi) ab (d + 1) (nI (sp_mx (sp_fY t lo hi a) m b)) (nI b) := by
  intro d
  induction d with
  | zero =>
    intro b e
    obtain rfl : b = 100 := by omega
    exact br_t sp_100e (nm_r (nI_1 a) hJ)
  | succ d ih =>
    intro b e
    have j := ih (b + 1) (by omega)
    have hr : ∀ i, sp_fY t lo hi a i ≤ 10 := fun i => sp_D_le t lo hi (nI a) (nI i)
    have hq := sp_mx_le10 hr hm b
    have hb := hr b
    refine br_f (sp_100 (by omega)) (yw_count ?_)
    refine pk_le (sp_fY t lo hi a b) (sp_mx (sp_fY t lo hi a) m b) (fun z => ?_) (fun z => ?_)
    · rw [sp_mx_y z] at j
      exact nm_r (nI_1 b) j
    · rw [sp_mx_n (by omega)] at j
      exact nm_r (nI_1 b) j
theorem yw_deepest {post : Int32 → Prop} {t : Nat → Bool} {lo hi : Nat → Nat} {ab : Nat → Int32} (h : post (nI (sp_m2 (sp_fY t lo hi) 100 100))) : wpY_deepest post (sp_B t, sp_E lo hi, ab) := by
  have l : ∀ d a, a + d = 100 → wY_deepest_4 post (sp_B t) (sp_E lo hi) ab (d + 1) (nI (sp_m2 (sp_fY t lo hi) 100 a)) (nI a) := by
    intro d
    induction d with
    | zero =>
      intro a e
      obtain rfl : a = 100 := by omega
      exact br_t sp_100e h
    | succ d ih =>
      intro a e
      exact br_f (sp_100 (by omega)) ⟨101, yw_dp_in (sp_m2_le a (fun i _ b _ => sp_D_le t lo hi (nI i) (nI b))) (ih (a + 1) (by omega)) 100 0 rfl⟩
  show ∃ n, wY_deepest_4 post (sp_B t) (sp_E lo hi) ab n 0 0
  exact ⟨101, l 100 0 rfl⟩
/-! ranks -/
theorem yw_rank_l {post : Int32 → Prop} {t : Nat → Bool} {lo hi : Nat → Nat} {ab : Nat → Int32} {k c : Nat} (g : sp_G lo hi) (hk : k < 10) (hc : c < 2) (h : post (nI (sp_ct (sp_bf t lo k c) 10))) : ∀ d i, i + d = 10 → wY_rank_24 post (nI k) (nI c) (sp_B t) (sp_E lo hi) ab (d + 1) (nI (sp_ct (sp_bf t lo k c) i)) (nI i) := by
  intro d
  induction d with
  | zero =>
    intro i e
    obtain rfl : i = 10 := by omega
    exact br_t sp_10e h
  | succ d ih =>
    intro i e
    have j := ih (i + 1) (by omega)
    have hh := sp_bf_cmp t lo k c i
    have h10 : i < 10 := by omega
    have gi := g (2 * i + c)
    have gk := g (2 * k + c)
    have e2 : (2 : Int32) * nI c = nI (2 * c) := by rw [show (2 : Int32) = nI 2 from rfl, pk_mul]
    obtain ⟨ii, vi⟩ := yw_l (lo := lo) (hi := hi) (x := (4 : Int32) * nI i + 2 * nI c) h10 hc (by rw [e2, sp_i4])
    obtain ⟨ik, vk⟩ := yw_l (lo := lo) (hi := hi) (x := (4 : Int32) * nI k + 2 * nI c) hk hc (by rw [e2, sp_i4])
    have s := pk_sub_toInt (a := lo (2 * i + c)) (b := lo (2 * k + c)) (by omega) (by omega)
    have n1 : nI (lo (2 * i + c)) - nI (lo (2 * k + c)) < 0 ↔ lo (2 * i + c) < lo (2 * k + c) := by
      rw [Int32.lt_iff_toInt_lt, s, show (0 : Int32).toInt = 0 from by decide]; omega
    have n2 : nI (lo (2 * i + c)) - nI (lo (2 * k + c)) = 0 ↔ lo (2 * i + c) = lo (2 * k + c) := by
      rw [← Int32.toInt_inj, s, show (0 : Int32).toInt = 0 from by decide]; omega
    refine br_f (sp_10 h10) ⟨ii, ik, ?_⟩
    rw [vi, vk]
    refine nm_e ⟨vp_in_nI h10 (by decide), ?_⟩
    rw [yw_B h10, n1, n2]
    refine xw_bb (fun z => ?_) (fun z => br_c (fun y => ?_) (fun y => br_c (fun x => pk_le k i (fun w => ?_) (fun w => ?_)) (fun x => ?_)))
    · rw [sp_ct_f (hh.trans (by rw [z, Bool.false_and]))] at j
      exact nm_r (nI_1 i) j
    · rw [sp_ct_t (hh.trans (by unfold sp_cmp; rw [z, decide_eq_true y, Bool.true_or, Bool.and_true]))] at j
      exact nm_r (nI_1 _) (nm_r (nI_1 i) j)
    · rw [sp_ct_f (hh.trans (by unfold sp_cmp; rw [decide_eq_false y, decide_eq_false (p := i < k) (by omega), Bool.and_false, Bool.or_false, Bool.and_false]))] at j
      exact nm_r (nI_1 i) j
    · rw [sp_ct_t (hh.trans (by unfold sp_cmp; rw [z, decide_eq_true x, decide_eq_true w, Bool.and_true, Bool.or_true, Bool.and_true]))] at j
      exact nm_r (nI_1 _) (nm_r (nI_1 i) j)
    · rw [sp_ct_f (hh.trans (by unfold sp_cmp; rw [decide_eq_false y, decide_eq_false x, Bool.false_and, Bool.or_false, Bool.and_false]))] at j
      exact nm_r (nI_1 i) j
/-! within -/
theorem yw_within {post : Int32 → Prop} {t : Nat → Bool} {lo hi : Nat → Nat} {ab : Nat → Int32} {a b : Nat} (g : sp_G lo hi) (ha : a < 10) (hb : b < 10) (h : post (sp_b (sp_wi t lo hi a b))) : wpY_within post (sp_B t, sp_E lo hi, ab) (nI a) (nI b) := by
  have g0 := g (2 * a + 0)
  have g1 := g (2 * a + 1)
  have k0 := g (2 * b + 0)
  have k1 := g (2 * b + 1)
  obtain ⟨i0, v0⟩ := yw_l (lo := lo) (hi := hi) (x := (4 : Int32) * nI a) (c := 0) ha (by decide) (sp_j4 a)
  obtain ⟨i1, v1⟩ := yw_h (lo := lo) (hi := hi) (x := (4 : Int32) * nI a + 1) (c := 0) ha (by decide) (sp_i4 a 1)
  obtain ⟨i2, v2⟩ := yw_l (lo := lo) (hi := hi) (x := (4 : Int32) * nI a + 2) (c := 1) ha (by decide) (sp_i4 a 2)
  obtain ⟨i3, v3⟩ := yw_h (lo := lo) (hi := hi) (x := (4 : Int32) * nI a + 3) (c := 1) ha (by decide) (sp_i4 a 3)
  obtain ⟨j0, w0⟩ := yw_l (lo := lo) (hi := hi) (x := (4 : Int32) * nI b) (c := 0) hb (by decide) (sp_j4 b)
  obtain ⟨j1, w1⟩ := yw_h (lo := lo) (hi := hi) (x := (4 : Int32) * nI b + 1) (c := 0) hb (by decide) (sp_i4 b 1)
  obtain ⟨j2, w2⟩ := yw_l (lo := lo) (hi := hi) (x := (4 : Int32) * nI b + 2) (c := 1) hb (by decide) (sp_i4 b 2)
  obtain ⟨j3, w3⟩ := yw_h (lo := lo) (hi := hi) (x := (4 : Int32) * nI b + 3) (c := 1) hb (by decide) (sp_i4 b 3)
  by_cases e : a = b
  · subst e
    exact br_t rfl (xw_f h (by simp [sp_wi]))
  · refine br_f (fun z => e ((nI_eq (by omega) (by omega)).mp z)) ?_
    refine yw_is ha (xw_bb (fun ta => ?_) (fun ta => ?_))
    · exact xw_f h (by simp [sp_wi, ta])
    refine yw_is hb (xw_bb (fun tb => ?_) (fun tb => ?_))
    · exact xw_f h (by simp [sp_wi, tb])
    rw [v0, v1, v2, v3, w0, w1, w2, w3]
    have hs : sp_wi t lo hi a b = (sp_sw lo hi a b 0 && sp_sw lo hi a b 1) := by simp [sp_wi, e, ta, tb]
    rw [hs] at h
    unfold sp_sw at h
    refine ⟨i0, j0, pk_lt (lo (2 * a + 0)) (lo (2 * b + 0)) (fun z0 => ?_) (fun z0 => ⟨i1, j1, pk_lt (hi (2 * b + 0)) (hi (2 * a + 0)) (fun z1 => ?_) (fun z1 => ⟨i2, j2, pk_lt (lo (2 * a + 1)) (lo (2 * b + 1)) (fun z2 => ?_) (fun z2 => ⟨i3, j3, pk_lt (hi (2 * b + 1)) (hi (2 * a + 1)) (fun z3 => ?_) (fun z3 => ?_)⟩)⟩)⟩)⟩
    · exact xw_f h (by rw [decide_eq_false (p := lo (2 * b + 0) ≤ lo (2 * a + 0)) (by omega), Bool.false_and, Bool.false_and])
    · exact xw_f h (by rw [decide_eq_false (p := hi (2 * a + 0) ≤ hi (2 * b + 0)) (by omega), Bool.and_false, Bool.false_and])
    · exact xw_f h (by rw [decide_eq_false (p := lo (2 * b + 1) ≤ lo (2 * a + 1)) (by omega), Bool.false_and, Bool.and_false])
    · exact xw_f h (by rw [decide_eq_false (p := hi (2 * a + 1) ≤ hi (2 * b + 1)) (by omega), Bool.and_false, Bool.and_false])
    · exact xw_t h (by rw [decide_eq_true z0, decide_eq_true z1, decide_eq_true z2, decide_eq_true z3]; rfl)
