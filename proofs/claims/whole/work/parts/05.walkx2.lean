/-! the component's walks: clusters, points, ranks -/
theorem xw_cl_in {post : Int32 → Prop} {J16 : Int32 → Int32 → Prop} {t : Nat → Bool} {lo hi : Nat → Nat} {x : Int32} {s : Nat} (g : sp_G lo hi) (hJ : J16 (sp_ps (sp_ov t lo hi) x 10) (nI (s + 1))) : ∀ d j, j + d = 10 → wX_cluster_25 post J16 (nI s) (sp_mk t 10) (sp_L lo) (sp_L hi) (d + 1) (sp_ps (sp_ov t lo hi) x j) (nI j) := by
  intro d
  induction d with
  | zero =>
    intro j e
    obtain rfl : j = 10 := by omega
    exact br_t sp_10e (nm_r (nI_1 s) hJ)
  | succ d ih =>
    intro j e
    have i := ih (j + 1) (by omega)
    refine br_f (sp_10 (by omega)) ?_
    rw [sp_bit (sp_ps (sp_ov t lo hi) x j) (show j < 32 by omega)]
    refine xw_b1 (fun z => xw_partners g (by omega) ?_) (fun z => ?_)
    · rw [sp_ps, sp_g_t z] at i
      exact nm_e (nm_r (nI_1 j) i)
    · rw [sp_ps, sp_g_f z] at i
      exact nm_r (nI_1 j) i
theorem xw_cl_out {post : Int32 → Prop} {t : Nat → Bool} {lo hi : Nat → Nat} {x : Int32} (g : sp_G lo hi) (h : post (sp_it (sp_ov t lo hi) x 9)) : ∀ d m, m + 1 + d = 10 → wX_cluster_16 post (sp_mk t 10) (sp_L lo) (sp_L hi) (d + 1) (sp_it (sp_ov t lo hi) x m) (nI (m + 1)) := by
  intro d
  induction d with
  | zero =>
    intro m e
    obtain rfl : m = 9 := by omega
    exact br_t sp_10e h
  | succ d ih =>
    intro m e
    exact br_f (sp_10 (by omega)) ⟨11, xw_cl_in g (ih (m + 1) (by omega)) 10 0 rfl⟩
def sp_cl (t : Nat → Bool) (lo hi : Nat → Nat) (k : Nat) : Int32 := match t k with
  | true => sp_it (sp_ov t lo hi) ((1 : Int32) <<< (nI k &&& 31)) 9
  | false => 0
theorem sp_cl_t {t : Nat → Bool} {lo hi : Nat → Nat} {k : Nat} (h : t k = true) : sp_cl t lo hi k = sp_it (sp_ov t lo hi) ((1 : Int32) <<< (nI k &&& 31)) 9 := by unfold sp_cl; rw [h]
theorem sp_cl_f {t : Nat → Bool} {lo hi : Nat → Nat} {k : Nat} (h : t k = false) : sp_cl t lo hi k = 0 := by unfold sp_cl; rw [h]
theorem xw_cluster {post : Int32 → Prop} {t : Nat → Bool} {lo hi : Nat → Nat} {k : Nat} (g : sp_G lo hi) (hk : k < 10) (h : post (sp_cl t lo hi k)) : wpX_cluster post (sp_mk t 10, sp_L lo, sp_L hi) (nI k) := by
  unfold wpX_cluster
  dsimp only
  refine xw_isThere hk (xw_bb (fun z => ?_) (fun z => ?_))
  · rw [sp_cl_f z] at h
    exact h
  · rw [sp_cl_t z] at h
    exact nm_e ⟨10, xw_cl_out g h 9 0 rfl⟩
theorem xw_cluster0 {post : Int32 → Prop} {u : SX} {x : Int32} (hx : x < 0 ∨ nI 10 ≤ x) (h : post 0) : wpX_cluster post u x := by
  obtain ⟨f, al, ah⟩ := u
  unfold wpX_cluster
  dsimp only
  exact xw_isThere0 hx (br_t rfl h)
def sp_cq (t : Nat → Bool) (lo hi : Nat → Nat) (k : Nat) : Bool := t k && decide ((sp_cl t lo hi k &&& (((1 : Int32) <<< (nI k &&& 31)) - 1)) = 0)
theorem sp_cq_n {t : Nat → Bool} {lo hi : Nat → Nat} {k : Nat} (h : t k = false) : sp_cq t lo hi k = false := by unfold sp_cq; rw [h, Bool.false_and]
theorem sp_cq_y {t : Nat → Bool} {lo hi : Nat → Nat} {k : Nat} (h : t k = true) (e : (sp_cl t lo hi k &&& (((1 : Int32) <<< (nI k &&& 31)) - 1)) = 0) : sp_cq t lo hi k = true := by unfold sp_cq; rw [h, decide_eq_true e, Bool.true_and]
theorem sp_cq_z {t : Nat → Bool} {lo hi : Nat → Nat} {k : Nat} (e : ¬ (sp_cl t lo hi k &&& (((1 : Int32) <<< (nI k &&& 31)) - 1)) = 0) : sp_cq t lo hi k = false := by unfold sp_cq; rw [decide_eq_false e, Bool.and_false]
theorem xw_clusters {post : Int32 → Prop} {t : Nat → Bool} {lo hi : Nat → Nat} (g : sp_G lo hi) (h : post (nI (sp_ct (sp_cq t lo hi) 10))) : wpX_clusters post (sp_mk t 10, sp_L lo, sp_L hi) := by
  have l : ∀ d i, i + d = 10 → wX_clusters_4 post (sp_mk t 10) (sp_L lo) (sp_L hi) (d + 1) (nI (sp_ct (sp_cq t lo hi) i)) (nI i) := by
    intro d
    induction d with
    | zero =>
      intro i e
      obtain rfl : i = 10 := by omega
      exact br_t sp_10e h
    | succ d ih =>
      intro i e
      have j := ih (i + 1) (by omega)
      refine br_f (sp_10 (by omega)) (nm_e (xw_isThere (show i < 10 by omega) (xw_bb (fun z => ?_) (fun z => xw_cluster g (by omega) (br_c (fun y => ?_) (fun y => ?_))))))
      · rw [sp_ct_f (sp_cq_n z)] at j
        exact nm_r (nI_1 i) j
      · rw [sp_ct_t (sp_cq_y z y)] at j
        exact nm_r (nI_1 _) (nm_r (nI_1 i) j)
      · rw [sp_ct_f (sp_cq_z y)] at j
        exact nm_r (nI_1 i) j
  show ∃ n, wX_clusters_4 post (sp_mk t 10) (sp_L lo) (sp_L hi) n 0 0
  exact ⟨11, l 10 0 rfl⟩
/-! points -/
def sp_cv (lo hi : Nat → Nat) (k c : Nat) (x : Int32) : Bool := !decide (x < nI (lo (2 * k + c))) && !decide (nI (hi (2 * k + c)) < x)
theorem xw_covers {post : Int32 → Prop} {f : Int32} {lo hi : Nat → Nat} {k c : Nat} {x : Int32} (hk : k < 10) (hc : c < 2) (h : post (sp_b (sp_cv lo hi k c x))) : wpX_covers post (f, sp_L lo, sp_L hi) (nI k) (nI c) x := by
  have i : vp_in (nI (2 * k + c)) 20 := vp_in_nI (by omega) (by decide)
  unfold wpX_covers
  dsimp only
  rw [sp_ix k c, nI_clamp (n := 2 * k + c) (by omega)]
  refine ⟨i, br_c (fun z => ?_) (fun z => ⟨i, br_c (fun w => ?_) (fun w => ?_)⟩)⟩
  · exact xw_f h (by unfold sp_cv; rw [decide_eq_true (p := x < nI (lo (2 * k + c))) z]; rfl)
  · exact xw_f h (by unfold sp_cv; rw [decide_eq_true (p := nI (hi (2 * k + c)) < x) w, Bool.not_true, Bool.and_false])
  · exact xw_t h (by unfold sp_cv; rw [decide_eq_false (p := x < nI (lo (2 * k + c))) z, decide_eq_false (p := nI (hi (2 * k + c)) < x) w]; rfl)
theorem sp_hs_cv (t : Nat → Bool) (lo hi : Nat → Nat) (x y : Int32) (k : Nat) : sp_hs t lo hi x y k = (t k && (sp_cv lo hi k 0 x && sp_cv lo hi k 1 y)) := by
  unfold sp_hs sp_cv
  rw [Bool.and_assoc]
theorem xw_at {post : Int32 → Prop} {t : Nat → Bool} {lo hi : Nat → Nat} {x y : Int32} (h : post (sp_mk (sp_hs t lo hi x y) 10)) : wpX_at post (sp_mk t 10, sp_L lo, sp_L hi) x y := by
  have l : ∀ d i, i + d = 10 → wX_at_5 post x y (sp_mk t 10) (sp_L lo) (sp_L hi) (d + 1) (sp_mk (sp_hs t lo hi x y) i) (nI i) := by
    intro d
    induction d with
    | zero =>
      intro i e
      obtain rfl : i = 10 := by omega
      exact br_t sp_10e h
    | succ d ih =>
      intro i e
      have j := ih (i + 1) (by omega)
      have hh := sp_hs_cv t lo hi x y i
      have hi10 : i < 10 := by omega
      refine br_f (sp_10 hi10) (xw_isThere hi10 (xw_bb (fun z => ?_) (fun z => ?_)))
      · rw [sp_mk_f (hh.trans (by rw [z, Bool.false_and]))] at j
        exact nm_r (nI_1 i) j
      refine xw_covers (c := 0) hi10 (by decide) (xw_bb (fun z0 => ?_) (fun z0 => ?_))
      · rw [sp_mk_f (hh.trans (by rw [z0, Bool.false_and, Bool.and_false]))] at j
        exact nm_r (nI_1 i) j
      refine xw_covers (c := 1) hi10 (by decide) (xw_bb (fun z1 => ?_) (fun z1 => ?_))
      · rw [sp_mk_f (hh.trans (by rw [z1, Bool.and_false, Bool.and_false]))] at j
        exact nm_r (nI_1 i) j
      · rw [sp_mk_t (hh.trans (by rw [z, z0, z1, Bool.and_true, Bool.and_true]))] at j
        exact nm_e (nm_r (nI_1 i) j)
  show ∃ n, wX_at_5 post x y (sp_mk t 10) (sp_L lo) (sp_L hi) n 0 0
  exact ⟨11, l 10 0 rfl⟩
theorem xw_depthAt {post : Int32 → Prop} {t : Nat → Bool} {lo hi : Nat → Nat} {x y : Int32} (h : post (nI (sp_D t lo hi x y))) : wpX_depthAt post (sp_mk t 10, sp_L lo, sp_L hi) x y := by
  unfold wpX_depthAt
  dsimp only
  exact xw_at (xw_countBits h)
theorem sp_mx_le10 {f : Nat → Nat} {m : Nat} (hf : ∀ i, f i ≤ 10) (hm : m ≤ 10) (n : Nat) : sp_mx f m n ≤ 10 := sp_mx_le hm n (fun i _ => hf i)
theorem sp_mx_y {f : Nat → Nat} {m n : Nat} (h : f n ≤ sp_mx f m n) : sp_mx f m (n + 1) = sp_mx f m n := by rw [sp_mx, if_pos h]
theorem sp_mx_n {f : Nat → Nat} {m n : Nat} (h : ¬ f n ≤ sp_mx f m n) : sp_mx f m (n + 1) = f n := by rw [sp_mx, if_neg h]
theorem sp_fX_f {t : Nat → Bool} {lo hi : Nat → Nat} {a b : Nat} (h : (t a && t b) = false) : sp_fX t lo hi a b = 0 := by unfold sp_fX; rw [h]
theorem sp_fX_t {t : Nat → Bool} {lo hi : Nat → Nat} {a b : Nat} (ha : t a = true) (hb : t b = true) : sp_fX t lo hi a b = sp_D t lo hi (nI (lo (2 * a + 0))) (nI (lo (2 * b + 1))) := by unfold sp_fX; rw [ha, hb]; rfl
theorem xw_dp_in {post : Int32 → Prop} {J4 : Int32 → Int32 → Prop} {t : Nat → Bool} {lo hi : Nat → Nat} {a m : Nat} (ha : a < 10) (hm : m ≤ 10) (hJ : J4 (nI (sp_mx (sp_fX t lo hi a) m 10)) (nI (a + 1))) : ∀ d b, b + d = 10 → wX_deepest_12 post J4 (nI a) (sp_mk t 10) (sp_L lo) (sp_L hi) (d + 1) (nI (sp_mx (sp_fX t lo hi a) m b)) (nI b) := by
  intro d
  induction d with
  | zero =>
    intro b e
    obtain rfl : b = 10 := by omega
    exact br_t sp_10e (nm_r (nI_1 a) hJ)
  | succ d ih =>
    intro b e
    have j := ih (b + 1) (by omega)
    have hb : b < 10 := by omega
    have hq := sp_mx_le10 (fun i => sp_fX_le t lo hi a i) hm b
    have hr := sp_fX_le t lo hi a b
    have ia : vp_in ((2 : Int32) * nI a + 0) 20 := pk_in (2 * a + 0) 20 (by omega) (sp_ix a 0)
    have ib : vp_in ((2 : Int32) * nI b + 1) 20 := pk_in (2 * b + 1) 20 (by omega) (sp_ix b 1)
    have ea : sp_L lo ((2 : Int32) * nI a + 0).toNatClampNeg = nI (lo (2 * a + 0)) := congrArg (sp_L lo) (pk_cl (2 * a + 0) (sp_ix a 0))
    have eb : sp_L lo ((2 : Int32) * nI b + 1).toNatClampNeg = nI (lo (2 * b + 1)) := congrArg (sp_L lo) (pk_cl (2 * b + 1) (sp_ix b 1))
    refine br_f (sp_10 hb) (xw_isThere ha (xw_bb (fun za => ?_) (fun za => xw_isThere hb (xw_bb (fun zb => ?_) (fun zb => ⟨ia, ib, ?_⟩)))))
    · have z : sp_fX t lo hi a b = 0 := sp_fX_f (by rw [za, Bool.false_and])
      rw [sp_mx_y (by omega)] at j
      exact nm_r (nI_1 b) j
    · have z : sp_fX t lo hi a b = 0 := sp_fX_f (by rw [zb, Bool.and_false])
      rw [sp_mx_y (by omega)] at j
      exact nm_r (nI_1 b) j
    · rw [ea, eb]
      refine xw_depthAt ?_
      rw [← sp_fX_t za zb]
      refine pk_le (sp_fX t lo hi a b) (sp_mx (sp_fX t lo hi a) m b) (fun z => ?_) (fun z => ?_)
      · rw [sp_mx_y z] at j
        exact nm_r (nI_1 b) j
      · rw [sp_mx_n (by omega)] at j
        exact nm_r (nI_1 b) j
theorem xw_deepest {post : Int32 → Prop} {t : Nat → Bool} {lo hi : Nat → Nat} (h : post (nI (sp_m2 (sp_fX t lo hi) 10 10))) : wpX_deepest post (sp_mk t 10, sp_L lo, sp_L hi) := by
  have l : ∀ d a, a + d = 10 → wX_deepest_4 post (sp_mk t 10) (sp_L lo) (sp_L hi) (d + 1) (nI (sp_m2 (sp_fX t lo hi) 10 a)) (nI a) := by
    intro d
    induction d with
    | zero =>
      intro a e
      obtain rfl : a = 10 := by omega
      exact br_t sp_10e h
    | succ d ih =>
      intro a e
      exact br_f (sp_10 (by omega)) ⟨11, xw_dp_in (by omega) (sp_m2_le a (fun i _ b _ => sp_fX_le t lo hi i b)) (ih (a + 1) (by omega)) 10 0 rfl⟩
  show ∃ n, wX_deepest_4 post (sp_mk t 10) (sp_L lo) (sp_L hi) n 0 0
  exact ⟨11, l 10 0 rfl⟩
/-! ranks -/
def sp_cmp (lo : Nat → Nat) (a b c : Nat) : Bool := decide (lo (2 * a + c) < lo (2 * b + c)) || (decide (lo (2 * a + c) = lo (2 * b + c)) && decide (a < b))
theorem xw_before {post : Int32 → Prop} {f : Int32} {lo hi : Nat → Nat} {a b c : Nat} (g : sp_G lo hi) (ha : a < 10) (hb : b < 10) (hc : c < 2) (h : post (sp_b (sp_cmp lo a b c))) : wpX_comesBefore post (f, sp_L lo, sp_L hi) (nI a) (nI b) (nI c) := by
  have ga := g (2 * a + c)
  have gb := g (2 * b + c)
  unfold wpX_comesBefore
  dsimp only
  rw [sp_ix a c, sp_ix b c, nI_clamp (n := 2 * a + c) (by omega), nI_clamp (n := 2 * b + c) (by omega)]
  refine ⟨vp_in_nI (by omega) (by decide), nm_e ⟨vp_in_nI (by omega) (by decide), nm_e ?_⟩⟩
  refine pk_lt (lo (2 * a + c)) (lo (2 * b + c)) (fun z => ?_) (fun z => pk_eq (lo (2 * a + c)) (lo (2 * b + c)) (fun y => pk_le b a (fun w => ?_) (fun w => ?_)) (fun y => ?_))
  · exact xw_t h (by unfold sp_cmp; rw [decide_eq_true z, Bool.true_or])
  · exact xw_f h (by unfold sp_cmp; rw [decide_eq_false (by omega), decide_eq_false (p := a < b) (by omega), Bool.and_false, Bool.or_false])
  · exact xw_t h (by unfold sp_cmp; rw [decide_eq_true y, decide_eq_true w, Bool.and_true, Bool.or_true])
  · exact xw_f h (by unfold sp_cmp; rw [decide_eq_false (p := lo (2 * a + c) < lo (2 * b + c)) (by omega), decide_eq_false (p := lo (2 * a + c) = lo (2 * b + c)) y, Bool.false_and, Bool.or_false])
theorem sp_bf_cmp (t : Nat → Bool) (lo : Nat → Nat) (k c j : Nat) : sp_bf t lo k c j = (t j && sp_cmp lo j k c) := rfl
theorem xw_rank_l {post : Int32 → Prop} {t : Nat → Bool} {lo hi : Nat → Nat} {k c : Nat} (g : sp_G lo hi) (hk : k < 10) (hc : c < 2) (h : post (nI (sp_ct (sp_bf t lo k c) 10))) : ∀ d i, i + d = 10 → wX_rank_24 post (nI k) (nI c) (sp_mk t 10) (sp_L lo) (sp_L hi) (d + 1) (nI (sp_ct (sp_bf t lo k c) i)) (nI i) := by
  intro d
  induction d with
  | zero =>
    intro i e
    obtain rfl : i = 10 := by omega
    exact br_t sp_10e h
  | succ d ih =>
    intro i e
    have j := ih (i + 1) (by omega)
    have hh := sp_bf_cmp t lo k c i
    have hi10 : i < 10 := by omega
    refine br_f (sp_10 hi10) (xw_isThere hi10 (xw_bb (fun z => ?_) (fun z => xw_before g hi10 hk hc (xw_bb (fun y => ?_) (fun y => ?_)))))
    · rw [sp_ct_f (hh.trans (by rw [z, Bool.false_and]))] at j
      exact nm_r (nI_1 i) j
    · rw [sp_ct_f (hh.trans (by rw [y, Bool.and_false]))] at j
      exact nm_r (nI_1 i) j
    · rw [sp_ct_t (hh.trans (by rw [z, y, Bool.and_true]))] at j
      exact nm_r (nI_1 _) (nm_r (nI_1 i) j)
/-! within -/
def sp_sw (lo hi : Nat → Nat) (a b c : Nat) : Bool := decide (lo (2 * b + c) ≤ lo (2 * a + c)) && decide (hi (2 * a + c) ≤ hi (2 * b + c))
theorem xw_spanWithin {post : Int32 → Prop} {f : Int32} {lo hi : Nat → Nat} {a b c : Nat} (g : sp_G lo hi) (ha : a < 10) (hb : b < 10) (hc : c < 2) (h : post (sp_b (sp_sw lo hi a b c))) : wpX_spanWithin post (f, sp_L lo, sp_L hi) (nI a) (nI b) (nI c) := by
  have ga := g (2 * a + c)
  have gb := g (2 * b + c)
  have ia : vp_in (nI (2 * a + c)) 20 := vp_in_nI (by omega) (by decide)
  have ib : vp_in (nI (2 * b + c)) 20 := vp_in_nI (by omega) (by decide)
  unfold wpX_spanWithin
  dsimp only
  rw [sp_ix a c, sp_ix b c, nI_clamp (n := 2 * a + c) (by omega), nI_clamp (n := 2 * b + c) (by omega)]
  refine ⟨ia, ib, pk_lt (lo (2 * a + c)) (lo (2 * b + c)) (fun z => ?_) (fun z => ⟨ia, ib, pk_lt (hi (2 * b + c)) (hi (2 * a + c)) (fun w => ?_) (fun w => ?_)⟩)⟩
  · exact xw_f h (by unfold sp_sw; rw [decide_eq_false (by omega), Bool.false_and])
  · exact xw_f h (by unfold sp_sw; rw [decide_eq_false (p := hi (2 * a + c) ≤ hi (2 * b + c)) (by omega), Bool.and_false])
  · exact xw_t h (by unfold sp_sw; rw [decide_eq_true z, decide_eq_true w, Bool.true_and])
def sp_wi (t : Nat → Bool) (lo hi : Nat → Nat) (a b : Nat) : Bool := !decide (a = b) && (t a && (t b && (sp_sw lo hi a b 0 && sp_sw lo hi a b 1)))
theorem xw_within {post : Int32 → Prop} {t : Nat → Bool} {lo hi : Nat → Nat} {a b : Nat} (g : sp_G lo hi) (ha : a < 10) (hb : b < 10) (h : post (sp_b (sp_wi t lo hi a b))) : wpX_within post (sp_mk t 10, sp_L lo, sp_L hi) (nI a) (nI b) := by
  by_cases e : a = b
  · subst e
    exact br_t rfl (xw_f h (by simp [sp_wi]))
  · refine br_f (fun z => e ((nI_eq (by omega) (by omega)).mp z)) ?_
    refine xw_isThere ha (xw_bb (fun ta => ?_) (fun ta => ?_))
    · exact xw_f h (by simp [sp_wi, ta])
    refine xw_isThere hb (xw_bb (fun tb => ?_) (fun tb => ?_))
    · exact xw_f h (by simp [sp_wi, tb])
    refine xw_spanWithin (c := 0) g ha hb (by decide) (xw_bb (fun s0 => ?_) (fun s0 => ?_))
    · exact xw_f h (by simp [sp_wi, s0])
    refine xw_spanWithin (c := 1) g ha hb (by decide) (xw_bb (fun s1 => ?_) (fun s1 => ?_))
    · exact xw_f h (by simp [sp_wi, s1])
    · exact xw_t h (by simp [sp_wi, e, ta, tb, s0, s1])
