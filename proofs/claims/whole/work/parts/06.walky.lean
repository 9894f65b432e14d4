/-! the reference's walks over the same picture -/
def sp_B (t : Nat → Bool) : Nat → Int32 := fun k => sp_b (t k)
def sp_E (lo hi : Nat → Nat) : Nat → Int32 := fun i => if i % 2 = 0 then nI (lo (i / 2)) else nI (hi (i / 2))
theorem sp_E_l (lo hi : Nat → Nat) (j : Nat) : sp_E lo hi (2 * j) = nI (lo j) := by
  have h1 : 2 * j % 2 = 0 := by omega
  have h2 : 2 * j / 2 = j := by omega
  unfold sp_E
  rw [if_pos h1, h2]
theorem sp_E_h (lo hi : Nat → Nat) (j : Nat) : sp_E lo hi (2 * j + 1) = nI (hi j) := by
  have h1 : ¬ (2 * j + 1) % 2 = 0 := by omega
  have h2 : (2 * j + 1) / 2 = j := by omega
  unfold sp_E
  rw [if_neg h1, h2]
theorem sp_E_ul (lo hi : Nat → Nat) (j v : Nat) : upd (sp_E lo hi) (2 * j) (nI v) = sp_E (sp_up lo j v) hi := by
  funext i
  by_cases h : i = 2 * j
  · subst h
    rw [pk_us, sp_E_l, sp_up_s]
  · rw [pk_un h]
    unfold sp_E
    by_cases h1 : i % 2 = 0
    · rw [if_pos h1, if_pos h1, sp_up_n (by omega)]
    · rw [if_neg h1, if_neg h1]
theorem sp_E_uh (lo hi : Nat → Nat) (j v : Nat) : upd (sp_E lo hi) (2 * j + 1) (nI v) = sp_E lo (sp_up hi j v) := by
  funext i
  by_cases h : i = 2 * j + 1
  · subst h
    rw [pk_us, sp_E_h, sp_up_s]
  · rw [pk_un h]
    unfold sp_E
    by_cases h1 : i % 2 = 0
    · rw [if_pos h1, if_pos h1]
    · rw [if_neg h1, if_neg h1, sp_up_n (by omega)]
theorem sp_B_u (t : Nat → Bool) (k : Nat) (x : Bool) : upd (sp_B t) k (sp_b x) = sp_B (sp_up t k x) := by
  funext i
  by_cases h : i = k
  · subst h
    rw [pk_us]
    show sp_b x = sp_b (sp_up t i x i)
    rw [sp_up_s]
  · rw [pk_un h]
    show sp_b (t i) = sp_b (sp_up t k x i)
    rw [sp_up_n h]
theorem sp_nar (x : Bool) : vp_nar .boolean (sp_b x) = sp_b x := by cases x <;> rfl
theorem sp_i4 (a e : Nat) : (4 : Int32) * nI a + nI e = nI (4 * a + e) := by
  rw [show (4 : Int32) = nI 4 from rfl, pk_mul, nI_add]
theorem sp_j4 (a : Nat) : (4 : Int32) * nI a = nI (4 * a) := by
  rw [show (4 : Int32) = nI 4 from rfl, pk_mul]
/-- the four cells of box a: place 2 j of the array is the low of span j, place 2 j + 1 its high -/
theorem yw_l {lo hi : Nat → Nat} {x : Int32} {a c : Nat} (ha : a < 10) (hc : c < 2) (e : x = nI (4 * a + 2 * c)) : vp_in x 40 ∧ sp_E lo hi x.toNatClampNeg = nI (lo (2 * a + c)) := by
  subst e
  refine ⟨vp_in_nI (by omega) (by decide), ?_⟩
  rw [nI_clamp (by omega), show 4 * a + 2 * c = 2 * (2 * a + c) from by omega, sp_E_l]
theorem yw_h {lo hi : Nat → Nat} {x : Int32} {a c : Nat} (ha : a < 10) (hc : c < 2) (e : x = nI (4 * a + 2 * c + 1)) : vp_in x 40 ∧ sp_E lo hi x.toNatClampNeg = nI (hi (2 * a + c)) := by
  subst e
  refine ⟨vp_in_nI (by omega) (by decide), ?_⟩
  rw [nI_clamp (by omega), show 4 * a + 2 * c + 1 = 2 * (2 * a + c) + 1 from by omega, sp_E_h]
theorem yw_B {t : Nat → Bool} {k : Nat} (hk : k < 10) : sp_B t (nI k).toNatClampNeg = sp_b (t k) := by
  rw [nI_clamp (by omega)]; rfl
theorem yw_is {post : Int32 → Prop} {t : Nat → Bool} {ae ab : Nat → Int32} {k : Nat} (hk : k < 10) (h : post (sp_b (t k))) : wpY_is post (sp_B t, ae, ab) (nI k) := by
  refine br_f (nI_pos (by omega)) (br_f (nI_nlt (a := 9) (by omega) (by decide)) ⟨vp_in_nI hk (by decide), ?_⟩)
  rw [yw_B hk]
  exact xw_bb (fun z => xw_f h z) (fun z => xw_t h z)
theorem yw_is0 {post : Int32 → Prop} {u : SY} {x : Int32} (hx : x < 0 ∨ nI 10 ≤ x) (h : post 0) : wpY_is post u x := by
  obtain ⟨f, al, ah⟩ := u
  rcases hx with hx | hx
  · exact br_t hx h
  · exact br_f (Int32.not_lt.mpr (Int32.le_trans (by decide) hx)) (br_t (Int32.lt_of_lt_of_le (by decide) hx) h)
theorem yw_meet46 {post : Int32 → Prop} {lo hi : Nat → Nat} {at' ab : Nat → Int32} {a b c v : Nat} {p : Int32} (g : sp_G lo hi) (ha : a < 10) (hb : b < 10) (hc : c < 2) (hp : p = nI (2 * c)) (hv : v < 100) (h : post (sp_b (decide (v ≤ hi (2 * a + c)) && decide (v ≤ hi (2 * b + c))))) : wY_meet_46 post (nI a) (nI b) p (nI v) at' (sp_E lo hi) ab := by
  subst hp
  have ga := g (2 * a + c)
  have gb := g (2 * b + c)
  have ea : (4 : Int32) * nI a + nI (2 * c) + 1 = nI (4 * a + 2 * c + 1) := by rw [sp_i4, nI_1]
  have eb : (4 : Int32) * nI b + nI (2 * c) + 1 = nI (4 * b + 2 * c + 1) := by rw [sp_i4, nI_1]
  obtain ⟨ia, va⟩ := yw_h (lo := lo) (hi := hi) ha hc ea
  obtain ⟨ib, vb⟩ := yw_h (lo := lo) (hi := hi) hb hc eb
  unfold wY_meet_46
  rw [va, vb]
  refine ⟨ia, ib, pk_le (hi (2 * b + c)) (hi (2 * a + c)) (fun z => ⟨ib, ?_⟩) (fun z => ⟨ia, ?_⟩)⟩
  · refine pk_lt (hi (2 * b + c)) v (fun w => ?_) (fun w => ?_)
    · exact xw_f h (by rw [decide_eq_false (p := v ≤ hi (2 * b + c)) (by omega), Bool.and_false])
    · exact xw_t h (by rw [decide_eq_true (p := v ≤ hi (2 * a + c)) (by omega), decide_eq_true (by omega), Bool.true_and])
  · refine pk_lt (hi (2 * a + c)) v (fun w => ?_) (fun w => ?_)
    · exact xw_f h (by rw [decide_eq_false (p := v ≤ hi (2 * a + c)) (by omega), Bool.false_and])
    · exact xw_t h (by rw [decide_eq_true (p := v ≤ hi (2 * a + c)) (by omega), decide_eq_true (by omega), Bool.true_and])
theorem yw_meet {post : Int32 → Prop} {lo hi : Nat → Nat} {at' ab : Nat → Int32} {a b c : Nat} {p : Int32} (g : sp_G lo hi) (ha : a < 10) (hb : b < 10) (hc : c < 2) (hp : p = nI (2 * c)) (h : post (sp_b (sp_sm lo hi a b c))) : wpY_meet post (at', sp_E lo hi, ab) (nI a) (nI b) p := by
  have ga := g (2 * a + c)
  have gb := g (2 * b + c)
  have ea : (4 : Int32) * nI a + p = nI (4 * a + 2 * c) := by rw [hp, sp_i4]
  have eb : (4 : Int32) * nI b + p = nI (4 * b + 2 * c) := by rw [hp, sp_i4]
  obtain ⟨ia, va⟩ := yw_l (lo := lo) (hi := hi) ha hc ea
  obtain ⟨ib, vb⟩ := yw_l (lo := lo) (hi := hi) hb hc eb
  unfold wpY_meet
  dsimp only
  rw [va, vb]
  refine ⟨ia, ib, pk_le (lo (2 * a + c)) (lo (2 * b + c)) (fun z => ⟨ib, yw_meet46 g ha hb hc hp (by omega) ?_⟩) (fun z => ⟨ia, yw_meet46 g ha hb hc hp (by omega) ?_⟩)⟩
  · have e : (decide (lo (2 * b + c) ≤ hi (2 * a + c)) && decide (lo (2 * b + c) ≤ hi (2 * b + c))) = sp_sm lo hi a b c := by
      unfold sp_sm
      rw [Bool.eq_iff_iff]
      simp only [Bool.and_eq_true, decide_eq_true_eq]
      omega
    rw [e]; exact h
  · have e : (decide (lo (2 * a + c) ≤ hi (2 * a + c)) && decide (lo (2 * a + c) ≤ hi (2 * b + c))) = sp_sm lo hi a b c := by
      unfold sp_sm
      rw [Bool.eq_iff_iff]
      simp only [Bool.and_eq_true, decide_eq_true_eq]
      omega
    rw [e]; exact h
theorem yw_overlap {post : Int32 → Prop} {t : Nat → Bool} {lo hi : Nat → Nat} {ab : Nat → Int32} {a b : Nat} (g : sp_G lo hi) (ha : a < 10) (hb : b < 10) (h : post (sp_b (sp_ov t lo hi a b))) : wpY_overlap post (sp_B t, sp_E lo hi, ab) (nI a) (nI b) := by
  by_cases e : a = b
  · subst e
    exact br_t rfl (xw_f h (sp_ov_s t lo hi a))
  · refine br_f (fun z => e ((nI_eq (by omega) (by omega)).mp z)) ⟨vp_in_nI ha (by decide), ?_⟩
    rw [yw_B ha]
    refine xw_bb (fun ta => ?_) (fun ta => ⟨vp_in_nI hb (by decide), ?_⟩)
    · exact xw_f h (by simp [sp_ov, ta])
    rw [yw_B hb]
    refine xw_bb (fun tb => ?_) (fun tb => ?_)
    · exact xw_f h (by simp [sp_ov, tb])
    refine yw_meet (c := 0) g ha hb (by decide) rfl (xw_bb (fun s0 => ?_) (fun s0 => ?_))
    · exact xw_f h (by simp [sp_ov, s0])
    refine yw_meet (c := 1) g ha hb (by decide) rfl (xw_bb (fun s1 => ?_) (fun s1 => ?_))
    · exact xw_f h (by simp [sp_ov, s1])
    · exact xw_t h (by simp [sp_ov, e, ta, tb, s0, s1])
/-! the hundred cells -/
theorem sp_100 {i : Nat} (h : i < 100) : ¬ (100 : Int32) ≤ nI i := nI_ge (b := 100) h (by decide)
theorem sp_100e : (100 : Int32) ≤ nI 100 := nI_le (a := 100) (Nat.le_refl 100) (by decide)
theorem sp_d10 {w : Nat} (h : w < 100) : nI w / (10 : Int32) = nI (w / 10) := pk_div (d := 10) (by omega) (by decide) (by decide)
theorem sp_r10 {w : Nat} (h : w < 100) : nI w - nI w / (10 : Int32) * 10 = nI (w % 10) := pk_rem (d := 10) (by omega) (by decide) (by decide)
def sp_K (t : Nat → Bool) (lo hi : Nat → Nat) (ab : Nat → Int32) : Prop := ∀ c, c < 100 → ab c = sp_b (sp_ov t lo hi (c / 10) (c % 10))
theorem yw_keep {post : SY → Prop} {t : Nat → Bool} {lo hi : Nat → Nat} {ab : Nat → Int32} (g : sp_G lo hi) (h : ∀ ab', sp_K t lo hi ab' → post (sp_B t, sp_E lo hi, ab')) : wpY_keep post (sp_B t, sp_E lo hi, ab) := by
  have l : ∀ d i ab, i + d = 100 → (∀ c, c < i → ab c = sp_b (sp_ov t lo hi (c / 10) (c % 10))) → wY_keep_2 post (d + 1) (nI i) (sp_B t) (sp_E lo hi) ab := by
    intro d
    induction d with
    | zero =>
      intro i ab e hab
      obtain rfl : i = 100 := by omega
      exact br_t sp_100e (h ab hab)
    | succ d ih =>
      intro i ab e hab
      have h100 : i < 100 := by omega
      refine br_f (sp_100 h100) ⟨by decide, by decide, ?_⟩
      rw [sp_r10 h100, sp_d10 h100]
      refine yw_overlap g (by omega) (by omega) ⟨vp_in_nI h100 (by decide), nm_e (nm_r (nI_1 i) (ih (i + 1) _ (by omega) ?_))⟩
      intro c hc
      rw [nI_clamp (by omega), sp_nar]
      by_cases z : c = i
      · subst z; rw [pk_us]
      · rw [pk_un z]; exact hab c (by omega)
  show ∃ n, wY_keep_2 post n 0 (sp_B t) (sp_E lo hi) ab
  exact ⟨101, l 100 0 ab rfl (fun c hc => absurd hc (by omega))⟩
theorem sp_beq {x y : Bool} {A B : Prop} (f : (x ^^ y) = false → A) (g : (x ^^ y) = true → B) : (sp_b x = sp_b y → A) ∧ (¬ sp_b x = sp_b y → B) := by
  cases x <;> cases y
  · exact br_t rfl (f rfl)
  · exact br_f (by decide) (g rfl)
  · exact br_f (by decide) (g rfl)
  · exact br_t rfl (f rfl)
theorem yw_changed {post : Int32 → Prop} {t s : Nat → Bool} {lo hi l h' : Nat → Nat} {ab : Nat → Int32} (g : sp_G lo hi) (K : sp_K s l h' ab) (h : post (nI (sp_ct (sp_q (fun a b => sp_ov s l h' a b ^^ sp_ov t lo hi a b)) 100))) : wpY_changed post (sp_B t, sp_E lo hi, ab) := by
  have w : ∀ d i, i + d = 100 → wY_changed_4 post (sp_B t) (sp_E lo hi) ab (d + 1) (nI (sp_ct (sp_q (fun a b => sp_ov s l h' a b ^^ sp_ov t lo hi a b)) i)) (nI i) := by
    intro d
    induction d with
    | zero =>
      intro i e
      obtain rfl : i = 100 := by omega
      exact br_t sp_100e h
    | succ d ih =>
      intro i e
      have j := ih (i + 1) (by omega)
      have h100 : i < 100 := by omega
      refine br_f (sp_100 h100) ⟨by decide, by decide, ?_⟩
      rw [sp_r10 h100, sp_d10 h100]
      refine pk_le (i % 10) (i / 10) (fun z => ?_) (fun z => ⟨vp_in_nI h100 (by decide), by decide, by decide, yw_overlap g (by omega) (by omega) ?_⟩)
      · rw [sp_ct_f (show sp_q _ i = false by unfold sp_q; rw [decide_eq_false (by omega), Bool.false_and])] at j
        exact nm_r (nI_1 i) j
      · rw [nI_clamp (by omega), K i h100]
        refine sp_beq (fun y => ?_) (fun y => ?_)
        · rw [sp_ct_f (show sp_q _ i = false by unfold sp_q; dsimp only; rw [y, Bool.and_false])] at j
          exact nm_r (nI_1 i) j
        · rw [sp_ct_t (show sp_q _ i = true by unfold sp_q; dsimp only; rw [y, Bool.and_true, decide_eq_true z])] at j
          exact nm_r (nI_1 _) (nm_r (nI_1 i) j)
  show ∃ n, wY_changed_4 post (sp_B t) (sp_E lo hi) ab n 0 0
  exact ⟨101, w 100 0 rfl⟩
theorem yw_lay {post : SY → Prop} {t : Nat → Bool} {lo hi : Nat → Nat} {ab : Nat → Int32} {k x0 x1 y0 y1 : Nat} (hk : k < 10) (h : post (sp_B (sp_up t k true), sp_E (sp_up (sp_up lo (2 * k + 0) x0) (2 * k + 1) y0) (sp_up (sp_up hi (2 * k + 0) x1) (2 * k + 1) y1), ab)) : wpY_lay post (sp_B t, sp_E lo hi, ab) (nI k) (nI x0) (nI x1) (nI y0) (nI y1) := by
  have e1 : (4 : Int32) * nI k + 1 = nI (4 * k + 1) := sp_i4 k 1
  have e2 : (4 : Int32) * nI k + 2 = nI (4 * k + 2) := sp_i4 k 2
  have e3 : (4 : Int32) * nI k + 3 = nI (4 * k + 3) := sp_i4 k 3
  have c0 : (nI (4 * k)).toNatClampNeg = 2 * (2 * k + 0) := by rw [nI_clamp (by omega)]; omega
  have c1 : (nI (4 * k + 1)).toNatClampNeg = 2 * (2 * k + 0) + 1 := by rw [nI_clamp (by omega)]; omega
  have c2 : (nI (4 * k + 2)).toNatClampNeg = 2 * (2 * k + 1) := by rw [nI_clamp (by omega)]; omega
  have c3 : (nI (4 * k + 3)).toNatClampNeg = 2 * (2 * k + 1) + 1 := by rw [nI_clamp (by omega)]; omega
  unfold wpY_lay
  dsimp only
  rw [e1, e2, e3, sp_j4, c0, c1, c2, c3, nI_clamp (n := k) (by omega)]
  refine ⟨vp_in_nI hk (by decide), nm_r (sp_B_u t k true) ⟨vp_in_nI (by omega) (by decide), nm_r (sp_E_ul _ _ _ _) ⟨vp_in_nI (by omega) (by decide), nm_r (sp_E_uh _ _ _ _) ⟨vp_in_nI (by omega) (by decide), nm_r (sp_E_ul _ _ _ _) ⟨vp_in_nI (by omega) (by decide), nm_r (sp_E_uh _ _ _ _) h⟩⟩⟩⟩⟩
theorem yw_span_y {post : Int32 → Prop} {u : SY} {w : Nat} (hw : w < 10000) (hs : w % 100 ≤ w / 100) (h : post 1) : wpY_span post u (nI w) := by
  obtain ⟨f, al, ah⟩ := u
  exact br_f (nI_pos (by omega)) (br_f (nI_nlt (a := 9999) (by omega) (by decide)) ⟨by decide, by decide, pk_lt (w / 100) (w % 100) (fun z => absurd hs (by omega)) (fun _ => h) (sp_d100 hw) (sp_r100 hw)⟩)
theorem yw_span_n {post : Int32 → Prop} {u : SY} {x : Int32} (hx : ¬ sp_Sp x) (h : post 0) : wpY_span post u x := by
  obtain ⟨f, al, ah⟩ := u
  rcases pk_ix x (n := 10000) (by decide) with z | z | ⟨w, hw, rfl⟩
  · exact br_t z h
  · exact br_f (Int32.not_lt.mpr (Int32.le_trans (by decide) z)) (br_t (Int32.lt_of_lt_of_le (by decide) z) h)
  · exact br_f (nI_pos (by omega)) (br_f (nI_nlt (a := 9999) (by omega) (by decide)) ⟨by decide, by decide, pk_lt (w / 100) (w % 100) (fun _ => h) (fun z => absurd ⟨w, hw, z, rfl⟩ hx) (sp_d100 hw) (sp_r100 hw)⟩)
theorem sp_l64 (a b : Int32) : (a.toInt64 + b.toInt64).toInt = a.toInt + b.toInt := by
  have ha := Int32.toInt_lt a
  have hb := Int32.toInt_lt b
  have ha' := Int32.le_toInt a
  have hb' := Int32.le_toInt b
  rw [Int64.toInt_add, Int32.toInt_toInt64, Int32.toInt_toInt64]
  exact Int.bmod_eq_of_le (by omega) (by omega)
theorem yw_stays {post : Int32 → Prop} {at' ab : Nat → Int32} {lo hi : Nat → Nat} {k c : Nat} {p d : Int32} (g : sp_G lo hi) (hk : k < 10) (hc : c < 2) (hp : p = nI (2 * c)) (h : post (sp_b (sp_st lo hi k c d))) : wpY_stays post (at', sp_E lo hi, ab) (nI k) p d := by
  have gj := g (2 * k + c)
  have ea : (4 : Int32) * nI k + p = nI (4 * k + 2 * c) := by rw [hp, sp_i4]
  have eb : (4 : Int32) * nI k + p + 1 = nI (4 * k + 2 * c + 1) := by rw [ea, nI_1]
  obtain ⟨ia, va⟩ := yw_l (lo := lo) (hi := hi) hk hc ea
  obtain ⟨ib, vb⟩ := yw_h (lo := lo) (hi := hi) hk hc eb
  unfold wpY_stays
  dsimp only
  rw [va, vb]
  have e1 : (nI (lo (2 * k + c))).toInt64 + d.toInt64 < 0 ↔ ¬ 0 ≤ (lo (2 * k + c) : Int) + d.toInt := by
    rw [Int64.lt_iff_toInt_lt, sp_l64, nI_toInt (by omega), show (0 : Int64).toInt = 0 from by decide]
    omega
  have e2 : 99 < (nI (hi (2 * k + c))).toInt64 + d.toInt64 ↔ ¬ (hi (2 * k + c) : Int) + d.toInt ≤ 99 := by
    rw [Int64.lt_iff_toInt_lt, sp_l64, nI_toInt (by omega), show (99 : Int64).toInt = 99 from by decide]
    omega
  refine ⟨ia, br_c (fun z => ?_) (fun z => ⟨ib, br_c (fun w => ?_) (fun w => ?_)⟩)⟩
  · exact xw_f h (by unfold sp_st; rw [decide_eq_false (e1.mp z), Bool.false_and])
  · exact xw_f h (by unfold sp_st; rw [decide_eq_false (e2.mp w), Bool.and_false])
  · have a : 0 ≤ (lo (2 * k + c) : Int) + d.toInt := by rw [e1] at z; omega
    have b : (hi (2 * k + c) : Int) + d.toInt ≤ 99 := by rw [e2] at w; omega
    exact xw_t h (by unfold sp_st; rw [decide_eq_true a, decide_eq_true b, Bool.true_and])
