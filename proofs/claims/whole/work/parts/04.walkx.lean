/-! the component's walks over the picture: f_there is the mask of t, the arrays are nI of lo, hi -/
def sp_L (lo : Nat → Nat) : Nat → Int32 := fun j => nI (lo j)
theorem sp_L_up (lo : Nat → Nat) (j v : Nat) : upd (sp_L lo) j (nI v) = sp_L (sp_up lo j v) := by
  funext i
  show (if i = j then nI v else nI (lo i)) = nI (if i = j then v else lo i)
  by_cases h : i = j
  · rw [if_pos h, if_pos h]
  · rw [if_neg h, if_neg h]
theorem xw_bb {x : Bool} {A B : Prop} (f : x = false → A) (g : x = true → B) : (sp_b x = 0 → A) ∧ (¬ sp_b x = 0 → B) := by
  cases x with
  | true => exact br_f (by decide) (g rfl)
  | false => exact br_t rfl (f rfl)
theorem xw_b1 {x : Bool} {A B : Prop} (f : x = true → A) (g : x = false → B) : (sp_b x = 1 → A) ∧ (¬ sp_b x = 1 → B) := by
  cases x with
  | true => exact br_t rfl (f rfl)
  | false => exact br_f (by decide) (g rfl)
theorem xw_f {P : Int32 → Prop} {x : Bool} (h : P (sp_b x)) (e : x = false) : P 0 := by rw [e] at h; exact h
theorem xw_t {P : Int32 → Prop} {x : Bool} (h : P (sp_b x)) (e : x = true) : P 1 := by rw [e] at h; exact h
theorem sp_ix (a c : Nat) : (2 : Int32) * nI a + nI c = nI (2 * a + c) := by
  rw [show (2 : Int32) = nI 2 from rfl, pk_mul, nI_add]
theorem sp_10 {i : Nat} (h : i < 10) : ¬ (10 : Int32) ≤ nI i := nI_ge (b := 10) h (by decide)
theorem sp_10e : (10 : Int32) ≤ nI 10 := nI_le (a := 10) (Nat.le_refl 10) (by decide)
theorem sp_isb (t : Nat → Bool) {k : Nat} (hk : k < 10) : ((sp_mk t 10 >>> (nI k &&& 31)) &&& 1) = sp_b (t k) := by
  rw [sp_bit _ (by omega), sp_mk_bt _ 10 (by decide) k (by omega), decide_eq_true hk, Bool.true_and]
theorem xw_isThere {post : Int32 → Prop} {t : Nat → Bool} {al ah : Nat → Int32} {k : Nat} (hk : k < 10) (h : post (sp_b (t k))) : wpX_isThere post (sp_mk t 10, al, ah) (nI k) := by
  refine br_f (nI_pos (by omega)) (br_f (sp_10 hk) ?_)
  rw [sp_isb t hk]
  exact xw_b1 (fun z => by rw [z] at h; exact h) (fun z => by rw [z] at h; exact h)
theorem xw_isThere0 {post : Int32 → Prop} {u : SX} {x : Int32} (hx : x < 0 ∨ nI 10 ≤ x) (h : post 0) : wpX_isThere post u x := by
  obtain ⟨f, al, ah⟩ := u
  rcases hx with hx | hx
  · exact br_t hx h
  · exact br_f (Int32.not_lt.mpr (Int32.le_trans (by decide) hx)) (br_t hx h)
theorem xw_spansMeet {post : Int32 → Prop} {f : Int32} {lo hi : Nat → Nat} {a b c : Nat} (g : sp_G lo hi) (ha : a < 10) (hb : b < 10) (hc : c < 2) (h : post (sp_b (sp_sm lo hi a b c))) : wpX_spansMeet post (f, sp_L lo, sp_L hi) (nI a) (nI b) (nI c) := by
  have ga := g (2 * a + c)
  have gb := g (2 * b + c)
  have ia : vp_in (nI (2 * a + c)) 20 := vp_in_nI (by omega) (by decide)
  have ib : vp_in (nI (2 * b + c)) 20 := vp_in_nI (by omega) (by decide)
  unfold wpX_spansMeet
  dsimp only
  rw [sp_ix a c, sp_ix b c, nI_clamp (n := 2 * a + c) (by omega), nI_clamp (n := 2 * b + c) (by omega)]
  refine ⟨ia, ib, pk_lt (hi (2 * b + c)) (lo (2 * a + c)) (fun z => ?_) (fun z => ⟨ib, ia, pk_lt (hi (2 * a + c)) (lo (2 * b + c)) (fun w => ?_) (fun w => ?_)⟩)⟩
  · exact xw_f h (by unfold sp_sm; rw [decide_eq_false (by omega), Bool.false_and])
  · exact xw_f h (by unfold sp_sm; rw [decide_eq_false (p := lo (2 * b + c) ≤ hi (2 * a + c)) (by omega), Bool.and_false])
  · exact xw_t h (by unfold sp_sm; rw [decide_eq_true (by omega), decide_eq_true (by omega), Bool.true_and])
theorem xw_overlap {post : Int32 → Prop} {t : Nat → Bool} {lo hi : Nat → Nat} {a b : Nat} (g : sp_G lo hi) (ha : a < 10) (hb : b < 10) (h : post (sp_b (sp_ov t lo hi a b))) : wpX_overlap post (sp_mk t 10, sp_L lo, sp_L hi) (nI a) (nI b) := by
  by_cases e : a = b
  · subst e
    exact br_t rfl (xw_f h (sp_ov_s t lo hi a))
  · refine br_f (fun z => e ((nI_eq (by omega) (by omega)).mp z)) ?_
    refine xw_isThere ha (xw_bb (fun ta => ?_) (fun ta => ?_))
    · exact xw_f h (by simp [sp_ov, ta])
    refine xw_isThere hb (xw_bb (fun tb => ?_) (fun tb => ?_))
    · exact xw_f h (by simp [sp_ov, tb])
    refine xw_spansMeet (c := 0) g ha hb (by decide) (xw_bb (fun s0 => ?_) (fun s0 => ?_))
    · exact xw_f h (by simp [sp_ov, s0])
    refine xw_spansMeet (c := 1) g ha hb (by decide) (xw_bb (fun s1 => ?_) (fun s1 => ?_))
    · exact xw_f h (by simp [sp_ov, s1])
    · exact xw_t h (by simp [sp_ov, e, ta, tb, s0, s1])
theorem xw_overlap0 {post : Int32 → Prop} {u : SX} {x y : Int32} (hx : x < 0 ∨ nI 10 ≤ x) (h : post 0) : wpX_overlap post u x y := by
  obtain ⟨f, al, ah⟩ := u
  exact br_c (fun _ => h) (fun _ => xw_isThere0 hx (br_t rfl h))
theorem xw_partners_l {post : Int32 → Prop} {t : Nat → Bool} {lo hi : Nat → Nat} {k : Nat} (g : sp_G lo hi) (hk : k < 10) (h : post (sp_mk (sp_ov t lo hi k) 10)) : ∀ d i, i + d = 10 → wX_partners_4 post (nI k) (sp_mk t 10) (sp_L lo) (sp_L hi) (d + 1) (sp_mk (sp_ov t lo hi k) i) (nI i) := by
  intro d
  induction d with
  | zero =>
    intro i e
    obtain rfl : i = 10 := by omega
    exact br_t sp_10e h
  | succ d ih =>
    intro i e
    have j := ih (i + 1) (by omega)
    refine br_f (sp_10 (by omega)) (xw_overlap g hk (by omega) (xw_bb (fun z => ?_) (fun z => ?_)))
    · rw [sp_mk_f z] at j
      exact nm_r (nI_1 i) j
    · rw [sp_mk_t z] at j
      exact nm_e (nm_r (nI_1 i) j)
theorem xw_partners {post : Int32 → Prop} {t : Nat → Bool} {lo hi : Nat → Nat} {k : Nat} (g : sp_G lo hi) (hk : k < 10) (h : post (sp_mk (sp_ov t lo hi k) 10)) : wpX_partners post (sp_mk t 10, sp_L lo, sp_L hi) (nI k) := by
  show ∃ n, wX_partners_4 post (nI k) (sp_mk t 10) (sp_L lo) (sp_L hi) n 0 0
  exact ⟨11, xw_partners_l g hk h 10 0 rfl⟩
theorem xw_partners0 {post : Int32 → Prop} {u : SX} {x : Int32} (hx : x < 0 ∨ nI 10 ≤ x) (h : post 0) : wpX_partners post u x := by
  obtain ⟨f, al, ah⟩ := u
  have l : ∀ d i, i + d = 10 → wX_partners_4 post x f al ah (d + 1) 0 (nI i) := by
    intro d
    induction d with
    | zero =>
      intro i e
      obtain rfl : i = 10 := by omega
      exact br_t sp_10e h
    | succ d ih =>
      intro i e
      exact br_f (sp_10 (by omega)) (xw_overlap0 hx (br_t rfl (nm_r (nI_1 i) (ih (i + 1) (by omega)))))
  show ∃ n, wX_partners_4 post x f al ah n 0 0
  exact ⟨11, l 10 0 rfl⟩
theorem sp_cb (p : Nat → Bool) {i : Nat} (h : i < 10) : nI (sp_ct p i) + ((sp_mk p 10 >>> (nI i &&& 31)) &&& 1) = nI (sp_ct p (i + 1)) := by
  rw [sp_isb p h]
  cases e : p i with
  | true => rw [sp_ct_t e, ← nI_1]; rfl
  | false => rw [sp_ct_f e]; exact Int32.add_zero _
theorem xw_countBits {post : Int32 → Prop} {f : Int32} {al ah : Nat → Int32} {p : Nat → Bool} (h : post (nI (sp_ct p 10))) : wpX_countBits post (f, al, ah) (sp_mk p 10) := by
  have l : ∀ d i, i + d = 10 → wX_countBits_4 post (sp_mk p 10) f al ah (d + 1) (nI (sp_ct p i)) (nI i) := by
    intro d
    induction d with
    | zero =>
      intro i e
      obtain rfl : i = 10 := by omega
      exact br_t sp_10e h
    | succ d ih =>
      intro i e
      exact br_f (sp_10 (by omega)) (nm_r (sp_cb p (by omega)) (nm_r (nI_1 i) (ih (i + 1) (by omega))))
  show ∃ n, wX_countBits_4 post (sp_mk p 10) f al ah n 0 0
  exact ⟨11, l 10 0 rfl⟩
theorem xw_changes {post : Int32 → Prop} {t : Nat → Bool} {lo hi : Nat → Nat} {k : Nat} {p : Nat → Bool} (g : sp_G lo hi) (hk : k < 10) (h : post (nI (sp_ct (fun j => p j ^^ sp_ov t lo hi k j) 10))) : wpX_changesSince post (sp_mk t 10, sp_L lo, sp_L hi) (sp_mk p 10) (nI k) := by
  unfold wpX_changesSince
  dsimp only
  refine xw_partners g hk ?_
  rw [sp_mk_xor]
  exact xw_countBits h
/-! spans -/
theorem sp_d100 {w : Nat} (h : w < 10000) : nI w / (100 : Int32) = nI (w / 100) := pk_div (d := 100) (by omega) (by decide) (by decide)
theorem sp_r100 {w : Nat} (h : w < 10000) : nI w - nI w / (100 : Int32) * 100 = nI (w % 100) := pk_rem (d := 100) (by omega) (by decide) (by decide)
def sp_Sp (x : Int32) : Prop := ∃ w, w < 10000 ∧ w % 100 ≤ w / 100 ∧ x = nI w
theorem xw_isSpan_y {post : Int32 → Prop} {u : SX} {w : Nat} (hw : w < 10000) (hs : w % 100 ≤ w / 100) (h : post 1) : wpX_isSpan post u (nI w) := by
  obtain ⟨f, al, ah⟩ := u
  exact br_f (nI_pos (by omega)) (br_f (nI_ge (b := 10000) hw (by decide)) ⟨by decide, by decide, pk_lt (w / 100) (w % 100) (fun z => absurd hs (by omega)) (fun _ => h) (sp_d100 hw) (sp_r100 hw)⟩)
theorem xw_isSpan_n {post : Int32 → Prop} {u : SX} {x : Int32} (hx : ¬ sp_Sp x) (h : post 0) : wpX_isSpan post u x := by
  obtain ⟨f, al, ah⟩ := u
  rcases pk_ix x (n := 10000) (by decide) with z | z | ⟨w, hw, rfl⟩
  · exact br_t z h
  · exact br_f (Int32.not_lt.mpr (Int32.le_trans (by decide) z)) (br_t z h)
  · exact br_f (nI_pos (by omega)) (br_f (nI_ge (b := 10000) hw (by decide)) ⟨by decide, by decide, pk_lt (w / 100) (w % 100) (fun _ => h) (fun z => absurd ⟨w, hw, z, rfl⟩ hx) (sp_d100 hw) (sp_r100 hw)⟩)
theorem xw_setSpan {post : SX → Prop} {f : Int32} {lo hi : Nat → Nat} {k c w : Nat} (hk : k < 10) (hc : c < 2) (hw : w < 10000) (h : post (f, sp_L (sp_up lo (2 * k + c) (w % 100)), sp_L (sp_up hi (2 * k + c) (w / 100)))) : wpX_setSpan post (f, sp_L lo, sp_L hi) (nI k) (nI c) (nI w) := by
  have i : vp_in ((2 : Int32) * nI k + nI c) 20 := by rw [sp_ix]; exact vp_in_nI (by omega) (by decide)
  have ic : ((2 : Int32) * nI k + nI c).toNatClampNeg = 2 * k + c := by rw [sp_ix]; exact nI_clamp (by omega)
  refine ⟨by decide, i, nm_r (e' := sp_L (sp_up lo (2 * k + c) (w % 100))) ?_ ⟨by decide, i, nm_r (e' := sp_L (sp_up hi (2 * k + c) (w / 100))) ?_ h⟩⟩
  · rw [ic, sp_r100 hw, sp_L_up]
  · rw [ic, sp_d100 hw, sp_L_up]
/-! moves -/
def sp_st (lo hi : Nat → Nat) (k c : Nat) (d : Int32) : Bool := decide (0 ≤ (lo (2 * k + c) : Int) + d.toInt) && decide ((hi (2 * k + c) : Int) + d.toInt ≤ 99)
theorem xw_stays {post : Int32 → Prop} {f : Int32} {lo hi : Nat → Nat} {k c : Nat} {d : Int32} (g : sp_G lo hi) (hk : k < 10) (hc : c < 2) (h : post (sp_b (sp_st lo hi k c d))) : wpX_staysInside post (f, sp_L lo, sp_L hi) (nI k) (nI c) d := by
  have gj := g (2 * k + c)
  have i : vp_in (nI (2 * k + c)) 20 := vp_in_nI (by omega) (by decide)
  unfold wpX_staysInside
  dsimp only
  rw [sp_ix k c, nI_clamp (n := 2 * k + c) (by omega)]
  have e1 : d < -(sp_L lo (2 * k + c)) ↔ ¬ 0 ≤ (lo (2 * k + c) : Int) + d.toInt := by
    show d < -(nI (lo (2 * k + c))) ↔ _
    rw [Int32.lt_iff_toInt_lt, sb_negT (by omega)]
    omega
  have e2 : 99 - sp_L hi (2 * k + c) < d ↔ ¬ (hi (2 * k + c) : Int) + d.toInt ≤ 99 := by
    show nI 99 - nI (hi (2 * k + c)) < d ↔ _
    rw [Int32.lt_iff_toInt_lt, pk_sub_toInt (by omega) (by omega)]
    omega
  refine ⟨i, br_c (fun z => ?_) (fun z => ⟨i, br_c (fun w => ?_) (fun w => ?_)⟩)⟩
  · exact xw_f h (by unfold sp_st; rw [decide_eq_false (e1.mp z), Bool.false_and])
  · exact xw_f h (by unfold sp_st; rw [decide_eq_false (e2.mp w), Bool.and_false])
  · have a : 0 ≤ (lo (2 * k + c) : Int) + d.toInt := by rw [e1] at z; omega
    have b : (hi (2 * k + c) : Int) + d.toInt ≤ 99 := by rw [e2] at w; omega
    exact xw_t h (by unfold sp_st; rw [decide_eq_true a, decide_eq_true b, Bool.true_and])
theorem sp_addD {n : Nat} {d : Int32} (h0 : 0 ≤ (n : Int) + d.toInt) (h1 : (n : Int) + d.toInt ≤ 99) (hn : n < 100) : nI n + d = nI ((n : Int) + d.toInt).toNat := by
  apply Int32.toInt_inj.mp
  rw [Int32.toInt_add, nI_toInt (by omega), nI_toInt (by omega), Int.toNat_of_nonneg h0]
  exact Int.bmod_eq_of_le (by omega) (by omega)
theorem xw_shift {post : SX → Prop} {f : Int32} {lo hi : Nat → Nat} {k c v w : Nat} {d : Int32} (hk : k < 10) (hc : c < 2) (e1 : nI (lo (2 * k + c)) + d = nI v) (e2 : nI (hi (2 * k + c)) + d = nI w) (h : post (f, sp_L (sp_up lo (2 * k + c) v), sp_L (sp_up hi (2 * k + c) w))) : wpX_shift post (f, sp_L lo, sp_L hi) (nI k) (nI c) d := by
  have i : vp_in ((2 : Int32) * nI k + nI c) 20 := by rw [sp_ix]; exact vp_in_nI (by omega) (by decide)
  have ic : ((2 : Int32) * nI k + nI c).toNatClampNeg = 2 * k + c := by rw [sp_ix]; exact nI_clamp (by omega)
  refine ⟨i, i, nm_r (e' := sp_L (sp_up lo (2 * k + c) v)) ?_ ⟨i, i, nm_r (e' := sp_L (sp_up hi (2 * k + c) w)) ?_ h⟩⟩
  · rw [ic, show sp_L lo (2 * k + c) + d = nI v from e1, sp_L_up]
  · rw [ic, show sp_L hi (2 * k + c) + d = nI w from e2, sp_L_up]
/-! pairs -/
theorem xw_pairs_in {post : Int32 → Prop} {J4 : Int32 → Int32 → Prop} {t : Nat → Bool} {lo hi : Nat → Nat} {a : Nat} (g : sp_G lo hi) (ha : a < 10) (hJ : J4 (nI (sp_ct (sp_q (sp_ov t lo hi)) (10 * a + 10))) (nI (a + 1))) : ∀ d b, a < b → b + d = 10 → wX_pairs_14 post J4 (nI a) (sp_mk t 10) (sp_L lo) (sp_L hi) (d + 1) (nI (sp_ct (sp_q (sp_ov t lo hi)) (10 * a + b))) (nI b) := by
  intro d
  induction d with
  | zero =>
    intro b hab e
    obtain rfl : b = 10 := by omega
    exact br_t sp_10e (nm_r (nI_1 a) hJ)
  | succ d ih =>
    intro b hab e
    have j := ih (b + 1) (by omega) (by omega)
    have q := sp_q_row (sp_ov t lo hi) (a := a) (b := b) (by omega)
    rw [decide_eq_true hab, Bool.true_and] at q
    refine br_f (sp_10 (by omega)) (xw_overlap g ha (by omega) (xw_bb (fun z => ?_) (fun z => ?_)))
    · rw [show 10 * a + (b + 1) = 10 * a + b + 1 from rfl, sp_ct_f (q.trans z)] at j
      exact nm_r (nI_1 b) j
    · rw [show 10 * a + (b + 1) = 10 * a + b + 1 from rfl, sp_ct_t (q.trans z)] at j
      exact nm_r (nI_1 _) (nm_r (nI_1 b) j)
theorem xw_pairs {post : Int32 → Prop} {t : Nat → Bool} {lo hi : Nat → Nat} (g : sp_G lo hi) (h : post (nI (sp_ct (sp_q (sp_ov t lo hi)) 100))) : wpX_pairs post (sp_mk t 10, sp_L lo, sp_L hi) := by
  have l : ∀ d a, a + d = 10 → wX_pairs_4 post (sp_mk t 10) (sp_L lo) (sp_L hi) (d + 1) (nI (sp_ct (sp_q (sp_ov t lo hi)) (10 * a))) (nI a) := by
    intro d
    induction d with
    | zero =>
      intro a e
      obtain rfl : a = 10 := by omega
      exact br_t sp_10e h
    | succ d ih =>
      intro a e
      have j := xw_pairs_in (post := post) (t := t) g (show a < 10 by omega) (ih (a + 1) (by omega)) (10 - (a + 1)) (a + 1) (by omega) (by omega)
      rw [sp_row0 _ (by omega) (a + 1) (by omega) (by omega)] at j
      exact br_f (sp_10 (by omega)) (nm_r (nI_1 a) ⟨_, j⟩)
  show ∃ n, wX_pairs_4 post (sp_mk t 10) (sp_L lo) (sp_L hi) n 0 0
  exact ⟨11, l 10 0 rfl⟩
theorem sp_ten (a b : Nat) : (10 : Int32) * nI a + nI b = nI (10 * a + b) := by
  rw [show (10 : Int32) = nI 10 from rfl, pk_mul, nI_add]
theorem xw_pair_in {post : Int32 → Prop} {J4 : Int32 → Int32 → Prop} {t : Nat → Bool} {lo hi : Nat → Nat} {a f : Nat} {n : Int32} (g : sp_G lo hi) (ha : a < 10) (hJ : post (sp_pr (sp_q (sp_ov t lo hi)) n f (10 * a + 10)) → J4 (nI (sp_ct (sp_q (sp_ov t lo hi)) (10 * a + 10))) (nI (a + 1))) : ∀ d b, a < b → b + d = 10 → post (sp_pr (sp_q (sp_ov t lo hi)) n (f + d) (10 * a + b)) → wX_pair_15 post J4 n (nI a) (sp_mk t 10) (sp_L lo) (sp_L hi) (d + 1) (nI (sp_ct (sp_q (sp_ov t lo hi)) (10 * a + b))) (nI b) := by
  intro d
  induction d with
  | zero =>
    intro b hab e h
    obtain rfl : b = 10 := by omega
    exact br_t sp_10e (nm_r (nI_1 a) (hJ h))
  | succ d ih =>
    intro b hab e h
    have j := ih (b + 1) (by omega) (by omega)
    have q := sp_q_row (sp_ov t lo hi) (a := a) (b := b) (by omega)
    rw [decide_eq_true hab, Bool.true_and] at q
    rw [show f + (d + 1) = f + d + 1 from rfl] at h
    rw [show 10 * a + (b + 1) = 10 * a + b + 1 from rfl] at j
    refine br_f (sp_10 (by omega)) (xw_overlap g ha (by omega) (xw_bb (fun z => ?_) (fun z => ?_)))
    · rw [sp_pr_f (q.trans z)] at h
      have j := j h
      rw [sp_ct_f (q.trans z)] at j
      exact nm_r (nI_1 b) j
    · refine br_c (fun y => ?_) (fun y => ?_)
      · rw [sp_pr_y (q.trans z) y] at h
        rw [sp_ten]
        exact h
      · rw [sp_pr_n (q.trans z) y] at h
        have j := j h
        rw [sp_ct_t (q.trans z)] at j
        exact nm_r (nI_1 _) (nm_r (nI_1 b) j)
theorem xw_pair {post : Int32 → Prop} {t : Nat → Bool} {lo hi : Nat → Nat} {n : Int32} (g : sp_G lo hi) (h : post (sp_pr (sp_q (sp_ov t lo hi)) n 100 0)) : wpX_pair post (sp_mk t 10, sp_L lo, sp_L hi) n := by
  have l : ∀ d a, a + d = 10 → post (sp_pr (sp_q (sp_ov t lo hi)) n (10 * d) (10 * a)) → wX_pair_4 post n (sp_mk t 10) (sp_L lo) (sp_L hi) (d + 1) (nI (sp_ct (sp_q (sp_ov t lo hi)) (10 * a))) (nI a) := by
    intro d
    induction d with
    | zero =>
      intro a e h
      obtain rfl : a = 10 := by omega
      exact br_t sp_10e h
    | succ d ih =>
      intro a e h
      have r := sp_pr_row0 (sp_ov t lo hi) n (show a < 10 by omega) (a + 1) (10 * d + (10 - (a + 1))) (by omega) (by omega)
      rw [show 10 * d + (10 - (a + 1)) + (a + 1) = 10 * (d + 1) from by omega] at r
      rw [r] at h
      have j := xw_pair_in (post := post) (t := t) (n := n) (f := 10 * d) g (show a < 10 by omega) (ih (a + 1) (by omega)) (10 - (a + 1)) (a + 1) (by omega) (by omega) h
      rw [sp_row0 _ (by omega) (a + 1) (by omega) (by omega)] at j
      exact br_f (sp_10 (by omega)) (nm_r (nI_1 a) ⟨_, j⟩)
  show ∃ m, wX_pair_4 post n (sp_mk t 10) (sp_L lo) (sp_L hi) m 0 0
  exact ⟨11, l 10 0 rfl h⟩
