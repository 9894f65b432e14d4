/-! what a change of one box changes; the calls that ask outside the boxes -/
theorem sp_ov_off {t s : Nat → Bool} {lo hi l h : Nat → Nat} {k : Nat} (ht : ∀ a, a ≠ k → s a = t a) (hl : ∀ a c, a ≠ k → c < 2 → l (2 * a + c) = lo (2 * a + c)) (hh : ∀ a c, a ≠ k → c < 2 → h (2 * a + c) = hi (2 * a + c)) {a b : Nat} (ha : a ≠ k) (hb : b ≠ k) : sp_ov s l h a b = sp_ov t lo hi a b := by
  unfold sp_ov sp_sm
  rw [ht a ha, ht b hb, hl a 0 ha (by decide), hl b 0 hb (by decide), hl a 1 ha (by decide), hl b 1 hb (by decide), hh a 0 ha (by decide), hh b 0 hb (by decide), hh a 1 ha (by decide), hh b 1 hb (by decide)]
theorem sp_diff {t s : Nat → Bool} {lo hi l h : Nat → Nat} {k : Nat} (hk : k < 10) (ht : ∀ a, a ≠ k → s a = t a) (hl : ∀ a c, a ≠ k → c < 2 → l (2 * a + c) = lo (2 * a + c)) (hh : ∀ a c, a ≠ k → c < 2 → h (2 * a + c) = hi (2 * a + c)) : sp_ct (sp_q (fun a b => sp_ov t lo hi a b ^^ sp_ov s l h a b)) 100 = sp_ct (fun j => sp_ov t lo hi k j ^^ sp_ov s l h k j) 10 := by
  refine sp_rows (fun a b => sp_ov t lo hi a b ^^ sp_ov s l h a b) hk ?_ ?_ ?_
  · intro a b
    show (sp_ov t lo hi a b ^^ sp_ov s l h a b) = (sp_ov t lo hi b a ^^ sp_ov s l h b a)
    rw [sp_ov_c t lo hi a b, sp_ov_c s l h a b]
  · show (sp_ov t lo hi k k ^^ sp_ov s l h k k) = false
    rw [sp_ov_s, sp_ov_s]; rfl
  · intro a b ha hb
    show (sp_ov t lo hi a b ^^ sp_ov s l h a b) = false
    rw [sp_ov_off ht hl hh ha hb, Bool.xor_self]
theorem sp_up2 {f : Nat → Nat} {k v w : Nat} : ∀ a c, a ≠ k → c < 2 → sp_up (sp_up f (2 * k + 0) v) (2 * k + 1) w (2 * a + c) = f (2 * a + c) := by
  intro a c ha hc
  rw [sp_up_n (by omega), sp_up_n (by omega)]
theorem sp_G_up {lo hi : Nat → Nat} {j v w : Nat} (g : sp_G lo hi) (h1 : v ≤ w) (h2 : w < 100) : sp_G (sp_up lo j v) (sp_up hi j w) := by
  intro i
  by_cases e : i = j
  · subst e; rw [sp_up_s, sp_up_s]; exact ⟨h1, h2⟩
  · rw [sp_up_n e, sp_up_n e]; exact g i
theorem sp_up_id {t : Nat → Bool} {k : Nat} (h : t k = true) : sp_up t k true = t := by
  funext i
  by_cases e : i = k
  · subst e; rw [sp_up_s, h]
  · rw [sp_up_n e]
theorem xw_within0a {post : Int32 → Prop} {u : SX} {x y : Int32} (hx : x < 0 ∨ nI 10 ≤ x) (h : post 0) : wpX_within post u x y := by
  obtain ⟨f, al, ah⟩ := u
  exact br_c (fun _ => h) (fun _ => xw_isThere0 hx (br_t rfl h))
theorem yw_within0a {post : Int32 → Prop} {u : SY} {x y : Int32} (hx : x < 0 ∨ nI 10 ≤ x) (h : post 0) : wpY_within post u x y := by
  obtain ⟨f, al, ah⟩ := u
  exact br_c (fun _ => h) (fun _ => yw_is0 hx (br_t rfl h))
theorem xw_within0b {post : Int32 → Prop} {t : Nat → Bool} {al ah : Nat → Int32} {a : Nat} {y : Int32} (ha : a < 10) (hy : y < 0 ∨ nI 10 ≤ y) (h : post 0) : wpX_within post (sp_mk t 10, al, ah) (nI a) y :=
  br_c (fun _ => h) (fun _ => xw_isThere ha (xw_bb (fun _ => h) (fun _ => xw_isThere0 hy (br_t rfl h))))
theorem yw_within0b {post : Int32 → Prop} {t : Nat → Bool} {ae ab : Nat → Int32} {a : Nat} {y : Int32} (ha : a < 10) (hy : y < 0 ∨ nI 10 ≤ y) (h : post 0) : wpY_within post (sp_B t, ae, ab) (nI a) y :=
  br_c (fun _ => h) (fun _ => yw_is ha (xw_bb (fun _ => h) (fun _ => yw_is0 hy (br_t rfl h))))
theorem sp_out (x : Int32) : (x < 0 ∨ nI 10 ≤ x) ∨ ∃ j : Nat, j < 10 ∧ x = nI j := by
  rcases pk_ix x (n := 10) (by decide) with z | z | z
  · exact Or.inl (Or.inl z)
  · exact Or.inl (Or.inr z)
  · exact Or.inr z
theorem sp_ne {A : Prop} {x : Bool} (h1 : x = true) (h2 : x = false) : A := by
  rw [h1] at h2
  exact nomatch h2
theorem xw_rank {post : Int32 → Prop} {t : Nat → Bool} {lo hi : Nat → Nat} {k c : Nat} (g : sp_G lo hi) (hk : k < 10) (hc : c < 2) (h : post (nI (sp_ct (sp_bf t lo k c) 10))) : ∃ n : Nat, wX_rank_24 post (nI k) (nI c) (sp_mk t 10) (sp_L lo) (sp_L hi) n 0 0 := ⟨11, xw_rank_l g hk hc h 10 0 rfl⟩
theorem yw_rank {post : Int32 → Prop} {t : Nat → Bool} {lo hi : Nat → Nat} {ab : Nat → Int32} {k c : Nat} (g : sp_G lo hi) (hk : k < 10) (hc : c < 2) (h : post (nI (sp_ct (sp_bf t lo k c) 10))) : ∃ n : Nat, wY_rank_24 post (nI k) (nI c) (sp_B t) (sp_E lo hi) ab n 0 0 := ⟨11, yw_rank_l g hk hc h 10 0 rfl⟩
