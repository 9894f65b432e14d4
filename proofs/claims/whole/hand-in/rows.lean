section
/-! rows pasted from kit/rows (starting texts) -/
def bt (x : Int32) (i : Nat) : Bool := x.toBitVec.getLsbD i
theorem b_ext {x y : Int32} (h : ∀ i, i < 32 → bt x i = bt y i) : x = y := Int32.toBitVec_inj.mp (BitVec.eq_of_getLsbD_eq (fun i hi => h i hi))
theorem b_or (x y : Int32) (i : Nat) : bt (x ||| y) i = (bt x i || bt y i) := by unfold bt; rw [Int32.toBitVec_or, BitVec.getLsbD_or]
theorem b_and (x y : Int32) (i : Nat) : bt (x &&& y) i = (bt x i && bt y i) := by unfold bt; rw [Int32.toBitVec_and, BitVec.getLsbD_and]
theorem b_xor (x y : Int32) (i : Nat) : bt (x ^^^ y) i = (bt x i ^^ bt y i) := by unfold bt; rw [Int32.toBitVec_xor, BitVec.getLsbD_xor]
theorem b_big {x : Int32} {i : Nat} (h : 32 ≤ i) : bt x i = false := BitVec.getLsbD_of_ge _ _ h
theorem b_m1 : ∀ i, i < 32 → bt (-1) i = true := by decide +kernel
theorem b_0 (i : Nat) : bt 0 i = false := BitVec.getLsbD_zero
theorem s_l : ∀ n, n < 32 → ((nI n &&& 31).toBitVec.smod 32).toNat = n := by decide +kernel
theorem b_shl (n : Nat) (hn : n < 32) (x : Int32) {i : Nat} (hi : i < 32) : bt (x <<< (nI n &&& 31)) i = (decide (n ≤ i) && bt x (i - n)) := by
  unfold bt
  rw [Int32.toBitVec_shiftLeft]
  show (x.toBitVec <<< ((nI n &&& 31).toBitVec.smod 32).toNat).getLsbD i = _
  rw [s_l n hn, BitVec.getLsbD_shiftLeft]
  rcases Nat.lt_or_ge i n with h | h
  · simp [h, Nat.not_le.mpr h]
  · simp [hi, h, Nat.not_lt.mpr h]
theorem b_sshr (n : Nat) (hn : n < 32) (x : Int32) {i : Nat} (hi : i < 32) : bt (x >>> (nI n &&& 31)) i = if n + i < 32 then bt x (n + i) else bt x 31 := by
  unfold bt
  rw [Int32.toBitVec_shiftRight]
  show (x.toBitVec.sshiftRight ((nI n &&& 31).toBitVec.smod 32).toNat).getLsbD i = _
  rw [s_l n hn, BitVec.getLsbD_sshiftRight, BitVec.msb_eq_getLsbD_last]
  simp [hi]
theorem pk_us {f : Nat → Int32} {k : Nat} {x : Int32} : upd f k x k = x := if_pos rfl
theorem pk_un {f : Nat → Int32} {k j : Nat} {x : Int32} (h : j ≠ k) : upd f k x j = f j := if_neg h
theorem pk_sub {a b : Nat} (h : b ≤ a) : nI a - nI b = nI (a - b) := by
  obtain ⟨c, rfl⟩ : ∃ c, a = c + b := ⟨a - b, by omega⟩
  rw [← nI_add, Int32.add_sub_cancel, Nat.add_sub_cancel]
theorem pk_mul (a b : Nat) : nI a * nI b = nI (a * b) := (Int32.ofNat_mul a b).symm
theorem pk_div {a d : Nat} (ha : a < 2 ^ 31) (h0 : 0 < d) (hd : d < 2 ^ 31) : nI a / nI d = nI (a / d) := by
  apply Int32.toInt_inj.mp
  rw [lg_idiv_nonneg (by rw [nI_toInt ha]; omega) (by rw [nI_toInt hd]; omega), nI_toInt ha, nI_toInt hd, nI_toInt (Nat.lt_of_le_of_lt (Nat.div_le_self a d) ha)]
  first | rfl | exact (Int.natCast_ediv _ _).symm
theorem pk_rem {a d : Nat} (ha : a < 2 ^ 31) (h0 : 0 < d) (hd : d < 2 ^ 31) : nI a - nI a / nI d * nI d = nI (a % d) := by
  rw [pk_div ha h0 hd, pk_mul, pk_sub (Nat.div_mul_le_self a d)]
  exact congrArg nI (by have := Nat.div_add_mod' a d; omega)
theorem pk_sub_toInt {a b : Nat} (ha : a < 2 ^ 30) (hb : b < 2 ^ 30) : (nI a - nI b).toInt = (a : Int) - b := by
  rw [Int32.toInt_sub, nI_toInt (by omega), nI_toInt (by omega)]
  exact Int.bmod_eq_of_le (by omega) (by omega)
theorem pk_ix (x : Int32) {n : Nat} (hn : n < 2 ^ 31) : x < 0 ∨ nI n ≤ x ∨ ∃ j : Nat, j < n ∧ x = nI j := by
  by_cases h : x < 0
  · exact Or.inl h
  · obtain ⟨j, hj, rfl⟩ := nI_of h
    by_cases h2 : j < n
    · exact Or.inr (Or.inr ⟨j, h2, rfl⟩)
    · exact Or.inr (Or.inl (nI_le (by omega) hj))
theorem pk_le {x y : Int32} {A B : Prop} (a b : Nat) (f : a ≤ b → A) (g : b < a → B) (hx : x = nI a := by rfl) (hy : y = nI b := by rfl) (ha : a < 2 ^ 31 := by omega) (hb : b < 2 ^ 31 := by omega) : (x ≤ y → A) ∧ (¬ x ≤ y → B) := by
  subst hx hy
  rw [nI_leI ha hb]
  exact ⟨f, fun z => g (by omega)⟩
theorem pk_lt {x y : Int32} {A B : Prop} (a b : Nat) (f : a < b → A) (g : b ≤ a → B) (hx : x = nI a := by rfl) (hy : y = nI b := by rfl) (ha : a < 2 ^ 31 := by omega) (hb : b < 2 ^ 31 := by omega) : (x < y → A) ∧ (¬ x < y → B) := by
  subst hx hy
  rw [nI_ltI ha hb]
  exact ⟨f, fun z => g (by omega)⟩
theorem pk_eq {x y : Int32} {A B : Prop} (a b : Nat) (f : a = b → A) (g : a ≠ b → B) (hx : x = nI a := by rfl) (hy : y = nI b := by rfl) (ha : a < 2 ^ 31 := by omega) (hb : b < 2 ^ 31 := by omega) : (x = y → A) ∧ (¬ x = y → B) := by
  subst hx hy
  rw [nI_eq ha hb]
  exact ⟨f, g⟩
theorem pk_in {x : Int32} (n N : Nat) (h : n < N) (hx : x = nI n := by rfl) (hN : N < 2 ^ 31 := by omega) : vp_in x N := by
  subst hx
  exact vp_in_nI h hN
theorem pk_cl {x : Int32} (n : Nat) (hx : x = nI n := by rfl) (h : n < 2 ^ 31 := by omega) : x.toNatClampNeg = n := by
  subst hx
  exact nI_clamp h
theorem sb_negT {w : Nat} (h : w < 2 ^ 31) : (-nI w).toInt = -(w : Int) := by
  rw [Int32.toInt_neg, nI_toInt h]
  exact Int.bmod_eq_of_le (by omega) (by omega)
end
section
/-! the pure picture: sets of boxes as masks, counts, and their bits -/
def sp_b (x : Bool) : Int32 := match x with
  | true => 1
  | false => 0
def sp_mk (p : Nat → Bool) : Nat → Int32
  | 0 => 0
  | n + 1 => match p n with
    | true => sp_mk p n ||| ((1 : Int32) <<< (nI n &&& 31))
    | false => sp_mk p n
def sp_ct (p : Nat → Bool) : Nat → Nat
  | 0 => 0
  | n + 1 => match p n with
    | true => sp_ct p n + 1
    | false => sp_ct p n
def sp_up {α : Type} (f : Nat → α) (k : Nat) (x : α) : Nat → α := fun j => if j = k then x else f j
theorem sp_up_s {α : Type} {f : Nat → α} {k : Nat} {x : α} : sp_up f k x k = x := if_pos rfl
theorem sp_up_n {α : Type} {f : Nat → α} {k j : Nat} {x : α} (h : j ≠ k) : sp_up f k x j = f j := if_neg h
theorem sp_mk_t {p : Nat → Bool} {n : Nat} (h : p n = true) : sp_mk p (n + 1) = sp_mk p n ||| ((1 : Int32) <<< (nI n &&& 31)) := by rw [sp_mk, h]
theorem sp_mk_f {p : Nat → Bool} {n : Nat} (h : p n = false) : sp_mk p (n + 1) = sp_mk p n := by rw [sp_mk, h]
theorem sp_ct_t {p : Nat → Bool} {n : Nat} (h : p n = true) : sp_ct p (n + 1) = sp_ct p n + 1 := by rw [sp_ct, h]
theorem sp_ct_f {p : Nat → Bool} {n : Nat} (h : p n = false) : sp_ct p (n + 1) = sp_ct p n := by rw [sp_ct, h]
theorem sp_nf {x : Bool} (h : ¬ x = true) : x = false := by cases x <;> first | rfl | exact absurd rfl h
theorem sp_bt1 : ∀ i, i < 32 → bt 1 i = decide (i = 0) := by decide +kernel
theorem sp_one {n i : Nat} (hn : n < 32) (hi : i < 32) : bt ((1 : Int32) <<< (nI n &&& 31)) i = decide (i = n) := by
  rw [b_shl n hn 1 hi, sp_bt1 (i - n) (by omega)]
  by_cases h : i = n
  · subst h; simp
  · by_cases h2 : n ≤ i
    · have h3 : ¬ i - n = 0 := by omega
      simp [h, h3]
    · simp [h, h2]
theorem sp_mk_bt (p : Nat → Bool) : ∀ n, n ≤ 32 → ∀ i, i < 32 → bt (sp_mk p n) i = (decide (i < n) && p i) := by
  intro n
  induction n with
  | zero => intro _ i _; rw [sp_mk, b_0]; simp
  | succ n ih =>
    intro hn i hi
    have e := ih (by omega) i hi
    cases h : p n with
    | true =>
      rw [sp_mk_t h, b_or, e, sp_one (by omega) hi]
      by_cases h1 : i = n
      · subst h1; simp [h]
      · by_cases h2 : i < n
        · have h3 : i < n + 1 := by omega
          simp [h1, h2, h3]
        · have h3 : ¬ i < n + 1 := by omega
          simp [h1, h2, h3]
    | false =>
      rw [sp_mk_f h, e]
      by_cases h1 : i = n
      · subst h1; simp [h]
      · by_cases h2 : i < n
        · have h3 : i < n + 1 := by omega
          simp [h2, h3]
        · have h3 : ¬ i < n + 1 := by omega
          simp [h2, h3]
theorem sp_bit (x : Int32) {k : Nat} (hk : k < 32) : ((x >>> (nI k &&& 31)) &&& 1) = sp_b (bt x k) := by
  apply b_ext
  intro i hi
  rw [b_and, b_sshr k hk x hi, sp_bt1 i hi]
  by_cases h : i = 0
  · subst h
    rw [if_pos (show k + 0 < 32 by omega), Nat.add_zero]
    cases bt x k with
    | true => exact (sp_bt1 0 (by decide)).symm
    | false => exact (b_0 0).symm
  · rw [decide_eq_false h, Bool.and_false]
    cases bt x k with
    | true => exact ((sp_bt1 i hi).trans (decide_eq_false h)).symm
    | false => exact (b_0 i).symm
theorem sp_b1 {x : Bool} : sp_b x = 1 ↔ x = true := by cases x <;> simp [sp_b]
theorem sp_b0 {x : Bool} : sp_b x = 0 ↔ x = false := by cases x <;> simp [sp_b]
theorem sp_mk_congr {p q : Nat → Bool} : ∀ n, (∀ i, i < n → p i = q i) → sp_mk p n = sp_mk q n := by
  intro n
  induction n with
  | zero => intro _; rfl
  | succ n ih =>
    intro h
    have e := ih (fun i hi => h i (by omega))
    rw [sp_mk, sp_mk, h n (by omega), e]
theorem sp_ct_congr {p q : Nat → Bool} : ∀ n, (∀ i, i < n → p i = q i) → sp_ct p n = sp_ct q n := by
  intro n
  induction n with
  | zero => intro _; rfl
  | succ n ih =>
    intro h
    have e := ih (fun i hi => h i (by omega))
    rw [sp_ct, sp_ct, h n (by omega), e]
theorem sp_mk_set (t : Nat → Bool) {k : Nat} (hk : k < 10) : sp_mk t 10 ||| ((1 : Int32) <<< (nI k &&& 31)) = sp_mk (sp_up t k true) 10 := by
  apply b_ext
  intro i hi
  rw [b_or, sp_mk_bt t 10 (by decide) i hi, sp_mk_bt _ 10 (by decide) i hi, sp_one (by omega) hi]
  by_cases h : i = k
  · subst h; rw [sp_up_s]; simp [hk]
  · rw [sp_up_n h]; simp [h]
theorem sp_mk_clr (t : Nat → Bool) {k : Nat} (hk : k < 10) : sp_mk t 10 &&& (((1 : Int32) <<< (nI k &&& 31)) ^^^ (-1)) = sp_mk (sp_up t k false) 10 := by
  apply b_ext
  intro i hi
  rw [b_and, b_xor, b_m1 i hi, sp_mk_bt t 10 (by decide) i hi, sp_mk_bt _ 10 (by decide) i hi, sp_one (by omega) hi]
  by_cases h : i = k
  · subst h; rw [sp_up_s]; simp
  · rw [sp_up_n h]; simp [h]
theorem sp_mk_xor (p q : Nat → Bool) : sp_mk p 10 ^^^ sp_mk q 10 = sp_mk (fun j => p j ^^ q j) 10 := by
  apply b_ext
  intro i hi
  rw [b_xor, sp_mk_bt p 10 (by decide) i hi, sp_mk_bt q 10 (by decide) i hi, sp_mk_bt _ 10 (by decide) i hi]
  by_cases h : i < 10
  · simp [h]
  · simp [h]
theorem sp_mk_0 {p : Nat → Bool} : ∀ n, (∀ i, i < n → p i = false) → sp_mk p n = 0 := by
  intro n
  induction n with
  | zero => intro _; rfl
  | succ n ih =>
    intro h
    rw [sp_mk_f (h n (by omega))]
    exact ih (fun i hi => h i (by omega))
/-! counts -/
theorem sp_ct_le (p : Nat → Bool) : ∀ n, sp_ct p n ≤ n := by
  intro n
  induction n with
  | zero => exact Nat.le_refl 0
  | succ n ih =>
    cases h : p n with
    | true => rw [sp_ct_t h]; omega
    | false => rw [sp_ct_f h]; omega
theorem sp_ct_mono {p q : Nat → Bool} : ∀ n, (∀ i, i < n → p i = true → q i = true) → sp_ct p n ≤ sp_ct q n := by
  intro n
  induction n with
  | zero => intro _; exact Nat.le_refl 0
  | succ n ih =>
    intro h
    have e := ih (fun i hi => h i (by omega))
    cases hp : p n with
    | true => rw [sp_ct_t hp, sp_ct_t (h n (by omega) hp)]; omega
    | false =>
      rw [sp_ct_f hp]
      cases hq : q n with
      | true => rw [sp_ct_t hq]; omega
      | false => rw [sp_ct_f hq]; exact e
theorem sp_ct_eq {p q : Nat → Bool} : ∀ n, (∀ i, i < n → p i = true → q i = true) → sp_ct q n ≤ sp_ct p n → ∀ i, i < n → q i = p i := by
  intro n
  induction n with
  | zero => intro _ _ i hi; omega
  | succ n ih =>
    intro h hc i hi
    have hm := sp_ct_mono n (fun i hi => h i (Nat.lt_succ_of_lt hi))
    have hh : ∀ i, i < n → p i = true → q i = true := fun i hi => h i (by omega)
    cases hp : p n with
    | true =>
      have hq := h n (by omega) hp
      rw [sp_ct_t hp, sp_ct_t hq] at hc
      by_cases e : i = n
      · subst e; rw [hp, hq]
      · exact ih hh (by omega) i (by omega)
    | false =>
      cases hq : q n with
      | true => rw [sp_ct_t hq, sp_ct_f hp] at hc; omega
      | false =>
        rw [sp_ct_f hp, sp_ct_f hq] at hc
        by_cases e : i = n
        · subst e; rw [hp, hq]
        · exact ih hh hc i (by omega)
theorem sp_ct_all : ∀ n, sp_ct (fun _ => true) n = n := by
  intro n
  induction n with
  | zero => rfl
  | succ n ih => rw [sp_ct_t rfl, ih]
theorem sp_ct_pos {p : Nat → Bool} {k : Nat} (h : p k = true) : ∀ n, k < n → 1 ≤ sp_ct p n := by
  intro n
  induction n with
  | zero => intro hk; omega
  | succ n ih =>
    intro hk
    by_cases e : k = n
    · subst e; rw [sp_ct_t h]; omega
    · have := ih (by omega)
      cases hp : p n with
      | true => rw [sp_ct_t hp]; omega
      | false => rw [sp_ct_f hp]; exact this
theorem sp_ct_ex {p : Nat → Bool} : ∀ n, 1 ≤ sp_ct p n → ∃ k, k < n ∧ p k = true := by
  intro n
  induction n with
  | zero => intro h; exact absurd (show 1 ≤ 0 from h) (by decide)
  | succ n ih =>
    intro h
    cases hp : p n with
    | true => exact ⟨n, by omega, hp⟩
    | false =>
      rw [sp_ct_f hp] at h
      obtain ⟨k, hk, e⟩ := ih h
      exact ⟨k, by omega, e⟩
theorem sp_ct_add (p : Nat → Bool) (m : Nat) : ∀ n, sp_ct p (m + n) = sp_ct p m + sp_ct (fun i => p (m + i)) n := by
  intro n
  induction n with
  | zero => rfl
  | succ n ih =>
    show sp_ct p (m + n + 1) = _
    cases h : p (m + n) with
    | true => rw [sp_ct_t h, sp_ct_t (p := fun i => p (m + i)) h, ih]; omega
    | false => rw [sp_ct_f h, sp_ct_f (p := fun i => p (m + i)) h, ih]
theorem sp_ct_none {p : Nat → Bool} : ∀ n, (∀ i, i < n → p i = false) → sp_ct p n = 0 := by
  intro n
  induction n with
  | zero => intro _; rfl
  | succ n ih =>
    intro h
    rw [sp_ct_f (h n (by omega))]
    exact ih (fun i hi => h i (by omega))
theorem sp_ct_one {p : Nat → Bool} {k : Nat} : ∀ n, k < n → (∀ i, i < n → i ≠ k → p i = false) → sp_ct p n = (match p k with | true => 1 | false => 0) := by
  intro n
  induction n with
  | zero => intro h; omega
  | succ n ih =>
    intro hk h
    by_cases e : k = n
    · subst e
      have z : sp_ct p k = 0 := sp_ct_none k (fun i hi => h i (by omega) (by omega))
      cases hp : p k with
      | true => rw [sp_ct_t hp, z]
      | false => rw [sp_ct_f hp, z]
    · rw [sp_ct_f (h n (by omega) (by omega))]
      exact ih (by omega) (fun i hi => h i (by omega))
theorem sp_ct_above {e : Nat → Bool} {k : Nat} (h : e k = false) : ∀ d, sp_ct (fun b => decide (k < b) && e b) (k + 1 + d) + sp_ct e k = sp_ct e (k + 1 + d) := by
  intro d
  induction d with
  | zero =>
    rw [Nat.add_zero, sp_ct_f h, sp_ct_none (k + 1) (fun i hi => by simp; intro z; omega)]
    omega
  | succ d ih =>
    have hb : decide (k < k + 1 + d) = true := decide_eq_true (by omega)
    show sp_ct (fun b => decide (k < b) && e b) (k + 1 + d + 1) + _ = sp_ct e (k + 1 + d + 1)
    cases he : e (k + 1 + d) with
    | true =>
      rw [sp_ct_t he, sp_ct_t (p := fun b => decide (k < b) && e b) (n := k + 1 + d) (by simp only [hb, he]; rfl)]
      omega
    | false =>
      rw [sp_ct_f he, sp_ct_f (p := fun b => decide (k < b) && e b) (n := k + 1 + d) (by simp only [hb, he]; rfl)]
      exact ih
end
section
/-! overlaps, pairs in rows of ten, the way through the clusters, the deepest point -/
def sp_sm (lo hi : Nat → Nat) (a b c : Nat) : Bool := decide (lo (2 * a + c) ≤ hi (2 * b + c)) && decide (lo (2 * b + c) ≤ hi (2 * a + c))
def sp_ov (t : Nat → Bool) (lo hi : Nat → Nat) (a b : Nat) : Bool := !decide (a = b) && (t a && (t b && (sp_sm lo hi a b 0 && sp_sm lo hi a b 1)))
def sp_q (o : Nat → Nat → Bool) (c : Nat) : Bool := decide (c / 10 < c % 10) && o (c / 10) (c % 10)
theorem sp_sm_c (lo hi : Nat → Nat) (a b c : Nat) : sp_sm lo hi a b c = sp_sm lo hi b a c := Bool.and_comm _ _
theorem sp_ov_c (t : Nat → Bool) (lo hi : Nat → Nat) (a b : Nat) : sp_ov t lo hi a b = sp_ov t lo hi b a := by
  unfold sp_ov
  rw [sp_sm_c lo hi a b 0, sp_sm_c lo hi a b 1, show decide (a = b) = decide (b = a) from decide_eq_decide.mpr eq_comm]
  cases t a <;> cases t b <;> rfl
theorem sp_ov_s (t : Nat → Bool) (lo hi : Nat → Nat) (a : Nat) : sp_ov t lo hi a a = false := by simp [sp_ov]
theorem sp_ov_n {t : Nat → Bool} {lo hi : Nat → Nat} {a b : Nat} (h : t a = false) : sp_ov t lo hi a b = false := by simp [sp_ov, h]
theorem sp_q_row (o : Nat → Nat → Bool) {a b : Nat} (hb : b < 10) : sp_q o (10 * a + b) = (decide (a < b) && o a b) := by
  have e1 : (10 * a + b) / 10 = a := by omega
  have e2 : (10 * a + b) % 10 = b := by omega
  unfold sp_q
  rw [e1, e2]
theorem sp_row0 (o : Nat → Nat → Bool) {a : Nat} (ha : a < 10) : ∀ b, b ≤ a + 1 → b ≤ 10 → sp_ct (sp_q o) (10 * a + b) = sp_ct (sp_q o) (10 * a) := by
  intro b
  induction b with
  | zero => intro _ _; rfl
  | succ b ih =>
    intro h1 h2
    have hq : sp_q o (10 * a + b) = false := by rw [sp_q_row o (by omega), decide_eq_false (by omega)]; rfl
    show sp_ct (sp_q o) (10 * a + b + 1) = _
    rw [sp_ct_f hq]
    exact ih (by omega) (by omega)
theorem sp_rows (d : Nat → Nat → Bool) {k : Nat} (hk : k < 10) (hs : ∀ a b, d a b = d b a) (h0 : d k k = false) (hn : ∀ a b, a ≠ k → b ≠ k → d a b = false) : sp_ct (sp_q d) 100 = sp_ct (d k) 10 := by
  have row : ∀ a, sp_ct (sp_q d) (10 * a + 10) = sp_ct (sp_q d) (10 * a) + sp_ct (fun b => decide (a < b) && d a b) 10 := by
    intro a
    rw [sp_ct_add (sp_q d) (10 * a) 10]
    congr 1
    exact sp_ct_congr 10 (fun b hb => sp_q_row d hb)
  have low : ∀ a, a ≤ k → sp_ct (sp_q d) (10 * a) = sp_ct (d k) a := by
    intro a
    induction a with
    | zero => intro _; rfl
    | succ a ih =>
      intro ha
      have e := row a
      rw [show 10 * a + 10 = 10 * (a + 1) from by omega, ih (by omega), sp_ct_one (k := k) 10 hk (fun b hb hbk => by rw [hn a b (by omega) hbk, Bool.and_false]), decide_eq_true (show a < k by omega), Bool.true_and, hs a k] at e
      cases h : d k a with
      | true => rw [h] at e; rw [e, sp_ct_t h]
      | false => rw [h] at e; rw [e, sp_ct_f h]; rfl
  have mid : sp_ct (sp_q d) (10 * (k + 1)) = sp_ct (d k) 10 := by
    have e := row k
    have f := sp_ct_above (e := d k) h0 (10 - (k + 1))
    rw [show k + 1 + (10 - (k + 1)) = 10 from by omega] at f
    rw [show 10 * k + 10 = 10 * (k + 1) from by omega, low k (Nat.le_refl k)] at e
    omega
  have high : ∀ m, sp_ct (sp_q d) (10 * (k + 1 + m)) = sp_ct (d k) 10 := by
    intro m
    induction m with
    | zero => exact mid
    | succ m ih =>
      have e := row (k + 1 + m)
      rw [sp_ct_none 10 (fun b hb => by
        by_cases hlt : k + 1 + m < b
        · rw [hn (k + 1 + m) b (by omega) (by omega), Bool.and_false]
        · rw [decide_eq_false hlt, Bool.false_and]), ih] at e
      rw [show 10 * (k + 1 + (m + 1)) = 10 * (k + 1 + m) + 10 from by omega, e, Nat.add_zero]
  have z := high (9 - k)
  rw [show 10 * (k + 1 + (9 - k)) = 100 from by omega] at z
  exact z
/-! the n-th pair -/
def sp_pr (q : Nat → Bool) (n : Int32) : Nat → Nat → Int32
  | 0, _ => -1
  | d + 1, c => match q c with
    | true => if nI (sp_ct q c) = n then nI c else sp_pr q n d (c + 1)
    | false => sp_pr q n d (c + 1)
theorem sp_pr_f {q : Nat → Bool} {n : Int32} {d c : Nat} (h : q c = false) : sp_pr q n (d + 1) c = sp_pr q n d (c + 1) := by rw [sp_pr, h]
theorem sp_pr_y {q : Nat → Bool} {n : Int32} {d c : Nat} (h : q c = true) (e : nI (sp_ct q c) = n) : sp_pr q n (d + 1) c = nI c := by rw [sp_pr, h]; exact if_pos e
theorem sp_pr_n {q : Nat → Bool} {n : Int32} {d c : Nat} (h : q c = true) (e : ¬ nI (sp_ct q c) = n) : sp_pr q n (d + 1) c = sp_pr q n d (c + 1) := by rw [sp_pr, h]; exact if_neg e
theorem sp_pr_row0 (o : Nat → Nat → Bool) (n : Int32) {a : Nat} (ha : a < 10) : ∀ b d, b ≤ a + 1 → b ≤ 10 → sp_pr (sp_q o) n (d + b) (10 * a) = sp_pr (sp_q o) n d (10 * a + b) := by
  intro b
  induction b with
  | zero => intro _ _ _; rfl
  | succ b ih =>
    intro d h1 h2
    have hq : sp_q o (10 * a + b) = false := by rw [sp_q_row o (by omega), decide_eq_false (by omega)]; rfl
    have e := ih (d + 1) (by omega) (by omega)
    rw [sp_pr_f hq] at e
    rw [show d + (b + 1) = d + 1 + b from by omega, e]
    rfl
/-! clusters -/
def sp_g (o : Nat → Nat → Bool) (x : Int32) (j : Nat) : Int32 := match bt x j with
  | true => x ||| sp_mk (o j) 10
  | false => x
def sp_ps (o : Nat → Nat → Bool) (x : Int32) : Nat → Int32
  | 0 => x
  | j + 1 => sp_g o (sp_ps o x j) j
def sp_it (o : Nat → Nat → Bool) (x : Int32) : Nat → Int32
  | 0 => x
  | n + 1 => sp_ps o (sp_it o x n) 10
def sp_low (x : Int32) : Prop := ∀ i, i < 32 → 10 ≤ i → bt x i = false
theorem sp_g_t {o : Nat → Nat → Bool} {x : Int32} {j : Nat} (h : bt x j = true) : sp_g o x j = x ||| sp_mk (o j) 10 := by unfold sp_g; rw [h]
theorem sp_g_f {o : Nat → Nat → Bool} {x : Int32} {j : Nat} (h : bt x j = false) : sp_g o x j = x := by unfold sp_g; rw [h]
theorem sp_g_sub (o : Nat → Nat → Bool) (x : Int32) (j i : Nat) (h : bt x i = true) : bt (sp_g o x j) i = true := by
  cases hb : bt x j with
  | true => rw [sp_g_t hb, b_or, h]; rfl
  | false => rw [sp_g_f hb]; exact h
theorem sp_g_low (o : Nat → Nat → Bool) {x : Int32} (j : Nat) (h : sp_low x) : sp_low (sp_g o x j) := by
  intro i hi h10
  cases hb : bt x j with
  | true =>
    have hn : ¬ i < 10 := by omega
    rw [sp_g_t hb, b_or, h i hi h10, sp_mk_bt _ 10 (by decide) i hi, decide_eq_false hn]; rfl
  | false => rw [sp_g_f hb]; exact h i hi h10
theorem sp_ps_sub (o : Nat → Nat → Bool) (x : Int32) (i : Nat) (h : bt x i = true) : ∀ j, bt (sp_ps o x j) i = true := by
  intro j
  induction j with
  | zero => exact h
  | succ j ih => exact sp_g_sub o _ j i ih
theorem sp_ps_low (o : Nat → Nat → Bool) {x : Int32} (h : sp_low x) : ∀ j, sp_low (sp_ps o x j) := by
  intro j
  induction j with
  | zero => exact h
  | succ j ih => exact sp_g_low o j ih
theorem sp_it_low (o : Nat → Nat → Bool) {x : Int32} (h : sp_low x) : ∀ n, sp_low (sp_it o x n) := by
  intro n
  induction n with
  | zero => exact h
  | succ n ih => exact sp_ps_low o ih 10
theorem sp_low_ext {x y : Int32} (hx : sp_low x) (hy : sp_low y) (h : ∀ i, i < 10 → bt x i = bt y i) : x = y := by
  apply b_ext
  intro i hi
  by_cases h10 : i < 10
  · exact h i h10
  · rw [hx i hi (by omega), hy i hi (by omega)]
theorem sp_it_fix (o : Nat → Nat → Bool) {x : Int32} (hl : sp_low x) (hc : 1 ≤ sp_ct (bt x) 10) : ∀ n, sp_ps o (sp_it o x n) 10 = sp_it o x n ∨ n + 1 ≤ sp_ct (bt (sp_it o x n)) 10 := by
  intro n
  induction n with
  | zero => exact Or.inr hc
  | succ n ih =>
    by_cases e : sp_ps o (sp_it o x n) 10 = sp_it o x n
    · left
      rw [sp_it, e, e]
    · right
      have h1 : n + 1 ≤ sp_ct (bt (sp_it o x n)) 10 := by
        rcases ih with h | h
        · exact absurd h e
        · exact h
      by_cases h2 : n + 1 + 1 ≤ sp_ct (bt (sp_it o x (n + 1))) 10
      · exact h2
      · exfalso
        apply e
        refine sp_low_ext (sp_ps_low o (sp_it_low o hl n) 10) (sp_it_low o hl n) ?_
        exact sp_ct_eq 10 (fun i _ hi => sp_ps_sub o _ i hi 10) (by rw [sp_it] at h2; omega)
theorem sp_it_end (o : Nat → Nat → Bool) {x : Int32} (hl : sp_low x) (hc : 1 ≤ sp_ct (bt x) 10) : sp_it o x 10 = sp_it o x 9 := by
  show sp_ps o (sp_it o x 9) 10 = sp_it o x 9
  rcases sp_it_fix o hl hc 9 with h | h
  · exact h
  · have all : ∀ i, i < 10 → true = bt (sp_it o x 9) i := sp_ct_eq (p := bt (sp_it o x 9)) (q := fun _ => true) 10 (fun _ _ _ => rfl) (by rw [sp_ct_all]; exact h)
    refine sp_low_ext (sp_ps_low o (sp_it_low o hl 9) 10) (sp_it_low o hl 9) ?_
    intro i hi
    rw [← all i hi]
    exact sp_ps_sub o _ i (all i hi).symm 10
theorem sp_it_one (o : Nat → Nat → Bool) {k : Nat} (hk : k < 10) : sp_it o ((1 : Int32) <<< (nI k &&& 31)) 10 = sp_it o ((1 : Int32) <<< (nI k &&& 31)) 9 := by
  apply sp_it_end
  · intro i hi h10
    rw [sp_one (by omega) hi]
    exact decide_eq_false (by omega)
  · exact sp_ct_pos (k := k) (by rw [sp_one (by omega) (by omega)]; exact decide_eq_true rfl) 10 hk
theorem sp_ps_0 (o : Nat → Nat → Bool) : ∀ j, sp_ps o 0 j = 0 := by
  intro j
  induction j with
  | zero => rfl
  | succ j ih => rw [sp_ps, ih, sp_g_f (b_0 j)]
theorem sp_it_0 (o : Nat → Nat → Bool) : ∀ n, sp_it o 0 n = 0 := by
  intro n
  induction n with
  | zero => rfl
  | succ n ih => rw [sp_it, ih, sp_ps_0]
/-! the deepest point -/
def sp_hs (t : Nat → Bool) (lo hi : Nat → Nat) (x y : Int32) (k : Nat) : Bool := t k && (!decide (x < nI (lo (2 * k + 0))) && (!decide (nI (hi (2 * k + 0)) < x) && (!decide (y < nI (lo (2 * k + 1))) && !decide (nI (hi (2 * k + 1)) < y))))
def sp_D (t : Nat → Bool) (lo hi : Nat → Nat) (x y : Int32) : Nat := sp_ct (sp_hs t lo hi x y) 10
def sp_mx (f : Nat → Nat) (m : Nat) : Nat → Nat
  | 0 => m
  | n + 1 => if f n ≤ sp_mx f m n then sp_mx f m n else f n
def sp_m2 (f : Nat → Nat → Nat) (w : Nat) : Nat → Nat
  | 0 => 0
  | n + 1 => sp_mx (f n) (sp_m2 f w n) w
theorem sp_mx_le {f : Nat → Nat} {m B : Nat} (hm : m ≤ B) : ∀ n, (∀ i, i < n → f i ≤ B) → sp_mx f m n ≤ B := by
  intro n
  induction n with
  | zero => intro _; exact hm
  | succ n ih =>
    intro h
    have a := ih (fun i hi => h i (by omega))
    have b := h n (by omega)
    rw [sp_mx]
    split <;> assumption
theorem sp_mx_ge {f : Nat → Nat} {m : Nat} : ∀ n, m ≤ sp_mx f m n ∧ ∀ i, i < n → f i ≤ sp_mx f m n := by
  intro n
  induction n with
  | zero => exact ⟨Nat.le_refl m, fun i hi => by omega⟩
  | succ n ih =>
    obtain ⟨a, b⟩ := ih
    rw [sp_mx]
    split
    · rename_i h
      refine ⟨a, fun i hi => ?_⟩
      by_cases e : i = n
      · subst e; exact h
      · exact b i (by omega)
    · rename_i h
      refine ⟨by omega, fun i hi => ?_⟩
      by_cases e : i = n
      · subst e; exact Nat.le_refl _
      · have := b i (by omega); omega
theorem sp_m2_le {f : Nat → Nat → Nat} {w B : Nat} : ∀ n, (∀ a, a < n → ∀ b, b < w → f a b ≤ B) → sp_m2 f w n ≤ B := by
  intro n
  induction n with
  | zero => intro _; exact Nat.zero_le B
  | succ n ih =>
    intro h
    exact sp_mx_le (ih (fun a ha => h a (by omega))) w (h n (by omega))
theorem sp_m2_ge {f : Nat → Nat → Nat} {w : Nat} : ∀ n a, a < n → ∀ b, b < w → f a b ≤ sp_m2 f w n := by
  intro n
  induction n with
  | zero => intro a ha; omega
  | succ n ih =>
    intro a ha b hb
    have z := sp_mx_ge (f := f n) (m := sp_m2 f w n) w
    by_cases e : a = n
    · subst e; exact z.2 b hb
    · exact Nat.le_trans (ih a (by omega) b hb) z.1
theorem sp_pick (p : Nat → Bool) (f : Nat → Nat) : ∀ n, (∃ i, i < n ∧ p i = true) → ∃ a, a < n ∧ p a = true ∧ ∀ i, i < n → p i = true → f i ≤ f a := by
  intro n
  induction n with
  | zero => intro ⟨i, hi, _⟩; omega
  | succ n ih =>
    intro ⟨i, hi, hp⟩
    by_cases ex : ∃ i, i < n ∧ p i = true
    · obtain ⟨a, ha, hpa, hm⟩ := ih ex
      by_cases hn : p n = true ∧ f a < f n
      · refine ⟨n, by omega, hn.1, fun j hj hpj => ?_⟩
        by_cases e : j = n
        · subst e; exact Nat.le_refl _
        · have := hm j (by omega) hpj; omega
      · refine ⟨a, by omega, hpa, fun j hj hpj => ?_⟩
        by_cases e : j = n
        · subst e
          have : ¬ f a < f j := fun z => hn ⟨hpj, z⟩
          omega
        · exact hm j (by omega) hpj
    · have e : i = n := by
        by_cases e : i = n
        · exact e
        · exact absurd ⟨i, by omega, hp⟩ ex
      subst e
      refine ⟨i, by omega, hp, fun j hj hpj => ?_⟩
      by_cases e : j = i
      · subst e; exact Nat.le_refl _
      · exact absurd ⟨j, by omega, hpj⟩ ex
def sp_G (lo hi : Nat → Nat) : Prop := ∀ j, lo j ≤ hi j ∧ hi j < 100
theorem sp_hs_nI {t : Nat → Bool} {lo hi : Nat → Nat} (g : sp_G lo hi) {x y k : Nat} (hx : x < 100) (hy : y < 100) : sp_hs t lo hi (nI x) (nI y) k = true ↔ t k = true ∧ lo (2 * k + 0) ≤ x ∧ x ≤ hi (2 * k + 0) ∧ lo (2 * k + 1) ≤ y ∧ y ≤ hi (2 * k + 1) := by
  have g0 := g (2 * k + 0)
  have g1 := g (2 * k + 1)
  unfold sp_hs
  simp only [Bool.and_eq_true, Bool.not_eq_true', decide_eq_false_iff_not]
  rw [nI_ltI (by omega) (by omega), nI_ltI (by omega) (by omega), nI_ltI (by omega) (by omega), nI_ltI (by omega) (by omega), Nat.not_lt, Nat.not_lt, Nat.not_lt, Nat.not_lt]
def sp_fX (t : Nat → Bool) (lo hi : Nat → Nat) (a b : Nat) : Nat := match t a && t b with
  | true => sp_D t lo hi (nI (lo (2 * a + 0))) (nI (lo (2 * b + 1)))
  | false => 0
def sp_fY (t : Nat → Bool) (lo hi : Nat → Nat) (x y : Nat) : Nat := sp_D t lo hi (nI x) (nI y)
theorem sp_D_le (t : Nat → Bool) (lo hi : Nat → Nat) (x y : Int32) : sp_D t lo hi x y ≤ 10 := sp_ct_le _ 10
theorem sp_fX_le (t : Nat → Bool) (lo hi : Nat → Nat) (a b : Nat) : sp_fX t lo hi a b ≤ 10 := by
  unfold sp_fX
  split
  · exact sp_D_le _ _ _ _ _
  · omega
theorem sp_deep {t : Nat → Bool} {lo hi : Nat → Nat} (g : sp_G lo hi) : sp_m2 (sp_fX t lo hi) 10 10 = sp_m2 (sp_fY t lo hi) 100 100 := by
  apply Nat.le_antisymm
  · refine sp_m2_le 10 (fun a ha b hb => ?_)
    cases h : t a && t b with
    | false => rw [sp_fX, h]; exact Nat.zero_le _
    | true =>
      rw [sp_fX, h]
      have ga := g (2 * a + 0)
      have gb := g (2 * b + 1)
      exact sp_m2_ge (f := sp_fY t lo hi) 100 (lo (2 * a + 0)) (by omega) (lo (2 * b + 1)) (by omega)
  · refine sp_m2_le 100 (fun x hx y hy => ?_)
    by_cases hz : 1 ≤ sp_fY t lo hi x y
    · obtain ⟨k, hk, hp⟩ := sp_ct_ex 10 hz
      obtain ⟨a, ha, hpa, ma⟩ := sp_pick (sp_hs t lo hi (nI x) (nI y)) (fun i => lo (2 * i + 0)) 10 ⟨k, hk, hp⟩
      obtain ⟨b, hb, hpb, mb⟩ := sp_pick (sp_hs t lo hi (nI x) (nI y)) (fun i => lo (2 * i + 1)) 10 ⟨k, hk, hp⟩
      have qa := (sp_hs_nI g hx hy).mp hpa
      have qb := (sp_hs_nI g hx hy).mp hpb
      have e : sp_fX t lo hi a b = sp_D t lo hi (nI (lo (2 * a + 0))) (nI (lo (2 * b + 1))) := by rw [sp_fX, qa.1, qb.1]; rfl
      refine Nat.le_trans ?_ (sp_m2_ge (f := sp_fX t lo hi) 10 a ha b hb)
      rw [e]
      refine sp_ct_mono 10 (fun i hl hpi => ?_)
      have qi := (sp_hs_nI g hx hy).mp hpi
      have xa : lo (2 * i + 0) ≤ lo (2 * a + 0) := ma i hl hpi
      have yb : lo (2 * i + 1) ≤ lo (2 * b + 1) := mb i hl hpi
      exact (sp_hs_nI g (by omega) (by omega)).mpr ⟨qi.1, xa, by omega, yb, by omega⟩
    · omega
/-! rank -/
def sp_bf (t : Nat → Bool) (lo : Nat → Nat) (k c j : Nat) : Bool := t j && (decide (lo (2 * j + c) < lo (2 * k + c)) || (decide (lo (2 * j + c) = lo (2 * k + c)) && decide (j < k)))
end
section
/-! the component's walks over the picture: f_there is the mask of t, the arrays are nI of lo, hi -/
def sp_L (lo : Nat → Nat) : Nat → Int32 := fun j => nI (lo j)
theorem sp_L_up (lo : Nat → Nat) (j v : Nat) : upd (sp_L lo) j (nI v) = sp_L (sp_up lo j v) := by
  funext i
  show (if i = j then nI v else nI (lo i)) = nI (if i = j then v else lo i)
  by_cases h : i = j
  · rw [if_pos h, if_pos h]
  · rw [if_neg h, if_neg h]
theorem xw_bb {x : Bool} {A B : Prop} (f : x = false → A) (g : x = true → B) : (sp_b x = 0 → A) ∧ (¬ sp_b x = 0 → B) := by
  cases x with
  | true => exact br_f (by decide) (g rfl)
  | false => exact br_t rfl (f rfl)
theorem xw_b1 {x : Bool} {A B : Prop} (f : x = true → A) (g : x = false → B) : (sp_b x = 1 → A) ∧ (¬ sp_b x = 1 → B) := by
  cases x with
  | true => exact br_t rfl (f rfl)
  | false => exact br_f (by decide) (g rfl)
theorem xw_f {P : Int32 → Prop} {x : Bool} (h : P (sp_b x)) (e : x = false) : P 0 := by rw [e] at h; exact h
theorem xw_t {P : Int32 → Prop} {x : Bool} (h : P (sp_b x)) (e : x = true) : P 1 := by rw [e] at h; exact h
theorem sp_ix (a c : Nat) : (2 : Int32) * nI a + nI c = nI (2 * a + c) := by
  rw [show (2 : Int32) = nI 2 from rfl, pk_mul, nI_add]
theorem sp_10 {i : Nat} (h : i < 10) : ¬ (10 : Int32) ≤ nI i := nI_ge (b := 10) h (by decide)
theorem sp_10e : (10 : Int32) ≤ nI 10 := nI_le (a := 10) (Nat.le_refl 10) (by decide)
theorem sp_isb (t : Nat → Bool) {k : Nat} (hk : k < 10) : ((sp_mk t 10 >>> (nI k &&& 31)) &&& 1) = sp_b (t k) := by
  rw [sp_bit _ (by omega), sp_mk_bt _ 10 (by decide) k (by omega), decide_eq_true hk, Bool.true_and]
theorem xw_isThere {post : Int32 → Prop} {t : Nat → Bool} {al ah : Nat → Int32} {k : Nat} (hk : k < 10) (h : post (sp_b (t k))) : wpX_isThere post (sp_mk t 10, al, ah) (nI k) := by
  refine br_f (nI_pos (by omega)) (br_f (sp_10 hk) ?_)
  rw [sp_isb t hk]
  exact xw_b1 (fun z => by rw [z] at h; exact h) (fun z => by rw [z] at h; exact h)
theorem xw_isThere0 {post : Int32 → Prop} {u : SX} {x : Int32} (hx : x < 0 ∨ nI 10 ≤ x) (h : post 0) : wpX_isThere post u x := by
  obtain ⟨f, al, ah⟩ := u
  rcases hx with hx | hx
  · exact br_t hx h
  · exact br_f (Int32.not_lt.mpr (Int32.le_trans (by decide) hx)) (br_t hx h)
theorem xw_spansMeet {post : Int32 → Prop} {f : Int32} {lo hi : Nat → Nat} {a b c : Nat} (g : sp_G lo hi) (ha : a < 10) (hb : b < 10) (hc : c < 2) (h : post (sp_b (sp_sm lo hi a b c))) : wpX_spansMeet post (f, sp_L lo, sp_L hi) (nI a) (nI b) (nI c) := by
  have ga := g (2 * a + c)
  have gb := g (2 * b + c)
  have ia : vp_in (nI (2 * a + c)) 20 := vp_in_nI (by omega) (by decide)
  have ib : vp_in (nI (2 * b + c)) 20 := vp_in_nI (by omega) (by decide)
  unfold wpX_spansMeet
  dsimp only
  rw [sp_ix a c, sp_ix b c, nI_clamp (n := 2 * a + c) (by omega), nI_clamp (n := 2 * b + c) (by omega)]
  refine ⟨ia, ib, pk_lt (hi (2 * b + c)) (lo (2 * a + c)) (fun z => ?_) (fun z => ⟨ib, ia, pk_lt (hi (2 * a + c)) (lo (2 * b + c)) (fun w => ?_) (fun w => ?_)⟩)⟩
  · exact xw_f h (by unfold sp_sm; rw [decide_eq_false (by omega), Bool.false_and])
  · exact xw_f h (by unfold sp_sm; rw [decide_eq_false (p := lo (2 * b + c) ≤ hi (2 * a + c)) (by omega), Bool.and_false])
  · exact xw_t h (by unfold sp_sm; rw [decide_eq_true (by omega), decide_eq_true (by omega), Bool.true_and])
theorem xw_overlap {post : Int32 → Prop} {t : Nat → Bool} {lo hi : Nat → Nat} {a b : Nat} (g : sp_G lo hi) (ha : a < 10) (hb : b < 10) (h : post (sp_b (sp_ov t lo hi a b))) : wpX_overlap post (sp_mk t 10, sp_L lo, sp_L hi) (nI a) (nI b) := by
  by_cases e : a = b
  · subst e
    exact br_t rfl (xw_f h (sp_ov_s t lo hi a))
  · refine br_f (fun z => e ((nI_eq (by omega) (by omega)).mp z)) ?_
    refine xw_isThere ha (xw_bb (fun ta => ?_) (fun ta => ?_))
    · exact xw_f h (by simp [sp_ov, ta])
    refine xw_isThere hb (xw_bb (fun tb => ?_) (fun tb => ?_))
    · exact xw_f h (by simp [sp_ov, tb])
    refine xw_spansMeet (c := 0) g ha hb (by decide) (xw_bb (fun s0 => ?_) (fun s0 => ?_))
    · exact xw_f h (by simp [sp_ov, s0])
    refine xw_spansMeet (c := 1) g ha hb (by decide) (xw_bb (fun s1 => ?_) (fun s1 => ?_))
    · exact xw_f h (by simp [sp_ov, s1])
    · exact xw_t h (by simp [sp_ov, e, ta, tb, s0, s1])
theorem xw_overlap0 {post : Int32 → Prop} {u : SX} {x y : Int32} (hx : x < 0 ∨ nI 10 ≤ x) (h : post 0) : wpX_overlap post u x y := by
  obtain ⟨f, al, ah⟩ := u
  exact br_c (fun _ => h) (fun _ => xw_isThere0 hx (br_t rfl h))
theorem xw_partners_l {post : Int32 → Prop} {t : Nat → Bool} {lo hi : Nat → Nat} {k : Nat} (g : sp_G lo hi) (hk : k < 10) (h : post (sp_mk (sp_ov t lo hi k) 10)) : ∀ d i, i + d = 10 → wX_partners_4 post (nI k) (sp_mk t 10) (sp_L lo) (sp_L hi) (d + 1) (sp_mk (sp_ov t lo hi k) i) (nI i) := by
  intro d
  induction d with
  | zero =>
    intro i e
    obtain rfl : i = 10 := by omega
    exact br_t sp_10e h
  | succ d ih =>
    intro i e
    have j := ih (i + 1) (by omega)
    refine br_f (sp_10 (by omega)) (xw_overlap g hk (by omega) (xw_bb (fun z => ?_) (fun z => ?_)))
    · rw [sp_mk_f z] at j
      exact nm_r (nI_1 i) j
    · rw [sp_mk_t z] at j
      exact nm_e (nm_r (nI_1 i) j)
theorem xw_partners {post : Int32 → Prop} {t : Nat → Bool} {lo hi : Nat → Nat} {k : Nat} (g : sp_G lo hi) (hk : k < 10) (h : post (sp_mk (sp_ov t lo hi k) 10)) : wpX_partners post (sp_mk t 10, sp_L lo, sp_L hi) (nI k) := by
  show ∃ n, wX_partners_4 post (nI k) (sp_mk t 10) (sp_L lo) (sp_L hi) n 0 0
  exact ⟨11, xw_partners_l g hk h 10 0 rfl⟩
theorem xw_partners0 {post : Int32 → Prop} {u : SX} {x : Int32} (hx : x < 0 ∨ nI 10 ≤ x) (h : post 0) : wpX_partners post u x := by
  obtain ⟨f, al, ah⟩ := u
  have l : ∀ d i, i + d = 10 → wX_partners_4 post x f al ah (d + 1) 0 (nI i) := by
    intro d
    induction d with
    | zero =>
      intro i e
      obtain rfl : i = 10 := by omega
      exact br_t sp_10e h
    | succ d ih =>
      intro i e
      exact br_f (sp_10 (by omega)) (xw_overlap0 hx (br_t rfl (nm_r (nI_1 i) (ih (i + 1) (by omega)))))
  show ∃ n, wX_partners_4 post x f al ah n 0 0
  exact ⟨11, l 10 0 rfl⟩
theorem sp_cb (p : Nat → Bool) {i : Nat} (h : i < 10) : nI (sp_ct p i) + ((sp_mk p 10 >>> (nI i &&& 31)) &&& 1) = nI (sp_ct p (i + 1)) := by
  rw [sp_isb p h]
  cases e : p i with
  | true => rw [sp_ct_t e, ← nI_1]; rfl
  | false => rw [sp_ct_f e]; exact Int32.add_zero _
theorem xw_countBits {post : Int32 → Prop} {f : Int32} {al ah : Nat → Int32} {p : Nat → Bool} (h : post (nI (sp_ct p 10))) : wpX_countBits post (f, al, ah) (sp_mk p 10) := by
  have l : ∀ d i, i + d = 10 → wX_countBits_4 post (sp_mk p 10) f al ah (d + 1) (nI (sp_ct p i)) (nI i) := by
    intro d
    induction d with
    | zero =>
      intro i e
      obtain rfl : i = 10 := by omega
      exact br_t sp_10e h
    | succ d ih =>
      intro i e
      exact br_f (sp_10 (by omega)) (nm_r (sp_cb p (by omega)) (nm_r (nI_1 i) (ih (i + 1) (by omega))))
  show ∃ n, wX_countBits_4 post (sp_mk p 10) f al ah n 0 0
  exact ⟨11, l 10 0 rfl⟩
theorem xw_changes {post : Int32 → Prop} {t : Nat → Bool} {lo hi : Nat → Nat} {k : Nat} {p : Nat → Bool} (g : sp_G lo hi) (hk : k < 10) (h : post (nI (sp_ct (fun j => p j ^^ sp_ov t lo hi k j) 10))) : wpX_changesSince post (sp_mk t 10, sp_L lo, sp_L hi) (sp_mk p 10) (nI k) := by
  unfold wpX_changesSince
  dsimp only
  refine xw_partners g hk ?_
  rw [sp_mk_xor]
  exact xw_countBits h
/-! spans -/
theorem sp_d100 {w : Nat} (h : w < 10000) : nI w / (100 : Int32) = nI (w / 100) := pk_div (d := 100) (by omega) (by decide) (by decide)
theorem sp_r100 {w : Nat} (h : w < 10000) : nI w - nI w / (100 : Int32) * 100 = nI (w % 100) := pk_rem (d := 100) (by omega) (by decide) (by decide)
def sp_Sp (x : Int32) : Prop := ∃ w, w < 10000 ∧ w % 100 ≤ w / 100 ∧ x = nI w
theorem xw_isSpan_y {post : Int32 → Prop} {u : SX} {w : Nat} (hw : w < 10000) (hs : w % 100 ≤ w / 100) (h : post 1) : wpX_isSpan post u (nI w) := by
  obtain ⟨f, al, ah⟩ := u
  exact br_f (nI_pos (by omega)) (br_f (nI_ge (b := 10000) hw (by decide)) ⟨by decide, by decide, pk_lt (w / 100) (w % 100) (fun z => absurd hs (by omega)) (fun _ => h) (sp_d100 hw) (sp_r100 hw)⟩)
theorem xw_isSpan_n {post : Int32 → Prop} {u : SX} {x : Int32} (hx : ¬ sp_Sp x) (h : post 0) : wpX_isSpan post u x := by
  obtain ⟨f, al, ah⟩ := u
  rcases pk_ix x (n := 10000) (by decide) with z | z | ⟨w, hw, rfl⟩
  · exact br_t z h
  · exact br_f (Int32.not_lt.mpr (Int32.le_trans (by decide) z)) (br_t z h)
  · exact br_f (nI_pos (by omega)) (br_f (nI_ge (b := 10000) hw (by decide)) ⟨by decide, by decide, pk_lt (w / 100) (w % 100) (fun _ => h) (fun z => absurd ⟨w, hw, z, rfl⟩ hx) (sp_d100 hw) (sp_r100 hw)⟩)
theorem xw_setSpan {post : SX → Prop} {f : Int32} {lo hi : Nat → Nat} {k c w : Nat} (hk : k < 10) (hc : c < 2) (hw : w < 10000) (h : post (f, sp_L (sp_up lo (2 * k + c) (w % 100)), sp_L (sp_up hi (2 * k + c) (w / 100)))) : wpX_setSpan post (f, sp_L lo, sp_L hi) (nI k) (nI c) (nI w) := by
  have i : vp_in ((2 : Int32) * nI k + nI c) 20 := by rw [sp_ix]; exact vp_in_nI (by omega) (by decide)
  have ic : ((2 : Int32) * nI k + nI c).toNatClampNeg = 2 * k + c := by rw [sp_ix]; exact nI_clamp (by omega)
  refine ⟨by decide, i, nm_r (e' := sp_L (sp_up lo (2 * k + c) (w % 100))) ?_ ⟨by decide, i, nm_r (e' := sp_L (sp_up hi (2 * k + c) (w / 100))) ?_ h⟩⟩
  · rw [ic, sp_r100 hw, sp_L_up]
  · rw [ic, sp_d100 hw, sp_L_up]
/-! moves -/
def sp_st (lo hi : Nat → Nat) (k c : Nat) (d : Int32) : Bool := decide (0 ≤ (lo (2 * k + c) : Int) + d.toInt) && decide ((hi (2 * k + c) : Int) + d.toInt ≤ 99)
theorem xw_stays {post : Int32 → Prop} {f : Int32} {lo hi : Nat → Nat} {k c : Nat} {d : Int32} (g : sp_G lo hi) (hk : k < 10) (hc : c < 2) (h : post (sp_b (sp_st lo hi k c d))) : wpX_staysInside post (f, sp_L lo, sp_L hi) (nI k) (nI c) d := by
  have gj := g (2 * k + c)
  have i : vp_in (nI (2 * k + c)) 20 := vp_in_nI (by omega) (by decide)
  unfold wpX_staysInside
  dsimp only
  rw [sp_ix k c, nI_clamp (n := 2 * k + c) (by omega)]
  have e1 : d < -(sp_L lo (2 * k + c)) ↔ ¬ 0 ≤ (lo (2 * k + c) : Int) + d.toInt := by
    show d < -(nI (lo (2 * k + c))) ↔ _
    rw [Int32.lt_iff_toInt_lt, sb_negT (by omega)]
    omega
  have e2 : 99 - sp_L hi (2 * k + c) < d ↔ ¬ (hi (2 * k + c) : Int) + d.toInt ≤ 99 := by
    show nI 99 - nI (hi (2 * k + c)) < d ↔ _
    rw [Int32.lt_iff_toInt_lt, pk_sub_toInt (by omega) (by omega)]
    omega
  refine ⟨i, br_c (fun z => ?_) (fun z => ⟨i, br_c (fun w => ?_) (fun w => ?_)⟩)⟩
  · exact xw_f h (by unfold sp_st; rw [decide_eq_false (e1.mp z), Bool.false_and])
  · exact xw_f h (by unfold sp_st; rw [decide_eq_false (e2.mp w), Bool.and_false])
  · have a : 0 ≤ (lo (2 * k + c) : Int) + d.toInt := by rw [e1] at z; omega
    have b : (hi (2 * k + c) : Int) + d.toInt ≤ 99 := by rw [e2] at w; omega
    exact xw_t h (by unfold sp_st; rw [decide_eq_true a, decide_eq_true b, Bool.true_and])
theorem sp_addD {n : Nat} {d : Int32} (h0 : 0 ≤ (n : Int) + d.toInt) (h1 : (n : Int) + d.toInt ≤ 99) (hn : n < 100) : nI n + d = nI ((n : Int) + d.toInt).toNat := by
  apply Int32.toInt_inj.mp
  rw [Int32.toInt_add, nI_toInt (by omega), nI_toInt (by omega), Int.toNat_of_nonneg h0]
  exact Int.bmod_eq_of_le (by omega) (by omega)
theorem xw_shift {post : SX → Prop} {f : Int32} {lo hi : Nat → Nat} {k c v w : Nat} {d : Int32} (hk : k < 10) (hc : c < 2) (e1 : nI (lo (2 * k + c)) + d = nI v) (e2 : nI (hi (2 * k + c)) + d = nI w) (h : post (f, sp_L (sp_up lo (2 * k + c) v), sp_L (sp_up hi (2 * k + c) w))) : wpX_shift post (f, sp_L lo, sp_L hi) (nI k) (nI c) d := by
  have i : vp_in ((2 : Int32) * nI k + nI c) 20 := by rw [sp_ix]; exact vp_in_nI (by omega) (by decide)
  have ic : ((2 : Int32) * nI k + nI c).toNatClampNeg = 2 * k + c := by rw [sp_ix]; exact nI_clamp (by omega)
  refine ⟨i, i, nm_r (e' := sp_L (sp_up lo (2 * k + c) v)) ?_ ⟨i, i, nm_r (e' := sp_L (sp_up hi (2 * k + c) w)) ?_ h⟩⟩
  · rw [ic, show sp_L lo (2 * k + c) + d = nI v from e1, sp_L_up]
  · rw [ic, show sp_L hi (2 * k + c) + d = nI w from e2, sp_L_up]
/-! pairs -/
theorem xw_pairs_in {post : Int32 → Prop} {J4 : Int32 → Int32 → Prop} {t : Nat → Bool} {lo hi : Nat → Nat} {a : Nat} (g : sp_G lo hi) (ha : a < 10) (hJ : J4 (nI (sp_ct (sp_q (sp_ov t lo hi)) (10 * a + 10))) (nI (a + 1))) : ∀ d b, a < b → b + d = 10 → wX_pairs_14 post J4 (nI a) (sp_mk t 10) (sp_L lo) (sp_L hi) (d + 1) (nI (sp_ct (sp_q (sp_ov t lo hi)) (10 * a + b))) (nI b) := by
  intro d
  induction d with
  | zero =>
    intro b hab e
    obtain rfl : b = 10 := by omega
    exact br_t sp_10e (nm_r (nI_1 a) hJ)
  | succ d ih =>
    intro b hab e
    have j := ih (b + 1) (by omega) (by omega)
    have q := sp_q_row (sp_ov t lo hi) (a := a) (b := b) (by omega)
    rw [decide_eq_true hab, Bool.true_and] at q
    refine br_f (sp_10 (by omega)) (xw_overlap g ha (by omega) (xw_bb (fun z => ?_) (fun z => ?_)))
    · rw [show 10 * a + (b + 1) = 10 * a + b + 1 from rfl, sp_ct_f (q.trans z)] at j
      exact nm_r (nI_1 b) j
    · rw [show 10 * a + (b + 1) = 10 * a + b + 1 from rfl, sp_ct_t (q.trans z)] at j
      exact nm_r (nI_1 _) (nm_r (nI_1 b) j)
theorem xw_pairs {post : Int32 → Prop} {t : Nat → Bool} {lo hi : Nat → Nat} (g : sp_G lo hi) (h : post (nI (sp_ct (sp_q (sp_ov t lo hi)) 100))) : wpX_pairs post (sp_mk t 10, sp_L lo, sp_L hi) := by
  have l : ∀ d a, a + d = 10 → wX_pairs_4 post (sp_mk t 10) (sp_L lo) (sp_L hi) (d + 1) (nI (sp_ct (sp_q (sp_ov t lo hi)) (10 * a))) (nI a) := by
    intro d
    induction d with
    | zero =>
      intro a e
      obtain rfl : a = 10 := by omega
      exact br_t sp_10e h
    | succ d ih =>
      intro a e
      have j := xw_pairs_in (post := post) (t := t) g (show a < 10 by omega) (ih (a + 1) (by omega)) (10 - (a + 1)) (a + 1) (by omega) (by omega)
      rw [sp_row0 _ (by omega) (a + 1) (by omega) (by omega)] at j
      exact br_f (sp_10 (by omega)) (nm_r (nI_1 a) ⟨_, j⟩)
  show ∃ n, wX_pairs_4 post (sp_mk t 10) (sp_L lo) (sp_L hi) n 0 0
  exact ⟨11, l 10 0 rfl⟩
theorem sp_ten (a b : Nat) : (10 : Int32) * nI a + nI b = nI (10 * a + b) := by
  rw [show (10 : Int32) = nI 10 from rfl, pk_mul, nI_add]
theorem xw_pair_in {post : Int32 → Prop} {J4 : Int32 → Int32 → Prop} {t : Nat → Bool} {lo hi : Nat → Nat} {a f : Nat} {n : Int32} (g : sp_G lo hi) (ha : a < 10) (hJ : post (sp_pr (sp_q (sp_ov t lo hi)) n f (10 * a + 10)) → J4 (nI (sp_ct (sp_q (sp_ov t lo hi)) (10 * a + 10))) (nI (a + 1))) : ∀ d b, a < b → b + d = 10 → post (sp_pr (sp_q (sp_ov t lo hi)) n (f + d) (10 * a + b)) → wX_pair_15 post J4 n (nI a) (sp_mk t 10) (sp_L lo) (sp_L hi) (d + 1) (nI (sp_ct (sp_q (sp_ov t lo hi)) (10 * a + b))) (nI b) := by
  intro d
  induction d with
  | zero =>
    intro b hab e h
    obtain rfl : b = 10 := by omega
    exact br_t sp_10e (nm_r (nI_1 a) (hJ h))
  | succ d ih =>
    intro b hab e h
    have j := ih (b + 1) (by omega) (by omega)
    have q := sp_q_row (sp_ov t lo hi) (a := a) (b := b) (by omega)
    rw [decide_eq_true hab, Bool.true_and] at q
    rw [show f + (d + 1) = f + d + 1 from rfl] at h
    rw [show 10 * a + (b + 1) = 10 * a + b + 1 from rfl] at j
    refine br_f (sp_10 (by omega)) (xw_overlap g ha (by omega) (xw_bb (fun z => ?_) (fun z => ?_)))
    · rw [sp_pr_f (q.trans z)] at h
      have j := j h
      rw [sp_ct_f (q.trans z)] at j
      exact nm_r (nI_1 b) j
    · refine br_c (fun y => ?_) (fun y => ?_)
      · rw [sp_pr_y (q.trans z) y] at h
        rw [sp_ten]
        exact h
      · rw [sp_pr_n (q.trans z) y] at h
        have j := j h
        rw [sp_ct_t (q.trans z)] at j
        exact nm_r (nI_1 _) (nm_r (nI_1 b) j)
theorem xw_pair {post : Int32 → Prop} {t : Nat → Bool} {lo hi : Nat → Nat} {n : Int32} (g : sp_G lo hi) (h : post (sp_pr (sp_q (sp_ov t lo hi)) n 100 0)) : wpX_pair post (sp_mk t 10, sp_L lo, sp_L hi) n := by
  have l : ∀ d a, a + d = 10 → post (sp_pr (sp_q (sp_ov t lo hi)) n (10 * d) (10 * a)) → wX_pair_4 post n (sp_mk t 10) (sp_L lo) (sp_L hi) (d + 1) (nI (sp_ct (sp_q (sp_ov t lo hi)) (10 * a))) (nI a) := by
    intro d
    induction d with
    | zero =>
      intro a e h
      obtain rfl : a = 10 := by omega
      exact br_t sp_10e h
    | succ d ih =>
      intro a e h
      have r := sp_pr_row0 (sp_ov t lo hi) n (show a < 10 by omega) (a + 1) (10 * d + (10 - (a + 1))) (by omega) (by omega)
      rw [show 10 * d + (10 - (a + 1)) + (a + 1) = 10 * (d + 1) from by omega] at r
      rw [r] at h
      have j := xw_pair_in (post := post) (t := t) (n := n) (f := 10 * d) g (show a < 10 by omega) (ih (a + 1) (by omega)) (10 - (a + 1)) (a + 1) (by omega) (by omega) h
      rw [sp_row0 _ (by omega) (a + 1) (by omega) (by omega)] at j
      exact br_f (sp_10 (by omega)) (nm_r (nI_1 a) ⟨_, j⟩)
  show ∃ m, wX_pair_4 post n (sp_mk t 10) (sp_L lo) (sp_L hi) m 0 0
  exact ⟨11, l 10 0 rfl h⟩
end
section
/-! the component's walks: clusters, points, ranks -/
theorem xw_cl_in {post : Int32 → Prop} {J16 : Int32 → Int32 → Prop} {t : Nat → Bool} {lo hi : Nat → Nat} {x : Int32} {s : Nat} (g : sp_G lo hi) (hJ : J16 (sp_ps (sp_ov t lo hi) x 10) (nI (s + 1))) : ∀ d j, j + d = 10 → wX_cluster_25 post J16 (nI s) (sp_mk t 10) (sp_L lo) (sp_L hi) (d + 1) (sp_ps (sp_ov t lo hi) x j) (nI j) := by
  intro d
  induction d with
  | zero =>
    intro j e
    obtain rfl : j = 10 := by omega
    exact br_t sp_10e (nm_r (nI_1 s) hJ)
  | succ d ih =>
    intro j e
    have i := ih (j + 1) (by omega)
    refine br_f (sp_10 (by omega)) ?_
    rw [sp_bit (sp_ps (sp_ov t lo hi) x j) (show j < 32 by omega)]
    refine xw_b1 (fun z => xw_partners g (by omega) ?_) (fun z => ?_)
    · rw [sp_ps, sp_g_t z] at i
      exact nm_e (nm_r (nI_1 j) i)
    · rw [sp_ps, sp_g_f z] at i
      exact nm_r (nI_1 j) i
theorem xw_cl_out {post : Int32 → Prop} {t : Nat → Bool} {lo hi : Nat → Nat} {x : Int32} (g : sp_G lo hi) (h : post (sp_it (sp_ov t lo hi) x 9)) : ∀ d m, m + 1 + d = 10 → wX_cluster_16 post (sp_mk t 10) (sp_L lo) (sp_L hi) (d + 1) (sp_it (sp_ov t lo hi) x m) (nI (m + 1)) := by
  intro d
  induction d with
  | zero =>
    intro m e
    obtain rfl : m = 9 := by omega
    exact br_t sp_10e h
  | succ d ih =>
    intro m e
    exact br_f (sp_10 (by omega)) ⟨11, xw_cl_in g (ih (m + 1) (by omega)) 10 0 rfl⟩
def sp_cl (t : Nat → Bool) (lo hi : Nat → Nat) (k : Nat) : Int32 := match t k with
  | true => sp_it (sp_ov t lo hi) ((1 : Int32) <<< (nI k &&& 31)) 9
  | false => 0
theorem sp_cl_t {t : Nat → Bool} {lo hi : Nat → Nat} {k : Nat} (h : t k = true) : sp_cl t lo hi k = sp_it (sp_ov t lo hi) ((1 : Int32) <<< (nI k &&& 31)) 9 := by unfold sp_cl; rw [h]
theorem sp_cl_f {t : Nat → Bool} {lo hi : Nat → Nat} {k : Nat} (h : t k = false) : sp_cl t lo hi k = 0 := by unfold sp_cl; rw [h]
theorem xw_cluster {post : Int32 → Prop} {t : Nat → Bool} {lo hi : Nat → Nat} {k : Nat} (g : sp_G lo hi) (hk : k < 10) (h : post (sp_cl t lo hi k)) : wpX_cluster post (sp_mk t 10, sp_L lo, sp_L hi) (nI k) := by
  unfold wpX_cluster
  dsimp only
  refine xw_isThere hk (xw_bb (fun z => ?_) (fun z => ?_))
  · rw [sp_cl_f z] at h
    exact h
  · rw [sp_cl_t z] at h
    exact nm_e ⟨10, xw_cl_out g h 9 0 rfl⟩
theorem xw_cluster0 {post : Int32 → Prop} {u : SX} {x : Int32} (hx : x < 0 ∨ nI 10 ≤ x) (h : post 0) : wpX_cluster post u x := by
  obtain ⟨f, al, ah⟩ := u
  unfold wpX_cluster
  dsimp only
  exact xw_isThere0 hx (br_t rfl h)
def sp_cq (t : Nat → Bool) (lo hi : Nat → Nat) (k : Nat) : Bool := t k && decide ((sp_cl t lo hi k &&& (((1 : Int32) <<< (nI k &&& 31)) - 1)) = 0)
theorem sp_cq_n {t : Nat → Bool} {lo hi : Nat → Nat} {k : Nat} (h : t k = false) : sp_cq t lo hi k = false := by unfold sp_cq; rw [h, Bool.false_and]
theorem sp_cq_y {t : Nat → Bool} {lo hi : Nat → Nat} {k : Nat} (h : t k = true) (e : (sp_cl t lo hi k &&& (((1 : Int32) <<< (nI k &&& 31)) - 1)) = 0) : sp_cq t lo hi k = true := by unfold sp_cq; rw [h, decide_eq_true e, Bool.true_and]
theorem sp_cq_z {t : Nat → Bool} {lo hi : Nat → Nat} {k : Nat} (e : ¬ (sp_cl t lo hi k &&& (((1 : Int32) <<< (nI k &&& 31)) - 1)) = 0) : sp_cq t lo hi k = false := by unfold sp_cq; rw [decide_eq_false e, Bool.and_false]
theorem xw_clusters {post : Int32 → Prop} {t : Nat → Bool} {lo hi : Nat → Nat} (g : sp_G lo hi) (h : post (nI (sp_ct (sp_cq t lo hi) 10))) : wpX_clusters post (sp_mk t 10, sp_L lo, sp_L hi) := by
  have l : ∀ d i, i + d = 10 → wX_clusters_4 post (sp_mk t 10) (sp_L lo) (sp_L hi) (d + 1) (nI (sp_ct (sp_cq t lo hi) i)) (nI i) := by
    intro d
    induction d with
    | zero =>
      intro i e
      obtain rfl : i = 10 := by omega
      exact br_t sp_10e h
    | succ d ih =>
      intro i e
      have j := ih (i + 1) (by omega)
      refine br_f (sp_10 (by omega)) (nm_e (xw_isThere (show i < 10 by omega) (xw_bb (fun z => ?_) (fun z => xw_cluster g (by omega) (br_c (fun y => ?_) (fun y => ?_))))))
      · rw [sp_ct_f (sp_cq_n z)] at j
        exact nm_r (nI_1 i) j
      · rw [sp_ct_t (sp_cq_y z y)] at j
        exact nm_r (nI_1 _) (nm_r (nI_1 i) j)
      · rw [sp_ct_f (sp_cq_z y)] at j
        exact nm_r (nI_1 i) j
  show ∃ n, wX_clusters_4 post (sp_mk t 10) (sp_L lo) (sp_L hi) n 0 0
  exact ⟨11, l 10 0 rfl⟩
/-! points -/
def sp_cv (lo hi : Nat → Nat) (k c : Nat) (x : Int32) : Bool := !decide (x < nI (lo (2 * k + c))) && !decide (nI (hi (2 * k + c)) < x)
theorem xw_covers {post : Int32 → Prop} {f : Int32} {lo hi : Nat → Nat} {k c : Nat} {x : Int32} (hk : k < 10) (hc : c < 2) (h : post (sp_b (sp_cv lo hi k c x))) : wpX_covers post (f, sp_L lo, sp_L hi) (nI k) (nI c) x := by
  have i : vp_in (nI (2 * k + c)) 20 := vp_in_nI (by omega) (by decide)
  unfold wpX_covers
  dsimp only
  rw [sp_ix k c, nI_clamp (n := 2 * k + c) (by omega)]
  refine ⟨i, br_c (fun z => ?_) (fun z => ⟨i, br_c (fun w => ?_) (fun w => ?_)⟩)⟩
  · exact xw_f h (by unfold sp_cv; rw [decide_eq_true (p := x < nI (lo (2 * k + c))) z]; rfl)
  · exact xw_f h (by unfold sp_cv; rw [decide_eq_true (p := nI (hi (2 * k + c)) < x) w, Bool.not_true, Bool.and_false])
  · exact xw_t h (by unfold sp_cv; rw [decide_eq_false (p := x < nI (lo (2 * k + c))) z, decide_eq_false (p := nI (hi (2 * k + c)) < x) w]; rfl)
theorem sp_hs_cv (t : Nat → Bool) (lo hi : Nat → Nat) (x y : Int32) (k : Nat) : sp_hs t lo hi x y k = (t k && (sp_cv lo hi k 0 x && sp_cv lo hi k 1 y)) := by
  unfold sp_hs sp_cv
  rw [Bool.and_assoc]
theorem xw_at {post : Int32 → Prop} {t : Nat → Bool} {lo hi : Nat → Nat} {x y : Int32} (h : post (sp_mk (sp_hs t lo hi x y) 10)) : wpX_at post (sp_mk t 10, sp_L lo, sp_L hi) x y := by
  have l : ∀ d i, i + d = 10 → wX_at_5 post x y (sp_mk t 10) (sp_L lo) (sp_L hi) (d + 1) (sp_mk (sp_hs t lo hi x y) i) (nI i) := by
    intro d
    induction d with
    | zero =>
      intro i e
      obtain rfl : i = 10 := by omega
      exact br_t sp_10e h
    | succ d ih =>
      intro i e
      have j := ih (i + 1) (by omega)
      have hh := sp_hs_cv t lo hi x y i
      have hi10 : i < 10 := by omega
      refine br_f (sp_10 hi10) (xw_isThere hi10 (xw_bb (fun z => ?_) (fun z => ?_)))
      · rw [sp_mk_f (hh.trans (by rw [z, Bool.false_and]))] at j
        exact nm_r (nI_1 i) j
      refine xw_covers (c := 0) hi10 (by decide) (xw_bb (fun z0 => ?_) (fun z0 => ?_))
      · rw [sp_mk_f (hh.trans (by rw [z0, Bool.false_and, Bool.and_false]))] at j
        exact nm_r (nI_1 i) j
      refine xw_covers (c := 1) hi10 (by decide) (xw_bb (fun z1 => ?_) (fun z1 => ?_))
      · rw [sp_mk_f (hh.trans (by rw [z1, Bool.and_false, Bool.and_false]))] at j
        exact nm_r (nI_1 i) j
      · rw [sp_mk_t (hh.trans (by rw [z, z0, z1, Bool.and_true, Bool.and_true]))] at j
        exact nm_e (nm_r (nI_1 i) j)
  show ∃ n, wX_at_5 post x y (sp_mk t 10) (sp_L lo) (sp_L hi) n 0 0
  exact ⟨11, l 10 0 rfl⟩
theorem xw_depthAt {post : Int32 → Prop} {t : Nat → Bool} {lo hi : Nat → Nat} {x y : Int32} (h : post (nI (sp_D t lo hi x y))) : wpX_depthAt post (sp_mk t 10, sp_L lo, sp_L hi) x y := by
  unfold wpX_depthAt
  dsimp only
  exact xw_at (xw_countBits h)
theorem sp_mx_le10 {f : Nat → Nat} {m : Nat} (hf : ∀ i, f i ≤ 10) (hm : m ≤ 10) (n : Nat) : sp_mx f m n ≤ 10 := sp_mx_le hm n (fun i _ => hf i)
theorem sp_mx_y {f : Nat → Nat} {m n : Nat} (h : f n ≤ sp_mx f m n) : sp_mx f m (n + 1) = sp_mx f m n := by rw [sp_mx, if_pos h]
theorem sp_mx_n {f : Nat → Nat} {m n : Nat} (h : ¬ f n ≤ sp_mx f m n) : sp_mx f m (n + 1) = f n := by rw [sp_mx, if_neg h]
theorem sp_fX_f {t : Nat → Bool} {lo hi : Nat → Nat} {a b : Nat} (h : (t a && t b) = false) : sp_fX t lo hi a b = 0 := by unfold sp_fX; rw [h]
theorem sp_fX_t {t : Nat → Bool} {lo hi : Nat → Nat} {a b : Nat} (ha : t a = true) (hb : t b = true) : sp_fX t lo hi a b = sp_D t lo hi (nI (lo (2 * a + 0))) (nI (lo (2 * b + 1))) := by unfold sp_fX; rw [ha, hb]; rfl
theorem xw_dp_in {post : Int32 → Prop} {J4 : Int32 → Int32 → Prop} {t : Nat → Bool} {lo hi : Nat → Nat} {a m : Nat} (ha : a < 10) (hm : m ≤ 10) (hJ : J4 (nI (sp_mx (sp_fX t lo hi a) m 10)) (nI (a + 1))) : ∀ d b, b + d = 10 → wX_deepest_12 post J4 (nI a) (sp_mk t 10) (sp_L lo) (sp_L hi) (d + 1) (nI (sp_mx (sp_fX t lo hi a) m b)) (nI b) := by
  intro d
  induction d with
  | zero =>
    intro b e
    obtain rfl : b = 10 := by omega
    exact br_t sp_10e (nm_r (nI_1 a) hJ)
  | succ d ih =>
    intro b e
    have j := ih (b + 1) (by omega)
    have hb : b < 10 := by omega
    have hq := sp_mx_le10 (fun i => sp_fX_le t lo hi a i) hm b
    have hr := sp_fX_le t lo hi a b
    have ia : vp_in ((2 : Int32) * nI a + 0) 20 := pk_in (2 * a + 0) 20 (by omega) (sp_ix a 0)
    have ib : vp_in ((2 : Int32) * nI b + 1) 20 := pk_in (2 * b + 1) 20 (by omega) (sp_ix b 1)
    have ea : sp_L lo ((2 : Int32) * nI a + 0).toNatClampNeg = nI (lo (2 * a + 0)) := congrArg (sp_L lo) (pk_cl (2 * a + 0) (sp_ix a 0))
    have eb : sp_L lo ((2 : Int32) * nI b + 1).toNatClampNeg = nI (lo (2 * b + 1)) := congrArg (sp_L lo) (pk_cl (2 * b + 1) (sp_ix b 1))
    refine br_f (sp_10 hb) (xw_isThere ha (xw_bb (fun za => ?_) (fun za => xw_isThere hb (xw_bb (fun zb => ?_) (fun zb => ⟨ia, ib, ?_⟩)))))
    · have z : sp_fX t lo hi a b = 0 := sp_fX_f (by rw [za, Bool.false_and])
      rw [sp_mx_y (by omega)] at j
      exact nm_r (nI_1 b) j
    · have z : sp_fX t lo hi a b = 0 := sp_fX_f (by rw [zb, Bool.and_false])
      rw [sp_mx_y (by omega)] at j
      exact nm_r (nI_1 b) j
    · rw [ea, eb]
      refine xw_depthAt ?_
      rw [← sp_fX_t za zb]
      refine pk_le (sp_fX t lo hi a b) (sp_mx (sp_fX t lo hi a) m b) (fun z => ?_) (fun z => ?_)
      · rw [sp_mx_y z] at j
        exact nm_r (nI_1 b) j
      · rw [sp_mx_n (by omega)] at j
        exact nm_r (nI_1 b) j
theorem xw_deepest {post : Int32 → Prop} {t : Nat → Bool} {lo hi : Nat → Nat} (h : post (nI (sp_m2 (sp_fX t lo hi) 10 10))) : wpX_deepest post (sp_mk t 10, sp_L lo, sp_L hi) := by
  have l : ∀ d a, a + d = 10 → wX_deepest_4 post (sp_mk t 10) (sp_L lo) (sp_L hi) (d + 1) (nI (sp_m2 (sp_fX t lo hi) 10 a)) (nI a) := by
    intro d
    induction d with
    | zero =>
      intro a e
      obtain rfl : a = 10 := by omega
      exact br_t sp_10e h
    | succ d ih =>
      intro a e
      exact br_f (sp_10 (by omega)) ⟨11, xw_dp_in (by omega) (sp_m2_le a (fun i _ b _ => sp_fX_le t lo hi i b)) (ih (a + 1) (by omega)) 10 0 rfl⟩
  show ∃ n, wX_deepest_4 post (sp_mk t 10) (sp_L lo) (sp_L hi) n 0 0
  exact ⟨11, l 10 0 rfl⟩
/-! ranks -/
def sp_cmp (lo : Nat → Nat) (a b c : Nat) : Bool := decide (lo (2 * a + c) < lo (2 * b + c)) || (decide (lo (2 * a + c) = lo (2 * b + c)) && decide (a < b))
theorem xw_before {post : Int32 → Prop} {f : Int32} {lo hi : Nat → Nat} {a b c : Nat} (g : sp_G lo hi) (ha : a < 10) (hb : b < 10) (hc : c < 2) (h : post (sp_b (sp_cmp lo a b c))) : wpX_comesBefore post (f, sp_L lo, sp_L hi) (nI a) (nI b) (nI c) := by
  have ga := g (2 * a + c)
  have gb := g (2 * b + c)
  unfold wpX_comesBefore
  dsimp only
  rw [sp_ix a c, sp_ix b c, nI_clamp (n := 2 * a + c) (by omega), nI_clamp (n := 2 * b + c) (by omega)]
  refine ⟨vp_in_nI (by omega) (by decide), nm_e ⟨vp_in_nI (by omega) (by decide), nm_e ?_⟩⟩
  refine pk_lt (lo (2 * a + c)) (lo (2 * b + c)) (fun z => ?_) (fun z => pk_eq (lo (2 * a + c)) (lo (2 * b + c)) (fun y => pk_le b a (fun w => ?_) (fun w => ?_)) (fun y => ?_))
  · exact xw_t h (by unfold sp_cmp; rw [decide_eq_true z, Bool.true_or])
  · exact xw_f h (by unfold sp_cmp; rw [decide_eq_false (by omega), decide_eq_false (p := a < b) (by omega), Bool.and_false, Bool.or_false])
  · exact xw_t h (by unfold sp_cmp; rw [decide_eq_true y, decide_eq_true w, Bool.and_true, Bool.or_true])
  · exact xw_f h (by unfold sp_cmp; rw [decide_eq_false (p := lo (2 * a + c) < lo (2 * b + c)) (by omega), decide_eq_false (p := lo (2 * a + c) = lo (2 * b + c)) y, Bool.false_and, Bool.or_false])
theorem sp_bf_cmp (t : Nat → Bool) (lo : Nat → Nat) (k c j : Nat) : sp_bf t lo k c j = (t j && sp_cmp lo j k c) := rfl
theorem xw_rank_l {post : Int32 → Prop} {t : Nat → Bool} {lo hi : Nat → Nat} {k c : Nat} (g : sp_G lo hi) (hk : k < 10) (hc : c < 2) (h : post (nI (sp_ct (sp_bf t lo k c) 10))) : ∀ d i, i + d = 10 → wX_rank_24 post (nI k) (nI c) (sp_mk t 10) (sp_L lo) (sp_L hi) (d + 1) (nI (sp_ct (sp_bf t lo k c) i)) (nI i) := by
  intro d
  induction d with
  | zero =>
    intro i e
    obtain rfl : i = 10 := by omega
    exact br_t sp_10e h
  | succ d ih =>
    intro i e
    have j := ih (i + 1) (by omega)
    have hh := sp_bf_cmp t lo k c i
    have hi10 : i < 10 := by omega
    refine br_f (sp_10 hi10) (xw_isThere hi10 (xw_bb (fun z => ?_) (fun z => xw_before g hi10 hk hc (xw_bb (fun y => ?_) (fun y => ?_)))))
    · rw [sp_ct_f (hh.trans (by rw [z, Bool.false_and]))] at j
      exact nm_r (nI_1 i) j
    · rw [sp_ct_f (hh.trans (by rw [y, Bool.and_false]))] at j
      exact nm_r (nI_1 i) j
    · rw [sp_ct_t (hh.trans (by rw [z, y, Bool.and_true]))] at j
      exact nm_r (nI_1 _) (nm_r (nI_1 i) j)
/-! within -/
def sp_sw (lo hi : Nat → Nat) (a b c : Nat) : Bool := decide (lo (2 * b + c) ≤ lo (2 * a + c)) && decide (hi (2 * a + c) ≤ hi (2 * b + c))
theorem xw_spanWithin {post : Int32 → Prop} {f : Int32} {lo hi : Nat → Nat} {a b c : Nat} (g : sp_G lo hi) (ha : a < 10) (hb : b < 10) (hc : c < 2) (h : post (sp_b (sp_sw lo hi a b c))) : wpX_spanWithin post (f, sp_L lo, sp_L hi) (nI a) (nI b) (nI c) := by
  have ga := g (2 * a + c)
  have gb := g (2 * b + c)
  have ia : vp_in (nI (2 * a + c)) 20 := vp_in_nI (by omega) (by decide)
  have ib : vp_in (nI (2 * b + c)) 20 := vp_in_nI (by omega) (by decide)
  unfold wpX_spanWithin
  dsimp only
  rw [sp_ix a c, sp_ix b c, nI_clamp (n := 2 * a + c) (by omega), nI_clamp (n := 2 * b + c) (by omega)]
  refine ⟨ia, ib, pk_lt (lo (2 * a + c)) (lo (2 * b + c)) (fun z => ?_) (fun z => ⟨ia, ib, pk_lt (hi (2 * b + c)) (hi (2 * a + c)) (fun w => ?_) (fun w => ?_)⟩)⟩
  · exact xw_f h (by unfold sp_sw; rw [decide_eq_false (by omega), Bool.false_and])
  · exact xw_f h (by unfold sp_sw; rw [decide_eq_false (p := hi (2 * a + c) ≤ hi (2 * b + c)) (by omega), Bool.and_false])
  · exact xw_t h (by unfold sp_sw; rw [decide_eq_true z, decide_eq_true w, Bool.true_and])
def sp_wi (t : Nat → Bool) (lo hi : Nat → Nat) (a b : Nat) : Bool := !decide (a = b) && (t a && (t b && (sp_sw lo hi a b 0 && sp_sw lo hi a b 1)))
theorem xw_within {post : Int32 → Prop} {t : Nat → Bool} {lo hi : Nat → Nat} {a b : Nat} (g : sp_G lo hi) (ha : a < 10) (hb : b < 10) (h : post (sp_b (sp_wi t lo hi a b))) : wpX_within post (sp_mk t 10, sp_L lo, sp_L hi) (nI a) (nI b) := by
  by_cases e : a = b
  · subst e
    exact br_t rfl (xw_f h (by simp [sp_wi]))
  · refine br_f (fun z => e ((nI_eq (by omega) (by omega)).mp z)) ?_
    refine xw_isThere ha (xw_bb (fun ta => ?_) (fun ta => ?_))
    · exact xw_f h (by simp [sp_wi, ta])
    refine xw_isThere hb (xw_bb (fun tb => ?_) (fun tb => ?_))
    · exact xw_f h (by simp [sp_wi, tb])
    refine xw_spanWithin (c := 0) g ha hb (by decide) (xw_bb (fun s0 => ?_) (fun s0 => ?_))
    · exact xw_f h (by simp [sp_wi, s0])
    refine xw_spanWithin (c := 1) g ha hb (by decide) (xw_bb (fun s1 => ?_) (fun s1 => ?_))
    · exact xw_f h (by simp [sp_wi, s1])
    · exact xw_t h (by simp [sp_wi, e, ta, tb, s0, s1])
end
section
/-! the reference's walks over the same picture -/
def sp_B (t : Nat → Bool) : Nat → Int32 := fun k => sp_b (t k)
def sp_E (lo hi : Nat → Nat) : Nat → Int32 := fun i => if i % 2 = 0 then nI (lo (i / 2)) else nI (hi (i / 2))
theorem sp_E_l (lo hi : Nat → Nat) (j : Nat) : sp_E lo hi (2 * j) = nI (lo j) := by
  have h1 : 2 * j % 2 = 0 := by omega
  have h2 : 2 * j / 2 = j := by omega
  unfold sp_E
  rw [if_pos h1, h2]
theorem sp_E_h (lo hi : Nat → Nat) (j : Nat) : sp_E lo hi (2 * j + 1) = nI (hi j) := by
  have h1 : ¬ (2 * j + 1) % 2 = 0 := by omega
  have h2 : (2 * j + 1) / 2 = j := by omega
  unfold sp_E
  rw [if_neg h1, h2]
theorem sp_E_ul (lo hi : Nat → Nat) (j v : Nat) : upd (sp_E lo hi) (2 * j) (nI v) = sp_E (sp_up lo j v) hi := by
  funext i
  by_cases h : i = 2 * j
  · subst h
    rw [pk_us, sp_E_l, sp_up_s]
  · rw [pk_un h]
    unfold sp_E
    by_cases h1 : i % 2 = 0
    · rw [if_pos h1, if_pos h1, sp_up_n (by omega)]
    · rw [if_neg h1, if_neg h1]
theorem sp_E_uh (lo hi : Nat → Nat) (j v : Nat) : upd (sp_E lo hi) (2 * j + 1) (nI v) = sp_E lo (sp_up hi j v) := by
  funext i
  by_cases h : i = 2 * j + 1
  · subst h
    rw [pk_us, sp_E_h, sp_up_s]
  · rw [pk_un h]
    unfold sp_E
    by_cases h1 : i % 2 = 0
    · rw [if_pos h1, if_pos h1]
    · rw [if_neg h1, if_neg h1, sp_up_n (by omega)]
theorem sp_B_u (t : Nat → Bool) (k : Nat) (x : Bool) : upd (sp_B t) k (sp_b x) = sp_B (sp_up t k x) := by
  funext i
  by_cases h : i = k
  · subst h
    rw [pk_us]
    show sp_b x = sp_b (sp_up t i x i)
    rw [sp_up_s]
  · rw [pk_un h]
    show sp_b (t i) = sp_b (sp_up t k x i)
    rw [sp_up_n h]
theorem sp_nar (x : Bool) : vp_nar .boolean (sp_b x) = sp_b x := by cases x <;> rfl
theorem sp_i4 (a e : Nat) : (4 : Int32) * nI a + nI e = nI (4 * a + e) := by
  rw [show (4 : Int32) = nI 4 from rfl, pk_mul, nI_add]
theorem sp_j4 (a : Nat) : (4 : Int32) * nI a = nI (4 * a) := by
  rw [show (4 : Int32) = nI 4 from rfl, pk_mul]
/-- the four cells of box a: place 2 j of the array is the low of span j, place 2 j + 1 its high -/
theorem yw_l {lo hi : Nat → Nat} {x : Int32} {a c : Nat} (ha : a < 10) (hc : c < 2) (e : x = nI (4 * a + 2 * c)) : vp_in x 40 ∧ sp_E lo hi x.toNatClampNeg = nI (lo (2 * a + c)) := by
  subst e
  refine ⟨vp_in_nI (by omega) (by decide), ?_⟩
  rw [nI_clamp (by omega), show 4 * a + 2 * c = 2 * (2 * a + c) from by omega, sp_E_l]
theorem yw_h {lo hi : Nat → Nat} {x : Int32} {a c : Nat} (ha : a < 10) (hc : c < 2) (e : x = nI (4 * a + 2 * c + 1)) : vp_in x 40 ∧ sp_E lo hi x.toNatClampNeg = nI (hi (2 * a + c)) := by
  subst e
  refine ⟨vp_in_nI (by omega) (by decide), ?_⟩
  rw [nI_clamp (by omega), show 4 * a + 2 * c + 1 = 2 * (2 * a + c) + 1 from by omega, sp_E_h]
theorem yw_B {t : Nat → Bool} {k : Nat} (hk : k < 10) : sp_B t (nI k).toNatClampNeg = sp_b (t k) := by
  rw [nI_clamp (by omega)]; rfl
theorem yw_is {post : Int32 → Prop} {t : Nat → Bool} {ae ab : Nat → Int32} {k : Nat} (hk : k < 10) (h : post (sp_b (t k))) : wpY_is post (sp_B t, ae, ab) (nI k) := by
  refine br_f (nI_pos (by omega)) (br_f (nI_nlt (a := 9) (by omega) (by decide)) ⟨vp_in_nI hk (by decide), ?_⟩)
  rw [yw_B hk]
  exact xw_bb (fun z => xw_f h z) (fun z => xw_t h z)
theorem yw_is0 {post : Int32 → Prop} {u : SY} {x : Int32} (hx : x < 0 ∨ nI 10 ≤ x) (h : post 0) : wpY_is post u x := by
  obtain ⟨f, al, ah⟩ := u
  rcases hx with hx | hx
  · exact br_t hx h
  · exact br_f (Int32.not_lt.mpr (Int32.le_trans (by decide) hx)) (br_t (Int32.lt_of_lt_of_le (by decide) hx) h)
theorem yw_meet46 {post : Int32 → Prop} {lo hi : Nat → Nat} {at' ab : Nat → Int32} {a b c v : Nat} {p : Int32} (g : sp_G lo hi) (ha : a < 10) (hb : b < 10) (hc : c < 2) (hp : p = nI (2 * c)) (hv : v < 100) (h : post (sp_b (decide (v ≤ hi (2 * a + c)) && decide (v ≤ hi (2 * b + c))))) : wY_meet_46 post (nI a) (nI b) p (nI v) at' (sp_E lo hi) ab := by
  subst hp
  have ga := g (2 * a + c)
  have gb := g (2 * b + c)
  have ea : (4 : Int32) * nI a + nI (2 * c) + 1 = nI (4 * a + 2 * c + 1) := by rw [sp_i4, nI_1]
  have eb : (4 : Int32) * nI b + nI (2 * c) + 1 = nI (4 * b + 2 * c + 1) := by rw [sp_i4, nI_1]
  obtain ⟨ia, va⟩ := yw_h (lo := lo) (hi := hi) ha hc ea
  obtain ⟨ib, vb⟩ := yw_h (lo := lo) (hi := hi) hb hc eb
  unfold wY_meet_46
  rw [va, vb]
  refine ⟨ia, ib, pk_le (hi (2 * b + c)) (hi (2 * a + c)) (fun z => ⟨ib, ?_⟩) (fun z => ⟨ia, ?_⟩)⟩
  · refine pk_lt (hi (2 * b + c)) v (fun w => ?_) (fun w => ?_)
    · exact xw_f h (by rw [decide_eq_false (p := v ≤ hi (2 * b + c)) (by omega), Bool.and_false])
    · exact xw_t h (by rw [decide_eq_true (p := v ≤ hi (2 * a + c)) (by omega), decide_eq_true (by omega), Bool.true_and])
  · refine pk_lt (hi (2 * a + c)) v (fun w => ?_) (fun w => ?_)
    · exact xw_f h (by rw [decide_eq_false (p := v ≤ hi (2 * a + c)) (by omega), Bool.false_and])
    · exact xw_t h (by rw [decide_eq_true (p := v ≤ hi (2 * a + c)) (by omega), decide_eq_true (by omega), Bool.true_and])
theorem yw_meet {post : Int32 → Prop} {lo hi : Nat → Nat} {at' ab : Nat → Int32} {a b c : Nat} {p : Int32} (g : sp_G lo hi) (ha : a < 10) (hb : b < 10) (hc : c < 2) (hp : p = nI (2 * c)) (h : post (sp_b (sp_sm lo hi a b c))) : wpY_meet post (at', sp_E lo hi, ab) (nI a) (nI b) p := by
  have ga := g (2 * a + c)
  have gb := g (2 * b + c)
  have ea : (4 : Int32) * nI a + p = nI (4 * a + 2 * c) := by rw [hp, sp_i4]
  have eb : (4 : Int32) * nI b + p = nI (4 * b + 2 * c) := by rw [hp, sp_i4]
  obtain ⟨ia, va⟩ := yw_l (lo := lo) (hi := hi) ha hc ea
  obtain ⟨ib, vb⟩ := yw_l (lo := lo) (hi := hi) hb hc eb
  unfold wpY_meet
  dsimp only
  rw [va, vb]
  refine ⟨ia, ib, pk_le (lo (2 * a + c)) (lo (2 * b + c)) (fun z => ⟨ib, yw_meet46 g ha hb hc hp (by omega) ?_⟩) (fun z => ⟨ia, yw_meet46 g ha hb hc hp (by omega) ?_⟩)⟩
  · have e : (decide (lo (2 * b + c) ≤ hi (2 * a + c)) && decide (lo (2 * b + c) ≤ hi (2 * b + c))) = sp_sm lo hi a b c := by
      unfold sp_sm
      rw [Bool.eq_iff_iff]
      simp only [Bool.and_eq_true, decide_eq_true_eq]
      omega
    rw [e]; exact h
  · have e : (decide (lo (2 * a + c) ≤ hi (2 * a + c)) && decide (lo (2 * a + c) ≤ hi (2 * b + c))) = sp_sm lo hi a b c := by
      unfold sp_sm
      rw [Bool.eq_iff_iff]
      simp only [Bool.and_eq_true, decide_eq_true_eq]
      omega
    rw [e]; exact h
theorem yw_overlap {post : Int32 → Prop} {t : Nat → Bool} {lo hi : Nat → Nat} {ab : Nat → Int32} {a b : Nat} (g : sp_G lo hi) (ha : a < 10) (hb : b < 10) (h : post (sp_b (sp_ov t lo hi a b))) : wpY_overlap post (sp_B t, sp_E lo hi, ab) (nI a) (nI b) := by
  by_cases e : a = b
  · subst e
    exact br_t rfl (xw_f h (sp_ov_s t lo hi a))
  · refine br_f (fun z => e ((nI_eq (by omega) (by omega)).mp z)) ⟨vp_in_nI ha (by decide), ?_⟩
    rw [yw_B ha]
    refine xw_bb (fun ta => ?_) (fun ta => ⟨vp_in_nI hb (by decide), ?_⟩)
    · exact xw_f h (by simp [sp_ov, ta])
    rw [yw_B hb]
    refine xw_bb (fun tb => ?_) (fun tb => ?_)
    · exact xw_f h (by simp [sp_ov, tb])
    refine yw_meet (c := 0) g ha hb (by decide) rfl (xw_bb (fun s0 => ?_) (fun s0 => ?_))
    · exact xw_f h (by simp [sp_ov, s0])
    refine yw_meet (c := 1) g ha hb (by decide) rfl (xw_bb (fun s1 => ?_) (fun s1 => ?_))
    · exact xw_f h (by simp [sp_ov, s1])
    · exact xw_t h (by simp [sp_ov, e, ta, tb, s0, s1])
/-! the hundred cells -/
theorem sp_100 {i : Nat} (h : i < 100) : ¬ (100 : Int32) ≤ nI i := nI_ge (b := 100) h (by decide)
theorem sp_100e : (100 : Int32) ≤ nI 100 := nI_le (a := 100) (Nat.le_refl 100) (by decide)
theorem sp_d10 {w : Nat} (h : w < 100) : nI w / (10 : Int32) = nI (w / 10) := pk_div (d := 10) (by omega) (by decide) (by decide)
theorem sp_r10 {w : Nat} (h : w < 100) : nI w - nI w / (10 : Int32) * 10 = nI (w % 10) := pk_rem (d := 10) (by omega) (by decide) (by decide)
def sp_K (t : Nat → Bool) (lo hi : Nat → Nat) (ab : Nat → Int32) : Prop := ∀ c, c < 100 → ab c = sp_b (sp_ov t lo hi (c / 10) (c % 10))
theorem yw_keep {post : SY → Prop} {t : Nat → Bool} {lo hi : Nat → Nat} {ab : Nat → Int32} (g : sp_G lo hi) (h : ∀ ab', sp_K t lo hi ab' → post (sp_B t, sp_E lo hi, ab')) : wpY_keep post (sp_B t, sp_E lo hi, ab) := by
  have l : ∀ d i ab, i + d = 100 → (∀ c, c < i → ab c = sp_b (sp_ov t lo hi (c / 10) (c % 10))) → wY_keep_2 post (d + 1) (nI i) (sp_B t) (sp_E lo hi) ab := by
    intro d
    induction d with
    | zero =>
      intro i ab e hab
      obtain rfl : i = 100 := by omega
      exact br_t sp_100e (h ab hab)
    | succ d ih =>
      intro i ab e hab
      have h100 : i < 100 := by omega
      refine br_f (sp_100 h100) ⟨by decide, by decide, ?_⟩
      rw [sp_r10 h100, sp_d10 h100]
      refine yw_overlap g (by omega) (by omega) ⟨vp_in_nI h100 (by decide), nm_e (nm_r (nI_1 i) (ih (i + 1) _ (by omega) ?_))⟩
      intro c hc
      rw [nI_clamp (by omega), sp_nar]
      by_cases z : c = i
      · subst z; rw [pk_us]
      · rw [pk_un z]; exact hab c (by omega)
  show ∃ n, wY_keep_2 post n 0 (sp_B t) (sp_E lo hi) ab
  exact ⟨101, l 100 0 ab rfl (fun c hc => absurd hc (by omega))⟩
theorem sp_beq {x y : Bool} {A B : Prop} (f : (x ^^ y) = false → A) (g : (x ^^ y) = true → B) : (sp_b x = sp_b y → A) ∧ (¬ sp_b x = sp_b y → B) := by
  cases x <;> cases y
  · exact br_t rfl (f rfl)
  · exact br_f (by decide) (g rfl)
  · exact br_f (by decide) (g rfl)
  · exact br_t rfl (f rfl)
theorem yw_changed {post : Int32 → Prop} {t s : Nat → Bool} {lo hi l h' : Nat → Nat} {ab : Nat → Int32} (g : sp_G lo hi) (K : sp_K s l h' ab) (h : post (nI (sp_ct (sp_q (fun a b => sp_ov s l h' a b ^^ sp_ov t lo hi a b)) 100))) : wpY_changed post (sp_B t, sp_E lo hi, ab) := by
  have w : ∀ d i, i + d = 100 → wY_changed_4 post (sp_B t) (sp_E lo hi) ab (d + 1) (nI (sp_ct (sp_q (fun a b => sp_ov s l h' a b ^^ sp_ov t lo hi a b)) i)) (nI i) := by
    intro d
    induction d with
    | zero =>
      intro i e
      obtain rfl : i = 100 := by omega
      exact br_t sp_100e h
    | succ d ih =>
      intro i e
      have j := ih (i + 1) (by omega)
      have h100 : i < 100 := by omega
      refine br_f (sp_100 h100) ⟨by decide, by decide, ?_⟩
      rw [sp_r10 h100, sp_d10 h100]
      refine pk_le (i % 10) (i / 10) (fun z => ?_) (fun z => ⟨vp_in_nI h100 (by decide), by decide, by decide, yw_overlap g (by omega) (by omega) ?_⟩)
      · rw [sp_ct_f (show sp_q _ i = false by unfold sp_q; rw [decide_eq_false (by omega), Bool.false_and])] at j
        exact nm_r (nI_1 i) j
      · rw [nI_clamp (by omega), K i h100]
        refine sp_beq (fun y => ?_) (fun y => ?_)
        · rw [sp_ct_f (show sp_q _ i = false by unfold sp_q; dsimp only; rw [y, Bool.and_false])] at j
          exact nm_r (nI_1 i) j
        · rw [sp_ct_t (show sp_q _ i = true by unfold sp_q; dsimp only; rw [y, Bool.and_true, decide_eq_true z])] at j
          exact nm_r (nI_1 _) (nm_r (nI_1 i) j)
  show ∃ n, wY_changed_4 post (sp_B t) (sp_E lo hi) ab n 0 0
  exact ⟨101, w 100 0 rfl⟩
theorem yw_lay {post : SY → Prop} {t : Nat → Bool} {lo hi : Nat → Nat} {ab : Nat → Int32} {k x0 x1 y0 y1 : Nat} (hk : k < 10) (h : post (sp_B (sp_up t k true), sp_E (sp_up (sp_up lo (2 * k + 0) x0) (2 * k + 1) y0) (sp_up (sp_up hi (2 * k + 0) x1) (2 * k + 1) y1), ab)) : wpY_lay post (sp_B t, sp_E lo hi, ab) (nI k) (nI x0) (nI x1) (nI y0) (nI y1) := by
  have e1 : (4 : Int32) * nI k + 1 = nI (4 * k + 1) := sp_i4 k 1
  have e2 : (4 : Int32) * nI k + 2 = nI (4 * k + 2) := sp_i4 k 2
  have e3 : (4 : Int32) * nI k + 3 = nI (4 * k + 3) := sp_i4 k 3
  have c0 : (nI (4 * k)).toNatClampNeg = 2 * (2 * k + 0) := by rw [nI_clamp (by omega)]; omega
  have c1 : (nI (4 * k + 1)).toNatClampNeg = 2 * (2 * k + 0) + 1 := by rw [nI_clamp (by omega)]; omega
  have c2 : (nI (4 * k + 2)).toNatClampNeg = 2 * (2 * k + 1) := by rw [nI_clamp (by omega)]; omega
  have c3 : (nI (4 * k + 3)).toNatClampNeg = 2 * (2 * k + 1) + 1 := by rw [nI_clamp (by omega)]; omega
  unfold wpY_lay
  dsimp only
  rw [e1, e2, e3, sp_j4, c0, c1, c2, c3, nI_clamp (n := k) (by omega)]
  refine ⟨vp_in_nI hk (by decide), nm_r (sp_B_u t k true) ⟨vp_in_nI (by omega) (by decide), nm_r (sp_E_ul _ _ _ _) ⟨vp_in_nI (by omega) (by decide), nm_r (sp_E_uh _ _ _ _) ⟨vp_in_nI (by omega) (by decide), nm_r (sp_E_ul _ _ _ _) ⟨vp_in_nI (by omega) (by decide), nm_r (sp_E_uh _ _ _ _) h⟩⟩⟩⟩⟩
theorem yw_span_y {post : Int32 → Prop} {u : SY} {w : Nat} (hw : w < 10000) (hs : w % 100 ≤ w / 100) (h : post 1) : wpY_span post u (nI w) := by
  obtain ⟨f, al, ah⟩ := u
  exact br_f (nI_pos (by omega)) (br_f (nI_nlt (a := 9999) (by omega) (by decide)) ⟨by decide, by decide, pk_lt (w / 100) (w % 100) (fun z => absurd hs (by omega)) (fun _ => h) (sp_d100 hw) (sp_r100 hw)⟩)
theorem yw_span_n {post : Int32 → Prop} {u : SY} {x : Int32} (hx : ¬ sp_Sp x) (h : post 0) : wpY_span post u x := by
  obtain ⟨f, al, ah⟩ := u
  rcases pk_ix x (n := 10000) (by decide) with z | z | ⟨w, hw, rfl⟩
  · exact br_t z h
  · exact br_f (Int32.not_lt.mpr (Int32.le_trans (by decide) z)) (br_t (Int32.lt_of_lt_of_le (by decide) z) h)
  · exact br_f (nI_pos (by omega)) (br_f (nI_nlt (a := 9999) (by omega) (by decide)) ⟨by decide, by decide, pk_lt (w / 100) (w % 100) (fun _ => h) (fun z => absurd ⟨w, hw, z, rfl⟩ hx) (sp_d100 hw) (sp_r100 hw)⟩)
theorem sp_l64 (a b : Int32) : (a.toInt64 + b.toInt64).toInt = a.toInt + b.toInt := by
  have ha := Int32.toInt_lt a
  have hb := Int32.toInt_lt b
  have ha' := Int32.le_toInt a
  have hb' := Int32.le_toInt b
  rw [Int64.toInt_add, Int32.toInt_toInt64, Int32.toInt_toInt64]
  exact Int.bmod_eq_of_le (by omega) (by omega)
theorem yw_stays {post : Int32 → Prop} {at' ab : Nat → Int32} {lo hi : Nat → Nat} {k c : Nat} {p d : Int32} (g : sp_G lo hi) (hk : k < 10) (hc : c < 2) (hp : p = nI (2 * c)) (h : post (sp_b (sp_st lo hi k c d))) : wpY_stays post (at', sp_E lo hi, ab) (nI k) p d := by
  have gj := g (2 * k + c)
  have ea : (4 : Int32) * nI k + p = nI (4 * k + 2 * c) := by rw [hp, sp_i4]
  have eb : (4 : Int32) * nI k + p + 1 = nI (4 * k + 2 * c + 1) := by rw [ea, nI_1]
  obtain ⟨ia, va⟩ := yw_l (lo := lo) (hi := hi) hk hc ea
  obtain ⟨ib, vb⟩ := yw_h (lo := lo) (hi := hi) hk hc eb
  unfold wpY_stays
  dsimp only
  rw [va, vb]
  have e1 : (nI (lo (2 * k + c))).toInt64 + d.toInt64 < 0 ↔ ¬ 0 ≤ (lo (2 * k + c) : Int) + d.toInt := by
    rw [Int64.lt_iff_toInt_lt, sp_l64, nI_toInt (by omega), show (0 : Int64).toInt = 0 from by decide]
    omega
  have e2 : 99 < (nI (hi (2 * k + c))).toInt64 + d.toInt64 ↔ ¬ (hi (2 * k + c) : Int) + d.toInt ≤ 99 := by
    rw [Int64.lt_iff_toInt_lt, sp_l64, nI_toInt (by omega), show (99 : Int64).toInt = 99 from by decide]
    omega
  refine ⟨ia, br_c (fun z => ?_) (fun z => ⟨ib, br_c (fun w => ?_) (fun w => ?_)⟩)⟩
  · exact xw_f h (by unfold sp_st; rw [decide_eq_false (e1.mp z), Bool.false_and])
  · exact xw_f h (by unfold sp_st; rw [decide_eq_false (e2.mp w), Bool.and_false])
  · have a : 0 ≤ (lo (2 * k + c) : Int) + d.toInt := by rw [e1] at z; omega
    have b : (hi (2 * k + c) : Int) + d.toInt ≤ 99 := by rw [e2] at w; omega
    exact xw_t h (by unfold sp_st; rw [decide_eq_true a, decide_eq_true b, Bool.true_and])
end
section
/-! the reference's walks: sets, pairs, clusters, points, ranks -/
theorem yw_boxes {post : Int32 → Prop} {t : Nat → Bool} {ae ab : Nat → Int32} (h : post (sp_mk t 10)) : wpY_boxes post (sp_B t, ae, ab) := by
  have l : ∀ d i, i + d = 10 → wY_boxes_4 post (sp_B t) ae ab (d + 1) (sp_mk t i) (nI i) := by
    intro d
    induction d with
    | zero =>
      intro i e
      obtain rfl : i = 10 := by omega
      exact br_t sp_10e h
    | succ d ih =>
      intro i e
      have j := ih (i + 1) (by omega)
      have h10 : i < 10 := by omega
      refine br_f (sp_10 h10) ⟨vp_in_nI h10 (by decide), ?_⟩
      rw [yw_B h10]
      refine xw_bb (fun z => ?_) (fun z => ?_)
      · rw [sp_mk_f z] at j
        exact nm_r (nI_1 i) j
      · rw [sp_mk_t z] at j
        exact nm_e (nm_r (nI_1 i) j)
  show ∃ n, wY_boxes_4 post (sp_B t) ae ab n 0 0
  exact ⟨11, l 10 0 rfl⟩
theorem yw_partners {post : Int32 → Prop} {t : Nat → Bool} {lo hi : Nat → Nat} {ab : Nat → Int32} {k : Nat} (g : sp_G lo hi) (hk : k < 10) (h : post (sp_mk (sp_ov t lo hi k) 10)) : wpY_partners post (sp_B t, sp_E lo hi, ab) (nI k) := by
  have l : t k = true → ∀ d i, i + d = 10 → wY_partners_4 post (nI k) (sp_B t) (sp_E lo hi) ab (d + 1) (sp_mk (sp_ov t lo hi k) i) (nI i) := by
    intro tk d
    induction d with
    | zero =>
      intro i e
      obtain rfl : i = 10 := by omega
      exact br_t sp_10e h
    | succ d ih =>
      intro i e
      have j := ih (i + 1) (by omega)
      refine br_f (sp_10 (by omega)) (yw_is hk (xw_bb (fun z => absurd (z.symm.trans tk) (by decide)) (fun _ => yw_overlap g hk (by omega) (xw_bb (fun z => ?_) (fun z => ?_)))))
      · rw [sp_mk_f z] at j
        exact nm_r (nI_1 i) j
      · rw [sp_mk_t z] at j
        exact nm_e (nm_r (nI_1 i) j)
  show ∃ n, wY_partners_4 post (nI k) (sp_B t) (sp_E lo hi) ab n 0 0
  cases tk : t k with
  | true => exact ⟨11, l tk 10 0 rfl⟩
  | false =>
    rw [sp_mk_0 10 (fun i _ => sp_ov_n tk)] at h
    refine ⟨1, br_f (sp_10 (i := 0) (by decide)) (yw_is hk (xw_bb (fun _ => h) (fun z => absurd (z.symm.trans tk) (by decide))))⟩
theorem yw_partners0 {post : Int32 → Prop} {u : SY} {x : Int32} (hx : x < 0 ∨ nI 10 ≤ x) (h : post 0) : wpY_partners post u x := by
  obtain ⟨f, al, ah⟩ := u
  show ∃ n, wY_partners_4 post x f al ah n 0 0
  exact ⟨1, br_f (sp_10 (i := 0) (by decide)) (yw_is0 hx (br_t rfl h))⟩
theorem yw_pairs {post : Int32 → Prop} {t : Nat → Bool} {lo hi : Nat → Nat} {ab : Nat → Int32} (g : sp_G lo hi) (h : post (nI (sp_ct (sp_q (sp_ov t lo hi)) 100))) : wpY_pairs post (sp_B t, sp_E lo hi, ab) := by
  have w : ∀ d i, i + d = 100 → wY_pairs_4 post (sp_B t) (sp_E lo hi) ab (d + 1) (nI (sp_ct (sp_q (sp_ov t lo hi)) i)) (nI i) := by
    intro d
    induction d with
    | zero =>
      intro i e
      obtain rfl : i = 100 := by omega
      exact br_t sp_100e h
    | succ d ih =>
      intro i e
      have j := ih (i + 1) (by omega)
      have h100 : i < 100 := by omega
      refine br_f (sp_100 h100) ⟨by decide, by decide, ?_⟩
      rw [sp_r10 h100, sp_d10 h100]
      refine pk_le (i % 10) (i / 10) (fun z => ?_) (fun z => ⟨by decide, by decide, yw_overlap g (by omega) (by omega) (xw_bb (fun y => ?_) (fun y => ?_))⟩)
      · rw [sp_ct_f (show sp_q _ i = false by unfold sp_q; rw [decide_eq_false (by omega), Bool.false_and])] at j
        exact nm_r (nI_1 i) j
      · rw [sp_ct_f (show sp_q _ i = false by unfold sp_q; rw [y, Bool.and_false])] at j
        exact nm_r (nI_1 i) j
      · rw [sp_ct_t (show sp_q _ i = true by unfold sp_q; rw [y, Bool.and_true, decide_eq_true z])] at j
        exact nm_r (nI_1 _) (nm_r (nI_1 i) j)
  show ∃ n, wY_pairs_4 post (sp_B t) (sp_E lo hi) ab n 0 0
  exact ⟨101, w 100 0 rfl⟩
theorem yw_pair {post : Int32 → Prop} {t : Nat → Bool} {lo hi : Nat → Nat} {ab : Nat → Int32} {n : Int32} (g : sp_G lo hi) (h : post (sp_pr (sp_q (sp_ov t lo hi)) n 100 0)) : wpY_pair post (sp_B t, sp_E lo hi, ab) n := by
  have w : ∀ d i, i + d = 100 → post (sp_pr (sp_q (sp_ov t lo hi)) n d i) → wY_pair_4 post n (sp_B t) (sp_E lo hi) ab (d + 1) (nI (sp_ct (sp_q (sp_ov t lo hi)) i)) (nI i) := by
    intro d
    induction d with
    | zero =>
      intro i e h
      obtain rfl : i = 100 := by omega
      exact br_t sp_100e h
    | succ d ih =>
      intro i e h
      have j := ih (i + 1) (by omega)
      have h100 : i < 100 := by omega
      refine br_f (sp_100 h100) ⟨by decide, by decide, ?_⟩
      rw [sp_r10 h100, sp_d10 h100]
      refine pk_le (i % 10) (i / 10) (fun z => ?_) (fun z => ⟨by decide, by decide, yw_overlap g (by omega) (by omega) (xw_bb (fun y => ?_) (fun y => br_c (fun x => ?_) (fun x => ?_)))⟩)
      · have q : sp_q (sp_ov t lo hi) i = false := by unfold sp_q; rw [decide_eq_false (by omega), Bool.false_and]
        rw [sp_pr_f q] at h
        have j := j h
        rw [sp_ct_f q] at j
        exact nm_r (nI_1 i) j
      · have q : sp_q (sp_ov t lo hi) i = false := by unfold sp_q; rw [y, Bool.and_false]
        rw [sp_pr_f q] at h
        have j := j h
        rw [sp_ct_f q] at j
        exact nm_r (nI_1 i) j
      · have q : sp_q (sp_ov t lo hi) i = true := by unfold sp_q; rw [y, Bool.and_true, decide_eq_true z]
        rw [sp_pr_y q x] at h
        exact h
      · have q : sp_q (sp_ov t lo hi) i = true := by unfold sp_q; rw [y, Bool.and_true, decide_eq_true z]
        rw [sp_pr_n q x] at h
        have j := j h
        rw [sp_ct_t q] at j
        exact nm_r (nI_1 _) (nm_r (nI_1 i) j)
  show ∃ m, wY_pair_4 post n (sp_B t) (sp_E lo hi) ab m 0 0
  exact ⟨101, w 100 0 rfl h⟩
/-! clusters -/
theorem yw_cl_in {post : Int32 → Prop} {J : Int32 → Int32 → Prop} {t : Nat → Bool} {lo hi : Nat → Nat} {ab : Nat → Int32} {x : Int32} {s : Nat} (g : sp_G lo hi) (hJ : J (sp_ps (sp_ov t lo hi) x 10) (nI (s + 1))) : ∀ d j, j + d = 10 → wY_cluster_27 post J (nI s) (sp_B t) (sp_E lo hi) ab (d + 1) (sp_ps (sp_ov t lo hi) x j) (nI j) := by
  intro d
  induction d with
  | zero =>
    intro j e
    obtain rfl : j = 10 := by omega
    exact br_t sp_10e (nm_r (nI_1 s) hJ)
  | succ d ih =>
    intro j e
    have i := ih (j + 1) (by omega)
    refine br_f (sp_10 (by omega)) ?_
    rw [sp_bit (sp_ps (sp_ov t lo hi) x j) (show j < 32 by omega)]
    refine xw_b1 (fun z => yw_partners g (by omega) ?_) (fun z => ?_)
    · rw [sp_ps, sp_g_t z] at i
      exact nm_e (nm_r (nI_1 j) i)
    · rw [sp_ps, sp_g_f z] at i
      exact nm_r (nI_1 j) i
theorem yw_cl_out {post : Int32 → Prop} {t : Nat → Bool} {lo hi : Nat → Nat} {ab : Nat → Int32} {x : Int32} (g : sp_G lo hi) (h : post (sp_it (sp_ov t lo hi) x 10)) : ∀ d m, m + d = 10 → wY_cluster_18 post (sp_B t) (sp_E lo hi) ab (d + 1) (sp_it (sp_ov t lo hi) x m) (nI m) := by
  intro d
  induction d with
  | zero =>
    intro m e
    obtain rfl : m = 10 := by omega
    exact br_t sp_10e h
  | succ d ih =>
    intro m e
    exact br_f (sp_10 (by omega)) ⟨11, yw_cl_in g (ih (m + 1) (by omega)) 10 0 rfl⟩
theorem yw_cluster {post : Int32 → Prop} {t : Nat → Bool} {lo hi : Nat → Nat} {ab : Nat → Int32} {k : Nat} (g : sp_G lo hi) (hk : k < 10) (h : post (sp_cl t lo hi k)) : wpY_cluster post (sp_B t, sp_E lo hi, ab) (nI k) := by
  unfold wpY_cluster
  dsimp only
  refine yw_is hk (xw_bb (fun z => ?_) (fun z => ?_))
  · rw [sp_cl_f z, ← sp_it_0 (sp_ov t lo hi) 10] at h
    exact ⟨11, yw_cl_out g h 10 0 rfl⟩
  · rw [sp_cl_t z, ← sp_it_one _ hk] at h
    exact nm_e ⟨11, yw_cl_out g h 10 0 rfl⟩
theorem yw_cluster0 {post : Int32 → Prop} {t : Nat → Bool} {lo hi : Nat → Nat} {ab : Nat → Int32} {x : Int32} (g : sp_G lo hi) (hx : x < 0 ∨ nI 10 ≤ x) (h : post 0) : wpY_cluster post (sp_B t, sp_E lo hi, ab) x := by
  unfold wpY_cluster
  dsimp only
  rw [← sp_it_0 (sp_ov t lo hi) 10] at h
  exact yw_is0 hx (br_t rfl ⟨11, yw_cl_out g h 10 0 rfl⟩)
theorem yw_clusters {post : Int32 → Prop} {t : Nat → Bool} {lo hi : Nat → Nat} {ab : Nat → Int32} (g : sp_G lo hi) (h : post (nI (sp_ct (sp_cq t lo hi) 10))) : wpY_clusters post (sp_B t, sp_E lo hi, ab) := by
  have l : ∀ d i, i + d = 10 → wY_clusters_4 post (sp_B t) (sp_E lo hi) ab (d + 1) (nI (sp_ct (sp_cq t lo hi) i)) (nI i) := by
    intro d
    induction d with
    | zero =>
      intro i e
      obtain rfl : i = 10 := by omega
      exact br_t sp_10e h
    | succ d ih =>
      intro i e
      have j := ih (i + 1) (by omega)
      have h10 : i < 10 := by omega
      refine br_f (sp_10 h10) ⟨vp_in_nI h10 (by decide), ?_⟩
      rw [yw_B h10]
      refine xw_bb (fun z => ?_) (fun z => yw_cluster g h10 (br_c (fun y => ?_) (fun y => ?_)))
      · rw [sp_ct_f (sp_cq_n z)] at j
        exact nm_r (nI_1 i) j
      · rw [sp_ct_t (sp_cq_y z y)] at j
        exact nm_r (nI_1 _) (nm_r (nI_1 i) j)
      · rw [sp_ct_f (sp_cq_z y)] at j
        exact nm_r (nI_1 i) j
  show ∃ n, wY_clusters_4 post (sp_B t) (sp_E lo hi) ab n 0 0
  exact ⟨11, l 10 0 rfl⟩
/-! points -/
theorem yw_has {post : Int32 → Prop} {t : Nat → Bool} {lo hi : Nat → Nat} {ab : Nat → Int32} {k : Nat} {x y : Int32} (hk : k < 10) (h : post (sp_b (sp_hs t lo hi x y k))) : wpY_has post (sp_B t, sp_E lo hi, ab) (nI k) x y := by
  obtain ⟨i0, v0⟩ := yw_l (lo := lo) (hi := hi) (x := (4 : Int32) * nI k) (c := 0) hk (by decide) (sp_j4 k)
  obtain ⟨i1, v1⟩ := yw_h (lo := lo) (hi := hi) (x := (4 : Int32) * nI k + 1) (c := 0) hk (by decide) (sp_i4 k 1)
  obtain ⟨i2, v2⟩ := yw_l (lo := lo) (hi := hi) (x := (4 : Int32) * nI k + 2) (c := 1) hk (by decide) (sp_i4 k 2)
  obtain ⟨i3, v3⟩ := yw_h (lo := lo) (hi := hi) (x := (4 : Int32) * nI k + 3) (c := 1) hk (by decide) (sp_i4 k 3)
  unfold wpY_has
  dsimp only
  rw [v0, v1, v2, v3, yw_B hk]
  unfold sp_hs at h
  refine ⟨vp_in_nI hk (by decide), xw_bb (fun z => ?_) (fun z => ⟨i0, br_c (fun z0 => ?_) (fun z0 => ⟨i1, br_c (fun z1 => ?_) (fun z1 => ⟨i2, br_c (fun z2 => ?_) (fun z2 => ⟨i3, br_c (fun z3 => ?_) (fun z3 => ?_)⟩)⟩)⟩)⟩)⟩
  · exact xw_f h (by rw [z, Bool.false_and])
  · exact xw_f h (by rw [decide_eq_true z0, Bool.not_true, Bool.false_and, Bool.and_false])
  · exact xw_f h (by rw [decide_eq_true z1, Bool.not_true, Bool.false_and, Bool.and_false, Bool.and_false])
  · exact xw_f h (by rw [decide_eq_true z2, Bool.not_true, Bool.false_and, Bool.and_false, Bool.and_false, Bool.and_false])
  · exact xw_f h (by rw [decide_eq_true z3, Bool.not_true, Bool.and_false, Bool.and_false, Bool.and_false, Bool.and_false])
  · exact xw_t h (by rw [z, decide_eq_false z0, decide_eq_false z1, decide_eq_false z2, decide_eq_false z3]; rfl)
theorem yw_at {post : Int32 → Prop} {t : Nat → Bool} {lo hi : Nat → Nat} {ab : Nat → Int32} {x y : Int32} (h : post (sp_mk (sp_hs t lo hi x y) 10)) : wpY_at post (sp_B t, sp_E lo hi, ab) x y := by
  have l : ∀ d i, i + d = 10 → wY_at_5 post x y (sp_B t) (sp_E lo hi) ab (d + 1) (sp_mk (sp_hs t lo hi x y) i) (nI i) := by
    intro d
    induction d with
    | zero =>
      intro i e
      obtain rfl : i = 10 := by omega
      exact br_t sp_10e h
    | succ d ih =>
      intro i e
      have j := ih (i + 1) (by omega)
      refine br_f (sp_10 (by omega)) (yw_has (by omega) (xw_bb (fun z => ?_) (fun z => ?_)))
      · rw [sp_mk_f z] at j
        exact nm_r (nI_1 i) j
      · rw [sp_mk_t z] at j
        exact nm_e (nm_r (nI_1 i) j)
  show ∃ n, wY_at_5 post x y (sp_B t) (sp_E lo hi) ab n 0 0
  exact ⟨11, l 10 0 rfl⟩
theorem yw_count {post : Int32 → Prop} {t : Nat → Bool} {lo hi : Nat → Nat} {ab : Nat → Int32} {x y : Int32} (h : post (nI (sp_D t lo hi x y))) : wpY_count post (sp_B t, sp_E lo hi, ab) x y := by
  have l : ∀ d i, i + d = 10 → wY_count_5 post x y (sp_B t) (sp_E lo hi) ab (d + 1) (nI (sp_ct (sp_hs t lo hi x y) i)) (nI i) := by
    intro d
    induction d with
    | zero =>
      intro i e
      obtain rfl : i = 10 := by omega
      exact br_t sp_10e h
    | succ d ih =>
      intro i e
      have j := ih (i + 1) (by omega)
      refine br_f (sp_10 (by omega)) (yw_has (by omega) (xw_bb (fun z => ?_) (fun z => ?_)))
      · rw [sp_ct_f z] at j
        exact nm_r (nI_1 i) j
      · rw [sp_ct_t z] at j
        exact nm_r (nI_1 _) (nm_r (nI_1 i) j)
  show ∃ n, wY_count_5 post x y (sp_B t) (sp_E lo hi) ab n 0 0
  exact ⟨11, l 10 0 rfl⟩
theorem yw_dp_in {post : Int32 → Prop} {J : Int32 → Int32 → Prop} {t : Nat → Bool} {lo hi : Nat → Nat} {ab : Nat → Int32} {a m : Nat} (hm : m ≤ 10) (hJ : J (nI (sp_mx (sp_fY t lo hi a) m 100)) (nI (a + 1))) : ∀ d b, b + d = 100 → wY_deepest_12 post J (nI a) (sp_B t) (sp_E lo hi) ab (d + 1) (nI (sp_mx (sp_fY t lo hi a) m b)) (nI b) := by
  intro d
  induction d with
  | zero =>
    intro b e
    obtain rfl : b = 100 := by omega
    exact br_t sp_100e (nm_r (nI_1 a) hJ)
  | succ d ih =>
    intro b e
    have j := ih (b + 1) (by omega)
    have hr : ∀ i, sp_fY t lo hi a i ≤ 10 := fun i => sp_D_le t lo hi (nI a) (nI i)
    have hq := sp_mx_le10 hr hm b
    have hb := hr b
    refine br_f (sp_100 (by omega)) (yw_count ?_)
    refine pk_le (sp_fY t lo hi a b) (sp_mx (sp_fY t lo hi a) m b) (fun z => ?_) (fun z => ?_)
    · rw [sp_mx_y z] at j
      exact nm_r (nI_1 b) j
    · rw [sp_mx_n (by omega)] at j
      exact nm_r (nI_1 b) j
theorem yw_deepest {post : Int32 → Prop} {t : Nat → Bool} {lo hi : Nat → Nat} {ab : Nat → Int32} (h : post (nI (sp_m2 (sp_fY t lo hi) 100 100))) : wpY_deepest post (sp_B t, sp_E lo hi, ab) := by
  have l : ∀ d a, a + d = 100 → wY_deepest_4 post (sp_B t) (sp_E lo hi) ab (d + 1) (nI (sp_m2 (sp_fY t lo hi) 100 a)) (nI a) := by
    intro d
    induction d with
    | zero =>
      intro a e
      obtain rfl : a = 100 := by omega
      exact br_t sp_100e h
    | succ d ih =>
      intro a e
      exact br_f (sp_100 (by omega)) ⟨101, yw_dp_in (sp_m2_le a (fun i _ b _ => sp_D_le t lo hi (nI i) (nI b))) (ih (a + 1) (by omega)) 100 0 rfl⟩
  show ∃ n, wY_deepest_4 post (sp_B t) (sp_E lo hi) ab n 0 0
  exact ⟨101, l 100 0 rfl⟩
/-! ranks -/
theorem yw_rank_l {post : Int32 → Prop} {t : Nat → Bool} {lo hi : Nat → Nat} {ab : Nat → Int32} {k c : Nat} (g : sp_G lo hi) (hk : k < 10) (hc : c < 2) (h : post (nI (sp_ct (sp_bf t lo k c) 10))) : ∀ d i, i + d = 10 → wY_rank_24 post (nI k) (nI c) (sp_B t) (sp_E lo hi) ab (d + 1) (nI (sp_ct (sp_bf t lo k c) i)) (nI i) := by
  intro d
  induction d with
  | zero =>
    intro i e
    obtain rfl : i = 10 := by omega
    exact br_t sp_10e h
  | succ d ih =>
    intro i e
    have j := ih (i + 1) (by omega)
    have hh := sp_bf_cmp t lo k c i
    have h10 : i < 10 := by omega
    have gi := g (2 * i + c)
    have gk := g (2 * k + c)
    have e2 : (2 : Int32) * nI c = nI (2 * c) := by rw [show (2 : Int32) = nI 2 from rfl, pk_mul]
    obtain ⟨ii, vi⟩ := yw_l (lo := lo) (hi := hi) (x := (4 : Int32) * nI i + 2 * nI c) h10 hc (by rw [e2, sp_i4])
    obtain ⟨ik, vk⟩ := yw_l (lo := lo) (hi := hi) (x := (4 : Int32) * nI k + 2 * nI c) hk hc (by rw [e2, sp_i4])
    have s := pk_sub_toInt (a := lo (2 * i + c)) (b := lo (2 * k + c)) (by omega) (by omega)
    have n1 : nI (lo (2 * i + c)) - nI (lo (2 * k + c)) < 0 ↔ lo (2 * i + c) < lo (2 * k + c) := by
      rw [Int32.lt_iff_toInt_lt, s, show (0 : Int32).toInt = 0 from by decide]; omega
    have n2 : nI (lo (2 * i + c)) - nI (lo (2 * k + c)) = 0 ↔ lo (2 * i + c) = lo (2 * k + c) := by
      rw [← Int32.toInt_inj, s, show (0 : Int32).toInt = 0 from by decide]; omega
    refine br_f (sp_10 h10) ⟨ii, ik, ?_⟩
    rw [vi, vk]
    refine nm_e ⟨vp_in_nI h10 (by decide), ?_⟩
    rw [yw_B h10, n1, n2]
    refine xw_bb (fun z => ?_) (fun z => br_c (fun y => ?_) (fun y => br_c (fun x => pk_le k i (fun w => ?_) (fun w => ?_)) (fun x => ?_)))
    · rw [sp_ct_f (hh.trans (by rw [z, Bool.false_and]))] at j
      exact nm_r (nI_1 i) j
    · rw [sp_ct_t (hh.trans (by unfold sp_cmp; rw [z, decide_eq_true y, Bool.true_or, Bool.and_true]))] at j
      exact nm_r (nI_1 _) (nm_r (nI_1 i) j)
    · rw [sp_ct_f (hh.trans (by unfold sp_cmp; rw [decide_eq_false y, decide_eq_false (p := i < k) (by omega), Bool.and_false, Bool.or_false, Bool.and_false]))] at j
      exact nm_r (nI_1 i) j
    · rw [sp_ct_t (hh.trans (by unfold sp_cmp; rw [z, decide_eq_true x, decide_eq_true w, Bool.and_true, Bool.or_true, Bool.and_true]))] at j
      exact nm_r (nI_1 _) (nm_r (nI_1 i) j)
    · rw [sp_ct_f (hh.trans (by unfold sp_cmp; rw [decide_eq_false y, decide_eq_false x, Bool.false_and, Bool.or_false, Bool.and_false]))] at j
      exact nm_r (nI_1 i) j
/-! within -/
theorem yw_within {post : Int32 → Prop} {t : Nat → Bool} {lo hi : Nat → Nat} {ab : Nat → Int32} {a b : Nat} (g : sp_G lo hi) (ha : a < 10) (hb : b < 10) (h : post (sp_b (sp_wi t lo hi a b))) : wpY_within post (sp_B t, sp_E lo hi, ab) (nI a) (nI b) := by
  have g0 := g (2 * a + 0)
  have g1 := g (2 * a + 1)
  have k0 := g (2 * b + 0)
  have k1 := g (2 * b + 1)
  obtain ⟨i0, v0⟩ := yw_l (lo := lo) (hi := hi) (x := (4 : Int32) * nI a) (c := 0) ha (by decide) (sp_j4 a)
  obtain ⟨i1, v1⟩ := yw_h (lo := lo) (hi := hi) (x := (4 : Int32) * nI a + 1) (c := 0) ha (by decide) (sp_i4 a 1)
  obtain ⟨i2, v2⟩ := yw_l (lo := lo) (hi := hi) (x := (4 : Int32) * nI a + 2) (c := 1) ha (by decide) (sp_i4 a 2)
  obtain ⟨i3, v3⟩ := yw_h (lo := lo) (hi := hi) (x := (4 : Int32) * nI a + 3) (c := 1) ha (by decide) (sp_i4 a 3)
  obtain ⟨j0, w0⟩ := yw_l (lo := lo) (hi := hi) (x := (4 : Int32) * nI b) (c := 0) hb (by decide) (sp_j4 b)
  obtain ⟨j1, w1⟩ := yw_h (lo := lo) (hi := hi) (x := (4 : Int32) * nI b + 1) (c := 0) hb (by decide) (sp_i4 b 1)
  obtain ⟨j2, w2⟩ := yw_l (lo := lo) (hi := hi) (x := (4 : Int32) * nI b + 2) (c := 1) hb (by decide) (sp_i4 b 2)
  obtain ⟨j3, w3⟩ := yw_h (lo := lo) (hi := hi) (x := (4 : Int32) * nI b + 3) (c := 1) hb (by decide) (sp_i4 b 3)
  by_cases e : a = b
  · subst e
    exact br_t rfl (xw_f h (by simp [sp_wi]))
  · refine br_f (fun z => e ((nI_eq (by omega) (by omega)).mp z)) ?_
    refine yw_is ha (xw_bb (fun ta => ?_) (fun ta => ?_))
    · exact xw_f h (by simp [sp_wi, ta])
    refine yw_is hb (xw_bb (fun tb => ?_) (fun tb => ?_))
    · exact xw_f h (by simp [sp_wi, tb])
    rw [v0, v1, v2, v3, w0, w1, w2, w3]
    have hs : sp_wi t lo hi a b = (sp_sw lo hi a b 0 && sp_sw lo hi a b 1) := by simp [sp_wi, e, ta, tb]
    rw [hs] at h
    unfold sp_sw at h
    refine ⟨i0, j0, pk_lt (lo (2 * a + 0)) (lo (2 * b + 0)) (fun z0 => ?_) (fun z0 => ⟨i1, j1, pk_lt (hi (2 * b + 0)) (hi (2 * a + 0)) (fun z1 => ?_) (fun z1 => ⟨i2, j2, pk_lt (lo (2 * a + 1)) (lo (2 * b + 1)) (fun z2 => ?_) (fun z2 => ⟨i3, j3, pk_lt (hi (2 * b + 1)) (hi (2 * a + 1)) (fun z3 => ?_) (fun z3 => ?_)⟩)⟩)⟩)⟩
    · exact xw_f h (by rw [decide_eq_false (p := lo (2 * b + 0) ≤ lo (2 * a + 0)) (by omega), Bool.false_and, Bool.false_and])
    · exact xw_f h (by rw [decide_eq_false (p := hi (2 * a + 0) ≤ hi (2 * b + 0)) (by omega), Bool.and_false, Bool.false_and])
    · exact xw_f h (by rw [decide_eq_false (p := lo (2 * b + 1) ≤ lo (2 * a + 1)) (by omega), Bool.false_and, Bool.and_false])
    · exact xw_f h (by rw [decide_eq_false (p := hi (2 * a + 1) ≤ hi (2 * b + 1)) (by omega), Bool.and_false, Bool.and_false])
    · exact xw_t h (by rw [decide_eq_true z0, decide_eq_true z1, decide_eq_true z2, decide_eq_true z3]; rfl)
end
section
/-! what a change of one box changes; the calls that ask outside the boxes -/
theorem sp_ov_off {t s : Nat → Bool} {lo hi l h : Nat → Nat} {k : Nat} (ht : ∀ a, a ≠ k → s a = t a) (hl : ∀ a c, a ≠ k → c < 2 → l (2 * a + c) = lo (2 * a + c)) (hh : ∀ a c, a ≠ k → c < 2 → h (2 * a + c) = hi (2 * a + c)) {a b : Nat} (ha : a ≠ k) (hb : b ≠ k) : sp_ov s l h a b = sp_ov t lo hi a b := by
  unfold sp_ov sp_sm
  rw [ht a ha, ht b hb, hl a 0 ha (by decide), hl b 0 hb (by decide), hl a 1 ha (by decide), hl b 1 hb (by decide), hh a 0 ha (by decide), hh b 0 hb (by decide), hh a 1 ha (by decide), hh b 1 hb (by decide)]
theorem sp_diff {t s : Nat → Bool} {lo hi l h : Nat → Nat} {k : Nat} (hk : k < 10) (ht : ∀ a, a ≠ k → s a = t a) (hl : ∀ a c, a ≠ k → c < 2 → l (2 * a + c) = lo (2 * a + c)) (hh : ∀ a c, a ≠ k → c < 2 → h (2 * a + c) = hi (2 * a + c)) : sp_ct (sp_q (fun a b => sp_ov t lo hi a b ^^ sp_ov s l h a b)) 100 = sp_ct (fun j => sp_ov t lo hi k j ^^ sp_ov s l h k j) 10 := by
  refine sp_rows (fun a b => sp_ov t lo hi a b ^^ sp_ov s l h a b) hk ?_ ?_ ?_
  · intro a b
    show (sp_ov t lo hi a b ^^ sp_ov s l h a b) = (sp_ov t lo hi b a ^^ sp_ov s l h b a)
    rw [sp_ov_c t lo hi a b, sp_ov_c s l h a b]
  · show (sp_ov t lo hi k k ^^ sp_ov s l h k k) = false
    rw [sp_ov_s, sp_ov_s]; rfl
  · intro a b ha hb
    show (sp_ov t lo hi a b ^^ sp_ov s l h a b) = false
    rw [sp_ov_off ht hl hh ha hb, Bool.xor_self]
theorem sp_up2 {f : Nat → Nat} {k v w : Nat} : ∀ a c, a ≠ k → c < 2 → sp_up (sp_up f (2 * k + 0) v) (2 * k + 1) w (2 * a + c) = f (2 * a + c) := by
  intro a c ha hc
  rw [sp_up_n (by omega), sp_up_n (by omega)]
theorem sp_G_up {lo hi : Nat → Nat} {j v w : Nat} (g : sp_G lo hi) (h1 : v ≤ w) (h2 : w < 100) : sp_G (sp_up lo j v) (sp_up hi j w) := by
  intro i
  by_cases e : i = j
  · subst e; rw [sp_up_s, sp_up_s]; exact ⟨h1, h2⟩
  · rw [sp_up_n e, sp_up_n e]; exact g i
theorem sp_up_id {t : Nat → Bool} {k : Nat} (h : t k = true) : sp_up t k true = t := by
  funext i
  by_cases e : i = k
  · subst e; rw [sp_up_s, h]
  · rw [sp_up_n e]
theorem xw_within0a {post : Int32 → Prop} {u : SX} {x y : Int32} (hx : x < 0 ∨ nI 10 ≤ x) (h : post 0) : wpX_within post u x y := by
  obtain ⟨f, al, ah⟩ := u
  exact br_c (fun _ => h) (fun _ => xw_isThere0 hx (br_t rfl h))
theorem yw_within0a {post : Int32 → Prop} {u : SY} {x y : Int32} (hx : x < 0 ∨ nI 10 ≤ x) (h : post 0) : wpY_within post u x y := by
  obtain ⟨f, al, ah⟩ := u
  exact br_c (fun _ => h) (fun _ => yw_is0 hx (br_t rfl h))
theorem xw_within0b {post : Int32 → Prop} {t : Nat → Bool} {al ah : Nat → Int32} {a : Nat} {y : Int32} (ha : a < 10) (hy : y < 0 ∨ nI 10 ≤ y) (h : post 0) : wpX_within post (sp_mk t 10, al, ah) (nI a) y :=
  br_c (fun _ => h) (fun _ => xw_isThere ha (xw_bb (fun _ => h) (fun _ => xw_isThere0 hy (br_t rfl h))))
theorem yw_within0b {post : Int32 → Prop} {t : Nat → Bool} {ae ab : Nat → Int32} {a : Nat} {y : Int32} (ha : a < 10) (hy : y < 0 ∨ nI 10 ≤ y) (h : post 0) : wpY_within post (sp_B t, ae, ab) (nI a) y :=
  br_c (fun _ => h) (fun _ => yw_is ha (xw_bb (fun _ => h) (fun _ => yw_is0 hy (br_t rfl h))))
theorem sp_out (x : Int32) : (x < 0 ∨ nI 10 ≤ x) ∨ ∃ j : Nat, j < 10 ∧ x = nI j := by
  rcases pk_ix x (n := 10) (by decide) with z | z | z
  · exact Or.inl (Or.inl z)
  · exact Or.inl (Or.inr z)
  · exact Or.inr z
theorem sp_ne {A : Prop} {x : Bool} (h1 : x = true) (h2 : x = false) : A := by
  rw [h1] at h2
  exact nomatch h2
theorem xw_rank {post : Int32 → Prop} {t : Nat → Bool} {lo hi : Nat → Nat} {k c : Nat} (g : sp_G lo hi) (hk : k < 10) (hc : c < 2) (h : post (nI (sp_ct (sp_bf t lo k c) 10))) : ∃ n : Nat, wX_rank_24 post (nI k) (nI c) (sp_mk t 10) (sp_L lo) (sp_L hi) n 0 0 := ⟨11, xw_rank_l g hk hc h 10 0 rfl⟩
theorem yw_rank {post : Int32 → Prop} {t : Nat → Bool} {lo hi : Nat → Nat} {ab : Nat → Int32} {k c : Nat} (g : sp_G lo hi) (hk : k < 10) (hc : c < 2) (h : post (nI (sp_ct (sp_bf t lo k c) 10))) : ∃ n : Nat, wY_rank_24 post (nI k) (nI c) (sp_B t) (sp_E lo hi) ab n 0 0 := ⟨11, yw_rank_l g hk hc h 10 0 rfl⟩
end
section
/-! the relation and the owed statements -/
def i_Rel (k : Nat) (u : SX) (v : SY) : Prop := ∃ (t : Nat → Bool) (lo hi : Nat → Nat) (ab : Nat → Int32), sp_G lo hi ∧ u = (sp_mk t 10, sp_L lo, sp_L hi) ∧ v = (sp_B t, sp_E lo hi, ab)
theorem i_up {k : Nat} {u : SX} {v : SY} (h : i_Rel k u v) : i_Rel (k + 4) u v := h
theorem i_vc0 : wpX_init (fun u => wpY_init (fun v => i_Rel 0 u v)) := by
  have e1 : sp_mk (fun _ => false) 10 = 0 := sp_mk_0 10 (fun _ _ => rfl)
  have e2 : sp_E (fun _ => 0) (fun _ => 0) = fun _ => 0 := by
    funext i
    unfold sp_E
    rw [ite_self]
    rfl
  refine ⟨fun _ => false, fun _ => 0, fun _ => 0, fun _ => 0, fun _ => ⟨Nat.le_refl 0, show (0 : Nat) < 100 from by decide⟩, ?_, ?_⟩
  · rw [e1]; rfl
  · rw [e2]; rfl
theorem i_vc_put {k : Nat} {u : SX} {v : SY} (I : i_Rel k u v) (hk : k + 4 ≤ 2048) (v1 : Int32) (v2 : Int32) (v3 : Int32) : wpX_put (fun r u' => wpY_put (fun r' v' => r' = r ∧ i_Rel (k + 4) u' v') v v1 v2 v3) u v1 v2 v3 := by
  obtain ⟨t, lo, hi, ab, g, rfl, rfl⟩ := I
  have R : i_Rel (k + 4) (sp_mk t 10, sp_L lo, sp_L hi) (sp_B t, sp_E lo hi, ab) := ⟨t, lo, hi, ab, g, rfl, rfl⟩
  rcases pk_ix v1 (n := 10) (by decide) with z | z | ⟨b, hb, rfl⟩
  · exact br_t z (br_t z ⟨rfl, R⟩)
  · have z0 : ¬ v1 < 0 := Int32.not_lt.mpr (Int32.le_trans (by decide) z)
    exact br_f z0 (br_t z (br_f z0 (br_t (Int32.lt_of_lt_of_le (by decide) z) ⟨rfl, R⟩)))
  · have p : ¬ nI b < 0 := nI_pos (by omega)
    have q : ¬ (9 : Int32) < nI b := nI_nlt (a := 9) (by omega) (by decide)
    by_cases s2 : sp_Sp v2
    · obtain ⟨x, hx, hxs, rfl⟩ := s2
      by_cases s3 : sp_Sp v3
      · obtain ⟨y, hy, hys, rfl⟩ := s3
        have g1 : sp_G (sp_up lo (2 * b + 0) (x % 100)) (sp_up hi (2 * b + 0) (x / 100)) := sp_G_up g hxs (by omega)
        have g2 : sp_G (sp_up (sp_up lo (2 * b + 0) (x % 100)) (2 * b + 1) (y % 100)) (sp_up (sp_up hi (2 * b + 0) (x / 100)) (2 * b + 1) (y / 100)) := sp_G_up g1 hys (by omega)
        refine br_f p (br_f (sp_10 hb) (xw_isSpan_y hx hxs (br_f (by decide) (xw_isSpan_y hy hys (br_f (by decide) (xw_partners g hb (nm_r (sp_mk_set t hb) ?_)))))))
        refine xw_setSpan (c := 0) hb (by decide) hx ?_
        refine xw_setSpan (c := 1) hb (by decide) hy ?_
        refine xw_changes g2 hb ?_
        refine br_f p (br_f q (yw_span_y hx hxs (br_f (by decide) (yw_span_y hy hys (br_f (by decide) (yw_keep g (fun ab' K => ⟨by decide, by decide, by decide, by decide, ?_⟩)))))))
        rw [sp_r100 hx, sp_d100 hx, sp_r100 hy, sp_d100 hy]
        refine yw_lay hb (yw_changed g2 K ⟨congrArg nI ?_, ⟨_, _, _, _, g2, rfl, rfl⟩⟩)
        exact sp_diff hb (fun a ha => sp_up_n ha) sp_up2 sp_up2
      · exact br_f p (br_f (sp_10 hb) (xw_isSpan_y hx hxs (br_f (by decide) (xw_isSpan_n s3 (br_t rfl (br_f p (br_f q (yw_span_y hx hxs (br_f (by decide) (yw_span_n s3 (br_t rfl ⟨rfl, R⟩)))))))))))
    · exact br_f p (br_f (sp_10 hb) (xw_isSpan_n s2 (br_t rfl (br_f p (br_f q (yw_span_n s2 (br_t rfl ⟨rfl, R⟩)))))))
theorem i_vc_move {k : Nat} {u : SX} {v : SY} (I : i_Rel k u v) (hk : k + 4 ≤ 2048) (v1 : Int32) (v2 : Int32) (v3 : Int32) : wpX_move (fun r u' => wpY_move (fun r' v' => r' = r ∧ i_Rel (k + 4) u' v') v v1 v2 v3) u v1 v2 v3 := by
  obtain ⟨t, lo, hi, ab, g, rfl, rfl⟩ := I
  have R : i_Rel (k + 4) (sp_mk t 10, sp_L lo, sp_L hi) (sp_B t, sp_E lo hi, ab) := ⟨t, lo, hi, ab, g, rfl, rfl⟩
  unfold wpX_move wpY_move
  dsimp only
  rcases sp_out v1 with z | ⟨b, hb, rfl⟩
  · exact xw_isThere0 z (br_t rfl (yw_is0 z (br_t rfl ⟨rfl, R⟩)))
  · refine xw_isThere hb (xw_bb (fun tb => ?_) (fun tb => ?_))
    · exact yw_is hb (xw_bb (fun _ => ⟨rfl, R⟩) (fun z => sp_ne z tb))
    refine xw_stays (c := 0) g hb (by decide) (xw_bb (fun s0 => ?_) (fun s0 => ?_))
    · exact yw_is hb (xw_bb (fun z => sp_ne tb z) (fun _ => yw_stays (c := 0) g hb (by decide) rfl (xw_bb (fun _ => ⟨rfl, R⟩) (fun z => sp_ne z s0))))
    refine xw_stays (c := 1) g hb (by decide) (xw_bb (fun s1 => ?_) (fun s1 => ?_))
    · exact yw_is hb (xw_bb (fun z => sp_ne tb z) (fun _ => yw_stays (c := 0) g hb (by decide) rfl (xw_bb (fun z => sp_ne s0 z) (fun _ => yw_stays (c := 1) g hb (by decide) rfl (xw_bb (fun _ => ⟨rfl, R⟩) (fun z => sp_ne z s1))))))
    have d0 := s0
    have d1 := s1
    unfold sp_st at d0 d1
    simp only [Bool.and_eq_true, decide_eq_true_eq] at d0 d1
    have gx := g (2 * b + 0)
    have gy := g (2 * b + 1)
    have a0 := sp_addD (n := lo (2 * b + 0)) (d := v2) d0.1 (by omega) (by omega)
    have a1 := sp_addD (n := hi (2 * b + 0)) (d := v2) (by omega) d0.2 (by omega)
    have a2 := sp_addD (n := lo (2 * b + 1)) (d := v3) d1.1 (by omega) (by omega)
    have a3 := sp_addD (n := hi (2 * b + 1)) (d := v3) (by omega) d1.2 (by omega)
    have x0 : (((lo (2 * b + 0) : Nat) : Int) + v2.toInt).toNat ≤ (((hi (2 * b + 0) : Nat) : Int) + v2.toInt).toNat := by omega
    have x1 : (((hi (2 * b + 0) : Nat) : Int) + v2.toInt).toNat < 100 := by omega
    have y0 : (((lo (2 * b + 1) : Nat) : Int) + v3.toInt).toNat ≤ (((hi (2 * b + 1) : Nat) : Int) + v3.toInt).toNat := by omega
    have y1 : (((hi (2 * b + 1) : Nat) : Int) + v3.toInt).toNat < 100 := by omega
    generalize (((lo (2 * b + 0) : Nat) : Int) + v2.toInt).toNat = p0 at a0 x0
    generalize (((hi (2 * b + 0) : Nat) : Int) + v2.toInt).toNat = p1 at a1 x0 x1
    generalize (((lo (2 * b + 1) : Nat) : Int) + v3.toInt).toNat = q0 at a2 y0
    generalize (((hi (2 * b + 1) : Nat) : Int) + v3.toInt).toNat = q1 at a3 y0 y1
    have g1 : sp_G (sp_up lo (2 * b + 0) p0) (sp_up hi (2 * b + 0) p1) := sp_G_up g x0 x1
    have g2 : sp_G (sp_up (sp_up lo (2 * b + 0) p0) (2 * b + 1) q0) (sp_up (sp_up hi (2 * b + 0) p1) (2 * b + 1) q1) := sp_G_up g1 y0 y1
    refine xw_partners g hb ?_
    refine xw_shift (c := 0) hb (by decide) a0 a1 ?_
    refine xw_shift (c := 1) (v := q0) (w := q1) hb (by decide) (by rw [sp_up_n (by omega)]; exact a2) (by rw [sp_up_n (by omega)]; exact a3) ?_
    refine xw_changes g2 hb ?_
    obtain ⟨i0, w0⟩ := yw_l (lo := lo) (hi := hi) (x := (4 : Int32) * nI b) (c := 0) hb (by decide) (sp_j4 b)
    obtain ⟨i1, w1⟩ := yw_h (lo := lo) (hi := hi) (x := (4 : Int32) * nI b + 1) (c := 0) hb (by decide) (sp_i4 b 1)
    obtain ⟨i2, w2⟩ := yw_l (lo := lo) (hi := hi) (x := (4 : Int32) * nI b + 2) (c := 1) hb (by decide) (sp_i4 b 2)
    obtain ⟨i3, w3⟩ := yw_h (lo := lo) (hi := hi) (x := (4 : Int32) * nI b + 3) (c := 1) hb (by decide) (sp_i4 b 3)
    refine yw_is hb (xw_bb (fun z => sp_ne tb z) (fun _ => yw_stays (c := 0) g hb (by decide) rfl (xw_bb (fun z => sp_ne s0 z) (fun _ => yw_stays (c := 1) g hb (by decide) rfl (xw_bb (fun z => sp_ne s1 z) (fun _ => yw_keep g (fun ab' K => ⟨i0, i1, i2, i3, ?_⟩)))))))
    dsimp only
    rw [w0, w1, w2, w3, a0, a1, a2, a3]
    refine yw_lay hb ?_
    rw [sp_up_id tb]
    refine yw_changed g2 K ⟨congrArg nI ?_, ⟨_, _, _, _, g2, rfl, rfl⟩⟩
    exact sp_diff hb (fun a _ => rfl) sp_up2 sp_up2
theorem i_vc_remove {k : Nat} {u : SX} {v : SY} (I : i_Rel k u v) (hk : k + 4 ≤ 2048) (v1 : Int32) : wpX_remove (fun r u' => wpY_remove (fun r' v' => r' = r ∧ i_Rel (k + 4) u' v') v v1) u v1 := by
  obtain ⟨t, lo, hi, ab, g, rfl, rfl⟩ := I
  have R : i_Rel (k + 4) (sp_mk t 10, sp_L lo, sp_L hi) (sp_B t, sp_E lo hi, ab) := ⟨t, lo, hi, ab, g, rfl, rfl⟩
  unfold wpX_remove wpY_remove
  dsimp only
  rcases sp_out v1 with z | ⟨b, hb, rfl⟩
  · exact xw_isThere0 z (br_t rfl (yw_is0 z (br_t rfl ⟨rfl, R⟩)))
  · refine xw_isThere hb (xw_bb (fun tb => ?_) (fun tb => ?_))
    · exact yw_is hb (xw_bb (fun _ => ⟨rfl, R⟩) (fun z => sp_ne z tb))
    have e : upd (sp_B t) (nI b).toNatClampNeg (vp_nar .boolean 0) = sp_B (sp_up t b false) := by
      rw [nI_clamp (by omega)]
      exact (congrArg (upd (sp_B t) b) (sp_nar false)).trans (sp_B_u t b false)
    refine xw_partners g hb (nm_r (sp_mk_clr t hb) (xw_countBits ?_))
    refine yw_is hb (xw_bb (fun z => sp_ne tb z) (fun _ => yw_keep g (fun ab' K => ⟨vp_in_nI hb (by decide), nm_r e (yw_changed g K ⟨congrArg nI ?_, ⟨_, _, _, _, g, rfl, rfl⟩⟩)⟩)))
    rw [sp_diff hb (fun a ha => sp_up_n ha) (fun _ _ _ _ => rfl) (fun _ _ _ _ => rfl)]
    refine sp_ct_congr 10 (fun j _ => ?_)
    rw [sp_ov_n (t := sp_up t b false) (a := b) sp_up_s, Bool.xor_false]
theorem i_vc_boxes {k : Nat} {u : SX} {v : SY} (I : i_Rel k u v) (hk : k + 4 ≤ 2048) : wpX_boxes (fun r => wpY_boxes (fun r' => r' = r ∧ i_Rel (k + 4) u v) v) u := by
  have R : i_Rel (k + 4) u v := I
  obtain ⟨t, lo, hi, ab, g, rfl, rfl⟩ := I
  exact yw_boxes ⟨rfl, R⟩
theorem i_vc_edge {k : Nat} {u : SX} {v : SY} (I : i_Rel k u v) (hk : k + 4 ≤ 2048) (v1 : Int32) (v2 : Int32) : wpX_edge (fun r => wpY_edge (fun r' => r' = r ∧ i_Rel (k + 4) u v) v v1 v2) u v1 v2 := by
  have R : i_Rel (k + 4) u v := I
  obtain ⟨t, lo, hi, ab, g, rfl, rfl⟩ := I
  unfold wpX_edge wpY_edge
  dsimp only
  rcases sp_out v1 with z | ⟨b, hb, rfl⟩
  · exact xw_isThere0 z (br_t rfl (yw_is0 z (br_t rfl ⟨rfl, R⟩)))
  · refine xw_isThere hb (xw_bb (fun tb => ?_) (fun tb => ?_))
    · exact yw_is hb (xw_bb (fun _ => ⟨rfl, R⟩) (fun z => sp_ne z tb))
    rcases pk_ix v2 (n := 4) (by decide) with z | z | ⟨j, hj, rfl⟩
    · exact br_t z (yw_is hb (xw_bb (fun z => sp_ne tb z) (fun _ => br_t z ⟨rfl, R⟩)))
    · have z0 : ¬ v2 < 0 := Int32.not_lt.mpr (Int32.le_trans (by decide) z)
      have z1 : (3 : Int32) < v2 := Int32.lt_of_lt_of_le (by decide) z
      exact br_f z0 (br_f (Int32.not_le.mpr z1) (yw_is hb (xw_bb (fun z => sp_ne tb z) (fun _ => br_f z0 (br_t z1 ⟨rfl, R⟩)))))
    · have z0 : ¬ nI j < 0 := nI_pos (by omega)
      have z1 : nI j ≤ (3 : Int32) := nI_le (b := 3) (by omega) (by decide)
      have z2 : ¬ (3 : Int32) < nI j := Int32.not_lt.mpr z1
      have e1 : nI j / (2 : Int32) = nI (j / 2) := pk_div (d := 2) (by omega) (by decide) (by decide)
      have e2 : nI j - nI j / (2 : Int32) * 2 = nI (j % 2) := pk_rem (d := 2) (by omega) (by decide) (by decide)
      have e3 : (2 : Int32) * nI b + nI j / 2 = nI (2 * b + j / 2) := by rw [e1, sp_ix]
      have i : vp_in (nI (2 * b + j / 2)) 20 := vp_in_nI (by omega) (by decide)
      refine br_f z0 (br_t z1 ⟨by decide, nm_r e3 ⟨by decide, ?_⟩⟩)
      rw [nI_clamp (n := 2 * b + j / 2) (by omega), e2]
      refine pk_eq (j % 2) 0 (fun y => ⟨i, ?_⟩) (fun y => ⟨i, ?_⟩)
      · obtain ⟨w, x⟩ := yw_l (lo := lo) (hi := hi) (x := (4 : Int32) * nI b + nI j) (c := j / 2) hb (by omega) (by rw [sp_i4]; exact congrArg nI (by omega))
        exact yw_is hb (xw_bb (fun z => sp_ne tb z) (fun _ => br_f z0 (br_f z2 ⟨w, x, R⟩)))
      · obtain ⟨w, x⟩ := yw_h (lo := lo) (hi := hi) (x := (4 : Int32) * nI b + nI j) (c := j / 2) hb (by omega) (by rw [sp_i4]; exact congrArg nI (by omega))
        exact yw_is hb (xw_bb (fun z => sp_ne tb z) (fun _ => br_f z0 (br_f z2 ⟨w, x, R⟩)))
theorem i_vc_partners {k : Nat} {u : SX} {v : SY} (I : i_Rel k u v) (hk : k + 4 ≤ 2048) (v1 : Int32) : wpX_partners (fun r => wpY_partners (fun r' => r' = r ∧ i_Rel (k + 4) u v) v v1) u v1 := by
  have R : i_Rel (k + 4) u v := I
  obtain ⟨t, lo, hi, ab, g, rfl, rfl⟩ := I
  rcases sp_out v1 with z | ⟨b, hb, rfl⟩
  · exact xw_partners0 z (yw_partners0 z ⟨rfl, R⟩)
  · exact xw_partners g hb (yw_partners g hb ⟨rfl, R⟩)
theorem i_vc_pairs {k : Nat} {u : SX} {v : SY} (I : i_Rel k u v) (hk : k + 4 ≤ 2048) : wpX_pairs (fun r => wpY_pairs (fun r' => r' = r ∧ i_Rel (k + 4) u v) v) u := by
  have R : i_Rel (k + 4) u v := I
  obtain ⟨t, lo, hi, ab, g, rfl, rfl⟩ := I
  exact xw_pairs g (yw_pairs g ⟨rfl, R⟩)
theorem i_vc_pair {k : Nat} {u : SX} {v : SY} (I : i_Rel k u v) (hk : k + 4 ≤ 2048) (v1 : Int32) : wpX_pair (fun r => wpY_pair (fun r' => r' = r ∧ i_Rel (k + 4) u v) v v1) u v1 := by
  have R : i_Rel (k + 4) u v := I
  obtain ⟨t, lo, hi, ab, g, rfl, rfl⟩ := I
  exact xw_pair g (yw_pair g ⟨rfl, R⟩)
theorem i_vc_cluster {k : Nat} {u : SX} {v : SY} (I : i_Rel k u v) (hk : k + 4 ≤ 2048) (v1 : Int32) : wpX_cluster (fun r => wpY_cluster (fun r' => r' = r ∧ i_Rel (k + 4) u v) v v1) u v1 := by
  have R : i_Rel (k + 4) u v := I
  obtain ⟨t, lo, hi, ab, g, rfl, rfl⟩ := I
  rcases sp_out v1 with z | ⟨b, hb, rfl⟩
  · exact xw_cluster0 z (yw_cluster0 g z ⟨rfl, R⟩)
  · exact xw_cluster g hb (yw_cluster g hb ⟨rfl, R⟩)
theorem i_vc_clusters {k : Nat} {u : SX} {v : SY} (I : i_Rel k u v) (hk : k + 4 ≤ 2048) : wpX_clusters (fun r => wpY_clusters (fun r' => r' = r ∧ i_Rel (k + 4) u v) v) u := by
  have R : i_Rel (k + 4) u v := I
  obtain ⟨t, lo, hi, ab, g, rfl, rfl⟩ := I
  exact xw_clusters g (yw_clusters g ⟨rfl, R⟩)
theorem i_vc_at {k : Nat} {u : SX} {v : SY} (I : i_Rel k u v) (hk : k + 4 ≤ 2048) (v1 : Int32) (v2 : Int32) : wpX_at (fun r => wpY_at (fun r' => r' = r ∧ i_Rel (k + 4) u v) v v1 v2) u v1 v2 := by
  have R : i_Rel (k + 4) u v := I
  obtain ⟨t, lo, hi, ab, g, rfl, rfl⟩ := I
  exact xw_at (yw_at ⟨rfl, R⟩)
theorem i_vc_deepest {k : Nat} {u : SX} {v : SY} (I : i_Rel k u v) (hk : k + 4 ≤ 2048) : wpX_deepest (fun r => wpY_deepest (fun r' => r' = r ∧ i_Rel (k + 4) u v) v) u := by
  have R : i_Rel (k + 4) u v := I
  obtain ⟨t, lo, hi, ab, g, rfl, rfl⟩ := I
  exact xw_deepest (yw_deepest ⟨congrArg nI (sp_deep g).symm, R⟩)
theorem i_vc_rank {k : Nat} {u : SX} {v : SY} (I : i_Rel k u v) (hk : k + 4 ≤ 2048) (v1 : Int32) (v2 : Int32) : wpX_rank (fun r => wpY_rank (fun r' => r' = r ∧ i_Rel (k + 4) u v) v v1 v2) u v1 v2 := by
  have R : i_Rel (k + 4) u v := I
  obtain ⟨t, lo, hi, ab, g, rfl, rfl⟩ := I
  unfold wpX_rank wpY_rank
  dsimp only
  rcases sp_out v1 with z | ⟨b, hb, rfl⟩
  · exact xw_isThere0 z (br_t rfl (yw_is0 z (br_t rfl ⟨rfl, R⟩)))
  · refine xw_isThere hb (xw_bb (fun tb => ?_) (fun tb => ?_))
    · exact yw_is hb (xw_bb (fun _ => ⟨rfl, R⟩) (fun z => sp_ne z tb))
    by_cases c0 : v2 = 0
    · subst c0
      refine br_t rfl (xw_rank (c := 0) g hb (by decide) ?_)
      refine yw_is hb (xw_bb (fun z => sp_ne tb z) (fun _ => br_t rfl (yw_rank (c := 0) g hb (by decide) ?_)))
      exact ⟨rfl, R⟩
    · by_cases c1 : v2 = 1
      · subst c1
        refine br_f c0 (br_t rfl (xw_rank (c := 1) g hb (by decide) ?_))
        refine yw_is hb (xw_bb (fun z => sp_ne tb z) (fun _ => br_f c0 (br_t rfl (yw_rank (c := 1) g hb (by decide) ?_))))
        exact ⟨rfl, R⟩
      · exact br_f c0 (br_f c1 (yw_is hb (xw_bb (fun z => sp_ne tb z) (fun _ => br_f c0 (br_f c1 ⟨rfl, R⟩)))))
theorem i_vc_within {k : Nat} {u : SX} {v : SY} (I : i_Rel k u v) (hk : k + 4 ≤ 2048) (v1 : Int32) (v2 : Int32) : wpX_within (fun r => wpY_within (fun r' => r' = r ∧ i_Rel (k + 4) u v) v v1 v2) u v1 v2 := by
  have R : i_Rel (k + 4) u v := I
  obtain ⟨t, lo, hi, ab, g, rfl, rfl⟩ := I
  rcases sp_out v1 with z | ⟨a, ha, rfl⟩
  · exact xw_within0a z (yw_within0a z ⟨rfl, R⟩)
  · rcases sp_out v2 with z | ⟨b, hb, rfl⟩
    · exact xw_within0b ha z (yw_within0b ha z ⟨rfl, R⟩)
    · exact xw_within g ha hb (yw_within g ha hb ⟨rfl, R⟩)
end
