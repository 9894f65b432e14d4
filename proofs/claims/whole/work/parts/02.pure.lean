/-! the pure picture: sets of boxes as masks, counts, and their bits -/
def sp_b (x : Bool) : Int32 := match x with
  | true => 1
  | false => 0
def sp_mk (p : Nat → Bool) : Nat → Int32
  | 0 => 0
  | n + 1 => match p n with
    | true => sp_mk p n ||| ((1 : Int32) <<< (nI n &&& 31))
    | false => sp_mk p n
def sp_ct (p : Nat → Bool) : Nat → Nat
  | 0 => 0
  | n + 1 => match p n with
    | true => sp_ct p n + 1
    | false => sp_ct p n
def sp_up {α : Type} (f : Nat → α) (k : Nat) (x : α) : Nat → α := fun j => if j = k then x else f j
theorem sp_up_s {α : Type} {f : Nat → α} {k : Nat} {x : α} : sp_up f k x k = x := if_pos rfl
theorem sp_up_n {α : Type} {f : Nat → α} {k j : Nat} {x : α} (h : j ≠ k) : sp_up f k x j = f j := if_neg h
theorem sp_mk_t {p : Nat → Bool} {n : Nat} (h : p n = true) : sp_mk p (n + 1) = sp_mk p n ||| ((1 : Int32) <<< (nI n &&& 31)) := by rw [sp_mk, h]
theorem sp_mk_f {p : Nat → Bool} {n : Nat} (h : p n = false) : sp_mk p (n + 1) = sp_mk p n := by rw [sp_mk, h]
theorem sp_ct_t {p : Nat → Bool} {n : Nat} (h : p n = true) : sp_ct p (n + 1) = sp_ct p n + 1 := by rw [sp_ct, h]
theorem sp_ct_f {p : Nat → Bool} {n : Nat} (h : p n = false) : sp_ct p (n + 1) = sp_ct p n := by rw [sp_ct, h]
theorem sp_nf {x : Bool} (h : ¬ x = true) : x = false := by cases x <;> first | rfl | exact absurd rfl h
theorem sp_bt1 : ∀ i, i < 32 → bt 1 i = decide (i = 0) := by decide +kernel
theorem sp_one {n i : Nat} (hn : n < 32) (hi : i < 32) : bt ((1 : Int32) <<< (nI n &&& 31)) i = decide (i = n) := by
  rw [b_shl n hn 1 hi, sp_bt1 (i - n) (by omega)]
  by_cases h : i = n
  · subst h; simp
  · by_cases h2 : n ≤ i
    · have h3 : ¬ i - n = 0 := by omega
      simp [h, h3]
    · simp [h, h2]
theorem sp_mk_bt (p : Nat → Bool) : ∀ n, n ≤ 32 → ∀ i, i < 32 → bt (sp_mk p n) i = (decide (i < n) && p i) := by
  intro n
  induction n with
  | zero => intro _ i _; rw [sp_mk, b_0]; simp
  | succ n ih =>
    intro hn i hi
    have e := ih (by omega) i hi
    cases h : p n with
    | true =>
      rw [sp_mk_t h, b_or, e, sp_one (by omega) hi]
      by_cases h1 : i = n
      · subst h1; simp [h]
      · by_cases h2 : i < n
        · have h3 : i < n + 1 := by omega
          simp [h1, h2, h3]
        · have h3 : ¬ i < n + 1 := by omega
          simp [h1, h2, h3]
    | false =>
      rw [sp_mk_f h, e]
      by_cases h1 : i = n
      · subst h1; simp [h]
      · by_cases h2 : i < n
        · have h3 : i < n + 1 := by omega
          simp [h2, h3]
        · have h3 : ¬ i < n + 1 := by omega
          simp [h2, h3]
theorem sp_bit (x : Int32) {k : Nat} (hk : k < 32) : ((x >>> (nI k &&& 31)) &&& 1) = sp_b (bt x k) := by
  apply b_ext
  intro i hi
  rw [b_and, b_sshr k hk x hi, sp_bt1 i hi]
  by_cases h : i = 0
  · subst h
    rw [if_pos (show k + 0 < 32 by omega), Nat.add_zero]
    cases bt x k with
    | true => exact (sp_bt1 0 (by decide)).symm
    | false => exact (b_0 0).symm
  · rw [decide_eq_false h, Bool.and_false]
    cases bt x k with
    | true => exact ((sp_bt1 i hi).trans (decide_eq_false h)).symm
    | false => exact (b_0 i).symm
theorem sp_b1 {x : Bool} : sp_b x = 1 ↔ x = true := by cases x <;> simp [sp_b]
theorem sp_b0 {x : Bool} : sp_b x = 0 ↔ x = false := by cases x <;> simp [sp_b]
theorem sp_mk_congr {p q : Nat → Bool} : ∀ n, (∀ i, i < n → p i = q i) → sp_mk p n = sp_mk q n := by
  intro n
  induction n with
  | zero => intro _; rfl
  | succ n ih =>
    intro h
    have e := ih (fun i hi => h i (by omega))
    rw [sp_mk, sp_mk, h n (by omega), e]
theorem sp_ct_congr {p q : Nat → Bool} : ∀ n, (∀ i, i < n → p i = q i) → sp_ct p n = sp_ct q n := by
  intro n
  induction n with
  | zero => intro _; rfl
  | succ n ih =>
    intro h
    have e := ih (fun i hi => h i (by omega))
    rw [sp_ct, sp_ct, h n (by omega), e]
theorem sp_mk_set (t : Nat → Bool) {k : Nat} (hk : k < 10) : sp_mk t 10 ||| ((1 : Int32) <<< (nI k &&& 31)) = sp_mk (sp_up t k true) 10 := by
  apply b_ext
  intro i hi
  rw [b_or, sp_mk_bt t 10 (by decide) i hi, sp_mk_bt _ 10 (by decide) i hi, sp_one (by omega) hi]
  by_cases h : i = k
  · subst h; rw [sp_up_s]; simp [hk]
  · rw [sp_up_n h]; simp [h]
theorem sp_mk_clr (t : Nat → Bool) {k : Nat} (hk : k < 10) : sp_mk t 10 &&& (((1 : Int32) <<< (nI k &&& 31)) ^^^ (-1)) = sp_mk (sp_up t k false) 10 := by
  apply b_ext
  intro i hi
  rw [b_and, b_xor, b_m1 i hi, sp_mk_bt t 10 (by decide) i hi, sp_mk_bt _ 10 (by decide) i hi, sp_one (by omega) hi]
  by_cases h : i = k
  · subst h; rw [sp_up_s]; simp
  · rw [sp_up_n h]; simp [h]
theorem sp_mk_xor (p q : Nat → Bool) : sp_mk p 10 ^^^ sp_mk q 10 = sp_mk (fun j => p j ^^ q j) 10 := by
  apply b_ext
  intro i hi
  rw [b_xor, sp_mk_bt p 10 (by decide) i hi, sp_mk_bt q 10 (by decide) i hi, sp_mk_bt _ 10 (by decide) i hi]
  by_cases h : i < 10
  · simp [h]
  · simp [h]
theorem sp_mk_0 {p : Nat → Bool} : ∀ n, (∀ i, i < n → p i = false) → sp_mk p n = 0 := by
  intro n
  induction n with
  | zero => intro _; rfl
  | succ n ih =>
    intro h
    rw [sp_mk_f (h n (by omega))]
    exact ih (fun i hi => h i (by omega))
/-! counts -/
theorem sp_ct_le (p : Nat → Bool) : ∀ n, sp_ct p n ≤ n := by
  intro n
  induction n with
  | zero => exact Nat.le_refl 0
  | succ n ih =>
    cases h : p n with
    | true => rw [sp_ct_t h]; omega
    | false => rw [sp_ct_f h]; omega
theorem sp_ct_mono {p q : Nat → Bool} : ∀ n, (∀ i, i < n → p i = true → q i = true) → sp_ct p n ≤ sp_ct q n := by
  intro n
  induction n with
  | zero => intro _; exact Nat.le_refl 0
  | succ n ih =>
    intro h
    have e := ih (fun i hi => h i (by omega))
    cases hp : p n with
    | true => rw [sp_ct_t hp, sp_ct_t (h n (by omega) hp)]; omega
    | false =>
      rw [sp_ct_f hp]
      cases hq : q n with
      | true => rw [sp_ct_t hq]; omega
      | false => rw [sp_ct_f hq]; exact e
theorem sp_ct_eq {p q : Nat → Bool} : ∀ n, (∀ i, i < n → p i = true → q i = true) → sp_ct q n ≤ sp_ct p n → ∀ i, i < n → q i = p i := by
  intro n
  induction n with
  | zero => intro _ _ i hi; omega
  | succ n ih =>
    intro h hc i hi
    have hm := sp_ct_mono n (fun i hi => h i (Nat.lt_succ_of_lt hi))
    have hh : ∀ i, i < n → p i = true → q i = true := fun i hi => h i (by omega)
    cases hp : p n with
    | true =>
      have hq := h n (by omega) hp
      rw [sp_ct_t hp, sp_ct_t hq] at hc
      by_cases e : i = n
      · subst e; rw [hp, hq]
      · exact ih hh (by omega) i (by omega)
    | false =>
      cases hq : q n with
      | true => rw [sp_ct_t hq, sp_ct_f hp] at hc; omega
      | false =>
        rw [sp_ct_f hp, sp_ct_f hq] at hc
        by_cases e : i = n
        · subst e; rw [hp, hq]
        · exact ih hh hc i (by omega)
theorem sp_ct_all : ∀ n, sp_ct (fun _ => true) n = n := by
  intro n
  induction n with
  | zero => rfl
  | succ n ih => rw [sp_ct_t rfl, ih]
theorem sp_ct_pos {p : Nat → Bool} {k : Nat} (h : p k = true) : ∀ n, k < n → 1 ≤ sp_ct p n := by
  intro n
  induction n with
  | zero => intro hk; omega
  | succ n ih =>
    intro hk
    by_cases e : k = n
    · subst e; rw [sp_ct_t h]; omega
    · have := ih (by omega)
      cases hp : p n with
      | true => rw [sp_ct_t hp]; omega
      | false => rw [sp_ct_f hp]; exact this
theorem sp_ct_ex {p : Nat → Bool} : ∀ n, 1 ≤ sp_ct p n → ∃ k, k < n ∧ p k = true := by
  intro n
  induction n with
  | zero => intro h; exact absurd (show 1 ≤ 0 from h) (by decide)
  | succ n ih =>
    intro h
    cases hp : p n with
    | true => exact ⟨n, by omega, hp⟩
    | false =>
      rw [sp_ct_f hp] at h
      obtain ⟨k, hk, e⟩ := ih h
      exact ⟨k, by omega, e⟩
theorem sp_ct_add (p : Nat → Bool) (m : Nat) : ∀ n, sp_ct p (m + n) = sp_ct p m + sp_ct (fun i => p (m + i)) n := by
  intro n
  induction n with
  | zero => rfl
  | succ n ih =>
    show sp_ct p (m + n + 1) = _
    cases h : p (m + n) with
    | true => rw [sp_ct_t h, sp_ct_t (p := fun i => p (m + i)) h, ih]; omega
    | false => rw [sp_ct_f h, sp_ct_f (p := fun i => p (m + i)) h, ih]
theorem sp_ct_none {p : Nat → Bool} : ∀ n, (∀ i, i < n → p i = false) → sp_ct p n = 0 := by
  intro n
  induction n with
  | zero => intro _; rfl
  | succ n ih =>
    intro h
    rw [sp_ct_f (h n (by omega))]
    exact ih (fun i hi => h i (by omega))
theorem sp_ct_one {p : Nat → Bool} {k : Nat} : ∀ n, k < n → (∀ i, i < n → i ≠ k → p i = false) → sp_ct p n = (match p k with | true => 1 | false => 0) := by
  intro n
  induction n with
  | zero => intro h; omega
  | succ n ih =>
    intro hk h
    by_cases e : k = n
    · subst e
      have z : sp_ct p k = 0 := sp_ct_none k (fun i hi => h i (by omega) (by omega))
      cases hp : p k with
      | true => rw [sp_ct_t hp, z]
      | false => rw [sp_ct_f hp, z]
    · rw [sp_ct_f (h n (by omega) (by omega))]
      exact ih (by omega) (fun i hi => h i (by omega))
theorem sp_ct_above {e : Nat → Bool} {k : Nat} (h : e k = false) : ∀ d, sp_ct (fun b => decide (k < b) && e b) (k + 1 + d) + sp_ct e k = sp_ct e (k + 1 + d) := by
  intro d
  induction d with
  | zero =>
    rw [Nat.add_zero, sp_ct_f h, sp_ct_none (k + 1) (fun i hi => by simp; intro z; omega)]
    omega
  | succ d ih =>
    have hb : decide (k < k + 1 + d) = true := decide_eq_true (by omega)
    show sp_ct (fun b => decide (k < b) && e b) (k + 1 + d + 1) + _ = sp_ct e (k + 1 + d + 1)
    cases he : e (k + 1 + d) with
    | true =>
      rw [sp_ct_t he, sp_ct_t (p := fun b => decide (k < b) && e b) (n := k + 1 + d) (by simp only [hb, he]; rfl)]
      omega
    | false =>
      rw [sp_ct_f he, sp_ct_f (p := fun b => decide (k < b) && e b) (n := k + 1 + d) (by simp only [hb, he]; rfl)]
      exact ih
