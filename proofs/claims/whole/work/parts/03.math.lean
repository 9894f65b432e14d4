/-! overlaps, pairs in rows of ten, the way through the clusters, the deepest point -/
def sp_sm (lo hi : Nat → Nat) (a b c : Nat) : Bool := decide (lo (2 * a + c) ≤ hi (2 * b + c)) && decide (lo (2 * b + c) ≤ hi (2 * a + c))
def sp_ov (t : Nat → Bool) (lo hi : Nat → Nat) (a b : Nat) : Bool := !decide (a = b) && (t a && (t b && (sp_sm lo hi a b 0 && sp_sm lo hi a b 1)))
def sp_q (o : Nat → Nat → Bool) (c : Nat) : Bool := decide (c / 10 < c % 10) && o (c / 10) (c % 10)
theorem sp_sm_c (lo hi : Nat → Nat) (a b c : Nat) : sp_sm lo hi a b c = sp_sm lo hi b a c := Bool.and_comm _ _
theorem sp_ov_c (t : Nat → Bool) (lo hi : Nat → Nat) (a b : Nat) : sp_ov t lo hi a b = sp_ov t lo hi b a := by
  unfold sp_ov
  rw [sp_sm_c lo hi a b 0, sp_sm_c lo hi a b 1, show decide (a = b) = decide (b = a) from decide_eq_decide.mpr eq_comm]
  cases t a <;> cases t b <;> rfl
theorem sp_ov_s (t : Nat → Bool) (lo hi : Nat → Nat) (a : Nat) : sp_ov t lo hi a a = false := by simp [sp_ov]
theorem sp_ov_n {t : Nat → Bool} {lo hi : Nat → Nat} {a b : Nat} (h : t a = false) : sp_ov t lo hi a b = false := by simp [sp_ov, h]
theorem sp_q_row (o : Nat → Nat → Bool) {a b : Nat} (hb : b < 10) : sp_q o (10 * a + b) = (decide (a < b) && o a b) := by
  have e1 : (10 * a + b) / 10 = a := by omega
  have e2 : (10 * a + b) % 10 = b := by omega
  unfold sp_q
  rw [e1, e2]
theorem sp_row0 (o : Nat → Nat → Bool) {a : Nat} (ha : a < 10) : ∀ b, b ≤ a + 1 → b ≤ 10 → sp_ct (sp_q o) (10 * a + b) = sp_ct (sp_q o) (10 * a) := by
  intro b
  induction b with
  | zero => intro _ _; rfl
  | succ b ih =>
    intro h1 h2
    have hq : sp_q o (10 * a + b) = false := by rw [sp_q_row o (by omega), decide_eq_false (by omega)]; rfl
    show sp_ct (sp_q o) (10 * a + b + 1) = _
    rw [sp_ct_f hq]
    exact ih (by omega) (by omega)
theorem sp_rows (d : Nat → Nat → Bool) {k : Nat} (hk : k < 10) (hs : ∀ a b, d a b = d b a) (h0 : d k k = false) (hn : ∀ a b, a ≠ k → b ≠ k → d a b = false) : sp_ct (sp_q d) 100 = sp_ct (d k) 10 := by
  have row : ∀ a, sp_ct (sp_q d) (10 * a + 10) = sp_ct (sp_q d) (10 * a) + sp_ct (fun b => decide (a < b) && d a b) 10 := by
    intro a
    rw [sp_ct_add (sp_q d) (10 * a) 10]
    congr 1
    exact sp_ct_congr 10 (fun b hb => sp_q_row d hb)
  have low : ∀ a, a ≤ k → sp_ct (sp_q d) (10 * a) = sp_ct (d k) a := by
    intro a
    induction a with
    | zero => intro _; rfl
    | succ a ih =>
      intro ha
      have e := row a
      rw [show 10 * a + 10 = 10 * (a + 1) from by omega, ih (by omega), sp_ct_one (k := k) 10 hk (fun b hb hbk => by rw [hn a b (by omega) hbk, Bool.and_false]), decide_eq_true (show a < k by omega), Bool.true_and, hs a k] at e
      cases h : d k a with
      | true => rw [h] at e; rw [e, sp_ct_t h]
      | false => rw [h] at e; rw [e, sp_ct_f h]; rfl
  have mid : sp_ct (sp_q d) (10 * (k + 1)) = sp_ct (d k) 10 := by
    have e := row k
    have f := sp_ct_above (e := d k) h0 (10 - (k + 1))
    rw [show k + 1 + (10 - (k + 1)) = 10 from by omega] at f
    rw [show 10 * k + 10 = 10 * (k + 1) from by omega, low k (Nat.le_refl k)] at e
    omega
  have high : ∀ m, sp_ct (sp_q d) (10 * (k + 1 + m)) = sp_ct (d k) 10 := by
    intro m
    induction m with
    | zero => exact mid
    | succ m ih =>
      have e := row (k + 1 + m)
      rw [sp_ct_none 10 (fun b hb => by
        by_cases hlt : k + 1 + m < b
        · rw [hn (k + 1 + m) b (by omega) (by omega), Bool.and_false]
        · rw [decide_eq_false hlt, Bool.false_and]), ih] at e
      rw [show 10 * (k + 1 + (m + 1)) = 10 * (k + 1 + m) + 10 from by omega, e, Nat.add_zero]
  have z := high (9 - k)
  rw [show 10 * (k + 1 + (9 - k)) = 100 from by omega] at z
  exact z
/-! the n-th pair -/
def sp_pr (q : Nat → Bool) (n : Int32) : Nat → Nat → Int32
  | 0, _ => -1
  | d + 1, c => match q c with
    | true => if nI (sp_ct q c) = n then nI c else sp_pr q n d (c + 1)
    | false => sp_pr q n d (c + 1)
theorem sp_pr_f {q : Nat → Bool} {n : Int32} {d c : Nat} (h : q c = false) : sp_pr q n (d + 1) c = sp_pr q n d (c + 1) := by rw [sp_pr, h]
theorem sp_pr_y {q : Nat → Bool} {n : Int32} {d c : Nat} (h : q c = true) (e : nI (sp_ct q c) = n) : sp_pr q n (d + 1) c = nI c := by rw [sp_pr, h]; exact if_pos e
theorem sp_pr_n {q : Nat → Bool} {n : Int32} {d c : Nat} (h : q c = true) (e : ¬ nI (sp_ct q c) = n) : sp_pr q n (d + 1) c = sp_pr q n d (c + 1) := by rw [sp_pr, h]; exact if_neg e
theorem sp_pr_row0 (o : Nat → Nat → Bool) (n : Int32) {a : Nat} (ha : a < 10) : ∀ b d, b ≤ a + 1 → b ≤ 10 → sp_pr (sp_q o) n (d + b) (10 * a) = sp_pr (sp_q o) n d (10 * a + b) := by
  intro b
  induction b with
  | zero => intro _ _ _; rfl
  | succ b ih =>
    intro d h1 h2
    have hq : sp_q o (10 * a + b) = false := by rw [sp_q_row o (by omega), decide_eq_false (by omega)]; rfl
    have e := ih (d + 1) (by omega) (by omega)
    rw [sp_pr_f hq] at e
    rw [show d + (b + 1) = d + 1 + b from by omega, e]
    rfl
/-! clusters -/
def sp_g (o : Nat → Nat → Bool) (x : Int32) (j : Nat) : Int32 := match bt x j with
  | true => x ||| sp_mk (o j) 10
  | false => x
def sp_ps (o : Nat → Nat → Bool) (x : Int32) : Nat → Int32
  | 0 => x
  | j + 1 => sp_g o (sp_ps o x j) j
def sp_it (o : Nat → Nat → Bool) (x : Int32) : Nat → Int32
  | 0 => x
  | n + 1 => sp_ps o (sp_it o x n) 10
def sp_low (x : Int32) : Prop := ∀ i, i < 32 → 10 ≤ i → bt x i = false
theorem sp_g_t {o : Nat → Nat → Bool} {x : Int32} {j : Nat} (h : bt x j = true) : sp_g o x j = x ||| sp_mk (o j) 10 := by unfold sp_g; rw [h]
theorem sp_g_f {o : Nat → Nat → Bool} {x : Int32} {j : Nat} (h : bt x j = false) : sp_g o x j = x := by unfold sp_g; rw [h]
theorem sp_g_sub (o : Nat → Nat → Bool) (x : Int32) (j i : Nat) (h : bt x i = true) : bt (sp_g o x j) i = true := by
  cases hb : bt x j with
  | true => rw [sp_g_t hb, b_or, h]; rfl
  | false => rw [sp_g_f hb]; exact h
theorem sp_g_low (o : Nat → Nat → Bool) {x : Int32} (j : Nat) (h : sp_low x) : sp_low (sp_g o x j) := by
  intro i hi h10
  cases hb : bt x j with
  | true =>
    have hn : ¬ i < 10 := by omega
    rw [sp_g_t hb, b_or, h i hi h10, sp_mk_bt _ 10 (by decide) i hi, decide_eq_false hn]; rfl
  | false => rw [sp_g_f hb]; exact h i hi h10
theorem sp_ps_sub (o : Nat → Nat → Bool) (x : Int32) (i : Nat) (h : bt x i = true) : ∀ j, bt (sp_ps o x j) i = true := by
  intro j
  induction j with
  | zero => exact h
  | succ j ih => exact sp_g_sub o _ j i ih
theorem sp_ps_low (o : Nat → Nat → Bool) {x : Int32} (h : sp_low x) : ∀ j, sp_low (sp_ps o x j) := by
  intro j
  induction j with
  | zero => exact h
  | succ j ih => exact sp_g_low o j ih
theorem sp_it_low (o : Nat → Nat → Bool) {x : Int32} (h : sp_low x) : ∀ n, sp_low (sp_it o x n) := by
  intro n
  induction n with
  | zero => exact h
  | succ n ih => exact sp_ps_low o ih 10
theorem sp_low_ext {x y : Int32} (hx : sp_low x) (hy : sp_low y) (h : ∀ i, i < 10 → bt x i = bt y i) : x = y := by
  apply b_ext
  intro i hi
  by_cases h10 : i < 10
  · exact h i h10
  · rw [hx i hi (by omega), hy i hi (by omega)]
theorem sp_it_fix (o : Nat → Nat → Bool) {x : Int32} (hl : sp_low x) (hc : 1 ≤ sp_ct (bt x) 10) : ∀ n, sp_ps o (sp_it o x n) 10 = sp_it o x n ∨ n + 1 ≤ sp_ct (bt (sp_it o x n)) 10 := by
  intro n
  induction n with
  | zero => exact Or.inr hc
  | succ n ih =>
    by_cases e : sp_ps o (sp_it o x n) 10 = sp_it o x n
    · left
      rw [sp_it, e, e]
    · right
      have h1 : n + 1 ≤ sp_ct (bt (sp_it o x n)) 10 := by
        rcases ih with h | h
        · exact absurd h e
        · exact h
      by_cases h2 : n + 1 + 1 ≤ sp_ct (bt (sp_it o x (n + 1))) 10
      · exact h2
      · exfalso
        apply e
        refine sp_low_ext (sp_ps_low o (sp_it_low o hl n) 10) (sp_it_low o hl n) ?_
        exact sp_ct_eq 10 (fun i _ hi => sp_ps_sub o _ i hi 10) (by rw [sp_it] at h2; omega)
theorem sp_it_end (o : Nat → Nat → Bool) {x : Int32} (hl : sp_low x) (hc : 1 ≤ sp_ct (bt x) 10) : sp_it o x 10 = sp_it o x 9 := by
  show sp_ps o (sp_it o x 9) 10 = sp_it o x 9
  rcases sp_it_fix o hl hc 9 with h | h
  · exact h
  · have all : ∀ i, i < 10 → true = bt (sp_it o x 9) i := sp_ct_eq (p := bt (sp_it o x 9)) (q := fun _ => true) 10 (fun _ _ _ => rfl) (by rw [sp_ct_all]; exact h)
    refine sp_low_ext (sp_ps_low o (sp_it_low o hl 9) 10) (sp_it_low o hl 9) ?_
    intro i hi
    rw [← all i hi]
    exact sp_ps_sub o _ i (all i hi).symm 10
theorem sp_it_one (o : Nat → Nat → Bool) {k : Nat} (hk : k < 10) : sp_it o ((1 : Int32) <<< (nI k &&& 31)) 10 = sp_it o ((1 : Int32) <<< (nI k &&& 31)) 9 := by
  apply sp_it_end
  · intro i hi h10
    rw [sp_one (by omega) hi]
    exact decide_eq_false (by omega)
  · exact sp_ct_pos (k := k) (by rw [sp_one (by omega) (by omega)]; exact decide_eq_true rfl) 10 hk
theorem sp_ps_0 (o : Nat → Nat → Bool) : ∀ j, sp_ps o 0 j = 0 := by
  intro j
  induction j with
  | zero => rfl
  | succ j ih => rw [sp_ps, ih, sp_g_f (b_0 j)]
theorem sp_it_0 (o : Nat → Nat → Bool) : ∀ n, sp_it o 0 n = 0 := by
  intro n
  induction n with
  | zero => rfl
  | succ n ih => rw [sp_it, ih, sp_ps_0]
/-! the deepest point -/
def sp_hs (t : Nat → Bool) (lo hi : Nat → Nat) (x y : Int32) (k : Nat) : Bool := t k && (!decide (x < nI (lo (2 * k + 0))) && (!decide (nI (hi (2 * k + 0)) < x) && (!decide (y < nI (lo (2 * k + 1))) && !decide (nI (hi (2 * k + 1)) < y))))
def sp_D (t : Nat → Bool) (lo hi : Nat → Nat) (x y : Int32) : Nat := sp_ct (sp_hs t lo hi x y) 10
def sp_mx (f : Nat → Nat) (m : Nat) : Nat → Nat
  | 0 => m
  | n + 1 => if f n ≤ sp_mx f m n then sp_mx f m n else f n
def sp_m2 (f : Nat → Nat → Nat) (w : Nat) : Nat → Nat
  | 0 => 0
  | n + 1 => sp_mx (f n) (sp_m2 f w n) w
theorem sp_mx_le {f : Nat → Nat} {m B : Nat} (hm : m ≤ B) : ∀ n, (∀ i, i < n → f i ≤ B) → sp_mx f m n ≤ B := by
  intro n
  induction n with
  | zero => intro _; exact hm
  | succ n ih =>
    intro h
    have a := ih (fun i hi => h i (by omega))
    have b := h n (by omega)
    rw [sp_mx]
    split <;> assumption
theorem sp_mx_ge {f : Nat → Nat} {m : Nat} : ∀ n, m ≤ sp_mx f m n ∧ ∀ i, i < n → f i ≤ sp_mx f m n := by
  intro n
  induction n with
  | zero => exact ⟨Nat.le_refl m, fun i hi => by omega⟩
  | succ n ih =>
    obtain ⟨a, b⟩ := ih
    rw [sp_mx]
    split
    · rename_i h
      refine ⟨a, fun i hi => ?_⟩
      by_cases e : i = n
      · subst e; exact h
      · exact b i (by omega)
    · rename_i h
      refine ⟨by omega, fun i hi => ?_⟩
      by_cases e : i = n
      · subst e; exact Nat.le_refl _
      · have := b i (by omega); omega
theorem sp_m2_le {f : Nat → Nat → Nat} {w B : Nat} : ∀ n, (∀ a, a < n → ∀ b, b < w → f a b ≤ B) → sp_m2 f w n ≤ B := by
  intro n
  induction n with
  | zero => intro _; exact Nat.zero_le B
  | succ n ih =>
    intro h
    exact sp_mx_le (ih (fun a ha => h a (by omega))) w (h n (by omega))
theorem sp_m2_ge {f : Nat → Nat → Nat} {w : Nat} : ∀ n a, a < n → ∀ b, b < w → f a b ≤ sp_m2 f w n := by
  intro n
  induction n with
  | zero => intro a ha; omega
  | succ n ih =>
    intro a ha b hb
    have z := sp_mx_ge (f := f n) (m := sp_m2 f w n) w
    by_cases e : a = n
    · subst e; exact z.2 b hb
    · exact Nat.le_trans (ih a (by omega) b hb) z.1
theorem sp_pick (p : Nat → Bool) (f : Nat → Nat) : ∀ n, (∃ i, i < n ∧ p i = true) → ∃ a, a < n ∧ p a = true ∧ ∀ i, i < n → p i = true → f i ≤ f a := by
  intro n
  induction n with
  | zero => intro ⟨i, hi, _⟩; omega
  | succ n ih =>
    intro ⟨i, hi, hp⟩
    by_cases ex : ∃ i, i < n ∧ p i = true
    · obtain ⟨a, ha, hpa, hm⟩ := ih ex
      by_cases hn : p n = true ∧ f a < f n
      · refine ⟨n, by omega, hn.1, fun j hj hpj => ?_⟩
        by_cases e : j = n
        · subst e; exact Nat.le_refl _
        · have := hm j (by omega) hpj; omega
      · refine ⟨a, by omega, hpa, fun j hj hpj => ?_⟩
        by_cases e : j = n
        · subst e
          have : ¬ f a < f j := fun z => hn ⟨hpj, z⟩
          omega
        · exact hm j (by omega) hpj
    · have e : i = n := by
        by_cases e : i = n
        · exact e
        · exact absurd ⟨i, by omega, hp⟩ ex
      subst e
      refine ⟨i, by omega, hp, fun j hj hpj => ?_⟩
      by_cases e : j = i
      · subst e; exact Nat.le_refl _
      · exact absurd ⟨j, by omega, hpj⟩ ex
def sp_G (lo hi : Nat → Nat) : Prop := ∀ j, lo j ≤ hi j ∧ hi j < 100
theorem sp_hs_nI {t : Nat → Bool} {lo hi : Nat → Nat} (g : sp_G lo hi) {x y k : Nat} (hx : x < 100) (hy : y < 100) : sp_hs t lo hi (nI x) (nI y) k = true ↔ t k = true ∧ lo (2 * k + 0) ≤ x ∧ x ≤ hi (2 * k + 0) ∧ lo (2 * k + 1) ≤ y ∧ y ≤ hi (2 * k + 1) := by
  have g0 := g (2 * k + 0)
  have g1 := g (2 * k + 1)
  unfold sp_hs
  simp only [Bool.and_eq_true, Bool.not_eq_true', decide_eq_false_iff_not]
  rw [nI_ltI (by omega) (by omega), nI_ltI (by omega) (by omega), nI_ltI (by omega) (by omega), nI_ltI (by omega) (by omega), Nat.not_lt, Nat.not_lt, Nat.not_lt, Nat.not_lt]
def sp_fX (t : Nat → Bool) (lo hi : Nat → Nat) (a b : Nat) : Nat := match t a && t b with
  | true => sp_D t lo hi (nI (lo (2 * a + 0))) (nI (lo (2 * b + 1)))
  | false => 0
def sp_fY (t : Nat → Bool) (lo hi : Nat → Nat) (x y : Nat) : Nat := sp_D t lo hi (nI x) (nI y)
theorem sp_D_le (t : Nat → Bool) (lo hi : Nat → Nat) (x y : Int32) : sp_D t lo hi x y ≤ 10 := sp_ct_le _ 10
theorem sp_fX_le (t : Nat → Bool) (lo hi : Nat → Nat) (a b : Nat) : sp_fX t lo hi a b ≤ 10 := by
  unfold sp_fX
  split
  · exact sp_D_le _ _ _ _ _
  · omega
theorem sp_deep {t : Nat → Bool} {lo hi : Nat → Nat} (g : sp_G lo hi) : sp_m2 (sp_fX t lo hi) 10 10 = sp_m2 (sp_fY t lo hi) 100 100 := by
  apply Nat.le_antisymm
  · refine sp_m2_le 10 (fun a ha b hb => ?_)
    cases h : t a && t b with
    | false => rw [sp_fX, h]; exact Nat.zero_le _
    | true =>
      rw [sp_fX, h]
      have ga := g (2 * a + 0)
      have gb := g (2 * b + 1)
      exact sp_m2_ge (f := sp_fY t lo hi) 100 (lo (2 * a + 0)) (by omega) (lo (2 * b + 1)) (by omega)
  · refine sp_m2_le 100 (fun x hx y hy => ?_)
    by_cases hz : 1 ≤ sp_fY t lo hi x y
    · obtain ⟨k, hk, hp⟩ := sp_ct_ex 10 hz
      obtain ⟨a, ha, hpa, ma⟩ := sp_pick (sp_hs t lo hi (nI x) (nI y)) (fun i => lo (2 * i + 0)) 10 ⟨k, hk, hp⟩
      obtain ⟨b, hb, hpb, mb⟩ := sp_pick (sp_hs t lo hi (nI x) (nI y)) (fun i => lo (2 * i + 1)) 10 ⟨k, hk, hp⟩
      have qa := (sp_hs_nI g hx hy).mp hpa
      have qb := (sp_hs_nI g hx hy).mp hpb
      have e : sp_fX t lo hi a b = sp_D t lo hi (nI (lo (2 * a + 0))) (nI (lo (2 * b + 1))) := by rw [sp_fX, qa.1, qb.1]; rfl
      refine Nat.le_trans ?_ (sp_m2_ge (f := sp_fX t lo hi) 10 a ha b hb)
      rw [e]
      refine sp_ct_mono 10 (fun i hl hpi => ?_)
      have qi := (sp_hs_nI g hx hy).mp hpi
      have xa : lo (2 * i + 0) ≤ lo (2 * a + 0) := ma i hl hpi
      have yb : lo (2 * i + 1) ≤ lo (2 * b + 1) := mb i hl hpi
      exact (sp_hs_nI g (by omega) (by omega)).mpr ⟨qi.1, xa, by omega, yb, by omega⟩
    · omega
/-! rank -/
def sp_bf (t : Nat → Bool) (lo : Nat → Nat) (k c j : Nat) : Bool := t j && (decide (lo (2 * j + c) < lo (2 * k + c)) || (decide (lo (2 * j + c) = lo (2 * k + c)) && decide (j < k)))
