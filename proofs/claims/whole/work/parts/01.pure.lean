-- part 01: numbers, sums, ranks, the shape of the forest
theorem pk_mul (a b : Nat) : nI a * nI b = nI (a * b) := (Int32.ofNat_mul a b).symm
theorem pk_ix (x : Int32) {n : Nat} (hn : n < 2 ^ 31) : x < 0 ∨ nI n ≤ x ∨ ∃ j : Nat, j < n ∧ x = nI j := by
  by_cases h : x < 0
  · exact Or.inl h
  · obtain ⟨j, hj, rfl⟩ := nI_of h
    by_cases h2 : j < n
    · exact Or.inr (Or.inr ⟨j, h2, rfl⟩)
    · exact Or.inr (Or.inl (nI_le (by omega) hj))
theorem ia_ne {n : Nat} (h : n < 2 ^ 31) : ¬ nI n = -1 := by
  intro e
  have h1 : ¬ nI n < 0 := nI_pos h
  rw [e] at h1
  exact h1 (by decide)
theorem ia_inj {i j : Nat} (hi : i < 2 ^ 31) (hj : j < 2 ^ 31) (h : nI i = nI j) : i = j := (nI_eq hi hj).mp h
def ia_up (f : Nat → Nat) (k v : Nat) : Nat → Nat := fun j => if j = k then v else f j
theorem ia_ups {f : Nat → Nat} {k v : Nat} : ia_up f k v k = v := if_pos rfl
theorem ia_upn {f : Nat → Nat} {k v j : Nat} (h : j ≠ k) : ia_up f k v j = f j := if_neg h
theorem ia_us {f : Nat → Int32} {k : Nat} {x : Int32} : upd f k x k = x := if_pos rfl
theorem ia_un {f : Nat → Int32} {k j : Nat} {x : Int32} (h : j ≠ k) : upd f k x j = f j := if_neg h
/-- the sum of f below n -/
def ia_sm (f : Nat → Nat) : Nat → Nat
  | 0 => 0
  | n + 1 => ia_sm f n + f n
theorem ia_sm_le {f : Nat → Nat} : ∀ n, (∀ m, m < n → f m ≤ 3) → ia_sm f n ≤ 3 * n := by
  intro n
  induction n with
  | zero => intro _; exact Nat.le_refl 0
  | succ n ih =>
    intro h
    have h1 := ih (fun m hm => h m (by omega))
    have h2 := h n (by omega)
    show ia_sm f n + f n ≤ 3 * (n + 1)
    omega
theorem ia_sm_lt {f : Nat → Nat} {j : Nat} : ∀ n, (∀ m, m < n → f m ≤ 3) → j < n → f j ≤ 2 → ia_sm f n < 3 * n := by
  intro n
  induction n with
  | zero => intro _ h _; exact absurd h (Nat.not_lt_zero _)
  | succ n ih =>
    intro h hj h2
    show ia_sm f n + f n < 3 * (n + 1)
    by_cases e : j = n
    · subst e
      have h1 := ia_sm_le j (fun m hm => h m (by omega))
      omega
    · have h1 := ih (fun m hm => h m (by omega)) (by omega) h2
      have h3 := h n (by omega)
      omega
theorem ia_sm_c {f g : Nat → Nat} : ∀ n, (∀ m, m < n → f m = g m) → ia_sm f n = ia_sm g n := by
  intro n
  induction n with
  | zero => intro _; rfl
  | succ n ih =>
    intro h
    show ia_sm f n + f n = ia_sm g n + g n
    rw [ih (fun m hm => h m (by omega)), h n (by omega)]
theorem ia_sm_up {f : Nat → Nat} {j v : Nat} : ∀ n, j < n → ia_sm (ia_up f j v) n + f j = ia_sm f n + v := by
  intro n
  induction n with
  | zero => intro h; exact absurd h (Nat.not_lt_zero _)
  | succ n ih =>
    intro hj
    show ia_sm (ia_up f j v) n + ia_up f j v n + f j = ia_sm f n + f n + v
    by_cases e : j = n
    · subst e
      have h1 : ia_sm (ia_up f j v) j = ia_sm f j := ia_sm_c j (fun m hm => ia_upn (by omega))
      rw [h1, ia_ups]
      omega
    · have h1 := ih (by omega)
      rw [ia_upn (f := f) (v := v) (j := n) (k := j) (by omega)]
      omega
/-- how many below n satisfy q -/
def ia_cnt (q : Nat → Bool) : Nat → Nat
  | 0 => 0
  | n + 1 => ia_cnt q n + (if q n = true then 1 else 0)
theorem ia_cnt_le {q : Nat → Bool} : ∀ n, ia_cnt q n ≤ n := by
  intro n
  induction n with
  | zero => exact Nat.le_refl 0
  | succ n ih =>
    show ia_cnt q n + (if q n = true then 1 else 0) ≤ n + 1
    split <;> omega
theorem ia_cnt_lt {q : Nat → Bool} {j : Nat} (hq : q j = false) : ∀ n, j < n → ia_cnt q n < n := by
  intro n
  induction n with
  | zero => intro h; exact absurd h (Nat.not_lt_zero _)
  | succ n ih =>
    intro hj
    show ia_cnt q n + (if q n = true then 1 else 0) < n + 1
    by_cases e : j = n
    · subst e
      have h1 := ia_cnt_le (q := q) j
      rw [hq]
      simp only [Bool.false_eq_true, if_false]
      omega
    · have h1 := ih (by omega)
      split <;> omega
theorem ia_cnt_mono {q q' : Nat → Bool} (h : ∀ m, q m = true → q' m = true) : ∀ n, ia_cnt q n ≤ ia_cnt q' n := by
  intro n
  induction n with
  | zero => exact Nat.le_refl 0
  | succ n ih =>
    show ia_cnt q n + (if q n = true then 1 else 0) ≤ ia_cnt q' n + (if q' n = true then 1 else 0)
    by_cases e : q n = true
    · rw [if_pos e, if_pos (h n e)]; omega
    · rw [if_neg e]; omega
theorem ia_cnt_slt {q q' : Nat → Bool} {j : Nat} (h : ∀ m, q m = true → q' m = true) (h0 : q j = false) (h1 : q' j = true) : ∀ n, j < n → ia_cnt q n < ia_cnt q' n := by
  intro n
  induction n with
  | zero => intro h; exact absurd h (Nat.not_lt_zero _)
  | succ n ih =>
    intro hj
    show ia_cnt q n + (if q n = true then 1 else 0) < ia_cnt q' n + (if q' n = true then 1 else 0)
    by_cases e : j = n
    · subst e
      have h2 := ia_cnt_mono h j
      rw [h0, h1]
      simp only [Bool.false_eq_true, if_false, if_true]
      omega
    · have h2 := ih (by omega)
      by_cases e : q n = true
      · rw [if_pos e, if_pos (h n e)]; omega
      · rw [if_neg e]; omega
/-- a rank below c out of any rank -/
def ia_rk (c : Nat) (R : Nat → Nat) (n : Nat) : Nat := ia_cnt (fun m => decide (R m < R n)) c
theorem ia_rk_lt {c : Nat} {R : Nat → Nat} {n : Nat} (h : n < c) : ia_rk c R n < c :=
  ia_cnt_lt (q := fun m => decide (R m < R n)) (j := n) (decide_eq_false (Nat.lt_irrefl _)) c h
theorem ia_rk_mono {c : Nat} {R : Nat → Nat} {n p : Nat} (h : n < c) (hr : R n < R p) : ia_rk c R n < ia_rk c R p :=
  ia_cnt_slt (q := fun m => decide (R m < R n)) (q' := fun m => decide (R m < R p)) (j := n) (fun m hm => decide_eq_true (Nat.lt_trans (of_decide_eq_true hm) hr)) (decide_eq_false (Nat.lt_irrefl _)) (decide_eq_true hr) c h
/-- the shape of the forest: kinds, payloads, slots and parents fit, and parents have the greater rank -/
def ia_Sh (c : Nat) (K P A B U : Nat → Int32) (a b R : Nat → Nat) : Prop :=
  (∀ n, n < c → R n < c) ∧
  (∀ n, n < c → K n = 1 ∨ K n = 2 ∨ K n = 3 ∨ K n = 4 ∨ K n = 5 ∨ K n = 6) ∧
  (∀ n, n < c → (K n = 2 ∨ K n = 6) → ∃ x, x < 8 ∧ P n = nI x) ∧
  (∀ n, n < c → K n ≠ 1 → K n ≠ 2 → A n = nI (a n) ∧ B n = nI (b n) ∧ a n < c ∧ b n < c ∧ a n ≠ b n ∧ U (a n) = nI n ∧ U (b n) = nI n) ∧
  (∀ n, n < c → U n = -1 ∨ ∃ p, p < c ∧ U n = nI p ∧ R n < R p ∧ K p ≠ 1 ∧ K p ≠ 2 ∧ (a p = n ∨ b p = n))
/-- the values that come from above: node n's in D1, E1, G1 out of its parent's in D0, E0, G0 and its elder's value in V0 -/
def ia_EnvF (c : Nat) (K P U : Nat → Int32) (a b : Nat → Nat) (D0 E0 G0 V0 D1 E1 G1 : Nat → Int32) (n : Nat) : Prop :=
  (U n = -1 → D1 n = 0 ∧ ∀ x, x < 8 → E1 (n * 8 + x) = 0 ∧ G1 (n * 8 + x) = 0) ∧
  (∀ p, p < c → U n = nI p → D1 n = D0 p + 1 ∧ ∀ x, x < 8 →
    ((K p = 6 ∧ b p = n ∧ P p = nI x) → E1 (n * 8 + x) = V0 (a p) ∧ G1 (n * 8 + x) = 1) ∧
    (¬ (K p = 6 ∧ b p = n ∧ P p = nI x) → E1 (n * 8 + x) = E0 (p * 8 + x) ∧ G1 (n * 8 + x) = G0 (p * 8 + x)))
def ia_comb (k x y : Int32) : Int32 := if k = 3 then x + y else if k = 4 then x - y else if k = 5 then x * y else y
/-- the values that come from below: node n's in V1, Z1, S1 out of its children's in V0, Z0, S0 and its own env in E, G -/
def ia_ValF (K P : Nat → Int32) (a b : Nat → Nat) (V0 Z0 S0 E G V1 Z1 S1 : Nat → Int32) (n : Nat) : Prop :=
  (K n = 1 → V1 n = P n ∧ Z1 n = 0 ∧ S1 n = 1) ∧
  (K n = 2 → ∀ x, x < 8 → P n = nI x → S1 n = 1 ∧ (G (n * 8 + x) = 0 → V1 n = 0 ∧ Z1 n = 1) ∧ (¬ G (n * 8 + x) = 0 → V1 n = E (n * 8 + x) ∧ Z1 n = 0)) ∧
  (K n ≠ 1 → K n ≠ 2 → V1 n = ia_comb (K n) (V0 (a n)) (V0 (b n)) ∧ Z1 n = Z0 (a n) + Z0 (b n) ∧ S1 n = 1 + S0 (a n) + S0 (b n))
