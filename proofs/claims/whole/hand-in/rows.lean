section
-- part 01: numbers, sums, ranks, the shape of the forest
theorem pk_mul (a b : Nat) : nI a * nI b = nI (a * b) := (Int32.ofNat_mul a b).symm
theorem pk_ix (x : Int32) {n : Nat} (hn : n < 2 ^ 31) : x < 0 ∨ nI n ≤ x ∨ ∃ j : Nat, j < n ∧ x = nI j := by
  by_cases h : x < 0
  · exact Or.inl h
  · obtain ⟨j, hj, rfl⟩ := nI_of h
    by_cases h2 : j < n
    · exact Or.inr (Or.inr ⟨j, h2, rfl⟩)
    · exact Or.inr (Or.inl (nI_le (by omega) hj))
theorem ia_ne {n : Nat} (h : n < 2 ^ 31) : ¬ nI n = -1 := by
  intro e
  have h1 : ¬ nI n < 0 := nI_pos h
  rw [e] at h1
  exact h1 (by decide)
theorem ia_inj {i j : Nat} (hi : i < 2 ^ 31) (hj : j < 2 ^ 31) (h : nI i = nI j) : i = j := (nI_eq hi hj).mp h
def ia_up (f : Nat → Nat) (k v : Nat) : Nat → Nat := fun j => if j = k then v else f j
theorem ia_ups {f : Nat → Nat} {k v : Nat} : ia_up f k v k = v := if_pos rfl
theorem ia_upn {f : Nat → Nat} {k v j : Nat} (h : j ≠ k) : ia_up f k v j = f j := if_neg h
theorem ia_us {f : Nat → Int32} {k : Nat} {x : Int32} : upd f k x k = x := if_pos rfl
theorem ia_un {f : Nat → Int32} {k j : Nat} {x : Int32} (h : j ≠ k) : upd f k x j = f j := if_neg h
/-- the sum of f below n -/
def ia_sm (f : Nat → Nat) : Nat → Nat
  | 0 => 0
  | n + 1 => ia_sm f n + f n
theorem ia_sm_le {f : Nat → Nat} : ∀ n, (∀ m, m < n → f m ≤ 3) → ia_sm f n ≤ 3 * n := by
  intro n
  induction n with
  | zero => intro _; exact Nat.le_refl 0
  | succ n ih =>
    intro h
    have h1 := ih (fun m hm => h m (by omega))
    have h2 := h n (by omega)
    show ia_sm f n + f n ≤ 3 * (n + 1)
    omega
theorem ia_sm_lt {f : Nat → Nat} {j : Nat} : ∀ n, (∀ m, m < n → f m ≤ 3) → j < n → f j ≤ 2 → ia_sm f n < 3 * n := by
  intro n
  induction n with
  | zero => intro _ h _; exact absurd h (Nat.not_lt_zero _)
  | succ n ih =>
    intro h hj h2
    show ia_sm f n + f n < 3 * (n + 1)
    by_cases e : j = n
    · subst e
      have h1 := ia_sm_le j (fun m hm => h m (by omega))
      omega
    · have h1 := ih (fun m hm => h m (by omega)) (by omega) h2
      have h3 := h n (by omega)
      omega
theorem ia_sm_c {f g : Nat → Nat} : ∀ n, (∀ m, m < n → f m = g m) → ia_sm f n = ia_sm g n := by
  intro n
  induction n with
  | zero => intro _; rfl
  | succ n ih =>
    intro h
    show ia_sm f n + f n = ia_sm g n + g n
    rw [ih (fun m hm => h m (by omega)), h n (by omega)]
theorem ia_sm_up {f : Nat → Nat} {j v : Nat} : ∀ n, j < n → ia_sm (ia_up f j v) n + f j = ia_sm f n + v := by
  intro n
  induction n with
  | zero => intro h; exact absurd h (Nat.not_lt_zero _)
  | succ n ih =>
    intro hj
    show ia_sm (ia_up f j v) n + ia_up f j v n + f j = ia_sm f n + f n + v
    by_cases e : j = n
    · subst e
      have h1 : ia_sm (ia_up f j v) j = ia_sm f j := ia_sm_c j (fun m hm => ia_upn (by omega))
      rw [h1, ia_ups]
      omega
    · have h1 := ih (by omega)
      rw [ia_upn (f := f) (v := v) (j := n) (k := j) (by omega)]
      omega
/-- how many below n satisfy q -/
def ia_cnt (q : Nat → Bool) : Nat → Nat
  | 0 => 0
  | n + 1 => ia_cnt q n + (if q n = true then 1 else 0)
theorem ia_cnt_le {q : Nat → Bool} : ∀ n, ia_cnt q n ≤ n := by
  intro n
  induction n with
  | zero => exact Nat.le_refl 0
  | succ n ih =>
    show ia_cnt q n + (if q n = true then 1 else 0) ≤ n + 1
    split <;> omega
theorem ia_cnt_lt {q : Nat → Bool} {j : Nat} (hq : q j = false) : ∀ n, j < n → ia_cnt q n < n := by
  intro n
  induction n with
  | zero => intro h; exact absurd h (Nat.not_lt_zero _)
  | succ n ih =>
    intro hj
    show ia_cnt q n + (if q n = true then 1 else 0) < n + 1
    by_cases e : j = n
    · subst e
      have h1 := ia_cnt_le (q := q) j
      rw [hq]
      simp only [Bool.false_eq_true, if_false]
      omega
    · have h1 := ih (by omega)
      split <;> omega
theorem ia_cnt_mono {q q' : Nat → Bool} (h : ∀ m, q m = true → q' m = true) : ∀ n, ia_cnt q n ≤ ia_cnt q' n := by
  intro n
  induction n with
  | zero => exact Nat.le_refl 0
  | succ n ih =>
    show ia_cnt q n + (if q n = true then 1 else 0) ≤ ia_cnt q' n + (if q' n = true then 1 else 0)
    by_cases e : q n = true
    · rw [if_pos e, if_pos (h n e)]; omega
    · rw [if_neg e]; omega
theorem ia_cnt_slt {q q' : Nat → Bool} {j : Nat} (h : ∀ m, q m = true → q' m = true) (h0 : q j = false) (h1 : q' j = true) : ∀ n, j < n → ia_cnt q n < ia_cnt q' n := by
  intro n
  induction n with
  | zero => intro h; exact absurd h (Nat.not_lt_zero _)
  | succ n ih =>
    intro hj
    show ia_cnt q n + (if q n = true then 1 else 0) < ia_cnt q' n + (if q' n = true then 1 else 0)
    by_cases e : j = n
    · subst e
      have h2 := ia_cnt_mono h j
      rw [h0, h1]
      simp only [Bool.false_eq_true, if_false, if_true]
      omega
    · have h2 := ih (by omega)
      by_cases e : q n = true
      · rw [if_pos e, if_pos (h n e)]; omega
      · rw [if_neg e]; omega
/-- a rank below c out of any rank -/
def ia_rk (c : Nat) (R : Nat → Nat) (n : Nat) : Nat := ia_cnt (fun m => decide (R m < R n)) c
theorem ia_rk_lt {c : Nat} {R : Nat → Nat} {n : Nat} (h : n < c) : ia_rk c R n < c :=
  ia_cnt_lt (q := fun m => decide (R m < R n)) (j := n) (decide_eq_false (Nat.lt_irrefl _)) c h
theorem ia_rk_mono {c : Nat} {R : Nat → Nat} {n p : Nat} (h : n < c) (hr : R n < R p) : ia_rk c R n < ia_rk c R p :=
  ia_cnt_slt (q := fun m => decide (R m < R n)) (q' := fun m => decide (R m < R p)) (j := n) (fun m hm => decide_eq_true (Nat.lt_trans (of_decide_eq_true hm) hr)) (decide_eq_false (Nat.lt_irrefl _)) (decide_eq_true hr) c h
/-- the shape of the forest: kinds, payloads, slots and parents fit, and parents have the greater rank -/
def ia_Sh (c : Nat) (K P A B U : Nat → Int32) (a b R : Nat → Nat) : Prop :=
  (∀ n, n < c → R n < c) ∧
  (∀ n, n < c → K n = 1 ∨ K n = 2 ∨ K n = 3 ∨ K n = 4 ∨ K n = 5 ∨ K n = 6) ∧
  (∀ n, n < c → (K n = 2 ∨ K n = 6) → ∃ x, x < 8 ∧ P n = nI x) ∧
  (∀ n, n < c → K n ≠ 1 → K n ≠ 2 → A n = nI (a n) ∧ B n = nI (b n) ∧ a n < c ∧ b n < c ∧ a n ≠ b n ∧ U (a n) = nI n ∧ U (b n) = nI n) ∧
  (∀ n, n < c → U n = -1 ∨ ∃ p, p < c ∧ U n = nI p ∧ R n < R p ∧ K p ≠ 1 ∧ K p ≠ 2 ∧ (a p = n ∨ b p = n))
/-- the values that come from above: node n's in D1, E1, G1 out of its parent's in D0, E0, G0 and its elder's value in V0 -/
def ia_EnvF (c : Nat) (K P U : Nat → Int32) (a b : Nat → Nat) (D0 E0 G0 V0 D1 E1 G1 : Nat → Int32) (n : Nat) : Prop :=
  (U n = -1 → D1 n = 0 ∧ ∀ x, x < 8 → E1 (n * 8 + x) = 0 ∧ G1 (n * 8 + x) = 0) ∧
  (∀ p, p < c → U n = nI p → D1 n = D0 p + 1 ∧ ∀ x, x < 8 →
    ((K p = 6 ∧ b p = n ∧ P p = nI x) → E1 (n * 8 + x) = V0 (a p) ∧ G1 (n * 8 + x) = 1) ∧
    (¬ (K p = 6 ∧ b p = n ∧ P p = nI x) → E1 (n * 8 + x) = E0 (p * 8 + x) ∧ G1 (n * 8 + x) = G0 (p * 8 + x)))
def ia_comb (k x y : Int32) : Int32 := if k = 3 then x + y else if k = 4 then x - y else if k = 5 then x * y else y
/-- the values that come from below: node n's in V1, Z1, S1 out of its children's in V0, Z0, S0 and its own env in E, G -/
def ia_ValF (K P : Nat → Int32) (a b : Nat → Nat) (V0 Z0 S0 E G V1 Z1 S1 : Nat → Int32) (n : Nat) : Prop :=
  (K n = 1 → V1 n = P n ∧ Z1 n = 0 ∧ S1 n = 1) ∧
  (K n = 2 → ∀ x, x < 8 → P n = nI x → S1 n = 1 ∧ (G (n * 8 + x) = 0 → V1 n = 0 ∧ Z1 n = 1) ∧ (¬ G (n * 8 + x) = 0 → V1 n = E (n * 8 + x) ∧ Z1 n = 0)) ∧
  (K n ≠ 1 → K n ≠ 2 → V1 n = ia_comb (K n) (V0 (a n)) (V0 (b n)) ∧ Z1 n = Z0 (a n) + Z0 (b n) ∧ S1 n = 1 + S0 (a n) + S0 (b n))
end
section
-- part 02: the walk over the root's tree, as a pure invariant with a state st (0 not entered, 1 in slot 0, 2 in slot 1, 3 done) and times ti, to a node
def ia_Wk (c : Nat) (K P A B U : Nat → Int32) (a b R : Nat → Nat) (rt : Nat) (D V Z S E G : Nat → Int32) (st ti to : Nat → Nat) (t : Nat) (cur fr : Int32) : Prop :=
  (t ≤ ia_sm st c) ∧
  (∀ m, m < c → st m ≤ 3) ∧
  (∀ m, m < c → K m ≠ 1 → K m ≠ 2 → (st m = 0 → st (a m) = 0 ∧ st (b m) = 0) ∧ (st m = 1 → st (b m) = 0) ∧ (st m = 2 → st (a m) = 3) ∧ (st m = 3 → st (a m) = 3 ∧ st (b m) = 3)) ∧
  (∀ m, m < c → (st m = 1 ∨ st m = 2 ∨ cur = nI m) → m = rt ∨ ∃ p, p < c ∧ U m = nI p ∧ ((a p = m ∧ st p = 1) ∨ (b p = m ∧ st p = 2))) ∧
  (∀ m, m < c → st m = 3 → m = rt ∨ ∃ p, p < c ∧ U m = nI p ∧ st p ≠ 0) ∧
  ((cur = -1 ∧ st rt = 3) ∨ ∃ n, n < c ∧ cur = nI n ∧ ((st n = 0 ∧ fr = U n) ∨ (K n ≠ 1 ∧ K n ≠ 2 ∧ st n = 1 ∧ fr = A n ∧ st (a n) = 3) ∨ (K n ≠ 1 ∧ K n ≠ 2 ∧ st n = 2 ∧ fr = B n ∧ st (b n) = 3))) ∧
  (∀ m, m < c → (st m ≠ 0 ∨ cur = nI m) → ia_EnvF c K P U a b D E G V D E G m ∧ (∃ d, d + R m ≤ 32 ∧ D m = nI d) ∧ ti m ≤ t ∧ (∀ p, p < c → U m = nI p → ti p < ti m ∧ (b p = m → to (a p) < ti m))) ∧
  (∀ m, m < c → st m = 3 → ia_ValF K P a b V Z S E G V Z S m ∧ to m ≤ t ∧ ti m < to m ∧ (K m ≠ 1 → K m ≠ 2 → to (a m) < to m ∧ to (b m) < to m)) ∧
  (∀ m, m < c → st m = 0 → cur ≠ nI m → D m = -1)
section
variable {c : Nat} {K P A B U : Nat → Int32} {a b R : Nat → Nat} {rt : Nat} {D V Z S E G D' V' Z' S' E' G' : Nat → Int32} {st ti to : Nat → Nat} {t n m : Nat} {cur fr : Int32}
/-- a node's parent holds it in a slot, is an inner node, and has the greater rank -/
theorem ia_par (hS : ia_Sh c K P A B U a b R) (hc : c ≤ 32) {q p : Nat} (hq : q < c) (hp : p < c) (h : U q = nI p) : R q < R p ∧ K p ≠ 1 ∧ K p ≠ 2 ∧ (a p = q ∨ b p = q) := by
  obtain ⟨_, _, _, _, h5⟩ := hS
  rcases h5 q hq with e | ⟨p', hp', e, hr, k1, k2, hs⟩
  · rw [e] at h; exact absurd h.symm (ia_ne (by omega))
  · have : p' = p := ia_inj (by omega) (by omega) (e.symm.trans h)
    subst this; exact ⟨hr, k1, k2, hs⟩
theorem ia_uniq (hc : c ≤ 32) {q p p' : Nat} (hp : p < c) (hp' : p' < c) (h : U q = nI p) (h' : U q = nI p') : p' = p :=
  ia_inj (by omega) (by omega) (h'.symm.trans h)
theorem ia_nroot (hc : c ≤ 32) (hr : U rt = -1) {q p : Nat} (hp : p < c) (h : U q = nI p) : q ≠ rt := by
  intro e; rw [e, hr] at h; exact ia_ne (by omega) h.symm
theorem ia_EnvF_c {D0 E0 G0 V0 D1 E1 G1 D0' E0' G0' V0' D1' E1' G1' : Nat → Int32} {q : Nat}
    (h : ia_EnvF c K P U a b D0 E0 G0 V0 D1 E1 G1 q) (hD : D1' q = D1 q) (hE : ∀ x, x < 8 → E1' (q * 8 + x) = E1 (q * 8 + x) ∧ G1' (q * 8 + x) = G1 (q * 8 + x))
    (hp : ∀ p, p < c → U q = nI p → D0' p = D0 p ∧ (∀ x, x < 8 → E0' (p * 8 + x) = E0 (p * 8 + x) ∧ G0' (p * 8 + x) = G0 (p * 8 + x)) ∧ (K p = 6 → b p = q → V0' (a p) = V0 (a p))) :
    ia_EnvF c K P U a b D0' E0' G0' V0' D1' E1' G1' q := by
  obtain ⟨h1, h2⟩ := h
  refine ⟨fun e => ⟨hD.trans (h1 e).1, fun x hx => ⟨(hE x hx).1.trans ((h1 e).2 x hx).1, (hE x hx).2.trans ((h1 e).2 x hx).2⟩⟩, fun p hpc hu => ?_⟩
  obtain ⟨p1, p2, p3⟩ := hp p hpc hu
  obtain ⟨d, f⟩ := h2 p hpc hu
  refine ⟨by rw [hD, p1]; exact d, fun x hx => ⟨fun e => ?_, fun e => ?_⟩⟩
  · obtain ⟨f1, f2⟩ := (f x hx).1 e
    exact ⟨by rw [(hE x hx).1, p3 e.1 e.2.1]; exact f1, by rw [(hE x hx).2]; exact f2⟩
  · obtain ⟨f1, f2⟩ := (f x hx).2 e
    exact ⟨by rw [(hE x hx).1, (p2 x hx).1]; exact f1, by rw [(hE x hx).2, (p2 x hx).2]; exact f2⟩
theorem ia_ValF_c {V0 Z0 S0 V1 Z1 S1 V0' Z0' S0' V1' Z1' S1' : Nat → Int32} {q : Nat}
    (h : ia_ValF K P a b V0 Z0 S0 E G V1 Z1 S1 q) (hV : V1' q = V1 q ∧ Z1' q = Z1 q ∧ S1' q = S1 q) (hE : ∀ x, x < 8 → E' (q * 8 + x) = E (q * 8 + x) ∧ G' (q * 8 + x) = G (q * 8 + x))
    (hs : K q ≠ 1 → K q ≠ 2 → (V0' (a q) = V0 (a q) ∧ Z0' (a q) = Z0 (a q) ∧ S0' (a q) = S0 (a q)) ∧ (V0' (b q) = V0 (b q) ∧ Z0' (b q) = Z0 (b q) ∧ S0' (b q) = S0 (b q))) :
    ia_ValF K P a b V0' Z0' S0' E' G' V1' Z1' S1' q := by
  obtain ⟨h1, h2, h3⟩ := h
  obtain ⟨v1, v2, v3⟩ := hV
  refine ⟨fun k => ?_, fun k x hx hp => ?_, fun k k' => ?_⟩
  · rw [v1, v2, v3]; exact h1 k
  · obtain ⟨e1, e2⟩ := hE x hx
    rw [v1, v2, v3, e1, e2]; exact h2 k x hx hp
  · obtain ⟨⟨x1, x2, x3⟩, y1, y2, y3⟩ := hs k k'
    rw [v1, v2, v3, x1, x2, x3, y1, y2, y3]; exact h3 k k'
/-- what the walk has entered has a parent that it has entered too -/
theorem ia_ent (hc : c ≤ 32) (hr : U rt = -1) (W : ia_Wk c K P A B U a b R rt D V Z S E G st ti to t cur fr) {q p : Nat} (hq : q < c) (he : st q ≠ 0 ∨ cur = nI q) (hp : p < c) (hu : U q = nI p) : st p ≠ 0 := by
  obtain ⟨_, w2, _, w4, w5, _⟩ := W
  by_cases h3 : st q = 3
  · rcases w5 q hq h3 with e | ⟨p', hp', hu', hs⟩
    · exact absurd e (ia_nroot hc hr hp hu)
    · rw [← ia_uniq hc hp hp' hu hu']; exact hs
  · have h12 : st q = 1 ∨ st q = 2 ∨ cur = nI q := by
      have := w2 q hq
      rcases he with e | e
      · omega
      · exact Or.inr (Or.inr e)
    rcases w4 q hq h12 with e | ⟨p', hp', hu', hs⟩
    · exact absurd e (ia_nroot hc hr hp hu)
    · rw [← ia_uniq hc hp hp' hu hu']
      rcases hs with ⟨_, e⟩ | ⟨_, e⟩ <;> omega
/-- the state of the parent of the walk's node -/
theorem ia_pn (hS : ia_Sh c K P A B U a b R) (hc : c ≤ 32) (hr : U rt = -1) (W : ia_Wk c K P A B U a b R rt D V Z S E G st ti to t (nI n) fr) (hn : n < c) {q : Nat} (hq : q < c) (k1 : K q ≠ 1) (k2 : K q ≠ 2) :
    (a q = n → st q = 1) ∧ (b q = n → st q = 2) := by
  obtain ⟨_, _, _, w4, _⟩ := W
  obtain ⟨_, _, _, _, hab, hUa, hUb⟩ := hS.2.2.2.1 q hq k1 k2
  constructor
  · intro e
    rw [e] at hUa
    rcases w4 n hn (Or.inr (Or.inr rfl)) with e' | ⟨p', hp', hu', hs⟩
    · exact absurd e' (ia_nroot hc hr hq hUa)
    · have := ia_uniq hc hq hp' hUa hu'
      subst this
      rcases hs with ⟨_, s⟩ | ⟨x, _⟩
      · exact s
      · exact absurd (e.trans x.symm) hab
  · intro e
    rw [e] at hUb
    rcases w4 n hn (Or.inr (Or.inr rfl)) with e' | ⟨p', hp', hu', hs⟩
    · exact absurd e' (ia_nroot hc hr hq hUb)
    · have := ia_uniq hc hq hp' hUb hu'
      subst this
      rcases hs with ⟨x, _⟩ | ⟨_, s⟩
      · exact absurd (x.trans e.symm) hab
      · exact s
/-- the walk goes down from n into its child m -/
theorem ia_enter (hS : ia_Sh c K P A B U a b R) (hc : c ≤ 32) (hr : U rt = -1) (W : ia_Wk c K P A B U a b R rt D V Z S E G st ti to t (nI n) fr)
    (hn : n < c) (k1 : K n ≠ 1) (k2 : K n ≠ 2) (hm : (st n = 0 ∧ m = a n) ∨ (st n = 1 ∧ st (a n) = 3 ∧ m = b n))
    (hD : ∀ j, j ≠ m → D' j = D j) (hDm : D' m = D n + 1)
    (hE : ∀ j x, j ≠ m → x < 8 → E' (j * 8 + x) = E (j * 8 + x) ∧ G' (j * 8 + x) = G (j * 8 + x))
    (hEm : ∀ x, x < 8 → ((K n = 6 ∧ b n = m ∧ P n = nI x) → E' (m * 8 + x) = V (a n) ∧ G' (m * 8 + x) = 1) ∧
      (¬ (K n = 6 ∧ b n = m ∧ P n = nI x) → E' (m * 8 + x) = E (n * 8 + x) ∧ G' (m * 8 + x) = G (n * 8 + x))) :
    ia_Wk c K P A B U a b R rt D' V Z S E' G' (ia_up st n (st n + 1)) (ia_up ti m (t + 1)) to (t + 1) (nI m) (nI n) := by
  have W' := W
  obtain ⟨w1, w2, w3, w4, w5, _, w7, w8, w9⟩ := W
  obtain ⟨hA, hB, ha, hb, hab, hUa, hUb⟩ := hS.2.2.2.1 n hn k1 k2
  have hmc : m < c := by rcases hm with ⟨_, e⟩ | ⟨_, _, e⟩ <;> rw [e] <;> assumption
  have hUm : U m = nI n := by rcases hm with ⟨_, e⟩ | ⟨_, _, e⟩ <;> rw [e] <;> assumption
  have hRm : R m < R n := (ia_par hS hc hmc hn hUm).1
  have hmn : m ≠ n := by intro e; rw [e] at hRm; omega
  have han : a n ≠ n := by intro e; rw [e] at hUa; have := (ia_par hS hc hn hn hUa).1; omega
  have hbn : b n ≠ n := by intro e; rw [e] at hUb; have := (ia_par hS hc hn hn hUb).1; omega
  have hsm : st m = 0 := by
    have w := w3 n hn k1 k2
    rcases hm with ⟨h0, e⟩ | ⟨h1, _, e⟩
    · rw [e]; exact (w.1 h0).1
    · rw [e]; exact w.2.1 h1
  have hsn : st n ≤ 1 := by rcases hm with ⟨h0, _⟩ | ⟨h1, _, _⟩ <;> omega
  have pn := fun q hq k1 k2 => ia_pn hS hc hr W' hn (q := q) hq k1 k2
  have inj : ∀ q, q < c → nI m = nI q → q = m := fun q hq e => (ia_inj (by omega) (by omega) e).symm
  refine ⟨?_, ?_, ?_, ?_, ?_, ?_, ?_, ?_, ?_⟩
  · have := ia_sm_up (f := st) (j := n) (v := st n + 1) c hn
    omega
  · intro q hq
    by_cases e : q = n
    · subst e; rw [ia_ups]; omega
    · rw [ia_upn e]; exact w2 q hq
  · intro q hq x1 x2
    by_cases e : q = n
    · subst e
      rw [ia_ups, ia_upn han, ia_upn hbn]
      refine ⟨fun h => absurd h (by omega), fun h => ((w3 q hq x1 x2).1 (by omega)).2, fun h => ?_, fun h => absurd h (by omega)⟩
      rcases hm with ⟨h0, _⟩ | ⟨_, h3, _⟩
      · omega
      · exact h3
    · obtain ⟨p1, p2⟩ := pn q hq x1 x2
      obtain ⟨y0, y1, y2, y3⟩ := w3 q hq x1 x2
      rw [ia_upn e]
      refine ⟨fun h => ?_, fun h => ?_, fun h => ?_, fun h => ?_⟩
      · rw [ia_upn (fun z => by have := p1 z; omega), ia_upn (fun z => by have := p2 z; omega)]; exact y0 h
      · rw [ia_upn (fun z => by have := p2 z; omega)]; exact y1 h
      · rw [ia_upn (fun z => by have := p1 z; omega)]; exact y2 h
      · rw [ia_upn (fun z => by have := p1 z; omega), ia_upn (fun z => by have := p2 z; omega)]; exact y3 h
  · intro q hq hs
    by_cases e : q = m
    · subst e
      refine Or.inr ⟨n, hn, hUm, ?_⟩
      rw [ia_ups]
      rcases hm with ⟨h0, e⟩ | ⟨h1, _, e⟩
      · exact Or.inl ⟨e.symm, by omega⟩
      · exact Or.inr ⟨e.symm, by omega⟩
    · have old : st q = 1 ∨ st q = 2 ∨ nI n = nI q := by
        by_cases en : q = n
        · exact Or.inr (Or.inr (by rw [en]))
        · rw [ia_upn en] at hs
          rcases hs with h | h | h
          · exact Or.inl h
          · exact Or.inr (Or.inl h)
          · exact absurd (inj q hq h) e
      rcases w4 q hq old with h | ⟨p, hp, hu, hs'⟩
      · exact Or.inl h
      · have hpn : p ≠ n := by
          intro z
          subst z
          have hqn : q ≠ p := by intro z; have := (ia_par hS hc hq hp hu).1; rw [z] at this; omega
          rw [ia_upn hqn] at hs
          rcases hs' with ⟨x, s⟩ | ⟨x, s⟩
          · rcases hm with ⟨h0, _⟩ | ⟨_, h3, _⟩
            · omega
            · rw [x] at h3
              rcases hs with h | h | h
              · omega
              · omega
              · exact e (inj q hq h)
          · omega
        exact Or.inr ⟨p, hp, hu, by rw [ia_upn hpn]; exact hs'⟩
  · intro q hq hs
    by_cases e : q = n
    · subst e; rw [ia_ups] at hs; omega
    · rw [ia_upn e] at hs
      rcases w5 q hq hs with h | ⟨p, hp, hu, hs'⟩
      · exact Or.inl h
      · refine Or.inr ⟨p, hp, hu, ?_⟩
        by_cases z : p = n
        · subst z; rw [ia_ups]; omega
        · rw [ia_upn z]; exact hs'
  · exact Or.inr ⟨m, hmc, rfl, Or.inl ⟨by rw [ia_upn hmn]; exact hsm, hUm.symm⟩⟩
  · intro q hq hs
    by_cases e : q = m
    · subst e
      obtain ⟨f, ⟨d, hd, hDn⟩, ht, _⟩ := w7 n hn (Or.inr rfl)
      refine ⟨⟨fun z => ?_, fun p hp hu => ?_⟩, ⟨d + 1, by omega, by rw [hDm, hDn, nI_1]⟩, by rw [ia_ups]; exact Nat.le_refl _, fun p hp hu => ?_⟩
      · rw [hUm] at z; exact absurd z (ia_ne (by omega))
      · have := ia_uniq hc hn hp hUm hu
        subst this
        refine ⟨by rw [hDm, hD p (fun z => hmn z.symm)], fun x hx => ⟨(hEm x hx).1, fun z => ?_⟩⟩
        obtain ⟨g1, g2⟩ := hE p x (fun z => hmn z.symm) hx
        rw [g1, g2]
        exact (hEm x hx).2 z
      · have := ia_uniq hc hn hp hUm hu
        subst this
        rw [ia_ups, ia_upn (fun z => hmn z.symm)]
        refine ⟨by omega, fun z => ?_⟩
        rcases hm with ⟨_, y⟩ | ⟨_, h3, _⟩
        · exact absurd (y.symm.trans z.symm) hab
        · have := (w8 (a p) ha h3).2.1
          omega
    · have old : st q ≠ 0 ∨ nI n = nI q := by
        by_cases en : q = n
        · exact Or.inr (by rw [en])
        · rw [ia_upn en] at hs
          rcases hs with h | h
          · exact Or.inl h
          · exact absurd (inj q hq h) e
      obtain ⟨f, ⟨d, hd, hDq⟩, ht, hti⟩ := w7 q hq old
      have hpm : ∀ p, p < c → U q = nI p → p ≠ m := by
        intro p hp hu z
        have := ia_ent hc hr W' hq old hp hu
        rw [z] at this
        exact this hsm
      refine ⟨ia_EnvF_c f (hD q e) (fun x hx => hE q x e hx) (fun p hp hu => ⟨hD p (hpm p hp hu), fun x hx => hE p x (hpm p hp hu) hx, fun _ _ => rfl⟩), ⟨d, hd, by rw [hD q e]; exact hDq⟩, by rw [ia_upn e]; omega, fun p hp hu => ?_⟩
      rw [ia_upn e, ia_upn (hpm p hp hu)]
      exact hti p hp hu
  · intro q hq hs
    have en : q ≠ n := by intro z; subst z; rw [ia_ups] at hs; omega
    rw [ia_upn en] at hs
    have em : q ≠ m := by intro z; subst z; omega
    obtain ⟨f, h1, h2, h3⟩ := w8 q hq hs
    exact ⟨ia_ValF_c f ⟨rfl, rfl, rfl⟩ (fun x hx => hE q x em hx) (fun _ _ => ⟨⟨rfl, rfl, rfl⟩, rfl, rfl, rfl⟩), by omega, by rw [ia_upn em]; exact h2, h3⟩
  · intro q hq hs hcu
    have en : q ≠ n := by intro z; subst z; rw [ia_ups] at hs; omega
    have em : q ≠ m := by intro z; subst z; exact hcu rfl
    rw [ia_upn en] at hs
    rw [hD q em]
    exact w9 q hq hs (fun z => en (ia_inj (by omega) (by omega) z).symm)
/-- the walk is through with n and goes up -/
theorem ia_finish (hS : ia_Sh c K P A B U a b R) (hc : c ≤ 32) (hr : U rt = -1) (W : ia_Wk c K P A B U a b R rt D V Z S E G st ti to t (nI n) fr)
    (hn : n < c) (hst : st n ≤ 2) (hin : K n ≠ 1 → K n ≠ 2 → st n = 2 ∧ st (b n) = 3)
    (hV : ∀ j, j ≠ n → V' j = V j ∧ Z' j = Z j ∧ S' j = S j) (hF : ia_ValF K P a b V Z S E G V' Z' S' n) :
    ia_Wk c K P A B U a b R rt D V' Z' S' E G (ia_up st n 3) ti (ia_up to n (t + 1)) (t + 1) (U n) (nI n) := by
  have W' := W
  obtain ⟨w1, w2, w3, w4, w5, _, w7, w8, w9⟩ := W
  have pn := fun q hq k1 k2 => ia_pn hS hc hr W' hn (q := q) hq k1 k2
  have hUn : ∀ q, q < c → U n = nI q → q ≠ n ∧ (st q = 1 ∨ st q = 2) := by
    intro q hq hu
    obtain ⟨r1, k1, k2, hs⟩ := ia_par hS hc hn hq hu
    refine ⟨fun z => by rw [z] at r1; omega, ?_⟩
    rcases hs with h | h
    · exact Or.inl ((pn q hq k1 k2).1 h)
    · exact Or.inr ((pn q hq k1 k2).2 h)
  refine ⟨?_, ?_, ?_, ?_, ?_, ?_, ?_, ?_, ?_⟩
  · have := ia_sm_up (f := st) (j := n) (v := 3) c hn
    omega
  · intro q hq
    by_cases e : q = n
    · subst e; rw [ia_ups]; omega
    · rw [ia_upn e]; exact w2 q hq
  · intro q hq x1 x2
    obtain ⟨y0, y1, y2, y3⟩ := w3 q hq x1 x2
    by_cases e : q = n
    · subst e
      obtain ⟨_, _, _, _, _, hUa, hUb⟩ := hS.2.2.2.1 q hq x1 x2
      have han : a q ≠ q := by intro e; rw [e] at hUa; have := (ia_par hS hc hq hq hUa).1; omega
      have hbn : b q ≠ q := by intro e; rw [e] at hUb; have := (ia_par hS hc hq hq hUb).1; omega
      obtain ⟨s2, s3⟩ := hin x1 x2
      rw [ia_ups, ia_upn han, ia_upn hbn]
      exact ⟨fun h => absurd h (by omega), fun h => absurd h (by omega), fun h => absurd h (by omega), fun _ => ⟨y2 s2, s3⟩⟩
    · obtain ⟨p1, p2⟩ := pn q hq x1 x2
      rw [ia_upn e]
      refine ⟨fun h => ?_, fun h => ?_, fun h => ?_, fun h => ?_⟩
      · rw [ia_upn (fun z => by have := p1 z; omega), ia_upn (fun z => by have := p2 z; omega)]; exact y0 h
      · rw [ia_upn (fun z => by have := p2 z; omega)]; exact y1 h
      · rw [ia_upn (fun z => by have := p1 z; omega)]; exact y2 h
      · rw [ia_upn (fun z => by have := p1 z; omega), ia_upn (fun z => by have := p2 z; omega)]; exact y3 h
  · intro q hq hs
    have en : q ≠ n := by
      intro z
      subst z
      rw [ia_ups] at hs
      rcases hs with h | h | h
      · omega
      · omega
      · exact (hUn q hq h).1 rfl
    rw [ia_upn en] at hs
    have old : st q = 1 ∨ st q = 2 := by
      rcases hs with h | h | h
      · exact Or.inl h
      · exact Or.inr h
      · exact (hUn q hq h).2
    rcases w4 q hq (by rcases old with h | h; exact Or.inl h; exact Or.inr (Or.inl h)) with h | ⟨p, hp, hu, hs'⟩
    · exact Or.inl h
    · have hpn : p ≠ n := by
        intro z
        subst z
        obtain ⟨_, k1, k2, _⟩ := ia_par hS hc hq hp hu
        obtain ⟨s2, s3⟩ := hin k1 k2
        rcases hs' with ⟨x, s⟩ | ⟨x, s⟩
        · omega
        · have s4 : st q = 3 := by rw [← x]; exact s3
          rcases old with h | h
          · rw [h] at s4; exact absurd s4 (by decide)
          · rw [h] at s4; exact absurd s4 (by decide)
      exact Or.inr ⟨p, hp, hu, by rw [ia_upn hpn]; exact hs'⟩
  · intro q hq hs
    by_cases e : q = n
    · subst e
      rcases w4 q hq (Or.inr (Or.inr rfl)) with h | ⟨p, hp, hu, hs'⟩
      · exact Or.inl h
      · refine Or.inr ⟨p, hp, hu, ?_⟩
        rw [ia_upn (hUn p hp hu).1]
        have := (hUn p hp hu).2
        omega
    · rw [ia_upn e] at hs
      rcases w5 q hq hs with h | ⟨p, hp, hu, hs'⟩
      · exact Or.inl h
      · refine Or.inr ⟨p, hp, hu, ?_⟩
        by_cases z : p = n
        · subst z; rw [ia_ups]; omega
        · rw [ia_upn z]; exact hs'
  · rcases w4 n hn (Or.inr (Or.inr rfl)) with h | ⟨p, hp, hu, hs'⟩
    · subst h; exact Or.inl ⟨hr, ia_ups⟩
    · have hpn := (hUn p hp hu).1
      obtain ⟨_, k1, k2, _⟩ := ia_par hS hc hn hp hu
      obtain ⟨hA, hB, _⟩ := hS.2.2.2.1 p hp k1 k2
      refine Or.inr ⟨p, hp, hu, Or.inr ?_⟩
      rw [ia_upn hpn]
      rcases hs' with ⟨x, s⟩ | ⟨x, s⟩
      · exact Or.inl ⟨k1, k2, s, by rw [hA, x], by rw [x, ia_ups]⟩
      · exact Or.inr ⟨k1, k2, s, by rw [hB, x], by rw [x, ia_ups]⟩
  · intro q hq hs
    have old : st q ≠ 0 ∨ nI n = nI q := by
      by_cases en : q = n
      · exact Or.inr (by rw [en])
      · rw [ia_upn en] at hs
        rcases hs with h | h
        · exact Or.inl h
        · have := (hUn q hq h).2
          exact Or.inl (by omega)
    obtain ⟨f, hd, ht, hti⟩ := w7 q hq old
    have hel : ∀ p, p < c → U q = nI p → b p = q → a p ≠ n := by
      intro p hp hu hb z
      obtain ⟨_, k1, k2, _⟩ := ia_par hS hc hq hp hu
      obtain ⟨_, _, _, _, hab, _, _⟩ := hS.2.2.2.1 p hp k1 k2
      have s1 := (pn p hp k1 k2).1 z
      have s0 := (w3 p hp k1 k2).2.1 s1
      rw [hb] at s0
      rcases old with h | h
      · exact h s0
      · have : n = q := ia_inj (by omega) (by omega) h
        exact hab (z.trans (this.trans hb.symm))
    refine ⟨ia_EnvF_c f rfl (fun _ _ => ⟨rfl, rfl⟩) (fun p hp hu => ⟨rfl, fun _ _ => ⟨rfl, rfl⟩, fun _ hb => (hV (a p) (hel p hp hu hb)).1⟩), hd, by omega, fun p hp hu => ⟨(hti p hp hu).1, fun hb => ?_⟩⟩
    rw [ia_upn (hel p hp hu hb)]
    exact (hti p hp hu).2 hb
  · intro q hq hs
    by_cases e : q = n
    · subst e
      obtain ⟨_, _, ht, _⟩ := w7 q hq (Or.inr rfl)
      have ch : K q ≠ 1 → K q ≠ 2 → a q ≠ q ∧ b q ≠ q ∧ to (a q) ≤ t ∧ to (b q) ≤ t := by
        intro x1 x2
        obtain ⟨_, _, ha, hb, _, hUa, hUb⟩ := hS.2.2.2.1 q hq x1 x2
        obtain ⟨s2, s3⟩ := hin x1 x2
        have sa := (w3 q hq x1 x2).2.2.1 s2
        refine ⟨?_, ?_, (w8 (a q) ha sa).2.1, (w8 (b q) hb s3).2.1⟩
        · intro e; rw [e] at hUa; have := (ia_par hS hc hq hq hUa).1; omega
        · intro e; rw [e] at hUb; have := (ia_par hS hc hq hq hUb).1; omega
      refine ⟨ia_ValF_c hF ⟨rfl, rfl, rfl⟩ (fun _ _ => ⟨rfl, rfl⟩) (fun x1 x2 => ⟨hV (a q) (ch x1 x2).1, hV (b q) (ch x1 x2).2.1⟩), by rw [ia_ups]; exact Nat.le_refl _, by rw [ia_ups]; omega, fun x1 x2 => ?_⟩
      obtain ⟨c1, c2, c3, c4⟩ := ch x1 x2
      rw [ia_ups, ia_upn c1, ia_upn c2]
      exact ⟨by omega, by omega⟩
    · rw [ia_upn e] at hs
      obtain ⟨f, h1, h2, h3⟩ := w8 q hq hs
      have ch : K q ≠ 1 → K q ≠ 2 → a q ≠ n ∧ b q ≠ n := by
        intro x1 x2
        obtain ⟨p1, p2⟩ := pn q hq x1 x2
        exact ⟨fun z => by have := p1 z; omega, fun z => by have := p2 z; omega⟩
      refine ⟨ia_ValF_c f (hV q e) (fun _ _ => ⟨rfl, rfl⟩) (fun x1 x2 => ⟨hV (a q) (ch x1 x2).1, hV (b q) (ch x1 x2).2⟩), by rw [ia_upn e]; omega, by rw [ia_upn e]; exact h2, fun x1 x2 => ?_⟩
      rw [ia_upn e, ia_upn (ch x1 x2).1, ia_upn (ch x1 x2).2]
      exact h3 x1 x2
  · intro q hq hs _
    have en : q ≠ n := by intro z; subst z; rw [ia_ups] at hs; omega
    rw [ia_upn en] at hs
    exact w9 q hq hs (fun z => en (ia_inj (by omega) (by omega) z).symm)
/-- while the walk has a node, fewer than 96 stops have been made -/
theorem ia_stops (hc : c ≤ 32) (W : ia_Wk c K P A B U a b R rt D V Z S E G st ti to t (nI n) fr) (hn : n < c) : t < 96 := by
  obtain ⟨w1, w2, _, _, _, w6, _⟩ := W
  have h2 : st n ≤ 2 := by
    rcases w6 with ⟨e, _⟩ | ⟨n', hn', e, h⟩
    · exact absurd e (ia_ne (by omega))
    · have : n = n' := ia_inj (by omega) (by omega) e
      subst this
      rcases h with ⟨h, _⟩ | ⟨_, _, h, _⟩ | ⟨_, _, h, _⟩ <;> omega
  have := ia_sm_lt (f := st) (j := n) c w2 hn h2
  omega
theorem ia_noact (hS : ia_Sh c K P A B U a b R) (hc : c ≤ 32) (W : ia_Wk c K P A B U a b R rt D V Z S E G st ti to t (-1) fr) : ∀ k q, q < c → c - R q ≤ k → (st q = 1 ∨ st q = 2) → False := by
  have W' := W
  obtain ⟨w1, w2, w3, w4, w5, w6, _⟩ := W
  have h3 : st rt = 3 := by
    rcases w6 with ⟨_, h⟩ | ⟨n, hn, e, _⟩
    · exact h
    · exact absurd e.symm (ia_ne (by omega))
  intro k
  induction k with
  | zero =>
    intro q hq hk _
    have := hS.1 q hq
    omega
  | succ k ih =>
    intro q hq hk hs
    rcases w4 q hq (by rcases hs with h | h; exact Or.inl h; exact Or.inr (Or.inl h)) with e | ⟨p, hp, hu, hs'⟩
    · rw [e] at hs; omega
    · have r := (ia_par hS hc hq hp hu).1
      have r2 := hS.1 p hp
      refine ih p hp (by omega) ?_
      rcases hs' with ⟨_, s⟩ | ⟨_, s⟩
      · exact Or.inl s
      · exact Or.inr s
/-- what the walk leaves: the attached nodes are those with state 3; their values fit, in an order of at most 97 times -/
def ia_Done (c : Nat) (K P A B U : Nat → Int32) (a b : Nat → Nat) (rt : Nat) (D V Z S E G : Nat → Int32) (st ti to : Nat → Nat) : Prop :=
  st rt = 3 ∧
  (∀ m, m < c → (D m = -1 ↔ st m ≠ 3)) ∧
  (∀ m, m < c → U m = -1 → m ≠ rt → st m ≠ 3) ∧
  (∀ m p, m < c → p < c → U m = nI p → (st m = 3 ↔ st p = 3)) ∧
  (∀ m, m < c → st m = 3 → ia_EnvF c K P U a b D E G V D E G m ∧ ia_ValF K P a b V Z S E G V Z S m ∧
    ti m < to m ∧ to m ≤ 96 ∧ (∀ p, p < c → U m = nI p → ti p < ti m ∧ (b p = m → to (a p) < ti m)) ∧ (K m ≠ 1 → K m ≠ 2 → to (a m) < to m ∧ to (b m) < to m))
theorem ia_end (hS : ia_Sh c K P A B U a b R) (hc : c ≤ 32) (hr : U rt = -1) (W : ia_Wk c K P A B U a b R rt D V Z S E G st ti to t (-1) fr) (hrt : rt < c) (ht : t ≤ 96) :
    ia_Done c K P A B U a b rt D V Z S E G st ti to := by
  have W' := W
  have na := ia_noact hS hc W
  obtain ⟨w1, w2, w3, w4, w5, w6, w7, w8, w9⟩ := W
  have h3 : st rt = 3 := by
    rcases w6 with ⟨_, h⟩ | ⟨n, hn, e, _⟩
    · exact h
    · exact absurd e.symm (ia_ne (by omega))
  have h03 : ∀ q, q < c → st q ≠ 3 → st q = 0 := by
    intro q hq h
    have h1 : ¬ (st q = 1 ∨ st q = 2) := na (c - R q) q hq (Nat.le_refl _)
    have := w2 q hq
    omega
  have nm1 : ∀ q, q < c → ¬ (-1 : Int32) = nI q := fun q hq e => ia_ne (by omega) e.symm
  refine ⟨h3, fun q hq => ⟨fun e h => ?_, fun h => ?_⟩, fun q hq hu hne h => ?_, fun q p hq hp hu => ⟨fun h => ?_, fun h => ?_⟩, fun q hq h => ?_⟩
  · obtain ⟨_, ⟨d, hd, hD⟩, _⟩ := w7 q hq (Or.inl (by omega))
    rw [hD] at e
    exact ia_ne (by omega) e
  · exact w9 q hq (h03 q hq h) (nm1 q hq)
  · rcases w5 q hq h with e | ⟨p, hp, hu', _⟩
    · exact hne e
    · rw [hu] at hu'
      exact ia_ne (by omega) hu'.symm
  · have h0 := ia_ent hc hr W' hq (Or.inl (by omega)) hp hu
    by_cases z : st p = 3
    · exact z
    · exact absurd (h03 p hp z) h0
  · obtain ⟨_, k1, k2, hs⟩ := ia_par hS hc hq hp hu
    have := (w3 p hp k1 k2).2.2.2 h
    rcases hs with e | e
    · rw [← e]; exact this.1
    · rw [← e]; exact this.2
  · obtain ⟨f, _, _, hti⟩ := w7 q hq (Or.inl (by omega))
    obtain ⟨g, g1, g2, g3⟩ := w8 q hq h
    exact ⟨f, g, g2, by omega, hti, g3⟩
/-- the walk's begin: all detached but the root, whose env is empty -/
theorem ia_begin (hS : ia_Sh c K P A B U a b R) (hc : c ≤ 32) (hr : U rt = -1) (hrt : rt < c) (hD : ∀ m, m < c → m ≠ rt → D m = -1) (hD0 : D rt = 0)
    (hE : ∀ x, x < 8 → E (rt * 8 + x) = 0 ∧ G (rt * 8 + x) = 0) :
    ia_Wk c K P A B U a b R rt D V Z S E G (fun _ => 0) (fun _ => 0) (fun _ => 0) 0 (nI rt) (-1) := by
  refine ⟨Nat.zero_le _, fun _ _ => Nat.zero_le _, fun _ _ _ _ => ⟨fun _ => ⟨rfl, rfl⟩, fun _ => rfl, fun h => absurd (show 0 = 2 from h) (by decide), fun h => absurd (show 0 = 3 from h) (by decide)⟩, fun q hq h => ?_, fun q hq h => absurd (show 0 = 3 from h) (by decide), Or.inr ⟨rt, hrt, rfl, Or.inl ⟨rfl, hr.symm⟩⟩, fun q hq h => ?_, fun q hq h => absurd (show 0 = 3 from h) (by decide), fun q hq _ h => ?_⟩
  · rcases h with h | h | h
    · exact absurd (show 0 = 1 from h) (by decide)
    · exact absurd (show 0 = 2 from h) (by decide)
    · exact Or.inl (ia_inj (by omega) (by omega) h).symm
  · have e : rt = q := by
      rcases h with h | h
      · exact absurd rfl h
      · exact ia_inj (by omega) (by omega) h
    subst e
    have nu : ∀ p, p < c → ¬ U rt = nI p := fun p hp h => by rw [hr] at h; exact ia_ne (by omega) h.symm
    exact ⟨⟨fun _ => ⟨hD0, hE⟩, fun p hp hu => absurd hu (nu p hp)⟩, ⟨0, by have := hS.1 rt hrt; omega, by rw [hD0, nI_0]⟩, Nat.le_refl 0, fun p hp hu => absurd hu (nu p hp)⟩
  · exact hD q hq (fun z => h (by rw [z]))
end
end
section
-- part 03: the reference's passes, pure: after pass k all values of times below k are the walk's
def ia_Ag (ti to : Nat → Nat) (k : Nat) (D V Z S E G D' V' Z' S' E' G' : Nat → Int32) (m : Nat) : Prop :=
  (ti m < k → D' m = D m ∧ ∀ x, x < 8 → E' (m * 8 + x) = E (m * 8 + x) ∧ G' (m * 8 + x) = G (m * 8 + x)) ∧
  (to m < k → V' m = V m ∧ Z' m = Z m ∧ S' m = S m)
/-- one update of node n: from D0 .. to D1 .. -/
def ia_UR (c : Nat) (K P U : Nat → Int32) (a b : Nat → Nat) (n : Nat) (D0 V0 Z0 S0 E0 G0 D1 V1 Z1 S1 E1 G1 : Nat → Int32) : Prop :=
  (∀ j, j ≠ n → D1 j = D0 j ∧ V1 j = V0 j ∧ Z1 j = Z0 j ∧ S1 j = S0 j) ∧
  (∀ j x, j ≠ n → x < 8 → E1 (j * 8 + x) = E0 (j * 8 + x) ∧ G1 (j * 8 + x) = G0 (j * 8 + x)) ∧
  ia_EnvF c K P U a b D0 E0 G0 V0 D1 E1 G1 n ∧ ia_ValF K P a b V0 Z0 S0 E1 G1 V1 Z1 S1 n
def ia_Ps (c : Nat) (st ti to : Nat → Nat) (k i : Nat) (D V Z S E G D' V' Z' S' E' G' : Nat → Int32) : Prop :=
  ∀ m, m < c → st m = 3 → ia_Ag ti to k D V Z S E G D' V' Z' S' E' G' m ∧ (m < i → ia_Ag ti to (k + 1) D V Z S E G D' V' Z' S' E' G' m)
section
variable {c : Nat} {K P A B U : Nat → Int32} {a b R : Nat → Nat} {rt : Nat} {D V Z S E G : Nat → Int32} {st ti to : Nat → Nat} {k i n m : Nat} {D0 V0 Z0 S0 E0 G0 D1 V1 Z1 S1 E1 G1 : Nat → Int32}
theorem ia_EnvF_u {D0' E0' G0' V0' D1' E1' G1' : Nat → Int32} {q : Nat}
    (h : ia_EnvF c K P U a b D0 E0 G0 V0 D1 E1 G1 q) (h' : ia_EnvF c K P U a b D0' E0' G0' V0' D1' E1' G1' q)
    (hu : U q = -1 ∨ ∃ p, p < c ∧ U q = nI p ∧ D0' p = D0 p ∧ (∀ x, x < 8 → E0' (p * 8 + x) = E0 (p * 8 + x) ∧ G0' (p * 8 + x) = G0 (p * 8 + x)) ∧ (b p = q → V0' (a p) = V0 (a p))) :
    D1' q = D1 q ∧ ∀ x, x < 8 → E1' (q * 8 + x) = E1 (q * 8 + x) ∧ G1' (q * 8 + x) = G1 (q * 8 + x) := by
  rcases hu with e | ⟨p, hp, e, d, f, g⟩
  · obtain ⟨x1, x2⟩ := h.1 e
    obtain ⟨y1, y2⟩ := h'.1 e
    exact ⟨y1.trans x1.symm, fun x hx => ⟨(y2 x hx).1.trans (x2 x hx).1.symm, (y2 x hx).2.trans (x2 x hx).2.symm⟩⟩
  · obtain ⟨x1, x2⟩ := h.2 p hp e
    obtain ⟨y1, y2⟩ := h'.2 p hp e
    refine ⟨by rw [x1, y1, d], fun x hx => ?_⟩
    by_cases z : K p = 6 ∧ b p = q ∧ P p = nI x
    · obtain ⟨s1, s2⟩ := (x2 x hx).1 z
      obtain ⟨t1, t2⟩ := (y2 x hx).1 z
      exact ⟨by rw [s1, t1, g z.2.1], by rw [s2, t2]⟩
    · obtain ⟨s1, s2⟩ := (x2 x hx).2 z
      obtain ⟨t1, t2⟩ := (y2 x hx).2 z
      exact ⟨by rw [s1, t1, (f x hx).1], by rw [s2, t2, (f x hx).2]⟩
theorem ia_ValF_u {V0' Z0' S0' E' G' V1' Z1' S1' : Nat → Int32} {q : Nat} (hS : ia_Sh c K P A B U a b R) (hq : q < c)
    (h : ia_ValF K P a b V0 Z0 S0 E G V1 Z1 S1 q) (h' : ia_ValF K P a b V0' Z0' S0' E' G' V1' Z1' S1' q)
    (hE : ∀ x, x < 8 → E' (q * 8 + x) = E (q * 8 + x) ∧ G' (q * 8 + x) = G (q * 8 + x))
    (hs : K q ≠ 1 → K q ≠ 2 → (V0' (a q) = V0 (a q) ∧ Z0' (a q) = Z0 (a q) ∧ S0' (a q) = S0 (a q)) ∧ (V0' (b q) = V0 (b q) ∧ Z0' (b q) = Z0 (b q) ∧ S0' (b q) = S0 (b q))) :
    V1' q = V1 q ∧ Z1' q = Z1 q ∧ S1' q = S1 q := by
  obtain ⟨h1, h2, h3⟩ := h
  obtain ⟨g1, g2, g3⟩ := h'
  by_cases k1 : K q = 1
  · obtain ⟨x1, x2, x3⟩ := h1 k1
    obtain ⟨y1, y2, y3⟩ := g1 k1
    exact ⟨by rw [x1, y1], by rw [x2, y2], by rw [x3, y3]⟩
  · by_cases k2 : K q = 2
    · obtain ⟨x, hx, hP⟩ := hS.2.2.1 q hq (Or.inl k2)
      obtain ⟨x1, x2, x3⟩ := h2 k2 x hx hP
      obtain ⟨y1, y2, y3⟩ := g2 k2 x hx hP
      obtain ⟨e1, e2⟩ := hE x hx
      by_cases z : G (q * 8 + x) = 0
      · obtain ⟨s1, s2⟩ := x2 z
        obtain ⟨t1, t2⟩ := y2 (by rw [e2]; exact z)
        exact ⟨by rw [s1, t1], by rw [s2, t2], by rw [x1, y1]⟩
      · obtain ⟨s1, s2⟩ := x3 z
        obtain ⟨t1, t2⟩ := y3 (by rw [e2]; exact z)
        exact ⟨by rw [s1, t1, e1], by rw [s2, t2], by rw [x1, y1]⟩
    · obtain ⟨⟨a1, a2, a3⟩, b1, b2, b3⟩ := hs k1 k2
      obtain ⟨x1, x2, x3⟩ := h3 k1 k2
      obtain ⟨y1, y2, y3⟩ := g3 k1 k2
      exact ⟨by rw [x1, y1, a1, b1], by rw [x2, y2, a2, b2], by rw [x3, y3, a3, b3]⟩
theorem ia_Ps_step (hS : ia_Sh c K P A B U a b R) (hc : c ≤ 32) (F : ia_Done c K P A B U a b rt D V Z S E G st ti to) (hn : n < c)
    (h : ia_Ps c st ti to k n D V Z S E G D0 V0 Z0 S0 E0 G0) (hu : ia_UR c K P U a b n D0 V0 Z0 S0 E0 G0 D1 V1 Z1 S1 E1 G1) :
    ia_Ps c st ti to k (n + 1) D V Z S E G D1 V1 Z1 S1 E1 G1 := by
  obtain ⟨f1, f2, f3, f4, f5⟩ := F
  obtain ⟨u1, u2, u3, u4⟩ := hu
  have own : st n = 3 → ia_Ag ti to (k + 1) D V Z S E G D1 V1 Z1 S1 E1 G1 n := by
    intro hs
    obtain ⟨x1, x2, x3, x4, x5, x6⟩ := f5 n hn hs
    have hin : ti n < k + 1 → D1 n = D n ∧ ∀ x, x < 8 → E1 (n * 8 + x) = E (n * 8 + x) ∧ G1 (n * 8 + x) = G (n * 8 + x) := by
      intro ht
      refine ia_EnvF_u x1 u3 ?_
      rcases hS.2.2.2.2 n hn with e | ⟨p, hp, e, _, k1, k2, _⟩
      · exact Or.inl e
      · obtain ⟨t1, t2⟩ := x5 p hp e
        have hsp := (f4 n p hn hp e).mp hs
        obtain ⟨g1, g2⟩ := (h p hp hsp).1.1 (by omega)
        refine Or.inr ⟨p, hp, e, g1, g2, fun hb => ?_⟩
        obtain ⟨_, _, ha, _, _, hUa, _⟩ := hS.2.2.2.1 p hp k1 k2
        have hsa := (f4 (a p) p ha hp hUa).mpr hsp
        exact ((h (a p) ha hsa).1.2 (by have := t2 hb; omega)).1
    refine ⟨hin, fun ht => ?_⟩
    refine ia_ValF_u hS hn x2 u4 (hin (by omega)).2 (fun k1 k2 => ?_)
    obtain ⟨_, _, ha, hb, _, hUa, hUb⟩ := hS.2.2.2.1 n hn k1 k2
    obtain ⟨t1, t2⟩ := x6 k1 k2
    exact ⟨(h (a n) ha ((f4 (a n) n ha hn hUa).mpr hs)).1.2 (by omega), (h (b n) hb ((f4 (b n) n hb hn hUb).mpr hs)).1.2 (by omega)⟩
  have oth : ∀ q k', q ≠ n → ia_Ag ti to k' D V Z S E G D0 V0 Z0 S0 E0 G0 q → ia_Ag ti to k' D V Z S E G D1 V1 Z1 S1 E1 G1 q := by
    intro q k' hq hg
    obtain ⟨e1, e2, e3, e4⟩ := u1 q hq
    refine ⟨fun ht => ?_, fun ht => ?_⟩
    · obtain ⟨g1, g2⟩ := hg.1 ht
      refine ⟨by rw [e1]; exact g1, fun x hx => ?_⟩
      obtain ⟨y1, y2⟩ := u2 q x hq hx
      rw [y1, y2]; exact g2 x hx
    · rw [e2, e3, e4]; exact hg.2 ht
  intro q hq hs
  by_cases e : q = n
  · subst e
    have o := own hs
    exact ⟨⟨fun ht => o.1 (by omega), fun ht => o.2 (by omega)⟩, fun _ => o⟩
  · obtain ⟨h1, h2⟩ := h q hq hs
    exact ⟨oth q k e h1, fun hl => oth q (k + 1) e (h2 (by omega))⟩
theorem ia_Ps_end (h : ia_Ps c st ti to k c D V Z S E G D0 V0 Z0 S0 E0 G0) : ia_Ps c st ti to (k + 1) 0 D V Z S E G D0 V0 Z0 S0 E0 G0 :=
  fun q hq hs => ⟨(h q hq hs).2 hq, fun z => absurd z (Nat.not_lt_zero _)⟩
theorem ia_Ps_0 : ia_Ps c st ti to 0 0 D V Z S E G D0 V0 Z0 S0 E0 G0 :=
  fun _ _ _ => ⟨⟨fun z => absurd z (Nat.not_lt_zero _), fun z => absurd z (Nat.not_lt_zero _)⟩, fun z => absurd z (Nat.not_lt_zero _)⟩
theorem ia_Ps_170 (F : ia_Done c K P A B U a b rt D V Z S E G st ti to) (h : ia_Ps c st ti to 170 0 D V Z S E G D0 V0 Z0 S0 E0 G0) : ∀ q, q < c → D q ≠ -1 →
    (D0 q = D q ∧ V0 q = V q ∧ Z0 q = Z q ∧ S0 q = S q) ∧ ∀ x, x < 8 → E0 (q * 8 + x) = E (q * 8 + x) ∧ G0 (q * 8 + x) = G (q * 8 + x) := by
  obtain ⟨f1, f2, f3, f4, f5⟩ := F
  intro q hq hd
  have hs : st q = 3 := by
    by_cases z : st q = 3
    · exact z
    · exact absurd ((f2 q hq).mpr z) hd
  obtain ⟨_, _, t1, t2, _, _⟩ := f5 q hq hs
  obtain ⟨g, _⟩ := h q hq hs
  obtain ⟨g1, g2⟩ := g.1 (by omega)
  obtain ⟨g3, g4, g5⟩ := g.2 (by omega)
  exact ⟨⟨g1, g3, g4, g5⟩, g2⟩
end
end
section
-- part 04: the relation on the plain parts of both states, and how creation, setRoot and replace keep it
/-- cp: capacity; c: count; rI: the root; K P A B U: shared arrays; D V Z S E G: X's values; D' .. G': the reference's -/
def ia_Q (cp c : Nat) (rI : Int32) (K P A B U : Nat → Int32) (a b R : Nat → Nat) (D V Z S E G D' V' Z' S' E' G' : Nat → Int32) : Prop :=
  (8 ≤ cp ∧ cp ≤ 32 ∧ c ≤ cp) ∧ ia_Sh c K P A B U a b R ∧
  (rI = -1 ∨ ∃ r, r < c ∧ rI = nI r ∧ U r = -1 ∧ D r ≠ -1) ∧
  (∀ m, m < c → U m = -1 → rI ≠ nI m → D m = -1) ∧
  (∀ m p, m < c → p < c → U m = nI p → (D m = -1 ↔ D p = -1)) ∧
  (∀ m, m < c → D m ≠ -1 → (D' m = D m ∧ V' m = V m ∧ Z' m = Z m ∧ S' m = S m) ∧ ∀ x, x < 8 → E' (m * 8 + x) = E (m * 8 + x) ∧ G' (m * 8 + x) = G (m * 8 + x)) ∧
  (∀ j, G j = 0 ∨ G j = 1) ∧ (∀ j, G' j = 0 ∨ G' j = 1)
section
variable {cp c : Nat} {rI : Int32} {K P A B U : Nat → Int32} {a b R : Nat → Nat} {D V Z S E G D' V' Z' S' E' G' : Nat → Int32}
theorem ia_Sh_leaf (hS : ia_Sh c K P A B U a b R) (hc : c < 32) {k x : Int32} (hk : k = 1 ∨ (k = 2 ∧ ∃ j, j < 8 ∧ x = nI j)) :
    ia_Sh (c + 1) (upd K c k) (upd P c x) (upd A c (-1)) (upd B c (-1)) (upd U c (-1)) a b (ia_up R c 0) := by
  obtain ⟨h1, h2, h3, h4, h5⟩ := hS
  refine ⟨fun n hn => ?_, fun n hn => ?_, fun n hn => ?_, fun n hn => ?_, fun n hn => ?_⟩ <;> by_cases e : n = c
  · subst e; rw [ia_ups]; omega
  · rw [ia_upn e]; have := h1 n (by omega); omega
  · subst e; rw [ia_us]
    rcases hk with h | ⟨h, _⟩
    · exact Or.inl h
    · exact Or.inr (Or.inl h)
  · rw [ia_un e]; exact h2 n (by omega)
  · subst e; rw [ia_us, ia_us]
    intro h
    rcases hk with h' | ⟨_, h'⟩
    · rw [h'] at h; exact absurd h (by decide)
    · exact h'
  · rw [ia_un e, ia_un e]; exact h3 n (by omega)
  · subst e; rw [ia_us]
    intro y1 y2
    rcases hk with h' | ⟨h', _⟩
    · exact absurd h' y1
    · exact absurd h' y2
  · rw [ia_un e, ia_un e, ia_un e]
    intro y1 y2
    obtain ⟨x1, x2, x3, x4, x5, x6, x7⟩ := h4 n (by omega) y1 y2
    rw [ia_un (show a n ≠ c by omega), ia_un (show b n ≠ c by omega)]
    exact ⟨x1, x2, by omega, by omega, x5, x6, x7⟩
  · subst e; rw [ia_us]; exact Or.inl rfl
  · rw [ia_un e]
    rcases h5 n (by omega) with h | ⟨p, hp, x1, x2, x3, x4, x5⟩
    · exact Or.inl h
    · have ep : p ≠ c := by omega
      exact Or.inr ⟨p, by omega, x1, by rw [ia_upn e, ia_upn ep]; exact x2, by rw [ia_un ep]; exact x3, by rw [ia_un ep]; exact x4, x5⟩
theorem ia_Sh_inn (hS : ia_Sh c K P A B U a b R) (hc : c < 32) {k x : Int32} {i j : Nat} (hk : k = 3 ∨ k = 4 ∨ k = 5 ∨ (k = 6 ∧ ∃ y, y < 8 ∧ x = nI y))
    (hi : i < c) (hj : j < c) (hij : i ≠ j) (hUi : U i = -1) (hUj : U j = -1) :
    ia_Sh (c + 1) (upd K c k) (upd P c x) (upd A c (nI i)) (upd B c (nI j)) (upd (upd (upd U c (-1)) i (nI c)) j (nI c)) (ia_up a c i) (ia_up b c j) (ia_up R c c) := by
  obtain ⟨h1, h2, h3, h4, h5⟩ := hS
  have Uo : ∀ n, n ≠ c → n ≠ i → n ≠ j → upd (upd (upd U c (-1)) i (nI c)) j (nI c) n = U n := fun n e1 e2 e3 => by rw [ia_un e3, ia_un e2, ia_un e1]
  have Ui : upd (upd (upd U c (-1)) i (nI c)) j (nI c) i = nI c := by rw [ia_un hij, ia_us]
  have Uj : upd (upd (upd U c (-1)) i (nI c)) j (nI c) j = nI c := ia_us
  have Uc : upd (upd (upd U c (-1)) i (nI c)) j (nI c) c = -1 := by rw [ia_un (by omega), ia_un (by omega), ia_us]
  have kin : k ≠ 1 ∧ k ≠ 2 := by
    rcases hk with h | h | h | ⟨h, _⟩ <;> rw [h] <;> exact ⟨by decide, by decide⟩
  refine ⟨fun n hn => ?_, fun n hn => ?_, fun n hn => ?_, fun n hn => ?_, fun n hn => ?_⟩ <;> by_cases e : n = c
  · subst e; rw [ia_ups]; omega
  · rw [ia_upn e]; have := h1 n (by omega); omega
  · subst e; rw [ia_us]
    rcases hk with h | h | h | ⟨h, _⟩
    · exact Or.inr (Or.inr (Or.inl h))
    · exact Or.inr (Or.inr (Or.inr (Or.inl h)))
    · exact Or.inr (Or.inr (Or.inr (Or.inr (Or.inl h))))
    · exact Or.inr (Or.inr (Or.inr (Or.inr (Or.inr h))))
  · rw [ia_un e]; exact h2 n (by omega)
  · subst e; rw [ia_us, ia_us]
    intro h
    rcases hk with h' | h' | h' | ⟨_, h'⟩
    · rw [h'] at h; exact absurd h (by decide)
    · rw [h'] at h; exact absurd h (by decide)
    · rw [h'] at h; exact absurd h (by decide)
    · exact h'
  · rw [ia_un e, ia_un e]; exact h3 n (by omega)
  · subst e
    intro _ _
    rw [ia_us, ia_us, ia_ups, ia_ups, Ui, Uj]
    exact ⟨rfl, rfl, by omega, by omega, hij, rfl, rfl⟩
  · rw [ia_un e, ia_un e, ia_un e, ia_upn e, ia_upn e]
    intro y1 y2
    obtain ⟨x1, x2, x3, x4, x5, x6, x7⟩ := h4 n (by omega) y1 y2
    have nn : ¬ nI n = -1 := ia_ne (by omega)
    rw [Uo (a n) (by omega) (fun z => nn (by rw [← x6, z]; exact hUi)) (fun z => nn (by rw [← x6, z]; exact hUj)),
      Uo (b n) (by omega) (fun z => nn (by rw [← x7, z]; exact hUi)) (fun z => nn (by rw [← x7, z]; exact hUj))]
    exact ⟨x1, x2, by omega, by omega, x5, x6, x7⟩
  · subst e; exact Or.inl Uc
  · by_cases ei : n = i
    · subst ei
      have := h1 n hi
      exact Or.inr ⟨c, by omega, Ui, by rw [ia_upn e, ia_ups]; exact this, by rw [ia_us]; exact kin.1, by rw [ia_us]; exact kin.2, Or.inl ia_ups⟩
    · by_cases ej : n = j
      · subst ej
        have := h1 n hj
        exact Or.inr ⟨c, by omega, Uj, by rw [ia_upn e, ia_ups]; exact this, by rw [ia_us]; exact kin.1, by rw [ia_us]; exact kin.2, Or.inr ia_ups⟩
      · rw [Uo n e ei ej]
        rcases h5 n (by omega) with h | ⟨p, hp, x1, x2, x3, x4, x5⟩
        · exact Or.inl h
        · have ep : p ≠ c := by omega
          exact Or.inr ⟨p, by omega, x1, by rw [ia_upn e, ia_upn ep]; exact x2, by rw [ia_un ep]; exact x3, by rw [ia_un ep]; exact x4, by rw [ia_upn ep, ia_upn ep]; exact x5⟩
theorem ia_Q_leaf (h : ia_Q cp c rI K P A B U a b R D V Z S E G D' V' Z' S' E' G') (hc : c < cp) {k x : Int32} (hk : k = 1 ∨ (k = 2 ∧ ∃ j, j < 8 ∧ x = nI j)) :
    ia_Q cp (c + 1) rI (upd K c k) (upd P c x) (upd A c (-1)) (upd B c (-1)) (upd U c (-1)) a b (ia_up R c 0) (upd D c (-1)) V Z S E G D' V' Z' S' E' G' := by
  obtain ⟨⟨q1, q2, q3⟩, hS, q4, q5, q6, q7, q8, q9⟩ := h
  refine ⟨⟨q1, q2, by omega⟩, ia_Sh_leaf hS (by omega) hk, ?_, fun m hm hu hr => ?_, fun m p hm hp hu => ?_, fun m hm hd => ?_, q8, q9⟩
  · rcases q4 with e | ⟨r, hr, e, u, d⟩
    · exact Or.inl e
    · exact Or.inr ⟨r, by omega, e, by rw [ia_un (by omega)]; exact u, by rw [ia_un (by omega)]; exact d⟩
  · by_cases e : m = c
    · subst e; exact ia_us
    · rw [ia_un e] at hu; rw [ia_un e]; exact q5 m (by omega) hu hr
  · by_cases e : m = c
    · subst e; rw [ia_us] at hu; exact absurd hu.symm (ia_ne (by omega))
    · rw [ia_un e] at hu
      have ep : p ≠ c := by
        rcases hS.2.2.2.2 m (by omega) with z | ⟨p', hp', z, _⟩
        · rw [z] at hu; exact absurd hu.symm (ia_ne (by omega))
        · have : p' = p := ia_inj (by omega) (by omega) (z.symm.trans hu)
          omega
      rw [ia_un e, ia_un ep]; exact q6 m p (by omega) (by omega) hu
  · have e : m ≠ c := by intro z; subst z; exact hd ia_us
    rw [ia_un e] at hd
    rw [ia_un e]; exact q7 m (by omega) hd
theorem ia_Q_inn (h : ia_Q cp c rI K P A B U a b R D V Z S E G D' V' Z' S' E' G') (hc : c < cp) {k x : Int32} {i j : Nat} (hk : k = 3 ∨ k = 4 ∨ k = 5 ∨ (k = 6 ∧ ∃ y, y < 8 ∧ x = nI y))
    (hi : i < c) (hj : j < c) (hij : i ≠ j) (hUi : U i = -1) (hUj : U j = -1) (hri : rI ≠ nI i) (hrj : rI ≠ nI j) :
    ia_Q cp (c + 1) rI (upd K c k) (upd P c x) (upd A c (nI i)) (upd B c (nI j)) (upd (upd (upd U c (-1)) i (nI c)) j (nI c)) (ia_up a c i) (ia_up b c j) (ia_up R c c) (upd D c (-1)) V Z S E G D' V' Z' S' E' G' := by
  obtain ⟨⟨q1, q2, q3⟩, hS, q4, q5, q6, q7, q8, q9⟩ := h
  have Uo : ∀ n, n ≠ c → n ≠ i → n ≠ j → upd (upd (upd U c (-1)) i (nI c)) j (nI c) n = U n := fun n e1 e2 e3 => by rw [ia_un e3, ia_un e2, ia_un e1]
  have Ui : upd (upd (upd U c (-1)) i (nI c)) j (nI c) i = nI c := by rw [ia_un hij, ia_us]
  have Uj : upd (upd (upd U c (-1)) i (nI c)) j (nI c) j = nI c := ia_us
  have Uc : upd (upd (upd U c (-1)) i (nI c)) j (nI c) c = -1 := by rw [ia_un (by omega), ia_un (by omega), ia_us]
  have nc : ¬ nI c = -1 := ia_ne (by omega)
  refine ⟨⟨q1, q2, by omega⟩, ia_Sh_inn hS (by omega) hk hi hj hij hUi hUj, ?_, fun m hm hu hr => ?_, fun m p hm hp hu => ?_, fun m hm hd => ?_, q8, q9⟩
  · rcases q4 with e | ⟨r, hr, e, u, d⟩
    · exact Or.inl e
    · exact Or.inr ⟨r, by omega, e, by rw [Uo r (by omega) (fun z => hri (by rw [e, z])) (fun z => hrj (by rw [e, z]))]; exact u, by rw [ia_un (by omega)]; exact d⟩
  · by_cases e : m = c
    · subst e; exact ia_us
    · by_cases ei : m = i
      · subst ei; rw [Ui] at hu; exact absurd hu nc
      · by_cases ej : m = j
        · subst ej; rw [Uj] at hu; exact absurd hu nc
        · rw [Uo m e ei ej] at hu; rw [ia_un e]; exact q5 m (by omega) hu hr
  · by_cases e : m = c
    · subst e; rw [Uc] at hu; exact absurd hu.symm (ia_ne (by omega))
    · rw [ia_un e]
      by_cases ei : m = i
      · subst ei
        rw [Ui] at hu
        have : c = p := ia_inj (by omega) (by omega) hu
        subst this
        rw [ia_us]
        exact ⟨fun _ => rfl, fun _ => q5 m hi hUi hri⟩
      · by_cases ej : m = j
        · subst ej
          rw [Uj] at hu
          have : c = p := ia_inj (by omega) (by omega) hu
          subst this
          rw [ia_us]
          exact ⟨fun _ => rfl, fun _ => q5 m hj hUj hrj⟩
        · rw [Uo m e ei ej] at hu
          have ep : p ≠ c := by
            rcases hS.2.2.2.2 m (by omega) with z | ⟨p', hp', z, _⟩
            · rw [z] at hu; exact absurd hu.symm (ia_ne (by omega))
            · have : p' = p := ia_inj (by omega) (by omega) (z.symm.trans hu)
              omega
          rw [ia_un ep]; exact q6 m p (by omega) (by omega) hu
  · have e : m ≠ c := by intro z; subst z; exact hd ia_us
    rw [ia_un e] at hd
    rw [ia_un e]; exact q7 m (by omega) hd
/-- what the walk and the passes leave is related again -/
theorem ia_Q_done {rt : Nat} {st ti to : Nat → Nat} (hcp : 8 ≤ cp ∧ cp ≤ 32 ∧ c ≤ cp) (hS : ia_Sh c K P A B U a b R) (hrt : rt < c) (hr : U rt = -1)
    (F : ia_Done c K P A B U a b rt D V Z S E G st ti to) (hP : ia_Ps c st ti to 170 0 D V Z S E G D' V' Z' S' E' G')
    (hG : ∀ j, G j = 0 ∨ G j = 1) (hG' : ∀ j, G' j = 0 ∨ G' j = 1) :
    ia_Q cp c (nI rt) K P A B U a b R D V Z S E G D' V' Z' S' E' G' := by
  have ag := ia_Ps_170 F hP
  obtain ⟨f1, f2, f3, f4, f5⟩ := F
  refine ⟨hcp, hS, Or.inr ⟨rt, hrt, rfl, hr, fun e => ((f2 rt hrt).mp e) f1⟩, fun m hm hu hne => (f2 m hm).mpr (f3 m hm hu (fun z => hne (by rw [z]))), fun m p hm hp hu => ?_, ag, hG, hG'⟩
  have h := f4 m p hm hp hu
  have h1 := f2 m hm
  have h2 := f2 p hp
  constructor
  · intro e; exact h2.mpr (fun z => h1.mp e (h.mpr z))
  · intro e; exact h1.mpr (fun z => h2.mp e (h.mp z))
/-- replace: old, attached below p, goes out of p's slot, and nw, free, goes in -/
theorem ia_Sh_repl {A' B' : Nat → Int32} {a' b' : Nat → Nat} {p old nw : Nat} (hc : c ≤ 32) (hS : ia_Sh c K P A B U a b R)
    (q6 : ∀ m p, m < c → p < c → U m = nI p → (D m = -1 ↔ D p = -1))
    (ho : old < c) (hw : nw < c) (hp : p < c) (hUo : U old = nI p) (hUw : U nw = -1) (hDo : D old ≠ -1) (hDw : D nw = -1)
    (hA : ∀ q, q ≠ p → A' q = A q ∧ B' q = B q ∧ a' q = a q ∧ b' q = b q)
    (hAp : (a p = old ∧ A' p = nI nw ∧ a' p = nw ∧ B' p = B p ∧ b' p = b p) ∨ (b p = old ∧ B' p = nI nw ∧ b' p = nw ∧ A' p = A p ∧ a' p = a p)) :
    ia_Sh c K P A' B' (upd (upd U nw (nI p)) old (-1)) a' b' (ia_rk c (fun m => if D m = -1 then R m else R m + 32)) := by
  have hne : nw ≠ old := by intro z; rw [z] at hDw; exact hDo hDw
  have hDp : D p ≠ -1 := fun e => hDo ((q6 old p ho hp hUo).mpr e)
  have par := fun q p hq hp h => ia_par hS hc (q := q) (p := p) hq hp h
  obtain ⟨_, k1, k2, _⟩ := par old p ho hp hUo
  obtain ⟨h1, h2, h3, h4, h5⟩ := hS
  obtain ⟨xA, xB, xa, xb, xab, xUa, xUb⟩ := h4 p hp k1 k2
  have Uo : ∀ n, n ≠ old → n ≠ nw → upd (upd U nw (nI p)) old (-1) n = U n := fun n e1 e2 => by rw [ia_un e1, ia_un e2]
  have Uw : upd (upd U nw (nI p)) old (-1) nw = nI p := by rw [ia_un hne, ia_us]
  have np : ∀ n, n < c → ¬ nI n = -1 := fun n hn => ia_ne (by omega)
  have inw : ∀ q n, n < c → U q = nI n → q ≠ nw := fun q n hn hu z => np n hn (by rw [← hu, z]; exact hUw)
  refine ⟨fun n hn => ia_rk_lt hn, h2, h3, fun n hn y1 y2 => ?_, fun n hn => ?_⟩
  · by_cases e : n = p
    · subst e
      rcases hAp with ⟨z1, z2, z3, z4, z5⟩ | ⟨z1, z2, z3, z4, z5⟩
      · have bo : b n ≠ old := fun z => xab (z1.trans z.symm)
        rw [z2, z3, z4, z5, Uw, Uo (b n) bo (inw _ n hn xUb)]
        exact ⟨rfl, xB, hw, xb, fun z => inw _ n hn xUb z.symm, rfl, xUb⟩
      · have ao : a n ≠ old := fun z => xab (z.trans z1.symm)
        rw [z2, z3, z4, z5, Uw, Uo (a n) ao (inw _ n hn xUa)]
        exact ⟨xA, rfl, xa, hw, fun z => inw _ n hn xUa z, xUa, rfl⟩
    · obtain ⟨g1, g2, g3, g4⟩ := hA n e
      obtain ⟨x1, x2, x3, x4, x5, x6, x7⟩ := h4 n hn y1 y2
      have io : ∀ q, U q = nI n → q ≠ old := fun q hu z => e (ia_inj (by omega) (by omega) (by rw [← hu, z]; exact hUo))
      rw [g1, g2, g3, g4, Uo (a n) (io _ x6) (inw _ n hn x6), Uo (b n) (io _ x7) (inw _ n hn x7)]
      exact ⟨x1, x2, x3, x4, x5, x6, x7⟩
  · by_cases eo : n = old
    · subst eo; exact Or.inl ia_us
    · by_cases ew : n = nw
      · subst ew
        refine Or.inr ⟨p, hp, Uw, ia_rk_mono hn ?_, k1, k2, ?_⟩
        · have := h1 n hn
          rw [if_pos hDw, if_neg hDp]
          omega
        · rcases hAp with ⟨_, _, z, _⟩ | ⟨_, _, z, _⟩
          · exact Or.inl z
          · exact Or.inr z
      · rw [Uo n eo ew]
        rcases h5 n hn with h | ⟨q, hq, x1, x2, x3, x4, x5⟩
        · exact Or.inl h
        · refine Or.inr ⟨q, hq, x1, ia_rk_mono hn ?_, x3, x4, ?_⟩
          · have := q6 n q hn hq x1
            by_cases z : D n = -1
            · rw [if_pos z, if_pos (this.mp z)]; exact x2
            · rw [if_neg z, if_neg (fun y => z (this.mpr y))]; omega
          · by_cases eq : q = p
            · subst eq
              rcases hAp with ⟨z1, _, z3, _, z5⟩ | ⟨z1, _, z3, _, z5⟩
              · rcases x5 with y | y
                · exact absurd (y.symm.trans z1) eo
                · exact Or.inr (z5.trans y)
              · rcases x5 with y | y
                · exact Or.inl (z5.trans y)
                · exact absurd (y.symm.trans z1) eo
            · obtain ⟨_, _, g3, g4⟩ := hA q eq
              rw [g3, g4]; exact x5
end
end
section
-- part 05: small rows, and X's short methods, each with a general post
theorem ia_ix8 (n x : Nat) : nI n * 8 + nI x = nI (n * 8 + x) := by
  rw [show (8 : Int32) = nI 8 from rfl, pk_mul, nI_add]
theorem ia_cl8 {n x : Nat} (hn : n < 32) (hx : x < 8) : (nI n * 8 + nI x).toNatClampNeg = n * 8 + x := by
  rw [ia_ix8]; exact nI_clamp (by omega)
theorem ia_in8 {n x : Nat} (hn : n < 32) (hx : x < 8) : vp_in (nI n * 8 + nI x) 256 := by
  rw [ia_ix8]; exact vp_in_nI (by omega) (by decide)
theorem ia_cl {n : Nat} (hn : n < 32) : (nI n).toNatClampNeg = n := nI_clamp (by omega)
theorem ia_in {n : Nat} (hn : n < 32) : vp_in (nI n) 32 := vp_in_nI hn (by decide)
theorem ia_nb {z : Int32} (h : z = 0 ∨ z = 1) : vp_nar .boolean z = z := by rcases h with rfl | rfl <;> rfl
theorem ia_nbn {z : Int32} (h : z = 0 ∨ z = 1) : narrow .boolean (.int z) = .int z := by rcases h with rfl | rfl <;> rfl
def ia_Bo (G : Nat → Int32) : Prop := ∀ j, G j = 0 ∨ G j = 1
theorem ia_Bo_u {G : Nat → Int32} (h : ia_Bo G) {k : Nat} {z : Int32} (hz : z = 0 ∨ z = 1) : ia_Bo (upd G k z) := by
  intro j
  by_cases e : j = k
  · subst e; rw [ia_us]; exact hz
  · rw [ia_un e]; exact h j
/-- E' is E but for node m's row, which is f -/
def ia_Row (m : Nat) (f : Nat → Int32) (E E' : Nat → Int32) : Prop :=
  (∀ x, x < 8 → E' (m * 8 + x) = f x) ∧ (∀ j x, j ≠ m → x < 8 → E' (j * 8 + x) = E (j * 8 + x))
/-- the row is written below i -/
def ia_RowI (m i : Nat) (f : Nat → Int32) (E E' : Nat → Int32) : Prop :=
  (∀ x, x < i → E' (m * 8 + x) = f x) ∧ (∀ j x, j ≠ m → x < 8 → E' (j * 8 + x) = E (j * 8 + x))
theorem ia_RowI_0 {m : Nat} {f : Nat → Int32} {E : Nat → Int32} : ia_RowI m 0 f E E :=
  ⟨fun _ h => absurd h (Nat.not_lt_zero _), fun _ _ _ _ => rfl⟩
theorem ia_RowI_s {m i : Nat} {f : Nat → Int32} {E E' : Nat → Int32} (h : ia_RowI m i f E E') (hi : i < 8) {v : Int32} (hv : v = f i) : ia_RowI m (i + 1) f E (upd E' (m * 8 + i) v) := by
  refine ⟨fun x hx => ?_, fun j x hj hx => ?_⟩
  · by_cases e : x = i
    · subst e; rw [ia_us]; exact hv
    · rw [ia_un (by omega)]; exact h.1 x (by omega)
  · rw [ia_un (by omega)]; exact h.2 j x hj hx
section
variable {cp cn rI : Int32} {K P A B U D V Z S E G : Nat → Int32} {c n m : Nat}
theorem xp_addNode {post : Int32 → SX → Prop} {k x y z : Int32} (hc : c < 32)
    (h : post (nI c) (cp, nI (c + 1), rI, upd K c k, upd P c x, upd A c y, upd B c z, upd U c (-1), upd D c (-1), V, Z, S, E, G)) :
    wpX_addNode post (cp, nI c, rI, K, P, A, B, U, D, V, Z, S, E, G) k x y z := by
  have hi := ia_in hc
  have e := ia_cl hc
  refine ⟨hi, fun K' eK => ⟨hi, fun P' eP => ⟨hi, fun A' eA => ⟨hi, fun B' eB => ⟨hi, fun U' eU => ⟨hi, fun D' eD => fun c' ec => ?_⟩⟩⟩⟩⟩⟩
  rw [e] at eK eP eA eB eU eD
  rw [nI_1] at ec
  subst eK eP eA eB eU eD ec
  exact h
theorem xp_isName {post : Int32 → Prop} {x : Int32} (h0 : (¬ ∃ j, j < 8 ∧ x = nI j) → post 0) (h1 : ∀ j, j < 8 → x = nI j → post 1) :
    wpX_isName post (cp, cn, rI, K, P, A, B, U, D, V, Z, S, E, G) x := by
  rcases pk_ix x (n := 8) (by decide) with h | h | ⟨j, hj, rfl⟩
  · refine br_t h (h0 ?_)
    rintro ⟨j, hj, rfl⟩
    exact nI_pos (by omega) h
  · have hn : ¬ x < 0 := Int32.not_lt.mpr (Int32.le_trans (by decide) h)
    refine br_f hn (br_t h (h0 ?_))
    rintro ⟨j, hj, rfl⟩
    exact nI_ge hj (by decide) h
  · exact br_f (nI_pos (by omega)) (br_f (nI_ge hj (by decide)) (h1 j hj rfl))
theorem xp_isValid {post : Int32 → Prop} {x : Int32} (hc : c ≤ 32) (h0 : (¬ ∃ j, j < c ∧ x = nI j) → post 0) (h1 : ∀ j, j < c → x = nI j → post 1) :
    wpX_isValid post (cp, nI c, rI, K, P, A, B, U, D, V, Z, S, E, G) x := by
  rcases pk_ix x (n := c) (by omega) with h | h | ⟨j, hj, rfl⟩
  · refine br_t h (h0 ?_)
    rintro ⟨j, hj, rfl⟩
    exact nI_pos (by omega) h
  · by_cases hn : x < 0
    · refine br_t hn (h0 ?_)
      rintro ⟨j, hj, rfl⟩
      exact nI_pos (by omega) hn
    · refine br_f hn (br_t h (h0 ?_))
      rintro ⟨j, hj, rfl⟩
      exact nI_ge hj (by omega) h
  · exact br_f (nI_pos (by omega)) (br_f (nI_ge hj (by omega)) (h1 j hj rfl))
/-- x names a free root -/
def ia_Fr (c : Nat) (U : Nat → Int32) (rI x : Int32) (j : Nat) : Prop := j < c ∧ x = nI j ∧ U j = -1 ∧ rI ≠ nI j
theorem xp_isFreeRoot {post : Int32 → Prop} {x : Int32} (hc : c ≤ 32) (h0 : (¬ ∃ j, ia_Fr c U rI x j) → post 0) (h1 : ∀ j, ia_Fr c U rI x j → post 1) :
    wpX_isFreeRoot post (cp, nI c, rI, K, P, A, B, U, D, V, Z, S, E, G) x := by
  unfold wpX_isFreeRoot
  refine xp_isValid hc (fun h => ?_) (fun j hj e => ?_)
  · exact br_t rfl (h0 (fun ⟨j, hj, e, _⟩ => h ⟨j, hj, e⟩))
  · subst e
    refine br_f (by decide) ⟨ia_in (by omega), ?_⟩
    rw [ia_cl (n := j) (by omega)]
    by_cases hu : U j = -1
    · refine br_t hu ?_
      by_cases hr : nI j = rI
      · refine br_t hr (h0 ?_)
        rintro ⟨j', _, e', _, hr'⟩
        exact hr' (hr.symm.trans e')
      · exact br_f hr (h1 j ⟨hj, rfl, hu, fun z => hr z.symm⟩)
    · refine br_f hu (h0 ?_)
      rintro ⟨j', hj', e', hu', _⟩
      rw [ia_inj (by omega) (by omega) e'] at hu
      exact hu hu'
theorem xp_isAttached {post : Int32 → Prop} {x : Int32} (hc : c ≤ 32) (h0 : (¬ ∃ j, j < c ∧ x = nI j ∧ D j ≠ -1) → post 0) (h1 : ∀ j, j < c → x = nI j → D j ≠ -1 → post 1) :
    wpX_isAttached post (cp, nI c, rI, K, P, A, B, U, D, V, Z, S, E, G) x := by
  unfold wpX_isAttached
  refine xp_isValid hc (fun h => ?_) (fun j hj e => ?_)
  · exact br_t rfl (h0 (fun ⟨j, hj, e, _⟩ => h ⟨j, hj, e⟩))
  · subst e
    refine br_f (by decide) ⟨ia_in (by omega), ?_⟩
    rw [ia_cl (n := j) (by omega)]
    by_cases hu : D j = -1
    · refine br_t hu (h0 ?_)
      rintro ⟨j', hj', e', hu'⟩
      rw [ia_inj (by omega) (by omega) e'] at hu
      exact hu' hu
    · exact br_f hu (h1 j hj rfl hu)
/-- x and y can be joined below a new node -/
def ia_Jn (cp c : Nat) (U : Nat → Int32) (rI x y : Int32) (i j : Nat) : Prop := ia_Fr c U rI x i ∧ ia_Fr c U rI y j ∧ i ≠ j ∧ c ≠ cp
theorem xp_canJoin {post : Int32 → Prop} {cq : Nat} {x y : Int32} (hc : c ≤ cq) (hq : cq ≤ 32) (h0 : (¬ ∃ i j, ia_Jn cq c U rI x y i j) → post 0) (h1 : ∀ i j, ia_Jn cq c U rI x y i j → post 1) :
    wpX_canJoin post (nI cq, nI c, rI, K, P, A, B, U, D, V, Z, S, E, G) x y := by
  unfold wpX_canJoin
  refine xp_isFreeRoot (by omega) (fun h => br_t rfl (h0 (fun ⟨i, j, a, _⟩ => h ⟨i, a⟩))) (fun i hi => br_f (by decide) ?_)
  refine xp_isFreeRoot (by omega) (fun h => br_t rfl (h0 (fun ⟨i, j, _, a, _⟩ => h ⟨j, a⟩))) (fun j hj => br_f (by decide) ?_)
  have hi1 := hi.1
  have hj1 := hj.1
  by_cases e : x = y
  · refine br_t e (h0 ?_)
    rintro ⟨i', j', ⟨ha, ea, _⟩, ⟨hb, eb, _⟩, ne, _⟩
    exact ne (ia_inj (by omega) (by omega) (ea.symm.trans (e.trans eb)))
  · refine br_f e ?_
    by_cases e2 : nI c = nI cq
    · refine br_t e2 (h0 ?_)
      rintro ⟨i', j', _, _, _, ne⟩
      exact ne (ia_inj (by omega) (by omega) e2)
    · refine br_f e2 (h1 i j ⟨hi, hj, fun z => e ?_, fun z => e2 (by rw [z])⟩)
      rw [hi.2.1, hj.2.1, z]
theorem xp_addParent {post : Int32 → SX → Prop} {k x : Int32} {i j : Nat} (hc : c < 32) (hi : i < c) (hj : j < c)
    (h : post (nI c) (cp, nI (c + 1), rI, upd K c k, upd P c x, upd A c (nI i), upd B c (nI j), upd (upd (upd U c (-1)) i (nI c)) j (nI c), upd D c (-1), V, Z, S, E, G)) :
    wpX_addParent post (cp, nI c, rI, K, P, A, B, U, D, V, Z, S, E, G) k x (nI i) (nI j) := by
  unfold wpX_addParent
  refine xp_addNode hc ?_
  refine ⟨ia_in (by omega), fun U1 e1 => ⟨ia_in (by omega), fun U2 e2 => ?_⟩⟩
  rw [ia_cl (by omega)] at e1 e2
  subst e1 e2
  exact h
theorem xp_isLeaf {post : Int32 → Prop} (hn : n < 32) (h1 : (K n = 1 ∨ K n = 2) → post 1) (h0 : K n ≠ 1 → K n ≠ 2 → post 0) :
    wpX_isLeaf post (cp, cn, rI, K, P, A, B, U, D, V, Z, S, E, G) (nI n) := by
  refine ⟨ia_in hn, ?_⟩
  rw [ia_cl hn]
  by_cases k1 : K n = 1
  · exact br_t k1 (h1 (Or.inl k1))
  · refine br_f k1 ⟨ia_in hn, ?_⟩
    by_cases k2 : K n = 2
    · exact br_t k2 (h1 (Or.inr k2))
    · exact br_f k2 (h0 k1 k2)
theorem xp_detach {post : SX → Prop} (hc : c ≤ 32) (h : ∀ D', (∀ q, q < c → D' q = -1) → post (cp, nI c, rI, K, P, A, B, U, D', V, Z, S, E, G)) :
    ∀ (f i : Nat) (D1 : Nat → Int32), i ≤ c → c - i < f → (∀ q, q < i → D1 q = -1) → wX_detachAll_2 post cp (nI c) rI f (nI i) K P A B U D1 V Z S E G := by
  intro f
  induction f with
  | zero => intro i D1 _ hf; exact absurd hf (Nat.not_lt_zero _)
  | succ f ih =>
    intro i D1 hi hf hD
    by_cases e : i = c
    · subst e
      exact br_t (Int32.le_refl _) (h D1 hD)
    · refine br_f (nI_ge (by omega) (by omega)) ⟨ia_in (by omega), fun D2 e2 x ex => ?_⟩
      rw [ia_cl (by omega)] at e2
      rw [nI_1] at ex
      subst e2 ex
      refine ih (i + 1) _ (by omega) (by omega) (fun q hq => ?_)
      by_cases z : q = i
      · subst z; exact ia_us
      · rw [ia_un z]; exact hD q (by omega)
theorem xp_detachAll {post : SX → Prop} (hc : c ≤ 32) (h : ∀ D', (∀ q, q < c → D' q = -1) → post (cp, nI c, rI, K, P, A, B, U, D', V, Z, S, E, G)) :
    wpX_detachAll post (cp, nI c, rI, K, P, A, B, U, D, V, Z, S, E, G) :=
  ⟨c + 1, xp_detach hc h (c + 1) 0 D (by omega) (by omega) (fun q hq => absurd hq (Nat.not_lt_zero _))⟩
theorem xp_start {post : SX → Prop} {rt : Nat} (hr : rt < 32)
    (h : ∀ E' G', ia_Row rt (fun _ => 0) E E' → ia_Row rt (fun _ => 0) G G' → ia_Bo G' → post (cp, cn, nI rt, K, P, A, B, U, D, V, Z, S, E', G')) :
    ∀ (f i : Nat) (E1 G1 : Nat → Int32), i ≤ 8 → 8 - i < f → ia_RowI rt i (fun _ => 0) E E1 → ia_RowI rt i (fun _ => 0) G G1 → ia_Bo G1 →
      wX_startRoot_12 post cp cn (nI rt) f (nI i) K P A B U D V Z S E1 G1 := by
  intro f
  induction f with
  | zero => intro i E1 G1 _ hf; exact absurd hf (Nat.not_lt_zero _)
  | succ f ih =>
    intro i E1 G1 hi hf hE hG hB
    by_cases e : i = 8
    · subst e
      exact br_t (Int32.le_refl _) (h E1 G1 hE hG hB)
    · refine br_f (nI_ge (b := 8) (by omega) (by decide)) ⟨ia_in8 hr (by omega), fun E2 e2 => ⟨ia_in8 hr (by omega), fun G2 e3 x ex => ?_⟩⟩
      rw [ia_cl8 hr (by omega)] at e2 e3
      rw [nI_1] at ex
      rw [ia_nb (Or.inl rfl)] at e3
      subst e2 e3 ex
      exact ih (i + 1) _ _ (by omega) (by omega) (ia_RowI_s hE (by omega) rfl) (ia_RowI_s hG (by omega) rfl) (ia_Bo_u hB (Or.inl rfl))
theorem xp_startRoot {post : SX → Prop} {rt : Nat} (hr : rt < 32) (hB : ia_Bo G)
    (h : ∀ E' G', ia_Row rt (fun _ => 0) E E' → ia_Row rt (fun _ => 0) G G' → ia_Bo G' → post (cp, cn, nI rt, K, P, A, B, U, upd D rt 0, V, Z, S, E', G')) :
    wpX_startRoot post (cp, cn, nI rt, K, P, A, B, U, D, V, Z, S, E, G) := by
  refine ⟨ia_in hr, fun D1 e => ⟨9, ?_⟩⟩
  rw [ia_cl hr] at e
  subst e
  exact xp_start hr h 9 0 E G (by omega) (by omega) ia_RowI_0 ia_RowI_0 hB
theorem xp_inh {post : SX → Prop} (hn : n < 32) (hm : m < 32) (hne : n ≠ m)
    (h : ∀ E' G', ia_Row m (fun x => E (n * 8 + x)) E E' → ia_Row m (fun x => G (n * 8 + x)) G G' → ia_Bo G' → post (cp, cn, rI, K, P, A, B, U, D, V, Z, S, E', G')) :
    ∀ (f i : Nat) (E1 G1 : Nat → Int32), i ≤ 8 → 8 - i < f → ia_RowI m i (fun x => E (n * 8 + x)) E E1 → ia_RowI m i (fun x => G (n * 8 + x)) G G1 → ia_Bo G1 →
      wX_inherit_16 post (nI n) (nI m) cp cn rI f (nI i) K P A B U D V Z S E1 G1 := by
  intro f
  induction f with
  | zero => intro i E1 G1 _ hf; exact absurd hf (Nat.not_lt_zero _)
  | succ f ih =>
    intro i E1 G1 hi hf hE hG hB
    by_cases e : i = 8
    · subst e
      exact br_t (Int32.le_refl _) (h E1 G1 hE hG hB)
    · have i1 := ia_in8 hn (x := i) (by omega)
      have i2 := ia_in8 hm (x := i) (by omega)
      refine br_f (nI_ge (b := 8) (by omega) (by decide)) ⟨i1, ⟨i2, fun E2 e2 => ⟨i1, ⟨i2, fun G2 e3 x ex => ?_⟩⟩⟩⟩
      rw [ia_cl8 hn (by omega), ia_cl8 hm (by omega)] at e2 e3
      rw [nI_1] at ex
      rw [ia_nb (hB _)] at e3
      subst e2 e3 ex
      exact ih (i + 1) _ _ (by omega) (by omega) (ia_RowI_s hE (by omega) (hE.2 n i hne (by omega))) (ia_RowI_s hG (by omega) (hG.2 n i hne (by omega))) (ia_Bo_u hB (hB _))
theorem xp_inherit {post : SX → Prop} (hn : n < 32) (hm : m < 32) (hne : n ≠ m) (hB : ia_Bo G)
    (h : ∀ E' G', ia_Row m (fun x => E (n * 8 + x)) E E' → ia_Row m (fun x => G (n * 8 + x)) G G' → ia_Bo G' → post (cp, cn, rI, K, P, A, B, U, upd D m (D n + 1), V, Z, S, E', G')) :
    wpX_inherit post (cp, cn, rI, K, P, A, B, U, D, V, Z, S, E, G) (nI n) (nI m) := by
  refine ⟨ia_in hn, ⟨ia_in hm, fun D1 e => ⟨9, ?_⟩⟩⟩
  rw [ia_cl hn, ia_cl hm] at e
  subst e
  exact xp_inh hn hm hne h 9 0 E G (by omega) (by omega) ia_RowI_0 ia_RowI_0 hB
theorem xp_bind {post : SX → Prop} {i x : Nat} (hn : n < 32) (hA : A n = nI i) (hi : i < 32) (hBn : B n = nI m) (hm : m < 32) (hP : P n = nI x) (hx : x < 8)
    (h : post (cp, cn, rI, K, P, A, B, U, D, V, Z, S, upd E (m * 8 + x) (V i), upd G (m * 8 + x) 1)) :
    wpX_bindInBody post (cp, cn, rI, K, P, A, B, U, D, V, Z, S, E, G) (nI n) := by
  refine ⟨ia_in hn, ⟨ia_in hn, fun y ey => ?_⟩⟩
  rw [ia_cl hn, hBn, hP] at ey
  subst ey
  refine ⟨ia_in hn, ?_⟩
  rw [ia_cl hn, hA, ia_cl hi]
  refine ⟨ia_in hi, ⟨ia_in8 hm hx, fun E1 e1 => ⟨ia_in8 hm hx, fun G1 e2 => ?_⟩⟩⟩
  rw [ia_cl8 hm hx] at e1 e2
  rw [ia_nb (Or.inr rfl)] at e2
  subst e1 e2
  exact h
theorem xp_combine {post : Int32 → Prop} {k x y : Int32} (hk : k = 3 ∨ k = 4 ∨ k = 5 ∨ k = 6) (h : post (ia_comb k x y)) :
    wpX_combine post (cp, cn, rI, K, P, A, B, U, D, V, Z, S, E, G) k x y := by
  rcases hk with rfl | rfl | rfl | rfl
  · exact br_f (by decide) (br_f (by decide) (br_t rfl h))
  · exact br_f (by decide) (br_f (by decide) (br_f (by decide) (br_t rfl h)))
  · exact br_f (by decide) (br_f (by decide) (br_f (by decide) (br_f (by decide) (br_t rfl h))))
  · exact br_f (by decide) (br_t (by decide) h)
end
end
section
-- part 06: X's walk
section
variable {cp cn rI : Int32} {K P A B U D V Z S E G : Nat → Int32} {c n m : Nat} {a b R : Nat → Nat} {rt : Nat} {st ti to : Nat → Nat} {t : Nat} {fr : Int32}
theorem ia_vn {f : Nat → Int32} {k j : Nat} {x : Int32} : j ≠ k → upd f k x j = f j := fun h => if_neg h
theorem xp_finishLeaf {post : SX → Prop} (hS : ia_Sh c K P A B U a b R) (hc : c ≤ 32) (hn : n < c) (hk : K n = 1 ∨ K n = 2)
    (h : ∀ V' Z' S', (∀ j, j ≠ n → V' j = V j ∧ Z' j = Z j ∧ S' j = S j) → ia_ValF K P a b V Z S E G V' Z' S' n → post (cp, cn, rI, K, P, A, B, U, D, V', Z', S', E, G)) :
    wpX_finishLeaf post (cp, cn, rI, K, P, A, B, U, D, V, Z, S, E, G) (nI n) := by
  have hi := ia_in (n := n) (by omega)
  have e := ia_cl (n := n) (by omega)
  refine ⟨hi, fun S1 e1 => ⟨hi, ?_⟩⟩
  rw [e] at e1
  subst e1
  rw [e]
  by_cases k1 : K n = 1
  · refine br_t k1 ⟨hi, ⟨hi, fun V1 e2 => ⟨hi, fun Z1 e3 => ?_⟩⟩⟩
    subst e2 e3
    refine h _ _ _ (fun j hj => ⟨ia_un hj, ia_un hj, ia_un hj⟩) ⟨fun _ => ⟨ia_us, ia_us, ia_us⟩, fun k2 => ?_, fun k1' => absurd k1 k1'⟩
    rw [k1] at k2; exact absurd k2 (by decide)
  · have k2 : K n = 2 := by rcases hk with z | z; exact absurd z k1; exact z
    obtain ⟨x, hx, hP⟩ := hS.2.2.1 n hn (Or.inl k2)
    refine br_f k1 ⟨hi, fun y ey => ?_⟩
    rw [hP] at ey
    subst ey
    have i8 := ia_in8 (n := n) (by omega) hx
    refine ⟨i8, ?_⟩
    have c8 := ia_cl8 (n := n) (by omega) hx
    have hxu : ∀ x', x' < 8 → P n = nI x' → x' = x := fun x' hx' hp => ia_inj (by omega) (by omega) (hp.symm.trans hP)
    by_cases g : G (n * 8 + x) = 0
    · refine br_t (by rw [c8]; exact g) ⟨hi, fun V1 e2 => ⟨i8, br_t (by rw [c8]; exact g) ⟨hi, fun Z1 e3 => ?_⟩⟩⟩
      rw [e] at e2 e3
      subst e2 e3
      refine h _ _ _ (fun j hj => ⟨ia_un hj, ia_un hj, ia_un hj⟩) ⟨fun z => absurd z k1, fun _ x' hx' hp => ?_, fun _ k2' => absurd k2 k2'⟩
      rw [hxu x' hx' hp]
      exact ⟨ia_us, fun _ => ⟨ia_us, ia_us⟩, fun z => absurd g z⟩
    · refine br_f (by rw [c8]; exact g) ⟨i8, ⟨hi, fun V1 e2 => ⟨i8, br_f (by rw [c8]; exact g) ⟨hi, fun Z1 e3 => ?_⟩⟩⟩⟩
      rw [e] at e2 e3
      rw [c8] at e2
      subst e2 e3
      refine h _ _ _ (fun j hj => ⟨ia_un hj, ia_un hj, ia_un hj⟩) ⟨fun z => absurd z k1, fun _ x' hx' hp => ?_, fun _ k2' => absurd k2 k2'⟩
      rw [hxu x' hx' hp]
      exact ⟨ia_us, fun z => absurd z g, fun _ => ⟨ia_us, ia_us⟩⟩
theorem xp_finishInner {post : SX → Prop} (hS : ia_Sh c K P A B U a b R) (hc : c ≤ 32) (hn : n < c) (k1 : K n ≠ 1) (k2 : K n ≠ 2)
    (h : ∀ V' Z' S', (∀ j, j ≠ n → V' j = V j ∧ Z' j = Z j ∧ S' j = S j) → ia_ValF K P a b V Z S E G V' Z' S' n → post (cp, cn, rI, K, P, A, B, U, D, V', Z', S', E, G)) :
    wpX_finishInner post (cp, cn, rI, K, P, A, B, U, D, V, Z, S, E, G) (nI n) := by
  have hi := ia_in (n := n) (by omega)
  have e := ia_cl (n := n) (by omega)
  obtain ⟨hA, hB, ha, hb, _, _, _⟩ := hS.2.2.2.1 n hn k1 k2
  have ia := ia_in (n := a n) (by omega)
  have ib := ia_in (n := b n) (by omega)
  have ea := ia_cl (n := a n) (by omega)
  have eb := ia_cl (n := b n) (by omega)
  have hk : K n = 3 ∨ K n = 4 ∨ K n = 5 ∨ K n = 6 := by
    rcases hS.2.1 n hn with z | z | z | z | z | z
    · exact absurd z k1
    · exact absurd z k2
    · exact Or.inl z
    · exact Or.inr (Or.inl z)
    · exact Or.inr (Or.inr (Or.inl z))
    · exact Or.inr (Or.inr (Or.inr z))
  refine ⟨hi, fun x ex => ⟨hi, fun y ey => ?_⟩⟩
  rw [e, hA] at ex
  rw [e, hB] at ey
  subst ex ey
  refine ⟨ia, ⟨ib, ⟨hi, fun S1 e1 => ⟨ia, ⟨ib, ⟨hi, fun Z1 e2 => ⟨hi, ⟨ia, ⟨ib, ?_⟩⟩⟩⟩⟩⟩⟩⟩⟩
  rw [e, ea, eb] at e1 e2
  subst e1 e2
  rw [e, ea, eb]
  refine xp_combine hk ⟨hi, fun V1 e3 => ?_⟩
  subst e3
  exact h _ _ _ (fun j hj => ⟨ia_un hj, ia_un hj, ia_un hj⟩) ⟨fun z => absurd z k1, fun z => absurd z k2, fun _ _ => ⟨ia_us, ia_us, ia_us⟩⟩
/-- one stop of the walk -/
theorem xp_visit {post : Int32 → SX → Prop} (hS : ia_Sh c K P A B U a b R) (hc : c ≤ 32) (hr : U rt = -1) (hB : ia_Bo G) (hn : n < c)
    (W : ia_Wk c K P A B U a b R rt D V Z S E G st ti to t (nI n) fr)
    (h : ∀ nx D' V' Z' S' E' G' st' ti' to', ia_Wk c K P A B U a b R rt D' V' Z' S' E' G' st' ti' to' (t + 1) nx (nI n) → ia_Bo G' → post nx (cp, cn, rI, K, P, A, B, U, D', V', Z', S', E', G')) :
    wpX_visit post (cp, cn, rI, K, P, A, B, U, D, V, Z, S, E, G) (nI n) fr := by
  have hi := ia_in (n := n) (by omega)
  have e := ia_cl (n := n) (by omega)
  have w6 : (st n = 0 ∧ fr = U n) ∨ (K n ≠ 1 ∧ K n ≠ 2 ∧ st n = 1 ∧ fr = A n ∧ st (a n) = 3) ∨ (K n ≠ 1 ∧ K n ≠ 2 ∧ st n = 2 ∧ fr = B n ∧ st (b n) = 3) := by
    rcases W.2.2.2.2.2.1 with ⟨z, _⟩ | ⟨n', hn', z, w⟩
    · exact absurd z (ia_ne (by omega))
    · have : n = n' := ia_inj (by omega) (by omega) z
      subst this; exact w
  unfold wpX_visit
  refine xp_isLeaf (by omega) (fun hk => ?_) (fun k1 k2 => ?_)
  · refine br_f (by decide) (xp_finishLeaf hS hc hn hk (fun V' Z' S' hV hF => ?_))
    refine ⟨hi, ?_⟩
    rw [e]
    have s0 : st n = 0 := by
      rcases w6 with ⟨z, _⟩ | ⟨y1, y2, _⟩ | ⟨y1, y2, _⟩
      · exact z
      · rcases hk with z | z; exact absurd z y1; exact absurd z y2
      · rcases hk with z | z; exact absurd z y1; exact absurd z y2
    refine h _ _ _ _ _ _ _ _ _ _ (ia_finish hS hc hr W hn (by omega) (fun y1 y2 => ?_) hV hF) hB
    rcases hk with z | z; exact absurd z y1; exact absurd z y2
  · obtain ⟨hA, hBn, ha, hb, hab, hUa, hUb⟩ := hS.2.2.2.1 n hn k1 k2
    have nU : ∀ q, q < c → U q = nI n → ¬ nI q = U n := by
      intro q hq hu z
      have r1 := (ia_par hS hc hq hn hu).1
      have r2 := (ia_par hS hc hn hq z.symm).1
      omega
    have han : n ≠ a n := by intro z; have := (ia_par hS hc ha hn hUa).1; rw [← z] at this; omega
    have hbn : n ≠ b n := by intro z; have := (ia_par hS hc hb hn hUb).1; rw [← z] at this; omega
    refine br_t rfl ⟨hi, ?_⟩
    rw [e]
    rcases w6 with ⟨s, f⟩ | ⟨_, _, s, f, sa⟩ | ⟨_, _, s, f, sb⟩
    · refine br_t f ⟨hi, ?_⟩
      rw [hA]
      refine xp_inherit (by omega) (by omega) han hB (fun E' G' hE hG hB' => ⟨hi, ?_⟩)
      rw [hA]
      refine h _ _ _ _ _ _ _ _ _ _ (ia_enter hS hc hr W hn k1 k2 (m := a n) (Or.inl ⟨s, rfl⟩) (fun j hj => ia_un hj) ia_us (fun j x hj hx => ⟨hE.2 j x hj hx, hG.2 j x hj hx⟩) (fun x hx => ⟨fun z => absurd z.2.1.symm hab, fun _ => ⟨hE.1 x hx, hG.1 x hx⟩⟩)) hB'
    · refine br_f (by rw [f, hA]; exact nU _ ha hUa) ⟨hi, ?_⟩
      refine br_t f ⟨hi, ?_⟩
      rw [hBn]
      refine xp_inherit (by omega) (by omega) hbn hB (fun E' G' hE hG hB' => ⟨hi, ?_⟩)
      by_cases k6 : K n = 6
      · obtain ⟨x, hx, hP⟩ := hS.2.2.1 n hn (Or.inr k6)
        refine br_t k6 (xp_bind (by omega) hA (by omega) hBn (by omega) hP hx ⟨hi, ?_⟩)
        rw [hBn]
        refine h _ _ _ _ _ _ _ _ _ _ (ia_enter hS hc hr W hn k1 k2 (m := b n) (Or.inr ⟨s, sa, rfl⟩) (fun j hj => ia_un hj) ia_us (fun j y hj hy => ?_) (fun y hy => ⟨fun z => ?_, fun z => ?_⟩)) (ia_Bo_u hB' (Or.inr rfl))
        · rw [ia_un (by omega), ia_un (by omega)]; exact ⟨hE.2 j y hj hy, hG.2 j y hj hy⟩
        · have : x = y := ia_inj (by omega) (by omega) (hP.symm.trans z.2.2)
          subst this
          exact ⟨ia_us, ia_us⟩
        · have : y ≠ x := fun q => z ⟨k6, rfl, by rw [q]; exact hP⟩
          rw [ia_un (by omega), ia_un (by omega)]; exact ⟨hE.1 y hy, hG.1 y hy⟩
      · refine br_f k6 ⟨hi, ?_⟩
        rw [hBn]
        refine h _ _ _ _ _ _ _ _ _ _ (ia_enter hS hc hr W hn k1 k2 (m := b n) (Or.inr ⟨s, sa, rfl⟩) (fun j hj => ia_un hj) ia_us (fun j x hj hx => ⟨hE.2 j x hj hx, hG.2 j x hj hx⟩) (fun x hx => ⟨fun z => absurd z.1 k6, fun _ => ⟨hE.1 x hx, hG.1 x hx⟩⟩)) hB'
    · refine br_f (by rw [f, hBn]; exact nU _ hb hUb) ⟨hi, ?_⟩
      refine br_f (fun z => hab ?_) ?_
      · rw [f, hA, hBn] at z
        exact (ia_inj (by omega) (by omega) z).symm
      · refine xp_finishInner hS hc hn k1 k2 (fun V' Z' S' hV hF => ⟨hi, ?_⟩)
        exact h _ _ _ _ _ _ _ _ _ _ (ia_finish hS hc hr W hn (by omega) (fun _ _ => ⟨s, sb⟩) hV hF) hB
theorem xp_loop {post : SX → Prop} (hS : ia_Sh c K P A B U a b R) (hc : c ≤ 32) (hr : U rt = -1) (hrt : rt < c)
    (h : ∀ D' V' Z' S' E' G' st' ti' to', ia_Done c K P A B U a b rt D' V' Z' S' E' G' st' ti' to' → ia_Bo G' → post (cp, cn, rI, K, P, A, B, U, D', V', Z', S', E', G')) :
    ∀ (f t : Nat) (cur fr : Int32) (D V Z S E G : Nat → Int32) (st ti to : Nat → Nat), t ≤ 96 → 96 - t < f → ia_Bo G →
      ia_Wk c K P A B U a b R rt D V Z S E G st ti to t cur fr → wX_evaluateTree_17 post f fr cur (nI t) cp cn rI K P A B U D V Z S E G := by
  intro f
  induction f with
  | zero => intro t cur fr D V Z S E G st ti to _ hf; exact absurd hf (Nat.not_lt_zero _)
  | succ f ih =>
    intro t cur fr D V Z S E G st ti to ht hf hB W
    rcases W.2.2.2.2.2.1 with ⟨z, _⟩ | ⟨n, hn, z, _⟩
    · subst z
      have d := h _ _ _ _ _ _ _ _ _ (ia_end hS hc hr W hrt ht) hB
      exact br_c (fun _ => d) (fun _ => br_t rfl d)
    · subst z
      have t96 := ia_stops hc W hn
      refine br_f (nI_ge (b := 96) t96 (by decide)) (br_f (ia_ne (by omega)) ?_)
      refine xp_visit hS hc hr hB hn W (fun nx D' V' Z' S' E' G' st' ti' to' W' hB' => ?_)
      intro x ex
      rw [nI_1] at ex
      subst ex
      exact ih (t + 1) _ _ _ _ _ _ _ _ _ _ _ (by omega) (by omega) hB' W'
theorem xp_evaluate {post : SX → Prop} (hS : ia_Sh c K P A B U a b R) (hc : c ≤ 32) (hr : U rt = -1) (hrt : rt < c) (hB : ia_Bo G)
    (h : ∀ D' V' Z' S' E' G' st' ti' to', ia_Done c K P A B U a b rt D' V' Z' S' E' G' st' ti' to' → ia_Bo G' → post (cp, nI c, nI rt, K, P, A, B, U, D', V', Z', S', E', G')) :
    wpX_evaluateTree post (cp, nI c, nI rt, K, P, A, B, U, D, V, Z, S, E, G) := by
  unfold wpX_evaluateTree
  refine xp_detachAll hc (fun D1 hD1 => ?_)
  refine xp_startRoot (by omega) hB (fun E1 G1 hE hG hB1 => ?_)
  refine ⟨97, ?_⟩
  refine xp_loop hS hc hr hrt h 97 0 (nI rt) (-1) _ _ _ _ _ _ _ _ _ (by omega) (by omega) hB1 (ia_begin hS hc hr hrt (fun q hq hne => ?_) ia_us (fun x hx => ⟨hE.1 x hx, hG.1 x hx⟩))
  rw [ia_un hne]; exact hD1 q hq
end
end
section
-- part 07: the reference's methods
section
variable {cp cn rI : Int32} {K P A B U D V Z S E G : Nat → Int32} {c n m : Nat} {a b R : Nat → Nat} {rt : Nat} {st ti to : Nat → Nat}
theorem yp_make {post : Int32 → SY → Prop} {k x y z : Int32} (hc : c < 32)
    (h : post (nI c) (cp, nI (c + 1), rI, upd K c k, upd P c x, upd A c y, upd B c z, upd U c (-1), D, V, Z, S, G, E)) :
    wpY_make post (cp, nI c, rI, K, P, A, B, U, D, V, Z, S, G, E) k x y z := by
  have hi := ia_in hc
  have e := ia_cl hc
  refine ⟨hi, fun K' eK => ⟨hi, fun P' eP => ⟨hi, fun A' eA => ⟨hi, fun B' eB => ⟨hi, fun U' eU => fun c' ec => ?_⟩⟩⟩⟩⟩
  rw [e] at eK eP eA eB eU
  rw [nI_1] at ec
  subst eK eP eA eB eU ec
  exact h
theorem yp_valid {post : Int32 → Prop} {x : Int32} (hc : c ≤ 32) (h0 : (¬ ∃ j, j < c ∧ x = nI j) → post 0) (h1 : ∀ j, j < c → x = nI j → post 1) :
    wpY_valid post (cp, nI c, rI, K, P, A, B, U, D, V, Z, S, G, E) x := by
  rcases pk_ix x (n := c) (by omega) with h | h | ⟨j, hj, rfl⟩
  · refine br_t h (h0 ?_)
    rintro ⟨j, hj, rfl⟩
    exact nI_pos (by omega) h
  · by_cases hn : x < 0
    · refine br_t hn (h0 ?_)
      rintro ⟨j, hj, rfl⟩
      exact nI_pos (by omega) hn
    · refine br_f hn (br_t h (h0 ?_))
      rintro ⟨j, hj, rfl⟩
      exact nI_ge hj (by omega) h
  · exact br_f (nI_pos (by omega)) (br_f (nI_ge hj (by omega)) (h1 j hj rfl))
theorem yp_freeRoot {post : Int32 → Prop} {x : Int32} (hc : c ≤ 32) (h0 : (¬ ∃ j, ia_Fr c U rI x j) → post 0) (h1 : ∀ j, ia_Fr c U rI x j → post 1) :
    wpY_freeRoot post (cp, nI c, rI, K, P, A, B, U, D, V, Z, S, G, E) x := by
  unfold wpY_freeRoot
  refine yp_valid hc (fun h => ?_) (fun j hj e => ?_)
  · exact br_t rfl (h0 (fun ⟨j, hj, e, _⟩ => h ⟨j, hj, e⟩))
  · subst e
    refine br_f (by decide) ⟨ia_in (by omega), ?_⟩
    rw [ia_cl (n := j) (by omega)]
    by_cases hu : U j = -1
    · refine br_t hu ?_
      by_cases hr : nI j = rI
      · refine br_t hr (h0 ?_)
        rintro ⟨j', _, e', _, hr'⟩
        exact hr' (hr.symm.trans e')
      · exact br_f hr (h1 j ⟨hj, rfl, hu, fun z => hr z.symm⟩)
    · refine br_f hu (h0 ?_)
      rintro ⟨j', hj', e', hu', _⟩
      rw [ia_inj (by omega) (by omega) e'] at hu
      exact hu hu'
/-- the climb: DX is X's depth array, which says what is attached -/
theorem yp_climb {post : Int32 → Prop} {cq : Nat} {DX : Nat → Int32} (hq : cq ≤ 32) (hc : c ≤ cq) (hS : ia_Sh c K P A B U a b R)
    (q4 : rI = -1 ∨ ∃ r, r < c ∧ rI = nI r ∧ U r = -1 ∧ DX r ≠ -1) (q5 : ∀ m, m < c → U m = -1 → rI ≠ nI m → DX m = -1)
    (q6 : ∀ m p, m < c → p < c → U m = nI p → (DX m = -1 ↔ DX p = -1)) :
    ∀ (f j i : Nat), j < c → i ≤ R j → c - R j < f → (DX j = -1 → post 0) → (DX j ≠ -1 → post 1) →
      wY_attached_14 post (nI cq) (nI c) rI K P A B U D V Z S G E f (nI j) (nI i) := by
  intro f
  induction f with
  | zero => intro j i _ _ hf; exact absurd hf (Nat.not_lt_zero _)
  | succ f ih =>
    intro j i hj hi hf h0 h1
    have hR := hS.1 j hj
    refine br_f (nI_nlt (by omega) (by omega)) ?_
    by_cases hr : nI j = rI
    · refine br_t hr (h1 ?_)
      rcases q4 with z | ⟨r, hrc, z, _, d⟩
      · rw [z] at hr; exact absurd hr (ia_ne (by omega))
      · have : j = r := ia_inj (by omega) (by omega) (hr.trans z)
        rw [this]; exact d
    · refine br_f hr ⟨ia_in (by omega), fun x ex => ?_⟩
      rw [ia_cl (by omega)] at ex
      rcases hS.2.2.2.2 j hj with z | ⟨p, hp, z, r1, _⟩
      · rw [z] at ex
        subst ex
        exact br_t rfl (h0 (q5 j hj z (fun y => hr y.symm)))
      · rw [z] at ex
        subst ex
        refine br_f (ia_ne (by omega)) (fun y ey => ?_)
        rw [nI_1] at ey
        subst ey
        have q := q6 j p hj hp z
        exact ih p (i + 1) hp (by omega) (by omega) (fun d => h0 (q.mpr d)) (fun d => h1 (fun d' => d (q.mp d')))
theorem yp_attached {post : Int32 → Prop} {cq : Nat} {DX : Nat → Int32} {x : Int32} (hq : cq ≤ 32) (hc : c ≤ cq) (hS : ia_Sh c K P A B U a b R)
    (q4 : rI = -1 ∨ ∃ r, r < c ∧ rI = nI r ∧ U r = -1 ∧ DX r ≠ -1) (q5 : ∀ m, m < c → U m = -1 → rI ≠ nI m → DX m = -1)
    (q6 : ∀ m p, m < c → p < c → U m = nI p → (DX m = -1 ↔ DX p = -1))
    (h0 : (¬ ∃ j, j < c ∧ x = nI j ∧ DX j ≠ -1) → post 0) (h1 : ∀ j, j < c → x = nI j → DX j ≠ -1 → post 1) :
    wpY_attached post (nI cq, nI c, rI, K, P, A, B, U, D, V, Z, S, G, E) x := by
  unfold wpY_attached
  refine yp_valid (by omega) (fun h => ?_) (fun j hj e => ?_)
  · exact br_t rfl (h0 (fun ⟨j, hj, e, _⟩ => h ⟨j, hj, e⟩))
  · subst e
    refine br_f (by decide) ⟨c + 1, ?_⟩
    refine yp_climb hq hc hS q4 q5 q6 (c + 1) j 0 hj (by omega) (by omega) (fun d => h0 ?_) (fun d => h1 j hj rfl d)
    rintro ⟨j', hj', e', d'⟩
    rw [ia_inj (by omega) (by omega) e'] at d
    exact d' d
theorem yp_425 {post : SY → Prop} (hn : n < 32) (ha : a n < 32) (hb : b n < 32)
    (h : post (cp, cn, rI, K, P, A, B, U, D, V, upd Z n (Z (a n) + Z (b n)), upd S n (1 + S (a n) + S (b n)), G, E)) :
    wY_update_425 post (nI n) (nI (a n)) (nI (b n)) cp cn rI K P A B U D V Z S G E := by
  have hi := ia_in hn
  have e := ia_cl hn
  have ia := ia_in ha
  have ib := ia_in hb
  have ea := ia_cl ha
  have eb := ia_cl hb
  refine ⟨ia, ⟨ib, ⟨hi, fun Z1 e1 => ⟨ia, ⟨ib, ⟨hi, fun S1 e2 => ?_⟩⟩⟩⟩⟩⟩
  rw [e, ea, eb] at e1 e2
  subst e1 e2
  exact h
theorem yp_197 {post : SY → Prop} (hS : ia_Sh c K P A B U a b R) (hc : c ≤ 32) (hn : n < c)
    (h : ∀ V' Z' S', (∀ j, j ≠ n → V' j = V j ∧ Z' j = Z j ∧ S' j = S j) → ia_ValF K P a b V Z S E G V' Z' S' n → post (cp, cn, rI, K, P, A, B, U, D, V', Z', S', G, E)) :
    wY_update_197 post (nI n) cp cn rI K P A B U D V Z S G E := by
  have hi := ia_in (n := n) (by omega)
  have e := ia_cl (n := n) (by omega)
  refine ⟨hi, fun k ek => ?_⟩
  rw [e] at ek
  subst ek
  by_cases k1 : K n = 1
  · refine br_t k1 ⟨hi, ⟨hi, fun V1 e1 => ⟨hi, fun Z1 e2 => ⟨hi, fun S1 e3 => ?_⟩⟩⟩⟩
    rw [e] at e1 e2 e3
    subst e1 e2 e3
    refine h _ _ _ (fun j hj => ⟨ia_un hj, ia_un hj, ia_un hj⟩) ⟨fun _ => ⟨ia_us, ia_us, ia_us⟩, fun k2 => ?_, fun k1' => absurd k1 k1'⟩
    rw [k1] at k2; exact absurd k2 (by decide)
  · refine br_f k1 ?_
    by_cases k2 : K n = 2
    · obtain ⟨x, hx, hP⟩ := hS.2.2.1 n hn (Or.inl k2)
      have i8 := ia_in8 (n := n) (by omega) hx
      have c8 := ia_cl8 (n := n) (by omega) hx
      have hxu : ∀ x', x' < 8 → P n = nI x' → x' = x := fun x' hx' hp => ia_inj (by omega) (by omega) (hp.symm.trans hP)
      refine br_t k2 ⟨hi, fun y ey => ?_⟩
      rw [e, hP] at ey
      subst ey
      refine ⟨i8, ?_⟩
      by_cases g : G (n * 8 + x) = 0
      · refine br_t (by rw [c8]; exact g) ⟨hi, fun V1 e1 => ⟨hi, fun Z1 e2 => ⟨hi, fun S1 e3 => ?_⟩⟩⟩
        rw [e] at e1 e2 e3
        subst e1 e2 e3
        refine h _ _ _ (fun j hj => ⟨ia_un hj, ia_un hj, ia_un hj⟩) ⟨fun z => absurd z k1, fun _ x' hx' hp => ?_, fun _ k2' => absurd k2 k2'⟩
        rw [hxu x' hx' hp]
        exact ⟨ia_us, fun _ => ⟨ia_us, ia_us⟩, fun z => absurd g z⟩
      · refine br_f (by rw [c8]; exact g) ⟨i8, ⟨hi, fun V1 e1 => ⟨hi, fun Z1 e2 => ⟨hi, fun S1 e3 => ?_⟩⟩⟩⟩
        rw [e] at e1 e2 e3
        rw [c8] at e1
        subst e1 e2 e3
        refine h _ _ _ (fun j hj => ⟨ia_un hj, ia_un hj, ia_un hj⟩) ⟨fun z => absurd z k1, fun _ x' hx' hp => ?_, fun _ k2' => absurd k2 k2'⟩
        rw [hxu x' hx' hp]
        exact ⟨ia_us, fun z => absurd z g, fun _ => ⟨ia_us, ia_us⟩⟩
    · obtain ⟨hA, hBn, ha, hb, _, _, _⟩ := hS.2.2.2.1 n hn k1 k2
      have ia := ia_in (n := a n) (by omega)
      have ib := ia_in (n := b n) (by omega)
      have ea := ia_cl (n := a n) (by omega)
      have eb := ia_cl (n := b n) (by omega)
      refine br_f k2 ⟨hi, fun x ex => ⟨hi, fun y ey => ?_⟩⟩
      rw [e, hA] at ex
      rw [e, hBn] at ey
      subst ex ey
      have fin : ∀ v, v = ia_comb (K n) (V (a n)) (V (b n)) → wY_update_425 post (nI n) (nI (a n)) (nI (b n)) cp cn rI K P A B U D (upd V n v) Z S G E := by
        intro v hv
        refine yp_425 (by omega) (by omega) (by omega) (h _ _ _ (fun j hj => ⟨ia_un hj, ia_un hj, ia_un hj⟩) ⟨fun z => absurd z k1, fun z => absurd z k2, fun _ _ => ⟨?_, ia_us, ia_us⟩⟩)
        rw [ia_us]; exact hv
      by_cases k3 : K n = 3
      · refine br_t k3 ⟨ia, ⟨ib, ⟨hi, fun V1 e1 => ?_⟩⟩⟩
        rw [e, ea, eb] at e1
        subst e1
        exact fin _ (by rw [k3]; rfl)
      · refine br_f k3 ?_
        by_cases k4 : K n = 4
        · refine br_t k4 ⟨ia, ⟨ib, ⟨hi, fun V1 e1 => ?_⟩⟩⟩
          rw [e, ea, eb] at e1
          subst e1
          exact fin _ (by rw [k4]; rfl)
        · refine br_f k4 ?_
          by_cases k5 : K n = 5
          · refine br_t k5 ⟨ia, ⟨ib, ⟨hi, fun V1 e1 => ?_⟩⟩⟩
            rw [e, ea, eb] at e1
            subst e1
            exact fin _ (by rw [k5]; rfl)
          · refine br_f k5 ⟨ib, ⟨hi, fun V1 e1 => ?_⟩⟩
            rw [e, eb] at e1
            subst e1
            exact fin _ (by unfold ia_comb; rw [if_neg k3, if_neg k4, if_neg k5])
theorem yp_21 {post : SY → Prop} (hn : n < 32)
    (h : ∀ E' G', ia_Row n (fun _ => 0) E E' → ia_Row n (fun _ => 0) G G' → ia_Bo G' → wY_update_197 post (nI n) cp cn rI K P A B U D V Z S G' E') :
    ∀ (f i : Nat) (E1 G1 : Nat → Int32), i ≤ 8 → 8 - i < f → ia_RowI n i (fun _ => 0) E E1 → ia_RowI n i (fun _ => 0) G G1 → ia_Bo G1 →
      wY_update_21 post (nI n) cp cn rI f (nI i) K P A B U D V Z S G1 E1 := by
  intro f
  induction f with
  | zero => intro i E1 G1 _ hf; exact absurd hf (Nat.not_lt_zero _)
  | succ f ih =>
    intro i E1 G1 hi hf hE hG hB
    by_cases e : i = 8
    · subst e
      exact br_t (Int32.le_refl _) (h E1 G1 hE hG hB)
    · refine br_f (nI_ge (b := 8) (by omega) (by decide)) ⟨ia_in8 hn (by omega), fun G2 e3 => ⟨ia_in8 hn (by omega), fun E2 e2 x ex => ?_⟩⟩
      rw [ia_cl8 hn (by omega)] at e2 e3
      rw [nI_1] at ex
      rw [ia_nb (Or.inl rfl)] at e3
      subst e2 e3 ex
      exact ih (i + 1) _ _ (by omega) (by omega) (ia_RowI_s hE (by omega) rfl) (ia_RowI_s hG (by omega) rfl) (ia_Bo_u hB (Or.inl rfl))
theorem yp_76 {post : SY → Prop} {p : Nat} (hn : n < 32) (hp : p < 32) (hne : p ≠ n)
    (h : ∀ f E' G', ia_Row n (fun x => E (p * 8 + x)) E E' → ia_Row n (fun x => G (p * 8 + x)) G G' → ia_Bo G' → wY_update_76 post (nI n) (nI p) cp cn rI (f + 1) (nI 8) K P A B U D V Z S G' E') :
    ∀ (f i : Nat) (E1 G1 : Nat → Int32), i ≤ 8 → 8 - i < f → ia_RowI n i (fun x => E (p * 8 + x)) E E1 → ia_RowI n i (fun x => G (p * 8 + x)) G G1 → ia_Bo G1 →
      wY_update_76 post (nI n) (nI p) cp cn rI f (nI i) K P A B U D V Z S G1 E1 := by
  intro f
  induction f with
  | zero => intro i E1 G1 _ hf; exact absurd hf (Nat.not_lt_zero _)
  | succ f ih =>
    intro i E1 G1 hi hf hE hG hB
    by_cases e : i = 8
    · subst e
      exact h f E1 G1 hE hG hB
    · have i1 := ia_in8 hp (x := i) (by omega)
      have i2 := ia_in8 hn (x := i) (by omega)
      refine br_f (nI_ge (b := 8) (by omega) (by decide)) ⟨i1, ⟨i2, fun G2 e3 => ⟨i1, ⟨i2, fun E2 e2 x ex => ?_⟩⟩⟩⟩
      rw [ia_cl8 hn (by omega), ia_cl8 hp (by omega)] at e2 e3
      rw [nI_1] at ex
      rw [ia_nb (hB _)] at e3
      subst e2 e3 ex
      exact ih (i + 1) _ _ (by omega) (by omega) (ia_RowI_s hE (by omega) (hE.2 p i hne (by omega))) (ia_RowI_s hG (by omega) (hG.2 p i hne (by omega))) (ia_Bo_u hB (hB _))
/-- one update -/
theorem yp_update {post : SY → Prop} (hS : ia_Sh c K P A B U a b R) (hc : c ≤ 32) (hn : n < c) (hB : ia_Bo G)
    (h : ∀ D' V' Z' S' E' G', ia_UR c K P U a b n D V Z S E G D' V' Z' S' E' G' → ia_Bo G' → post (cp, cn, rI, K, P, A, B, U, D', V', Z', S', G', E')) :
    wpY_update post (cp, cn, rI, K, P, A, B, U, D, V, Z, S, G, E) (nI n) := by
  have hi := ia_in (n := n) (by omega)
  have e := ia_cl (n := n) (by omega)
  refine ⟨hi, fun y ey => ?_⟩
  rw [e] at ey
  rcases hS.2.2.2.2 n hn with hu | ⟨p, hp, hu, r1, k1, k2, hs⟩
  · rw [hu] at ey
    subst ey
    refine br_t rfl ⟨hi, fun D1 e1 => ⟨9, ?_⟩⟩
    rw [e] at e1
    subst e1
    refine yp_21 (by omega) (fun E' G' hE hG hB' => ?_) 9 0 E G (by omega) (by omega) ia_RowI_0 ia_RowI_0 hB
    refine yp_197 hS hc hn (fun V' Z' S' hV hF => ?_)
    refine h _ _ _ _ _ _ ⟨fun j hj => ⟨ia_un hj, hV j hj⟩, fun j x hj hx => ⟨hE.2 j x hj hx, hG.2 j x hj hx⟩, ⟨fun _ => ⟨ia_us, fun x hx => ⟨hE.1 x hx, hG.1 x hx⟩⟩, fun p hp hu' => ?_⟩, hF⟩ hB'
    rw [hu] at hu'
    exact absurd hu'.symm (ia_ne (by omega))
  · rw [hu] at ey
    subst ey
    have hne : p ≠ n := by intro z; rw [z] at r1; omega
    have ip := ia_in (n := p) (by omega)
    have ep := ia_cl (n := p) (by omega)
    obtain ⟨hA, hBn, ha, hb, hab, _, _⟩ := hS.2.2.2.1 p hp k1 k2
    refine br_f (ia_ne (by omega)) ⟨ip, ⟨hi, fun D1 e1 => ⟨9, ?_⟩⟩⟩
    rw [e, ep] at e1
    subst e1
    have notop : U n = -1 → False := fun z => by rw [hu] at z; exact ia_ne (by omega) z
    have pu : ∀ q, q < c → U n = nI q → q = p := fun q hq z => ia_uniq hc hp hq hu z
    refine yp_76 (by omega) (by omega) hne (fun f E' G' hE hG hB' => ?_) 9 0 E G (by omega) (by omega) ia_RowI_0 ia_RowI_0 hB
    have plain : ¬ (K p = 6 ∧ b p = n) → wY_update_197 post (nI n) cp cn rI K P A B U (upd D n (D p + 1)) V Z S G' E' := by
      intro hL
      refine yp_197 hS hc hn (fun V' Z' S' hV hF => ?_)
      refine h _ _ _ _ _ _ ⟨fun j hj => ⟨ia_un hj, hV j hj⟩, fun j x hj hx => ⟨hE.2 j x hj hx, hG.2 j x hj hx⟩, ⟨fun z => (notop z).elim, fun q hq z => ?_⟩, hF⟩ hB'
      rw [pu q hq z]
      exact ⟨ia_us, fun x hx => ⟨fun y => absurd ⟨y.1, y.2.1⟩ hL, fun _ => ⟨hE.1 x hx, hG.1 x hx⟩⟩⟩
    refine br_t (Int32.le_refl _) ⟨ip, ?_⟩
    rw [ep]
    by_cases k6 : K p = 6
    · refine br_t k6 ⟨ip, ?_⟩
      rw [hBn]
      by_cases hbn : b p = n
      · obtain ⟨x, hx, hP⟩ := hS.2.2.1 p hp (Or.inr k6)
        have i8 := ia_in8 (n := n) (by omega) hx
        have c8 := ia_cl8 (n := n) (by omega) hx
        have iA := ia_in (n := a p) (by omega)
        have eA := ia_cl (n := a p) (by omega)
        refine br_t (by rw [hbn]) ⟨ip, ?_⟩
        rw [hP]
        refine ⟨i8, fun G2 e3 => ⟨ip, ⟨ip, ?_⟩⟩⟩
        rw [hA]
        refine ⟨iA, ⟨i8, fun E2 e2 => ?_⟩⟩
        rw [c8] at e2 e3
        rw [eA] at e2
        rw [ia_nb (Or.inr rfl)] at e3
        subst e2 e3
        refine yp_197 hS hc hn (fun V' Z' S' hV hF => ?_)
        refine h _ _ _ _ _ _ ⟨fun j hj => ⟨ia_un hj, hV j hj⟩, fun j y hj hy => ?_, ⟨fun z => (notop z).elim, fun q hq z => ?_⟩, hF⟩ (ia_Bo_u hB' (Or.inr rfl))
        · rw [ia_un (by omega), ia_un (by omega)]; exact ⟨hE.2 j y hj hy, hG.2 j y hj hy⟩
        · rw [pu q hq z]
          refine ⟨ia_us, fun y hy => ⟨fun w => ?_, fun w => ?_⟩⟩
          · have : x = y := ia_inj (by omega) (by omega) (hP.symm.trans w.2.2)
            subst this
            exact ⟨ia_us, ia_us⟩
          · have : y ≠ x := fun v => w ⟨k6, hbn, by rw [v]; exact hP⟩
            rw [ia_un (by omega), ia_un (by omega)]; exact ⟨hE.1 y hy, hG.1 y hy⟩
      · exact br_f (fun z => hbn (ia_inj (by omega) (by omega) z)) (plain (fun z => hbn z.2))
    · exact br_f k6 (plain (fun z => k6 z.1))
section
variable {DX VX ZX SX' EX GX : Nat → Int32}
theorem yp_pass {post : SY → Prop} {J2 : Int32 → Int32 → Int32 → Int32 → (Nat → Int32) → (Nat → Int32) → (Nat → Int32) → (Nat → Int32) → (Nat → Int32) → (Nat → Int32) → (Nat → Int32) → (Nat → Int32) → (Nat → Int32) → (Nat → Int32) → (Nat → Int32) → Prop} {k : Nat}
    (hS : ia_Sh c K P A B U a b R) (hc : c ≤ 32) (F : ia_Done c K P A B U a b rt DX VX ZX SX' EX GX st ti to)
    (h : ∀ D' V' Z' S' E' G', ia_Ps c st ti to (k + 1) 0 DX VX ZX SX' EX GX D' V' Z' S' E' G' → ia_Bo G' → J2 (nI (k + 1)) cp (nI c) rI K P A B U D' V' Z' S' G' E') :
    ∀ (f i : Nat) (D V Z S E G : Nat → Int32), i ≤ c → c - i < f → ia_Bo G → ia_Ps c st ti to k i DX VX ZX SX' EX GX D V Z S E G →
      wY_recompute_11 post J2 (nI k) f (nI i) cp (nI c) rI K P A B U D V Z S G E := by
  intro f
  induction f with
  | zero => intro i D V Z S E G _ hf; exact absurd hf (Nat.not_lt_zero _)
  | succ f ih =>
    intro i D V Z S E G hi hf hB hP
    by_cases e : i = c
    · subst e
      refine br_t (Int32.le_refl _) (fun x ex => ?_)
      rw [nI_1] at ex
      subst ex
      exact h _ _ _ _ _ _ (ia_Ps_end hP) hB
    · refine br_f (nI_ge (by omega) (by omega)) ?_
      refine yp_update hS hc (by omega) hB (fun D' V' Z' S' E' G' hU hB' => ?_)
      intro x ex
      rw [nI_1] at ex
      subst ex
      exact ih (i + 1) _ _ _ _ _ _ (by omega) (by omega) hB' (ia_Ps_step hS hc F (by omega) hP hU)
theorem yp_passes {post : SY → Prop} (hS : ia_Sh c K P A B U a b R) (hc : c ≤ 32) (F : ia_Done c K P A B U a b rt DX VX ZX SX' EX GX st ti to)
    (h : ∀ D' V' Z' S' E' G', ia_Ps c st ti to 170 0 DX VX ZX SX' EX GX D' V' Z' S' E' G' → ia_Bo G' → post (cp, nI c, rI, K, P, A, B, U, D', V', Z', S', G', E')) :
    ∀ (f k : Nat) (D V Z S E G : Nat → Int32), k ≤ 170 → 170 - k < f → ia_Bo G → ia_Ps c st ti to k 0 DX VX ZX SX' EX GX D V Z S E G →
      wY_recompute_2 post f (nI k) cp (nI c) rI K P A B U D V Z S G E := by
  intro f
  induction f with
  | zero => intro k D V Z S E G _ hf; exact absurd hf (Nat.not_lt_zero _)
  | succ f ih =>
    intro k D V Z S E G hk hf hB hP
    by_cases e : k = 170
    · subst e
      exact br_t (Int32.le_refl _) (h _ _ _ _ _ _ hP hB)
    · refine br_f (nI_ge (b := 170) (by omega) (by decide)) ⟨c + 1, ?_⟩
      exact yp_pass hS hc F (fun D' V' Z' S' E' G' hP' hB' => ih (k + 1) D' V' Z' S' E' G' (by omega) (by omega) hB' hP') (c + 1) 0 D V Z S E G (by omega) (by omega) hB hP
theorem yp_recompute {post : SY → Prop} (hS : ia_Sh c K P A B U a b R) (hc : c ≤ 32) (F : ia_Done c K P A B U a b rt DX VX ZX SX' EX GX st ti to) (hB : ia_Bo G)
    (h : ∀ D' V' Z' S' E' G', ia_Ps c st ti to 170 0 DX VX ZX SX' EX GX D' V' Z' S' E' G' → ia_Bo G' → post (cp, nI c, rI, K, P, A, B, U, D', V', Z', S', G', E')) :
    wpY_recompute post (cp, nI c, rI, K, P, A, B, U, D, V, Z, S, G, E) :=
  ⟨171, yp_passes hS hc F h 171 0 D V Z S E G (by omega) (by omega) hB ia_Ps_0⟩
end
end
end
section
-- part 08: the relation, the constructors, creation
/-- one forest in both; X's depth says what is attached, and there the values agree -/
def i_Rel (_ : Nat) (u : SX) (v : SY) : Prop :=
  ∃ (cq c : Nat) (rI : Int32) (K P A B U : Nat → Int32) (a b R : Nat → Nat) (D V Z S E G D' V' Z' S' E' G' : Nat → Int32),
    u = (nI cq, nI c, rI, K, P, A, B, U, D, V, Z, S, E, G) ∧ v = (nI cq, nI c, rI, K, P, A, B, U, D', V', Z', S', G', E') ∧
    ia_Q cq c rI K P A B U a b R D V Z S E G D' V' Z' S' E' G'
theorem i_up {k : Nat} {u : SX} {v : SY} (h : i_Rel k u v) : i_Rel (k + 4) u v := h
section
variable {k cq c : Nat} {rI : Int32} {K P A B U : Nat → Int32} {a b R : Nat → Nat} {D V Z S E G D' V' Z' S' E' G' : Nat → Int32}
theorem ia_rel (Q : ia_Q cq c rI K P A B U a b R D V Z S E G D' V' Z' S' E' G') :
    i_Rel k (nI cq, nI c, rI, K, P, A, B, U, D, V, Z, S, E, G) (nI cq, nI c, rI, K, P, A, B, U, D', V', Z', S', G', E') :=
  ⟨cq, c, rI, K, P, A, B, U, a, b, R, D, V, Z, S, E, G, D', V', Z', S', E', G', rfl, rfl, Q⟩
theorem ia_rel0 {j : Nat} (h8 : 8 ≤ j) (h32 : j ≤ 32) :
    i_Rel 1 (nI j, 0, (-1), (fun _ => 0), (fun _ => 0), (fun _ => 0), (fun _ => 0), (fun _ => 0), (fun _ => 0), (fun _ => 0), (fun _ => 0), (fun _ => 0), (fun _ => 0), (fun _ => 0))
      (nI j, 0, (-1), (fun _ => 0), (fun _ => 0), (fun _ => 0), (fun _ => 0), (fun _ => 0), (fun _ => 0), (fun _ => 0), (fun _ => 0), (fun _ => 0), (fun _ => 0), (fun _ => 0)) := by
  rw [← nI_0]
  refine ia_rel (a := fun _ => 0) (b := fun _ => 0) (R := fun _ => 0) ⟨⟨h8, h32, by omega⟩, ⟨fun _ h => absurd h (Nat.not_lt_zero _), fun _ h => absurd h (Nat.not_lt_zero _), fun _ h => absurd h (Nat.not_lt_zero _), fun _ h => absurd h (Nat.not_lt_zero _), fun _ h => absurd h (Nat.not_lt_zero _)⟩, Or.inl rfl, fun _ h => absurd h (Nat.not_lt_zero _), fun _ _ h => absurd h (Nat.not_lt_zero _), fun _ h => absurd h (Nat.not_lt_zero _), fun _ => Or.inl nI_0, fun _ => Or.inl nI_0⟩
theorem i_vc0 (k0 : Int32) : wpX_init (fun u => wpY_init (fun v => i_Rel 1 u v) k0) k0 := by
  by_cases h8 : 8 ≤ k0
  · by_cases h32 : k0 ≤ 32
    · obtain ⟨j, hj, rfl⟩ := nI_of (x := k0) (Int32.not_lt.mpr (Int32.le_trans (by decide) h8))
      have g8 : nI 8 ≤ nI j := h8
      have g32 : nI j ≤ nI 32 := h32
      rw [nI_leI (by decide) hj] at g8
      rw [nI_leI hj (by decide)] at g32
      exact br_t h8 (br_t h32 (br_t h8 (br_t h32 (ia_rel0 g8 g32))))
    · exact br_t h8 (br_f h32 (br_t h8 (br_f h32 (ia_rel0 (j := 32) (by decide) (by decide)))))
  · exact br_f h8 (br_f h8 (br_t (by decide) (ia_rel0 (j := 8) (by decide) (by decide))))
theorem yp_att {post : Int32 → Prop} {x : Int32} (Q : ia_Q cq c rI K P A B U a b R D V Z S E G D' V' Z' S' E' G')
    (h0 : (¬ ∃ j, j < c ∧ x = nI j ∧ D j ≠ -1) → post 0) (h1 : ∀ j, j < c → x = nI j → D j ≠ -1 → post 1) :
    wpY_attached post (nI cq, nI c, rI, K, P, A, B, U, D', V', Z', S', G', E') x := by
  obtain ⟨⟨q1, q2, q3⟩, hS, q4, q5, q6, _⟩ := Q
  exact yp_attached q2 q3 hS q4 q5 q6 h0 h1
/-- the reference's joining, behind the check of the kind -/
theorem yp_join {post : Int32 → SY → Prop} {kd x y : Int32} (hc : c ≤ cq) (hq : cq ≤ 32)
    (h0 : (¬ ∃ i j, ia_Jn cq c U rI x y i j) → post (-1) (nI cq, nI c, rI, K, P, A, B, U, D', V', Z', S', G', E'))
    (h1 : ∀ i j, ia_Jn cq c U rI x y i j → post (nI c) (nI cq, nI (c + 1), rI, upd K c kd, upd P c 0, upd A c (nI i), upd B c (nI j), upd (upd (upd U c (-1)) i (nI c)) j (nI c), D', V', Z', S', G', E')) :
    wY_newOp_17 post kd x y (nI cq) (nI c) rI K P A B U D' V' Z' S' G' E' := by
  unfold wY_newOp_17
  refine yp_freeRoot (by omega) (fun h => br_t rfl (h0 (fun ⟨i, j, a, _⟩ => h ⟨i, a⟩))) (fun i hi => br_f (by decide) ?_)
  refine yp_freeRoot (by omega) (fun h => br_t rfl (h0 (fun ⟨i, j, _, a, _⟩ => h ⟨j, a⟩))) (fun j hj => br_f (by decide) ?_)
  have hi1 := hi.1
  have hj1 := hj.1
  by_cases e : x = y
  · refine br_t e (h0 ?_)
    rintro ⟨i', j', ⟨ha, ea, _⟩, ⟨hb, eb, _⟩, ne, _⟩
    exact ne (ia_inj (by omega) (by omega) (ea.symm.trans (e.trans eb)))
  · refine br_f e ?_
    by_cases e2 : nI c = nI cq
    · refine br_t e2 (h0 ?_)
      rintro ⟨i', j', _, _, _, ne⟩
      exact ne (ia_inj (by omega) (by omega) e2)
    · have hne : c ≠ cq := fun z => e2 (by rw [z])
      have hJ : ia_Jn cq c U rI x y i j := ⟨hi, hj, fun z => e (by rw [hi.2.1, hj.2.1, z]), hne⟩
      have g := h1 i j hJ
      have ex := hi.2.1
      have ey := hj.2.1
      subst ex ey
      refine br_f e2 (yp_make (by omega) ?_)
      refine ⟨ia_in (by omega), fun U1 e3 => ⟨ia_in (by omega), fun U2 e4 => ?_⟩⟩
      rw [ia_cl (by omega)] at e3 e4
      subst e3 e4
      exact g
theorem yp_newLet {post : Int32 → SY → Prop} {z : Nat} {x y : Int32} (hz : z < 8) (hc : c ≤ cq) (hq : cq ≤ 32)
    (h0 : (¬ ∃ i j, ia_Jn cq c U rI x y i j) → post (-1) (nI cq, nI c, rI, K, P, A, B, U, D', V', Z', S', G', E'))
    (h1 : ∀ i j, ia_Jn cq c U rI x y i j → post (nI c) (nI cq, nI (c + 1), rI, upd K c 6, upd P c (nI z), upd A c (nI i), upd B c (nI j), upd (upd (upd U c (-1)) i (nI c)) j (nI c), D', V', Z', S', G', E')) :
    wpY_newLet post (nI cq, nI c, rI, K, P, A, B, U, D', V', Z', S', G', E') (nI z) x y := by
  refine br_f (nI_pos (by omega)) (br_t (nI_lt (b := 8) hz (by decide)) ?_)
  refine yp_freeRoot (by omega) (fun h => br_t rfl (h0 (fun ⟨i, j, a, _⟩ => h ⟨i, a⟩))) (fun i hi => br_f (by decide) ?_)
  refine yp_freeRoot (by omega) (fun h => br_t rfl (h0 (fun ⟨i, j, _, a, _⟩ => h ⟨j, a⟩))) (fun j hj => br_f (by decide) ?_)
  have hi1 := hi.1
  have hj1 := hj.1
  by_cases e : x = y
  · refine br_t e (h0 ?_)
    rintro ⟨i', j', ⟨ha, ea, _⟩, ⟨hb, eb, _⟩, ne, _⟩
    exact ne (ia_inj (by omega) (by omega) (ea.symm.trans (e.trans eb)))
  · refine br_f e ?_
    by_cases e2 : nI c = nI cq
    · refine br_t e2 (h0 ?_)
      rintro ⟨i', j', _, _, _, ne⟩
      exact ne (ia_inj (by omega) (by omega) e2)
    · have hne : c ≠ cq := fun z => e2 (by rw [z])
      have hJ : ia_Jn cq c U rI x y i j := ⟨hi, hj, fun z => e (by rw [hi.2.1, hj.2.1, z]), hne⟩
      have g := h1 i j hJ
      have ex := hi.2.1
      have ey := hj.2.1
      subst ex ey
      refine br_f e2 (yp_make (by omega) ?_)
      refine ⟨ia_in (by omega), fun U1 e3 => ⟨ia_in (by omega), fun U2 e4 => ?_⟩⟩
      rw [ia_cl (by omega)] at e3 e4
      subst e3 e4
      exact g
theorem xp_newOp15 {post : Int32 → SX → Prop} {kd x y : Int32} (hc : c ≤ cq) (hq : cq ≤ 32)
    (h0 : (¬ ∃ i j, ia_Jn cq c U rI x y i j) → post (-1) (nI cq, nI c, rI, K, P, A, B, U, D, V, Z, S, E, G))
    (h1 : ∀ i j, ia_Jn cq c U rI x y i j → post (nI c) (nI cq, nI (c + 1), rI, upd K c kd, upd P c 0, upd A c (nI i), upd B c (nI j), upd (upd (upd U c (-1)) i (nI c)) j (nI c), upd D c (-1), V, Z, S, E, G)) :
    wX_newOp_15 post kd x y (nI cq) (nI c) rI K P A B U D V Z S E G := by
  unfold wX_newOp_15
  refine xp_canJoin hc hq (fun h => br_t rfl (h0 h)) (fun i j h => br_f (by decide) ?_)
  have g := h1 i j h
  obtain ⟨⟨hi, ex, _⟩, ⟨hj, ey, _⟩, _, hne⟩ := h
  subst ex ey
  exact xp_addParent (by omega) hi hj g
theorem yp_kd {post : Int32 → SY → Prop} {kd x y : Int32} (hk : kd = 3 ∨ kd = 4 ∨ kd = 5) (h : wY_newOp_17 post kd x y (nI cq) (nI c) rI K P A B U D' V' Z' S' G' E') :
    wpY_newOp post (nI cq, nI c, rI, K, P, A, B, U, D', V', Z', S', G', E') kd x y := by
  by_cases k3 : kd = 3
  · exact br_t k3 h
  · by_cases k4 : kd = 4
    · exact br_f k3 (br_t k4 h)
    · have k5 : kd = 5 := by
        rcases hk with z | z | z
        · exact absurd z k3
        · exact absurd z k4
        · exact z
      exact br_f k3 (br_f k4 (br_t k5 h))
theorem ia_newOp3 {kd x y : Int32} (Q : ia_Q cq c rI K P A B U a b R D V Z S E G D' V' Z' S' E' G') (hk : kd = 3 ∨ kd = 4 ∨ kd = 5) :
    wX_newOp_15 (fun r u' => wpY_newOp (fun r' v' => r' = r ∧ i_Rel (k + 4) u' v') (nI cq, nI c, rI, K, P, A, B, U, D', V', Z', S', G', E') kd x y) kd x y (nI cq) (nI c) rI K P A B U D V Z S E G := by
  have q := Q.1
  refine xp_newOp15 q.2.2 q.2.1 (fun h => ?_) (fun i j h => ?_)
  · exact yp_kd hk (yp_join q.2.2 q.2.1 (fun _ => ⟨rfl, ia_rel Q⟩) (fun i j h' => absurd ⟨i, j, h'⟩ h))
  · refine yp_kd hk (yp_join q.2.2 q.2.1 (fun h' => absurd ⟨i, j, h⟩ h') (fun i' j' h' => ⟨rfl, ?_⟩))
    have ei : i' = i := ia_inj (by have := h'.1.1; omega) (by have := h.1.1; omega) (h'.1.2.1.symm.trans h.1.2.1)
    have ej : j' = j := ia_inj (by have := h'.2.1.1; omega) (by have := h.2.1.1; omega) (h'.2.1.2.1.symm.trans h.2.1.2.1)
    subst ei ej
    obtain ⟨⟨hi, _, ui, ri⟩, ⟨hj, _, uj, rj⟩, hij, hne⟩ := h
    refine ia_rel (ia_Q_inn Q (by omega) ?_ hi hj hij ui uj ri rj)
    rcases hk with z | z | z
    · exact Or.inl z
    · exact Or.inr (Or.inl z)
    · exact Or.inr (Or.inr (Or.inl z))
/-- with no root nothing is attached -/
theorem ia_allfree (hc : c ≤ 32) (hS : ia_Sh c K P A B U a b R) (q5 : ∀ m, m < c → U m = -1 → rI ≠ nI m → D m = -1)
    (q6 : ∀ m p, m < c → p < c → U m = nI p → (D m = -1 ↔ D p = -1)) (h : rI = -1) : ∀ f m, m < c → c - R m < f → D m = -1 := by
  intro f
  induction f with
  | zero => intro m _ hf; exact absurd hf (Nat.not_lt_zero _)
  | succ f ih =>
    intro m hm hf
    rcases hS.2.2.2.2 m hm with z | ⟨p, hp, z, r1, _⟩
    · exact q5 m hm z (fun y => by rw [h] at y; exact ia_ne (by omega) y.symm)
    · have := hS.1 p hp
      exact (q6 m p hm hp z).mpr (ih p hp (by omega))
end
theorem i_vc_newNum {k : Nat} {u : SX} {v : SY} (I : i_Rel k u v) (hk : k + 4 ≤ 2049) (v1 : Int32) : wpX_newNum (fun r u' => wpY_newNum (fun r' v' => r' = r ∧ i_Rel (k + 4) u' v') v v1) u v1 := by
  obtain ⟨cq, c, rI, K, P, A, B, U, a, b, R, D, V, Z, S, E, G, D', V', Z', S', E', G', rfl, rfl, Q⟩ := I
  have q := Q.1
  by_cases e : nI c = nI cq
  · exact br_t e (br_t e ⟨rfl, ia_rel Q⟩)
  · have hne : c ≠ cq := fun z => e (by rw [z])
    refine br_f e (xp_addNode (by omega) ?_)
    refine br_f e (yp_make (by omega) ?_)
    exact ⟨rfl, ia_rel (ia_Q_leaf Q (by omega) (Or.inl rfl))⟩
theorem i_vc_newVar {k : Nat} {u : SX} {v : SY} (I : i_Rel k u v) (hk : k + 4 ≤ 2049) (v1 : Int32) : wpX_newVar (fun r u' => wpY_newVar (fun r' v' => r' = r ∧ i_Rel (k + 4) u' v') v v1) u v1 := by
  obtain ⟨cq, c, rI, K, P, A, B, U, a, b, R, D, V, Z, S, E, G, D', V', Z', S', E', G', rfl, rfl, Q⟩ := I
  have q := Q.1
  unfold wpX_newVar
  refine xp_isName (fun h => br_t rfl ?_) (fun j hj ej => br_f (by decide) ?_)
  · rcases pk_ix v1 (n := 8) (by decide) with g | g | ⟨j, hj, e⟩
    · exact br_t g ⟨rfl, ia_rel Q⟩
    · have hn : ¬ v1 < 0 := Int32.not_lt.mpr (Int32.le_trans (by decide) g)
      exact br_f hn (br_f (Int32.not_lt.mpr g) ⟨rfl, ia_rel Q⟩)
    · exact absurd ⟨j, hj, e⟩ h
  · subst ej
    have h0 : ¬ nI j < 0 := nI_pos (by omega)
    have h8 : nI j < 8 := nI_lt (b := 8) hj (by decide)
    by_cases e : nI c = nI cq
    · exact br_t e (br_f h0 (br_t h8 (br_t e ⟨rfl, ia_rel Q⟩)))
    · have hne : c ≠ cq := fun z => e (by rw [z])
      refine br_f e (xp_addNode (by omega) ?_)
      refine br_f h0 (br_t h8 (br_f e (yp_make (by omega) ?_)))
      exact ⟨rfl, ia_rel (ia_Q_leaf Q (by omega) (Or.inr ⟨rfl, j, hj, rfl⟩))⟩
theorem i_vc_newOp {k : Nat} {u : SX} {v : SY} (I : i_Rel k u v) (hk : k + 4 ≤ 2049) (v1 : Int32) (v2 : Int32) (v3 : Int32) : wpX_newOp (fun r u' => wpY_newOp (fun r' v' => r' = r ∧ i_Rel (k + 4) u' v') v v1 v2 v3) u v1 v2 v3 := by
  obtain ⟨cq, c, rI, K, P, A, B, U, a, b, R, D, V, Z, S, E, G, D', V', Z', S', E', G', rfl, rfl, Q⟩ := I
  by_cases k3 : v1 = 3
  · exact br_t k3 (ia_newOp3 Q (Or.inl k3))
  · by_cases k4 : v1 = 4
    · exact br_f k3 (br_t k4 (ia_newOp3 Q (Or.inr (Or.inl k4))))
    · by_cases k5 : v1 = 5
      · exact br_f k3 (br_f k4 (br_t k5 (ia_newOp3 Q (Or.inr (Or.inr k5)))))
      · exact br_f k3 (br_f k4 (br_f k5 (br_f k3 (br_f k4 (br_f k5 ⟨rfl, ia_rel Q⟩)))))
theorem i_vc_newLet {k : Nat} {u : SX} {v : SY} (I : i_Rel k u v) (hk : k + 4 ≤ 2049) (v1 : Int32) (v2 : Int32) (v3 : Int32) : wpX_newLet (fun r u' => wpY_newLet (fun r' v' => r' = r ∧ i_Rel (k + 4) u' v') v v1 v2 v3) u v1 v2 v3 := by
  obtain ⟨cq, c, rI, K, P, A, B, U, a, b, R, D, V, Z, S, E, G, D', V', Z', S', E', G', rfl, rfl, Q⟩ := I
  have q := Q.1
  unfold wpX_newLet
  refine xp_isName (fun h => br_t rfl ?_) (fun z hz ez => br_f (by decide) ?_)
  · rcases pk_ix v1 (n := 8) (by decide) with g | g | ⟨j, hj, e⟩
    · exact br_t g ⟨rfl, ia_rel Q⟩
    · have hn : ¬ v1 < 0 := Int32.not_lt.mpr (Int32.le_trans (by decide) g)
      exact br_f hn (br_f (Int32.not_lt.mpr g) ⟨rfl, ia_rel Q⟩)
    · exact absurd ⟨j, hj, e⟩ h
  · subst ez
    refine xp_canJoin q.2.2 q.2.1 (fun h => br_t rfl ?_) (fun i j h => br_f (by decide) ?_)
    · exact yp_newLet hz q.2.2 q.2.1 (fun _ => ⟨rfl, ia_rel Q⟩) (fun i j h' => absurd ⟨i, j, h'⟩ h)
    · have hJ := h
      obtain ⟨⟨hi, ei, ui, ri⟩, ⟨hj, ej, uj, rj⟩, hij, hne⟩ := h
      subst ei ej
      refine xp_addParent (by omega) hi hj ?_
      refine yp_newLet hz q.2.2 q.2.1 (fun h' => absurd ⟨i, j, hJ⟩ h') (fun i' j' h' => ⟨rfl, ?_⟩)
      have ei : i' = i := ia_inj (by have := h'.1.1; omega) (by omega) (h'.1.2.1.symm)
      have ej : j' = j := ia_inj (by have := h'.2.1.1; omega) (by omega) (h'.2.1.2.1.symm)
      subst ei ej
      exact ia_rel (ia_Q_inn Q (by omega) (Or.inr (Or.inr (Or.inr ⟨rfl, z, hz, rfl⟩))) hi hj hij ui uj ri rj)
end
section
-- part 09: setRoot and replace
theorem i_vc_setRoot {k : Nat} {u : SX} {v : SY} (I : i_Rel k u v) (hk : k + 4 ≤ 2049) (v1 : Int32) : wpX_setRoot (fun r u' => wpY_setRoot (fun r' v' => r' = r ∧ i_Rel (k + 4) u' v') v v1) u v1 := by
  obtain ⟨cq, c, rI, K, P, A, B, U, a, b, R, D, V, Z, S, E, G, D', V', Z', S', E', G', rfl, rfl, Q⟩ := I
  have q := Q.1
  unfold wpX_setRoot
  refine xp_isFreeRoot (by omega) (fun h => br_t rfl ?_) (fun j hj => br_f (by decide) ?_)
  · unfold wpY_setRoot
    exact yp_freeRoot (by omega) (fun _ => br_t rfl ⟨rfl, ia_rel Q⟩) (fun j hj => absurd ⟨j, hj⟩ h)
  · have hF := hj
    obtain ⟨hjc, rfl, hu, hr⟩ := hj
    obtain ⟨_, hS, _, _, _, _, q8, q9⟩ := Q
    refine xp_evaluate hS (by omega) hu hjc q8 (fun D1 V1 Z1 S1 E1 G1 st ti to F hB1 => ?_)
    unfold wpY_setRoot
    refine yp_freeRoot (by omega) (fun h => absurd ⟨j, hF⟩ h) (fun _ _ => br_f (by decide) ?_)
    refine yp_recompute hS (by omega) F q9 (fun D2 V2 Z2 S2 E2 G2 hP hB2 => ?_)
    exact ⟨rfl, ia_rel (ia_Q_done q hS hjc hu F hP hB1 hB2)⟩
section
variable {k cq c : Nat} {rI : Int32} {K P A B U : Nat → Int32} {a b R : Nat → Nat} {D V Z S E G D' V' Z' S' E' G' : Nat → Int32}
/-- the part of replace behind the checks, at an inner place -/
theorem ia_repl {o w : Nat} (Q : ia_Q cq c rI K P A B U a b R D V Z S E G D' V' Z' S' E' G') (ho : o < c) (hd : D o ≠ -1) (hF : ia_Fr c U rI (nI w) w) (hr : ¬ nI o = rI) :
    wpX_swapInSlot (fun u => match u with
      | (f_cap, f_count, f_root, a_kindOf, a_payloadOf, a_slot0Of, a_slot1Of, a_parentOf, a_depthOf, a_valOf, a_errsOf, a_sizeOf, a_envValue, a_envBound) =>
        wX_replace_40 (fun r u' => wpY_replace (fun r' v' => r' = r ∧ i_Rel (k + 4) u' v') (nI cq, nI c, rI, K, P, A, B, U, D', V', Z', S', G', E') (nI o) (nI w)) f_cap f_count f_root a_kindOf a_payloadOf a_slot0Of a_slot1Of a_parentOf a_depthOf a_valOf a_errsOf a_sizeOf a_envValue a_envBound)
      (nI cq, nI c, rI, K, P, A, B, U, D, V, Z, S, E, G) (nI o) (nI w) := by
  have q := Q.1
  have Q' := Q
  obtain ⟨_, hS, q4, q5, q6, q7, q8, q9⟩ := Q
  obtain ⟨hw, _, uw, rw'⟩ := hF
  -- the root
  obtain ⟨rt, hrt, rfl, hur, hdr⟩ : ∃ r, r < c ∧ rI = nI r ∧ U r = -1 ∧ D r ≠ -1 := by
    rcases q4 with z | z
    · exact absurd (ia_allfree (by omega) hS q5 q6 z (c + 1) o ho (by omega)) hd
    · exact z
  have hor : o ≠ rt := fun z => hr (by rw [z])
  have hwr : rt ≠ w := fun z => rw' (by rw [z])
  -- the parent of o
  obtain ⟨p, hp, hup⟩ : ∃ p, p < c ∧ U o = nI p := by
    rcases hS.2.2.2.2 o ho with z | ⟨p, hp, z, _⟩
    · exact absurd (q5 o ho z (fun y => hr y.symm)) hd
    · exact ⟨p, hp, z⟩
  have hdw : D w = -1 := q5 w hw uw rw'
  obtain ⟨r1, k1, k2, hs⟩ := ia_par hS (by omega) ho hp hup
  obtain ⟨hA, hBp, hac, hbc, hab, hUa, hUb⟩ := hS.2.2.2.1 p hp k1 k2
  have io := ia_in (n := o) (by omega)
  have eo := ia_cl (n := o) (by omega)
  have iw := ia_in (n := w) (by omega)
  have ew := ia_cl (n := w) (by omega)
  have ip := ia_in (n := p) (by omega)
  have ep := ia_cl (n := p) (by omega)
  have hur' : upd (upd U w (nI p)) o (-1) rt = -1 := by rw [ia_un (fun z => hor z.symm), ia_un hwr]; exact hur
  have hFr : ia_Fr c U (nI rt) (nI w) w := ⟨hw, rfl, uw, rw'⟩
  refine ⟨io, fun y ey => ?_⟩
  rw [eo, hup] at ey
  subst ey
  refine ⟨ip, ?_⟩
  rw [ep, hA]
  by_cases hsl : a p = o
  · have hA1 : nI (a p) = nI o := by rw [hsl]
    have hS' := ia_Sh_repl (A' := upd A p (nI w)) (B' := B) (a' := ia_up a p w) (b' := b) (by omega) hS q6 ho hw hp hup uw hd hdw (fun q hq => ⟨ia_un hq, rfl, ia_upn hq, rfl⟩) (Or.inl ⟨hsl, ia_us, ia_ups, rfl, rfl⟩)
    refine br_t hA1 ⟨ip, fun A1 e1 => ⟨iw, fun U1 e2 => ⟨io, fun U2 e3 => ?_⟩⟩⟩
    rw [ew] at e2
    rw [eo] at e3
    subst e1 e2 e3
    refine xp_evaluate hS' (by omega) hur' hrt q8 (fun D1 V1 Z1 S1 E1 G1 st ti to F hB1 => ?_)
    unfold wpY_replace
    refine yp_att Q' (fun h => absurd ⟨o, ho, rfl, hd⟩ h) (fun _ _ _ _ => br_f (by decide) ?_)
    refine yp_freeRoot (by omega) (fun h => absurd ⟨w, hFr⟩ h) (fun _ _ => br_f (by decide) ?_)
    refine br_f hr ⟨io, fun y ey => ?_⟩
    rw [eo, hup] at ey
    subst ey
    refine ⟨ip, ?_⟩
    rw [ep, hA]
    refine br_t hA1 ⟨ip, fun A1 e1 => ⟨iw, fun U1 e2 => ⟨io, fun U2 e3 => ?_⟩⟩⟩
    rw [ew] at e2
    rw [eo] at e3
    subst e1 e2 e3
    refine yp_recompute hS' (by omega) F q9 (fun D2 V2 Z2 S2 E2 G2 hP hB2 => ?_)
    exact ⟨rfl, ia_rel (ia_Q_done q hS' hrt hur' F hP hB1 hB2)⟩
  · have hbp : b p = o := by
      rcases hs with z | z
      · exact absurd z hsl
      · exact z
    have hA1 : ¬ nI (a p) = nI o := fun z => hsl (ia_inj (by omega) (by omega) z)
    have hS' := ia_Sh_repl (A' := A) (B' := upd B p (nI w)) (a' := a) (b' := ia_up b p w) (by omega) hS q6 ho hw hp hup uw hd hdw (fun q hq => ⟨rfl, ia_un hq, rfl, ia_upn hq⟩) (Or.inr ⟨hbp, ia_us, ia_ups, rfl, rfl⟩)
    refine br_f hA1 ⟨ip, fun B1 e1 => ⟨iw, fun U1 e2 => ⟨io, fun U2 e3 => ?_⟩⟩⟩
    rw [ew] at e2
    rw [eo] at e3
    subst e1 e2 e3
    refine xp_evaluate hS' (by omega) hur' hrt q8 (fun D1 V1 Z1 S1 E1 G1 st ti to F hB1 => ?_)
    unfold wpY_replace
    refine yp_att Q' (fun h => absurd ⟨o, ho, rfl, hd⟩ h) (fun _ _ _ _ => br_f (by decide) ?_)
    refine yp_freeRoot (by omega) (fun h => absurd ⟨w, hFr⟩ h) (fun _ _ => br_f (by decide) ?_)
    refine br_f hr ⟨io, fun y ey => ?_⟩
    rw [eo, hup] at ey
    subst ey
    refine ⟨ip, ?_⟩
    rw [ep, hA]
    refine br_f hA1 ⟨ip, fun B1 e1 => ⟨iw, fun U1 e2 => ⟨io, fun U2 e3 => ?_⟩⟩⟩
    rw [ew] at e2
    rw [eo] at e3
    subst e1 e2 e3
    refine yp_recompute hS' (by omega) F q9 (fun D2 V2 Z2 S2 E2 G2 hP hB2 => ?_)
    exact ⟨rfl, ia_rel (ia_Q_done q hS' hrt hur' F hP hB1 hB2)⟩
end
theorem i_vc_replace {k : Nat} {u : SX} {v : SY} (I : i_Rel k u v) (hk : k + 4 ≤ 2049) (v1 : Int32) (v2 : Int32) : wpX_replace (fun r u' => wpY_replace (fun r' v' => r' = r ∧ i_Rel (k + 4) u' v') v v1 v2) u v1 v2 := by
  obtain ⟨cq, c, rI, K, P, A, B, U, a, b, R, D, V, Z, S, E, G, D', V', Z', S', E', G', rfl, rfl, Q⟩ := I
  have q := Q.1
  unfold wpX_replace
  refine xp_isAttached (by omega) (fun h => br_t rfl ?_) (fun o ho eo hd => br_f (by decide) ?_)
  · unfold wpY_replace
    exact yp_att Q (fun _ => br_t rfl ⟨rfl, ia_rel Q⟩) (fun j hj e hd => absurd ⟨j, hj, e, hd⟩ h)
  · subst eo
    refine xp_isFreeRoot (by omega) (fun h => br_t rfl ?_) (fun w hF => br_f (by decide) ?_)
    · unfold wpY_replace
      refine yp_att Q (fun h' => absurd ⟨o, ho, rfl, hd⟩ h') (fun _ _ _ _ => br_f (by decide) ?_)
      exact yp_freeRoot (by omega) (fun _ => br_t rfl ⟨rfl, ia_rel Q⟩) (fun j hj => absurd ⟨j, hj⟩ h)
    · obtain ⟨hw, rfl, uw, rw'⟩ := hF
      have hF : ia_Fr c U rI (nI w) w := ⟨hw, rfl, uw, rw'⟩
      by_cases hr : nI o = rI
      · refine br_t hr ?_
        have Q' := Q
        obtain ⟨_, hS, _, _, _, _, q8, q9⟩ := Q
        refine xp_evaluate hS (by omega) uw hw q8 (fun D1 V1 Z1 S1 E1 G1 st ti to F hB1 => ?_)
        unfold wpY_replace
        refine yp_att Q' (fun h' => absurd ⟨o, ho, rfl, hd⟩ h') (fun _ _ _ _ => br_f (by decide) ?_)
        refine yp_freeRoot (by omega) (fun h => absurd ⟨w, hF⟩ h) (fun _ _ => br_f (by decide) ?_)
        refine br_t hr ?_
        unfold wpY_setRoot
        refine yp_freeRoot (by omega) (fun h => absurd ⟨w, hF⟩ h) (fun _ _ => br_f (by decide) ?_)
        refine yp_recompute hS (by omega) F q9 (fun D2 V2 Z2 S2 E2 G2 hP hB2 => ?_)
        exact ⟨rfl, rfl, ia_rel (ia_Q_done q hS hw uw F hP hB1 hB2)⟩
      · exact br_f hr (ia_repl Q ho hd hF hr)
end
section
-- part 10: the readers
theorem i_vc_getRoot {k : Nat} {u : SX} {v : SY} (I : i_Rel k u v) (hk : k + 4 ≤ 2049) : wpX_getRoot (fun r => wpY_getRoot (fun r' => r' = r ∧ i_Rel (k + 4) u v) v) u := by
  obtain ⟨cq, c, rI, K, P, A, B, U, a, b, R, D, V, Z, S, E, G, D', V', Z', S', E', G', rfl, rfl, Q⟩ := I
  exact ⟨rfl, ia_rel Q⟩
theorem i_vc_nodeCount {k : Nat} {u : SX} {v : SY} (I : i_Rel k u v) (hk : k + 4 ≤ 2049) : wpX_nodeCount (fun r => wpY_nodeCount (fun r' => r' = r ∧ i_Rel (k + 4) u v) v) u := by
  obtain ⟨cq, c, rI, K, P, A, B, U, a, b, R, D, V, Z, S, E, G, D', V', Z', S', E', G', rfl, rfl, Q⟩ := I
  exact ⟨rfl, ia_rel Q⟩
theorem i_vc_getKind {k : Nat} {u : SX} {v : SY} (I : i_Rel k u v) (hk : k + 4 ≤ 2049) (v1 : Int32) : wpX_getKind (fun r => wpY_getKind (fun r' => r' = r ∧ i_Rel (k + 4) u v) v v1) u v1 := by
  obtain ⟨cq, c, rI, K, P, A, B, U, a, b, R, D, V, Z, S, E, G, D', V', Z', S', E', G', rfl, rfl, Q⟩ := I
  have q := Q.1
  unfold wpX_getKind
  refine xp_isValid (by omega) (fun h => br_t rfl ?_) (fun j hj e => br_f (by decide) ?_)
  · unfold wpY_getKind
    exact yp_valid (by omega) (fun _ => br_t rfl ⟨rfl, ia_rel Q⟩) (fun j hj e => absurd ⟨j, hj, e⟩ h)
  · have hi : vp_in v1 32 := by rw [e]; exact ia_in (by omega)
    refine ⟨hi, ?_⟩
    unfold wpY_getKind
    exact yp_valid (by omega) (fun h => absurd ⟨j, hj, e⟩ h) (fun _ _ _ => br_f (by decide) ⟨hi, ⟨rfl, ia_rel Q⟩⟩)
theorem i_vc_getParent {k : Nat} {u : SX} {v : SY} (I : i_Rel k u v) (hk : k + 4 ≤ 2049) (v1 : Int32) : wpX_getParent (fun r => wpY_getParent (fun r' => r' = r ∧ i_Rel (k + 4) u v) v v1) u v1 := by
  obtain ⟨cq, c, rI, K, P, A, B, U, a, b, R, D, V, Z, S, E, G, D', V', Z', S', E', G', rfl, rfl, Q⟩ := I
  have q := Q.1
  unfold wpX_getParent
  refine xp_isValid (by omega) (fun h => br_t rfl ?_) (fun j hj e => br_f (by decide) ?_)
  · unfold wpY_getParent
    exact yp_valid (by omega) (fun _ => br_t rfl ⟨rfl, ia_rel Q⟩) (fun j hj e => absurd ⟨j, hj, e⟩ h)
  · have hi : vp_in v1 32 := by rw [e]; exact ia_in (by omega)
    refine ⟨hi, ?_⟩
    unfold wpY_getParent
    exact yp_valid (by omega) (fun h => absurd ⟨j, hj, e⟩ h) (fun _ _ _ => br_f (by decide) ⟨hi, ⟨rfl, ia_rel Q⟩⟩)
theorem i_vc_getVal {k : Nat} {u : SX} {v : SY} (I : i_Rel k u v) (hk : k + 4 ≤ 2049) (v1 : Int32) : wpX_getVal (fun r => wpY_getVal (fun r' => r' = r ∧ i_Rel (k + 4) u v) v v1) u v1 := by
  obtain ⟨cq, c, rI, K, P, A, B, U, a, b, R, D, V, Z, S, E, G, D', V', Z', S', E', G', rfl, rfl, Q⟩ := I
  have q := Q.1
  unfold wpX_getVal
  refine xp_isAttached (by omega) (fun h => br_t rfl ?_) (fun j hj e hd => br_f (by decide) ?_)
  · unfold wpY_getVal
    exact yp_att Q (fun _ => br_t rfl ⟨rfl, ia_rel Q⟩) (fun j hj e hd => absurd ⟨j, hj, e, hd⟩ h)
  · subst e
    have hi := ia_in (n := j) (by omega)
    refine ⟨hi, ?_⟩
    unfold wpY_getVal
    refine yp_att Q (fun h => absurd ⟨j, hj, rfl, hd⟩ h) (fun _ _ _ _ => br_f (by decide) ⟨hi, ⟨?_, ia_rel Q⟩⟩)
    rw [ia_cl (by omega)]
    exact (Q.2.2.2.2.2.1 j hj hd).1.2.1
theorem i_vc_getErrs {k : Nat} {u : SX} {v : SY} (I : i_Rel k u v) (hk : k + 4 ≤ 2049) (v1 : Int32) : wpX_getErrs (fun r => wpY_getErrs (fun r' => r' = r ∧ i_Rel (k + 4) u v) v v1) u v1 := by
  obtain ⟨cq, c, rI, K, P, A, B, U, a, b, R, D, V, Z, S, E, G, D', V', Z', S', E', G', rfl, rfl, Q⟩ := I
  have q := Q.1
  unfold wpX_getErrs
  refine xp_isAttached (by omega) (fun h => br_t rfl ?_) (fun j hj e hd => br_f (by decide) ?_)
  · unfold wpY_getErrs
    exact yp_att Q (fun _ => br_t rfl ⟨rfl, ia_rel Q⟩) (fun j hj e hd => absurd ⟨j, hj, e, hd⟩ h)
  · subst e
    have hi := ia_in (n := j) (by omega)
    refine ⟨hi, ?_⟩
    unfold wpY_getErrs
    refine yp_att Q (fun h => absurd ⟨j, hj, rfl, hd⟩ h) (fun _ _ _ _ => br_f (by decide) ⟨hi, ⟨?_, ia_rel Q⟩⟩)
    rw [ia_cl (by omega)]
    exact (Q.2.2.2.2.2.1 j hj hd).1.2.2.1
theorem i_vc_getSize {k : Nat} {u : SX} {v : SY} (I : i_Rel k u v) (hk : k + 4 ≤ 2049) (v1 : Int32) : wpX_getSize (fun r => wpY_getSize (fun r' => r' = r ∧ i_Rel (k + 4) u v) v v1) u v1 := by
  obtain ⟨cq, c, rI, K, P, A, B, U, a, b, R, D, V, Z, S, E, G, D', V', Z', S', E', G', rfl, rfl, Q⟩ := I
  have q := Q.1
  unfold wpX_getSize
  refine xp_isAttached (by omega) (fun h => br_t rfl ?_) (fun j hj e hd => br_f (by decide) ?_)
  · unfold wpY_getSize
    exact yp_att Q (fun _ => br_t rfl ⟨rfl, ia_rel Q⟩) (fun j hj e hd => absurd ⟨j, hj, e, hd⟩ h)
  · subst e
    have hi := ia_in (n := j) (by omega)
    refine ⟨hi, ?_⟩
    unfold wpY_getSize
    refine yp_att Q (fun h => absurd ⟨j, hj, rfl, hd⟩ h) (fun _ _ _ _ => br_f (by decide) ⟨hi, ⟨?_, ia_rel Q⟩⟩)
    rw [ia_cl (by omega)]
    exact (Q.2.2.2.2.2.1 j hj hd).1.2.2.2
theorem i_vc_getDepth {k : Nat} {u : SX} {v : SY} (I : i_Rel k u v) (hk : k + 4 ≤ 2049) (v1 : Int32) : wpX_getDepth (fun r => wpY_getDepth (fun r' => r' = r ∧ i_Rel (k + 4) u v) v v1) u v1 := by
  obtain ⟨cq, c, rI, K, P, A, B, U, a, b, R, D, V, Z, S, E, G, D', V', Z', S', E', G', rfl, rfl, Q⟩ := I
  have q := Q.1
  unfold wpX_getDepth
  refine xp_isAttached (by omega) (fun h => br_t rfl ?_) (fun j hj e hd => br_f (by decide) ?_)
  · unfold wpY_getDepth
    exact yp_att Q (fun _ => br_t rfl ⟨rfl, ia_rel Q⟩) (fun j hj e hd => absurd ⟨j, hj, e, hd⟩ h)
  · subst e
    have hi := ia_in (n := j) (by omega)
    refine ⟨hi, ?_⟩
    unfold wpY_getDepth
    refine yp_att Q (fun h => absurd ⟨j, hj, rfl, hd⟩ h) (fun _ _ _ _ => br_f (by decide) ⟨hi, ⟨?_, ia_rel Q⟩⟩)
    rw [ia_cl (by omega)]
    exact (Q.2.2.2.2.2.1 j hj hd).1.1
theorem i_vc_getEnv {k : Nat} {u : SX} {v : SY} (I : i_Rel k u v) (hk : k + 4 ≤ 2049) (v1 : Int32) (v2 : Int32) : wpX_getEnv (fun r => wpY_getEnv (fun r' => r' = r ∧ i_Rel (k + 4) u v) v v1 v2) u v1 v2 := by
  obtain ⟨cq, c, rI, K, P, A, B, U, a, b, R, D, V, Z, S, E, G, D', V', Z', S', E', G', rfl, rfl, Q⟩ := I
  have q := Q.1
  unfold wpX_getEnv
  refine xp_isAttached (by omega) (fun h => br_t rfl ?_) (fun j hj e hd => br_f (by decide) ?_)
  · unfold wpY_getEnv
    exact yp_att Q (fun _ => br_t rfl ⟨rfl, ia_rel Q⟩) (fun j hj e hd => absurd ⟨j, hj, e, hd⟩ h)
  · subst e
    refine xp_isName (fun h => br_t rfl ?_) (fun x hx ex => br_f (by decide) ?_)
    · unfold wpY_getEnv
      refine yp_att Q (fun h' => absurd ⟨j, hj, rfl, hd⟩ h') (fun _ _ _ _ => br_f (by decide) ?_)
      rcases pk_ix v2 (n := 8) (by decide) with g | g | ⟨x, hx, e⟩
      · exact br_t g ⟨rfl, ia_rel Q⟩
      · have hn : ¬ v2 < 0 := Int32.not_lt.mpr (Int32.le_trans (by decide) g)
        exact br_f hn (br_f (Int32.not_lt.mpr g) ⟨rfl, ia_rel Q⟩)
      · exact absurd ⟨x, hx, e⟩ h
    · subst ex
      have i8 := ia_in8 (n := j) (by omega) hx
      have c8 := ia_cl8 (n := j) (by omega) hx
      have h0 : ¬ nI x < 0 := nI_pos (by omega)
      have h8 : nI x < 8 := nI_lt (b := 8) hx (by decide)
      obtain ⟨g1, g2⟩ := (Q.2.2.2.2.2.1 j hj hd).2 x hx
      refine ⟨i8, ?_⟩
      rw [c8]
      unfold wpY_getEnv
      refine yp_att Q (fun h' => absurd ⟨j, hj, rfl, hd⟩ h') (fun _ _ _ _ => br_f (by decide) (br_f h0 (br_t h8 ⟨i8, ⟨?_, ia_rel Q⟩⟩)))
      rw [c8]
      exact g1
theorem i_vc_isBound {k : Nat} {u : SX} {v : SY} (I : i_Rel k u v) (hk : k + 4 ≤ 2049) (v1 : Int32) (v2 : Int32) : wpX_isBound (fun r => wpY_isBound (fun r' => r' = r ∧ i_Rel (k + 4) u v) v v1 v2) u v1 v2 := by
  obtain ⟨cq, c, rI, K, P, A, B, U, a, b, R, D, V, Z, S, E, G, D', V', Z', S', E', G', rfl, rfl, Q⟩ := I
  have q := Q.1
  unfold wpX_isBound
  refine xp_isAttached (by omega) (fun h => br_t rfl ?_) (fun j hj e hd => br_f (by decide) ?_)
  · unfold wpY_isBound
    exact yp_att Q (fun _ => br_t rfl ⟨rfl, ia_rel Q⟩) (fun j hj e hd => absurd ⟨j, hj, e, hd⟩ h)
  · subst e
    refine xp_isName (fun h => br_t rfl ?_) (fun x hx ex => br_f (by decide) ?_)
    · unfold wpY_isBound
      refine yp_att Q (fun h' => absurd ⟨j, hj, rfl, hd⟩ h') (fun _ _ _ _ => br_f (by decide) ?_)
      rcases pk_ix v2 (n := 8) (by decide) with g | g | ⟨x, hx, e⟩
      · exact br_t g ⟨rfl, ia_rel Q⟩
      · have hn : ¬ v2 < 0 := Int32.not_lt.mpr (Int32.le_trans (by decide) g)
        exact br_f hn (br_f (Int32.not_lt.mpr g) ⟨rfl, ia_rel Q⟩)
      · exact absurd ⟨x, hx, e⟩ h
    · subst ex
      have i8 := ia_in8 (n := j) (by omega) hx
      have c8 := ia_cl8 (n := j) (by omega) hx
      have h0 : ¬ nI x < 0 := nI_pos (by omega)
      have h8 : nI x < 8 := nI_lt (b := 8) hx (by decide)
      obtain ⟨g1, g2⟩ := (Q.2.2.2.2.2.1 j hj hd).2 x hx
      refine ⟨i8, ?_⟩
      rw [c8]
      have bo := Q.2.2.2.2.2.2.2
      unfold wpY_isBound
      by_cases z : G (j * 8 + x) = 0
      · refine br_t z ?_
        refine yp_att Q (fun h' => absurd ⟨j, hj, rfl, hd⟩ h') (fun _ _ _ _ => br_f (by decide) (br_f h0 (br_t h8 ⟨i8, ?_⟩)))
        rw [c8]
        exact ⟨ia_nbn (bo _), by rw [g2]; exact z, ia_rel Q⟩
      · refine br_f z ?_
        refine yp_att Q (fun h' => absurd ⟨j, hj, rfl, hd⟩ h') (fun _ _ _ _ => br_f (by decide) (br_f h0 (br_t h8 ⟨i8, ?_⟩)))
        rw [c8]
        refine ⟨ia_nbn (bo _), ?_, ia_rel Q⟩
        rw [g2]
        rcases Q.2.2.2.2.2.2.1 (j * 8 + x) with y | y
        · exact absurd y z
        · exact y
end
