-- part 05: small rows, and X's short methods, each with a general post
theorem ia_ix8 (n x : Nat) : nI n * 8 + nI x = nI (n * 8 + x) := by
  rw [show (8 : Int32) = nI 8 from rfl, pk_mul, nI_add]
theorem ia_cl8 {n x : Nat} (hn : n < 32) (hx : x < 8) : (nI n * 8 + nI x).toNatClampNeg = n * 8 + x := by
  rw [ia_ix8]; exact nI_clamp (by omega)
theorem ia_in8 {n x : Nat} (hn : n < 32) (hx : x < 8) : vp_in (nI n * 8 + nI x) 256 := by
  rw [ia_ix8]; exact vp_in_nI (by omega) (by decide)
theorem ia_cl {n : Nat} (hn : n < 32) : (nI n).toNatClampNeg = n := nI_clamp (by omega)
theorem ia_in {n : Nat} (hn : n < 32) : vp_in (nI n) 32 := vp_in_nI hn (by decide)
theorem ia_nb {z : Int32} (h : z = 0 ∨ z = 1) : vp_nar .boolean z = z := by rcases h with rfl | rfl <;> rfl
theorem ia_nbn {z : Int32} (h : z = 0 ∨ z = 1) : narrow .boolean (.int z) = .int z := by rcases h with rfl | rfl <;> rfl
def ia_Bo (G : Nat → Int32) : Prop := ∀ j, G j = 0 ∨ G j = 1
theorem ia_Bo_u {G : Nat → Int32} (h : ia_Bo G) {k : Nat} {z : Int32} (hz : z = 0 ∨ z = 1) : ia_Bo (upd G k z) := by
  intro j
  by_cases e : j = k
  · subst e; rw [ia_us]; exact hz
  · rw [ia_un e]; exact h j
/-- E' is E but for node m's row, which is f -/
def ia_Row (m : Nat) (f : Nat → Int32) (E E' : Nat → Int32) : Prop :=
  (∀ x, x < 8 → E' (m * 8 + x) = f x) ∧ (∀ j x, j ≠ m → x < 8 → E' (j * 8 + x) = E (j * 8 + x))
/-- the row is written below i -/
def ia_RowI (m i : Nat) (f : Nat → Int32) (E E' : Nat → Int32) : Prop :=
  (∀ x, x < i → E' (m * 8 + x) = f x) ∧ (∀ j x, j ≠ m → x < 8 → E' (j * 8 + x) = E (j * 8 + x))
theorem ia_RowI_0 {m : Nat} {f : Nat → Int32} {E : Nat → Int32} : ia_RowI m 0 f E E :=
  ⟨fun _ h => absurd h (Nat.not_lt_zero _), fun _ _ _ _ => rfl⟩
theorem ia_RowI_s {m i : Nat} {f : Nat → Int32} {E E' : Nat → Int32} (h : ia_RowI m i f E E') (hi : i < 8) {v : Int32} (hv : v = f i) : ia_RowI m (i + 1) f E (upd E' (m * 8 + i) v) := by
  refine ⟨fun x hx => ?_, fun j x hj hx => ?_⟩
  · by_cases e : x = i
    · subst e; rw [ia_us]; exact hv
    · rw [ia_un (by omega)]; exact h.1 x (by omega)
  · rw [ia_un (by omega)]; exact h.2 j x hj hx
section
variable {cp cn rI : Int32} {K P A B U D V Z S E G : Nat → Int32} {c n m : Nat}
theorem xp_addNode {post : Int32 → SX → Prop} {k x y z : Int32} (hc : c < 32)
    (h : post (nI c) (cp, nI (c + 1), rI, upd K c k, upd P c x, upd A c y, upd B c z, upd U c (-1), upd D c (-1), V, Z, S, E, G)) :
    wpX_addNode post (cp, nI c, rI, K, P, A, B, U, D, V, Z, S, E, G) k x y z := by
  have hi := ia_in hc
  have e := ia_cl hc
  refine ⟨hi, fun K' eK => ⟨hi, fun P' eP => ⟨hi, fun A' eA => ⟨hi, fun B' eB => ⟨hi, fun U' eU => ⟨hi, fun D' eD => fun c' ec => ?_⟩⟩⟩⟩⟩⟩
  rw [e] at eK eP eA eB eU eD
  rw [nI_1] at ec
  subst eK eP eA eB eU eD ec
  exact h
theorem xp_isName {post : Int32 → Prop} {x : Int32} (h0 : (¬ ∃ j, j < 8 ∧ x = nI j) → post 0) (h1 : ∀ j, j < 8 → x = nI j → post 1) :
    wpX_isName post (cp, cn, rI, K, P, A, B, U, D, V, Z, S, E, G) x := by
  rcases pk_ix x (n := 8) (by decide) with h | h | ⟨j, hj, rfl⟩
  · refine br_t h (h0 ?_)
    rintro ⟨j, hj, rfl⟩
    exact nI_pos (by omega) h
  · have hn : ¬ x < 0 := Int32.not_lt.mpr (Int32.le_trans (by decide) h)
    refine br_f hn (br_t h (h0 ?_))
    rintro ⟨j, hj, rfl⟩
    exact nI_ge hj (by decide) h
  · exact br_f (nI_pos (by omega)) (br_f (nI_ge hj (by decide)) (h1 j hj rfl))
theorem xp_isValid {post : Int32 → Prop} {x : Int32} (hc : c ≤ 32) (h0 : (¬ ∃ j, j < c ∧ x = nI j) → post 0) (h1 : ∀ j, j < c → x = nI j → post 1) :
    wpX_isValid post (cp, nI c, rI, K, P, A, B, U, D, V, Z, S, E, G) x := by
  rcases pk_ix x (n := c) (by omega) with h | h | ⟨j, hj, rfl⟩
  · refine br_t h (h0 ?_)
    rintro ⟨j, hj, rfl⟩
    exact nI_pos (by omega) h
  · by_cases hn : x < 0
    · refine br_t hn (h0 ?_)
      rintro ⟨j, hj, rfl⟩
      exact nI_pos (by omega) hn
    · refine br_f hn (br_t h (h0 ?_))
      rintro ⟨j, hj, rfl⟩
      exact nI_ge hj (by omega) h
  · exact br_f (nI_pos (by omega)) (br_f (nI_ge hj (by omega)) (h1 j hj rfl))
/-- x names a free root -/
def ia_Fr (c : Nat) (U : Nat → Int32) (rI x : Int32) (j : Nat) : Prop := j < c ∧ x = nI j ∧ U j = -1 ∧ rI ≠ nI j
theorem xp_isFreeRoot {post : Int32 → Prop} {x : Int32} (hc : c ≤ 32) (h0 : (¬ ∃ j, ia_Fr c U rI x j) → post 0) (h1 : ∀ j, ia_Fr c U rI x j → post 1) :
    wpX_isFreeRoot post (cp, nI c, rI, K, P, A, B, U, D, V, Z, S, E, G) x := by
  unfold wpX_isFreeRoot
  refine xp_isValid hc (fun h => ?_) (fun j hj e => ?_)
  · exact br_t rfl (h0 (fun ⟨j, hj, e, _⟩ => h ⟨j, hj, e⟩))
  · subst e
    refine br_f (by decide) ⟨ia_in (by omega), ?_⟩
    rw [ia_cl (n := j) (by omega)]
    by_cases hu : U j = -1
    · refine br_t hu ?_
      by_cases hr : nI j = rI
      · refine br_t hr (h0 ?_)
        rintro ⟨j', _, e', _, hr'⟩
        exact hr' (hr.symm.trans e')
      · exact br_f hr (h1 j ⟨hj, rfl, hu, fun z => hr z.symm⟩)
    · refine br_f hu (h0 ?_)
      rintro ⟨j', hj', e', hu', _⟩
      rw [ia_inj (by omega) (by omega) e'] at hu
      exact hu hu'
theorem xp_isAttached {post : Int32 → Prop} {x : Int32} (hc : c ≤ 32) (h0 : (¬ ∃ j, j < c ∧ x = nI j ∧ D j ≠ -1) → post 0) (h1 : ∀ j, j < c → x = nI j → D j ≠ -1 → post 1) :
    wpX_isAttached post (cp, nI c, rI, K, P, A, B, U, D, V, Z, S, E, G) x := by
  unfold wpX_isAttached
  refine xp_isValid hc (fun h => ?_) (fun j hj e => ?_)
  · exact br_t rfl (h0 (fun ⟨j, hj, e, _⟩ => h ⟨j, hj, e⟩))
  · subst e
    refine br_f (by decide) ⟨ia_in (by omega), ?_⟩
    rw [ia_cl (n := j) (by omega)]
    by_cases hu : D j = -1
    · refine br_t hu (h0 ?_)
      rintro ⟨j', hj', e', hu'⟩
      rw [ia_inj (by omega) (by omega) e'] at hu
      exact hu' hu
    · exact br_f hu (h1 j hj rfl hu)
/-- x and y can be joined below a new node -/
def ia_Jn (cp c : Nat) (U : Nat → Int32) (rI x y : Int32) (i j : Nat) : Prop := ia_Fr c U rI x i ∧ ia_Fr c U rI y j ∧ i ≠ j ∧ c ≠ cp
theorem xp_canJoin {post : Int32 → Prop} {cq : Nat} {x y : Int32} (hc : c ≤ cq) (hq : cq ≤ 32) (h0 : (¬ ∃ i j, ia_Jn cq c U rI x y i j) → post 0) (h1 : ∀ i j, ia_Jn cq c U rI x y i j → post 1) :
    wpX_canJoin post (nI cq, nI c, rI, K, P, A, B, U, D, V, Z, S, E, G) x y := by
  unfold wpX_canJoin
  refine xp_isFreeRoot (by omega) (fun h => br_t rfl (h0 (fun ⟨i, j, a, _⟩ => h ⟨i, a⟩))) (fun i hi => br_f (by decide) ?_)
  refine xp_isFreeRoot (by omega) (fun h => br_t rfl (h0 (fun ⟨i, j, _, a, _⟩ => h ⟨j, a⟩))) (fun j hj => br_f (by decide) ?_)
  have hi1 := hi.1
  have hj1 := hj.1
  by_cases e : x = y
  · refine br_t e (h0 ?_)
    rintro ⟨i', j', ⟨ha, ea, _⟩, ⟨hb, eb, _⟩, ne, _⟩
    exact ne (ia_inj (by omega) (by omega) (ea.symm.trans (e.trans eb)))
  · refine br_f e ?_
    by_cases e2 : nI c = nI cq
    · refine br_t e2 (h0 ?_)
      rintro ⟨i', j', _, _, _, ne⟩
      exact ne (ia_inj (by omega) (by omega) e2)
    · refine br_f e2 (h1 i j ⟨hi, hj, fun z => e ?_, fun z => e2 (by rw [z])⟩)
      rw [hi.2.1, hj.2.1, z]
theorem xp_addParent {post : Int32 → SX → Prop} {k x : Int32} {i j : Nat} (hc : c < 32) (hi : i < c) (hj : j < c)
    (h : post (nI c) (cp, nI (c + 1), rI, upd K c k, upd P c x, upd A c (nI i), upd B c (nI j), upd (upd (upd U c (-1)) i (nI c)) j (nI c), upd D c (-1), V, Z, S, E, G)) :
    wpX_addParent post (cp, nI c, rI, K, P, A, B, U, D, V, Z, S, E, G) k x (nI i) (nI j) := by
  unfold wpX_addParent
  refine xp_addNode hc ?_
  refine ⟨ia_in (by omega), fun U1 e1 => ⟨ia_in (by omega), fun U2 e2 => ?_⟩⟩
  rw [ia_cl (by omega)] at e1 e2
  subst e1 e2
  exact h
theorem xp_isLeaf {post : Int32 → Prop} (hn : n < 32) (h1 : (K n = 1 ∨ K n = 2) → post 1) (h0 : K n ≠ 1 → K n ≠ 2 → post 0) :
    wpX_isLeaf post (cp, cn, rI, K, P, A, B, U, D, V, Z, S, E, G) (nI n) := by
  refine ⟨ia_in hn, ?_⟩
  rw [ia_cl hn]
  by_cases k1 : K n = 1
  · exact br_t k1 (h1 (Or.inl k1))
  · refine br_f k1 ⟨ia_in hn, ?_⟩
    by_cases k2 : K n = 2
    · exact br_t k2 (h1 (Or.inr k2))
    · exact br_f k2 (h0 k1 k2)
theorem xp_detach {post : SX → Prop} (hc : c ≤ 32) (h : ∀ D', (∀ q, q < c → D' q = -1) → post (cp, nI c, rI, K, P, A, B, U, D', V, Z, S, E, G)) :
    ∀ (f i : Nat) (D1 : Nat → Int32), i ≤ c → c - i < f → (∀ q, q < i → D1 q = -1) → wX_detachAll_2 post cp (nI c) rI f (nI i) K P A B U D1 V Z S E G := by
  intro f
  induction f with
  | zero => intro i D1 _ hf; exact absurd hf (Nat.not_lt_zero _)
  | succ f ih =>
    intro i D1 hi hf hD
    by_cases e : i = c
    · subst e
      exact br_t (Int32.le_refl _) (h D1 hD)
    · refine br_f (nI_ge (by omega) (by omega)) ⟨ia_in (by omega), fun D2 e2 x ex => ?_⟩
      rw [ia_cl (by omega)] at e2
      rw [nI_1] at ex
      subst e2 ex
      refine ih (i + 1) _ (by omega) (by omega) (fun q hq => ?_)
      by_cases z : q = i
      · subst z; exact ia_us
      · rw [ia_un z]; exact hD q (by omega)
theorem xp_detachAll {post : SX → Prop} (hc : c ≤ 32) (h : ∀ D', (∀ q, q < c → D' q = -1) → post (cp, nI c, rI, K, P, A, B, U, D', V, Z, S, E, G)) :
    wpX_detachAll post (cp, nI c, rI, K, P, A, B, U, D, V, Z, S, E, G) :=
  ⟨c + 1, xp_detach hc h (c + 1) 0 D (by omega) (by omega) (fun q hq => absurd hq (Nat.not_lt_zero _))⟩
theorem xp_start {post : SX → Prop} {rt : Nat} (hr : rt < 32)
    (h : ∀ E' G', ia_Row rt (fun _ => 0) E E' → ia_Row rt (fun _ => 0) G G' → ia_Bo G' → post (cp, cn, nI rt, K, P, A, B, U, D, V, Z, S, E', G')) :
    ∀ (f i : Nat) (E1 G1 : Nat → Int32), i ≤ 8 → 8 - i < f → ia_RowI rt i (fun _ => 0) E E1 → ia_RowI rt i (fun _ => 0) G G1 → ia_Bo G1 →
      wX_startRoot_12 post cp cn (nI rt) f (nI i) K P A B U D V Z S E1 G1 := by
  intro f
  induction f with
  | zero => intro i E1 G1 _ hf; exact absurd hf (Nat.not_lt_zero _)
  | succ f ih =>
    intro i E1 G1 hi hf hE hG hB
    by_cases e : i = 8
    · subst e
      exact br_t (Int32.le_refl _) (h E1 G1 hE hG hB)
    · refine br_f (nI_ge (b := 8) (by omega) (by decide)) ⟨ia_in8 hr (by omega), fun E2 e2 => ⟨ia_in8 hr (by omega), fun G2 e3 x ex => ?_⟩⟩
      rw [ia_cl8 hr (by omega)] at e2 e3
      rw [nI_1] at ex
      rw [ia_nb (Or.inl rfl)] at e3
      subst e2 e3 ex
      exact ih (i + 1) _ _ (by omega) (by omega) (ia_RowI_s hE (by omega) rfl) (ia_RowI_s hG (by omega) rfl) (ia_Bo_u hB (Or.inl rfl))
theorem xp_startRoot {post : SX → Prop} {rt : Nat} (hr : rt < 32) (hB : ia_Bo G)
    (h : ∀ E' G', ia_Row rt (fun _ => 0) E E' → ia_Row rt (fun _ => 0) G G' → ia_Bo G' → post (cp, cn, nI rt, K, P, A, B, U, upd D rt 0, V, Z, S, E', G')) :
    wpX_startRoot post (cp, cn, nI rt, K, P, A, B, U, D, V, Z, S, E, G) := by
  refine ⟨ia_in hr, fun D1 e => ⟨9, ?_⟩⟩
  rw [ia_cl hr] at e
  subst e
  exact xp_start hr h 9 0 E G (by omega) (by omega) ia_RowI_0 ia_RowI_0 hB
theorem xp_inh {post : SX → Prop} (hn : n < 32) (hm : m < 32) (hne : n ≠ m)
    (h : ∀ E' G', ia_Row m (fun x => E (n * 8 + x)) E E' → ia_Row m (fun x => G (n * 8 + x)) G G' → ia_Bo G' → post (cp, cn, rI, K, P, A, B, U, D, V, Z, S, E', G')) :
    ∀ (f i : Nat) (E1 G1 : Nat → Int32), i ≤ 8 → 8 - i < f → ia_RowI m i (fun x => E (n * 8 + x)) E E1 → ia_RowI m i (fun x => G (n * 8 + x)) G G1 → ia_Bo G1 →
      wX_inherit_16 post (nI n) (nI m) cp cn rI f (nI i) K P A B U D V Z S E1 G1 := by
  intro f
  induction f with
  | zero => intro i E1 G1 _ hf; exact absurd hf (Nat.not_lt_zero _)
  | succ f ih =>
    intro i E1 G1 hi hf hE hG hB
    by_cases e : i = 8
    · subst e
      exact br_t (Int32.le_refl _) (h E1 G1 hE hG hB)
    · have i1 := ia_in8 hn (x := i) (by omega)
      have i2 := ia_in8 hm (x := i) (by omega)
      refine br_f (nI_ge (b := 8) (by omega) (by decide)) ⟨i1, ⟨i2, fun E2 e2 => ⟨i1, ⟨i2, fun G2 e3 x ex => ?_⟩⟩⟩⟩
      rw [ia_cl8 hn (by omega), ia_cl8 hm (by omega)] at e2 e3
      rw [nI_1] at ex
      rw [ia_nb (hB _)] at e3
      subst e2 e3 ex
      exact ih (i + 1) _ _ (by omega) (by omega) (ia_RowI_s hE (by omega) (hE.2 n i hne (by omega))) (ia_RowI_s hG (by omega) (hG.2 n i hne (by omega))) (ia_Bo_u hB (hB _))
theorem xp_inherit {post : SX → Prop} (hn : n < 32) (hm : m < 32) (hne : n ≠ m) (hB : ia_Bo G)
    (h : ∀ E' G', ia_Row m (fun x => E (n * 8 + x)) E E' → ia_Row m (fun x => G (n * 8 + x)) G G' → ia_Bo G' → post (cp, cn, rI, K, P, A, B, U, upd D m (D n + 1), V, Z, S, E', G')) :
    wpX_inherit post (cp, cn, rI, K, P, A, B, U, D, V, Z, S, E, G) (nI n) (nI m) := by
  refine ⟨ia_in hn, ⟨ia_in hm, fun D1 e => ⟨9, ?_⟩⟩⟩
  rw [ia_cl hn, ia_cl hm] at e
  subst e
  exact xp_inh hn hm hne h 9 0 E G (by omega) (by omega) ia_RowI_0 ia_RowI_0 hB
theorem xp_bind {post : SX → Prop} {i x : Nat} (hn : n < 32) (hA : A n = nI i) (hi : i < 32) (hBn : B n = nI m) (hm : m < 32) (hP : P n = nI x) (hx : x < 8)
    (h : post (cp, cn, rI, K, P, A, B, U, D, V, Z, S, upd E (m * 8 + x) (V i), upd G (m * 8 + x) 1)) :
    wpX_bindInBody post (cp, cn, rI, K, P, A, B, U, D, V, Z, S, E, G) (nI n) := by
  refine ⟨ia_in hn, ⟨ia_in hn, fun y ey => ?_⟩⟩
  rw [ia_cl hn, hBn, hP] at ey
  subst ey
  refine ⟨ia_in hn, ?_⟩
  rw [ia_cl hn, hA, ia_cl hi]
  refine ⟨ia_in hi, ⟨ia_in8 hm hx, fun E1 e1 => ⟨ia_in8 hm hx, fun G1 e2 => ?_⟩⟩⟩
  rw [ia_cl8 hm hx] at e1 e2
  rw [ia_nb (Or.inr rfl)] at e2
  subst e1 e2
  exact h
theorem xp_combine {post : Int32 → Prop} {k x y : Int32} (hk : k = 3 ∨ k = 4 ∨ k = 5 ∨ k = 6) (h : post (ia_comb k x y)) :
    wpX_combine post (cp, cn, rI, K, P, A, B, U, D, V, Z, S, E, G) k x y := by
  rcases hk with rfl | rfl | rfl | rfl
  · exact br_f (by decide) (br_f (by decide) (br_t rfl h))
  · exact br_f (by decide) (br_f (by decide) (br_f (by decide) (br_t rfl h)))
  · exact br_f (by decide) (br_f (by decide) (br_f (by decide) (br_f (by decide) (br_t rfl h))))
  · exact br_f (by decide) (br_t (by decide) h)
end
