-- part 08: the relation, the constructors, creation
/-- one forest in both; X's depth says what is attached, and there the values agree -/
def i_Rel (_ : Nat) (u : SX) (v : SY) : Prop :=
  ∃ (cq c : Nat) (rI : Int32) (K P A B U : Nat → Int32) (a b R : Nat → Nat) (D V Z S E G D' V' Z' S' E' G' : Nat → Int32),
    u = (nI cq, nI c, rI, K, P, A, B, U, D, V, Z, S, E, G) ∧ v = (nI cq, nI c, rI, K, P, A, B, U, D', V', Z', S', G', E') ∧
    ia_Q cq c rI K P A B U a b R D V Z S E G D' V' Z' S' E' G'
theorem i_up {k : Nat} {u : SX} {v : SY} (h : i_Rel k u v) : i_Rel (k + 4) u v := h
section
variable {k cq c : Nat} {rI : Int32} {K P A B U : Nat → Int32} {a b R : Nat → Nat} {D V Z S E G D' V' Z' S' E' G' : Nat → Int32}
theorem ia_rel (Q : ia_Q cq c rI K P A B U a b R D V Z S E G D' V' Z' S' E' G') :
    i_Rel k (nI cq, nI c, rI, K, P, A, B, U, D, V, Z, S, E, G) (nI cq, nI c, rI, K, P, A, B, U, D', V', Z', S', G', E') :=
  ⟨cq, c, rI, K, P, A, B, U, a, b, R, D, V, Z, S, E, G, D', V', Z', S', E', G', rfl, rfl, Q⟩
theorem ia_rel0 {j : Nat} (h8 : 8 ≤ j) (h32 : j ≤ 32) :
    i_Rel 1 (nI j, 0, (-1), (fun _ => 0), (fun _ => 0), (fun _ => 0), (fun _ => 0), (fun _ => 0), (fun _ => 0), (fun _ => 0), (fun _ => 0), (fun _ => 0), (fun _ => 0), (fun _ => 0))
      (nI j, 0, (-1), (fun _ => 0), (fun _ => 0), (fun _ => 0), (fun _ => 0), (fun _ => 0), (fun _ => 0), (fun _ => 0), (fun _ => 0), (fun _ => 0), (fun _ => 0), (fun _ => 0)) := by
  rw [← nI_0]
  refine ia_rel (a := fun _ => 0) (b := fun _ => 0) (R := fun _ => 0) ⟨⟨h8, h32, by omega⟩, ⟨fun _ h => absurd h (Nat.not_lt_zero _), fun _ h => absurd h (Nat.not_lt_zero _), fun _ h => absurd h (Nat.not_lt_zero _), fun _ h => absurd h (Nat.not_lt_zero _), fun _ h => absurd h (Nat.not_lt_zero _)⟩, Or.inl rfl, fun _ h => absurd h (Nat.not_lt_zero _), fun _ _ h => absurd h (Nat.not_lt_zero _), fun _ h => absurd h (Nat.not_lt_zero _), fun _ => Or.inl nI_0, fun _ => Or.inl nI_0⟩
theorem i_vc0 (k0 : Int32) : wpX_init (fun u => wpY_init (fun v => i_Rel 1 u v) k0) k0 := by
  by_cases h8 : 8 ≤ k0
  · by_cases h32 : k0 ≤ 32
    · obtain ⟨j, hj, rfl⟩ := nI_of (x := k0) (Int32.not_lt.mpr (Int32.le_trans (by decide) h8))
      have g8 : nI 8 ≤ nI j := h8
      have g32 : nI j ≤ nI 32 := h32
      rw [nI_leI (by decide) hj] at g8
      rw [nI_leI hj (by decide)] at g32
      exact br_t h8 (br_t h32 (br_t h8 (br_t h32 (ia_rel0 g8 g32))))
    · exact br_t h8 (br_f h32 (br_t h8 (br_f h32 (ia_rel0 (j := 32) (by decide) (by decide)))))
  · exact br_f h8 (br_f h8 (br_t (by decide) (ia_rel0 (j := 8) (by decide) (by decide))))
theorem yp_att {post : Int32 → Prop} {x : Int32} (Q : ia_Q cq c rI K P A B U a b R D V Z S E G D' V' Z' S' E' G')
    (h0 : (¬ ∃ j, j < c ∧ x = nI j ∧ D j ≠ -1) → post 0) (h1 : ∀ j, j < c → x = nI j → D j ≠ -1 → post 1) :
    wpY_attached post (nI cq, nI c, rI, K, P, A, B, U, D', V', Z', S', G', E') x := by
  obtain ⟨⟨q1, q2, q3⟩, hS, q4, q5, q6, _⟩ := Q
  exact yp_attached q2 q3 hS q4 q5 q6 h0 h1
/-- the reference's joining, behind the check of the kind -/
theorem yp_join {post : Int32 → SY → Prop} {kd x y : Int32} (hc : c ≤ cq) (hq : cq ≤ 32)
    (h0 : (¬ ∃ i j, ia_Jn cq c U rI x y i j) → post (-1) (nI cq, nI c, rI, K, P, A, B, U, D', V', Z', S', G', E'))
    (h1 : ∀ i j, ia_Jn cq c U rI x y i j → post (nI c) (nI cq, nI (c + 1), rI, upd K c kd, upd P c 0, upd A c (nI i), upd B c (nI j), upd (upd (upd U c (-1)) i (nI c)) j (nI c), D', V', Z', S', G', E')) :
    wY_newOp_17 post kd x y (nI cq) (nI c) rI K P A B U D' V' Z' S' G' E' := by
  unfold wY_newOp_17
  refine yp_freeRoot (by omega) (fun h => br_t rfl (h0 (fun ⟨i, j, a, _⟩ => h ⟨i, a⟩))) (fun i hi => br_f (by decide) ?_)
  refine yp_freeRoot (by omega) (fun h => br_t rfl (h0 (fun ⟨i, j, _, a, _⟩ => h ⟨j, a⟩))) (fun j hj => br_f (by decide) ?_)
  have hi1 := hi.1
  have hj1 := hj.1
  by_cases e : x = y
  · refine br_t e (h0 ?_)
    rintro ⟨i', j', ⟨ha, ea, _⟩, ⟨hb, eb, _⟩, ne, _⟩
    exact ne (ia_inj (by omega) (by omega) (ea.symm.trans (e.trans eb)))
  · refine br_f e ?_
    by_cases e2 : nI c = nI cq
    · refine br_t e2 (h0 ?_)
      rintro ⟨i', j', _, _, _, ne⟩
      exact ne (ia_inj (by omega) (by omega) e2)
    · have hne : c ≠ cq := fun z => e2 (by rw [z])
      have hJ : ia_Jn cq c U rI x y i j := ⟨hi, hj, fun z => e (by rw [hi.2.1, hj.2.1, z]), hne⟩
      have g := h1 i j hJ
      have ex := hi.2.1
      have ey := hj.2.1
      subst ex ey
      refine br_f e2 (yp_make (by omega) ?_)
      refine ⟨ia_in (by omega), fun U1 e3 => ⟨ia_in (by omega), fun U2 e4 => ?_⟩⟩
      rw [ia_cl (by omega)] at e3 e4
      subst e3 e4
      exact g
theorem yp_newLet {post : Int32 → SY → Prop} {z : Nat} {x y : Int32} (hz : z < 8) (hc : c ≤ cq) (hq : cq ≤ 32)
    (h0 : (¬ ∃ i j, ia_Jn cq c U rI x y i j) → post (-1) (nI cq, nI c, rI, K, P, A, B, U, D', V', Z', S', G', E'))
    (h1 : ∀ i j, ia_Jn cq c U rI x y i j → post (nI c) (nI cq, nI (c + 1), rI, upd K c 6, upd P c (nI z), upd A c (nI i), upd B c (nI j), upd (upd (upd U c (-1)) i (nI c)) j (nI c), D', V', Z', S', G', E')) :
    wpY_newLet post (nI cq, nI c, rI, K, P, A, B, U, D', V', Z', S', G', E') (nI z) x y := by
  refine br_f (nI_pos (by omega)) (br_t (nI_lt (b := 8) hz (by decide)) ?_)
  refine yp_freeRoot (by omega) (fun h => br_t rfl (h0 (fun ⟨i, j, a, _⟩ => h ⟨i, a⟩))) (fun i hi => br_f (by decide) ?_)
  refine yp_freeRoot (by omega) (fun h => br_t rfl (h0 (fun ⟨i, j, _, a, _⟩ => h ⟨j, a⟩))) (fun j hj => br_f (by decide) ?_)
  have hi1 := hi.1
  have hj1 := hj.1
  by_cases e : x = y
  · refine br_t e (h0 ?_)
    rintro ⟨i', j', ⟨ha, ea, _⟩, ⟨hb, eb, _⟩, ne, _⟩
    exact ne (ia_inj (by omega) (by omega) (ea.symm.trans (e.trans eb)))
  · refine br_f e ?_
    by_cases e2 : nI c = nI cq
    · refine br_t e2 (h0 ?_)
      rintro ⟨i', j', _, _, _, ne⟩
      exact ne (ia_inj (by omega) (by omega) e2)
    · have hne : c ≠ cq := fun z => e2 (by rw [z])
      have hJ : ia_Jn cq c U rI x y i j := ⟨hi, hj, fun z => e (by rw [hi.2.1, hj.2.1, z]), hne⟩
      have g := h1 i j hJ
      have ex := hi.2.1
      have ey := hj.2.1
      subst ex ey
      refine br_f e2 (yp_make (by omega) ?_)
      refine ⟨ia_in (by omega), fun U1 e3 => ⟨ia_in (by omega), fun U2 e4 => ?_⟩⟩
      rw [ia_cl (by omega)] at e3 e4
      subst e3 e4
      exact g
theorem xp_newOp15 {post : Int32 → SX → Prop} {kd x y : Int32} (hc : c ≤ cq) (hq : cq ≤ 32)
    (h0 : (¬ ∃ i j, ia_Jn cq c U rI x y i j) → post (-1) (nI cq, nI c, rI, K, P, A, B, U, D, V, Z, S, E, G))
    (h1 : ∀ i j, ia_Jn cq c U rI x y i j → post (nI c) (nI cq, nI (c + 1), rI, upd K c kd, upd P c 0, upd A c (nI i), upd B c (nI j), upd (upd (upd U c (-1)) i (nI c)) j (nI c), upd D c (-1), V, Z, S, E, G)) :
    wX_newOp_15 post kd x y (nI cq) (nI c) rI K P A B U D V Z S E G := by
  unfold wX_newOp_15
  refine xp_canJoin hc hq (fun h => br_t rfl (h0 h)) (fun i j h => br_f (by decide) ?_)
  have g := h1 i j h
  obtain ⟨⟨hi, ex, _⟩, ⟨hj, ey, _⟩, _, hne⟩ := h
  subst ex ey
  exact xp_addParent (by omega) hi hj g
theorem yp_kd {post : Int32 → SY → Prop} {kd x y : Int32} (hk : kd = 3 ∨ kd = 4 ∨ kd = 5) (h : wY_newOp_17 post kd x y (nI cq) (nI c) rI K P A B U D' V' Z' S' G' E') :
    wpY_newOp post (nI cq, nI c, rI, K, P, A, B, U, D', V', Z', S', G', E') kd x y := by
  by_cases k3 : kd = 3
  · exact br_t k3 h
  · by_cases k4 : kd = 4
    · exact br_f k3 (br_t k4 h)
    · have k5 : kd = 5 := by
        rcases hk with z | z | z
        · exact absurd z k3
        · exact absurd z k4
        · exact z
      exact br_f k3 (br_f k4 (br_t k5 h))
theorem ia_newOp3 {kd x y : Int32} (Q : ia_Q cq c rI K P A B U a b R D V Z S E G D' V' Z' S' E' G') (hk : kd = 3 ∨ kd = 4 ∨ kd = 5) :
    wX_newOp_15 (fun r u' => wpY_newOp (fun r' v' => r' = r ∧ i_Rel (k + 4) u' v') (nI cq, nI c, rI, K, P, A, B, U, D', V', Z', S', G', E') kd x y) kd x y (nI cq) (nI c) rI K P A B U D V Z S E G := by
  have q := Q.1
  refine xp_newOp15 q.2.2 q.2.1 (fun h => ?_) (fun i j h => ?_)
  · exact yp_kd hk (yp_join q.2.2 q.2.1 (fun _ => ⟨rfl, ia_rel Q⟩) (fun i j h' => absurd ⟨i, j, h'⟩ h))
  · refine yp_kd hk (yp_join q.2.2 q.2.1 (fun h' => absurd ⟨i, j, h⟩ h') (fun i' j' h' => ⟨rfl, ?_⟩))
    have ei : i' = i := ia_inj (by have := h'.1.1; omega) (by have := h.1.1; omega) (h'.1.2.1.symm.trans h.1.2.1)
    have ej : j' = j := ia_inj (by have := h'.2.1.1; omega) (by have := h.2.1.1; omega) (h'.2.1.2.1.symm.trans h.2.1.2.1)
    subst ei ej
    obtain ⟨⟨hi, _, ui, ri⟩, ⟨hj, _, uj, rj⟩, hij, hne⟩ := h
    refine ia_rel (ia_Q_inn Q (by omega) ?_ hi hj hij ui uj ri rj)
    rcases hk with z | z | z
    · exact Or.inl z
    · exact Or.inr (Or.inl z)
    · exact Or.inr (Or.inr (Or.inl z))
/-- with no root nothing is attached -/
theorem ia_allfree (hc : c ≤ 32) (hS : ia_Sh c K P A B U a b R) (q5 : ∀ m, m < c → U m = -1 → rI ≠ nI m → D m = -1)
    (q6 : ∀ m p, m < c → p < c → U m = nI p → (D m = -1 ↔ D p = -1)) (h : rI = -1) : ∀ f m, m < c → c - R m < f → D m = -1 := by
  intro f
  induction f with
  | zero => intro m _ hf; exact absurd hf (Nat.not_lt_zero _)
  | succ f ih =>
    intro m hm hf
    rcases hS.2.2.2.2 m hm with z | ⟨p, hp, z, r1, _⟩
    · exact q5 m hm z (fun y => by rw [h] at y; exact ia_ne (by omega) y.symm)
    · have := hS.1 p hp
      exact (q6 m p hm hp z).mpr (ih p hp (by omega))
end
theorem i_vc_newNum {k : Nat} {u : SX} {v : SY} (I : i_Rel k u v) (hk : k + 4 ≤ 2049) (v1 : Int32) : wpX_newNum (fun r u' => wpY_newNum (fun r' v' => r' = r ∧ i_Rel (k + 4) u' v') v v1) u v1 := by
  obtain ⟨cq, c, rI, K, P, A, B, U, a, b, R, D, V, Z, S, E, G, D', V', Z', S', E', G', rfl, rfl, Q⟩ := I
  have q := Q.1
  by_cases e : nI c = nI cq
  · exact br_t e (br_t e ⟨rfl, ia_rel Q⟩)
  · have hne : c ≠ cq := fun z => e (by rw [z])
    refine br_f e (xp_addNode (by omega) ?_)
    refine br_f e (yp_make (by omega) ?_)
    exact ⟨rfl, ia_rel (ia_Q_leaf Q (by omega) (Or.inl rfl))⟩
theorem i_vc_newVar {k : Nat} {u : SX} {v : SY} (I : i_Rel k u v) (hk : k + 4 ≤ 2049) (v1 : Int32) : wpX_newVar (fun r u' => wpY_newVar (fun r' v' => r' = r ∧ i_Rel (k + 4) u' v') v v1) u v1 := by
  obtain ⟨cq, c, rI, K, P, A, B, U, a, b, R, D, V, Z, S, E, G, D', V', Z', S', E', G', rfl, rfl, Q⟩ := I
  have q := Q.1
  unfold wpX_newVar
  refine xp_isName (fun h => br_t rfl ?_) (fun j hj ej => br_f (by decide) ?_)
  · rcases pk_ix v1 (n := 8) (by decide) with g | g | ⟨j, hj, e⟩
    · exact br_t g ⟨rfl, ia_rel Q⟩
    · have hn : ¬ v1 < 0 := Int32.not_lt.mpr (Int32.le_trans (by decide) g)
      exact br_f hn (br_f (Int32.not_lt.mpr g) ⟨rfl, ia_rel Q⟩)
    · exact absurd ⟨j, hj, e⟩ h
  · subst ej
    have h0 : ¬ nI j < 0 := nI_pos (by omega)
    have h8 : nI j < 8 := nI_lt (b := 8) hj (by decide)
    by_cases e : nI c = nI cq
    · exact br_t e (br_f h0 (br_t h8 (br_t e ⟨rfl, ia_rel Q⟩)))
    · have hne : c ≠ cq := fun z => e (by rw [z])
      refine br_f e (xp_addNode (by omega) ?_)
      refine br_f h0 (br_t h8 (br_f e (yp_make (by omega) ?_)))
      exact ⟨rfl, ia_rel (ia_Q_leaf Q (by omega) (Or.inr ⟨rfl, j, hj, rfl⟩))⟩
theorem i_vc_newOp {k : Nat} {u : SX} {v : SY} (I : i_Rel k u v) (hk : k + 4 ≤ 2049) (v1 : Int32) (v2 : Int32) (v3 : Int32) : wpX_newOp (fun r u' => wpY_newOp (fun r' v' => r' = r ∧ i_Rel (k + 4) u' v') v v1 v2 v3) u v1 v2 v3 := by
  obtain ⟨cq, c, rI, K, P, A, B, U, a, b, R, D, V, Z, S, E, G, D', V', Z', S', E', G', rfl, rfl, Q⟩ := I
  by_cases k3 : v1 = 3
  · exact br_t k3 (ia_newOp3 Q (Or.inl k3))
  · by_cases k4 : v1 = 4
    · exact br_f k3 (br_t k4 (ia_newOp3 Q (Or.inr (Or.inl k4))))
    · by_cases k5 : v1 = 5
      · exact br_f k3 (br_f k4 (br_t k5 (ia_newOp3 Q (Or.inr (Or.inr k5)))))
      · exact br_f k3 (br_f k4 (br_f k5 (br_f k3 (br_f k4 (br_f k5 ⟨rfl, ia_rel Q⟩)))))
theorem i_vc_newLet {k : Nat} {u : SX} {v : SY} (I : i_Rel k u v) (hk : k + 4 ≤ 2049) (v1 : Int32) (v2 : Int32) (v3 : Int32) : wpX_newLet (fun r u' => wpY_newLet (fun r' v' => r' = r ∧ i_Rel (k + 4) u' v') v v1 v2 v3) u v1 v2 v3 := by
  obtain ⟨cq, c, rI, K, P, A, B, U, a, b, R, D, V, Z, S, E, G, D', V', Z', S', E', G', rfl, rfl, Q⟩ := I
  have q := Q.1
  unfold wpX_newLet
  refine xp_isName (fun h => br_t rfl ?_) (fun z hz ez => br_f (by decide) ?_)
  · rcases pk_ix v1 (n := 8) (by decide) with g | g | ⟨j, hj, e⟩
    · exact br_t g ⟨rfl, ia_rel Q⟩
    · have hn : ¬ v1 < 0 := Int32.not_lt.mpr (Int32.le_trans (by decide) g)
      exact br_f hn (br_f (Int32.not_lt.mpr g) ⟨rfl, ia_rel Q⟩)
    · exact absurd ⟨j, hj, e⟩ h
  · subst ez
    refine xp_canJoin q.2.2 q.2.1 (fun h => br_t rfl ?_) (fun i j h => br_f (by decide) ?_)
    · exact yp_newLet hz q.2.2 q.2.1 (fun _ => ⟨rfl, ia_rel Q⟩) (fun i j h' => absurd ⟨i, j, h'⟩ h)
    · have hJ := h
      obtain ⟨⟨hi, ei, ui, ri⟩, ⟨hj, ej, uj, rj⟩, hij, hne⟩ := h
      subst ei ej
      refine xp_addParent (by omega) hi hj ?_
      refine yp_newLet hz q.2.2 q.2.1 (fun h' => absurd ⟨i, j, hJ⟩ h') (fun i' j' h' => ⟨rfl, ?_⟩)
      have ei : i' = i := ia_inj (by have := h'.1.1; omega) (by omega) (h'.1.2.1.symm)
      have ej : j' = j := ia_inj (by have := h'.2.1.1; omega) (by omega) (h'.2.1.2.1.symm)
      subst ei ej
      exact ia_rel (ia_Q_inn Q (by omega) (Or.inr (Or.inr (Or.inr ⟨rfl, z, hz, rfl⟩))) hi hj hij ui uj ri rj)
