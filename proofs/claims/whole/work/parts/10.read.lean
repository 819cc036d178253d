-- part 10: the readers
theorem i_vc_getRoot {k : Nat} {u : SX} {v : SY} (I : i_Rel k u v) (hk : k + 4 ≤ 2049) : wpX_getRoot (fun r => wpY_getRoot (fun r' => r' = r ∧ i_Rel (k + 4) u v) v) u := by
  obtain ⟨cq, c, rI, K, P, A, B, U, a, b, R, D, V, Z, S, E, G, D', V', Z', S', E', G', rfl, rfl, Q⟩ := I
  exact ⟨rfl, ia_rel Q⟩
theorem i_vc_nodeCount {k : Nat} {u : SX} {v : SY} (I : i_Rel k u v) (hk : k + 4 ≤ 2049) : wpX_nodeCount (fun r => wpY_nodeCount (fun r' => r' = r ∧ i_Rel (k + 4) u v) v) u := by
  obtain ⟨cq, c, rI, K, P, A, B, U, a, b, R, D, V, Z, S, E, G, D', V', Z', S', E', G', rfl, rfl, Q⟩ := I
  exact ⟨rfl, ia_rel Q⟩
theorem i_vc_getKind {k : Nat} {u : SX} {v : SY} (I : i_Rel k u v) (hk : k + 4 ≤ 2049) (v1 : Int32) : wpX_getKind (fun r => wpY_getKind (fun r' => r' = r ∧ i_Rel (k + 4) u v) v v1) u v1 := by
  obtain ⟨cq, c, rI, K, P, A, B, U, a, b, R, D, V, Z, S, E, G, D', V', Z', S', E', G', rfl, rfl, Q⟩ := I
  have q := Q.1
  unfold wpX_getKind
  refine xp_isValid (by omega) (fun h => br_t rfl ?_) (fun j hj e => br_f (by decide) ?_)
  · unfold wpY_getKind
    exact yp_valid (by omega) (fun _ => br_t rfl ⟨rfl, ia_rel Q⟩) (fun j hj e => absurd ⟨j, hj, e⟩ h)
  · have hi : vp_in v1 32 := by rw [e]; exact ia_in (by omega)
    refine ⟨hi, ?_⟩
    unfold wpY_getKind
    exact yp_valid (by omega) (fun h => absurd ⟨j, hj, e⟩ h) (fun _ _ _ => br_f (by decide) ⟨hi, ⟨rfl, ia_rel Q⟩⟩)
theorem i_vc_getParent {k : Nat} {u : SX} {v : SY} (I : i_Rel k u v) (hk : k + 4 ≤ 2049) (v1 : Int32) : wpX_getParent (fun r => wpY_getParent (fun r' => r' = r ∧ i_Rel (k + 4) u v) v v1) u v1 := by
  obtain ⟨cq, c, rI, K, P, A, B, U, a, b, R, D, V, Z, S, E, G, D', V', Z', S', E', G', rfl, rfl, Q⟩ := I
  have q := Q.1
  unfold wpX_getParent
  refine xp_isValid (by omega) (fun h => br_t rfl ?_) (fun j hj e => br_f (by decide) ?_)
  · unfold wpY_getParent
    exact yp_valid (by omega) (fun _ => br_t rfl ⟨rfl, ia_rel Q⟩) (fun j hj e => absurd ⟨j, hj, e⟩ h)
  · have hi : vp_in v1 32 := by rw [e]; exact ia_in (by omega)
    refine ⟨hi, ?_⟩
    unfold wpY_getParent
    exact yp_valid (by omega) (fun h => absurd ⟨j, hj, e⟩ h) (fun _ _ _ => br_f (by decide) ⟨hi, ⟨rfl, ia_rel Q⟩⟩)
theorem i_vc_getVal {k : Nat} {u : SX} {v : SY} (I : i_Rel k u v) (hk : k + 4 ≤ 2049) (v1 : Int32) : wpX_getVal (fun r => wpY_getVal (fun r' => r' = r ∧ i_Rel (k + 4) u v) v v1) u v1 := by
  obtain ⟨cq, c, rI, K, P, A, B, U, a, b, R, D, V, Z, S, E, G, D', V', Z', S', E', G', rfl, rfl, Q⟩ := I
  have q := Q.1
  unfold wpX_getVal
  refine xp_isAttached (by omega) (fun h => br_t rfl ?_) (fun j hj e hd => br_f (by decide) ?_)
  · unfold wpY_getVal
    exact yp_att Q (fun _ => br_t rfl ⟨rfl, ia_rel Q⟩) (fun j hj e hd => absurd ⟨j, hj, e, hd⟩ h)
  · subst e
    have hi := ia_in (n := j) (by omega)
    refine ⟨hi, ?_⟩
    unfold wpY_getVal
    refine yp_att Q (fun h => absurd ⟨j, hj, rfl, hd⟩ h) (fun _ _ _ _ => br_f (by decide) ⟨hi, ⟨?_, ia_rel Q⟩⟩)
    rw [ia_cl (by omega)]
    exact (Q.2.2.2.2.2.1 j hj hd).1.2.1
theorem i_vc_getErrs {k : Nat} {u : SX} {v : SY} (I : i_Rel k u v) (hk : k + 4 ≤ 2049) (v1 : Int32) : wpX_getErrs (fun r => wpY_getErrs (fun r' => r' = r ∧ i_Rel (k + 4) u v) v v1) u v1 := by
  obtain ⟨cq, c, rI, K, P, A, B, U, a, b, R, D, V, Z, S, E, G, D', V', Z', S', E', G', rfl, rfl, Q⟩ := I
  have q := Q.1
  unfold wpX_getErrs
  refine xp_isAttached (by omega) (fun h => br_t rfl ?_) (fun j hj e hd => br_f (by decide) ?_)
  · unfold wpY_getErrs
    exact yp_att Q (fun _ => br_t rfl ⟨rfl, ia_rel Q⟩) (fun j hj e hd => absurd ⟨j, hj, e, hd⟩ h)
  · subst e
    have hi := ia_in (n := j) (by omega)
    refine ⟨hi, ?_⟩
    unfold wpY_getErrs
    refine yp_att Q (fun h => absurd ⟨j, hj, rfl, hd⟩ h) (fun _ _ _ _ => br_f (by decide) ⟨hi, ⟨?_, ia_rel Q⟩⟩)
    rw [ia_cl (by omega)]
    exact (Q.2.2.2.2.2.1 j hj hd).1.2.2.1
theorem i_vc_getSize {k : Nat} {u : SX} {v : SY} (I : i_Rel k u v) (hk : k + 4 ≤ 2049) (v1 : Int32) : wpX_getSize (fun r => wpY_getSize (fun r' => r' = r ∧ i_Rel (k + 4) u v) v v1) u v1 := by
  obtain ⟨cq, c, rI, K, P, A, B, U, a, b, R, D, V, Z, S, E, G, D', V', Z', S', E', G', rfl, rfl, Q⟩ := I
  have q := Q.1
  unfold wpX_getSize
  refine xp_isAttached (by omega) (fun h => br_t rfl ?_) (fun j hj e hd => br_f (by decide) ?_)
  · unfold wpY_getSize
    exact yp_att Q (fun _ => br_t rfl ⟨rfl, ia_rel Q⟩) (fun j hj e hd => absurd ⟨j, hj, e, hd⟩ h)
  · subst e
    have hi := ia_in (n := j) (by omega)
    refine ⟨hi, ?_⟩
    unfold wpY_getSize
    refine yp_att Q (fun h => absurd ⟨j, hj, rfl, hd⟩ h) (fun _ _ _ _ => br_f (by decide) ⟨hi, ⟨?_, ia_rel Q⟩⟩)
    rw [ia_cl (by omega)]
    exact (Q.2.2.2.2.2.1 j hj hd).1.2.2.2
theorem i_vc_getDepth {k : Nat} {u : SX} {v : SY} (I : i_Rel k u v) (hk : k + 4 ≤ 2049) (v1 : Int32) : wpX_getDepth (fun r => wpY_getDepth (fun r' => r' = r ∧ i_Rel (k + 4) u v) v v1) u v1 := by
  obtain ⟨cq, c, rI, K, P, A, B, U, a, b, R, D, V, Z, S, E, G, D', V', Z', S', E', G', rfl, rfl, Q⟩ := I
  have q := Q.1
  unfold wpX_getDepth
  refine xp_isAttached (by omega) (fun h => br_t rfl ?_) (fun j hj e hd => br_f (by decide) ?_)
  · unfold wpY_getDepth
    exact yp_att Q (fun _ => br_t rfl ⟨rfl, ia_rel Q⟩) (fun j hj e hd => absurd ⟨j, hj, e, hd⟩ h)
  · subst e
    have hi := ia_in (n := j) (by omega)
    refine ⟨hi, ?_⟩
    unfold wpY_getDepth
    refine yp_att Q (fun h => absurd ⟨j, hj, rfl, hd⟩ h) (fun _ _ _ _ => br_f (by decide) ⟨hi, ⟨?_, ia_rel Q⟩⟩)
    rw [ia_cl (by omega)]
    exact (Q.2.2.2.2.2.1 j hj hd).1.1
theorem i_vc_getEnv {k : Nat} {u : SX} {v : SY} (I : i_Rel k u v) (hk : k + 4 ≤ 2049) (v1 : Int32) (v2 : Int32) : wpX_getEnv (fun r => wpY_getEnv (fun r' => r' = r ∧ i_Rel (k + 4) u v) v v1 v2) u v1 v2 := by
  obtain ⟨cq, c, rI, K, P, A, B, U, a, b, R, D, V, Z, S, E, G, D', V', Z', S', E', G', rfl, rfl, Q⟩ := I
  have q := Q.1
  unfold wpX_getEnv
  refine xp_isAttached (by omega) (fun h => br_t rfl ?_) (fun j hj e hd => br_f (by decide) ?_)
  · unfold wpY_getEnv
    exact yp_att Q (fun _ => br_t rfl ⟨rfl, ia_rel Q⟩) (fun j hj e hd => absurd ⟨j, hj, e, hd⟩ h)
  · subst e
    refine xp_isName (fun h => br_t rfl ?_) (fun x hx ex => br_f (by decide) ?_)
    · unfold wpY_getEnv
      refine yp_att Q (fun h' => absurd ⟨j, hj, rfl, hd⟩ h') (fun _ _ _ _ => br_f (by decide) ?_)
      rcases pk_ix v2 (n := 8) (by decide) with g | g | ⟨x, hx, e⟩
      · exact br_t g ⟨rfl, ia_rel Q⟩
      · have hn : ¬ v2 < 0 := Int32.not_lt.mpr (Int32.le_trans (by decide) g)
        exact br_f hn (br_f (Int32.not_lt.mpr g) ⟨rfl, ia_rel Q⟩)
      · exact absurd ⟨x, hx, e⟩ h
    · subst ex
      have i8 := ia_in8 (n := j) (by omega) hx
      have c8 := ia_cl8 (n := j) (by omega) hx
      have h0 : ¬ nI x < 0 := nI_pos (by omega)
      have h8 : nI x < 8 := nI_lt (b := 8) hx (by decide)
      obtain ⟨g1, g2⟩ := (Q.2.2.2.2.2.1 j hj hd).2 x hx
      refine ⟨i8, ?_⟩
      rw [c8]
      unfold wpY_getEnv
      refine yp_att Q (fun h' => absurd ⟨j, hj, rfl, hd⟩ h') (fun _ _ _ _ => br_f (by decide) (br_f h0 (br_t h8 ⟨i8, ⟨?_, ia_rel Q⟩⟩)))
      rw [c8]
      exact g1
theorem i_vc_isBound {k : Nat} {u : SX} {v : SY} (I : i_Rel k u v) (hk : k + 4 ≤ 2049) (v1 : Int32) (v2 : Int32) : wpX_isBound (fun r => wpY_isBound (fun r' => r' = r ∧ i_Rel (k + 4) u v) v v1 v2) u v1 v2 := by
  obtain ⟨cq, c, rI, K, P, A, B, U, a, b, R, D, V, Z, S, E, G, D', V', Z', S', E', G', rfl, rfl, Q⟩ := I
  have q := Q.1
  unfold wpX_isBound
  refine xp_isAttached (by omega) (fun h => br_t rfl ?_) (fun j hj e hd => br_f (by decide) ?_)
  · unfold wpY_isBound
    exact yp_att Q (fun _ => br_t rfl ⟨rfl, ia_rel Q⟩) (fun j hj e hd => absurd ⟨j, hj, e, hd⟩ h)
  · subst e
    refine xp_isName (fun h => br_t rfl ?_) (fun x hx ex => br_f (by decide) ?_)
    · unfold wpY_isBound
      refine yp_att Q (fun h' => absurd ⟨j, hj, rfl, hd⟩ h') (fun _ _ _ _ => br_f (by decide) ?_)
      rcases pk_ix v2 (n := 8) (by decide) with g | g | ⟨x, hx, e⟩
      · exact br_t g ⟨rfl, ia_rel Q⟩
      · have hn : ¬ v2 < 0 := Int32.not_lt.mpr (Int32.le_trans (by decide) g)
        exact br_f hn (br_f (Int32.not_lt.mpr g) ⟨rfl, ia_rel Q⟩)
      · exact absurd ⟨x, hx, e⟩ h
    · subst ex
      have i8 := ia_in8 (n := j) (by omega) hx
      have c8 := ia_cl8 (n := j) (by omega) hx
      have h0 : ¬ nI x < 0 := nI_pos (by omega)
      have h8 : nI x < 8 := nI_lt (b := 8) hx (by decide)
      obtain ⟨g1, g2⟩ := (Q.2.2.2.2.2.1 j hj hd).2 x hx
      refine ⟨i8, ?_⟩
      rw [c8]
      have bo := Q.2.2.2.2.2.2.2
      unfold wpY_isBound
      by_cases z : G (j * 8 + x) = 0
      · refine br_t z ?_
        refine yp_att Q (fun h' => absurd ⟨j, hj, rfl, hd⟩ h') (fun _ _ _ _ => br_f (by decide) (br_f h0 (br_t h8 ⟨i8, ?_⟩)))
        rw [c8]
        exact ⟨ia_nbn (bo _), by rw [g2]; exact z, ia_rel Q⟩
      · refine br_f z ?_
        refine yp_att Q (fun h' => absurd ⟨j, hj, rfl, hd⟩ h') (fun _ _ _ _ => br_f (by decide) (br_f h0 (br_t h8 ⟨i8, ?_⟩)))
        rw [c8]
        refine ⟨ia_nbn (bo _), ?_, ia_rel Q⟩
        rw [g2]
        rcases Q.2.2.2.2.2.2.1 (j * 8 + x) with y | y
        · exact absurd y z
        · exact y
