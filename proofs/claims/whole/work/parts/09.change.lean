-- part 09: setRoot and replace
theorem i_vc_setRoot {k : Nat} {u : SX} {v : SY} (I : i_Rel k u v) (hk : k + 4 ≤ 2049) (v1 : Int32) : wpX_setRoot (fun r u' => wpY_setRoot (fun r' v' => r' = r ∧ i_Rel (k + 4) u' v') v v1) u v1 := by
  obtain ⟨cq, c, rI, K, P, A, B, U, a, b, R, D, V, Z, S, E, G, D', V', Z', S', E', G', rfl, rfl, Q⟩ := I
  have q := Q.1
  unfold wpX_setRoot
  refine xp_isFreeRoot (by omega) (fun h => br_t rfl ?_) (fun j hj => br_f (by decide) ?_)
  · unfold wpY_setRoot
    exact yp_freeRoot (by omega) (fun _ => br_t rfl ⟨rfl, ia_rel Q⟩) (fun j hj => absurd ⟨j, hj⟩ h)
  · have hF := hj
    obtain ⟨hjc, rfl, hu, hr⟩ := hj
    obtain ⟨_, hS, _, _, _, _, q8, q9⟩ := Q
    refine xp_evaluate hS (by omega) hu hjc q8 (fun D1 V1 Z1 S1 E1 G1 st ti to F hB1 => ?_)
    unfold wpY_setRoot
    refine yp_freeRoot (by omega) (fun h => absurd ⟨j, hF⟩ h) (fun _ _ => br_f (by decide) ?_)
    refine yp_recompute hS (by omega) F q9 (fun D2 V2 Z2 S2 E2 G2 hP hB2 => ?_)
    exact ⟨rfl, ia_rel (ia_Q_done q hS hjc hu F hP hB1 hB2)⟩
section
variable {k cq c : Nat} {rI : Int32} {K P A B U : Nat → Int32} {a b R : Nat → Nat} {D V Z S E G D' V' Z' S' E' G' : Nat → Int32}
/-- the part of replace behind the checks, at an inner place -/
theorem ia_repl {o w : Nat} (Q : ia_Q cq c rI K P A B U a b R D V Z S E G D' V' Z' S' E' G') (ho : o < c) (hd : D o ≠ -1) (hF : ia_Fr c U rI (nI w) w) (hr : ¬ nI o = rI) :
    wpX_swapInSlot (fun u => match u with
      | (f_cap, f_count, f_root, a_kindOf, a_payloadOf, a_slot0Of, a_slot1Of, a_parentOf, a_depthOf, a_valOf, a_errsOf, a_sizeOf, a_envValue, a_envBound) =>
        wX_replace_40 (fun r u' => wpY_replace (fun r' v' => r' = r ∧ i_Rel (k + 4) u' v') (nI cq, nI c, rI, K, P, A, B, U, D', V', Z', S', G', E') (nI o) (nI w)) f_cap f_count f_root a_kindOf a_payloadOf a_slot0Of a_slot1Of a_parentOf a_depthOf a_valOf a_errsOf a_sizeOf a_envValue a_envBound)
      (nI cq, nI c, rI, K, P, A, B, U, D, V, Z, S, E, G) (nI o) (nI w) := by
  have q := Q.1
  have Q' := Q
  obtain ⟨_, hS, q4, q5, q6, q7, q8, q9⟩ := Q
  obtain ⟨hw, _, uw, rw'⟩ := hF
  -- the root
  obtain ⟨rt, hrt, rfl, hur, hdr⟩ : ∃ r, r < c ∧ rI = nI r ∧ U r = -1 ∧ D r ≠ -1 := by
    rcases q4 with z | z
    · exact absurd (ia_allfree (by omega) hS q5 q6 z (c + 1) o ho (by omega)) hd
    · exact z
  have hor : o ≠ rt := fun z => hr (by rw [z])
  have hwr : rt ≠ w := fun z => rw' (by rw [z])
  -- the parent of o
  obtain ⟨p, hp, hup⟩ : ∃ p, p < c ∧ U o = nI p := by
    rcases hS.2.2.2.2 o ho with z | ⟨p, hp, z, _⟩
    · exact absurd (q5 o ho z (fun y => hr y.symm)) hd
    · exact ⟨p, hp, z⟩
  have hdw : D w = -1 := q5 w hw uw rw'
  obtain ⟨r1, k1, k2, hs⟩ := ia_par hS (by omega) ho hp hup
  obtain ⟨hA, hBp, hac, hbc, hab, hUa, hUb⟩ := hS.2.2.2.1 p hp k1 k2
  have io := ia_in (n := o) (by omega)
  have eo := ia_cl (n := o) (by omega)
  have iw := ia_in (n := w) (by omega)
  have ew := ia_cl (n := w) (by omega)
  have ip := ia_in (n := p) (by omega)
  have ep := ia_cl (n := p) (by omega)
  have hur' : upd (upd U w (nI p)) o (-1) rt = -1 := by rw [ia_un (fun z => hor z.symm), ia_un hwr]; exact hur
  have hFr : ia_Fr c U (nI rt) (nI w) w := ⟨hw, rfl, uw, rw'⟩
  refine ⟨io, fun y ey => ?_⟩
  rw [eo, hup] at ey
  subst ey
  refine ⟨ip, ?_⟩
  rw [ep, hA]
  by_cases hsl : a p = o
  · have hA1 : nI (a p) = nI o := by rw [hsl]
    have hS' := ia_Sh_repl (A' := upd A p (nI w)) (B' := B) (a' := ia_up a p w) (b' := b) (by omega) hS q6 ho hw hp hup uw hd hdw (fun q hq => ⟨ia_un hq, rfl, ia_upn hq, rfl⟩) (Or.inl ⟨hsl, ia_us, ia_ups, rfl, rfl⟩)
    refine br_t hA1 ⟨ip, fun A1 e1 => ⟨iw, fun U1 e2 => ⟨io, fun U2 e3 => ?_⟩⟩⟩
    rw [ew] at e2
    rw [eo] at e3
    subst e1 e2 e3
    refine xp_evaluate hS' (by omega) hur' hrt q8 (fun D1 V1 Z1 S1 E1 G1 st ti to F hB1 => ?_)
    unfold wpY_replace
    refine yp_att Q' (fun h => absurd ⟨o, ho, rfl, hd⟩ h) (fun _ _ _ _ => br_f (by decide) ?_)
    refine yp_freeRoot (by omega) (fun h => absurd ⟨w, hFr⟩ h) (fun _ _ => br_f (by decide) ?_)
    refine br_f hr ⟨io, fun y ey => ?_⟩
    rw [eo, hup] at ey
    subst ey
    refine ⟨ip, ?_⟩
    rw [ep, hA]
    refine br_t hA1 ⟨ip, fun A1 e1 => ⟨iw, fun U1 e2 => ⟨io, fun U2 e3 => ?_⟩⟩⟩
    rw [ew] at e2
    rw [eo] at e3
    subst e1 e2 e3
    refine yp_recompute hS' (by omega) F q9 (fun D2 V2 Z2 S2 E2 G2 hP hB2 => ?_)
    exact ⟨rfl, ia_rel (ia_Q_done q hS' hrt hur' F hP hB1 hB2)⟩
  · have hbp : b p = o := by
      rcases hs with z | z
      · exact absurd z hsl
      · exact z
    have hA1 : ¬ nI (a p) = nI o := fun z => hsl (ia_inj (by omega) (by omega) z)
    have hS' := ia_Sh_repl (A' := A) (B' := upd B p (nI w)) (a' := a) (b' := ia_up b p w) (by omega) hS q6 ho hw hp hup uw hd hdw (fun q hq => ⟨rfl, ia_un hq, rfl, ia_upn hq⟩) (Or.inr ⟨hbp, ia_us, ia_ups, rfl, rfl⟩)
    refine br_f hA1 ⟨ip, fun B1 e1 => ⟨iw, fun U1 e2 => ⟨io, fun U2 e3 => ?_⟩⟩⟩
    rw [ew] at e2
    rw [eo] at e3
    subst e1 e2 e3
    refine xp_evaluate hS' (by omega) hur' hrt q8 (fun D1 V1 Z1 S1 E1 G1 st ti to F hB1 => ?_)
    unfold wpY_replace
    refine yp_att Q' (fun h => absurd ⟨o, ho, rfl, hd⟩ h) (fun _ _ _ _ => br_f (by decide) ?_)
    refine yp_freeRoot (by omega) (fun h => absurd ⟨w, hFr⟩ h) (fun _ _ => br_f (by decide) ?_)
    refine br_f hr ⟨io, fun y ey => ?_⟩
    rw [eo, hup] at ey
    subst ey
    refine ⟨ip, ?_⟩
    rw [ep, hA]
    refine br_f hA1 ⟨ip, fun B1 e1 => ⟨iw, fun U1 e2 => ⟨io, fun U2 e3 => ?_⟩⟩⟩
    rw [ew] at e2
    rw [eo] at e3
    subst e1 e2 e3
    refine yp_recompute hS' (by omega) F q9 (fun D2 V2 Z2 S2 E2 G2 hP hB2 => ?_)
    exact ⟨rfl, ia_rel (ia_Q_done q hS' hrt hur' F hP hB1 hB2)⟩
end
theorem i_vc_replace {k : Nat} {u : SX} {v : SY} (I : i_Rel k u v) (hk : k + 4 ≤ 2049) (v1 : Int32) (v2 : Int32) : wpX_replace (fun r u' => wpY_replace (fun r' v' => r' = r ∧ i_Rel (k + 4) u' v') v v1 v2) u v1 v2 := by
  obtain ⟨cq, c, rI, K, P, A, B, U, a, b, R, D, V, Z, S, E, G, D', V', Z', S', E', G', rfl, rfl, Q⟩ := I
  have q := Q.1
  unfold wpX_replace
  refine xp_isAttached (by omega) (fun h => br_t rfl ?_) (fun o ho eo hd => br_f (by decide) ?_)
  · unfold wpY_replace
    exact yp_att Q (fun _ => br_t rfl ⟨rfl, ia_rel Q⟩) (fun j hj e hd => absurd ⟨j, hj, e, hd⟩ h)
  · subst eo
    refine xp_isFreeRoot (by omega) (fun h => br_t rfl ?_) (fun w hF => br_f (by decide) ?_)
    · unfold wpY_replace
      refine yp_att Q (fun h' => absurd ⟨o, ho, rfl, hd⟩ h') (fun _ _ _ _ => br_f (by decide) ?_)
      exact yp_freeRoot (by omega) (fun _ => br_t rfl ⟨rfl, ia_rel Q⟩) (fun j hj => absurd ⟨j, hj⟩ h)
    · obtain ⟨hw, rfl, uw, rw'⟩ := hF
      have hF : ia_Fr c U rI (nI w) w := ⟨hw, rfl, uw, rw'⟩
      by_cases hr : nI o = rI
      · refine br_t hr ?_
        have Q' := Q
        obtain ⟨_, hS, _, _, _, _, q8, q9⟩ := Q
        refine xp_evaluate hS (by omega) uw hw q8 (fun D1 V1 Z1 S1 E1 G1 st ti to F hB1 => ?_)
        unfold wpY_replace
        refine yp_att Q' (fun h' => absurd ⟨o, ho, rfl, hd⟩ h') (fun _ _ _ _ => br_f (by decide) ?_)
        refine yp_freeRoot (by omega) (fun h => absurd ⟨w, hF⟩ h) (fun _ _ => br_f (by decide) ?_)
        refine br_t hr ?_
        unfold wpY_setRoot
        refine yp_freeRoot (by omega) (fun h => absurd ⟨w, hF⟩ h) (fun _ _ => br_f (by decide) ?_)
        refine yp_recompute hS (by omega) F q9 (fun D2 V2 Z2 S2 E2 G2 hP hB2 => ?_)
        exact ⟨rfl, rfl, ia_rel (ia_Q_done q hS hw uw F hP hB1 hB2)⟩
      · exact br_f hr (ia_repl Q ho hd hF hr)
