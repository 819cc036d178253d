-- part 07: the reference's methods
section
variable {cp cn rI : Int32} {K P A B U D V Z S E G : Nat → Int32} {c n m : Nat} {a b R : Nat → Nat} {rt : Nat} {st ti to : Nat → Nat}
theorem yp_make {post : Int32 → SY → Prop} {k x y z : Int32} (hc : c < 32)
    (h : post (nI c) (cp, nI (c + 1), rI, upd K c k, upd P c x, upd A c y, upd B c z, upd U c (-1), D, V, Z, S, G, E)) :
    wpY_make post (cp, nI c, rI, K, P, A, B, U, D, V, Z, S, G, E) k x y z := by
  have hi := ia_in hc
  have e := ia_cl hc
  refine ⟨hi, fun K' eK => ⟨hi, fun P' eP => ⟨hi, fun A' eA => ⟨hi, fun B' eB => ⟨hi, fun U' eU => fun c' ec => ?_⟩⟩⟩⟩⟩
  rw [e] at eK eP eA eB eU
  rw [nI_1] at ec
  subst eK eP eA eB eU ec
  exact h
theorem yp_valid {post : Int32 → Prop} {x : Int32} (hc : c ≤ 32) (h0 : (¬ ∃ j, j < c ∧ x = nI j) → post 0) (h1 : ∀ j, j < c → x = nI j → post 1) :
    wpY_valid post (cp, nI c, rI, K, P, A, B, U, D, V, Z, S, G, E) x := by
  rcases pk_ix x (n := c) (by omega) with h | h | ⟨j, hj, rfl⟩
  · refine br_t h (h0 ?_)
    rintro ⟨j, hj, rfl⟩
    exact nI_pos (by omega) h
  · by_cases hn : x < 0
    · refine br_t hn (h0 ?_)
      rintro ⟨j, hj, rfl⟩
      exact nI_pos (by omega) hn
    · refine br_f hn (br_t h (h0 ?_))
      rintro ⟨j, hj, rfl⟩
      exact nI_ge hj (by omega) h
  · exact br_f (nI_pos (by omega)) (br_f (nI_ge hj (by omega)) (h1 j hj rfl))
theorem yp_freeRoot {post : Int32 → Prop} {x : Int32} (hc : c ≤ 32) (h0 : (¬ ∃ j, ia_Fr c U rI x j) → post 0) (h1 : ∀ j, ia_Fr c U rI x j → post 1) :
    wpY_freeRoot post (cp, nI c, rI, K, P, A, B, U, D, V, Z, S, G, E) x := by
  unfold wpY_freeRoot
  refine yp_valid hc (fun h => ?_) (fun j hj e => ?_)
  · exact br_t rfl (h0 (fun ⟨j, hj, e, _⟩ => h ⟨j, hj, e⟩))
  · subst e
    refine br_f (by decide) ⟨ia_in (by omega), ?_⟩
    rw [ia_cl (n := j) (by omega)]
    by_cases hu : U j = -1
    · refine br_t hu ?_
      by_cases hr : nI j = rI
      · refine br_t hr (h0 ?_)
        rintro ⟨j', _, e', _, hr'⟩
        exact hr' (hr.symm.trans e')
      · exact br_f hr (h1 j ⟨hj, rfl, hu, fun z => hr z.symm⟩)
    · refine br_f hu (h0 ?_)
      rintro ⟨j', hj', e', hu', _⟩
      rw [ia_inj (by omega) (by omega) e'] at hu
      exact hu hu'
/-- the climb: DX is X's depth array, which says what is attached -/
theorem yp_climb {post : Int32 → Prop} {cq : Nat} {DX : Nat → Int32} (hq : cq ≤ 32) (hc : c ≤ cq) (hS : ia_Sh c K P A B U a b R)
    (q4 : rI = -1 ∨ ∃ r, r < c ∧ rI = nI r ∧ U r = -1 ∧ DX r ≠ -1) (q5 : ∀ m, m < c → U m = -1 → rI ≠ nI m → DX m = -1)
    (q6 : ∀ m p, m < c → p < c → U m = nI p → (DX m = -1 ↔ DX p = -1)) :
    ∀ (f j i : Nat), j < c → i ≤ R j → c - R j < f → (DX j = -1 → post 0) → (DX j ≠ -1 → post 1) →
      wY_attached_14 post (nI cq) (nI c) rI K P A B U D V Z S G E f (nI j) (nI i) := by
  intro f
  induction f with
  | zero => intro j i _ _ hf; exact absurd hf (Nat.not_lt_zero _)
  | succ f ih =>
    intro j i hj hi hf h0 h1
    have hR := hS.1 j hj
    refine br_f (nI_nlt (by omega) (by omega)) ?_
    by_cases hr : nI j = rI
    · refine br_t hr (h1 ?_)
      rcases q4 with z | ⟨r, hrc, z, _, d⟩
      · rw [z] at hr; exact absurd hr (ia_ne (by omega))
      · have : j = r := ia_inj (by omega) (by omega) (hr.trans z)
        rw [this]; exact d
    · refine br_f hr ⟨ia_in (by omega), fun x ex => ?_⟩
      rw [ia_cl (by omega)] at ex
      rcases hS.2.2.2.2 j hj with z | ⟨p, hp, z, r1, _⟩
      · rw [z] at ex
        subst ex
        exact br_t rfl (h0 (q5 j hj z (fun y => hr y.symm)))
      · rw [z] at ex
        subst ex
        refine br_f (ia_ne (by omega)) (fun y ey => ?_)
        rw [nI_1] at ey
        subst ey
        have q := q6 j p hj hp z
        exact ih p (i + 1) hp (by omega) (by omega) (fun d => h0 (q.mpr d)) (fun d => h1 (fun d' => d (q.mp d')))
theorem yp_attached {post : Int32 → Prop} {cq : Nat} {DX : Nat → Int32} {x : Int32} (hq : cq ≤ 32) (hc : c ≤ cq) (hS : ia_Sh c K P A B U a b R)
    (q4 : rI = -1 ∨ ∃ r, r < c ∧ rI = nI r ∧ U r = -1 ∧ DX r ≠ -1) (q5 : ∀ m, m < c → U m = -1 → rI ≠ nI m → DX m = -1)
    (q6 : ∀ m p, m < c → p < c → U m = nI p → (DX m = -1 ↔ DX p = -1))
    (h0 : (¬ ∃ j, j < c ∧ x = nI j ∧ DX j ≠ -1) → post 0) (h1 : ∀ j, j < c → x = nI j → DX j ≠ -1 → post 1) :
    wpY_attached post (nI cq, nI c, rI, K, P, A, B, U, D, V, Z, S, G, E) x := by
  unfold wpY_attached
  refine yp_valid (by omega) (fun h => ?_) (fun j hj e => ?_)
  · exact br_t rfl (h0 (fun ⟨j, hj, e, _⟩ => h ⟨j, hj, e⟩))
  · subst e
    refine br_f (by decide) ⟨c + 1, ?_⟩
    refine yp_climb hq hc hS q4 q5 q6 (c + 1) j 0 hj (by omega) (by omega) (fun d => h0 ?_) (fun d => h1 j hj rfl d)
    rintro ⟨j', hj', e', d'⟩
    rw [ia_inj (by omega) (by omega) e'] at d
    exact d' d
theorem yp_425 {post : SY → Prop} (hn : n < 32) (ha : a n < 32) (hb : b n < 32)
    (h : post (cp, cn, rI, K, P, A, B, U, D, V, upd Z n (Z (a n) + Z (b n)), upd S n (1 + S (a n) + S (b n)), G, E)) :
    wY_update_425 post (nI n) (nI (a n)) (nI (b n)) cp cn rI K P A B U D V Z S G E := by
  have hi := ia_in hn
  have e := ia_cl hn
  have ia := ia_in ha
  have ib := ia_in hb
  have ea := ia_cl ha
  have eb := ia_cl hb
  refine ⟨ia, ⟨ib, ⟨hi, fun Z1 e1 => ⟨ia, ⟨ib, ⟨hi, fun S1 e2 => ?_⟩⟩⟩⟩⟩⟩
  rw [e, ea, eb] at e1 e2
  subst e1 e2
  exact h
theorem yp_197 {post : SY → Prop} (hS : ia_Sh c K P A B U a b R) (hc : c ≤ 32) (hn : n < c)
    (h : ∀ V' Z' S', (∀ j, j ≠ n → V' j = V j ∧ Z' j = Z j ∧ S' j = S j) → ia_ValF K P a b V Z S E G V' Z' S' n → post (cp, cn, rI, K, P, A, B, U, D, V', Z', S', G, E)) :
    wY_update_197 post (nI n) cp cn rI K P A B U D V Z S G E := by
  have hi := ia_in (n := n) (by omega)
  have e := ia_cl (n := n) (by omega)
  refine ⟨hi, fun k ek => ?_⟩
  rw [e] at ek
  subst ek
  by_cases k1 : K n = 1
  · refine br_t k1 ⟨hi, ⟨hi, fun V1 e1 => ⟨hi, fun Z1 e2 => ⟨hi, fun S1 e3 => ?_⟩⟩⟩⟩
    rw [e] at e1 e2 e3
    subst e1 e2 e3
    refine h _ _ _ (fun j hj => ⟨ia_un hj, ia_un hj, ia_un hj⟩) ⟨fun _ => ⟨ia_us, ia_us, ia_us⟩, fun k2 => ?_, fun k1' => absurd k1 k1'⟩
    rw [k1] at k2; exact absurd k2 (by decide)
  · refine br_f k1 ?_
    by_cases k2 : K n = 2
    · obtain ⟨x, hx, hP⟩ := hS.2.2.1 n hn (Or.inl k2)
      have i8 := ia_in8 (n := n) (by omega) hx
      have c8 := ia_cl8 (n := n) (by omega) hx
      have hxu : ∀ x', x' < 8 → P n = nI x' → x' = x := fun x' hx' hp => ia_inj (by omega) (by omega) (hp.symm.trans hP)
      refine br_t k2 ⟨hi, fun y ey => ?_⟩
      rw [e, hP] at ey
      subst ey
      refine ⟨i8, ?_⟩
      by_cases g : G (n * 8 + x) = 0
      · refine br_t (by rw [c8]; exact g) ⟨hi, fun V1 e1 => ⟨hi, fun Z1 e2 => ⟨hi, fun S1 e3 => ?_⟩⟩⟩
        rw [e] at e1 e2 e3
        subst e1 e2 e3
        refine h _ _ _ (fun j hj => ⟨ia_un hj, ia_un hj, ia_un hj⟩) ⟨fun z => absurd z k1, fun _ x' hx' hp => ?_, fun _ k2' => absurd k2 k2'⟩
        rw [hxu x' hx' hp]
        exact ⟨ia_us, fun _ => ⟨ia_us, ia_us⟩, fun z => absurd g z⟩
      · refine br_f (by rw [c8]; exact g) ⟨i8, ⟨hi, fun V1 e1 => ⟨hi, fun Z1 e2 => ⟨hi, fun S1 e3 => ?_⟩⟩⟩⟩
        rw [e] at e1 e2 e3
        rw [c8] at e1
        subst e1 e2 e3
        refine h _ _ _ (fun j hj => ⟨ia_un hj, ia_un hj, ia_un hj⟩) ⟨fun z => absurd z k1, fun _ x' hx' hp => ?_, fun _ k2' => absurd k2 k2'⟩
        rw [hxu x' hx' hp]
        exact ⟨ia_us, fun z => absurd z g, fun _ => ⟨ia_us, ia_us⟩⟩
    · obtain ⟨hA, hBn, ha, hb, _, _, _⟩ := hS.2.2.2.1 n hn k1 k2
      have ia := ia_in (n := a n) (by omega)
      have ib := ia_in (n := b n) (by omega)
      have ea := ia_cl (n := a n) (by omega)
      have eb := ia_cl (n := b n) (by omega)
      refine br_f k2 ⟨hi, fun x ex => ⟨hi, fun y ey => ?_⟩⟩
      rw [e, hA] at ex
      rw [e, hBn] at ey
      subst ex ey
      have fin : ∀ v, v = ia_comb (K n) (V (a n)) (V (b n)) → wY_update_425 post (nI n) (nI (a n)) (nI (b n)) cp cn rI K P A B U D (upd V n v) Z S G E := by
        intro v hv
        refine yp_425 (by omega) (by omega) (by omega) (h _ _ _ (fun j hj => ⟨ia_un hj, ia_un hj, ia_un hj⟩) ⟨fun z => absurd z k1, fun z => absurd z k2, fun _ _ => ⟨?_, ia_us, ia_us⟩⟩)
        rw [ia_us]; exact hv
      by_cases k3 : K n = 3
      · refine br_t k3 ⟨ia, ⟨ib, ⟨hi, fun V1 e1 => ?_⟩⟩⟩
        rw [e, ea, eb] at e1
        subst e1
        exact fin _ (by rw [k3]; rfl)
      · refine br_f k3 ?_
        by_cases k4 : K n = 4
        · refine br_t k4 ⟨ia, ⟨ib, ⟨hi, fun V1 e1 => ?_⟩⟩⟩
          rw [e, ea, eb] at e1
          subst e1
          exact fin _ (by rw [k4]; rfl)
        · refine br_f k4 ?_
          by_cases k5 : K n = 5
          · refine br_t k5 ⟨ia, ⟨ib, ⟨hi, fun V1 e1 => ?_⟩⟩⟩
            rw [e, ea, eb] at e1
            subst e1
            exact fin _ (by rw [k5]; rfl)
          · refine br_f k5 ⟨ib, ⟨hi, fun V1 e1 => ?_⟩⟩
            rw [e, eb] at e1
            subst e1
            exact fin _ (by unfold ia_comb; rw [if_neg k3, if_neg k4, if_neg k5])
theorem yp_21 {post : SY → Prop} (hn : n < 32)
    (h : ∀ E' G', ia_Row n (fun _ => 0) E E' → ia_Row n (fun _ => 0) G G' → ia_Bo G' → wY_update_197 post (nI n) cp cn rI K P A B U D V Z S G' E') :
    ∀ (f i : Nat) (E1 G1 : Nat → Int32), i ≤ 8 → 8 - i < f → ia_RowI n i (fun _ => 0) E E1 → ia_RowI n i (fun _ => 0) G G1 → ia_Bo G1 →
      wY_update_21 post (nI n) cp cn rI f (nI i) K P A B U D V Z S G1 E1 := by
  intro f
  induction f with
  | zero => intro i E1 G1 _ hf; exact absurd hf (Nat.not_lt_zero _)
  | succ f ih =>
    intro i E1 G1 hi hf hE hG hB
    by_cases e : i = 8
    · subst e
      exact br_t (Int32.le_refl _) (h E1 G1 hE hG hB)
    · refine br_f (nI_ge (b := 8) (by omega) (by decide)) ⟨ia_in8 hn (by omega), fun G2 e3 => ⟨ia_in8 hn (by omega), fun E2 e2 x ex => ?_⟩⟩
      rw [ia_cl8 hn (by omega)] at e2 e3
      rw [nI_1] at ex
      rw [ia_nb (Or.inl rfl)] at e3
      subst e2 e3 ex
      exact ih (i + 1) _ _ (by omega) (by omega) (ia_RowI_s hE (by omega) rfl) (ia_RowI_s hG (by omega) rfl) (ia_Bo_u hB (Or.inl rfl))
theorem yp_76 {post : SY → Prop} {p : Nat} (hn : n < 32) (hp : p < 32) (hne : p ≠ n)
    (h : ∀ f E' G', ia_Row n (fun x => E (p * 8 + x)) E E' → ia_Row n (fun x => G (p * 8 + x)) G G' → ia_Bo G' → wY_update_76 post (nI n) (nI p) cp cn rI (f + 1) (nI 8) K P A B U D V Z S G' E') :
    ∀ (f i : Nat) (E1 G1 : Nat → Int32), i ≤ 8 → 8 - i < f → ia_RowI n i (fun x => E (p * 8 + x)) E E1 → ia_RowI n i (fun x => G (p * 8 + x)) G G1 → ia_Bo G1 →
      wY_update_76 post (nI n) (nI p) cp cn rI f (nI i) K P A B U D V Z S G1 E1 := by
  intro f
  induction f with
  | zero => intro i E1 G1 _ hf; exact absurd hf (Nat.not_lt_zero _)
  | succ f ih =>
    intro i E1 G1 hi hf hE hG hB
    by_cases e : i = 8
    · subst e
      exact h f E1 G1 hE hG hB
    · have i1 := ia_in8 hp (x := i) (by omega)
      have i2 := ia_in8 hn (x := i) (by omega)
      refine br_f (nI_ge (b := 8) (by omega) (by decide)) ⟨i1, ⟨i2, fun G2 e3 => ⟨i1, ⟨i2, fun E2 e2 x ex => ?_⟩⟩⟩⟩
      rw [ia_cl8 hn (by omega), ia_cl8 hp (by omega)] at e2 e3
      rw [nI_1] at ex
      rw [ia_nb (hB _)] at e3
      subst e2 e3 ex
      exact ih (i + 1) _ _ (by omega) (by omega) (ia_RowI_s hE (by omega) (hE.2 p i hne (by omega))) (ia_RowI_s hG (by omega) (hG.2 p i hne (by omega))) (ia_Bo_u hB (hB _))
/-- one update -/
theorem yp_update {post : SY → Prop} (hS : ia_Sh c K P A B U a b R) (hc : c ≤ 32) (hn : n < c) (hB : ia_Bo G)
    (h : ∀ D' V' Z' S' E' G', ia_UR c K P U a b n D V Z S E G D' V' Z' S' E' G' → ia_Bo G' → post (cp, cn, rI, K, P, A, B, U, D', V', Z', S', G', E')) :
    wpY_update post (cp, cn, rI, K, P, A, B, U, D, V, Z, S, G, E) (nI n) := by
  have hi := ia_in (n := n) (by omega)
  have e := ia_cl (n := n) (by omega)
  refine ⟨hi, fun y ey => ?_⟩
  rw [e] at ey
  rcases hS.2.2.2.2 n hn with hu | ⟨p, hp, hu, r1, k1, k2, hs⟩
  · rw [hu] at ey
    subst ey
    refine br_t rfl ⟨hi, fun D1 e1 => ⟨9, ?_⟩⟩
    rw [e] at e1
    subst e1
    refine yp_21 (by omega) (fun E' G' hE hG hB' => ?_) 9 0 E G (by omega) (by omega) ia_RowI_0 ia_RowI_0 hB
    refine yp_197 hS hc hn (fun V' Z' S' hV hF => ?_)
    refine h _ _ _ _ _ _ ⟨fun j hj => ⟨ia_un hj, hV j hj⟩, fun j x hj hx => ⟨hE.2 j x hj hx, hG.2 j x hj hx⟩, ⟨fun _ => ⟨ia_us, fun x hx => ⟨hE.1 x hx, hG.1 x hx⟩⟩, fun p hp hu' => ?_⟩, hF⟩ hB'
    rw [hu] at hu'
    exact absurd hu'.symm (ia_ne (by omega))
  · rw [hu] at ey
    subst ey
    have hne : p ≠ n := by intro z; rw [z] at r1; omega
    have ip := ia_in (n := p) (by omega)
    have ep := ia_cl (n := p) (by omega)
    obtain ⟨hA, hBn, ha, hb, hab, _, _⟩ := hS.2.2.2.1 p hp k1 k2
    refine br_f (ia_ne (by omega)) ⟨ip, ⟨hi, fun D1 e1 => ⟨9, ?_⟩⟩⟩
    rw [e, ep] at e1
    subst e1
    have notop : U n = -1 → False := fun z => by rw [hu] at z; exact ia_ne (by omega) z
    have pu : ∀ q, q < c → U n = nI q → q = p := fun q hq z => ia_uniq hc hp hq hu z
    refine yp_76 (by omega) (by omega) hne (fun f E' G' hE hG hB' => ?_) 9 0 E G (by omega) (by omega) ia_RowI_0 ia_RowI_0 hB
    have plain : ¬ (K p = 6 ∧ b p = n) → wY_update_197 post (nI n) cp cn rI K P A B U (upd D n (D p + 1)) V Z S G' E' := by
      intro hL
      refine yp_197 hS hc hn (fun V' Z' S' hV hF => ?_)
      refine h _ _ _ _ _ _ ⟨fun j hj => ⟨ia_un hj, hV j hj⟩, fun j x hj hx => ⟨hE.2 j x hj hx, hG.2 j x hj hx⟩, ⟨fun z => (notop z).elim, fun q hq z => ?_⟩, hF⟩ hB'
      rw [pu q hq z]
      exact ⟨ia_us, fun x hx => ⟨fun y => absurd ⟨y.1, y.2.1⟩ hL, fun _ => ⟨hE.1 x hx, hG.1 x hx⟩⟩⟩
    refine br_t (Int32.le_refl _) ⟨ip, ?_⟩
    rw [ep]
    by_cases k6 : K p = 6
    · refine br_t k6 ⟨ip, ?_⟩
      rw [hBn]
      by_cases hbn : b p = n
      · obtain ⟨x, hx, hP⟩ := hS.2.2.1 p hp (Or.inr k6)
        have i8 := ia_in8 (n := n) (by omega) hx
        have c8 := ia_cl8 (n := n) (by omega) hx
        have iA := ia_in (n := a p) (by omega)
        have eA := ia_cl (n := a p) (by omega)
        refine br_t (by rw [hbn]) ⟨ip, ?_⟩
        rw [hP]
        refine ⟨i8, fun G2 e3 => ⟨ip, ⟨ip, ?_⟩⟩⟩
        rw [hA]
        refine ⟨iA, ⟨i8, fun E2 e2 => ?_⟩⟩
        rw [c8] at e2 e3
        rw [eA] at e2
        rw [ia_nb (Or.inr rfl)] at e3
        subst e2 e3
        refine yp_197 hS hc hn (fun V' Z' S' hV hF => ?_)
        refine h _ _ _ _ _ _ ⟨fun j hj => ⟨ia_un hj, hV j hj⟩, fun j y hj hy => ?_, ⟨fun z => (notop z).elim, fun q hq z => ?_⟩, hF⟩ (ia_Bo_u hB' (Or.inr rfl))
        · rw [ia_un (by omega), ia_un (by omega)]; exact ⟨hE.2 j y hj hy, hG.2 j y hj hy⟩
        · rw [pu q hq z]
          refine ⟨ia_us, fun y hy => ⟨fun w => ?_, fun w => ?_⟩⟩
          · have : x = y := ia_inj (by omega) (by omega) (hP.symm.trans w.2.2)
            subst this
            exact ⟨ia_us, ia_us⟩
          · have : y ≠ x := fun v => w ⟨k6, hbn, by rw [v]; exact hP⟩
            rw [ia_un (by omega), ia_un (by omega)]; exact ⟨hE.1 y hy, hG.1 y hy⟩
      · exact br_f (fun z => hbn (ia_inj (by omega) (by omega) z)) (plain (fun z => hbn z.2))
    · exact br_f k6 (plain (fun z => k6 z.1))
section
variable {DX VX ZX SX' EX GX : Nat → Int32}
theorem yp_pass {post : SY → Prop} {J2 : Int32 → Int32 → Int32 → Int32 → (Nat → Int32) → (Nat → Int32) → (Nat → Int32) → (Nat → Int32) → (Nat → Int32) → (Nat → Int32) → (Nat → Int32) → (Nat → Int32) → (Nat → Int32) → (Nat → Int32) → (Nat → Int32) → Prop} {k : Nat}
    (hS : ia_Sh c K P A B U a b R) (hc : c ≤ 32) (F : ia_Done c K P A B U a b rt DX VX ZX SX' EX GX st ti to)
    (h : ∀ D' V' Z' S' E' G', ia_Ps c st ti to (k + 1) 0 DX VX ZX SX' EX GX D' V' Z' S' E' G' → ia_Bo G' → J2 (nI (k + 1)) cp (nI c) rI K P A B U D' V' Z' S' G' E') :
    ∀ (f i : Nat) (D V Z S E G : Nat → Int32), i ≤ c → c - i < f → ia_Bo G → ia_Ps c st ti to k i DX VX ZX SX' EX GX D V Z S E G →
      wY_recompute_11 post J2 (nI k) f (nI i) cp (nI c) rI K P A B U D V Z S G E := by
  intro f
  induction f with
  | zero => intro i D V Z S E G _ hf; exact absurd hf (Nat.not_lt_zero _)
  | succ f ih =>
    intro i D V Z S E G hi hf hB hP
    by_cases e : i = c
    · subst e
      refine br_t (Int32.le_refl _) (fun x ex => ?_)
      rw [nI_1] at ex
      subst ex
      exact h _ _ _ _ _ _ (ia_Ps_end hP) hB
    · refine br_f (nI_ge (by omega) (by omega)) ?_
      refine yp_update hS hc (by omega) hB (fun D' V' Z' S' E' G' hU hB' => ?_)
      intro x ex
      rw [nI_1] at ex
      subst ex
      exact ih (i + 1) _ _ _ _ _ _ (by omega) (by omega) hB' (ia_Ps_step hS hc F (by omega) hP hU)
theorem yp_passes {post : SY → Prop} (hS : ia_Sh c K P A B U a b R) (hc : c ≤ 32) (F : ia_Done c K P A B U a b rt DX VX ZX SX' EX GX st ti to)
    (h : ∀ D' V' Z' S' E' G', ia_Ps c st ti to 170 0 DX VX ZX SX' EX GX D' V' Z' S' E' G' → ia_Bo G' → post (cp, nI c, rI, K, P, A, B, U, D', V', Z', S', G', E')) :
    ∀ (f k : Nat) (D V Z S E G : Nat → Int32), k ≤ 170 → 170 - k < f → ia_Bo G → ia_Ps c st ti to k 0 DX VX ZX SX' EX GX D V Z S E G →
      wY_recompute_2 post f (nI k) cp (nI c) rI K P A B U D V Z S G E := by
  intro f
  induction f with
  | zero => intro k D V Z S E G _ hf; exact absurd hf (Nat.not_lt_zero _)
  | succ f ih =>
    intro k D V Z S E G hk hf hB hP
    by_cases e : k = 170
    · subst e
      exact br_t (Int32.le_refl _) (h _ _ _ _ _ _ hP hB)
    · refine br_f (nI_ge (b := 170) (by omega) (by decide)) ⟨c + 1, ?_⟩
      exact yp_pass hS hc F (fun D' V' Z' S' E' G' hP' hB' => ih (k + 1) D' V' Z' S' E' G' (by omega) (by omega) hB' hP') (c + 1) 0 D V Z S E G (by omega) (by omega) hB hP
theorem yp_recompute {post : SY → Prop} (hS : ia_Sh c K P A B U a b R) (hc : c ≤ 32) (F : ia_Done c K P A B U a b rt DX VX ZX SX' EX GX st ti to) (hB : ia_Bo G)
    (h : ∀ D' V' Z' S' E' G', ia_Ps c st ti to 170 0 DX VX ZX SX' EX GX D' V' Z' S' E' G' → ia_Bo G' → post (cp, nI c, rI, K, P, A, B, U, D', V', Z', S', G', E')) :
    wpY_recompute post (cp, nI c, rI, K, P, A, B, U, D, V, Z, S, G, E) :=
  ⟨171, yp_passes hS hc F h 171 0 D V Z S E G (by omega) (by omega) hB ia_Ps_0⟩
end
end
