-- part 06: X's walk
section
variable {cp cn rI : Int32} {K P A B U D V Z S E G : Nat → Int32} {c n m : Nat} {a b R : Nat → Nat} {rt : Nat} {st ti to : Nat → Nat} {t : Nat} {fr : Int32}
theorem ia_vn {f : Nat → Int32} {k j : Nat} {x : Int32} : j ≠ k → upd f k x j = f j := fun h => if_neg h
theorem xp_finishLeaf {post : SX → Prop} (hS : ia_Sh c K P A B U a b R) (hc : c ≤ 32) (hn : n < c) (hk : K n = 1 ∨ K n = 2)
    (h : ∀ V' Z' S', (∀ j, j ≠ n → V' j = V j ∧ Z' j = Z j ∧ S' j = S j) → ia_ValF K P a b V Z S E G V' Z' S' n → post (cp, cn, rI, K, P, A, B, U, D, V', Z', S', E, G)) :
    wpX_finishLeaf post (cp, cn, rI, K, P, A, B, U, D, V, Z, S, E, G) (nI n) := by
  have hi := ia_in (n := n) (by omega)
  have e := ia_cl (n := n) (by omega)
  refine ⟨hi, fun S1 e1 => ⟨hi, ?_⟩⟩
  rw [e] at e1
  subst e1
  rw [e]
  by_cases k1 : K n = 1
  · refine br_t k1 ⟨hi, ⟨hi, fun V1 e2 => ⟨hi, fun Z1 e3 => ?_⟩⟩⟩
    subst e2 e3
    refine h _ _ _ (fun j hj => ⟨ia_un hj, ia_un hj, ia_un hj⟩) ⟨fun _ => ⟨ia_us, ia_us, ia_us⟩, fun k2 => ?_, fun k1' => absurd k1 k1'⟩
    rw [k1] at k2; exact absurd k2 (by decide)
  · have k2 : K n = 2 := by rcases hk with z | z; exact absurd z k1; exact z
    obtain ⟨x, hx, hP⟩ := hS.2.2.1 n hn (Or.inl k2)
    refine br_f k1 ⟨hi, fun y ey => ?_⟩
    rw [hP] at ey
    subst ey
    have i8 := ia_in8 (n := n) (by omega) hx
    refine ⟨i8, ?_⟩
    have c8 := ia_cl8 (n := n) (by omega) hx
    have hxu : ∀ x', x' < 8 → P n = nI x' → x' = x := fun x' hx' hp => ia_inj (by omega) (by omega) (hp.symm.trans hP)
    by_cases g : G (n * 8 + x) = 0
    · refine br_t (by rw [c8]; exact g) ⟨hi, fun V1 e2 => ⟨i8, br_t (by rw [c8]; exact g) ⟨hi, fun Z1 e3 => ?_⟩⟩⟩
      rw [e] at e2 e3
      subst e2 e3
      refine h _ _ _ (fun j hj => ⟨ia_un hj, ia_un hj, ia_un hj⟩) ⟨fun z => absurd z k1, fun _ x' hx' hp => ?_, fun _ k2' => absurd k2 k2'⟩
      rw [hxu x' hx' hp]
      exact ⟨ia_us, fun _ => ⟨ia_us, ia_us⟩, fun z => absurd g z⟩
    · refine br_f (by rw [c8]; exact g) ⟨i8, ⟨hi, fun V1 e2 => ⟨i8, br_f (by rw [c8]; exact g) ⟨hi, fun Z1 e3 => ?_⟩⟩⟩⟩
      rw [e] at e2 e3
      rw [c8] at e2
      subst e2 e3
      refine h _ _ _ (fun j hj => ⟨ia_un hj, ia_un hj, ia_un hj⟩) ⟨fun z => absurd z k1, fun _ x' hx' hp => ?_, fun _ k2' => absurd k2 k2'⟩
      rw [hxu x' hx' hp]
      exact ⟨ia_us, fun z => absurd z g, fun _ => ⟨ia_us, ia_us⟩⟩
theorem xp_finishInner {post : SX → Prop} (hS : ia_Sh c K P A B U a b R) (hc : c ≤ 32) (hn : n < c) (k1 : K n ≠ 1) (k2 : K n ≠ 2)
    (h : ∀ V' Z' S', (∀ j, j ≠ n → V' j = V j ∧ Z' j = Z j ∧ S' j = S j) → ia_ValF K P a b V Z S E G V' Z' S' n → post (cp, cn, rI, K, P, A, B, U, D, V', Z', S', E, G)) :
    wpX_finishInner post (cp, cn, rI, K, P, A, B, U, D, V, Z, S, E, G) (nI n) := by
  have hi := ia_in (n := n) (by omega)
  have e := ia_cl (n := n) (by omega)
  obtain ⟨hA, hB, ha, hb, _, _, _⟩ := hS.2.2.2.1 n hn k1 k2
  have ia := ia_in (n := a n) (by omega)
  have ib := ia_in (n := b n) (by omega)
  have ea := ia_cl (n := a n) (by omega)
  have eb := ia_cl (n := b n) (by omega)
  have hk : K n = 3 ∨ K n = 4 ∨ K n = 5 ∨ K n = 6 := by
    rcases hS.2.1 n hn with z | z | z | z | z | z
    · exact absurd z k1
    · exact absurd z k2
    · exact Or.inl z
    · exact Or.inr (Or.inl z)
    · exact Or.inr (Or.inr (Or.inl z))
    · exact Or.inr (Or.inr (Or.inr z))
  refine ⟨hi, fun x ex => ⟨hi, fun y ey => ?_⟩⟩
  rw [e, hA] at ex
  rw [e, hB] at ey
  subst ex ey
  refine ⟨ia, ⟨ib, ⟨hi, fun S1 e1 => ⟨ia, ⟨ib, ⟨hi, fun Z1 e2 => ⟨hi, ⟨ia, ⟨ib, ?_⟩⟩⟩⟩⟩⟩⟩⟩⟩
  rw [e, ea, eb] at e1 e2
  subst e1 e2
  rw [e, ea, eb]
  refine xp_combine hk ⟨hi, fun V1 e3 => ?_⟩
  subst e3
  exact h _ _ _ (fun j hj => ⟨ia_un hj, ia_un hj, ia_un hj⟩) ⟨fun z => absurd z k1, fun z => absurd z k2, fun _ _ => ⟨ia_us, ia_us, ia_us⟩⟩
/-- one stop of the walk -/
theorem xp_visit {post : Int32 → SX → Prop} (hS : ia_Sh c K P A B U a b R) (hc : c ≤ 32) (hr : U rt = -1) (hB : ia_Bo G) (hn : n < c)
    (W : ia_Wk c K P A B U a b R rt D V Z S E G st ti to t (nI n) fr)
    (h : ∀ nx D' V' Z' S' E' G' st' ti' to', ia_Wk c K P A B U a b R rt D' V' Z' S' E' G' st' ti' to' (t + 1) nx (nI n) → ia_Bo G' → post nx (cp, cn, rI, K, P, A, B, U, D', V', Z', S', E', G')) :
    wpX_visit post (cp, cn, rI, K, P, A, B, U, D, V, Z, S, E, G) (nI n) fr := by
  have hi := ia_in (n := n) (by omega)
  have e := ia_cl (n := n) (by omega)
  have w6 : (st n = 0 ∧ fr = U n) ∨ (K n ≠ 1 ∧ K n ≠ 2 ∧ st n = 1 ∧ fr = A n ∧ st (a n) = 3) ∨ (K n ≠ 1 ∧ K n ≠ 2 ∧ st n = 2 ∧ fr = B n ∧ st (b n) = 3) := by
    rcases W.2.2.2.2.2.1 with ⟨z, _⟩ | ⟨n', hn', z, w⟩
    · exact absurd z (ia_ne (by omega))
    · have : n = n' := ia_inj (by omega) (by omega) z
      subst this; exact w
  unfold wpX_visit
  refine xp_isLeaf (by omega) (fun hk => ?_) (fun k1 k2 => ?_)
  · refine br_f (by decide) (xp_finishLeaf hS hc hn hk (fun V' Z' S' hV hF => ?_))
    refine ⟨hi, ?_⟩
    rw [e]
    have s0 : st n = 0 := by
      rcases w6 with ⟨z, _⟩ | ⟨y1, y2, _⟩ | ⟨y1, y2, _⟩
      · exact z
      · rcases hk with z | z; exact absurd z y1; exact absurd z y2
      · rcases hk with z | z; exact absurd z y1; exact absurd z y2
    refine h _ _ _ _ _ _ _ _ _ _ (ia_finish hS hc hr W hn (by omega) (fun y1 y2 => ?_) hV hF) hB
    rcases hk with z | z; exact absurd z y1; exact absurd z y2
  · obtain ⟨hA, hBn, ha, hb, hab, hUa, hUb⟩ := hS.2.2.2.1 n hn k1 k2
    have nU : ∀ q, q < c → U q = nI n → ¬ nI q = U n := by
      intro q hq hu z
      have r1 := (ia_par hS hc hq hn hu).1
      have r2 := (ia_par hS hc hn hq z.symm).1
      omega
    have han : n ≠ a n := by intro z; have := (ia_par hS hc ha hn hUa).1; rw [← z] at this; omega
    have hbn : n ≠ b n := by intro z; have := (ia_par hS hc hb hn hUb).1; rw [← z] at this; omega
    refine br_t rfl ⟨hi, ?_⟩
    rw [e]
    rcases w6 with ⟨s, f⟩ | ⟨_, _, s, f, sa⟩ | ⟨_, _, s, f, sb⟩
    · refine br_t f ⟨hi, ?_⟩
      rw [hA]
      refine xp_inherit (by omega) (by omega) han hB (fun E' G' hE hG hB' => ⟨hi, ?_⟩)
      rw [hA]
      refine h _ _ _ _ _ _ _ _ _ _ (ia_enter hS hc hr W hn k1 k2 (m := a n) (Or.inl ⟨s, rfl⟩) (fun j hj => ia_un hj) ia_us (fun j x hj hx => ⟨hE.2 j x hj hx, hG.2 j x hj hx⟩) (fun x hx => ⟨fun z => absurd z.2.1.symm hab, fun _ => ⟨hE.1 x hx, hG.1 x hx⟩⟩)) hB'
    · refine br_f (by rw [f, hA]; exact nU _ ha hUa) ⟨hi, ?_⟩
      refine br_t f ⟨hi, ?_⟩
      rw [hBn]
      refine xp_inherit (by omega) (by omega) hbn hB (fun E' G' hE hG hB' => ⟨hi, ?_⟩)
      by_cases k6 : K n = 6
      · obtain ⟨x, hx, hP⟩ := hS.2.2.1 n hn (Or.inr k6)
        refine br_t k6 (xp_bind (by omega) hA (by omega) hBn (by omega) hP hx ⟨hi, ?_⟩)
        rw [hBn]
        refine h _ _ _ _ _ _ _ _ _ _ (ia_enter hS hc hr W hn k1 k2 (m := b n) (Or.inr ⟨s, sa, rfl⟩) (fun j hj => ia_un hj) ia_us (fun j y hj hy => ?_) (fun y hy => ⟨fun z => ?_, fun z => ?_⟩)) (ia_Bo_u hB' (Or.inr rfl))
        · rw [ia_un (by omega), ia_un (by omega)]; exact ⟨hE.2 j y hj hy, hG.2 j y hj hy⟩
        · have : x = y := ia_inj (by omega) (by omega) (hP.symm.trans z.2.2)
          subst this
          exact ⟨ia_us, ia_us⟩
        · have : y ≠ x := fun q => z ⟨k6, rfl, by rw [q]; exact hP⟩
          rw [ia_un (by omega), ia_un (by omega)]; exact ⟨hE.1 y hy, hG.1 y hy⟩
      · refine br_f k6 ⟨hi, ?_⟩
        rw [hBn]
        refine h _ _ _ _ _ _ _ _ _ _ (ia_enter hS hc hr W hn k1 k2 (m := b n) (Or.inr ⟨s, sa, rfl⟩) (fun j hj => ia_un hj) ia_us (fun j x hj hx => ⟨hE.2 j x hj hx, hG.2 j x hj hx⟩) (fun x hx => ⟨fun z => absurd z.1 k6, fun _ => ⟨hE.1 x hx, hG.1 x hx⟩⟩)) hB'
    · refine br_f (by rw [f, hBn]; exact nU _ hb hUb) ⟨hi, ?_⟩
      refine br_f (fun z => hab ?_) ?_
      · rw [f, hA, hBn] at z
        exact (ia_inj (by omega) (by omega) z).symm
      · refine xp_finishInner hS hc hn k1 k2 (fun V' Z' S' hV hF => ⟨hi, ?_⟩)
        exact h _ _ _ _ _ _ _ _ _ _ (ia_finish hS hc hr W hn (by omega) (fun _ _ => ⟨s, sb⟩) hV hF) hB
theorem xp_loop {post : SX → Prop} (hS : ia_Sh c K P A B U a b R) (hc : c ≤ 32) (hr : U rt = -1) (hrt : rt < c)
    (h : ∀ D' V' Z' S' E' G' st' ti' to', ia_Done c K P A B U a b rt D' V' Z' S' E' G' st' ti' to' → ia_Bo G' → post (cp, cn, rI, K, P, A, B, U, D', V', Z', S', E', G')) :
    ∀ (f t : Nat) (cur fr : Int32) (D V Z S E G : Nat → Int32) (st ti to : Nat → Nat), t ≤ 96 → 96 - t < f → ia_Bo G →
      ia_Wk c K P A B U a b R rt D V Z S E G st ti to t cur fr → wX_evaluateTree_17 post f fr cur (nI t) cp cn rI K P A B U D V Z S E G := by
  intro f
  induction f with
  | zero => intro t cur fr D V Z S E G st ti to _ hf; exact absurd hf (Nat.not_lt_zero _)
  | succ f ih =>
    intro t cur fr D V Z S E G st ti to ht hf hB W
    rcases W.2.2.2.2.2.1 with ⟨z, _⟩ | ⟨n, hn, z, _⟩
    · subst z
      have d := h _ _ _ _ _ _ _ _ _ (ia_end hS hc hr W hrt ht) hB
      exact br_c (fun _ => d) (fun _ => br_t rfl d)
    · subst z
      have t96 := ia_stops hc W hn
      refine br_f (nI_ge (b := 96) t96 (by decide)) (br_f (ia_ne (by omega)) ?_)
      refine xp_visit hS hc hr hB hn W (fun nx D' V' Z' S' E' G' st' ti' to' W' hB' => ?_)
      intro x ex
      rw [nI_1] at ex
      subst ex
      exact ih (t + 1) _ _ _ _ _ _ _ _ _ _ _ (by omega) (by omega) hB' W'
theorem xp_evaluate {post : SX → Prop} (hS : ia_Sh c K P A B U a b R) (hc : c ≤ 32) (hr : U rt = -1) (hrt : rt < c) (hB : ia_Bo G)
    (h : ∀ D' V' Z' S' E' G' st' ti' to', ia_Done c K P A B U a b rt D' V' Z' S' E' G' st' ti' to' → ia_Bo G' → post (cp, nI c, nI rt, K, P, A, B, U, D', V', Z', S', E', G')) :
    wpX_evaluateTree post (cp, nI c, nI rt, K, P, A, B, U, D, V, Z, S, E, G) := by
  unfold wpX_evaluateTree
  refine xp_detachAll hc (fun D1 hD1 => ?_)
  refine xp_startRoot (by omega) hB (fun E1 G1 hE hG hB1 => ?_)
  refine ⟨97, ?_⟩
  refine xp_loop hS hc hr hrt h 97 0 (nI rt) (-1) _ _ _ _ _ _ _ _ _ (by omega) (by omega) hB1 (ia_begin hS hc hr hrt (fun q hq hne => ?_) ia_us (fun x hx => ⟨hE.1 x hx, hG.1 x hx⟩))
  rw [ia_un hne]; exact hD1 q hq
end
