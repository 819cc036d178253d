-- part 02: the walk over the root's tree, as a pure invariant with a state st (0 not entered, 1 in slot 0, 2 in slot 1, 3 done) and times ti, to a node
def ia_Wk (c : Nat) (K P A B U : Nat → Int32) (a b R : Nat → Nat) (rt : Nat) (D V Z S E G : Nat → Int32) (st ti to : Nat → Nat) (t : Nat) (cur fr : Int32) : Prop :=
  (t ≤ ia_sm st c) ∧
  (∀ m, m < c → st m ≤ 3) ∧
  (∀ m, m < c → K m ≠ 1 → K m ≠ 2 → (st m = 0 → st (a m) = 0 ∧ st (b m) = 0) ∧ (st m = 1 → st (b m) = 0) ∧ (st m = 2 → st (a m) = 3) ∧ (st m = 3 → st (a m) = 3 ∧ st (b m) = 3)) ∧
  (∀ m, m < c → (st m = 1 ∨ st m = 2 ∨ cur = nI m) → m = rt ∨ ∃ p, p < c ∧ U m = nI p ∧ ((a p = m ∧ st p = 1) ∨ (b p = m ∧ st p = 2))) ∧
  (∀ m, m < c → st m = 3 → m = rt ∨ ∃ p, p < c ∧ U m = nI p ∧ st p ≠ 0) ∧
  ((cur = -1 ∧ st rt = 3) ∨ ∃ n, n < c ∧ cur = nI n ∧ ((st n = 0 ∧ fr = U n) ∨ (K n ≠ 1 ∧ K n ≠ 2 ∧ st n = 1 ∧ fr = A n ∧ st (a n) = 3) ∨ (K n ≠ 1 ∧ K n ≠ 2 ∧ st n = 2 ∧ fr = B n ∧ st (b n) = 3))) ∧
  (∀ m, m < c → (st m ≠ 0 ∨ cur = nI m) → ia_EnvF c K P U a b D E G V D E G m ∧ (∃ d, d + R m ≤ 32 ∧ D m = nI d) ∧ ti m ≤ t ∧ (∀ p, p < c → U m = nI p → ti p < ti m ∧ (b p = m → to (a p) < ti m))) ∧
  (∀ m, m < c → st m = 3 → ia_ValF K P a b V Z S E G V Z S m ∧ to m ≤ t ∧ ti m < to m ∧ (K m ≠ 1 → K m ≠ 2 → to (a m) < to m ∧ to (b m) < to m)) ∧
  (∀ m, m < c → st m = 0 → cur ≠ nI m → D m = -1)
section
variable {c : Nat} {K P A B U : Nat → Int32} {a b R : Nat → Nat} {rt : Nat} {D V Z S E G D' V' Z' S' E' G' : Nat → Int32} {st ti to : Nat → Nat} {t n m : Nat} {cur fr : Int32}
/-- a node's parent holds it in a slot, is an inner node, and has the greater rank -/
theorem ia_par (hS : ia_Sh c K P A B U a b R) (hc : c ≤ 32) {q p : Nat} (hq : q < c) (hp : p < c) (h : U q = nI p) : R q < R p ∧ K p ≠ 1 ∧ K p ≠ 2 ∧ (a p = q ∨ b p = q) := by
  obtain ⟨_, _, _, _, h5⟩ := hS
  rcases h5 q hq with e | ⟨p', hp', e, hr, k1, k2, hs⟩
  · rw [e] at h; exact absurd h.symm (ia_ne (by omega))
  · have : p' = p := ia_inj (by omega) (by omega) (e.symm.trans h)
    subst this; exact ⟨hr, k1, k2, hs⟩
theorem ia_uniq (hc : c ≤ 32) {q p p' : Nat} (hp : p < c) (hp' : p' < c) (h : U q = nI p) (h' : U q = nI p') : p' = p :=
  ia_inj (by omega) (by omega) (h'.symm.trans h)
theorem ia_nroot (hc : c ≤ 32) (hr : U rt = -1) {q p : Nat} (hp : p < c) (h : U q = nI p) : q ≠ rt := by
  intro e; rw [e, hr] at h; exact ia_ne (by omega) h.symm
theorem ia_EnvF_c {D0 E0 G0 V0 D1 E1 G1 D0' E0' G0' V0' D1' E1' G1' : Nat → Int32} {q : Nat}
    (h : ia_EnvF c K P U a b D0 E0 G0 V0 D1 E1 G1 q) (hD : D1' q = D1 q) (hE : ∀ x, x < 8 → E1' (q * 8 + x) = E1 (q * 8 + x) ∧ G1' (q * 8 + x) = G1 (q * 8 + x))
    (hp : ∀ p, p < c → U q = nI p → D0' p = D0 p ∧ (∀ x, x < 8 → E0' (p * 8 + x) = E0 (p * 8 + x) ∧ G0' (p * 8 + x) = G0 (p * 8 + x)) ∧ (K p = 6 → b p = q → V0' (a p) = V0 (a p))) :
    ia_EnvF c K P U a b D0' E0' G0' V0' D1' E1' G1' q := by
  obtain ⟨h1, h2⟩ := h
  refine ⟨fun e => ⟨hD.trans (h1 e).1, fun x hx => ⟨(hE x hx).1.trans ((h1 e).2 x hx).1, (hE x hx).2.trans ((h1 e).2 x hx).2⟩⟩, fun p hpc hu => ?_⟩
  obtain ⟨p1, p2, p3⟩ := hp p hpc hu
  obtain ⟨d, f⟩ := h2 p hpc hu
  refine ⟨by rw [hD, p1]; exact d, fun x hx => ⟨fun e => ?_, fun e => ?_⟩⟩
  · obtain ⟨f1, f2⟩ := (f x hx).1 e
    exact ⟨by rw [(hE x hx).1, p3 e.1 e.2.1]; exact f1, by rw [(hE x hx).2]; exact f2⟩
  · obtain ⟨f1, f2⟩ := (f x hx).2 e
    exact ⟨by rw [(hE x hx).1, (p2 x hx).1]; exact f1, by rw [(hE x hx).2, (p2 x hx).2]; exact f2⟩
theorem ia_ValF_c {V0 Z0 S0 V1 Z1 S1 V0' Z0' S0' V1' Z1' S1' : Nat → Int32} {q : Nat}
    (h : ia_ValF K P a b V0 Z0 S0 E G V1 Z1 S1 q) (hV : V1' q = V1 q ∧ Z1' q = Z1 q ∧ S1' q = S1 q) (hE : ∀ x, x < 8 → E' (q * 8 + x) = E (q * 8 + x) ∧ G' (q * 8 + x) = G (q * 8 + x))
    (hs : K q ≠ 1 → K q ≠ 2 → (V0' (a q) = V0 (a q) ∧ Z0' (a q) = Z0 (a q) ∧ S0' (a q) = S0 (a q)) ∧ (V0' (b q) = V0 (b q) ∧ Z0' (b q) = Z0 (b q) ∧ S0' (b q) = S0 (b q))) :
    ia_ValF K P a b V0' Z0' S0' E' G' V1' Z1' S1' q := by
  obtain ⟨h1, h2, h3⟩ := h
  obtain ⟨v1, v2, v3⟩ := hV
  refine ⟨fun k => ?_, fun k x hx hp => ?_, fun k k' => ?_⟩
  · rw [v1, v2, v3]; exact h1 k
  · obtain ⟨e1, e2⟩ := hE x hx
    rw [v1, v2, v3, e1, e2]; exact h2 k x hx hp
  · obtain ⟨⟨x1, x2, x3⟩, y1, y2, y3⟩ := hs k k'
    rw [v1, v2, v3, x1, x2, x3, y1, y2, y3]; exact h3 k k'
/-- what the walk has entered has a parent that it has entered too -/
theorem ia_ent (hc : c ≤ 32) (hr : U rt = -1) (W : ia_Wk c K P A B U a b R rt D V Z S E G st ti to t cur fr) {q p : Nat} (hq : q < c) (he : st q ≠ 0 ∨ cur = nI q) (hp : p < c) (hu : U q = nI p) : st p ≠ 0 := by
  obtain ⟨_, w2, _, w4, w5, _⟩ := W
  by_cases h3 : st q = 3
  · rcases w5 q hq h3 with e | ⟨p', hp', hu', hs⟩
    · exact absurd e (ia_nroot hc hr hp hu)
    · rw [← ia_uniq hc hp hp' hu hu']; exact hs
  · have h12 : st q = 1 ∨ st q = 2 ∨ cur = nI q := by
      have := w2 q hq
      rcases he with e | e
      · omega
      · exact Or.inr (Or.inr e)
    rcases w4 q hq h12 with e | ⟨p', hp', hu', hs⟩
    · exact absurd e (ia_nroot hc hr hp hu)
    · rw [← ia_uniq hc hp hp' hu hu']
      rcases hs with ⟨_, e⟩ | ⟨_, e⟩ <;> omega
/-- the state of the parent of the walk's node -/
theorem ia_pn (hS : ia_Sh c K P A B U a b R) (hc : c ≤ 32) (hr : U rt = -1) (W : ia_Wk c K P A B U a b R rt D V Z S E G st ti to t (nI n) fr) (hn : n < c) {q : Nat} (hq : q < c) (k1 : K q ≠ 1) (k2 : K q ≠ 2) :
    (a q = n → st q = 1) ∧ (b q = n → st q = 2) := by
  obtain ⟨_, _, _, w4, _⟩ := W
  obtain ⟨_, _, _, _, hab, hUa, hUb⟩ := hS.2.2.2.1 q hq k1 k2
  constructor
  · intro e
    rw [e] at hUa
    rcases w4 n hn (Or.inr (Or.inr rfl)) with e' | ⟨p', hp', hu', hs⟩
    · exact absurd e' (ia_nroot hc hr hq hUa)
    · have := ia_uniq hc hq hp' hUa hu'
      subst this
      rcases hs with ⟨_, s⟩ | ⟨x, _⟩
      · exact s
      · exact absurd (e.trans x.symm) hab
  · intro e
    rw [e] at hUb
    rcases w4 n hn (Or.inr (Or.inr rfl)) with e' | ⟨p', hp', hu', hs⟩
    · exact absurd e' (ia_nroot hc hr hq hUb)
    · have := ia_uniq hc hq hp' hUb hu'
      subst this
      rcases hs with ⟨x, _⟩ | ⟨_, s⟩
      · exact absurd (x.trans e.symm) hab
      · exact s
/-- the walk goes down from n into its child m -/
theorem ia_enter (hS : ia_Sh c K P A B U a b R) (hc : c ≤ 32) (hr : U rt = -1) (W : ia_Wk c K P A B U a b R rt D V Z S E G st ti to t (nI n) fr)
    (hn : n < c) (k1 : K n ≠ 1) (k2 : K n ≠ 2) (hm : (st n = 0 ∧ m = a n) ∨ (st n = 1 ∧ st (a n) = 3 ∧ m = b n))
    (hD : ∀ j, j ≠ m → D' j = D j) (hDm : D' m = D n + 1)
    (hE : ∀ j x, j ≠ m → x < 8 → E' (j * 8 + x) = E (j * 8 + x) ∧ G' (j * 8 + x) = G (j * 8 + x))
    (hEm : ∀ x, x < 8 → ((K n = 6 ∧ b n = m ∧ P n = nI x) → E' (m * 8 + x) = V (a n) ∧ G' (m * 8 + x) = 1) ∧
      (¬ (K n = 6 ∧ b n = m ∧ P n = nI x) → E' (m * 8 + x) = E (n * 8 + x) ∧ G' (m * 8 + x) = G (n * 8 + x))) :
    ia_Wk c K P A B U a b R rt D' V Z S E' G' (ia_up st n (st n + 1)) (ia_up ti m (t + 1)) to (t + 1) (nI m) (nI n) := by
  have W' := W
  obtain ⟨w1, w2, w3, w4, w5, _, w7, w8, w9⟩ := W
  obtain ⟨hA, hB, ha, hb, hab, hUa, hUb⟩ := hS.2.2.2.1 n hn k1 k2
  have hmc : m < c := by rcases hm with ⟨_, e⟩ | ⟨_, _, e⟩ <;> rw [e] <;> assumption
  have hUm : U m = nI n := by rcases hm with ⟨_, e⟩ | ⟨_, _, e⟩ <;> rw [e] <;> assumption
  have hRm : R m < R n := (ia_par hS hc hmc hn hUm).1
  have hmn : m ≠ n := by intro e; rw [e] at hRm; omega
  have han : a n ≠ n := by intro e; rw [e] at hUa; have := (ia_par hS hc hn hn hUa).1; omega
  have hbn : b n ≠ n := by intro e; rw [e] at hUb; have := (ia_par hS hc hn hn hUb).1; omega
  have hsm : st m = 0 := by
    have w := w3 n hn k1 k2
    rcases hm with ⟨h0, e⟩ | ⟨h1, _, e⟩
    · rw [e]; exact (w.1 h0).1
    · rw [e]; exact w.2.1 h1
  have hsn : st n ≤ 1 := by rcases hm with ⟨h0, _⟩ | ⟨h1, _, _⟩ <;> omega
  have pn := fun q hq k1 k2 => ia_pn hS hc hr W' hn (q := q) hq k1 k2
  have inj : ∀ q, q < c → nI m = nI q → q = m := fun q hq e => (ia_inj (by omega) (by omega) e).symm
  refine ⟨?_, ?_, ?_, ?_, ?_, ?_, ?_, ?_, ?_⟩
  · have := ia_sm_up (f := st) (j := n) (v := st n + 1) c hn
    omega
  · intro q hq
    by_cases e : q = n
    · subst e; rw [ia_ups]; omega
    · rw [ia_upn e]; exact w2 q hq
  · intro q hq x1 x2
    by_cases e : q = n
    · subst e
      rw [ia_ups, ia_upn han, ia_upn hbn]
      refine ⟨fun h => absurd h (by omega), fun h => ((w3 q hq x1 x2).1 (by omega)).2, fun h => ?_, fun h => absurd h (by omega)⟩
      rcases hm with ⟨h0, _⟩ | ⟨_, h3, _⟩
      · omega
      · exact h3
    · obtain ⟨p1, p2⟩ := pn q hq x1 x2
      obtain ⟨y0, y1, y2, y3⟩ := w3 q hq x1 x2
      rw [ia_upn e]
      refine ⟨fun h => ?_, fun h => ?_, fun h => ?_, fun h => ?_⟩
      · rw [ia_upn (fun z => by have := p1 z; omega), ia_upn (fun z => by have := p2 z; omega)]; exact y0 h
      · rw [ia_upn (fun z => by have := p2 z; omega)]; exact y1 h
      · rw [ia_upn (fun z => by have := p1 z; omega)]; exact y2 h
      · rw [ia_upn (fun z => by have := p1 z; omega), ia_upn (fun z => by have := p2 z; omega)]; exact y3 h
  · intro q hq hs
    by_cases e : q = m
    · subst e
      refine Or.inr ⟨n, hn, hUm, ?_⟩
      rw [ia_ups]
      rcases hm with ⟨h0, e⟩ | ⟨h1, _, e⟩
      · exact Or.inl ⟨e.symm, by omega⟩
      · exact Or.inr ⟨e.symm, by omega⟩
    · have old : st q = 1 ∨ st q = 2 ∨ nI n = nI q := by
        by_cases en : q = n
        · exact Or.inr (Or.inr (by rw [en]))
        · rw [ia_upn en] at hs
          rcases hs with h | h | h
          · exact Or.inl h
          · exact Or.inr (Or.inl h)
          · exact absurd (inj q hq h) e
      rcases w4 q hq old with h | ⟨p, hp, hu, hs'⟩
      · exact Or.inl h
      · have hpn : p ≠ n := by
          intro z
          subst z
          have hqn : q ≠ p := by intro z; have := (ia_par hS hc hq hp hu).1; rw [z] at this; omega
          rw [ia_upn hqn] at hs
          rcases hs' with ⟨x, s⟩ | ⟨x, s⟩
          · rcases hm with ⟨h0, _⟩ | ⟨_, h3, _⟩
            · omega
            · rw [x] at h3
              rcases hs with h | h | h
              · omega
              · omega
              · exact e (inj q hq h)
          · omega
        exact Or.inr ⟨p, hp, hu, by rw [ia_upn hpn]; exact hs'⟩
  · intro q hq hs
    by_cases e : q = n
    · subst e; rw [ia_ups] at hs; omega
    · rw [ia_upn e] at hs
      rcases w5 q hq hs with h | ⟨p, hp, hu, hs'⟩
      · exact Or.inl h
      · refine Or.inr ⟨p, hp, hu, ?_⟩
        by_cases z : p = n
        · subst z; rw [ia_ups]; omega
        · rw [ia_upn z]; exact hs'
  · exact Or.inr ⟨m, hmc, rfl, Or.inl ⟨by rw [ia_upn hmn]; exact hsm, hUm.symm⟩⟩
  · intro q hq hs
    by_cases e : q = m
    · subst e
      obtain ⟨f, ⟨d, hd, hDn⟩, ht, _⟩ := w7 n hn (Or.inr rfl)
      refine ⟨⟨fun z => ?_, fun p hp hu => ?_⟩, ⟨d + 1, by omega, by rw [hDm, hDn, nI_1]⟩, by rw [ia_ups]; exact Nat.le_refl _, fun p hp hu => ?_⟩
      · rw [hUm] at z; exact absurd z (ia_ne (by omega))
      · have := ia_uniq hc hn hp hUm hu
        subst this
        refine ⟨by rw [hDm, hD p (fun z => hmn z.symm)], fun x hx => ⟨(hEm x hx).1, fun z => ?_⟩⟩
        obtain ⟨g1, g2⟩ := hE p x (fun z => hmn z.symm) hx
        rw [g1, g2]
        exact (hEm x hx).2 z
      · have := ia_uniq hc hn hp hUm hu
        subst this
        rw [ia_ups, ia_upn (fun z => hmn z.symm)]
        refine ⟨by omega, fun z => ?_⟩
        rcases hm with ⟨_, y⟩ | ⟨_, h3, _⟩
        · exact absurd (y.symm.trans z.symm) hab
        · have := (w8 (a p) ha h3).2.1
          omega
    · have old : st q ≠ 0 ∨ nI n = nI q := by
        by_cases en : q = n
        · exact Or.inr (by rw [en])
        · rw [ia_upn en] at hs
          rcases hs with h | h
          · exact Or.inl h
          · exact absurd (inj q hq h) e
      obtain ⟨f, ⟨d, hd, hDq⟩, ht, hti⟩ := w7 q hq old
      have hpm : ∀ p, p < c → U q = nI p → p ≠ m := by
        intro p hp hu z
        have := ia_ent hc hr W' hq old hp hu
        rw [z] at this
        exact this hsm
      refine ⟨ia_EnvF_c f (hD q e) (fun x hx => hE q x e hx) (fun p hp hu => ⟨hD p (hpm p hp hu), fun x hx => hE p x (hpm p hp hu) hx, fun _ _ => rfl⟩), ⟨d, hd, by rw [hD q e]; exact hDq⟩, by rw [ia_upn e]; omega, fun p hp hu => ?_⟩
      rw [ia_upn e, ia_upn (hpm p hp hu)]
      exact hti p hp hu
  · intro q hq hs
    have en : q ≠ n := by intro z; subst z; rw [ia_ups] at hs; omega
    rw [ia_upn en] at hs
    have em : q ≠ m := by intro z; subst z; omega
    obtain ⟨f, h1, h2, h3⟩ := w8 q hq hs
    exact ⟨ia_ValF_c f ⟨rfl, rfl, rfl⟩ (fun x hx => hE q x em hx) (fun _ _ => ⟨⟨rfl, rfl, rfl⟩, rfl, rfl, rfl⟩), by omega, by rw [ia_upn em]; exact h2, h3⟩
  · intro q hq hs hcu
    have en : q ≠ n := by intro z; subst z; rw [ia_ups] at hs; omega
    have em : q ≠ m := by intro z; subst z; exact hcu rfl
    rw [ia_upn en] at hs
    rw [hD q em]
    exact w9 q hq hs (fun z => en (ia_inj (by omega) (by omega) z).symm)
/-- the walk is through with n and goes up -/
theorem ia_finish (hS : ia_Sh c K P A B U a b R) (hc : c ≤ 32) (hr : U rt = -1) (W : ia_Wk c K P A B U a b R rt D V Z S E G st ti to t (nI n) fr)
    (hn : n < c) (hst : st n ≤ 2) (hin : K n ≠ 1 → K n ≠ 2 → st n = 2 ∧ st (b n) = 3)
    (hV : ∀ j, j ≠ n → V' j = V j ∧ Z' j = Z j ∧ S' j = S j) (hF : ia_ValF K P a b V Z S E G V' Z' S' n) :
    ia_Wk c K P A B U a b R rt D V' Z' S' E G (ia_up st n 3) ti (ia_up to n (t + 1)) (t + 1) (U n) (nI n) := by
  have W' := W
  obtain ⟨w1, w2, w3, w4, w5, _, w7, w8, w9⟩ := W
  have pn := fun q hq k1 k2 => ia_pn hS hc hr W' hn (q := q) hq k1 k2
  have hUn : ∀ q, q < c → U n = nI q → q ≠ n ∧ (st q = 1 ∨ st q = 2) := by
    intro q hq hu
    obtain ⟨r1, k1, k2, hs⟩ := ia_par hS hc hn hq hu
    refine ⟨fun z => by rw [z] at r1; omega, ?_⟩
    rcases hs with h | h
    · exact Or.inl ((pn q hq k1 k2).1 h)
    · exact Or.inr ((pn q hq k1 k2).2 h)
  refine ⟨?_, ?_, ?_, ?_, ?_, ?_, ?_, ?_, ?_⟩
  · have := ia_sm_up (f := st) (j := n) (v := 3) c hn
    omega
  · intro q hq
    by_cases e : q = n
    · subst e; rw [ia_ups]; omega
    · rw [ia_upn e]; exact w2 q hq
  · intro q hq x1 x2
    obtain ⟨y0, y1, y2, y3⟩ := w3 q hq x1 x2
    by_cases e : q = n
    · subst e
      obtain ⟨_, _, _, _, _, hUa, hUb⟩ := hS.2.2.2.1 q hq x1 x2
      have han : a q ≠ q := by intro e; rw [e] at hUa; have := (ia_par hS hc hq hq hUa).1; omega
      have hbn : b q ≠ q := by intro e; rw [e] at hUb; have := (ia_par hS hc hq hq hUb).1; omega
      obtain ⟨s2, s3⟩ := hin x1 x2
      rw [ia_ups, ia_upn han, ia_upn hbn]
      exact ⟨fun h => absurd h (by omega), fun h => absurd h (by omega), fun h => absurd h (by omega), fun _ => ⟨y2 s2, s3⟩⟩
    · obtain ⟨p1, p2⟩ := pn q hq x1 x2
      rw [ia_upn e]
      refine ⟨fun h => ?_, fun h => ?_, fun h => ?_, fun h => ?_⟩
      · rw [ia_upn (fun z => by have := p1 z; omega), ia_upn (fun z => by have := p2 z; omega)]; exact y0 h
      · rw [ia_upn (fun z => by have := p2 z; omega)]; exact y1 h
      · rw [ia_upn (fun z => by have := p1 z; omega)]; exact y2 h
      · rw [ia_upn (fun z => by have := p1 z; omega), ia_upn (fun z => by have := p2 z; omega)]; exact y3 h
  · intro q hq hs
    have en : q ≠ n := by
      intro z
      subst z
      rw [ia_ups] at hs
      rcases hs with h | h | h
      · omega
      · omega
      · exact (hUn q hq h).1 rfl
    rw [ia_upn en] at hs
    have old : st q = 1 ∨ st q = 2 := by
      rcases hs with h | h | h
      · exact Or.inl h
      · exact Or.inr h
      · exact (hUn q hq h).2
    rcases w4 q hq (by rcases old with h | h; exact Or.inl h; exact Or.inr (Or.inl h)) with h | ⟨p, hp, hu, hs'⟩
    · exact Or.inl h
    · have hpn : p ≠ n := by
        intro z
        subst z
        obtain ⟨_, k1, k2, _⟩ := ia_par hS hc hq hp hu
        obtain ⟨s2, s3⟩ := hin k1 k2
        rcases hs' with ⟨x, s⟩ | ⟨x, s⟩
        · omega
        · have s4 : st q = 3 := by rw [← x]; exact s3
          rcases old with h | h
          · rw [h] at s4; exact absurd s4 (by decide)
          · rw [h] at s4; exact absurd s4 (by decide)
      exact Or.inr ⟨p, hp, hu, by rw [ia_upn hpn]; exact hs'⟩
  · intro q hq hs
    by_cases e : q = n
    · subst e
      rcases w4 q hq (Or.inr (Or.inr rfl)) with h | ⟨p, hp, hu, hs'⟩
      · exact Or.inl h
      · refine Or.inr ⟨p, hp, hu, ?_⟩
        rw [ia_upn (hUn p hp hu).1]
        have := (hUn p hp hu).2
        omega
    · rw [ia_upn e] at hs
      rcases w5 q hq hs with h | ⟨p, hp, hu, hs'⟩
      · exact Or.inl h
      · refine Or.inr ⟨p, hp, hu, ?_⟩
        by_cases z : p = n
        · subst z; rw [ia_ups]; omega
        · rw [ia_upn z]; exact hs'
  · rcases w4 n hn (Or.inr (Or.inr rfl)) with h | ⟨p, hp, hu, hs'⟩
    · subst h; exact Or.inl ⟨hr, ia_ups⟩
    · have hpn := (hUn p hp hu).1
      obtain ⟨_, k1, k2, _⟩ := ia_par hS hc hn hp hu
      obtain ⟨hA, hB, _⟩ := hS.2.2.2.1 p hp k1 k2
      refine Or.inr ⟨p, hp, hu, Or.inr ?_⟩
      rw [ia_upn hpn]
      rcases hs' with ⟨x, s⟩ | ⟨x, s⟩
      · exact Or.inl ⟨k1, k2, s, by rw [hA, x], by rw [x, ia_ups]⟩
      · exact Or.inr ⟨k1, k2, s, by rw [hB, x], by rw [x, ia_ups]⟩
  · intro q hq hs
    have old : st q ≠ 0 ∨ nI n = nI q := by
      by_cases en : q = n
      · exact Or.inr (by rw [en])
      · rw [ia_upn en] at hs
        rcases hs with h | h
        · exact Or.inl h
        · have := (hUn q hq h).2
          exact Or.inl (by omega)
    obtain ⟨f, hd, ht, hti⟩ := w7 q hq old
    have hel : ∀ p, p < c → U q = nI p → b p = q → a p ≠ n := by
      intro p hp hu hb z
      obtain ⟨_, k1, k2, _⟩ := ia_par hS hc hq hp hu
      obtain ⟨_, _, _, _, hab, _, _⟩ := hS.2.2.2.1 p hp k1 k2
      have s1 := (pn p hp k1 k2).1 z
      have s0 := (w3 p hp k1 k2).2.1 s1
      rw [hb] at s0
      rcases old with h | h
      · exact h s0
      · have : n = q := ia_inj (by omega) (by omega) h
        exact hab (z.trans (this.trans hb.symm))
    refine ⟨ia_EnvF_c f rfl (fun _ _ => ⟨rfl, rfl⟩) (fun p hp hu => ⟨rfl, fun _ _ => ⟨rfl, rfl⟩, fun _ hb => (hV (a p) (hel p hp hu hb)).1⟩), hd, by omega, fun p hp hu => ⟨(hti p hp hu).1, fun hb => ?_⟩⟩
    rw [ia_upn (hel p hp hu hb)]
    exact (hti p hp hu).2 hb
  · intro q hq hs
    by_cases e : q = n
    · subst e
      obtain ⟨_, _, ht, _⟩ := w7 q hq (Or.inr rfl)
      have ch : K q ≠ 1 → K q ≠ 2 → a q ≠ q ∧ b q ≠ q ∧ to (a q) ≤ t ∧ to (b q) ≤ t := by
        intro x1 x2
        obtain ⟨_, _, ha, hb, _, hUa, hUb⟩ := hS.2.2.2.1 q hq x1 x2
        obtain ⟨s2, s3⟩ := hin x1 x2
        have sa := (w3 q hq x1 x2).2.2.1 s2
        refine ⟨?_, ?_, (w8 (a q) ha sa).2.1, (w8 (b q) hb s3).2.1⟩
        · intro e; rw [e] at hUa; have := (ia_par hS hc hq hq hUa).1; omega
        · intro e; rw [e] at hUb; have := (ia_par hS hc hq hq hUb).1; omega
      refine ⟨ia_ValF_c hF ⟨rfl, rfl, rfl⟩ (fun _ _ => ⟨rfl, rfl⟩) (fun x1 x2 => ⟨hV (a q) (ch x1 x2).1, hV (b q) (ch x1 x2).2.1⟩), by rw [ia_ups]; exact Nat.le_refl _, by rw [ia_ups]; omega, fun x1 x2 => ?_⟩
      obtain ⟨c1, c2, c3, c4⟩ := ch x1 x2
      rw [ia_ups, ia_upn c1, ia_upn c2]
      exact ⟨by omega, by omega⟩
    · rw [ia_upn e] at hs
      obtain ⟨f, h1, h2, h3⟩ := w8 q hq hs
      have ch : K q ≠ 1 → K q ≠ 2 → a q ≠ n ∧ b q ≠ n := by
        intro x1 x2
        obtain ⟨p1, p2⟩ := pn q hq x1 x2
        exact ⟨fun z => by have := p1 z; omega, fun z => by have := p2 z; omega⟩
      refine ⟨ia_ValF_c f (hV q e) (fun _ _ => ⟨rfl, rfl⟩) (fun x1 x2 => ⟨hV (a q) (ch x1 x2).1, hV (b q) (ch x1 x2).2⟩), by rw [ia_upn e]; omega, by rw [ia_upn e]; exact h2, fun x1 x2 => ?_⟩
      rw [ia_upn e, ia_upn (ch x1 x2).1, ia_upn (ch x1 x2).2]
      exact h3 x1 x2
  · intro q hq hs _
    have en : q ≠ n := by intro z; subst z; rw [ia_ups] at hs; omega
    rw [ia_upn en] at hs
    exact w9 q hq hs (fun z => en (ia_inj (by omega) (by omega) z).symm)
/-- while the walk has a node, fewer than 96 stops have been made -/
theorem ia_stops (hc : c ≤ 32) (W : ia_Wk c K P A B U a b R rt D V Z S E G st ti to t (nI n) fr) (hn : n < c) : t < 96 := by
  obtain ⟨w1, w2, _, _, _, w6, _⟩ := W
  have h2 : st n ≤ 2 := by
    rcases w6 with ⟨e, _⟩ | ⟨n', hn', e, h⟩
    · exact absurd e (ia_ne (by omega))
    · have : n = n' := ia_inj (by omega) (by omega) e
      subst this
      rcases h with ⟨h, _⟩ | ⟨_, _, h, _⟩ | ⟨_, _, h, _⟩ <;> omega
  have := ia_sm_lt (f := st) (j := n) c w2 hn h2
  omega
theorem ia_noact (hS : ia_Sh c K P A B U a b R) (hc : c ≤ 32) (W : ia_Wk c K P A B U a b R rt D V Z S E G st ti to t (-1) fr) : ∀ k q, q < c → c - R q ≤ k → (st q = 1 ∨ st q = 2) → False := by
  have W' := W
  obtain ⟨w1, w2, w3, w4, w5, w6, _⟩ := W
  have h3 : st rt = 3 := by
    rcases w6 with ⟨_, h⟩ | ⟨n, hn, e, _⟩
    · exact h
    · exact absurd e.symm (ia_ne (by omega))
  intro k
  induction k with
  | zero =>
    intro q hq hk _
    have := hS.1 q hq
    omega
  | succ k ih =>
    intro q hq hk hs
    rcases w4 q hq (by rcases hs with h | h; exact Or.inl h; exact Or.inr (Or.inl h)) with e | ⟨p, hp, hu, hs'⟩
    · rw [e] at hs; omega
    · have r := (ia_par hS hc hq hp hu).1
      have r2 := hS.1 p hp
      refine ih p hp (by omega) ?_
      rcases hs' with ⟨_, s⟩ | ⟨_, s⟩
      · exact Or.inl s
      · exact Or.inr s
/-- what the walk leaves: the attached nodes are those with state 3; their values fit, in an order of at most 97 times -/
def ia_Done (c : Nat) (K P A B U : Nat → Int32) (a b : Nat → Nat) (rt : Nat) (D V Z S E G : Nat → Int32) (st ti to : Nat → Nat) : Prop :=
  st rt = 3 ∧
  (∀ m, m < c → (D m = -1 ↔ st m ≠ 3)) ∧
  (∀ m, m < c → U m = -1 → m ≠ rt → st m ≠ 3) ∧
  (∀ m p, m < c → p < c → U m = nI p → (st m = 3 ↔ st p = 3)) ∧
  (∀ m, m < c → st m = 3 → ia_EnvF c K P U a b D E G V D E G m ∧ ia_ValF K P a b V Z S E G V Z S m ∧
    ti m < to m ∧ to m ≤ 96 ∧ (∀ p, p < c → U m = nI p → ti p < ti m ∧ (b p = m → to (a p) < ti m)) ∧ (K m ≠ 1 → K m ≠ 2 → to (a m) < to m ∧ to (b m) < to m))
theorem ia_end (hS : ia_Sh c K P A B U a b R) (hc : c ≤ 32) (hr : U rt = -1) (W : ia_Wk c K P A B U a b R rt D V Z S E G st ti to t (-1) fr) (hrt : rt < c) (ht : t ≤ 96) :
    ia_Done c K P A B U a b rt D V Z S E G st ti to := by
  have W' := W
  have na := ia_noact hS hc W
  obtain ⟨w1, w2, w3, w4, w5, w6, w7, w8, w9⟩ := W
  have h3 : st rt = 3 := by
    rcases w6 with ⟨_, h⟩ | ⟨n, hn, e, _⟩
    · exact h
    · exact absurd e.symm (ia_ne (by omega))
  have h03 : ∀ q, q < c → st q ≠ 3 → st q = 0 := by
    intro q hq h
    have h1 : ¬ (st q = 1 ∨ st q = 2) := na (c - R q) q hq (Nat.le_refl _)
    have := w2 q hq
    omega
  have nm1 : ∀ q, q < c → ¬ (-1 : Int32) = nI q := fun q hq e => ia_ne (by omega) e.symm
  refine ⟨h3, fun q hq => ⟨fun e h => ?_, fun h => ?_⟩, fun q hq hu hne h => ?_, fun q p hq hp hu => ⟨fun h => ?_, fun h => ?_⟩, fun q hq h => ?_⟩
  · obtain ⟨_, ⟨d, hd, hD⟩, _⟩ := w7 q hq (Or.inl (by omega))
    rw [hD] at e
    exact ia_ne (by omega) e
  · exact w9 q hq (h03 q hq h) (nm1 q hq)
  · rcases w5 q hq h with e | ⟨p, hp, hu', _⟩
    · exact hne e
    · rw [hu] at hu'
      exact ia_ne (by omega) hu'.symm
  · have h0 := ia_ent hc hr W' hq (Or.inl (by omega)) hp hu
    by_cases z : st p = 3
    · exact z
    · exact absurd (h03 p hp z) h0
  · obtain ⟨_, k1, k2, hs⟩ := ia_par hS hc hq hp hu
    have := (w3 p hp k1 k2).2.2.2 h
    rcases hs with e | e
    · rw [← e]; exact this.1
    · rw [← e]; exact this.2
  · obtain ⟨f, _, _, hti⟩ := w7 q hq (Or.inl (by omega))
    obtain ⟨g, g1, g2, g3⟩ := w8 q hq h
    exact ⟨f, g, g2, by omega, hti, g3⟩
/-- the walk's begin: all detached but the root, whose env is empty -/
theorem ia_begin (hS : ia_Sh c K P A B U a b R) (hc : c ≤ 32) (hr : U rt = -1) (hrt : rt < c) (hD : ∀ m, m < c → m ≠ rt → D m = -1) (hD0 : D rt = 0)
    (hE : ∀ x, x < 8 → E (rt * 8 + x) = 0 ∧ G (rt * 8 + x) = 0) :
    ia_Wk c K P A B U a b R rt D V Z S E G (fun _ => 0) (fun _ => 0) (fun _ => 0) 0 (nI rt) (-1) := by
  refine ⟨Nat.zero_le _, fun _ _ => Nat.zero_le _, fun _ _ _ _ => ⟨fun _ => ⟨rfl, rfl⟩, fun _ => rfl, fun h => absurd (show 0 = 2 from h) (by decide), fun h => absurd (show 0 = 3 from h) (by decide)⟩, fun q hq h => ?_, fun q hq h => absurd (show 0 = 3 from h) (by decide), Or.inr ⟨rt, hrt, rfl, Or.inl ⟨rfl, hr.symm⟩⟩, fun q hq h => ?_, fun q hq h => absurd (show 0 = 3 from h) (by decide), fun q hq _ h => ?_⟩
  · rcases h with h | h | h
    · exact absurd (show 0 = 1 from h) (by decide)
    · exact absurd (show 0 = 2 from h) (by decide)
    · exact Or.inl (ia_inj (by omega) (by omega) h).symm
  · have e : rt = q := by
      rcases h with h | h
      · exact absurd rfl h
      · exact ia_inj (by omega) (by omega) h
    subst e
    have nu : ∀ p, p < c → ¬ U rt = nI p := fun p hp h => by rw [hr] at h; exact ia_ne (by omega) h.symm
    exact ⟨⟨fun _ => ⟨hD0, hE⟩, fun p hp hu => absurd hu (nu p hp)⟩, ⟨0, by have := hS.1 rt hrt; omega, by rw [hD0, nI_0]⟩, Nat.le_refl 0, fun p hp hu => absurd hu (nu p hp)⟩
  · exact hD q hq (fun z => h (by rw [z]))
end
