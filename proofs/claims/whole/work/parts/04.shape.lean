-- part 04: the relation on the plain parts of both states, and how creation, setRoot and replace keep it
/-- cp: capacity; c: count; rI: the root; K P A B U: shared arrays; D V Z S E G: X's values; D' .. G': the reference's -/
def ia_Q (cp c : Nat) (rI : Int32) (K P A B U : Nat → Int32) (a b R : Nat → Nat) (D V Z S E G D' V' Z' S' E' G' : Nat → Int32) : Prop :=
  (8 ≤ cp ∧ cp ≤ 32 ∧ c ≤ cp) ∧ ia_Sh c K P A B U a b R ∧
  (rI = -1 ∨ ∃ r, r < c ∧ rI = nI r ∧ U r = -1 ∧ D r ≠ -1) ∧
  (∀ m, m < c → U m = -1 → rI ≠ nI m → D m = -1) ∧
  (∀ m p, m < c → p < c → U m = nI p → (D m = -1 ↔ D p = -1)) ∧
  (∀ m, m < c → D m ≠ -1 → (D' m = D m ∧ V' m = V m ∧ Z' m = Z m ∧ S' m = S m) ∧ ∀ x, x < 8 → E' (m * 8 + x) = E (m * 8 + x) ∧ G' (m * 8 + x) = G (m * 8 + x)) ∧
  (∀ j, G j = 0 ∨ G j = 1) ∧ (∀ j, G' j = 0 ∨ G' j = 1)
section
variable {cp c : Nat} {rI : Int32} {K P A B U : Nat → Int32} {a b R : Nat → Nat} {D V Z S E G D' V' Z' S' E' G' : Nat → Int32}
theorem ia_Sh_leaf (hS : ia_Sh c K P A B U a b R) (hc : c < 32) {k x : Int32} (hk : k = 1 ∨ (k = 2 ∧ ∃ j, j < 8 ∧ x = nI j)) :
    ia_Sh (c + 1) (upd K c k) (upd P c x) (upd A c (-1)) (upd B c (-1)) (upd U c (-1)) a b (ia_up R c 0) := by
  obtain ⟨h1, h2, h3, h4, h5⟩ := hS
  refine ⟨fun n hn => ?_, fun n hn => ?_, fun n hn => ?_, fun n hn => ?_, fun n hn => ?_⟩ <;> by_cases e : n = c
  · subst e; rw [ia_ups]; omega
  · rw [ia_upn e]; have := h1 n (by omega); omega
  · subst e; rw [ia_us]
    rcases hk with h | ⟨h, _⟩
    · exact Or.inl h
    · exact Or.inr (Or.inl h)
  · rw [ia_un e]; exact h2 n (by omega)
  · subst e; rw [ia_us, ia_us]
    intro h
    rcases hk with h' | ⟨_, h'⟩
    · rw [h'] at h; exact absurd h (by decide)
    · exact h'
  · rw [ia_un e, ia_un e]; exact h3 n (by omega)
  · subst e; rw [ia_us]
    intro y1 y2
    rcases hk with h' | ⟨h', _⟩
    · exact absurd h' y1
    · exact absurd h' y2
  · rw [ia_un e, ia_un e, ia_un e]
    intro y1 y2
    obtain ⟨x1, x2, x3, x4, x5, x6, x7⟩ := h4 n (by omega) y1 y2
    rw [ia_un (show a n ≠ c by omega), ia_un (show b n ≠ c by omega)]
    exact ⟨x1, x2, by omega, by omega, x5, x6, x7⟩
  · subst e; rw [ia_us]; exact Or.inl rfl
  · rw [ia_un e]
    rcases h5 n (by omega) with h | ⟨p, hp, x1, x2, x3, x4, x5⟩
    · exact Or.inl h
    · have ep : p ≠ c := by omega
      exact Or.inr ⟨p, by omega, x1, by rw [ia_upn e, ia_upn ep]; exact x2, by rw [ia_un ep]; exact x3, by rw [ia_un ep]; exact x4, x5⟩
theorem ia_Sh_inn (hS : ia_Sh c K P A B U a b R) (hc : c < 32) {k x : Int32} {i j : Nat} (hk : k = 3 ∨ k = 4 ∨ k = 5 ∨ (k = 6 ∧ ∃ y, y < 8 ∧ x = nI y))
    (hi : i < c) (hj : j < c) (hij : i ≠ j) (hUi : U i = -1) (hUj : U j = -1) :
    ia_Sh (c + 1) (upd K c k) (upd P c x) (upd A c (nI i)) (upd B c (nI j)) (upd (upd (upd U c (-1)) i (nI c)) j (nI c)) (ia_up a c i) (ia_up b c j) (ia_up R c c) := by
  obtain ⟨h1, h2, h3, h4, h5⟩ := hS
  have Uo : ∀ n, n ≠ c → n ≠ i → n ≠ j → upd (upd (upd U c (-1)) i (nI c)) j (nI c) n = U n := fun n e1 e2 e3 => by rw [ia_un e3, ia_un e2, ia_un e1]
  have Ui : upd (upd (upd U c (-1)) i (nI c)) j (nI c) i = nI c := by rw [ia_un hij, ia_us]
  have Uj : upd (upd (upd U c (-1)) i (nI c)) j (nI c) j = nI c := ia_us
  have Uc : upd (upd (upd U c (-1)) i (nI c)) j (nI c) c = -1 := by rw [ia_un (by omega), ia_un (by omega), ia_us]
  have kin : k ≠ 1 ∧ k ≠ 2 := by
    rcases hk with h | h | h | ⟨h, _⟩ <;> rw [h] <;> exact ⟨by decide, by decide⟩
  refine ⟨fun n hn => ?_, fun n hn => ?_, fun n hn => ?_, fun n hn => ?_, fun n hn => ?_⟩ <;> by_cases e : n = c
  · subst e; rw [ia_ups]; omega
  · rw [ia_upn e]; have := h1 n (by omega); omega
  · subst e; rw [ia_us]
    rcases hk with h | h | h | ⟨h, _⟩
    · exact Or.inr (Or.inr (Or.inl h))
    · exact Or.inr (Or.inr (Or.inr (Or.inl h)))
    · exact Or.inr (Or.inr (Or.inr (Or.inr (Or.inl h))))
    · exact Or.inr (Or.inr (Or.inr (Or.inr (Or.inr h))))
  · rw [ia_un e]; exact h2 n (by omega)
  · subst e; rw [ia_us, ia_us]
    intro h
    rcases hk with h' | h' | h' | ⟨_, h'⟩
    · rw [h'] at h; exact absurd h (by decide)
    · rw [h'] at h; exact absurd h (by decide)
    · rw [h'] at h; exact absurd h (by decide)
    · exact h'
  · rw [ia_un e, ia_un e]; exact h3 n (by omega)
  · subst e
    intro _ _
    rw [ia_us, ia_us, ia_ups, ia_ups, Ui, Uj]
    exact ⟨rfl, rfl, by omega, by omega, hij, rfl, rfl⟩
  · rw [ia_un e, ia_un e, ia_un e, ia_upn e, ia_upn e]
    intro y1 y2
    obtain ⟨x1, x2, x3, x4, x5, x6, x7⟩ := h4 n (by omega) y1 y2
    have nn : ¬ nI n = -1 := ia_ne (by omega)
    rw [Uo (a n) (by omega) (fun z => nn (by rw [← x6, z]; exact hUi)) (fun z => nn (by rw [← x6, z]; exact hUj)),
      Uo (b n) (by omega) (fun z => nn (by rw [← x7, z]; exact hUi)) (fun z => nn (by rw [← x7, z]; exact hUj))]
    exact ⟨x1, x2, by omega, by omega, x5, x6, x7⟩
  · subst e; exact Or.inl Uc
  · by_cases ei : n = i
    · subst ei
      have := h1 n hi
      exact Or.inr ⟨c, by omega, Ui, by rw [ia_upn e, ia_ups]; exact this, by rw [ia_us]; exact kin.1, by rw [ia_us]; exact kin.2, Or.inl ia_ups⟩
    · by_cases ej : n = j
      · subst ej
        have := h1 n hj
        exact Or.inr ⟨c, by omega, Uj, by rw [ia_upn e, ia_ups]; exact this, by rw [ia_us]; exact kin.1, by rw [ia_us]; exact kin.2, Or.inr ia_ups⟩
      · rw [Uo n e ei ej]
        rcases h5 n (by omega) with h | ⟨p, hp, x1, x2, x3, x4, x5⟩
        · exact Or.inl h
        · have ep : p ≠ c := by omega
          exact Or.inr ⟨p, by omega, x1, by rw [ia_upn e, ia_upn ep]; exact x2, by rw [ia_un ep]; exact x3, by rw [ia_un ep]; exact x4, by rw [ia_upn ep, ia_upn ep]; exact x5⟩
theorem ia_Q_leaf (h : ia_Q cp c rI K P A B U a b R D V Z S E G D' V' Z' S' E' G') (hc : c < cp) {k x : Int32} (hk : k = 1 ∨ (k = 2 ∧ ∃ j, j < 8 ∧ x = nI j)) :
    ia_Q cp (c + 1) rI (upd K c k) (upd P c x) (upd A c (-1)) (upd B c (-1)) (upd U c (-1)) a b (ia_up R c 0) (upd D c (-1)) V Z S E G D' V' Z' S' E' G' := by
  obtain ⟨⟨q1, q2, q3⟩, hS, q4, q5, q6, q7, q8, q9⟩ := h
  refine ⟨⟨q1, q2, by omega⟩, ia_Sh_leaf hS (by omega) hk, ?_, fun m hm hu hr => ?_, fun m p hm hp hu => ?_, fun m hm hd => ?_, q8, q9⟩
  · rcases q4 with e | ⟨r, hr, e, u, d⟩
    · exact Or.inl e
    · exact Or.inr ⟨r, by omega, e, by rw [ia_un (by omega)]; exact u, by rw [ia_un (by omega)]; exact d⟩
  · by_cases e : m = c
    · subst e; exact ia_us
    · rw [ia_un e] at hu; rw [ia_un e]; exact q5 m (by omega) hu hr
  · by_cases e : m = c
    · subst e; rw [ia_us] at hu; exact absurd hu.symm (ia_ne (by omega))
    · rw [ia_un e] at hu
      have ep : p ≠ c := by
        rcases hS.2.2.2.2 m (by omega) with z | ⟨p', hp', z, _⟩
        · rw [z] at hu; exact absurd hu.symm (ia_ne (by omega))
        · have : p' = p := ia_inj (by omega) (by omega) (z.symm.trans hu)
          omega
      rw [ia_un e, ia_un ep]; exact q6 m p (by omega) (by omega) hu
  · have e : m ≠ c := by intro z; subst z; exact hd ia_us
    rw [ia_un e] at hd
    rw [ia_un e]; exact q7 m (by omega) hd
theorem ia_Q_inn (h : ia_Q cp c rI K P A B U a b R D V Z S E G D' V' Z' S' E' G') (hc : c < cp) {k x : Int32} {i j : Nat} (hk : k = 3 ∨ k = 4 ∨ k = 5 ∨ (k = 6 ∧ ∃ y, y < 8 ∧ x = nI y))
    (hi : i < c) (hj : j < c) (hij : i ≠ j) (hUi : U i = -1) (hUj : U j = -1) (hri : rI ≠ nI i) (hrj : rI ≠ nI j) :
    ia_Q cp (c + 1) rI (upd K c k) (upd P c x) (upd A c (nI i)) (upd B c (nI j)) (upd (upd (upd U c (-1)) i (nI c)) j (nI c)) (ia_up a c i) (ia_up b c j) (ia_up R c c) (upd D c (-1)) V Z S E G D' V' Z' S' E' G' := by
  obtain ⟨⟨q1, q2, q3⟩, hS, q4, q5, q6, q7, q8, q9⟩ := h
  have Uo : ∀ n, n ≠ c → n ≠ i → n ≠ j → upd (upd (upd U c (-1)) i (nI c)) j (nI c) n = U n := fun n e1 e2 e3 => by rw [ia_un e3, ia_un e2, ia_un e1]
  have Ui : upd (upd (upd U c (-1)) i (nI c)) j (nI c) i = nI c := by rw [ia_un hij, ia_us]
  have Uj : upd (upd (upd U c (-1)) i (nI c)) j (nI c) j = nI c := ia_us
  have Uc : upd (upd (upd U c (-1)) i (nI c)) j (nI c) c = -1 := by rw [ia_un (by omega), ia_un (by omega), ia_us]
  have nc : ¬ nI c = -1 := ia_ne (by omega)
  refine ⟨⟨q1, q2, by omega⟩, ia_Sh_inn hS (by omega) hk hi hj hij hUi hUj, ?_, fun m hm hu hr => ?_, fun m p hm hp hu => ?_, fun m hm hd => ?_, q8, q9⟩
  · rcases q4 with e | ⟨r, hr, e, u, d⟩
    · exact Or.inl e
    · exact Or.inr ⟨r, by omega, e, by rw [Uo r (by omega) (fun z => hri (by rw [e, z])) (fun z => hrj (by rw [e, z]))]; exact u, by rw [ia_un (by omega)]; exact d⟩
  · by_cases e : m = c
    · subst e; exact ia_us
    · by_cases ei : m = i
      · subst ei; rw [Ui] at hu; exact absurd hu nc
      · by_cases ej : m = j
        · subst ej; rw [Uj] at hu; exact absurd hu nc
        · rw [Uo m e ei ej] at hu; rw [ia_un e]; exact q5 m (by omega) hu hr
  · by_cases e : m = c
    · subst e; rw [Uc] at hu; exact absurd hu.symm (ia_ne (by omega))
    · rw [ia_un e]
      by_cases ei : m = i
      · subst ei
        rw [Ui] at hu
        have : c = p := ia_inj (by omega) (by omega) hu
        subst this
        rw [ia_us]
        exact ⟨fun _ => rfl, fun _ => q5 m hi hUi hri⟩
      · by_cases ej : m = j
        · subst ej
          rw [Uj] at hu
          have : c = p := ia_inj (by omega) (by omega) hu
          subst this
          rw [ia_us]
          exact ⟨fun _ => rfl, fun _ => q5 m hj hUj hrj⟩
        · rw [Uo m e ei ej] at hu
          have ep : p ≠ c := by
            rcases hS.2.2.2.2 m (by omega) with z | ⟨p', hp', z, _⟩
            · rw [z] at hu; exact absurd hu.symm (ia_ne (by omega))
            · have : p' = p := ia_inj (by omega) (by omega) (z.symm.trans hu)
              omega
          rw [ia_un ep]; exact q6 m p (by omega) (by omega) hu
  · have e : m ≠ c := by intro z; subst z; exact hd ia_us
    rw [ia_un e] at hd
    rw [ia_un e]; exact q7 m (by omega) hd
/-- what the walk and the passes leave is related again -/
theorem ia_Q_done {rt : Nat} {st ti to : Nat → Nat} (hcp : 8 ≤ cp ∧ cp ≤ 32 ∧ c ≤ cp) (hS : ia_Sh c K P A B U a b R) (hrt : rt < c) (hr : U rt = -1)
    (F : ia_Done c K P A B U a b rt D V Z S E G st ti to) (hP : ia_Ps c st ti to 170 0 D V Z S E G D' V' Z' S' E' G')
    (hG : ∀ j, G j = 0 ∨ G j = 1) (hG' : ∀ j, G' j = 0 ∨ G' j = 1) :
    ia_Q cp c (nI rt) K P A B U a b R D V Z S E G D' V' Z' S' E' G' := by
  have ag := ia_Ps_170 F hP
  obtain ⟨f1, f2, f3, f4, f5⟩ := F
  refine ⟨hcp, hS, Or.inr ⟨rt, hrt, rfl, hr, fun e => ((f2 rt hrt).mp e) f1⟩, fun m hm hu hne => (f2 m hm).mpr (f3 m hm hu (fun z => hne (by rw [z]))), fun m p hm hp hu => ?_, ag, hG, hG'⟩
  have h := f4 m p hm hp hu
  have h1 := f2 m hm
  have h2 := f2 p hp
  constructor
  · intro e; exact h2.mpr (fun z => h1.mp e (h.mpr z))
  · intro e; exact h1.mpr (fun z => h2.mp e (h.mp z))
/-- replace: old, attached below p, goes out of p's slot, and nw, free, goes in -/
theorem ia_Sh_repl {A' B' : Nat → Int32} {a' b' : Nat → Nat} {p old nw : Nat} (hc : c ≤ 32) (hS : ia_Sh c K P A B U a b R)
    (q6 : ∀ m p, m < c → p < c → U m = nI p → (D m = -1 ↔ D p = -1))
    (ho : old < c) (hw : nw < c) (hp : p < c) (hUo : U old = nI p) (hUw : U nw = -1) (hDo : D old ≠ -1) (hDw : D nw = -1)
    (hA : ∀ q, q ≠ p → A' q = A q ∧ B' q = B q ∧ a' q = a q ∧ b' q = b q)
    (hAp : (a p = old ∧ A' p = nI nw ∧ a' p = nw ∧ B' p = B p ∧ b' p = b p) ∨ (b p = old ∧ B' p = nI nw ∧ b' p = nw ∧ A' p = A p ∧ a' p = a p)) :
    ia_Sh c K P A' B' (upd (upd U nw (nI p)) old (-1)) a' b' (ia_rk c (fun m => if D m = -1 then R m else R m + 32)) := by
  have hne : nw ≠ old := by intro z; rw [z] at hDw; exact hDo hDw
  have hDp : D p ≠ -1 := fun e => hDo ((q6 old p ho hp hUo).mpr e)
  have par := fun q p hq hp h => ia_par hS hc (q := q) (p := p) hq hp h
  obtain ⟨_, k1, k2, _⟩ := par old p ho hp hUo
  obtain ⟨h1, h2, h3, h4, h5⟩ := hS
  obtain ⟨xA, xB, xa, xb, xab, xUa, xUb⟩ := h4 p hp k1 k2
  have Uo : ∀ n, n ≠ old → n ≠ nw → upd (upd U nw (nI p)) old (-1) n = U n := fun n e1 e2 => by rw [ia_un e1, ia_un e2]
  have Uw : upd (upd U nw (nI p)) old (-1) nw = nI p := by rw [ia_un hne, ia_us]
  have np : ∀ n, n < c → ¬ nI n = -1 := fun n hn => ia_ne (by omega)
  have inw : ∀ q n, n < c → U q = nI n → q ≠ nw := fun q n hn hu z => np n hn (by rw [← hu, z]; exact hUw)
  refine ⟨fun n hn => ia_rk_lt hn, h2, h3, fun n hn y1 y2 => ?_, fun n hn => ?_⟩
  · by_cases e : n = p
    · subst e
      rcases hAp with ⟨z1, z2, z3, z4, z5⟩ | ⟨z1, z2, z3, z4, z5⟩
      · have bo : b n ≠ old := fun z => xab (z1.trans z.symm)
        rw [z2, z3, z4, z5, Uw, Uo (b n) bo (inw _ n hn xUb)]
        exact ⟨rfl, xB, hw, xb, fun z => inw _ n hn xUb z.symm, rfl, xUb⟩
      · have ao : a n ≠ old := fun z => xab (z.trans z1.symm)
        rw [z2, z3, z4, z5, Uw, Uo (a n) ao (inw _ n hn xUa)]
        exact ⟨xA, rfl, xa, hw, fun z => inw _ n hn xUa z, xUa, rfl⟩
    · obtain ⟨g1, g2, g3, g4⟩ := hA n e
      obtain ⟨x1, x2, x3, x4, x5, x6, x7⟩ := h4 n hn y1 y2
      have io : ∀ q, U q = nI n → q ≠ old := fun q hu z => e (ia_inj (by omega) (by omega) (by rw [← hu, z]; exact hUo))
      rw [g1, g2, g3, g4, Uo (a n) (io _ x6) (inw _ n hn x6), Uo (b n) (io _ x7) (inw _ n hn x7)]
      exact ⟨x1, x2, x3, x4, x5, x6, x7⟩
  · by_cases eo : n = old
    · subst eo; exact Or.inl ia_us
    · by_cases ew : n = nw
      · subst ew
        refine Or.inr ⟨p, hp, Uw, ia_rk_mono hn ?_, k1, k2, ?_⟩
        · have := h1 n hn
          rw [if_pos hDw, if_neg hDp]
          omega
        · rcases hAp with ⟨_, _, z, _⟩ | ⟨_, _, z, _⟩
          · exact Or.inl z
          · exact Or.inr z
      · rw [Uo n eo ew]
        rcases h5 n hn with h | ⟨q, hq, x1, x2, x3, x4, x5⟩
        · exact Or.inl h
        · refine Or.inr ⟨q, hq, x1, ia_rk_mono hn ?_, x3, x4, ?_⟩
          · have := q6 n q hn hq x1
            by_cases z : D n = -1
            · rw [if_pos z, if_pos (this.mp z)]; exact x2
            · rw [if_neg z, if_neg (fun y => z (this.mpr y))]; omega
          · by_cases eq : q = p
            · subst eq
              rcases hAp with ⟨z1, _, z3, _, z5⟩ | ⟨z1, _, z3, _, z5⟩
              · rcases x5 with y | y
                · exact absurd (y.symm.trans z1) eo
                · exact Or.inr (z5.trans y)
              · rcases x5 with y | y
                · exact Or.inl (z5.trans y)
                · exact absurd (y.symm.trans z1) eo
            · obtain ⟨_, _, g3, g4⟩ := hA q eq
              rw [g3, g4]; exact x5
end
