-- part 03: the reference's passes, pure: after pass k all values of times below k are the walk's
def ia_Ag (ti to : Nat → Nat) (k : Nat) (D V Z S E G D' V' Z' S' E' G' : Nat → Int32) (m : Nat) : Prop :=
  (ti m < k → D' m = D m ∧ ∀ x, x < 8 → E' (m * 8 + x) = E (m * 8 + x) ∧ G' (m * 8 + x) = G (m * 8 + x)) ∧
  (to m < k → V' m = V m ∧ Z' m = Z m ∧ S' m = S m)
/-- one update of node n: from D0 .. to D1 .. -/
def ia_UR (c : Nat) (K P U : Nat → Int32) (a b : Nat → Nat) (n : Nat) (D0 V0 Z0 S0 E0 G0 D1 V1 Z1 S1 E1 G1 : Nat → Int32) : Prop :=
  (∀ j, j ≠ n → D1 j = D0 j ∧ V1 j = V0 j ∧ Z1 j = Z0 j ∧ S1 j = S0 j) ∧
  (∀ j x, j ≠ n → x < 8 → E1 (j * 8 + x) = E0 (j * 8 + x) ∧ G1 (j * 8 + x) = G0 (j * 8 + x)) ∧
  ia_EnvF c K P U a b D0 E0 G0 V0 D1 E1 G1 n ∧ ia_ValF K P a b V0 Z0 S0 E1 G1 V1 Z1 S1 n
def ia_Ps (c : Nat) (st ti to : Nat → Nat) (k i : Nat) (D V Z S E G D' V' Z' S' E' G' : Nat → Int32) : Prop :=
  ∀ m, m < c → st m = 3 → ia_Ag ti to k D V Z S E G D' V' Z' S' E' G' m ∧ (m < i → ia_Ag ti to (k + 1) D V Z S E G D' V' Z' S' E' G' m)
section
variable {c : Nat} {K P A B U : Nat → Int32} {a b R : Nat → Nat} {rt : Nat} {D V Z S E G : Nat → Int32} {st ti to : Nat → Nat} {k i n m : Nat} {D0 V0 Z0 S0 E0 G0 D1 V1 Z1 S1 E1 G1 : Nat → Int32}
theorem ia_EnvF_u {D0' E0' G0' V0' D1' E1' G1' : Nat → Int32} {q : Nat}
    (h : ia_EnvF c K P U a b D0 E0 G0 V0 D1 E1 G1 q) (h' : ia_EnvF c K P U a b D0' E0' G0' V0' D1' E1' G1' q)
    (hu : U q = -1 ∨ ∃ p, p < c ∧ U q = nI p ∧ D0' p = D0 p ∧ (∀ x, x < 8 → E0' (p * 8 + x) = E0 (p * 8 + x) ∧ G0' (p * 8 + x) = G0 (p * 8 + x)) ∧ (b p = q → V0' (a p) = V0 (a p))) :
    D1' q = D1 q ∧ ∀ x, x < 8 → E1' (q * 8 + x) = E1 (q * 8 + x) ∧ G1' (q * 8 + x) = G1 (q * 8 + x) := by
  rcases hu with e | ⟨p, hp, e, d, f, g⟩
  · obtain ⟨x1, x2⟩ := h.1 e
    obtain ⟨y1, y2⟩ := h'.1 e
    exact ⟨y1.trans x1.symm, fun x hx => ⟨(y2 x hx).1.trans (x2 x hx).1.symm, (y2 x hx).2.trans (x2 x hx).2.symm⟩⟩
  · obtain ⟨x1, x2⟩ := h.2 p hp e
    obtain ⟨y1, y2⟩ := h'.2 p hp e
    refine ⟨by rw [x1, y1, d], fun x hx => ?_⟩
    by_cases z : K p = 6 ∧ b p = q ∧ P p = nI x
    · obtain ⟨s1, s2⟩ := (x2 x hx).1 z
      obtain ⟨t1, t2⟩ := (y2 x hx).1 z
      exact ⟨by rw [s1, t1, g z.2.1], by rw [s2, t2]⟩
    · obtain ⟨s1, s2⟩ := (x2 x hx).2 z
      obtain ⟨t1, t2⟩ := (y2 x hx).2 z
      exact ⟨by rw [s1, t1, (f x hx).1], by rw [s2, t2, (f x hx).2]⟩
theorem ia_ValF_u {V0' Z0' S0' E' G' V1' Z1' S1' : Nat → Int32} {q : Nat} (hS : ia_Sh c K P A B U a b R) (hq : q < c)
    (h : ia_ValF K P a b V0 Z0 S0 E G V1 Z1 S1 q) (h' : ia_ValF K P a b V0' Z0' S0' E' G' V1' Z1' S1' q)
    (hE : ∀ x, x < 8 → E' (q * 8 + x) = E (q * 8 + x) ∧ G' (q * 8 + x) = G (q * 8 + x))
    (hs : K q ≠ 1 → K q ≠ 2 → (V0' (a q) = V0 (a q) ∧ Z0' (a q) = Z0 (a q) ∧ S0' (a q) = S0 (a q)) ∧ (V0' (b q) = V0 (b q) ∧ Z0' (b q) = Z0 (b q) ∧ S0' (b q) = S0 (b q))) :
    V1' q = V1 q ∧ Z1' q = Z1 q ∧ S1' q = S1 q := by
  obtain ⟨h1, h2, h3⟩ := h
  obtain ⟨g1, g2, g3⟩ := h'
  by_cases k1 : K q = 1
  · obtain ⟨x1, x2, x3⟩ := h1 k1
    obtain ⟨y1, y2, y3⟩ := g1 k1
    exact ⟨by rw [x1, y1], by rw [x2, y2], by rw [x3, y3]⟩
  · by_cases k2 : K q = 2
    · obtain ⟨x, hx, hP⟩ := hS.2.2.1 q hq (Or.inl k2)
      obtain ⟨x1, x2, x3⟩ := h2 k2 x hx hP
      obtain ⟨y1, y2, y3⟩ := g2 k2 x hx hP
      obtain ⟨e1, e2⟩ := hE x hx
      by_cases z : G (q * 8 + x) = 0
      · obtain ⟨s1, s2⟩ := x2 z
        obtain ⟨t1, t2⟩ := y2 (by rw [e2]; exact z)
        exact ⟨by rw [s1, t1], by rw [s2, t2], by rw [x1, y1]⟩
      · obtain ⟨s1, s2⟩ := x3 z
        obtain ⟨t1, t2⟩ := y3 (by rw [e2]; exact z)
        exact ⟨by rw [s1, t1, e1], by rw [s2, t2], by rw [x1, y1]⟩
    · obtain ⟨⟨a1, a2, a3⟩, b1, b2, b3⟩ := hs k1 k2
      obtain ⟨x1, x2, x3⟩ := h3 k1 k2
      obtain ⟨y1, y2, y3⟩ := g3 k1 k2
      exact ⟨by rw [x1, y1, a1, b1], by rw [x2, y2, a2, b2], by rw [x3, y3, a3, b3]⟩
theorem ia_Ps_step (hS : ia_Sh c K P A B U a b R) (hc : c ≤ 32) (F : ia_Done c K P A B U a b rt D V Z S E G st ti to) (hn : n < c)
    (h : ia_Ps c st ti to k n D V Z S E G D0 V0 Z0 S0 E0 G0) (hu : ia_UR c K P U a b n D0 V0 Z0 S0 E0 G0 D1 V1 Z1 S1 E1 G1) :
    ia_Ps c st ti to k (n + 1) D V Z S E G D1 V1 Z1 S1 E1 G1 := by
  obtain ⟨f1, f2, f3, f4, f5⟩ := F
  obtain ⟨u1, u2, u3, u4⟩ := hu
  have own : st n = 3 → ia_Ag ti to (k + 1) D V Z S E G D1 V1 Z1 S1 E1 G1 n := by
    intro hs
    obtain ⟨x1, x2, x3, x4, x5, x6⟩ := f5 n hn hs
    have hin : ti n < k + 1 → D1 n = D n ∧ ∀ x, x < 8 → E1 (n * 8 + x) = E (n * 8 + x) ∧ G1 (n * 8 + x) = G (n * 8 + x) := by
      intro ht
      refine ia_EnvF_u x1 u3 ?_
      rcases hS.2.2.2.2 n hn with e | ⟨p, hp, e, _, k1, k2, _⟩
      · exact Or.inl e
      · obtain ⟨t1, t2⟩ := x5 p hp e
        have hsp := (f4 n p hn hp e).mp hs
        obtain ⟨g1, g2⟩ := (h p hp hsp).1.1 (by omega)
        refine Or.inr ⟨p, hp, e, g1, g2, fun hb => ?_⟩
        obtain ⟨_, _, ha, _, _, hUa, _⟩ := hS.2.2.2.1 p hp k1 k2
        have hsa := (f4 (a p) p ha hp hUa).mpr hsp
        exact ((h (a p) ha hsa).1.2 (by have := t2 hb; omega)).1
    refine ⟨hin, fun ht => ?_⟩
    refine ia_ValF_u hS hn x2 u4 (hin (by omega)).2 (fun k1 k2 => ?_)
    obtain ⟨_, _, ha, hb, _, hUa, hUb⟩ := hS.2.2.2.1 n hn k1 k2
    obtain ⟨t1, t2⟩ := x6 k1 k2
    exact ⟨(h (a n) ha ((f4 (a n) n ha hn hUa).mpr hs)).1.2 (by omega), (h (b n) hb ((f4 (b n) n hb hn hUb).mpr hs)).1.2 (by omega)⟩
  have oth : ∀ q k', q ≠ n → ia_Ag ti to k' D V Z S E G D0 V0 Z0 S0 E0 G0 q → ia_Ag ti to k' D V Z S E G D1 V1 Z1 S1 E1 G1 q := by
    intro q k' hq hg
    obtain ⟨e1, e2, e3, e4⟩ := u1 q hq
    refine ⟨fun ht => ?_, fun ht => ?_⟩
    · obtain ⟨g1, g2⟩ := hg.1 ht
      refine ⟨by rw [e1]; exact g1, fun x hx => ?_⟩
      obtain ⟨y1, y2⟩ := u2 q x hq hx
      rw [y1, y2]; exact g2 x hx
    · rw [e2, e3, e4]; exact hg.2 ht
  intro q hq hs
  by_cases e : q = n
  · subst e
    have o := own hs
    exact ⟨⟨fun ht => o.1 (by omega), fun ht => o.2 (by omega)⟩, fun _ => o⟩
  · obtain ⟨h1, h2⟩ := h q hq hs
    exact ⟨oth q k e h1, fun hl => oth q (k + 1) e (h2 (by omega))⟩
theorem ia_Ps_end (h : ia_Ps c st ti to k c D V Z S E G D0 V0 Z0 S0 E0 G0) : ia_Ps c st ti to (k + 1) 0 D V Z S E G D0 V0 Z0 S0 E0 G0 :=
  fun q hq hs => ⟨(h q hq hs).2 hq, fun z => absurd z (Nat.not_lt_zero _)⟩
theorem ia_Ps_0 : ia_Ps c st ti to 0 0 D V Z S E G D0 V0 Z0 S0 E0 G0 :=
  fun _ _ _ => ⟨⟨fun z => absurd z (Nat.not_lt_zero _), fun z => absurd z (Nat.not_lt_zero _)⟩, fun z => absurd z (Nat.not_lt_zero _)⟩
theorem ia_Ps_170 (F : ia_Done c K P A B U a b rt D V Z S E G st ti to) (h : ia_Ps c st ti to 170 0 D V Z S E G D0 V0 Z0 S0 E0 G0) : ∀ q, q < c → D q ≠ -1 →
    (D0 q = D q ∧ V0 q = V q ∧ Z0 q = Z q ∧ S0 q = S q) ∧ ∀ x, x < 8 → E0 (q * 8 + x) = E (q * 8 + x) ∧ G0 (q * 8 + x) = G (q * 8 + x) := by
  obtain ⟨f1, f2, f3, f4, f5⟩ := F
  intro q hq hd
  have hs : st q = 3 := by
    by_cases z : st q = 3
    · exact z
    · exact absurd ((f2 q hq).mpr z) hd
  obtain ⟨_, _, t1, t2, _, _⟩ := f5 q hq hs
  obtain ⟨g, _⟩ := h q hq hs
  obtain ⟨g1, g2⟩ := g.1 (by omega)
  obtain ⟨g3, g4, g5⟩ := g.2 (by omega)
  exact ⟨⟨g1, g3, g4, g5⟩, g2⟩
end
