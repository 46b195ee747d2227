theorem wayX_n_le {ly hg x0 b a : Nat} {Wd : Nat → Nat → Nat} (h : wayX ly Wd hg x0 b a = none) : ∀ d, wayX ly Wd hg x0 b (a + d) = none
  | 0 => h
  | d + 1 => wayX_n (wayX_n_le h d)
theorem mem_pfL {ly : Nat} {Wd : Nat → Nat → Nat} {hg x0 b p : Nat} : ∀ (n a : Nat), p ∈ pfL ly Wd hg x0 b n a ↔ ∃ j x, a ≤ j ∧ j < a + n ∧ wayX ly Wd hg x0 b j = some x ∧ p = pcode (b + j) x (hg + j) (n + a - j)
  | 0, a => by
    constructor
    · intro h; cases h
    · rintro ⟨j, x, h1, h2, -⟩; omega
  | n + 1, a => by
    cases hw : wayX ly Wd hg x0 b a with
    | none =>
      rw [pfL_none hw]
      constructor
      · intro h; cases h
      · rintro ⟨j, x, h1, h2, h3, -⟩
        have := wayX_n_le hw (j - a)
        rw [show a + (j - a) = j by omega, h3] at this
        cases this
    | some x0' =>
      rw [pfL_some hw, List.mem_cons, mem_pfL n (a + 1)]
      constructor
      · rintro (h | ⟨j, x, h1, h2, h3, h4⟩)
        · exact ⟨a, x0', Nat.le_refl a, by omega, hw, by rw [h]; congr 1; omega⟩
        · exact ⟨j, x, by omega, by omega, h3, by rw [h4]; congr 1; omega⟩
      · rintro ⟨j, x, h1, h2, h3, h4⟩
        by_cases e : j = a
        · subst e
          rw [hw] at h3
          cases h3
          exact Or.inl (by rw [h4]; congr 1; omega)
        · exact Or.inr ⟨j, x, by omega, by omega, h3, by rw [h4]; congr 1; omega⟩
theorem mem_prL {ly : Nat} {Wd : Nat → Nat → Nat} {hg x0 lit p : Nat} {sm : Nat → Nat} : ∀ (k i : Nat), p ∈ prL ly Wd hg x0 lit sm k i ↔ ∃ m j x, i ≤ m ∧ m < i + k ∧ j < sm m ∧ wayX ly Wd hg x0 (lit + m) j = some x ∧ p = pcode (lit + m + j) x (hg + j) (sm m - j)
  | 0, i => by
    constructor
    · intro h; cases h
    · rintro ⟨m, j, x, h1, h2, -⟩; omega
  | k + 1, i => by
    show p ∈ pfL ly Wd hg x0 (lit + i) (sm i) 0 ++ prL ly Wd hg x0 lit sm k (i + 1) ↔ _
    rw [List.mem_append, mem_pfL, mem_prL k (i + 1)]
    constructor
    · rintro (⟨j, x, h1, h2, h3, h4⟩ | ⟨m, j, x, h1, h2, h3⟩)
      · exact ⟨i, j, x, Nat.le_refl i, by omega, by omega, h3, by rw [h4]; congr 1⟩
      · exact ⟨m, j, x, by omega, by omega, h3⟩
    · rintro ⟨m, j, x, h1, h2, h3, h4, h5⟩
      by_cases e : m = i
      · subst e
        exact Or.inl ⟨j, x, Nat.zero_le _, by omega, h4, by rw [h5]; congr 1⟩
      · exact Or.inr ⟨m, j, x, by omega, by omega, h3, h4, h5⟩
/-- in quarter q a puff of a fire of c (height hc, lit in lc) and one of d share a cell, both at least th thick -/
def tch (t : Nat → Nat → Nat) (Wd : Nat → Nat → Nat) (hc c lc hd d ld th q : Nat) : Prop := ∃ k l x, k < t 10 c ∧ l < t 10 d ∧ lc + k ≤ q ∧ ld + l ≤ q ∧ wayX (t 2 0) Wd hc (t 6 c) (lc + k) (q - (lc + k)) = some x ∧ wayX (t 2 0) Wd hd (t 6 d) (ld + l) (q - (ld + l)) = some x ∧ hc + (q - (lc + k)) = hd + (q - (ld + l)) ∧ q + th ≤ lc + k + t 12 (6 * c + k) ∧ q + th ≤ ld + l + t 12 (6 * d + l)
theorem tch_symm {t : Nat → Nat → Nat} {Wd : Nat → Nat → Nat} {hc c lc hd d ld th q : Nat} (h : tch t Wd hc c lc hd d ld th q) : tch t Wd hd d ld hc c lc th q := by
  obtain ⟨k, l, x, h1, h2, h3, h4, h5, h6, h7, h8, h9⟩ := h
  exact ⟨l, k, x, h2, h1, h4, h3, h6, h5, h7.symm, h9, h8⟩
theorem mem_fireL {t : Nat → Nat → Nat} {Wd : Nat → Nat → Nat} {up c lit p : Nat} : p ∈ fireL t Wd up c lit ↔ ∃ m j x, m < t 10 c ∧ j < t 12 (6 * c + m) ∧ wayX (t 2 0) Wd (t 7 c + up) (t 6 c) (lit + m) j = some x ∧ p = pcode (lit + m + j) x (t 7 c + up + j) (t 12 (6 * c + m) - j) := by
  unfold fireL
  rw [mem_prL]
  constructor
  · rintro ⟨m, j, x, h1, h2, h3, h4, h5⟩
    exact ⟨m, j, x, by omega, h3, h4, h5⟩
  · rintro ⟨m, j, x, h2, h3, h4, h5⟩
    exact ⟨m, j, x, Nat.zero_le _, by omega, h3, h4, h5⟩
theorem fireL_bd {t : Nat → Nat → Nat} {Wd : Nat → Nat → Nat} {up c lit : Nat} (ht : Tok t) (hc : c < t 0 0) (hup : up ≤ 12) (hl : lit ≤ 23) : bdL (fireL t Wd up c lit) := by
  obtain ⟨g0, g1, -, -, g4, -, g6⟩ := ht.2.2.2.2.2.2.1 c hc
  refine ⟨fireL_len ht hc, fun p hp => ?_⟩
  obtain ⟨m, j, x, h1, h2, h3, rfl⟩ := mem_fireL.mp hp
  have hs := g6 m h1
  have hx := wayX_lt g0 j h3
  have hh := wayX_h (show t 7 c + up < 25 by omega) j h3
  unfold pcode
  omega
theorem lfL_bd {t : Nat → Nat → Nat} {Wd : Nat → Nat → Nat} {c : Nat} (ht : Tok t) (hc : c < t 0 0) : bdL (lfL t Wd c) := by
  unfold lfL
  by_cases h : t 11 c = 0
  · rw [if_pos h]; exact ⟨Nat.zero_le _, fun p hp => by cases hp⟩
  · rw [if_neg h]
    have := ht.lit hc
    exact fireL_bd ht hc (by omega) (by omega)
theorem meet_iff {q x h th q' x' h' th' T : Nat} (hx : x < 40) (hh : h < 25) (hth : th ≤ 9) (hx' : x' < 40) (hh' : h' < 25) (hth' : th' ≤ 9) : meetB (pcode q x h th) (pcode q' x' h' th') T = true ↔ q = q' ∧ x = x' ∧ h = h' ∧ T ≤ th ∧ T ≤ th' := by
  unfold meetB pcode
  simp only [Bool.and_eq_true, decide_eq_true_eq]
  omega
theorem tqB_iff {t : Nat → Nat → Nat} {Wd : Nat → Nat → Nat} {up c lc up' d ld th q : Nat} (ht : Tok t) (hc : c < t 0 0) (hd : d < t 0 0) (hup : up ≤ 12) (hup' : up' ≤ 12) (hth : 1 ≤ th) : tqB (fireL t Wd up c lc) (fireL t Wd up' d ld) th q = true ↔ tch t Wd (t 7 c + up) c lc (t 7 d + up') d ld th q := by
  obtain ⟨g0, g1, -, -, g4, -, g6⟩ := ht.2.2.2.2.2.2.1 c hc
  obtain ⟨f0, f1, -, -, f4, -, f6⟩ := ht.2.2.2.2.2.2.1 d hd
  unfold tqB
  simp only [List.any_eq_true, Bool.and_eq_true, decide_eq_true_eq]
  constructor
  · rintro ⟨p, hp, p', hp', hm, hq⟩
    obtain ⟨m, j, x, h1, h2, h3, rfl⟩ := mem_fireL.mp hp
    obtain ⟨m', j', x', h1', h2', h3', rfl⟩ := mem_fireL.mp hp'
    have a1 := wayX_lt g0 j h3
    have a2 := wayX_h (show t 7 c + up < 25 by omega) j h3
    have b1 := wayX_lt f0 j' h3'
    have b2 := wayX_h (show t 7 d + up' < 25 by omega) j' h3'
    have c1 := g6 m h1
    have c2 := f6 m' h1'
    obtain ⟨e1, e2, e3, e4, e5⟩ := (meet_iff a1 a2 (by omega) b1 b2 (by omega)).mp hm
    have hq' : lc + m + j = q := by unfold pcode at hq; omega
    subst e2
    refine ⟨m, m', x, h1, h1', by omega, by omega, ?_, ?_, by omega, by omega, by omega⟩
    · rw [show q - (lc + m) = j by omega]; exact h3
    · rw [show q - (ld + m') = j' by omega]; exact h3'
  · rintro ⟨k, l, x, h1, h2, h3, h4, h5, h6, h7, h8, h9⟩
    have a1 := wayX_lt g0 _ h5
    have a2 := wayX_h (show t 7 c + up < 25 by omega) _ h5
    have b2 := wayX_h (show t 7 d + up' < 25 by omega) _ h6
    have c1 := g6 k h1
    have c2 := f6 l h2
    refine ⟨_, mem_fireL.mpr ⟨k, q - (lc + k), x, h1, by omega, h5, rfl⟩, _, mem_fireL.mpr ⟨l, q - (ld + l), x, h2, by omega, h6, rfl⟩, ?_, ?_⟩
    · exact (meet_iff a1 a2 (by omega) a1 b2 (by omega)).mpr ⟨by omega, rfl, h7, by omega, by omega⟩
    · unfold pcode; omega
theorem touB_q {L L' : List Nat} {th : Nat} : touB L L' th = true ↔ ∃ q, tqB L L' th q = true := by
  unfold touB tqB
  simp only [List.any_eq_true, Bool.and_eq_true, decide_eq_true_eq]
  constructor
  · rintro ⟨p, hp, p', hp', hm⟩
    exact ⟨p / 10000, p, hp, p', hp', hm, rfl⟩
  · rintro ⟨q, p, hp, p', hp', hm, -⟩
    exact ⟨p, hp, p', hp', hm⟩
theorem touB_iff {t : Nat → Nat → Nat} {Wd : Nat → Nat → Nat} {up c lc up' d ld th : Nat} (ht : Tok t) (hc : c < t 0 0) (hd : d < t 0 0) (hup : up ≤ 12) (hup' : up' ≤ 12) (hth : 1 ≤ th) : touB (fireL t Wd up c lc) (fireL t Wd up' d ld) th = true ↔ ∃ q, tch t Wd (t 7 c + up) c lc (t 7 d + up') d ld th q := by
  rw [touB_q]
  constructor
  · rintro ⟨q, h⟩; exact ⟨q, (tqB_iff ht hc hd hup hup' hth).mp h⟩
  · rintro ⟨q, h⟩; exact ⟨q, (tqB_iff ht hc hd hup hup' hth).mpr h⟩
theorem tch_lt {t : Nat → Nat → Nat} {Wd : Nat → Nat → Nat} {hc c lc hd d ld th q : Nat} (ht : Tok t) (hcc : c < t 0 0) (hl : lc ≤ 23) (h : tch t Wd hc c lc hd d ld th q) : q < 48 := by
  obtain ⟨g0, g1, -, -, g4, -, g6⟩ := ht.2.2.2.2.2.2.1 c hcc
  obtain ⟨k, l, x, h1, h2, h3, h4, h5, h6, h7, h8, h9⟩ := h
  have := g6 k h1
  omega
