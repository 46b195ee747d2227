/-! PLANS: f k q: member k may be lit in q; x j a i b: members j < i, lit in a and b, clash; s the set -/
def noC (x : Nat → Nat → Nat → Nat → Bool) (s : Nat → Bool) (g : Nat → Nat) (i j q : Nat) : Bool := (List.range i).all (fun k => !s k || !x k (g k) j q)
theorem noC_iff {x : Nat → Nat → Nat → Nat → Bool} {s : Nat → Bool} {g : Nat → Nat} {i j q : Nat} : noC x s g i j q = true ↔ ∀ k, k < i → s k = true → x k (g k) j q = false := by
  unfold noC
  rw [List.all_eq_true]
  constructor
  · intro h k hk hs
    have := h k (List.mem_range.mpr hk)
    rw [hs] at this
    simpa using this
  · intro h k hk
    have := h k (List.mem_range.mp hk)
    cases hs : s k with
    | false => rfl
    | true => rw [this hs]; rfl
def goB (f : Nat → Nat → Bool) (x : Nat → Nat → Nat → Nat → Bool) (s : Nat → Bool) (g : Nat → Nat) (i j q : Nat) : Bool := f j q && noC x s g i j q
theorem goB_iff {f : Nat → Nat → Bool} {x : Nat → Nat → Nat → Nat → Bool} {s : Nat → Bool} {g : Nat → Nat} {i j q : Nat} : goB f x s g i j q = true ↔ f j q = true ∧ ∀ k, k < i → s k = true → x k (g k) j q = false := by
  unfold goB
  rw [Bool.and_eq_true, noC_iff]
/-- one more is lit -/
theorem goB_up {f : Nat → Nat → Bool} {x : Nat → Nat → Nat → Nat → Bool} {s : Nat → Bool} {g : Nat → Nat} {i j a q : Nat} (hs : s i = true) : goB f x s (va_up g i a) (i + 1) j q = (goB f x s g i j q && !x i a j q) := by
  rw [Bool.eq_iff_iff, Bool.and_eq_true, goB_iff, goB_iff]
  constructor
  · rintro ⟨h1, h2⟩
    refine ⟨⟨h1, fun k hk hsk => ?_⟩, ?_⟩
    · have := h2 k (by omega) hsk
      rwa [va_up_ne _ _ (by omega)] at this
    · have := h2 i (by omega) hs
      rw [va_up_self] at this
      rw [this]; rfl
  · rintro ⟨⟨h1, h2⟩, h3⟩
    refine ⟨h1, fun k hk hsk => ?_⟩
    by_cases e : k = i
    · subst e; rw [va_up_self]; simpa using h3
    · rw [va_up_ne _ _ e]; exact h2 k (by omega) hsk
/-- one that is not in the set is passed over -/
theorem goB_no {f : Nat → Nat → Bool} {x : Nat → Nat → Nat → Nat → Bool} {s : Nat → Bool} {g : Nat → Nat} {i j q : Nat} (hs : s i = false) : goB f x s g (i + 1) j q = goB f x s g i j q := by
  rw [Bool.eq_iff_iff, goB_iff, goB_iff]
  refine and_congr_right (fun _ => ⟨fun h k hk hsk => h k (by omega) hsk, fun h k hk hsk => ?_⟩)
  by_cases e : k = i
  · subst e; rw [hs] at hsk; cases hsk
  · exact h k (by omega) hsk
def fromQ {α : Type} (h : Nat → List α) : Nat → Nat → List α
  | 0, _ => []
  | n + 1, q => h q ++ fromQ h n (q + 1)
theorem fromQ_s {α : Type} (h : Nat → List α) (n q : Nat) : fromQ h (n + 1) q = h q ++ fromQ h n (q + 1) := rfl
theorem fromQ_nil {α : Type} {h : Nat → List α} : ∀ (n q : Nat), (∀ j, q ≤ j → j < q + n → h j = []) → fromQ h n q = []
  | 0, _, _ => rfl
  | n + 1, q, hh => by rw [fromQ_s, hh q (by omega) (by omega), fromQ_nil n (q + 1) (fun j a b => hh j (by omega) (by omega))]; rfl
theorem fromQ_len {α : Type} {h : Nat → List α} : ∀ (n q : Nat), (fromQ h n q).length = sumR (fun j => (h j).length) q n
  | 0, _ => rfl
  | n + 1, q => by rw [fromQ_s, List.length_append, fromQ_len n (q + 1), sumR_s]
theorem fromQ_mem {α : Type} {h : Nat → List α} {p : α} : ∀ (n q : Nat), p ∈ fromQ h n q → ∃ j, q ≤ j ∧ j < q + n ∧ p ∈ h j
  | 0, _, hp => by cases hp
  | n + 1, q, hp => by
    rw [fromQ_s, List.mem_append] at hp
    rcases hp with hp | hp
    · exact ⟨q, by omega, by omega, hp⟩
    · obtain ⟨j, a, b, c⟩ := fromQ_mem n (q + 1) hp
      exact ⟨j, by omega, by omega, c⟩
theorem fromQ_congr {α : Type} {h h' : Nat → List α} : ∀ (n q : Nat), (∀ j, q ≤ j → j < q + n → h j = h' j) → fromQ h n q = fromQ h' n q
  | 0, _, _ => rfl
  | n + 1, q, hh => by rw [fromQ_s, fromQ_s, hh q (by omega) (by omega), fromQ_congr n (q + 1) (fun j a b => hh j (by omega) (by omega))]
/-- all plans of the set's members from i on, in their order: latest quarter, sum, quarters -/
def PL (f : Nat → Nat → Bool) (x : Nat → Nat → Nat → Nat → Bool) (s : Nat → Bool) : Nat → Nat → (Nat → Nat) → Nat → Nat → List (Nat × Nat × (Nat → Nat))
  | 0, _, g, la, su => [(la, su, g)]
  | r + 1, i, g, la, su => if s i = true then fromQ (fun q => if goB f x s g i i q = true then PL f x s r (i + 1) (va_up g i q) (max la q) (su + q) else []) 24 0 else PL f x s r (i + 1) g la su
/-- what lighting member i in q gives -/
def plH (f : Nat → Nat → Bool) (x : Nat → Nat → Nat → Nat → Bool) (s : Nat → Bool) (r i : Nat) (g : Nat → Nat) (la su q : Nat) : List (Nat × Nat × (Nat → Nat)) := if goB f x s g i i q = true then PL f x s r (i + 1) (va_up g i q) (max la q) (su + q) else []
theorem PL_in {f : Nat → Nat → Bool} {x : Nat → Nat → Nat → Nat → Bool} {s : Nat → Bool} {r i : Nat} {g : Nat → Nat} {la su : Nat} (hs : s i = true) : PL f x s (r + 1) i g la su = fromQ (plH f x s r i g la su) 24 0 := by
  rw [PL, if_pos hs]; rfl
theorem PL_out {f : Nat → Nat → Bool} {x : Nat → Nat → Nat → Nat → Bool} {s : Nat → Bool} {r i : Nat} {g : Nat → Nat} {la su : Nat} (hs : s i = false) : PL f x s (r + 1) i g la su = PL f x s r (i + 1) g la su := by
  rw [PL, if_neg (by rw [hs]; decide)]
theorem PL_skip {f : Nat → Nat → Bool} {x : Nat → Nat → Nat → Nat → Bool} {s : Nat → Bool} {r : Nat} {g : Nat → Nat} {la su : Nat} : ∀ (n i : Nat), (∀ j, i ≤ j → j < i + n → s j = false) → PL f x s (r + n) i g la su = PL f x s r (i + n) g la su
  | 0, _, _ => rfl
  | n + 1, i, h => by
    rw [← Nat.add_assoc, PL_out (h i (by omega) (by omega)), PL_skip n (i + 1) (fun j a b => h j (by omega) (by omega)), show i + 1 + n = i + (n + 1) by omega]
theorem PL_none {f : Nat → Nat → Bool} {x : Nat → Nat → Nat → Nat → Bool} {s : Nat → Bool} {g : Nat → Nat} {la su : Nat} (r i : Nat) (h : ∀ j, i ≤ j → j < i + r → s j = false) : PL f x s r i g la su = [(la, su, g)] := by
  have := PL_skip (f := f) (x := x) (r := 0) (g := g) (la := la) (su := su) r i h
  rw [Nat.zero_add] at this
  rw [this]; rfl
/-- a member for which nothing is open: no plan -/
theorem PL_dead {f : Nat → Nat → Bool} {x : Nat → Nat → Nat → Nat → Bool} {s : Nat → Bool} {j : Nat} (hs : s j = true) : ∀ (r i : Nat) (g : Nat → Nat) (la su : Nat), i ≤ j → j < i + r → (∀ q, q < 24 → goB f x s g i j q = false) → PL f x s r i g la su = []
  | 0, i, g, la, su, h1, h2, _ => by omega
  | r + 1, i, g, la, su, h1, h2, hd => by
    by_cases e : i = j
    · subst e
      rw [PL_in hs]
      refine fromQ_nil 24 0 (fun q _ hq => ?_)
      unfold plH
      rw [hd q (by omega)]; rfl
    · cases hsi : s i with
      | false =>
        rw [PL_out hsi]
        exact PL_dead hs r (i + 1) g la su (by omega) (by omega) (fun q hq => by rw [goB_no hsi]; exact hd q hq)
      | true =>
        rw [PL_in hsi]
        refine fromQ_nil 24 0 (fun q _ hq => ?_)
        unfold plH
        rw [PL_dead hs r (i + 1) (va_up g i q) _ _ (by omega) (by omega) (fun b hb => by rw [goB_up hsi, hd b hb]; rfl)]
        split <;> rfl
/-- a smaller set has a plan if a larger one has -/
theorem PL_sub {f : Nat → Nat → Bool} {x : Nat → Nat → Nat → Nat → Bool} {s s' : Nat → Bool} (hs : ∀ j, s' j = true → s j = true) : ∀ (r i : Nat) (g g' : Nat → Nat) (la su la' su' : Nat), (∀ j, j < i → s' j = true → g' j = g j) → PL f x s' r i g' la' su' = [] → PL f x s r i g la su = []
  | 0, i, g, g', la, su, la', su', _, h => by cases h
  | r + 1, i, g, g', la, su, la', su', hg, h => by
    have hgo : ∀ q, goB f x s g i i q = true → goB f x s' g' i i q = true := fun q hq => by
      rw [goB_iff] at hq ⊢
      refine ⟨hq.1, fun k hk hsk => ?_⟩
      rw [hg k hk hsk]
      exact hq.2 k hk (hs k hsk)
    cases hs' : s' i with
    | true =>
      rw [PL_in hs'] at h
      rw [PL_in (hs i hs')]
      refine fromQ_nil 24 0 (fun q _ hq => ?_)
      unfold plH
      cases hb : goB f x s g i i q with
      | false => rfl
      | true =>
        rw [if_pos rfl]
        have hq0 : plH f x s' r i g' la' su' q = [] := by
          apply Classical.byContradiction
          intro hne
          obtain ⟨p, hp⟩ := List.exists_mem_of_ne_nil _ hne
          have hin : ∀ (n a : Nat), a ≤ q → q < a + n → p ∈ fromQ (plH f x s' r i g' la' su') n a := by
            intro n
            induction n with
            | zero => intro a h1 h2; omega
            | succ n ih =>
              intro a h1 h2
              rw [fromQ_s, List.mem_append]
              by_cases e : a = q
              · subst e; exact Or.inl hp
              · exact Or.inr (ih (a + 1) (by omega) (by omega))
          have := hin 24 0 (by omega) (by omega)
          rw [h] at this; cases this
        unfold plH at hq0
        rw [if_pos (hgo q hb)] at hq0
        exact PL_sub hs r (i + 1) _ _ _ _ _ _ (fun j hj hsj => by
          by_cases e : j = i
          · subst e; rw [va_up_self, va_up_self]
          · rw [va_up_ne _ _ e, va_up_ne _ _ e]; exact hg j (by omega) hsj) hq0
    | false =>
      rw [PL_out hs'] at h
      cases hsi : s i with
      | false =>
        rw [PL_out hsi]
        exact PL_sub hs r (i + 1) _ _ _ _ _ _ (fun j hj hsj => by
          by_cases e : j = i
          · subst e; rw [hs'] at hsj; cases hsj
          · exact hg j (by omega) hsj) h
      | true =>
        rw [PL_in hsi]
        refine fromQ_nil 24 0 (fun q _ hq => ?_)
        unfold plH
        rw [PL_sub hs r (i + 1) (va_up g i q) g' (max la q) (su + q) la' su' (fun j hj hsj => by
          by_cases e : j = i
          · subst e; rw [hs'] at hsj; cases hsj
          · rw [va_up_ne _ _ e]; exact hg j (by omega) hsj) h]
        split <;> rfl
/-- of a plan: no sooner than what is known of it -/
def mxl (lo : Nat → Nat) : Nat → Nat → Nat → Nat
  | 0, _, la => la
  | r + 1, i, la => mxl lo r (i + 1) (max la (lo i))
theorem mxl_mono (lo : Nat → Nat) : ∀ (r i la la' : Nat), la ≤ la' → mxl lo r i la ≤ mxl lo r i la'
  | 0, _, _, _, h => h
  | r + 1, i, la, la', h => mxl_mono lo r (i + 1) _ _ (by omega)
theorem mxl_ge (lo : Nat → Nat) : ∀ (r i la : Nat), la ≤ mxl lo r i la
  | 0, _, _ => Nat.le_refl _
  | r + 1, i, la => Nat.le_trans (Nat.le_max_left _ _) (mxl_ge lo r (i + 1) _)
theorem mxl_le (lo : Nat → Nat) {M : Nat} : ∀ (r i la : Nat), la ≤ M → (∀ j, i ≤ j → j < i + r → lo j ≤ M) → mxl lo r i la ≤ M
  | 0, _, _, h, _ => h
  | r + 1, i, la, h, hl => mxl_le lo r (i + 1) _ (by have := hl i (by omega) (by omega); omega) (fun j a b => hl j (by omega) (by omega))
theorem PL_lb {f : Nat → Nat → Bool} {x : Nat → Nat → Nat → Nat → Bool} {s : Nat → Bool} {lo : Nat → Nat} {p : Nat × Nat × (Nat → Nat)} : ∀ (r i : Nat) (g : Nat → Nat) (la su : Nat), (∀ j, i ≤ j → j < i + r → s j = true ∧ ∀ q, q < 24 → goB f x s g i j q = true → lo j ≤ q) → p ∈ PL f x s r i g la su → mxl lo r i la ≤ p.1 ∧ su + sumR lo i r ≤ p.2.1
  | 0, i, g, la, su, _, hp => by
    rw [PL, List.mem_singleton] at hp
    subst hp
    exact ⟨Nat.le_refl _, Nat.le_refl _⟩
  | r + 1, i, g, la, su, hl, hp => by
    have hi := hl i (by omega) (by omega)
    rw [PL_in hi.1] at hp
    obtain ⟨q, _, hq, hp⟩ := fromQ_mem 24 0 hp
    unfold plH at hp
    cases hb : goB f x s g i i q with
    | false => rw [hb, if_neg (by decide)] at hp; cases hp
    | true =>
      rw [hb, if_pos rfl] at hp
      have hlo := hi.2 q (by omega) hb
      have ih := PL_lb (lo := lo) r (i + 1) (va_up g i q) (max la q) (su + q) (fun j a b => ⟨(hl j (by omega) (by omega)).1, fun b' hb' hg => (hl j (by omega) (by omega)).2 b' hb' (by
        rw [goB_up hi.1, Bool.and_eq_true] at hg
        exact hg.1)⟩) hp
      have hm := mxl_mono lo r (i + 1) (max la (lo i)) (max la q) (by omega)
      refine ⟨Nat.le_trans hm ih.1, ?_⟩
      rw [sumR_s]
      omega
/-- plans keep what is chosen already -/
theorem PL_keep {f : Nat → Nat → Bool} {x : Nat → Nat → Nat → Nat → Bool} {s : Nat → Bool} {p : Nat × Nat × (Nat → Nat)} : ∀ (r i : Nat) (g : Nat → Nat) (la su : Nat), p ∈ PL f x s r i g la su → p.1 ≤ max la 23 ∧ p.2.1 ≤ su + 23 * r
  | 0, i, g, la, su, hp => by
    rw [PL, List.mem_singleton] at hp
    subst hp
    exact ⟨by dsimp only; omega, by dsimp only; omega⟩
  | r + 1, i, g, la, su, hp => by
    cases hs : s i with
    | false =>
      rw [PL_out hs] at hp
      have := PL_keep r (i + 1) g la su hp
      exact ⟨this.1, by omega⟩
    | true =>
      rw [PL_in hs] at hp
      obtain ⟨q, _, hq, hp⟩ := fromQ_mem 24 0 hp
      unfold plH at hp
      cases hb : goB f x s g i i q with
      | false => rw [hb, if_neg (by decide)] at hp; cases hp
      | true =>
        rw [hb, if_pos rfl] at hp
        have ih := PL_keep r (i + 1) _ _ _ hp
        refine ⟨by omega, by omega⟩
/-- sets of at most five members as bits: the first, the rest -/
theorem low5 : ∀ m, m < 32 → m ≠ 0 → ∃ z, z < 5 ∧ (m.testBit z = true ∧ (∀ j, j < z → m.testBit j = false) ∧ (∃ m', m' < 32 ∧ (nI m &&& (nI m - 1) = nI m' ∧ ∀ j, j < 5 → m'.testBit j = (m.testBit j && decide (j ≠ z))))) := by decide +kernel
theorem tb5 : ∀ m, m < 32 → ∀ j, j < 32 → 5 ≤ j → m.testBit j = false := by decide +kernel
theorem tb5' {m j : Nat} (hm : m < 32) (hj : 5 ≤ j) : m.testBit j = false := by
  apply Nat.testBit_lt_two_pow
  have : 2 ^ 5 ≤ 2 ^ j := Nat.pow_le_pow_right (by decide) hj
  omega
theorem p_firstOf {F m z : Nat} (hm : m < 32) (hz : z < 5) (h1 : m.testBit z = true) (h0 : ∀ j, j < z → m.testBit j = false) : fX6_firstOf F (nI m) = some (nI z) := by
  unfold fX6_firstOf
  rw [p_ctz32 (by omega) (by omega) h1 h0, ob_s, if_neg (show ¬ (4 : Int32) < nI z from nI_nlt (a := 4) (b := z) (by omega) (by decide))]
