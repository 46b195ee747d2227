/-! sums and searches over ranges and lists -/
def sumR (f : Nat → Nat) : Nat → Nat → Nat
  | _, 0 => 0
  | i, k + 1 => f i + sumR f (i + 1) k
def anyR (p : Nat → Bool) : Nat → Nat → Bool
  | _, 0 => false
  | i, k + 1 => p i || anyR p (i + 1) k
theorem sumR_s (f : Nat → Nat) (i k : Nat) : sumR f i (k + 1) = f i + sumR f (i + 1) k := rfl
theorem anyR_s (p : Nat → Bool) (i k : Nat) : anyR p i (k + 1) = (p i || anyR p (i + 1) k) := rfl
theorem anyR_iff {p : Nat → Bool} : ∀ (k i : Nat), anyR p i k = true ↔ ∃ j, i ≤ j ∧ j < i + k ∧ p j = true
  | 0, i => by
    constructor
    · intro h; cases h
    · rintro ⟨j, h1, h2, -⟩; omega
  | k + 1, i => by
    rw [anyR_s, Bool.or_eq_true, anyR_iff k (i + 1)]
    constructor
    · rintro (h | ⟨j, h1, h2, h3⟩)
      · exact ⟨i, Nat.le_refl i, by omega, h⟩
      · exact ⟨j, by omega, by omega, h3⟩
    · rintro ⟨j, h1, h2, h3⟩
      by_cases e : j = i
      · subst e; exact Or.inl h3
      · exact Or.inr ⟨j, by omega, by omega, h3⟩
theorem sumR_congr {f g : Nat → Nat} : ∀ (k i : Nat), (∀ j, i ≤ j → j < i + k → f j = g j) → sumR f i k = sumR g i k
  | 0, _, _ => rfl
  | k + 1, i, h => by
    rw [sumR_s, sumR_s, h i (Nat.le_refl i) (by omega), sumR_congr k (i + 1) (fun j h1 h2 => h j (by omega) (by omega))]
theorem anyR_congr {f g : Nat → Bool} : ∀ (k i : Nat), (∀ j, i ≤ j → j < i + k → f j = g j) → anyR f i k = anyR g i k
  | 0, _, _ => rfl
  | k + 1, i, h => by
    rw [anyR_s, anyR_s, h i (Nat.le_refl i) (by omega), anyR_congr k (i + 1) (fun j h1 h2 => h j (by omega) (by omega))]
theorem sumR_le {f : Nat → Nat} {M : Nat} : ∀ (k i : Nat), (∀ j, i ≤ j → j < i + k → f j ≤ M) → sumR f i k ≤ M * k
  | 0, _, _ => Nat.le_refl 0
  | k + 1, i, h => by
    have h1 := h i (Nat.le_refl i) (by omega)
    have h2 := sumR_le k (i + 1) (fun j h1 h2 => h j (by omega) (by omega))
    rw [sumR_s, Nat.mul_succ]; omega
theorem sumR_zero {f : Nat → Nat} (k i : Nat) (h : ∀ j, i ≤ j → j < i + k → f j = 0) : sumR f i k = 0 := by
  have := sumR_le (f := f) (M := 0) k i (fun j h1 h2 => Nat.le_of_eq (h j h1 h2))
  omega
theorem sumR_add {f g : Nat → Nat} : ∀ (k i : Nat), sumR (fun j => f j + g j) i k = sumR f i k + sumR g i k
  | 0, _ => rfl
  | k + 1, i => by rw [sumR_s, sumR_s, sumR_s, sumR_add k (i + 1)]; omega
def sumL (g : Nat → Nat) : List Nat → Nat
  | [] => 0
  | a :: l => g a + sumL g l
theorem sumL_c (g : Nat → Nat) (a : Nat) (l : List Nat) : sumL g (a :: l) = g a + sumL g l := rfl
theorem sumL_append (g : Nat → Nat) : ∀ (l m : List Nat), sumL g (l ++ m) = sumL g l + sumL g m
  | [], m => by show sumL g m = 0 + sumL g m; omega
  | a :: l, m => by
    show g a + sumL g (l ++ m) = g a + sumL g l + sumL g m
    rw [sumL_append g l m]; omega
theorem sumL_le {g : Nat → Nat} {M : Nat} : ∀ (l : List Nat), (∀ a ∈ l, g a ≤ M) → sumL g l ≤ M * l.length
  | [], _ => Nat.le_refl 0
  | a :: l, h => by
    have h1 := h a (List.mem_cons_self)
    have h2 := sumL_le l (fun b hb => h b (List.mem_cons_of_mem a hb))
    rw [sumL_c, List.length_cons, Nat.mul_succ]; omega
theorem sumL_congr {f g : Nat → Nat} : ∀ (l : List Nat), (∀ a ∈ l, f a = g a) → sumL f l = sumL g l
  | [], _ => rfl
  | a :: l, h => by
    rw [sumL_c, sumL_c, h a List.mem_cons_self, sumL_congr l (fun b hb => h b (List.mem_cons_of_mem a hb))]
/-- a list lies in an array from place j on -/
def rowAt (pf : Nat → Int32) : Nat → List Nat → Prop
  | _, [] => True
  | j, a :: l => pf j = nI a ∧ rowAt pf (j + 1) l
theorem rowAt_append {pf : Nat → Int32} : ∀ (l m : List Nat) (j : Nat), rowAt pf j l → rowAt pf (j + l.length) m → rowAt pf j (l ++ m)
  | [], m, j, _, h => h
  | a :: l, m, j, h1, h2 => by
    refine ⟨h1.1, rowAt_append l m (j + 1) h1.2 ?_⟩
    rw [List.length_cons, show j + (l.length + 1) = j + 1 + l.length by omega] at h2
    exact h2
theorem rowAt_congr {pf pg : Nat → Int32} : ∀ (l : List Nat) (j : Nat), (∀ i, j ≤ i → i < j + l.length → pg i = pf i) → rowAt pf j l → rowAt pg j l
  | [], _, _, _ => trivial
  | a :: l, j, he, h => by
    refine ⟨by rw [he j (Nat.le_refl j) (by rw [List.length_cons]; omega)]; exact h.1, rowAt_congr l (j + 1) (fun i h1 h2 => he i (by omega) (by rw [List.length_cons]; omega)) h.2⟩
