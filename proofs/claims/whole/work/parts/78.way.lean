/-! THE WAY of smoke: x by its age, none when it is out of all cells; ly the layer, Wd 0 q LOW and Wd 1 q HIGH winds, hg the height, x0 the place, b the quarter in which it begins -/
def wStep (ly : Nat) (Wd : Nat → Nat → Nat) (h x q : Nat) : Option Nat := if 3 ≤ x + Wd (if h < ly then 0 else 1) q ∧ x + Wd (if h < ly then 0 else 1) q < 43 ∧ h + 1 < 25 then some (x + Wd (if h < ly then 0 else 1) q - 3) else none
def wayX (ly : Nat) (Wd : Nat → Nat → Nat) (hg x0 b : Nat) : Nat → Option Nat
  | 0 => some x0
  | a + 1 => match wayX ly Wd hg x0 b a with
    | none => none
    | some x => wStep ly Wd (hg + a) x (b + a + 1)
theorem wayX_n {ly hg x0 b a : Nat} {Wd : Nat → Nat → Nat} (h : wayX ly Wd hg x0 b a = none) : wayX ly Wd hg x0 b (a + 1) = none := by
  show (match wayX ly Wd hg x0 b a with | none => none | some x => wStep ly Wd (hg + a) x (b + a + 1)) = none
  rw [h]
theorem wayX_s {ly hg x0 b a x : Nat} {Wd : Nat → Nat → Nat} (h : wayX ly Wd hg x0 b a = some x) : wayX ly Wd hg x0 b (a + 1) = wStep ly Wd (hg + a) x (b + a + 1) := by
  show (match wayX ly Wd hg x0 b a with | none => none | some x => wStep ly Wd (hg + a) x (b + a + 1)) = _
  rw [h]
theorem wayX_lt {ly hg x0 b : Nat} {Wd : Nat → Nat → Nat} (h0 : x0 < 40) : ∀ (a : Nat) {x : Nat}, wayX ly Wd hg x0 b a = some x → x < 40
  | 0, x, h => by cases h; exact h0
  | a + 1, x, h => by
    cases hp : wayX ly Wd hg x0 b a with
    | none => rw [wayX_n hp] at h; cases h
    | some y =>
      rw [wayX_s hp] at h
      unfold wStep at h
      generalize Wd (if hg + a < ly then 0 else 1) (b + a + 1) = w at h
      by_cases hc : 3 ≤ y + w ∧ y + w < 43 ∧ hg + a + 1 < 25
      · rw [if_pos hc] at h; cases h; omega
      · rw [if_neg hc] at h; cases h
theorem p_isX {F : Nat} {a : Int32} : fX9_isX F a = some (bI (vb a 40)) := by
  unfold fX9_isX
  rcases vb_cases (a := a) (n := 40) (by decide) with ⟨h1, q, hq, rfl⟩ | ⟨h1, h2⟩
  · rw [if_neg (nI_pos (by omega)), if_neg (show ¬ (40 : Int32) ≤ nI q from nI_ge (a := q) (b := 40) hq (by decide)), h1]; rfl
  · rw [h1]
    rcases h2 with q | q
    · rw [if_pos q]; rfl
    · rw [if_pos (show (40 : Int32) ≤ a from q)]
      split <;> rfl
/-- x + wind - 3 as the class reckons it -/
theorem x_move {x w : Nat} (hx : x < 40) (hw : w ≤ 6) : (3 ≤ x + w → nI x + (nI w - 3) = nI (x + w - 3)) ∧ (x + w < 3 → vb (nI x + (nI w - 3)) 40 = false) := by
  have e : ∀ x, x < 40 → ∀ w, w < 7 → (3 ≤ x + w → nI x + (nI w - 3) = nI (x + w - 3)) ∧ (x + w < 3 → vb (nI x + (nI w - 3)) 40 = false) := by decide +kernel
  exact e x hx w (by omega)
