/-! told winds -/
def okW (t : Nat → Nat → Nat) (q w : Nat) (b : Option Nat) : Bool := decide (t 13 w ≤ q) && (match b with
  | none => true
  | some v => decide (t 13 v ≤ t 13 w))
/-- the wind told for the latest quarter not above q among the first n; of like ones the later told -/
def lwI (t : Nat → Nat → Nat) (q : Nat) : Nat → Option Nat
  | 0 => none
  | w + 1 => bif okW t q w (lwI t q w) then some w else lwI t q w
theorem lwI_s (t : Nat → Nat → Nat) (q w : Nat) : lwI t q (w + 1) = bif okW t q w (lwI t q w) then some w else lwI t q w := rfl
theorem lwI_lt {t : Nat → Nat → Nat} {q : Nat} : ∀ (n : Nat) {w : Nat}, lwI t q n = some w → w < n
  | 0, w, h => by cases h
  | n + 1, w, h => by
    rw [lwI_s] at h
    cases hb : okW t q n (lwI t q n) with
    | true => rw [hb] at h; simp at h; omega
    | false => rw [hb] at h; have := lwI_lt n (w := w) (by simpa using h); omega
def encW (b : Option Nat) : Int32 := match b with
  | none => -1
  | some w => nI w
theorem encW_n : encW none = -1 := rfl
theorem encW_s (w : Nat) : encW (some w) = nI w := rfl
/-- the wind of a quarter: k 0 LOW, 1 HIGH -/
def windS (t : Nat → Nat → Nat) (q k : Nat) : Nat := match lwI t q (t 1 0) with
  | none => 3
  | some w => t (14 + k) w
theorem Tok.wind {t : Nat → Nat → Nat} (h : Tok t) {w : Nat} (hw : w < t 1 0) : t 13 w < 48 ∧ t 14 w ≤ 6 ∧ t 15 w ≤ 6 := h.2.2.2.2.2.2.2 w hw
theorem windS_le {t : Nat → Nat → Nat} (h : Tok t) {q k : Nat} (hk : k < 2) : windS t q k ≤ 6 := by
  unfold windS
  cases hb : lwI t q (t 1 0) with
  | none => simp
  | some w =>
    have := h.wind (lwI_lt _ hb)
    rcases (show k = 0 ∨ k = 1 by omega) with rfl | rfl
    · exact this.2.1
    · exact this.2.2
theorem p_windOf_L {F q b : Nat} {t : Nat → Nat → Nat} {all : Nat → Int32} (ht : Tok t) (hM : tM t all 0) (hq : q < 48) (hb : b < 2) : ∀ (k i fuel : Nat), i + k = t 1 0 → k < fuel → fX10_windOf_L5 F all (nI q) (nI b) fuel (encW (lwI t q i)) (nI i) = some (nI (windS t q b))
  | 0, i, fuel + 1, h, _ => by
    have hw := ht.2.1
    have e : all (1 : Int32).toNatClampNeg = nI (t 1 0) := hM.1 1 (by decide)
    rw [fX10_windOf_L5, e, show i = t 1 0 by omega, if_pos (nI_le (Nat.le_refl _) (by omega))]
    unfold windS
    cases hl : lwI t q (t 1 0) with
    | none => rw [encW_n, if_pos rfl]; rfl
    | some w =>
      have hlt := lwI_lt _ hl
      have g := hM.2.2 w hlt
      rw [Nat.zero_add, Nat.zero_add, Nat.zero_add] at g
      have ix : (((126 : Int32) + (3 : Int32) * nI w) + (1 : Int32)) + nI b = nI (127 + 3 * w + b) := by
        rw [show (3 : Int32) = nI 3 from rfl, pk_mul, show (126 : Int32) = nI 126 from rfl, nI_add, nI_1, nI_add]
        congr 1; omega
      rw [encW_s, if_neg (nI_nm1 (by omega)), ix, vb_nI (by omega) (by decide), og_s, nI_clamp (by omega)]
      rcases (show b = 0 ∨ b = 1 by omega) with rfl | rfl
      · rw [Nat.add_zero, g.2.1]
      · rw [show 127 + 3 * w + 1 = 128 + 3 * w by omega, g.2.2]
  | k + 1, i, fuel + 1, h, hf => by
    have hw := ht.2.1
    have hi : i < t 1 0 := by omega
    have e : all (1 : Int32).toNatClampNeg = nI (t 1 0) := hM.1 1 (by decide)
    have gi := (hM.2.2 i hi).1
    rw [Nat.zero_add] at gi
    have hqi := (ht.wind hi).1
    have ix : ∀ w : Nat, (126 : Int32) + (3 : Int32) * nI w = nI (126 + 3 * w) := fun w => by
      rw [show (3 : Int32) = nI 3 from rfl, pk_mul, show (126 : Int32) = nI 126 from rfl, nI_add]
    have ih := p_windOf_L ht hM hq hb (F := F) k (i + 1) fuel (by omega) (by omega)
    rw [lwI_s] at ih
    rw [fX10_windOf_L5, e, if_neg (nI_ge hi (by omega)), ix, vb_nI (by omega) (by decide), og_s, ol_s, nI_clamp (by omega), gi]
    unfold fX10_windOf_L60 fX10_windOf_L57
    unfold fX10_windOf_L60
    simp only [ol_s, nI_1]
    by_cases h1 : q < t 13 i
    · have hok : okW t q i (lwI t q i) = false := by simp [okW]; omega
      rw [hok] at ih
      rw [if_pos (nI_lt h1 (by omega))]
      exact ih
    · rw [if_neg (nI_nlt (by omega) (by omega))]
      cases hl : lwI t q i with
      | none =>
        have hok : okW t q i none = true := by simp [okW]; omega
        rw [hl, hok] at ih
        show (if (-1 : Int32) = -1 then _ else _) = _
        rw [if_pos rfl]
        exact ih
      | some w =>
        have hlt := lwI_lt _ hl
        have gw := (hM.2.2 w (by omega)).1
        rw [Nat.zero_add] at gw
        have hqw := (ht.wind (show w < t 1 0 by omega)).1
        show (if nI w = -1 then _ else og (vb ((126 : Int32) + (3 : Int32) * nI w) 486) (if nI (t 13 i) < all ((126 : Int32) + (3 : Int32) * nI w).toNatClampNeg then fX10_windOf_L5 F all (nI q) (nI b) fuel (nI w) (nI (i + 1)) else _)) = _
        rw [if_neg (nI_nm1 (by omega)), ix, vb_nI (by omega) (by decide), og_s, nI_clamp (by omega), gw]
        by_cases h2 : t 13 i < t 13 w
        · have hok : okW t q i (some w) = false := by simp [okW]; omega
          rw [hl, hok] at ih
          rw [if_pos (nI_lt h2 (by omega))]
          exact ih
        · have hok : okW t q i (some w) = true := by simp [okW]; omega
          rw [hl, hok] at ih
          rw [if_neg (nI_nlt (by omega) (by omega))]
          exact ih
  | k, i, 0, _, hf => absurd hf (Nat.not_lt_zero k)
theorem p_windOf {F q b : Nat} {t : Nat → Nat → Nat} {all : Nat → Int32} (ht : Tok t) (hM : tM t all 0) (hq : q < 48) (hb : b < 2) (hF : 12 < F) : fX10_windOf F all (nI q) (nI b) = some (nI (windS t q b)) := by
  have hw := ht.2.1
  exact p_windOf_L ht hM hq hb (t 1 0) 0 F (by omega) (by omega)
