def encS (t : Nat → Nat → Nat) (b : Option Nat) : Int32 := match b with
  | none => -1
  | some w => nI (t 13 w)
theorem encS_n (t : Nat → Nat → Nat) : encS t none = -1 := rfl
theorem encS_s (t : Nat → Nat → Nat) (w : Nat) : encS t (some w) = nI (t 13 w) := rfl
theorem m1_nlt {n : Nat} (h : n < 2 ^ 31) : ¬ nI n < -1 := by
  rw [Int32.lt_iff_toInt_lt, nI_toInt h]
  have : (-1 : Int32).toInt = -1 := rfl
  omega
theorem p_latestTold_L {F q : Nat} {t : Nat → Nat → Nat} {wq : Nat → Int32} (ht : Tok t) (hC : ∀ w, w < t 1 0 → wq w = nI (t 13 w)) (hq : q < 48) : ∀ (k i fuel : Nat), i + k = t 1 0 → k < fuel → fX8_latestTold_L7 F (nI (t 1 0)) wq (nI q) fuel (encW (lwI t q i)) (encS t (lwI t q i)) (nI i) = some (encW (lwI t q (t 1 0)))
  | 0, i, fuel + 1, h, _ => by
    have hw := ht.2.1
    rw [fX8_latestTold_L7, show i = t 1 0 by omega, if_pos (nI_le (Nat.le_refl _) (by omega))]
  | k + 1, i, fuel + 1, h, hf => by
    have hw := ht.2.1
    have hi : i < t 1 0 := by omega
    have hqi := (ht.wind hi).1
    have ih := p_latestTold_L ht hC hq (F := F) k (i + 1) fuel (by omega) (by omega)
    rw [lwI_s] at ih
    rw [fX8_latestTold_L7, if_neg (nI_ge hi (by omega)), vb_nI (by omega) (by decide), og_s, ol_s, nI_clamp (by omega), hC i hi]
    unfold fX8_latestTold_L43
    simp only [ol_s, nI_1]
    by_cases h1 : q < t 13 i
    · have hok : okW t q i (lwI t q i) = false := by simp [okW]; omega
      rw [hok] at ih
      rw [if_pos (nI_lt h1 (by omega))]
      exact ih
    · rw [if_neg (nI_nlt (by omega) (by omega))]
      cases hl : lwI t q i with
      | none =>
        have hok : okW t q i none = true := by simp [okW]; omega
        rw [hl, hok] at ih
        rw [encS_n, if_neg (m1_nlt (by omega))]
        exact ih
      | some w =>
        have hlt := lwI_lt _ hl
        have hqw := (ht.wind (show w < t 1 0 by omega)).1
        rw [encS_s]
        by_cases h2 : t 13 i < t 13 w
        · have hok : okW t q i (some w) = false := by simp [okW]; omega
          rw [hl, hok] at ih
          rw [if_pos (nI_lt h2 (by omega))]
          exact ih
        · have hok : okW t q i (some w) = true := by simp [okW]; omega
          rw [hl, hok] at ih
          rw [if_neg (nI_nlt (by omega) (by omega))]
          exact ih
  | k, i, 0, _, hf => absurd hf (Nat.not_lt_zero k)
theorem p_latestTold {F q : Nat} {t : Nat → Nat → Nat} {wq : Nat → Int32} (ht : Tok t) (hC : ∀ w, w < t 1 0 → wq w = nI (t 13 w)) (hq : q < 48) (hF : 12 < F) : fX8_latestTold F (nI (t 1 0)) wq (nI q) = some (encW (lwI t q (t 1 0))) := by
  have hw := ht.2.1
  exact p_latestTold_L ht hC hq (t 1 0) 0 F (by omega) (by omega)
/-- the arrays of told winds, from quarter i on laid -/
def wT (v : Nat → Int32) (t : Nat → Nat → Nat) (b i : Nat) : Nat → Int32 := fun j => if i ≤ j ∧ j < 48 then nI (windS t j b) else v j
theorem wT_end (v : Nat → Int32) (t : Nat → Nat → Nat) (b : Nat) : wT v t b 48 = v := by funext j; exact if_neg (by omega)
theorem wT_step {v : Nat → Int32} {t : Nat → Nat → Nat} {b i : Nat} (h : i < 48) : wT (upd v i (nI (windS t i b))) t b (i + 1) = wT v t b i := by
  funext j
  unfold wT
  by_cases h1 : i + 1 ≤ j ∧ j < 48
  · rw [if_pos h1, if_pos (by omega)]
  · rw [if_neg h1]
    by_cases h2 : j = i
    · subst h2; rw [pk_us, if_pos (by omega)]
    · rw [pk_un h2, if_neg (by omega)]
theorem p_followTold_L {F : Nat} {t : Nat → Nat → Nat} {wq wl wh : Nat → Int32} (ht : Tok t) (hC : ∀ w, w < t 1 0 → wq w = nI (t 13 w) ∧ wl w = nI (t 14 w) ∧ wh w = nI (t 15 w)) (hF : 12 < F) : ∀ (k i fuel : Nat) (hi lo : Nat → Int32), i + k = 48 → k < fuel → fX8_followTold_L2 F (nI (t 1 0)) wh wl wq fuel (nI i) hi lo = some (wT hi t 1 i, wT lo t 0 i)
  | 0, i, fuel + 1, hi, lo, h, _ => by
    rw [fX8_followTold_L2, show i = 48 by omega, if_pos (show (48 : Int32) ≤ nI 48 from nI_le (Nat.le_refl 48) (by decide)), wT_end, wT_end]
  | k + 1, i, fuel + 1, hi, lo, h, hf => by
    have hw := ht.2.1
    have hi48 : i < 48 := by omega
    have key := p_followTold_L ht hC hF (F := F) k (i + 1) fuel (upd hi i (nI (windS t i 1))) (upd lo i (nI (windS t i 0))) (by omega) (by omega)
    rw [wT_step hi48, wT_step hi48] at key
    rw [fX8_followTold_L2, if_neg (show ¬ (48 : Int32) ≤ nI i from nI_ge (a := i) (b := 48) hi48 (by decide)), p_latestTold ht (fun w hw => (hC w hw).1) hi48 hF, ob_s]
    unfold fX8_followTold_L34 fX8_followTold_L55
    have hv : vb (nI i) 48 = true := vb_nI hi48 (by decide)
    simp only [hv, og_s, ol_s, nI_1]
    rw [nI_clamp (by omega)]
    have e0 : windS t i 0 = match lwI t i (t 1 0) with | none => 3 | some w => t 14 w := rfl
    have e1 : windS t i 1 = match lwI t i (t 1 0) with | none => 3 | some w => t 15 w := rfl
    cases hl : lwI t i (t 1 0) with
    | none =>
      rw [hl] at e0 e1
      rw [e0, e1] at key
      rw [encW_n, if_pos rfl, if_pos rfl]
      exact key
    | some w =>
      have hlt := lwI_lt _ hl
      rw [hl] at e0 e1
      rw [e0, e1] at key
      have g := hC w hlt
      rw [encW_s, if_neg (nI_nm1 (by omega)), if_neg (nI_nm1 (by omega)), vb_nI (by omega) (by decide), og_s, og_s, nI_clamp (by omega), g.2.1, g.2.2]
      exact key
  | k, i, 0, hi, lo, _, hf => absurd hf (Nat.not_lt_zero k)
theorem p_followTold {F : Nat} {t : Nat → Nat → Nat} {wq wl wh hi lo : Nat → Int32} (ht : Tok t) (hC : ∀ w, w < t 1 0 → wq w = nI (t 13 w) ∧ wl w = nI (t 14 w) ∧ wh w = nI (t 15 w)) (hF : 48 < F) : fX8_followTold F (nI (t 1 0)) wh wl wq hi lo = some (wT hi t 1 0, wT lo t 0 0) :=
  p_followTold_L ht hC (by omega) 48 0 F hi lo (by omega) (by omega)
