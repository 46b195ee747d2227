theorem p_laysWinds_L {F : Nat} {t : Nat → Nat → Nat} {all : Nat → Int32} (ht : Tok t) (hM : tM t all 0) (hF : 12 < F) : ∀ (k i fuel : Nat) (hi lo : Nat → Int32), i + k = 48 → k < fuel → fX10_laysWinds_L2 F all fuel (nI i) hi lo = some (wT hi t 1 i, wT lo t 0 i)
  | 0, i, fuel + 1, hi, lo, h, _ => by
    rw [fX10_laysWinds_L2, show i = 48 by omega, if_pos (show (48 : Int32) ≤ nI 48 from nI_le (Nat.le_refl 48) (by decide)), wT_end, wT_end]
  | k + 1, i, fuel + 1, hi, lo, h, hf => by
    have hi48 : i < 48 := by omega
    have key := p_laysWinds_L ht hM hF (F := F) k (i + 1) fuel (upd hi i (nI (windS t i 1))) (upd lo i (nI (windS t i 0))) (by omega) (by omega)
    rw [wT_step hi48, wT_step hi48] at key
    have w0 : fX10_windOf F all (nI i) 0 = some (nI (windS t i 0)) := p_windOf ht hM hi48 (by decide) hF
    have w1 : fX10_windOf F all (nI i) 1 = some (nI (windS t i 1)) := p_windOf ht hM hi48 (by decide) hF
    rw [fX10_laysWinds_L2, if_neg (show ¬ (48 : Int32) ≤ nI i from nI_ge (a := i) (b := 48) hi48 (by decide)), w0, ob_s, vb_nI hi48 (by decide), og_s, ol_s, w1, ob_s, og_s, ol_s, ol_s, nI_1, nI_clamp (by omega)]
    exact key
  | k, i, 0, hi, lo, _, hf => absurd hf (Nat.not_lt_zero k)
theorem p_laysWinds {F : Nat} {t : Nat → Nat → Nat} {all hi lo : Nat → Int32} (ht : Tok t) (hM : tM t all 0) (hF : 48 < F) : fX10_laysWinds F all hi lo = some (wT hi t 1 0, wT lo t 0 0) := p_laysWinds_L ht hM (by omega) 48 0 F hi lo (by omega) (by omega)
theorem wT_in {v : Nat → Int32} {t : Nat → Nat → Nat} {b q : Nat} (h : q < 48) : wT v t b 0 q = nI (windS t q b) := if_pos ⟨Nat.zero_le _, h⟩
