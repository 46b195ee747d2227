def fillT {α : Type} (v : Nat → α) (i n : Nat) (a : α) : Nat → α := fun j => if i ≤ j ∧ j < n then a else v j
theorem fillT_in {α : Type} {v : Nat → α} {i n j : Nat} {a : α} (h1 : i ≤ j) (h2 : j < n) : fillT v i n a j = a := if_pos ⟨h1, h2⟩
theorem fillT_out {α : Type} {v : Nat → α} {i n j : Nat} {a : α} (h : j < i ∨ n ≤ j) : fillT v i n a j = v j := if_neg (by omega)
theorem p_fillJ_L {F n : Nat} {a : Int64} (hn : n < 2 ^ 31) : ∀ (k i fuel : Nat) (v : Nat → Int64), i + k = n → k < fuel → fJ7_fill_d0a16_L6 F n a fuel (nI i) (nI n) v = some (fillT v i n a)
  | 0, i, fuel + 1, v, h, _ => by
    rw [fJ7_fill_d0a16_L6, show i = n by omega, if_pos (nI_le (Nat.le_refl n) hn)]
    congr 1; funext j
    exact (fillT_out (by omega)).symm
  | k + 1, i, fuel + 1, v, h, hf => by
    rw [fJ7_fill_d0a16_L6, if_neg (nI_ge (by omega) hn), vb_nI (by omega) hn, og_s, ol_s, ol_s, nI_1, nI_clamp (by omega), p_fillJ_L hn k (i + 1) fuel _ (by omega) (by omega)]
    congr 1; funext j
    by_cases h1 : i + 1 ≤ j ∧ j < n
    · rw [fillT_in h1.1 h1.2, fillT_in (by omega) h1.2]
    · rw [fillT_out (by omega)]
      by_cases h2 : j = i
      · subst h2; rw [pk_uLs, fillT_in (Nat.le_refl _) (by omega)]
      · rw [pk_uLn h2, fillT_out (by omega)]
  | k, i, 0, v, _, hf => absurd hf (Nat.not_lt_zero k)
theorem p_fillJ {F n : Nat} {a : Int64} {v : Nat → Int64} (hn : n < F) (h31 : n < 2 ^ 31) : fJ7_fill_d0a16 F n v a = some (fillT v 0 n a) := by
  unfold fJ7_fill_d0a16
  rw [ol_s]
  exact p_fillJ_L h31 n 0 F v (by omega) hn
theorem p_fillI_L {F n : Nat} {a : Int32} (hn : n < 2 ^ 31) : ∀ (k i fuel : Nat) (v : Nat → Int32), i + k = n → k < fuel → fJ7_fill_53178_L5 F n a fuel (nI i) (nI n) v = some (fillT v i n a)
  | 0, i, fuel + 1, v, h, _ => by
    rw [fJ7_fill_53178_L5, show i = n by omega, if_pos (nI_le (Nat.le_refl n) hn)]
    congr 1; funext j
    exact (fillT_out (by omega)).symm
  | k + 1, i, fuel + 1, v, h, hf => by
    rw [fJ7_fill_53178_L5, if_neg (nI_ge (by omega) hn), vb_nI (by omega) hn, og_s, ol_s, ol_s, nI_1, nI_clamp (by omega), p_fillI_L hn k (i + 1) fuel _ (by omega) (by omega)]
    congr 1; funext j
    by_cases h1 : i + 1 ≤ j ∧ j < n
    · rw [fillT_in h1.1 h1.2, fillT_in (by omega) h1.2]
    · rw [fillT_out (by omega)]
      by_cases h2 : j = i
      · subst h2; rw [pk_us, fillT_in (Nat.le_refl _) (by omega)]
      · rw [pk_un h2, fillT_out (by omega)]
  | k, i, 0, v, _, hf => absurd hf (Nat.not_lt_zero k)
theorem p_fillI {F n : Nat} {a : Int32} {v : Nat → Int32} (hn : n < F) (h31 : n < 2 ^ 31) : fJ7_fill_53178 F n v a = some (fillT v 0 n a) := by
  unfold fJ7_fill_53178
  rw [ol_s]
  exact p_fillI_L h31 n 0 F v (by omega) hn
theorem p_numbers_L {F r m : Nat} {a2 thr : Int32} {many srt : Nat → Int32} (hr : r < 4) (hm : m ≤ 40) : ∀ (k i fuel : Nat) (v : Nat → Int64), i + k = m → k < fuel → fX10_numbers_L64 F (nI r) a2 (nI m) fuel (nI i) thr v many srt = some (0, thr, fillT v (40 * r + i) (40 * r + m) 0, many, srt)
  | 0, i, fuel + 1, v, h, _ => by
    rw [fX10_numbers_L64, show i = m by omega, if_pos (nI_le (Nat.le_refl m) (by omega))]
    congr 4; funext j
    exact (fillT_out (by omega)).symm
  | k + 1, i, fuel + 1, v, h, hf => by
    have ix : (40 : Int32) * nI r + nI i = nI (40 * r + i) := by
      rw [show (40 : Int32) = nI 40 from rfl, pk_mul, nI_add]
    rw [fX10_numbers_L64, if_neg (nI_ge (by omega) (by omega)), ix, vb_nI (by omega) (by decide), og_s, ol_s, ol_s, nI_1, nI_clamp (by omega), p_numbers_L hr hm k (i + 1) fuel _ (by omega) (by omega)]
    congr 4; funext j
    by_cases h1 : 40 * r + (i + 1) ≤ j ∧ j < 40 * r + m
    · rw [fillT_in h1.1 h1.2, fillT_in (by omega) h1.2]
    · rw [fillT_out (by omega)]
      by_cases h2 : j = 40 * r + i
      · subst h2; rw [pk_uLs, fillT_in (Nat.le_refl _) (by omega)]
      · rw [pk_uLn h2, fillT_out (by omega)]
  | k, i, 0, v, _, hf => absurd hf (Nat.not_lt_zero k)
