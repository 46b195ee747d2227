/-! OTHER WINDS by draws -/
def dx (x : Int32) : Int32 := ((1103515245 : Int32) * x) + (12345 : Int32)
def dN (x : Int32) : Nat := x.toBitVec.toNat / 65536 % 7
def drX (s : Int32) : Nat → Int32
  | 0 => s
  | q + 1 => dx (dx (drX s q))
/-- the wind of quarter q by seed s: b 0 LOW, 1 HIGH -/
def drW (s : Int32) (q b : Nat) : Nat := if b = 0 then dN (dx (drX s q)) else dN (dx (dx (drX s q)))
theorem drW_le (s : Int32) (q b : Nat) : drW s q b ≤ 6 := by
  unfold drW dN
  split <;> omega
theorem draw_v (x : Int32) : (((x).toUInt32 >>> (((16 : Int32) : Int32).toUInt32 &&& Int32.toUInt32 31)).toInt32) - (((x).toUInt32 >>> (((16 : Int32) : Int32).toUInt32 &&& Int32.toUInt32 31)).toInt32) / (7 : Int32) * (7 : Int32) = nI (dN x) := by
  have h := pk_ushr x 16 16 (by decide)
  have hlt := x.toBitVec.isLt
  have e : ((x).toUInt32 >>> (((16 : Int32) : Int32).toUInt32 &&& Int32.toUInt32 31)).toInt32 = nI (x.toBitVec.toNat / 65536) := by
    apply Int32.toBitVec_inj.mp
    apply BitVec.eq_of_toNat_eq
    rw [h, pk_tn (by omega)]
  rw [e]
  exact pk_rem (a := x.toBitVec.toNat / 65536) (d := 7) (by omega) (by decide) (by decide)
def oT (v : Nat → Int32) (s : Int32) (b i : Nat) : Nat → Int32 := fun j => if i ≤ j ∧ j < 48 then nI (drW s j b) else v j
theorem oT_end (v : Nat → Int32) (s : Int32) (b : Nat) : oT v s b 48 = v := by funext j; exact if_neg (by omega)
theorem oT_step {v : Nat → Int32} {s : Int32} {b i : Nat} (h : i < 48) : oT (upd v i (nI (drW s i b))) s b (i + 1) = oT v s b i := by
  funext j
  unfold oT
  by_cases h1 : i + 1 ≤ j ∧ j < 48
  · rw [if_pos h1, if_pos (by omega)]
  · rw [if_neg h1]
    by_cases h2 : j = i
    · subst h2; rw [pk_us, if_pos (by omega)]
    · rw [pk_un h2, if_neg (by omega)]
theorem oT_in {v : Nat → Int32} {s : Int32} {b q : Nat} (h : q < 48) : oT v s b 0 q = nI (drW s q b) := if_pos ⟨Nat.zero_le _, h⟩
theorem p_draw_L {F : Nat} {s : Int32} : ∀ (k i fuel : Nat) (hi lo : Nat → Int32), i + k = 48 → k < fuel → fX8_drawFrom_L4 F s fuel (drX s i) (nI i) hi lo = some (oT hi s 1 i, oT lo s 0 i)
  | 0, i, fuel + 1, hi, lo, h, _ => by
    rw [fX8_drawFrom_L4, show i = 48 by omega, if_pos (show (48 : Int32) ≤ nI 48 from nI_le (Nat.le_refl 48) (by decide)), oT_end, oT_end]
  | k + 1, i, fuel + 1, hi, lo, h, hf => by
    have hi48 : i < 48 := by omega
    have key := p_draw_L (F := F) (s := s) k (i + 1) fuel (upd hi i (nI (drW s i 1))) (upd lo i (nI (drW s i 0))) (by omega) (by omega)
    rw [oT_step hi48, oT_step hi48] at key
    have e0 : dN (dx (drX s i)) = drW s i 0 := rfl
    have e1 : dN (dx (dx (drX s i))) = drW s i 1 := rfl
    rw [fX8_drawFrom_L4, if_neg (show ¬ (48 : Int32) ≤ nI i from nI_ge (a := i) (b := 48) hi48 (by decide)), ol_s, vb_nI hi48 (by decide), og_s, ol_s, ol_s, og_s, ol_s, ol_s, nI_1, nI_clamp (by omega), draw_v, draw_v]
    rw [show dN ((1103515245 : Int32) * drX s i + 12345) = drW s i 0 from e0, show dN ((1103515245 : Int32) * ((1103515245 : Int32) * drX s i + 12345) + 12345) = drW s i 1 from e1]
    exact key
  | k, i, 0, hi, lo, _, hf => absurd hf (Nat.not_lt_zero k)
theorem p_draw {F : Nat} {s : Int32} {hi lo : Nat → Int32} (hF : 48 < F) : fX8_drawFrom F hi lo s = some (oT hi s 1 0, oT lo s 0 0) := p_draw_L 48 0 F hi lo (by omega) (by omega)
theorem p_lays_L {F : Nat} {s : Int32} : ∀ (k i fuel : Nat) (hi lo : Nat → Int32), i + k = 48 → k < fuel → fX10_laysOther_L4 F s fuel (drX s i) (nI i) hi lo = some (oT hi s 1 i, oT lo s 0 i)
  | 0, i, fuel + 1, hi, lo, h, _ => by
    rw [fX10_laysOther_L4, show i = 48 by omega, if_pos (show (48 : Int32) ≤ nI 48 from nI_le (Nat.le_refl 48) (by decide)), oT_end, oT_end]
  | k + 1, i, fuel + 1, hi, lo, h, hf => by
    have hi48 : i < 48 := by omega
    have key := p_lays_L (F := F) (s := s) k (i + 1) fuel (upd hi i (nI (drW s i 1))) (upd lo i (nI (drW s i 0))) (by omega) (by omega)
    rw [oT_step hi48, oT_step hi48] at key
    have e0 : dN (dx (drX s i)) = drW s i 0 := rfl
    have e1 : dN (dx (dx (drX s i))) = drW s i 1 := rfl
    rw [fX10_laysOther_L4, if_neg (show ¬ (48 : Int32) ≤ nI i from nI_ge (a := i) (b := 48) hi48 (by decide)), ol_s, vb_nI hi48 (by decide), og_s, ol_s, ol_s, og_s, ol_s, ol_s, nI_1, nI_clamp (by omega), draw_v, draw_v]
    rw [show dN ((1103515245 : Int32) * drX s i + 12345) = drW s i 0 from e0, show dN ((1103515245 : Int32) * ((1103515245 : Int32) * drX s i + 12345) + 12345) = drW s i 1 from e1]
    exact key
  | k, i, 0, hi, lo, _, hf => absurd hf (Nat.not_lt_zero k)
theorem p_laysOther {F : Nat} {s : Int32} {hi lo : Nat → Int32} (hF : 48 < F) : fX10_laysOther F hi lo s = some (oT hi s 1 0, oT lo s 0 0) := p_lays_L 48 0 F hi lo (by omega) (by omega)
