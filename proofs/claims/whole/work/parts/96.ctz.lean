theorem fa_and (a b : Nat) : nI a &&& nI b = nI (a &&& b) := by
  apply Int32.toBitVec_inj.1
  show BitVec.ofNat 32 a &&& BitVec.ofNat 32 b = BitVec.ofNat 32 (a &&& b)
  apply BitVec.eq_of_getLsbD_eq
  intro i hi
  simp [hi]
theorem fa_or (a b : Nat) : nI a ||| nI b = nI (a ||| b) := by
  apply Int32.toBitVec_inj.1
  show BitVec.ofNat 32 a ||| BitVec.ofNat 32 b = BitVec.ofNat 32 (a ||| b)
  apply BitVec.eq_of_getLsbD_eq
  intro i hi
  simp [hi]
/-- a remainder by a power of two, as a mask -/
def ctzK (F : Nat) (x_10 : Int32) : Option Int32 := if 0 < x_10 then (if x_10 ≤ (65536 : Int32) then (fJ6_numberOfTrailingZeros_0f7a4_L34 F x_10 (1 : Int32)) else (ol ((1 : Int32) + 16) (fun x1_13 => ol (((x_10).toUInt32 >>> (((16 : Int32) : Int32).toUInt32 &&& Int32.toUInt32 31)).toInt32) (fun x_14 => fJ6_numberOfTrailingZeros_0f7a4_L34 F x_14 x1_13)))) else (some (x_10 &&& (32 : Int32)))
theorem ctz_tab0 : ∀ z, z < 32 → ctzK 0 (nI (2 ^ z - 1)) = some (nI z) := by decide +kernel
theorem ctz_tab {F z : Nat} (hz : z < 32) : ctzK F (nI (2 ^ z - 1)) = some (nI z) := ctz_tab0 z hz
theorem nI_bit {N j : Nat} (hj : j < 32) : (nI N).toBitVec.getLsbD j = N.testBit j := by
  show (BitVec.ofNat 32 N).getLsbD j = _
  rw [BitVec.getLsbD_ofNat]
  simp [hj]
theorem lN_bit {N j : Nat} (hj : j < 64) : (lN N).toBitVec.getLsbD j = N.testBit j := by
  show (BitVec.ofNat 64 N).getLsbD j = _
  rw [BitVec.getLsbD_ofNat]
  simp [hj]
theorem m1_bit : ∀ j, j < 32 → (-1 : Int32).toBitVec.getLsbD j = true := by decide +kernel
theorem low_bit {N z : Nat} (h1 : N.testBit z = true) (h0 : ∀ j, j < z → N.testBit j = false) : ∃ u, N = 2 ^ z * (2 * u + 1) := by
  have e0 : N % 2 ^ z = 0 := by
    apply Nat.eq_of_testBit_eq
    intro j
    rw [Nat.testBit_mod_two_pow, Nat.zero_testBit]
    by_cases h : j < z
    · rw [h0 j h, Bool.and_false]
    · simp [h]
  have e1 : N / 2 ^ z % 2 = 1 := by
    rw [Nat.testBit_eq_decide_div_mod_eq] at h1
    simpa using h1
  refine ⟨N / 2 ^ z / 2, ?_⟩
  have h2 := Nat.div_add_mod N (2 ^ z)
  rw [e0, Nat.add_zero] at h2
  rw [show 2 * (N / 2 ^ z / 2) + 1 = N / 2 ^ z by omega, h2]
theorem ctz_y {N z : Nat} (hN : N < 2 ^ 32) (hz : z < 32) (h1 : N.testBit z = true) (h0 : ∀ j, j < z → N.testBit j = false) : (nI N ^^^ (-1 : Int32)) &&& (nI N - (1 : Int32)) = nI (2 ^ z - 1) := by
  obtain ⟨u, hu⟩ := low_bit h1 h0
  have hp : 1 ≤ 2 ^ z := Nat.one_le_two_pow
  have hN1 : N - 1 = 2 ^ z * (2 * u) + (2 ^ z - 1) := by
    rw [hu, Nat.mul_add, Nat.mul_one]; omega
  have hNp : 1 ≤ N := by rw [hu, Nat.mul_add, Nat.mul_one]; omega
  rw [show nI N - (1 : Int32) = nI (N - 1) from pk_sub (b := 1) hNp]
  apply Int32.toBitVec_inj.mp
  apply BitVec.eq_of_getLsbD_eq
  intro j hj
  rw [Int32.toBitVec_and, BitVec.getLsbD_and, Int32.toBitVec_xor, BitVec.getLsbD_xor, m1_bit j hj, nI_bit hj, nI_bit hj, nI_bit hj, Nat.testBit_two_pow_sub_one]
  by_cases h : j < z
  · rw [h0 j h, hN1, Nat.testBit_two_pow_mul_add _ (by omega), if_pos h, Nat.testBit_two_pow_sub_one]
    simp [h]
  · have e2 : N = 2 ^ z * (2 * u + 1) + 0 := hu
    rw [hN1, Nat.testBit_two_pow_mul_add _ (by omega), if_neg h]
    have e3 : N.testBit j = (2 * u + 1).testBit (j - z) := by
      rw [e2, Nat.testBit_two_pow_mul_add _ (by omega), if_neg h]
    rw [e3]
    have hd : decide (j < z) = false := by simp; omega
    rw [hd]
    cases hjz : j - z with
    | zero => simp
    | succ e =>
      rw [Nat.testBit_succ, Nat.testBit_succ, show (2 * u + 1) / 2 = u by omega, show 2 * u / 2 = u by omega]
      cases u.testBit e <;> rfl
theorem p_ctz32 {F N z : Nat} (hN : N < 2 ^ 32) (hz : z < 32) (h1 : N.testBit z = true) (h0 : ∀ j, j < z → N.testBit j = false) : fJ6_numberOfTrailingZeros_0f7a4 F (nI N) = some (nI z) := by
  have e : fJ6_numberOfTrailingZeros_0f7a4 F (nI N) = ctzK F ((nI N ^^^ (-1 : Int32)) &&& (nI N - (1 : Int32))) := rfl
  rw [e, ctz_y hN hz h1 h0, ctz_tab hz]
theorem nI_mod (N : Nat) : nI N = nI (N % 2 ^ 32) := by
  apply Int32.toBitVec_inj.mp
  apply BitVec.eq_of_toNat_eq
  show N % 2 ^ 32 = N % 2 ^ 32 % 2 ^ 32
  omega
theorem p_ctz64 {F N z : Nat} (hN : N < 2 ^ 64) (hz : z < 64) (h1 : N.testBit z = true) (h0 : ∀ j, j < z → N.testBit j = false) : fJ13_numberOfTrailingZeros_95d88 F (lN N) = some (nI z) := by
  unfold fJ13_numberOfTrailingZeros_95d88
  rw [ol_s, lN_i]
  by_cases hz32 : z < 32
  · have b1 : (N % 2 ^ 32).testBit z = true := by rw [Nat.testBit_mod_two_pow, h1]; simp [hz32]
    have b0 : ∀ j, j < z → (N % 2 ^ 32).testBit j = false := fun j hj => by rw [Nat.testBit_mod_two_pow, h0 j hj, Bool.and_false]
    have hne : ¬ nI N = 0 := by
      intro h
      have : (nI N).toBitVec.getLsbD z = (0 : Int32).toBitVec.getLsbD z := by rw [h]
      rw [nI_bit hz32, h1] at this
      have h00 : (0 : Int32).toBitVec = 0#32 := rfl
      rw [h00] at this
      simp at this
    rw [if_neg hne, nI_mod N, p_ctz32 (Nat.mod_lt _ (by decide)) hz32 b1 b0, ob_s]
  · have e0 : N % 2 ^ 32 = 0 := by
      apply Nat.eq_of_testBit_eq
      intro j
      rw [Nat.testBit_mod_two_pow, Nat.zero_testBit]
      by_cases h : j < 32
      · rw [h0 j (by omega), Bool.and_false]
      · simp [h]
    have b1 : (N / 2 ^ 32).testBit (z - 32) = true := by rw [Nat.testBit_div_two_pow, show z - 32 + 32 = z by omega, h1]
    have b0 : ∀ j, j < z - 32 → (N / 2 ^ 32).testBit j = false := fun j hj => by rw [Nat.testBit_div_two_pow]; exact h0 _ (by omega)
    rw [nI_mod N, e0, if_pos nI_0, show ((32 : Int32)) = nI 32 from rfl, wb_shr hN (by decide), lN_i, p_ctz32 (by omega) (by omega) b1 b0, ob_s, nI_add, show 32 + (z - 32) = z by omega]
theorem fin4 {X Y1 Y2 Y3 g0 g1 g2 g3 : Nat} (e0 : X = 256 * Y1 + g0) (e1 : Y1 = 256 * Y2 + g1) (e2 : Y2 = 256 * Y3 + g2) (e3 : Y3 = g3) (c0 : g0 ≤ 8) (c1 : g1 ≤ 8) (c2 : g2 ≤ 8) (c3 : g3 ≤ 8) : X < 2 ^ 28 ∧ (X + X / 2 ^ 8 + (X + X / 2 ^ 8) / 2 ^ 16) % 2 ^ 6 = g0 + (g1 + (g2 + g3)) := by
  have hX : X < 2 ^ 28 := by omega
  have h1 : X / 2 ^ 8 = Y1 := by omega
  have h2 : (X + Y1) / 2 ^ 16 = Y2 + Y3 := by omega
  refine ⟨hX, ?_⟩
  rw [h1, h2]
  omega
theorem by8_4 (f : Nat → Nat) : ∃ Y1 Y2 Y3 : Nat, by8 f 4 = 256 * Y1 + f 0 ∧ Y1 = 256 * Y2 + f 1 ∧ Y2 = 256 * Y3 + f 2 ∧ Y3 = f 3 :=
  ⟨_, _, _, rfl, rfl, rfl, by show 2 ^ 8 * 0 + f 3 = f 3; omega⟩
theorem p_bitCountI {F N : Nat} (hN : N < 2 ^ 32) : fJ6_bitCount_0f7a4 F (nI N) = some (nI (sumR (fun j => if N.testBit j then 1 else 0) 0 32)) := by
  have hf : ∀ i, N / 256 ^ i % 256 < 256 := fun i => Nat.mod_lt _ (by decide)
  have hN8 := by8_of 4 N (by rw [show (256 : Nat) ^ 4 = 2 ^ 32 from rfl]; exact hN)
  obtain ⟨w0, w1, w2, w3, w4⟩ := sw_W 4 (fun i => N / 256 ^ i % 256) hf
  rw [hN8] at w0 w1 w2
  have m85 : by8 (fun _ => 85) 4 = 1431655765 := rfl
  have m51 : by8 (fun _ => 51) 4 = 858993459 := rfl
  have m15 : by8 (fun _ => 15) 4 = 252645135 := rfl
  rw [m85] at w1
  rw [m51] at w3
  rw [m15] at w4
  have b1 : by8 (fun i => sw1 (N / 256 ^ i % 256)) 4 < 2 ^ 32 := by omega
  have hs2 : ∀ i, sw2 (sw1 (N / 256 ^ i % 256)) ≤ 68 := fun i => (sw_tab _ (hf i)).2.2.1
  have hc8 : ∀ i, cb8 (N / 256 ^ i % 256) ≤ 8 := fun i => (sw_tab _ (hf i)).2.2.2.2.2
  have b2 := by8_le 4 _ hs2
  have b3 := by8_le 4 _ hc8
  rw [show by8 (fun _ => 1) 4 = 16843009 from rfl] at b2 b3
  obtain ⟨Y1, Y2, Y3, e0, e1, e2, e3⟩ := by8_4 (fun i => cb8 (N / 256 ^ i % 256))
  have fin := fin4 e0 e1 e2 e3 (hc8 0) (hc8 1) (hc8 2) (hc8 3)
  have hsum : sumR (fun j => if N.testBit j then 1 else 0) 0 32 = cb8 (N / 256 ^ 0 % 256) + (cb8 (N / 256 ^ 1 % 256) + (cb8 (N / 256 ^ 2 % 256) + cb8 (N / 256 ^ 3 % 256))) := by
    rw [cb8_at, cb8_at, cb8_at, cb8_at]
    rw [sumR_split 8 24, sumR_split 8 16, sumR_split 8 8]
  generalize by8 (fun i => sw1 (N / 256 ^ i % 256)) 4 = B1 at *
  generalize by8 (fun i => sw2 (sw1 (N / 256 ^ i % 256))) 4 = B2 at *
  generalize by8 (fun i => cb8 (N / 256 ^ i % 256)) 4 = B3 at *
  have a1 : nI (N / 2 ^ 1) &&& (1431655765 : Int32) = nI (N / 2 ^ 1 &&& 1431655765) := fa_and _ _
  have a2 : nI B1 &&& (858993459 : Int32) = nI (B1 &&& 858993459) := fa_and _ _
  have a3 : nI (B1 / 2 ^ 2) &&& (858993459 : Int32) = nI (B1 / 2 ^ 2 &&& 858993459) := fa_and _ _
  have a4 : nI (B2 + B2 / 2 ^ 4) &&& (252645135 : Int32) = nI (B2 + B2 / 2 ^ 4 &&& 252645135) := fa_and _ _
  have a5 : ∀ M, M < 2 ^ 32 → nI M &&& (63 : Int32) = nI (M % 2 ^ 6) := fun M hM => pk_andN hM 6 rfl
  unfold fJ6_bitCount_0f7a4
  rw [pk_ushrN hN 1 1 (by decide), a1, w1, pk_sub w0, w2, ol_s, a2, pk_ushrN b1 2 2 (by decide), a3, nI_add, w3, ol_s, pk_ushrN (by omega) 4 4 (by decide), nI_add, a4, show (2 : Nat) ^ 4 = 16 from rfl, w4, ol_s, pk_ushrN (by omega) 8 8 (by decide), nI_add, ol_s, pk_ushrN (by omega) 16 16 (by decide), nI_add, ol_s, a5 _ (by omega), fin.2, hsum]
