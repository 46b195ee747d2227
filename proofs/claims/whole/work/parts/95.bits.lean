/-! ===== lN n to 2^64: shifts, and, or, masks, one bit ===== -/
theorem wb_tb (n : Nat) : (lN n).toBitVec = BitVec.ofNat 64 n := rfl
theorem wb_inj {a b : Int64} (h : a.toBitVec = b.toBitVec) : a = b := Int64.toBitVec_inj.mp h
theorem wb_tn {n : Nat} (h : n < 2 ^ 64) : (lN n).toBitVec.toNat = n := by rw [wb_tb, BitVec.toNat_ofNat, Nat.mod_eq_of_lt h]
theorem wb_of (x : Int64) : ∃ n, n < 2 ^ 64 ∧ x = lN n := ⟨x.toBitVec.toNat, x.toBitVec.isLt, wb_inj (by rw [wb_tb]; simp)⟩
theorem wb_of32 (x : Int32) : ∃ n, n < 2 ^ 32 ∧ x = nI n := ⟨x.toBitVec.toNat, x.toBitVec.isLt, Int32.toBitVec_inj.mp (by show _ = BitVec.ofNat 32 _; simp)⟩
theorem wb_c : ∀ k, k < 64 → ((nI k).toInt64 &&& 63) = lN k := by decide +kernel
theorem wb_cu : ∀ k, k < 64 → ((nI k).toInt64.toUInt64 &&& Int64.toUInt64 63) = UInt64.ofNat k := by decide +kernel
theorem wb_sm : ∀ k, k < 64 → (BitVec.ofNat 64 k).smod 64 = BitVec.ofNat 64 k := by decide +kernel
theorem wb_pw {a b : Nat} (h : a ≤ b) : 2 ^ b = 2 ^ a * 2 ^ (b - a) := by rw [← Nat.pow_add]; congr 1; omega
theorem wb_lt2 {a b : Nat} (h : a < b) : 2 ^ a < 2 ^ b := Nat.pow_lt_pow_right (by decide) h
theorem wb_mod (n : Nat) : lN n = lN (n % 2 ^ 64) := wb_inj (by rw [wb_tb, wb_tb]; apply BitVec.eq_of_toNat_eq; rw [BitVec.toNat_ofNat, BitVec.toNat_ofNat, Nat.mod_mod])
theorem wb_shr {n k : Nat} (hn : n < 2 ^ 64) (hk : k < 64) : ((lN n).toUInt64 >>> ((nI k).toInt64.toUInt64 &&& Int64.toUInt64 63)).toInt64 = lN (n / 2 ^ k) := by
  rw [wb_cu k hk]
  apply wb_inj
  apply BitVec.eq_of_toNat_eq
  show ((lN n).toUInt64 >>> UInt64.ofNat k).toNat = (BitVec.ofNat 64 _).toNat
  have h1 : (UInt64.ofNat k).toNat = k := by
    show (BitVec.ofNat 64 k).toNat = k
    rw [BitVec.toNat_ofNat, Nat.mod_eq_of_lt (by omega)]
  have h2 : (lN n).toUInt64.toNat = n := wb_tn hn
  rw [UInt64.toNat_shiftRight, h1, h2, Nat.mod_eq_of_lt hk, Nat.shiftRight_eq_div_pow, BitVec.toNat_ofNat, Nat.mod_eq_of_lt (Nat.lt_of_le_of_lt (Nat.div_le_self _ _) hn)]
theorem wb_shl (n : Nat) {k : Nat} (hk : k < 64) : lN n <<< ((nI k).toInt64 &&& 63) = lN (n * 2 ^ k) := by
  rw [wb_c k hk]
  apply wb_inj
  rw [Int64.toBitVec_shiftLeft, wb_tb, wb_tb, wb_tb, wb_sm k hk]
  apply BitVec.eq_of_toNat_eq
  rw [BitVec.shiftLeft_eq', BitVec.toNat_shiftLeft, BitVec.toNat_ofNat, BitVec.toNat_ofNat, BitVec.toNat_ofNat, Nat.mod_eq_of_lt (show k < 2 ^ 64 by omega), Nat.shiftLeft_eq, Nat.mul_mod, Nat.mod_mod, ← Nat.mul_mod]
theorem wb_and {a b : Nat} (ha : a < 2 ^ 64) (hb : b < 2 ^ 64) : lN a &&& lN b = lN (a &&& b) := by
  apply wb_inj
  rw [Int64.toBitVec_and, wb_tb, wb_tb, wb_tb]
  apply BitVec.eq_of_toNat_eq
  rw [BitVec.toNat_and, BitVec.toNat_ofNat, BitVec.toNat_ofNat, BitVec.toNat_ofNat, Nat.mod_eq_of_lt ha, Nat.mod_eq_of_lt hb, Nat.mod_eq_of_lt (Nat.and_lt_two_pow _ hb)]
theorem wb_or {a b : Nat} (ha : a < 2 ^ 64) (hb : b < 2 ^ 64) : lN a ||| lN b = lN (a ||| b) := by
  apply wb_inj
  rw [Int64.toBitVec_or, wb_tb, wb_tb, wb_tb]
  apply BitVec.eq_of_toNat_eq
  rw [BitVec.toNat_or, BitVec.toNat_ofNat, BitVec.toNat_ofNat, BitVec.toNat_ofNat, Nat.mod_eq_of_lt ha, Nat.mod_eq_of_lt hb, Nat.mod_eq_of_lt (Nat.or_lt_two_pow ha hb)]
theorem wb_mask {n k : Nat} (hn : n < 2 ^ 64) (hk : k < 64) : lN n &&& lN (2 ^ k - 1) = lN (n % 2 ^ k) := by
  rw [wb_and hn (by have := wb_lt2 hk; omega), Nat.and_two_pow_sub_one_eq_mod]
theorem wb_a1 {n : Nat} (hn : n < 2 ^ 64) : lN n &&& 1 = lN (n % 2) := wb_mask (k := 1) hn (by decide)
theorem wb_bit {n k : Nat} (hn : n < 2 ^ 64) (hk : k < 64) : ((lN n).toUInt64 >>> ((nI k).toInt64.toUInt64 &&& Int64.toUInt64 63)).toInt64 &&& 1 = lN (n / 2 ^ k % 2) := by
  rw [wb_shr hn hk, wb_a1 (Nat.lt_of_le_of_lt (Nat.div_le_self _ _) hn)]
/-! HOW MANY BITS: the class library's sums by bytes -/
theorem cat_and {n A a B b : Nat} (ha : a < 2 ^ n) (hb : b < 2 ^ n) : (2 ^ n * A + a) &&& (2 ^ n * B + b) = 2 ^ n * (A &&& B) + (a &&& b) := by
  apply Nat.eq_of_testBit_eq
  intro j
  rw [Nat.testBit_and, Nat.testBit_two_pow_mul_add _ ha, Nat.testBit_two_pow_mul_add _ hb, Nat.testBit_two_pow_mul_add _ (Nat.and_lt_two_pow _ hb)]
  by_cases h : j < n
  · rw [if_pos h, if_pos h, if_pos h, Nat.testBit_and]
  · rw [if_neg h, if_neg h, if_neg h, Nat.testBit_and]
def by8 (f : Nat → Nat) : Nat → Nat
  | 0 => 0
  | n + 1 => 2 ^ 8 * by8 (fun i => f (i + 1)) n + f 0
theorem by8_s (f : Nat → Nat) (n : Nat) : by8 f (n + 1) = 2 ^ 8 * by8 (fun i => f (i + 1)) n + f 0 := rfl
theorem by8_congr {f g : Nat → Nat} (h : ∀ i, f i = g i) (n : Nat) : by8 f n = by8 g n := by rw [show f = g from funext h]
theorem and_W : ∀ (n : Nat) (f g : Nat → Nat), (∀ i, f i < 2 ^ 8) → (∀ i, g i < 2 ^ 8) → by8 f n &&& by8 g n = by8 (fun i => f i &&& g i) n
  | 0, _, _, _, _ => by simp [by8]
  | n + 1, f, g, hf, hg => by
    rw [by8_s, by8_s, by8_s, cat_and (hf 0) (hg 0), and_W n _ _ (fun i => hf (i + 1)) (fun i => hg (i + 1))]
theorem add_W : ∀ (n : Nat) (f g : Nat → Nat), by8 f n + by8 g n = by8 (fun i => f i + g i) n
  | 0, _, _ => rfl
  | n + 1, f, g => by
    rw [by8_s, by8_s, by8_s, ← add_W n]; omega
theorem sub_W : ∀ (n : Nat) (f g : Nat → Nat), (∀ i, g i ≤ f i) → by8 g n ≤ by8 f n ∧ by8 f n - by8 g n = by8 (fun i => f i - g i) n
  | 0, _, _, _ => ⟨Nat.le_refl 0, rfl⟩
  | n + 1, f, g, h => by
    have ih := sub_W n (fun i => f (i + 1)) (fun i => g (i + 1)) (fun i => h (i + 1))
    have h0 := h 0
    rw [by8_s, by8_s, by8_s, ← ih.2]
    omega
theorem shr_W {s m : Nat} (hs : s = 1 ∨ s = 2) (hm : m < 2 ^ (8 - s)) : ∀ (n : Nat) (f : Nat → Nat), (∀ i, f i < 2 ^ 8) → (by8 f n / 2 ^ s) &&& by8 (fun _ => m) n = by8 (fun i => (f i / 2 ^ s) &&& m) n
  | 0, _, _ => by rw [show by8 (fun _ => m) 0 = 0 from rfl, Nat.and_zero]; rfl
  | n + 1, f, hf => by
    have ih := shr_W hs hm n (fun i => f (i + 1)) (fun i => hf (i + 1))
    have h0 := hf 0
    rw [by8_s, by8_s, by8_s, ← ih]
    generalize by8 (fun i => f (i + 1)) n = w
    have e : (2 ^ 8 * w + f 0) / 2 ^ s = 2 ^ 8 * (w / 2 ^ s) + (2 ^ (8 - s) * (w % 2 ^ s) + f 0 / 2 ^ s) := by
      rcases hs with rfl | rfl <;> omega
    have hm8 : m < 2 ^ 8 := by rcases hs with rfl | rfl <;> omega
    have hlo : f 0 / 2 ^ s < 2 ^ (8 - s) := by rcases hs with rfl | rfl <;> omega
    have hl8 : 2 ^ (8 - s) * (w % 2 ^ s) + f 0 / 2 ^ s < 2 ^ 8 := by rcases hs with rfl | rfl <;> omega
    have e2 := cat_and (n := 8 - s) (A := w % 2 ^ s) (B := 0) hlo hm
    rw [Nat.mul_zero, Nat.zero_add, Nat.and_zero, Nat.mul_zero, Nat.zero_add] at e2
    rw [e, cat_and hl8 hm8, e2]
theorem by8_16 {f : Nat → Nat} (h : ∀ i, f i % 16 ≤ 4) (n : Nat) : by8 f n % 16 ≤ 4 := by
  cases n with
  | zero => show 0 % 16 ≤ 4; decide
  | succ n =>
    have := h 0
    rw [by8_s]; omega
theorem by8_le {M : Nat} : ∀ (n : Nat) (f : Nat → Nat), (∀ i, f i ≤ M) → by8 f n ≤ M * by8 (fun _ => 1) n
  | 0, _, _ => Nat.zero_le _
  | n + 1, f, h => by
    have ih := by8_le n (fun i => f (i + 1)) (fun i => h (i + 1))
    have h0 := h 0
    rw [by8_s, by8_s, Nat.mul_add, Nat.mul_one, Nat.mul_left_comm]
    have := Nat.mul_le_mul_left (2 ^ 8) ih
    omega
theorem nib_W : ∀ (n : Nat) (f : Nat → Nat), (∀ i, f i ≤ 68 ∧ f i % 16 ≤ 4) → (by8 f n + by8 f n / 16) &&& by8 (fun _ => 15) n = by8 (fun i => (f i + f i / 16) % 16) n
  | 0, _, _ => by simp [by8]
  | n + 1, f, hf => by
    have ih := nib_W n (fun i => f (i + 1)) (fun i => hf (i + 1))
    have h0 := hf 0
    have hw := by8_16 (f := fun i => f (i + 1)) (fun i => (hf (i + 1)).2) n
    rw [by8_s, by8_s, by8_s, ← ih]
    generalize by8 (fun i => f (i + 1)) n = w at hw
    have e : 2 ^ 8 * w + f 0 + (2 ^ 8 * w + f 0) / 16 = 2 ^ 8 * (w + w / 16) + (16 * (w % 16) + (f 0 + f 0 / 16)) := by omega
    rw [e, cat_and (by omega) (by decide), show (15 : Nat) = 2 ^ 4 - 1 from rfl, Nat.and_two_pow_sub_one_eq_mod]
    omega
theorem by8_of : ∀ (n N : Nat), N < 256 ^ n → by8 (fun i => N / 256 ^ i % 256) n = N
  | 0, N, h => by simp at h; subst h; rfl
  | n + 1, N, h => by
    have ih := by8_of n (N / 256) (by rw [Nat.pow_succ] at h; omega)
    have e : (fun i => N / 256 ^ (i + 1) % 256) = fun i => N / 256 / 256 ^ i % 256 := by
      funext i
      rw [Nat.div_div_eq_div_mul, Nat.pow_succ, Nat.mul_comm]
    rw [by8_s, e, ih, Nat.pow_zero, Nat.div_one]
    omega
def cb8 (b : Nat) : Nat := sumR (fun j => if b.testBit j then 1 else 0) 0 8
def sw1 (b : Nat) : Nat := b - ((b / 2 ^ 1) &&& 85)
def sw2 (b : Nat) : Nat := (b &&& 51) + ((b / 2 ^ 2) &&& 51)
theorem sw_tab : ∀ b, b < 256 → ((b / 2 ^ 1) &&& 85) ≤ b ∧ sw1 b < 256 ∧ sw2 (sw1 b) ≤ 68 ∧ sw2 (sw1 b) % 16 ≤ 4 ∧ (sw2 (sw1 b) + sw2 (sw1 b) / 16) % 16 = cb8 b ∧ cb8 b ≤ 8 := by decide +kernel
/-- the three first steps: how many bits each byte has -/
theorem sw_W (n : Nat) (f : Nat → Nat) (hf : ∀ i, f i < 256) : by8 (fun i => (f i / 2 ^ 1) &&& 85) n ≤ by8 f n ∧ by8 f n / 2 ^ 1 &&& by8 (fun _ => 85) n = by8 (fun i => (f i / 2 ^ 1) &&& 85) n ∧ by8 f n - by8 (fun i => (f i / 2 ^ 1) &&& 85) n = by8 (fun i => sw1 (f i)) n ∧ (by8 (fun i => sw1 (f i)) n &&& by8 (fun _ => 51) n) + (by8 (fun i => sw1 (f i)) n / 2 ^ 2 &&& by8 (fun _ => 51) n) = by8 (fun i => sw2 (sw1 (f i))) n ∧ (by8 (fun i => sw2 (sw1 (f i))) n + by8 (fun i => sw2 (sw1 (f i))) n / 16) &&& by8 (fun _ => 15) n = by8 (fun i => cb8 (f i)) n := by
  have h1 := sub_W n f (fun i => (f i / 2 ^ 1) &&& 85) (fun i => (sw_tab (f i) (hf i)).1)
  refine ⟨h1.1, shr_W (Or.inl rfl) (by decide) n f hf, h1.2, ?_, ?_⟩
  · rw [and_W n _ _ (fun i => (sw_tab (f i) (hf i)).2.1) (fun _ => by decide), shr_W (Or.inr rfl) (by decide) n _ (fun i => (sw_tab (f i) (hf i)).2.1), add_W]
    rfl
  · rw [nib_W n _ (fun i => ⟨(sw_tab (f i) (hf i)).2.2.1, (sw_tab (f i) (hf i)).2.2.2.1⟩)]
    exact by8_congr (fun i => (sw_tab (f i) (hf i)).2.2.2.2.1) n
theorem sumR_split {f : Nat → Nat} : ∀ (a b i : Nat), sumR f i (a + b) = sumR f i a + sumR f (i + a) b
  | 0, b, i => by rw [Nat.zero_add, Nat.add_zero]; show _ = 0 + _; omega
  | a + 1, b, i => by
    rw [show a + 1 + b = (a + b) + 1 by omega, sumR_s, sumR_s, sumR_split a b (i + 1), show i + 1 + a = i + (a + 1) by omega]; omega
theorem sumR_shift {f : Nat → Nat} (d : Nat) : ∀ (k i : Nat), sumR f (d + i) k = sumR (fun j => f (d + j)) i k
  | 0, _ => rfl
  | k + 1, i => by rw [sumR_s, sumR_s, ← sumR_shift d k (i + 1), Nat.add_assoc]
theorem cb8_at (N i : Nat) : cb8 (N / 256 ^ i % 256) = sumR (fun j => if N.testBit j then 1 else 0) (8 * i) 8 := by
  unfold cb8
  rw [show 8 * i = 8 * i + 0 from rfl, sumR_shift]
  refine sumR_congr 8 0 (fun j _ hj => ?_)
  rw [show (256 : Nat) ^ i = 2 ^ (8 * i) by rw [Nat.pow_mul], show (256 : Nat) = 2 ^ 8 from rfl, Nat.testBit_mod_two_pow, Nat.testBit_div_two_pow]
  have : decide (j < 8) = true := by simp; omega
  rw [this, Bool.true_and, Nat.add_comm]
theorem f8_1 {X Y g : Nat} (e : X = 256 * Y + g) (c : g ≤ 8) : X / 2 ^ 8 = Y := by omega
theorem f8_2 {X Y1 Y2 Y3 g0 g1 g2 : Nat} (e0 : X = 256 * Y1 + g0) (e1 : Y1 = 256 * Y2 + g1) (e2 : Y2 = 256 * Y3 + g2) (c0 : g0 ≤ 8) (c1 : g1 ≤ 8) (c2 : g2 ≤ 8) : (X + Y1) / 2 ^ 16 = Y2 + Y3 := by
  have : X + Y1 = 2 ^ 16 * (Y2 + Y3) + (g0 + g1 + 256 * (g1 + g2)) := by omega
  rw [this, Nat.mul_add_div (by decide), Nat.div_eq_of_lt (by omega), Nat.add_zero]
theorem f8_3 {X Y1 Y2 Y3 Y4 g0 g1 g2 g3 : Nat} (e0 : X = 256 * Y1 + g0) (e1 : Y1 = 256 * Y2 + g1) (e2 : Y2 = 256 * Y3 + g2) (e3 : Y3 = 256 * Y4 + g3) (c0 : g0 ≤ 8) (c1 : g1 ≤ 8) (c2 : g2 ≤ 8) (c3 : g3 ≤ 8) : ∃ A, A ≤ 134744072 ∧ X = 2 ^ 32 * Y4 + A := by
  refine ⟨g0 + 256 * g1 + 65536 * g2 + 16777216 * g3, by omega, ?_⟩
  subst e3 e2 e1 e0
  omega
theorem f8_4 {X0 X1 X2 X3 Y4 Y5 Y6 Y7 A0 A1 A2 A3 : Nat} (e0 : X0 = 2 ^ 32 * Y4 + A0) (e1 : X1 = 2 ^ 32 * Y5 + A1) (e2 : X2 = 2 ^ 32 * Y6 + A2) (e3 : X3 = 2 ^ 32 * Y7 + A3) (c0 : A0 ≤ 134744072) (c1 : A1 ≤ 134744072) (c2 : A2 ≤ 134744072) (c3 : A3 ≤ 134744072) : (X0 + X1 + (X2 + X3)) / 2 ^ 32 = Y4 + Y5 + (Y6 + Y7) := by
  have : X0 + X1 + (X2 + X3) = 2 ^ 32 * (Y4 + Y5 + (Y6 + Y7)) + (A0 + A1 + A2 + A3) := by omega
  rw [this, Nat.mul_add_div (by decide), Nat.div_eq_of_lt (by omega), Nat.add_zero]
theorem f8_5 {X Y g : Nat} (e : X = 256 * Y + g) : X % 256 = g % 256 := by omega
theorem fin8 {X Y1 Y2 Y3 Y4 Y5 Y6 Y7 g0 g1 g2 g3 g4 g5 g6 g7 : Nat} (e0 : X = 256 * Y1 + g0) (e1 : Y1 = 256 * Y2 + g1) (e2 : Y2 = 256 * Y3 + g2) (e3 : Y3 = 256 * Y4 + g3) (e4 : Y4 = 256 * Y5 + g4) (e5 : Y5 = 256 * Y6 + g5) (e6 : Y6 = 256 * Y7 + g6) (e7 : Y7 = g7) (c0 : g0 ≤ 8) (c1 : g1 ≤ 8) (c2 : g2 ≤ 8) (c3 : g3 ≤ 8) (c4 : g4 ≤ 8) (c5 : g5 ≤ 8) (c6 : g6 ≤ 8) (c7 : g7 ≤ 8) : (X + X / 2 ^ 8 + (X + X / 2 ^ 8) / 2 ^ 16 + (X + X / 2 ^ 8 + (X + X / 2 ^ 8) / 2 ^ 16) / 2 ^ 32) % 2 ^ 7 = g0 + (g1 + (g2 + (g3 + (g4 + (g5 + (g6 + g7)))))) := by
  have z7 : Y7 = 256 * 0 + g7 := by omega
  obtain ⟨A0, a0, b0⟩ := f8_3 e0 e1 e2 e3 c0 c1 c2 c3
  obtain ⟨A1, a1, b1⟩ := f8_3 e1 e2 e3 e4 c1 c2 c3 c4
  obtain ⟨A2, a2, b2⟩ := f8_3 e2 e3 e4 e5 c2 c3 c4 c5
  obtain ⟨A3, a3, b3⟩ := f8_3 e3 e4 e5 e6 c3 c4 c5 c6
  have h3 := f8_4 b0 b1 b2 b3 a0 a1 a2 a3
  rw [f8_1 e0 c0, f8_2 e0 e1 e2 c0 c1 c2, h3]
  have m0 := f8_5 e0
  have m1 := f8_5 e1
  have m2 := f8_5 e2
  have m3 := f8_5 e3
  have m4 := f8_5 e4
  have m5 := f8_5 e5
  have m6 := f8_5 e6
  have m7 := f8_5 z7
  clear h3 b0 b1 b2 b3 e0 e1 e2 e3 e4 e5 e6 e7 z7 a0 a1 a2 a3
  have hs : (X + Y1 + (Y2 + Y3) + (Y4 + Y5 + (Y6 + Y7))) % 256 = g0 + (g1 + (g2 + (g3 + (g4 + (g5 + (g6 + g7)))))) := by
    rw [Nat.add_mod, Nat.add_mod (X + Y1), Nat.add_mod X, Nat.add_mod Y2, Nat.add_mod (Y4 + Y5), Nat.add_mod Y4, Nat.add_mod Y6, m0, m1, m2, m3, m4, m5, m6, m7]
    omega
  omega
theorem nI_m7 (M : Nat) : nI M &&& 127 = nI (M % 2 ^ 7) := by
  rw [pk_and (nI M) (m := 127) 7 rfl]
  congr 1
  show (M % 2 ^ 32) % 2 ^ 7 = M % 2 ^ 7
  omega
theorem by8_8 (f : Nat → Nat) : ∃ Y1 Y2 Y3 Y4 Y5 Y6 Y7 : Nat, by8 f 8 = 256 * Y1 + f 0 ∧ Y1 = 256 * Y2 + f 1 ∧ Y2 = 256 * Y3 + f 2 ∧ Y3 = 256 * Y4 + f 3 ∧ Y4 = 256 * Y5 + f 4 ∧ Y5 = 256 * Y6 + f 5 ∧ Y6 = 256 * Y7 + f 6 ∧ Y7 = f 7 :=
  ⟨_, _, _, _, _, _, _, rfl, rfl, rfl, rfl, rfl, rfl, rfl, by show 2 ^ 8 * 0 + f 7 = f 7; omega⟩
theorem sum64 (N : Nat) : sumR (fun j => if N.testBit j then 1 else 0) 0 64 = cb8 (N / 256 ^ 0 % 256) + (cb8 (N / 256 ^ 1 % 256) + (cb8 (N / 256 ^ 2 % 256) + (cb8 (N / 256 ^ 3 % 256) + (cb8 (N / 256 ^ 4 % 256) + (cb8 (N / 256 ^ 5 % 256) + (cb8 (N / 256 ^ 6 % 256) + cb8 (N / 256 ^ 7 % 256))))))) := by
  rw [cb8_at, cb8_at, cb8_at, cb8_at, cb8_at, cb8_at, cb8_at, cb8_at]
  rw [sumR_split 8 56, sumR_split 8 48, sumR_split 8 40, sumR_split 8 32, sumR_split 8 24, sumR_split 8 16, sumR_split 8 8]
theorem p_bitCountL {F N : Nat} (hN : N < 2 ^ 64) : fJ13_bitCount_95d88 F (lN N) = some (nI (sumR (fun j => if N.testBit j then 1 else 0) 0 64)) := by
  have hf : ∀ i, N / 256 ^ i % 256 < 256 := fun i => Nat.mod_lt _ (by decide)
  have hN8 := by8_of 8 N (by rw [show (256 : Nat) ^ 8 = 2 ^ 64 from rfl]; exact hN)
  obtain ⟨w0, w1, w2, w3, w4⟩ := sw_W 8 (fun i => N / 256 ^ i % 256) hf
  rw [hN8] at w0 w1 w2
  have m85 : by8 (fun _ => 85) 8 = 6148914691236517205 := rfl
  have m51 : by8 (fun _ => 51) 8 = 3689348814741910323 := rfl
  have m15 : by8 (fun _ => 15) 8 = 1085102592571150095 := rfl
  rw [m85] at w1
  rw [m51] at w3
  rw [m15] at w4
  have b1 : by8 (fun i => sw1 (N / 256 ^ i % 256)) 8 < 2 ^ 64 := by omega
  have hs2 : ∀ i, sw2 (sw1 (N / 256 ^ i % 256)) ≤ 68 := fun i => (sw_tab _ (hf i)).2.2.1
  have hc8 : ∀ i, cb8 (N / 256 ^ i % 256) ≤ 8 := fun i => (sw_tab _ (hf i)).2.2.2.2.2
  have b2 := by8_le 8 _ hs2
  have b3 := by8_le 8 _ hc8
  rw [show by8 (fun _ => 1) 8 = 72340172838076673 from rfl] at b2 b3
  obtain ⟨Y1, Y2, Y3, Y4, Y5, Y6, Y7, e0, e1, e2, e3, e4, e5, e6, e7⟩ := by8_8 (fun i => cb8 (N / 256 ^ i % 256))
  have fin := fin8 e0 e1 e2 e3 e4 e5 e6 e7 (hc8 0) (hc8 1) (hc8 2) (hc8 3) (hc8 4) (hc8 5) (hc8 6) (hc8 7)
  have k1 : ((lN N).toUInt64 >>> (((1 : Int32)).toInt64.toUInt64 &&& Int64.toUInt64 63)).toInt64 = lN (N / 2 ^ 1) := wb_shr (k := 1) hN (by decide)
  clear e0 e1 e2 e3 e4 e5 e6 e7
  generalize by8 (fun i => sw1 (N / 256 ^ i % 256)) 8 = B1 at *
  generalize by8 (fun i => sw2 (sw1 (N / 256 ^ i % 256))) 8 = B2 at *
  generalize by8 (fun i => cb8 (N / 256 ^ i % 256)) 8 = B3 at *
  have k2 : ((lN B1).toUInt64 >>> (((2 : Int32)).toInt64.toUInt64 &&& Int64.toUInt64 63)).toInt64 = lN (B1 / 2 ^ 2) := wb_shr (k := 2) b1 (by decide)
  have k4 : ((lN B2).toUInt64 >>> (((4 : Int32)).toInt64.toUInt64 &&& Int64.toUInt64 63)).toInt64 = lN (B2 / 2 ^ 4) := wb_shr (k := 4) (by omega) (by decide)
  have k8 : ((lN B3).toUInt64 >>> (((8 : Int32)).toInt64.toUInt64 &&& Int64.toUInt64 63)).toInt64 = lN (B3 / 2 ^ 8) := wb_shr (k := 8) (by omega) (by decide)
  have k16 : ((lN (B3 + B3 / 2 ^ 8)).toUInt64 >>> (((16 : Int32)).toInt64.toUInt64 &&& Int64.toUInt64 63)).toInt64 = lN ((B3 + B3 / 2 ^ 8) / 2 ^ 16) := wb_shr (k := 16) (by omega) (by decide)
  have k32 : ((lN (B3 + B3 / 2 ^ 8 + (B3 + B3 / 2 ^ 8) / 2 ^ 16)).toUInt64 >>> (((32 : Int32)).toInt64.toUInt64 &&& Int64.toUInt64 63)).toInt64 = lN ((B3 + B3 / 2 ^ 8 + (B3 + B3 / 2 ^ 8) / 2 ^ 16) / 2 ^ 32) := wb_shr (k := 32) (by omega) (by decide)
  have a1 : lN (N / 2 ^ 1) &&& (6148914691236517205 : Int64) = lN (N / 2 ^ 1 &&& 6148914691236517205) := wb_and (by omega) (by decide)
  have a2 : lN B1 &&& (3689348814741910323 : Int64) = lN (B1 &&& 3689348814741910323) := wb_and b1 (by decide)
  have a3 : lN (B1 / 2 ^ 2) &&& (3689348814741910323 : Int64) = lN (B1 / 2 ^ 2 &&& 3689348814741910323) := wb_and (by omega) (by decide)
  have a4 : lN (B2 + B2 / 2 ^ 4) &&& (1085102592571150095 : Int64) = lN (B2 + B2 / 2 ^ 4 &&& 1085102592571150095) := wb_and (by omega) (by decide)
  unfold fJ13_bitCount_95d88
  rw [k1, a1, w1, lN_sub w0, w2, ol_s, a2, k2, a3, lN_add, w3, ol_s, k4, lN_add, a4, show (2 : Nat) ^ 4 = 16 from rfl, w4, ol_s, k8, lN_add, ol_s, k16, lN_add, ol_s, k32, lN_add, ol_s, lN_i, nI_m7, fin, sum64]
