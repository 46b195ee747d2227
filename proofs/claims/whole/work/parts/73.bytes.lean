theorem i32_cases (x : Int32) : x.toBitVec.toNat < 4294967296 ∧ (x.toInt = (x.toBitVec.toNat : Int) ∨ x.toInt = (x.toBitVec.toNat : Int) - 4294967296) := by
  refine ⟨x.toBitVec.isLt, ?_⟩
  have h : x.toInt = x.toBitVec.toInt := rfl
  rw [h, BitVec.toInt_eq_toNat_cond]
  split
  · exact Or.inl rfl
  · exact Or.inr rfl
theorem byte_low (x : Int32) : x.toInt8.toInt32 &&& 255 = nI (x.toBitVec.toNat % 256) := by
  rw [pk_and x.toInt8.toInt32 (m := 255) 8 rfl]
  have h1 : (x.toInt8.toInt32).toInt = x.toInt.bmod (2 ^ 8) := by rw [Int8.toInt_toInt32, Int32.toInt_toInt8]
  have h2 := i32_cases x
  have h3 := i32_cases x.toInt8.toInt32
  have h4 : x.toInt.bmod (2 ^ 8) = x.toInt % 256 ∨ x.toInt.bmod (2 ^ 8) = x.toInt % 256 - 256 := by
    unfold Int.bmod
    simp only []
    split
    · exact Or.inl rfl
    · exact Or.inr rfl
  congr 1
  show x.toInt8.toInt32.toBitVec.toNat % 256 = x.toBitVec.toNat % 256
  omega
theorem byte_feed (a s s' : Int32) (k : Nat) (hk : k = 24 ∨ k = 16 ∨ k = 8 ∨ k = 0) (hs : ((s.toUInt32 &&& Int32.toUInt32 31).toBitVec % 32).toNat = k) (hs' : (s'.toBitVec.smod 32).toNat = k) : ((a.toUInt32 >>> (s.toUInt32 &&& Int32.toUInt32 31)).toInt32).toInt8.toInt32 &&& 255 = (a >>> s') &&& 255 := by
  rw [byte_low, pk_ushr a s k hs, pk_and (a >>> s') (m := 255) 8 rfl]
  have h1 := pk_shr a s' k hs'
  rw [Int.shiftRight_eq_div_pow] at h1
  have h2 := i32_cases a
  have h3 := i32_cases (a >>> s')
  congr 1
  show a.toBitVec.toNat / 2 ^ k % 256 = (a >>> s').toBitVec.toNat % 256
  rcases hk with rfl | rfl | rfl | rfl
  · simp only [Nat.reducePow] at h1 ⊢; omega
  · simp only [Nat.reducePow] at h1 ⊢; omega
  · simp only [Nat.reducePow] at h1 ⊢; omega
  · simp only [Nat.reducePow] at h1 ⊢; omega
