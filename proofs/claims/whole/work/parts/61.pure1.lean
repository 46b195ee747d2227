/-! the reference's small steps -/
theorem vb_in {c : Int32} {n : Nat} : vb c n = true ↔ vp_in c n := by
  refine ⟨vb_ok, fun h => ?_⟩
  have h1 : ¬ c < 0 := fun q => h (Or.inl q)
  have h2 : c.toNatClampNeg < n := Nat.lt_of_not_le (fun q => h (Or.inr q))
  simp [vb, h1, h2]
theorem vb_iff {c : Int32} {n : Nat} : vb c n = true ↔ 0 ≤ c.toInt ∧ c.toInt < n := vb_in.trans vp_in_iff
def bI (b : Bool) : Int32 := if b then 1 else 0
theorem bI_zb (b : Bool) : zb (bI b) = true := by cases b <;> rfl
theorem p_within {F : Nat} {a lo hi : Int64} : fX10_within F a lo hi = some (bI (decide (lo ≤ a) && decide (a ≤ hi))) := by
  unfold fX10_within
  by_cases h1 : a < lo
  · rw [if_pos ((lg_cmp_lt a lo).mpr h1)]
    have : ¬ lo ≤ a := Int64.not_le.mpr h1
    simp [this, bI]
  · rw [if_neg (fun q => h1 ((lg_cmp_lt a lo).mp q))]
    have h2 : lo ≤ a := Int64.not_lt.mp h1
    by_cases h3 : hi < a
    · rw [if_pos ((lg_cmp_gt a hi).mpr h3)]
      have : ¬ a ≤ hi := Int64.not_le.mpr h3
      simp [this, bI]
    · rw [if_neg (fun q => h3 ((lg_cmp_gt a hi).mp q))]
      have : a ≤ hi := Int64.not_lt.mp h3
      simp [this, h2, bI]
theorem i64_le {x : Int32} {y : Int64} : y ≤ x.toInt64 ↔ y.toInt ≤ x.toInt := by
  rw [Int64.le_iff_toInt_le, Int32.toInt_toInt64]
theorem i64_ge {x : Int32} {y : Int64} : x.toInt64 ≤ y ↔ x.toInt ≤ y.toInt := by
  rw [Int64.le_iff_toInt_le, Int32.toInt_toInt64]
/-- within of an int between numbers of longs -/
theorem p_within32 {F : Nat} {x : Int32} {lo hi : Int64} : fX10_within F x.toInt64 lo hi = some (bI (decide (lo.toInt ≤ x.toInt) && decide (x.toInt ≤ hi.toInt))) := by
  rw [p_within]
  simp only [i64_le, i64_ge]
theorem nI_m1 {n : Nat} (h : n < 2 ^ 30) : (nI n - 1).toInt = (n : Int) - 1 := by
  have h1 := pk_sub_toInt (a := n) (b := 1) h (by decide)
  exact h1
theorem p_isChimney {F n : Nat} {c : Int32} {all : Nat → Int32} (h0 : all 0 = nI n) (hn : n ≤ 10) : fX10_isChimney F all c.toInt64 = some (bI (vb c n)) := by
  unfold fX10_isChimney
  have e : all (0 : Int32).toNatClampNeg = nI n := h0
  rw [e, p_within32, ob_s, bI_zb, og_s]
  have e1 : (0 : Int64).toInt = 0 := rfl
  rw [e1, Int32.toInt_toInt64, nI_m1 (by omega)]
  congr 2
  rw [Bool.eq_iff_iff, vb_iff]
  simp
  omega
theorem p_mLit {F c : Nat} {all : Nat → Int32} (hc : c < 10) : fX10_isLit F all (nI c) = some (if all (56 + c) ≤ 0 then 0 else 1) := by
  unfold fX10_isLit
  have e : (56 : Int32) + nI c = nI (56 + c) := nI_add 56 c
  rw [e, vb_nI (by omega) (by decide), og_s, nI_clamp (by omega)]
  split <;> rfl
def mlitB (all : Nat → Int32) (c : Nat) : Bool := !decide (all (56 + c) ≤ 0)
theorem p_litMany_L {F n : Nat} {all : Nat → Int32} (h0 : all 0 = nI n) (hn : n ≤ 10) : ∀ (k i fuel acc : Nat), i + k = n → k < fuel → fX10_litMany_L4 F all fuel (nI acc) (nI i) = some (nI (acc + (cntB (mlitB all) n - cntB (mlitB all) i)))
  | 0, i, fuel + 1, acc, h, _ => by
    have e : all (0 : Int32).toNatClampNeg = nI n := h0
    rw [fX10_litMany_L4, e, show i = n by omega, if_pos (nI_le (Nat.le_refl n) (by omega)), Nat.sub_self]; rfl
  | k + 1, i, fuel + 1, acc, h, hf => by
    have e : all (0 : Int32).toNatClampNeg = nI n := h0
    have hm := cntB_mono (mlitB all) (i + 1) n (by omega)
    have hc : cntB (mlitB all) (i + 1) = cntB (mlitB all) i + (if mlitB all i then 1 else 0) := rfl
    rw [fX10_litMany_L4, e, if_neg (nI_ge (by omega) (by omega)), p_mLit (by omega), ob_s]
    by_cases hl : all (56 + i) ≤ 0
    · have hb : mlitB all i = false := by simp [mlitB, hl]
      rw [hb] at hc
      rw [if_pos hl, if_pos rfl, fX10_litMany_L28, ol_s, ol_s, nI_1, show nI acc + 0 = nI acc from nI_add acc 0, p_litMany_L h0 hn k (i + 1) fuel acc (by omega) (by omega)]
      simp only [hc]; simp
    · have hb : mlitB all i = true := by simp [mlitB, hl]
      rw [hb] at hc
      simp only [if_true] at hc
      rw [if_neg hl, if_neg (by decide), fX10_litMany_L28, ol_s, ol_s, nI_1, nI_1, p_litMany_L h0 hn k (i + 1) fuel (acc + 1) (by omega) (by omega)]
      congr 2
      omega
  | k, i, 0, acc, _, hf => absurd hf (Nat.not_lt_zero k)
theorem p_litMany {F n : Nat} {all : Nat → Int32} (h0 : all 0 = nI n) (hn : n ≤ 10) (hF : 10 < F) : fX10_litMany F all = some (nI (cntB (mlitB all) n)) := by
  unfold fX10_litMany
  have h := p_litMany_L (F := F) h0 hn n 0 F 0 (by omega) (by omega)
  rw [nI_0] at h
  simpa [cntB] using h
theorem cntB_congr {p q : Nat → Bool} : ∀ n, (∀ i, i < n → p i = q i) → cntB p n = cntB q n
  | 0, _ => rfl
  | n + 1, h => by
    show cntB p n + (if p n then 1 else 0) = cntB q n + (if q n then 1 else 0)
    rw [cntB_congr n (fun i hi => h i (by omega)), h n (by omega)]
