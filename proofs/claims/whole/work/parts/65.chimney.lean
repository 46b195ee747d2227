theorem p_smokeOf_in {F i k : Nat} {t : Nat → Nat → Nat} {sc sm : Nat → Int32} (ht : Tok t) (hi : i < t 0 0) (hsc : sc i = nI (t 10 i)) (hk : k < t 10 i) : fX7_smokeOf F (nI (t 0 0)) sc sm (nI i) (nI k) = some (sm (6 * i + k)) := by
  have hn := ht.1
  obtain ⟨-, -, -, -, h5, -⟩ := ht.2.2.2.2.2.2.1 i hi
  have e : nI i * (6 : Int32) + nI k = nI (6 * i + k) := by
    rw [show (6 : Int32) = nI 6 from rfl, pk_mul, nI_add, Nat.mul_comm]
  unfold fX7_smokeOf
  rw [p_has hi (by omega), ob_s, if_neg one0, if_neg (nI_pos (by omega)), vb_nI (by omega) (by decide), og_s, nI_clamp (by omega), hsc, if_neg (nI_ge hk (by omega)), e, vb_nI (by omega) (by decide), og_s, nI_clamp (by omega)]
theorem p_smokeOf_out {F i : Nat} {k : Int32} {t : Nat → Nat → Nat} {sc sm : Nat → Int32} (ht : Tok t) (hi : i < t 0 0) (hsc : sc i = nI (t 10 i)) (hk : k < 0 ∨ nI (t 10 i) ≤ k) : fX7_smokeOf F (nI (t 0 0)) sc sm (nI i) k = some 0 := by
  have hn := ht.1
  unfold fX7_smokeOf
  rw [p_has hi (by omega), ob_s, if_neg one0]
  by_cases h : k < 0
  · rw [if_pos h]
  · rw [if_neg h, vb_nI (by omega) (by decide), og_s, nI_clamp (by omega), hsc, if_pos (hk.resolve_left h)]
theorem i32_lt {a b : Nat} (h : b < 2 ^ 31) (ha : a < 2 ^ 31) : (nI a < nI b) ↔ a < b := nI_ltI ha h
theorem nI_ne {a b : Nat} (ha : a < 2 ^ 31) (hb : b < 2 ^ 31) (h : a ≠ b) : ¬ nI a = nI b := fun q => h ((nI_eq ha hb).mp q)
/-- promise 5 -/
theorem s_chimney {F : Nat} {t : Nat → Nat → Nat} {ch wc la th fi li : Int32} {xs hs fs ts sc sm lit wq wl wh all : Nat → Int32} {thr : Int32} (a1 a2 : Int32) (ht : Tok t) (hC : tC t ch wc la th fi li xs hs fs ts sc sm lit wq wl wh) (hM : tM t all 0) :
    ∃ r, fX9_chimney F ch fs hs lit sc sm ts xs a1 a2 = some r ∧ fX10_chimney F thr all a1 a2 = some (r, 0) := by
  have hn := ht.1
  have hall0 : all 0 = nI (t 0 0) := hM.1 0 (by decide)
  unfold fX9_chimney fX10_chimney
  rw [hC.1, p_isChimney hall0 hn, ob_s]
  cases hv : vb a1 (t 0 0) with
  | false =>
    refine ⟨-2, ?_, ?_⟩
    · rw [p_hasN (by omega) hv, ob_s, if_pos rfl]
    · rw [bI_0 rfl, if_pos rfl]
  | true =>
    obtain ⟨i, hi, rfl⟩ := vb_of (by omega) hv
    obtain ⟨c0, c1, c2, c3, c4, c5, c6⟩ := hC.2.2.2.2.2.2.1 i hi
    obtain ⟨m0, m1, m2, m3, m4, m5, m6⟩ := hM.2.1 i hi
    rw [Nat.zero_add] at m0 m1 m2 m3 m4 m5
    obtain ⟨-, -, -, -, hm, -, hs12⟩ := ht.2.2.2.2.2.2.1 i hi
    rw [p_has hi (by omega), ob_s, if_neg one0, bI_1 rfl, if_neg one0]
    by_cases hneg : a2 < 0
    · exact ⟨-2, by rw [if_pos hneg], by rw [if_pos hneg]⟩
    · obtain ⟨j, hj, rfl⟩ := nI_of hneg
      rw [if_neg hneg, if_neg hneg, p_within32, ob_s, nI_toInt hj]
      have e6 : (6 : Int64).toInt = 6 := rfl
      have e9 : (9 : Int64).toInt = 9 := rfl
      rw [e6, e9]
      by_cases h69 : 6 ≤ j ∧ j ≤ 9
      · refine ⟨-2, ?_, ?_⟩
        · rw [if_neg (show ¬ nI j ≤ 5 from nI_ge (a := 5) (b := j) (by omega) hj), if_neg (show ¬ (10 : Int32) ≤ nI j from nI_ge (a := j) (b := 10) (by omega) (by decide))]
        · have hb : (decide ((6 : Int) ≤ (j : Int)) && decide ((j : Int) ≤ 9)) = true := by simp; omega
          rw [bI_1 hb, if_neg one0]
      · have hb : (decide ((6 : Int) ≤ (j : Int)) && decide ((j : Int) ≤ 9)) = false := by
          simp; omega
        rw [bI_0 hb, if_pos rfl]
        have hvi : vb (nI i) 10 = true := vb_nI (by omega) (by decide)
        by_cases h5 : j ≤ 5
        · rw [if_pos (show nI j ≤ 5 from nI_le (a := j) (b := 5) h5 (by decide))]
          unfold fX9_chimney_L29
          rw [hvi, og_s, og_s, og_s, og_s, og_s, og_s, nI_clamp (by omega)]
          have ix : ((6 : Int32) + (10 : Int32) * nI j) + nI i = nI (6 + 10 * j + i) := by
            rw [show (10 : Int32) = nI 10 from rfl, pk_mul, show (6 : Int32) = nI 6 from rfl, nI_add, nI_add]
          rw [ix, vb_nI (by omega) (by decide), og_s, nI_clamp (by omega)]
          rcases (show j = 0 ∨ j = 1 ∨ j = 2 ∨ j = 3 ∨ j = 4 ∨ j = 5 by omega) with rfl | rfl | rfl | rfl | rfl | rfl
          · exact ⟨xs i, rfl, by rw [c0, ← m0]; rfl⟩
          · exact ⟨hs i, rfl, by rw [c1, ← m1]; rfl⟩
          · exact ⟨fs i, rfl, by rw [c2, ← m2]; rfl⟩
          · exact ⟨ts i, rfl, by rw [c3, ← m3]; rfl⟩
          · exact ⟨sc i, rfl, by rw [c4, ← m4]; rfl⟩
          · refine ⟨lit i, rfl, ?_⟩
            rw [if_pos (show nI 5 = 5 from rfl), p_litAt (by omega), ob_s, m5, c5]
        · have hj10 : 10 ≤ j := by omega
          have s10 : nI j - (10 : Int32) = nI (j - 10) := pk_sub (a := j) (b := 10) hj10
          rw [if_neg (show ¬ nI j ≤ 5 from nI_ge (a := 5) (b := j) (by omega) hj), if_pos (show (10 : Int32) ≤ nI j from nI_le (a := 10) (b := j) hj10 hj)]
          unfold fX9_chimney_L29
          have n0 : ¬ nI j = 0 := nI_ne hj (by decide) (b := 0) (by omega)
          have n1 : ¬ nI j = 1 := nI_ne hj (by decide) (b := 1) (by omega)
          have n2 : ¬ nI j = 2 := nI_ne hj (by decide) (b := 2) (by omega)
          have n3 : ¬ nI j = 3 := nI_ne hj (by decide) (b := 3) (by omega)
          have n4 : ¬ nI j = 4 := nI_ne hj (by decide) (b := 4) (by omega)
          have n5 : ¬ nI j = 5 := nI_ne hj (by decide) (b := 5) (by omega)
          rw [if_neg n0, if_neg n1, if_neg n2, if_neg n3, if_neg n4, if_neg n5, if_neg n5, if_pos (show (5 : Int32) ≤ nI j from nI_le (a := 5) (b := j) (by omega) hj), s10]
          have e46 : (46 : Int32) + nI i = nI (46 + i) := nI_add 46 i
          rw [e46, vb_nI (by omega) (by decide), og_s, nI_clamp (by omega), m4]
          by_cases hk : j - 10 < t 10 i
          · rw [p_smokeOf_in ht hi c4 hk, ob_s, if_neg (nI_ge hk (by omega))]
            have ix : ((66 : Int32) + (6 : Int32) * nI i) + nI j - (10 : Int32) = nI (66 + (6 * i + (j - 10))) := by
              rw [show (6 : Int32) = nI 6 from rfl, pk_mul, show (66 : Int32) = nI 66 from rfl, nI_add, nI_add, show (10 : Int32) = nI 10 from rfl, pk_sub (by omega)]
              congr 1; omega
            have hm6 := m6 _ hk
            rw [Nat.zero_add] at hm6
            rw [ix, vb_nI (by omega) (by decide), og_s, nI_clamp (by omega), c6 _ hk, hm6]
            have h12 := hs12 _ hk
            exact ⟨_, by rw [if_neg (nI_ne0 (by omega) (by omega))], rfl⟩
          · rw [p_smokeOf_out ht hi c4 (Or.inr (nI_le (by omega) (by omega))), ob_s, if_pos rfl, if_pos (nI_le (by omega) (by omega))]
            exact ⟨-7, rfl, rfl⟩
