theorem p_w040 {F : Nat} {a : Int32} : fX10_within F a.toInt64 0 40 = some (bI (vb a 41)) := by
  rw [p_within32]
  congr 2
  rw [Bool.eq_iff_iff, vb_iff]
  have e0 : (0 : Int64).toInt = 0 := rfl
  have e3 : (40 : Int64).toInt = 40 := rfl
  simp [e0, e3]
  omega
theorem vb_cases {a : Int32} {n : Nat} (hn : n < 2 ^ 31) : (vb a n = true ∧ ∃ i, i < n ∧ a = nI i) ∨ (vb a n = false ∧ (a < 0 ∨ nI n ≤ a)) := by
  cases h : vb a n with
  | true => exact Or.inl ⟨rfl, vb_of hn h⟩
  | false => exact Or.inr ⟨rfl, vb_no hn h⟩
theorem le_of_ge {a : Int32} {n : Nat} (hn : n + 1 < 2 ^ 31) (h : nI (n + 1) ≤ a) : ¬ a ≤ nI n := by
  intro q
  have := Int32.le_trans h q
  exact nI_ge (Nat.lt_succ_self n) hn this
/-- promise 39, a row that is -/
theorem s_numbers {F k : Nat} {sort size thr : Int32} {vals nums : Nat → Int64} {many srt : Nat → Int32} (a2 a3 : Int32) (hF : 40 < F) (hk : k < 4) (h : rRel k sort size vals nums many srt) :
    ∃ (r sort' size' : Int32) (vals' nums' : Nat → Int64) (many' srt' : Nat → Int32), fX9_numbers_at0 F sort size vals (nI k) a2 a3 = some (r, sort', size', vals') ∧ fX10_numbers F thr nums many srt (nI k) a2 a3 = some (r, 0, nums', many', srt') ∧ rRel k sort' size' vals' nums' many' srt' ∧ (∀ j, (j < 40 * k ∨ 40 * k + 40 ≤ j) → nums' j = nums j) ∧ ∀ j, j ≠ k → many' j = many j ∧ srt' j = srt j := by
  have hv4 : vb (nI k) 4 = true := vb_nI hk (by decide)
  unfold fX9_numbers_at0 fX10_numbers
  rw [p_w03, ob_s, hv4, bI_1 rfl, if_neg one0, p_w03, ob_s, p_w040, ob_s]
  rcases vb_cases (a := a2) (n := 4) (by decide) with ⟨h1, s, hs, rfl⟩ | ⟨h1, h2⟩
  · rw [h1, bI_1 rfl, if_neg one0, if_neg (nI_pos (by omega)), if_pos (show nI s ≤ 3 from nI_le (a := s) (b := 3) (by omega) (by decide))]
    rcases vb_cases (a := a3) (n := 41) (by decide) with ⟨g1, m, hm, rfl⟩ | ⟨g1, g2⟩
    · rw [g1, bI_1 rfl, if_neg one0, if_neg (nI_pos (by omega)), if_pos (show nI m ≤ 40 from nI_le (a := m) (b := 40) (by omega) (by decide)), og_s, ol_s, og_s, ol_s, nI_clamp (by omega)]
      refine ⟨0, nI s, nI m, fillT vals 0 40 0, fillT nums (40 * k + 0) (40 * k + m) 0, upd many k (nI m), upd srt k (nI s), ?_, ?_, Or.inr ⟨m, s, by omega, by omega, rfl, rfl, pk_us, pk_us, ?_⟩, ?_, ?_⟩
      · unfold fX3_begin
        rw [p_fillJ hF (by decide), ob_s, ob_s]
      · exact p_numbers_L hk (by omega) m 0 F nums (by omega) (by omega)
      · intro i hi
        rw [fillT_in (by omega) (by omega), fillT_in (by omega) (by omega)]
      · intro j hj
        exact fillT_out (by omega)
      · intro j hj
        exact ⟨pk_un hj, pk_un hj⟩
    · refine ⟨-3, sort, size, vals, nums, many, srt, ?_, ?_, h, fun _ _ => rfl, fun _ _ => ⟨rfl, rfl⟩⟩
      · rcases g2 with q | q
        · rw [if_pos q]
        · rw [if_neg (show ¬ a3 ≤ 40 from le_of_ge (n := 40) (by decide) q)]
          split <;> rfl
      · rw [g1, bI_0 rfl, if_pos rfl]
  · refine ⟨-2, sort, size, vals, nums, many, srt, ?_, ?_, h, fun _ _ => rfl, fun _ _ => ⟨rfl, rfl⟩⟩
    · rcases h2 with q | q
      · rw [if_pos q]
      · rw [if_neg (show ¬ a2 ≤ 3 from le_of_ge (n := 3) (by decide) q)]
        split <;> rfl
    · rw [h1, bI_0 rfl, if_pos rfl]
theorem numbers_1 : @fX9_numbers_at1 = @fX9_numbers_at0 := rfl
theorem numbers_2 : @fX9_numbers_at2 = @fX9_numbers_at0 := rfl
theorem numbers_3 : @fX9_numbers_at3 = @fX9_numbers_at0 := rfl
theorem s_numbers_n {F : Nat} {thr : Int32} {nums : Nat → Int64} {many srt : Nat → Int32} (a1 a2 a3 : Int32) (h : vb a1 4 = false) : fX9_numbers_atn F a1 a2 a3 = some (-2) ∧ fX10_numbers F thr nums many srt a1 a2 a3 = some (-2, 0, nums, many, srt) := by
  refine ⟨rfl, ?_⟩
  unfold fX10_numbers
  rw [p_w03, ob_s, h, bI_0 rfl, if_pos rfl]
