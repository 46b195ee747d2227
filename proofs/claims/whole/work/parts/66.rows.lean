/-! rows of numbers -/
/-- row r of both sides -/
def rRel (r : Nat) (sort size : Int32) (vals nums : Nat → Int64) (many srt : Nat → Int32) : Prop := (size = -1 ∧ srt r = -1) ∨ ∃ m s : Nat, m ≤ 40 ∧ s ≤ 3 ∧ size = nI m ∧ sort = nI s ∧ srt r = nI s ∧ many r = nI m ∧ ∀ i, i < m → vals i = nums (40 * r + i)
theorem nI_nm1 {n : Nat} (h : n < 2 ^ 31) : ¬ nI n = -1 := fun q => by
  have h1 : (nI n).toInt = (-1 : Int32).toInt := by rw [q]
  rw [nI_toInt h] at h1
  have h2 : (-1 : Int32).toInt = -1 := rfl
  omega
theorem p_hasPlace {F m : Nat} {a : Int32} (hm : m ≤ 40) : fX3_hasPlace F (nI m) a = some (bI (vb a m)) := by
  unfold fX3_hasPlace
  cases hv : vb a m with
  | true =>
    obtain ⟨i, hi, rfl⟩ := vb_of (by omega) hv
    rw [if_neg (nI_pos (by omega)), if_neg (nI_ge hi (by omega))]; rfl
  | false =>
    rcases vb_no (by omega) hv with q | q
    · rw [if_pos q]; rfl
    · rw [if_pos q]; split <;> rfl
theorem p_cut {F : Nat} {s : Int32} {v : Int64} : ∃ w, fX3_cut F s v = some w ∧ fX10_cut F v s = some w := by
  unfold fX3_cut fX10_cut
  by_cases h0 : s = 0
  · exact ⟨_, by rw [if_pos h0], by rw [if_pos h0]⟩
  · by_cases h1 : s = 1
    · exact ⟨_, by rw [if_neg h0, if_pos h1], by rw [if_neg h0, if_pos h1]⟩
    · by_cases h2 : s = 2
      · exact ⟨_, by rw [if_neg h0, if_neg h1, if_pos h2], by rw [if_neg h0, if_neg h1, if_pos h2]⟩
      · exact ⟨_, by rw [if_neg h0, if_neg h1, if_neg h2], by rw [if_neg h0, if_neg h1, if_neg h2]⟩
theorem p_w03 {F : Nat} {a : Int32} : fX10_within F a.toInt64 0 3 = some (bI (vb a 4)) := by
  rw [p_within32]
  congr 2
  rw [Bool.eq_iff_iff, vb_iff]
  have e0 : (0 : Int64).toInt = 0 := rfl
  have e3 : (3 : Int64).toInt = 3 := rfl
  simp [e0, e3]
  omega
theorem p_wm1 {F m : Nat} {a : Int32} (hm : m ≤ 40) : fX10_within F a.toInt64 0 (nI m - 1).toInt64 = some (bI (vb a m)) := by
  rw [p_within32]
  congr 2
  rw [Bool.eq_iff_iff, vb_iff]
  have e0 : (0 : Int64).toInt = 0 := rfl
  rw [Int32.toInt_toInt64, nI_m1 (by omega)]
  simp [e0]
  omega
theorem upL_s {f : Nat → Int64} {k : Nat} {x : Int64} : vp_updL f k x k = x := pk_uLs
/-- promise 40, a row that is there -/
theorem s_write {F k : Nat} {sort size thr : Int32} {vals nums : Nat → Int64} {many srt : Nat → Int32} (a2 : Int32) (a3 : Int64) (hk : k < 4) (h : rRel k sort size vals nums many srt) :
    ∃ (r : Int64) (vals' nums' : Nat → Int64), fX9_write_at0 F sort size vals (nI k) a2 a3 = some (r, vals') ∧ fX10_write F thr nums many srt (nI k) a2 a3 = some (r, 0, nums') ∧ rRel k sort size vals' nums' many srt ∧ ∀ j, (j < 40 * k ∨ 40 * k + 40 ≤ j) → nums' j = nums j := by
  have hv4 : vb (nI k) 4 = true := vb_nI hk (by decide)
  unfold fX9_write_at0 fX10_write
  rw [p_w03, ob_s, hv4, bI_1 rfl, if_neg one0, og_s, og_s, og_s, nI_clamp (by omega)]
  rcases h with ⟨h1, h2⟩ | ⟨m, s, hm, hs, h1, h2, h3, h4, h5⟩
  · refine ⟨-6, vals, nums, ?_, ?_, Or.inl ⟨h1, h2⟩, fun _ _ => rfl⟩
    · unfold fX3_isMissing
      rw [if_pos h1, ob_s, if_neg one0]
    · rw [if_pos h2]
  · have hmiss : fX3_isMissing F size = some 0 := by
      unfold fX3_isMissing
      rw [h1, if_neg (nI_nm1 (by omega))]
    rw [hmiss, ob_s, if_pos rfl, h1, p_hasPlace hm, ob_s, h3, if_neg (nI_nm1 (by omega)), h4, p_wm1 hm, ob_s]
    cases hv : vb a2 m with
    | false =>
      refine ⟨-7, vals, nums, ?_, ?_, Or.inr ⟨m, s, hm, hs, rfl, h2, h3, h4, h5⟩, fun _ _ => rfl⟩
      · rw [bI_0 rfl, if_pos rfl]
      · rw [bI_0 rfl, if_pos rfl]
    | true =>
      obtain ⟨i, hi, rfl⟩ := vb_of (by omega) hv
      obtain ⟨w, hw1, hw2⟩ := p_cut (F := F) (s := nI s) (v := a3)
      have ix : (40 : Int32) * nI k + nI i = nI (40 * k + i) := by
        rw [show (40 : Int32) = nI 40 from rfl, pk_mul, nI_add]
      refine ⟨w, vp_updL vals i w, vp_updL nums (40 * k + i) w, ?_, ?_, Or.inr ⟨m, s, hm, hs, rfl, h2, h3, h4, ?_⟩, ?_⟩
      · unfold fX3_put
        rw [bI_1 rfl, if_neg one0, p_hasPlace hm, hv, ob_s, bI_1 rfl, if_neg one0, h2, hw1, ob_s, vb_nI (by omega) (by decide), og_s, ol_s, og_s, ob_s, nI_clamp (by omega), upL_s]
      · rw [bI_1 rfl, if_neg one0, hw2, ob_s, ix, vb_nI (by omega) (by decide), og_s, ol_s, og_s, nI_clamp (by omega), upL_s]
      · intro j hj
        by_cases e : j = i
        · subst e; rw [upL_s, upL_s]
        · rw [pk_uLn e, pk_uLn (by omega)]; exact h5 j hj
      · intro j hj
        exact pk_uLn (by omega)
theorem write_1 : @fX9_write_at1 = @fX9_write_at0 := rfl
theorem write_2 : @fX9_write_at2 = @fX9_write_at0 := rfl
theorem write_3 : @fX9_write_at3 = @fX9_write_at0 := rfl
theorem s_write_n {F : Nat} {thr : Int32} {nums : Nat → Int64} {many srt : Nat → Int32} (a1 a2 : Int32) (a3 : Int64) (h : vb a1 4 = false) : fX9_write_atn F a1 a2 a3 = some (-2) ∧ fX10_write F thr nums many srt a1 a2 a3 = some (-2, 0, nums) := by
  refine ⟨rfl, ?_⟩
  unfold fX10_write
  rw [p_w03, ob_s, h, bI_0 rfl, if_pos rfl]
