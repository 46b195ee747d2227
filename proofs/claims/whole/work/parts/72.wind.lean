theorem p_isHour {F : Nat} {a : Int32} : fX10_isHour F a = some (bI (vb a 48)) := by
  unfold fX10_isHour
  rw [p_within32, ob_s, bI_zb, og_s]
  congr 2
  rw [Bool.eq_iff_iff, vb_iff]
  have e0 : (0 : Int64).toInt = 0 := rfl
  have e3 : (47 : Int64).toInt = 47 := rfl
  simp [e0, e3]
  omega
theorem p_isQuarter {F : Nat} {a : Int32} : fX9_isQuarter F a = some (bI (vb a 48)) := by
  unfold fX9_isQuarter
  rcases vb_cases (a := a) (n := 48) (by decide) with ⟨h1, q, hq, rfl⟩ | ⟨h1, h2⟩
  · rw [if_neg (nI_pos (by omega)), if_neg (show ¬ (48 : Int32) ≤ nI q from nI_ge (a := q) (b := 48) hq (by decide)), h1]; rfl
  · rw [h1]
    rcases h2 with q | q
    · rw [if_pos q]; rfl
    · rw [if_pos (show (48 : Int32) ≤ a from q)]
      split <;> rfl
/-- promise 6; told winds: lo and hi are the class' arrays -/
theorem s_wind {F : Nat} {t : Nat → Nat → Nat} {all hi lo : Nat → Int32} {thr : Int32} (a1 a2 : Int32) (ht : Tok t) (hM : tM t all 0) (hlo : ∀ q, q < 48 → lo q = nI (windS t q 0)) (hhi : ∀ q, q < 48 → hi q = nI (windS t q 1)) (hF : 12 < F) :
    ∃ r, fX9_wind F hi lo a1 a2 = some r ∧ fX10_wind F thr all a1 a2 = some (r, 0) := by
  unfold fX9_wind fX10_wind fX10_wind_L24
  rw [p_isQuarter, ob_s, p_isHour, ob_s]
  rcases vb_cases (a := a1) (n := 48) (by decide) with ⟨h1, q, hq, rfl⟩ | ⟨h1, h2⟩
  · rw [h1, bI_1 rfl, if_neg one0, if_neg one0, og_s, og_s, nI_clamp (by omega), hlo q hq, hhi q hq]
    by_cases h : a2 = 0
    · refine ⟨nI (windS t q 0), by rw [if_pos h], ?_⟩
      rw [if_pos h, show (0 : Int32) = nI 0 from rfl, p_windOf ht hM hq (by decide) hF, ob_s]
    · refine ⟨nI (windS t q 1), by rw [if_neg h], ?_⟩
      rw [if_neg h, show fX10_windOf F all (nI q) 1 = some (nI (windS t q 1)) from p_windOf ht hM hq (by decide) hF, ob_s]
  · rw [h1]
    exact ⟨-3, by rw [bI_0 rfl, if_pos rfl], by rw [bI_0 rfl, if_pos rfl]⟩
