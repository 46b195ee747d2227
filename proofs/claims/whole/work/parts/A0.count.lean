/-! promise 44 -/
theorem s_count {F : Nat} {t : Nat → Nat → Nat} {ch wc la th fi li : Int32} {xs hts fs ts sc sm lit wq wl wh hs v all his los pm pf tc : Nat → Int32} {thr tpd : Int32} (a1 : Int32) (ht : Tok t) (hC : tC t ch wc la th fi li xs hts fs ts sc sm lit wq wl wh) (hP : plOk t hs v lit sc sm) (hM : tM t all 0) (hF : 60 < F) :
    ∃ r his' los' pm' pf' tc', fX9_count F tpd ch wc la th fi li lit sc sm hs v a1 = some r ∧ fX10_count F thr tpd all his los pm pf tc a1 = some (r, 0, his', los', pm', pf', tc') := by
  have hn := ht.1
  obtain ⟨h0, h1, h2, h3, h4, h5, h6, -⟩ := hC
  have e0 : all (0 : Int32).toNatClampNeg = nI (t 0 0) := hM.1 0 (by decide)
  have e1 : all (1 : Int32).toNatClampNeg = nI (t 1 0) := hM.1 1 (by decide)
  have e2 : all (2 : Int32).toNatClampNeg = nI (t 2 0) := hM.1 2 (by decide)
  have e3 : all (3 : Int32).toNatClampNeg = nI (t 3 0) := hM.1 3 (by decide)
  have e4 : all (4 : Int32).toNatClampNeg = nI (t 4 0) := hM.1 4 (by decide)
  have e5 : all (5 : Int32).toNatClampNeg = nI (t 5 0) := hM.1 5 (by decide)
  unfold fX9_count fX10_count
  rw [h0, h1, h2, h3, h5, e0, e1, e2, e3, e4, e5]
  by_cases c0 : a1 = 0
  · exact ⟨nI (t 0 0), his, los, pm, pf, tc, by rw [if_pos c0], by rw [if_pos c0]⟩
  rw [if_neg c0, if_neg c0]
  by_cases c1 : a1 = 1
  · refine ⟨nI (cntB (litB lit) (t 0 0)), his, los, pm, pf, tc, ?_, ?_⟩
    · rw [if_pos c1, p_litCount hn (by omega), ob_s]
    · have hcg : cntB (mlitB all) (t 0 0) = cntB (litB lit) (t 0 0) := cntB_congr _ (fun c hc => by
        have m1 := (hM.2.1 c hc).2.2.2.2.2.1
        rw [Nat.zero_add] at m1
        unfold mlitB litB
        rw [m1, (h6 c hc).2.2.2.2.2.1]
        congr 1
        exact decide_eq_decide.mpr ((litM_iff (ht.lit hc)).trans (litC_iff (ht.lit hc)).symm))
      rw [if_pos c1, p_litMany (hM.1 0 (by decide)) hn (by omega), ob_s, hcg]
  rw [if_neg c1, if_neg c1]
  by_cases c2 : a1 = 2
  · exact ⟨nI (t 1 0), his, los, pm, pf, tc, by rw [if_pos c2], by rw [if_pos c2]⟩
  rw [if_neg c2, if_neg c2]
  by_cases c3 : a1 = 3
  · exact ⟨nI (t 2 0), his, los, pm, pf, tc, by rw [if_pos c3], by rw [if_pos c3]⟩
  rw [if_neg c3, if_neg c3]
  by_cases c4 : a1 = 4
  · exact ⟨nI (t 3 0), his, los, pm, pf, tc, by rw [if_pos c4], by rw [if_pos c4]⟩
  rw [if_neg c4, if_neg c4]
  by_cases c5 : a1 = 5
  · exact ⟨nI (t 4 0), his, los, pm, pf, tc, by rw [if_pos c5, h4], by rw [if_pos c5]⟩
  rw [if_neg c5, if_neg c5]
  by_cases c6 : a1 = 6
  · obtain ⟨his', los', pm', pf', tc', g⟩ := p_paysAll (F := F) (his := his) (los := los) (pm := pm) (pf := pf) (tc := tc) ht hM hF
    refine ⟨nI (dueAll t (tW t) 0 (t 0 0)), his', los', pm', pf', tc', ?_, ?_⟩
    · rw [if_pos c6, p_dueAll ht (li_of ht hP) h4 hF, ob_s]
    · rw [if_pos c6, g, ob_s]
  rw [if_neg c6, if_neg c6]
  by_cases c7 : a1 = 7
  · exact ⟨tpd, his, los, pm, pf, tc, by rw [if_pos c7], by rw [if_pos c7]⟩
  rw [if_neg c7, if_neg c7]
  by_cases c8 : a1 = 8
  · exact ⟨nI (t 5 0), his, los, pm, pf, tc, by rw [if_pos c8], by rw [if_pos c8]⟩
  rw [if_neg c8, if_neg c8]
  exact ⟨-1, his, los, pm, pf, tc, rfl, rfl⟩
