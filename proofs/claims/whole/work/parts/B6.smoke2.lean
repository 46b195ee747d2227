/-- one puff in a cell: the class' test and what it adds -/
theorem p_smk1 {F c k q x h : Nat} {t : Nat → Nat → Nat} {hs v lit sc sm : Nat → Int32} {α : Type} (ht : Tok t) (hP : plOk t hs v lit sc sm) (hc : c < t 0 0) (hk : k < t 10 c) (hq : q < 48) (hx : x < 40) (hh : h < 25) (acc : Nat) (K : Int32 → Option α) :
    ob (fX4_xOfPuff F (nI (t 0 0)) v lit sc sm (nI c) (nI k) (nI q)) (fun o_5 => if o_5 = nI x then (ob (fX4_heightOfPuff F hs (nI (t 0 0)) lit (nI c) (nI k) (nI q)) (fun o_7 => if o_7 = nI h then (ob (fX4_thicknessOfPuff F (nI (t 0 0)) lit sc sm (nI c) (nI k) (nI q)) (fun o_9 => K (nI acc + o_9))) else K (nI acc))) else K (nI acc)) = K (nI (acc + atQ t (smG q x h) q c k)) := by
  have hn := ht.1
  obtain ⟨g0, g1, -, -, g4, -, g6⟩ := ht.2.2.2.2.2.2.1 c hc
  obtain ⟨p1, p2, p3, p4⟩ := hP c hc
  have s9 := g6 k hk
  by_cases hl : t 11 c = 0
  · have hlit : lit c = -1 := by rw [p2, hl]; rfl
    have z : atQ t (smG q x h) q c k = 0 := if_pos (Or.inl hl)
    rw [p_xOfN ht hc hlit, ob_s, if_neg (fun z => nI_nm1 (n := x) (by omega) z.symm), z, Nat.add_zero]
  · obtain ⟨lc, hlc⟩ : ∃ q, t 11 c = q + 1 := ⟨t 11 c - 1, by omega⟩
    have hlit : lit c = nI lc := by rw [p2, hlc, nI_pred]
    have hlt := ht.lit hc
    have ok := litOk_of ht hc hl p1
    rw [p_xOf ht hc hlc hlit p3 p4 ok hk (by omega), ob_s]
    unfold atQ
    rw [hlc, Nat.add_sub_cancel]
    by_cases h0 : thP t c lc k q = 0
    · rw [if_pos h0, encW_n, if_neg (fun z => nI_nm1 (n := x) (by omega) z.symm), if_pos (Or.inr h0), Nat.add_zero]
    · have hlk : lc + k ≤ q := by
        unfold thP at h0
        by_cases z : lc + k ≤ q
        · exact z
        · rw [if_neg z] at h0; exact absurd rfl h0
      have ht9 : thP t c lc k q ≤ 9 := by unfold thP; split <;> omega
      rw [if_neg h0, if_neg (show ¬ (lc + 1 = 0 ∨ thP t c lc k q = 0) from fun z => z.elim (by omega) h0)]
      cases hw : wq (t 2 0) (tW t) (t 7 c) (t 6 c) (lc + k) q with
      | none => rw [encW_n, if_neg (fun z => nI_nm1 (n := x) (by omega) z.symm), oG_n, Nat.add_zero]
      | some x' =>
        have hx' := wayX_lt g0 _ hw
        have hh' := wayX_h (show t 7 c < 25 by omega) _ hw
        rw [encW_s, oG_s, smG_at hx hh hx' hh' ht9]
        by_cases e1 : x' = x
        · subst e1
          rw [if_pos rfl, p_hOf ht hc hlc hlit ok.1 hlk, ob_s]
          by_cases e2 : t 7 c + (q - (lc + k)) = h
          · rw [if_pos (by rw [e2]), p_thk ht hc hlc hlit p3 p4 hk (by omega), ob_s, if_pos ⟨rfl, rfl, e2⟩, nI_add]
          · rw [if_neg (nI_ne (by omega) (by omega) e2), if_neg (fun z => e2 z.2.2), Nat.add_zero]
        · rw [if_neg (nI_ne (by omega) (by omega) e1), if_neg (fun z => e1 z.2.1), Nat.add_zero]
theorem p_smk_in {F c q x h : Nat} {t : Nat → Nat → Nat} {hs v lit sc sm : Nat → Int32} {k36 : Int32 → Int32 → Option Int32} (ht : Tok t) (hP : plOk t hs v lit sc sm) (hc : c < t 0 0) (hq : q < 48) (hx : x < 40) (hh : h < 25) :
    ∀ (k i fuel acc : Nat), i + k = t 10 c → k < fuel → fX9_smoke_L51 F (nI (t 0 0)) lit sc sm hs v (nI q) (nI x) (nI h) k36 fuel (nI acc) (nI c) (nI i) = k36 (nI (acc + sumR (atQ t (smG q x h) q c) i k)) (nI (c + 1))
  | 0, i, fuel + 1, acc, e, _ => by
    have hn := ht.1
    obtain ⟨-, -, -, -, g4, -, -⟩ := ht.2.2.2.2.2.2.1 c hc
    rw [fX9_smoke_L51, vb_nI (show c < 10 by omega) (by decide), og_s, nI_clamp (by omega), (hP c hc).2.2.1, if_pos (nI_le (by omega) (by omega)), ol_s, nI_1]; rfl
  | k + 1, i, fuel + 1, acc, e, hf => by
    have hn := ht.1
    obtain ⟨-, -, -, -, g4, -, -⟩ := ht.2.2.2.2.2.2.1 c hc
    rw [fX9_smoke_L51, vb_nI (show c < 10 by omega) (by decide), og_s, nI_clamp (by omega), (hP c hc).2.2.1, if_neg (nI_ge (by omega) (by omega)), sumR_s]
    unfold fX9_smoke_L115
    simp only [ol_s, nI_1]
    refine (p_smk1 (F := F) (k := i) ht hP hc (by omega) hq hx hh acc (fun y => fX9_smoke_L51 F (nI (t 0 0)) lit sc sm hs v (nI q) (nI x) (nI h) k36 fuel y (nI c) (nI (i + 1)))).trans ?_
    rw [← Nat.add_assoc]
    exact p_smk_in ht hP hc hq hx hh k (i + 1) fuel _ (by omega) (by omega)
  | k, i, 0, acc, _, hf => absurd hf (Nat.not_lt_zero k)
theorem p_smk_out {F q x h : Nat} {t : Nat → Nat → Nat} {hs v lit sc sm : Nat → Int32} (ht : Tok t) (hP : plOk t hs v lit sc sm) (hq : q < 48) (hx : x < 40) (hh : h < 25) (hF : 60 < F) :
    ∀ (k c fuel acc : Nat), c + k = t 0 0 → k < fuel → fX9_smoke_L36 F (nI (t 0 0)) lit sc sm hs v (nI q) (nI x) (nI h) fuel (nI acc) (nI c) = some (nI (acc + sumR (fun c => sumR (atQ t (smG q x h) q c) 0 (t 10 c)) c k))
  | 0, c, fuel + 1, acc, e, _ => by
    have hn := ht.1
    rw [fX9_smoke_L36, if_pos (nI_le (by omega) (by omega))]; rfl
  | k + 1, c, fuel + 1, acc, e, hf => by
    have hn := ht.1
    have hc : c < t 0 0 := by omega
    obtain ⟨-, -, -, -, g4, -, -⟩ := ht.2.2.2.2.2.2.1 c hc
    have h1 := p_smk_in (F := F) (k36 := fun x4 x5 => fX9_smoke_L36 F (nI (t 0 0)) lit sc sm hs v (nI q) (nI x) (nI h) fuel x4 x5) ht hP hc hq hx hh (t 10 c) 0 F acc (by omega) (by omega)
    rw [fX9_smoke_L36, if_neg (nI_ge hc (by omega)), sumR_s, ← Nat.add_assoc]
    exact h1.trans (p_smk_out ht hP hq hx hh hF k (c + 1) fuel _ (by omega) (by omega))
  | k, c, 0, acc, _, hf => absurd hf (Nat.not_lt_zero k)
theorem p_smM_in {F q x h r n : Nat} {all his los pm pf : Nat → Int32} {thr : Int32} {k53 : Int32 → Int32 → Int32 → (Nat → Int32) → (Nat → Int32) → (Nat → Int32) → (Nat → Int32) → Option (Int32 × Int32 × (Nat → Int32) × (Nat → Int32) × (Nat → Int32) × (Nat → Int32))} (hr : r < 132) (hn : n ≤ 54) (hpm : pm r = nI n) (hq : q < 48) (hx : x < 40) (hh : h < 25) :
    ∀ (M : List Nat) (j fuel acc : Nat), j + M.length = n → M.length < fuel → rowAt pf (54 * r + j) M → (∀ p ∈ M, p < 480000) → fX10_smoke_L67 F all (nI q) (nI x) (nI h) k53 fuel (nI acc) (nI r) (nI j) thr his los pm pf = k53 (nI (acc + sumL (smG q x h) M)) (nI (r + 1)) thr his los pm pf
  | [], j, fuel + 1, acc, e, _, _, _ => by
    have hj : j = n := e
    rw [fX10_smoke_L67, vb_nI hr (by decide), og_s, nI_clamp (by omega), hpm, if_pos (nI_le (by omega) (by omega)), ol_s, nI_1]; rfl
  | p :: M, j, fuel + 1, acc, e, hf, hR, hb => by
    rw [List.length_cons] at e hf
    have hp := hb p List.mem_cons_self
    have ih := fun acc => p_smM_in (F := F) (all := all) (his := his) (los := los) (thr := thr) (k53 := k53) hr hn hpm hq hx hh M (j + 1) fuel acc (by omega) (by omega) (by have := hR.2; rw [Nat.add_assoc] at this; exact this) (fun y hy => hb y (List.mem_cons_of_mem p hy))
    have d10 : nI p / (10 : Int32) = nI (p / 10) := pk_div (a := p) (d := 10) (by omega) (by decide) (by decide)
    have r10 : nI p - nI (p / 10) * (10 : Int32) = nI (p % 10) := by rw [← d10]; exact pk_rem (a := p) (d := 10) (by omega) (by decide) (by decide)
    have ec : ((1000 : Int32) * nI q + (25 : Int32) * nI x) + nI h = nI (1000 * q + 25 * x + h) := by
      rw [show (1000 : Int32) = nI 1000 from rfl, show (25 : Int32) = nI 25 from rfl, pk_mul, pk_mul, nI_add, nI_add]
    rw [fX10_smoke_L67, vb_nI hr (by decide), og_s, nI_clamp (by omega), hpm, if_neg (nI_ge (by omega) (by omega)), p_puffIn hr (by omega) hR.1, ob_s, ob_s, d10, r10, ec, sumL_c, ← Nat.add_assoc]
    unfold fX10_smoke_L122
    simp only [ol_s, nI_1]
    unfold smG
    by_cases hc : p / 10 = 1000 * q + 25 * x + h
    · rw [if_pos (by rw [hc]), if_pos hc, nI_add]
      exact ih _
    · rw [if_neg (nI_ne (by omega) (by omega) hc), if_neg hc, show nI acc + 0 = nI (acc + 0) from nI_add acc 0]
      exact ih _
  | M, j, 0, acc, _, hf, _, _ => absurd hf (Nat.not_lt_zero _)
theorem p_smM_out {F q x h : Nat} {t : Nat → Nat → Nat} {all his los pm pf : Nat → Int32} {thr : Int32} (ht : Tok t) (hM : tM t all 0) (hR : ∀ c, c < t 0 0 → frow pm pf c (lfL t (tW t) c)) (hq : q < 48) (hx : x < 40) (hh : h < 25) (hF : 60 < F) :
    ∀ (k c fuel acc : Nat), c + k = t 0 0 → k < fuel → fX10_smoke_L53 F all (nI q) (nI x) (nI h) fuel (nI acc) (nI c) thr his los pm pf = some (nI (acc + sumR (fun c => sumL (smG q x h) (lfL t (tW t) c)) c k), thr, his, los, pm, pf)
  | 0, c, fuel + 1, acc, e, _ => by
    have hn := ht.1
    have e0 : all (0 : Int32).toNatClampNeg = nI (t 0 0) := hM.1 0 (by decide)
    rw [fX10_smoke_L53, e0, if_pos (nI_le (by omega) (by omega))]; rfl
  | k + 1, c, fuel + 1, acc, e, hf => by
    have hn := ht.1
    have hc : c < t 0 0 := by omega
    have e0 : all (0 : Int32).toNatClampNeg = nI (t 0 0) := hM.1 0 (by decide)
    have hb := lfL_bd (Wd := tW t) ht hc
    have h1 := p_smM_in (F := F) (all := all) (his := his) (los := los) (thr := thr) (k53 := fun x4 x5 v_thrown v_highs v_lows v_puffMany v_puffsOf => fX10_smoke_L53 F all (nI q) (nI x) (nI h) fuel x4 x5 v_thrown v_highs v_lows v_puffMany v_puffsOf) (show c < 132 by omega) hb.1 (hR c hc).1 hq hx hh (lfL t (tW t) c) 0 F acc (by omega) (by have := hb.1; omega) (hR c hc).2 hb.2
    rw [fX10_smoke_L53, e0, if_neg (nI_ge hc (by omega)), sumR_s, ← Nat.add_assoc]
    exact h1.trans (p_smM_out ht hM hR hq hx hh hF k (c + 1) fuel _ (by omega) (by omega))
  | k, c, 0, acc, _, hf => absurd hf (Nat.not_lt_zero k)
theorem p_w024 {F : Nat} {a : Int32} : fX10_within F a.toInt64 0 24 = some (bI (vb a 25)) := by
  rw [p_within32]
  congr 2
  rw [Bool.eq_iff_iff, vb_iff]
  have e0 : (0 : Int64).toInt = 0 := rfl
  have e3 : (24 : Int64).toInt = 24 := rfl
  simp [e0, e3]
  omega
theorem s_smoke {F : Nat} {t : Nat → Nat → Nat} {hs v lit sc sm all his los pm pf : Nat → Int32} {thr : Int32} (a1 a2 a3 : Int32) (ht : Tok t) (hP : plOk t hs v lit sc sm) (hM : tM t all 0) (hF : 60 < F) :
    ∃ r his' los' pm' pf', fX9_smoke F (nI (t 0 0)) lit sc sm hs v a1 a2 a3 = some r ∧ fX10_smoke F thr all his los pm pf a1 a2 a3 = some (r, 0, his', los', pm', pf') := by
  have hn := ht.1
  unfold fX9_smoke fX10_smoke
  rw [p_isX, ob_s, p_w039, ob_s]
  rcases vb_cases (a := a2) (n := 40) (by decide) with ⟨hb2, x, hx, rfl⟩ | ⟨hb2, -⟩
  · rw [hb2, bI_1 rfl, if_neg one0, if_neg one0, p_w024, ob_s]
    rcases vb_cases (a := a3) (n := 25) (by decide) with ⟨hb3, h, hh, rfl⟩ | ⟨hb3, hor⟩
    · rw [hb3, bI_1 rfl, if_neg one0, if_neg (nI_pos (by omega)), if_pos (show nI h < 25 from nI_lt (a := h) (b := 25) hh (by decide)), p_isQuarter, ob_s, p_isHour, ob_s]
      rcases vb_cases (a := a1) (n := 48) (by decide) with ⟨hb1, q, hq, rfl⟩ | ⟨hb1, -⟩
      · rw [hb1, bI_1 rfl, if_neg one0, if_neg one0]
        obtain ⟨his', los', pm', pf', f1, -, -, f4⟩ := p_laysNow (F := F) (his := his) (los := los) (pm := pm) (pf := pf) ht hM (by omega)
        have h1 := p_smk_out (F := F) ht hP hq hx hh hF (t 0 0) 0 F 0 (by omega) (by omega)
        have h2 := p_smM_out (F := F) (his := his') (los := los') (thr := 0) ht hM f4 hq hx hh hF (t 0 0) 0 F 0 (by omega) (by omega)
        have hsum : sumR (fun c => sumL (smG q x h) (lfL t (tW t) c)) 0 (t 0 0) = sumR (fun c => sumR (atQ t (smG q x h) q c) 0 (t 10 c)) 0 (t 0 0) := sumR_congr _ _ (fun c _ hc => sum_lf _ (fun q' x' h' th a b c d => by rw [smG_at hx hh b c d, if_neg (fun z => a z.1)]) ht (by omega))
        rw [hsum] at h2
        refine ⟨_, his', los', pm', pf', h1, ?_⟩
        rw [f1, ob_s]
        exact h2
      · exact ⟨-3, his, los, pm, pf, by rw [hb1, bI_0 rfl, if_pos rfl], by rw [hb1, bI_0 rfl, if_pos rfl]⟩
    · refine ⟨-2, his, los, pm, pf, ?_, by rw [hb3, bI_0 rfl, if_pos rfl]⟩
      by_cases h0 : a3 < 0
      · rw [if_pos h0]
      · rw [if_neg h0, if_neg (show ¬ a3 < 25 from fun z => Int32.lt_irrefl (Int32.lt_of_lt_of_le z (hor.resolve_left h0)))]
  · exact ⟨-2, his, los, pm, pf, by rw [hb2, bI_0 rfl, if_pos rfl], by rw [hb2, bI_0 rfl, if_pos rfl]⟩
