/-! promises 12 and 13 -/
def puG (q p : Nat) : Nat := if p / 10000 = q then 1 else 0
theorem puG_at {q q' x h th : Nat} (hx : x < 40) (hh : h < 25) (hth : th ≤ 9) : puG q (pcode q' x h th) = if q' = q then 1 else 0 := by
  unfold puG pcode
  by_cases e : q' = q
  · rw [if_pos e, if_pos (by omega)]
  · rw [if_neg e, if_neg (by omega)]
theorem p_pu1 {F c k q : Nat} {t : Nat → Nat → Nat} {hs v lit sc sm : Nat → Int32} {α : Type} (ht : Tok t) (hP : plOk t hs v lit sc sm) (hc : c < t 0 0) (hk : k < t 10 c) (hq : q < 48) (acc : Nat) (K : Int32 → Option α) :
    ob (fX4_xOfPuff F (nI (t 0 0)) v lit sc sm (nI c) (nI k) (nI q)) (fun o_5 => if o_5 = (-1 : Int32) then K (nI acc) else K (nI (acc + 1))) = K (nI (acc + atQ t (puG q) q c k)) := by
  have hn := ht.1
  obtain ⟨g0, g1, -, -, g4, -, g6⟩ := ht.2.2.2.2.2.2.1 c hc
  obtain ⟨p1, p2, p3, p4⟩ := hP c hc
  have s9 := g6 k hk
  by_cases hl : t 11 c = 0
  · have hlit : lit c = -1 := by rw [p2, hl]; rfl
    have z : atQ t (puG q) q c k = 0 := if_pos (Or.inl hl)
    rw [p_xOfN ht hc hlit, ob_s, if_pos rfl, z, Nat.add_zero]
  · obtain ⟨lc, hlc⟩ : ∃ q, t 11 c = q + 1 := ⟨t 11 c - 1, by omega⟩
    have hlit : lit c = nI lc := by rw [p2, hlc, nI_pred]
    have hlt := ht.lit hc
    have ok := litOk_of ht hc hl p1
    rw [p_xOf ht hc hlc hlit p3 p4 ok hk (by omega), ob_s]
    unfold atQ
    rw [hlc, Nat.add_sub_cancel]
    by_cases h0 : thP t c lc k q = 0
    · rw [if_pos h0, encW_n, if_pos rfl, if_pos (Or.inr h0), Nat.add_zero]
    · have ht9 : thP t c lc k q ≤ 9 := by unfold thP; split <;> omega
      rw [if_neg h0, if_neg (show ¬ (lc + 1 = 0 ∨ thP t c lc k q = 0) from fun z => z.elim (by omega) h0)]
      cases hw : wq (t 2 0) (tW t) (t 7 c) (t 6 c) (lc + k) q with
      | none => rw [encW_n, if_pos rfl, oG_n, Nat.add_zero]
      | some x' =>
        have hx' := wayX_lt g0 _ hw
        have hh' := wayX_h (show t 7 c < 25 by omega) _ hw
        rw [encW_s, oG_s, puG_at hx' hh' ht9, if_pos rfl, if_neg (nI_nm1 (by omega))]
theorem p_pu_in {F c q : Nat} {t : Nat → Nat → Nat} {hs v lit sc sm : Nat → Int32} {k14 : Int32 → Int32 → Option Int32} (ht : Tok t) (hP : plOk t hs v lit sc sm) (hc : c < t 0 0) (hq : q < 48) :
    ∀ (k i fuel acc : Nat), i + k = t 10 c → k < fuel → fX9_puffs_L28 F (nI (t 0 0)) lit sc sm v (nI q) k14 fuel (nI acc) (nI c) (nI i) = k14 (nI (acc + sumR (atQ t (puG q) q c) i k)) (nI (c + 1))
  | 0, i, fuel + 1, acc, e, _ => by
    have hn := ht.1
    obtain ⟨-, -, -, -, g4, -, -⟩ := ht.2.2.2.2.2.2.1 c hc
    rw [fX9_puffs_L28, vb_nI (show c < 10 by omega) (by decide), og_s, nI_clamp (by omega), (hP c hc).2.2.1, if_pos (nI_le (by omega) (by omega)), ol_s, nI_1]; rfl
  | k + 1, i, fuel + 1, acc, e, hf => by
    have hn := ht.1
    obtain ⟨-, -, -, -, g4, -, -⟩ := ht.2.2.2.2.2.2.1 c hc
    rw [fX9_puffs_L28, vb_nI (show c < 10 by omega) (by decide), og_s, nI_clamp (by omega), (hP c hc).2.2.1, if_neg (nI_ge (by omega) (by omega)), sumR_s]
    unfold fX9_puffs_L60
    simp only [ol_s, nI_1]
    refine (p_pu1 (F := F) (k := i) ht hP hc (by omega) hq acc (fun y => fX9_puffs_L28 F (nI (t 0 0)) lit sc sm v (nI q) k14 fuel y (nI c) (nI (i + 1)))).trans ?_
    rw [← Nat.add_assoc]
    exact p_pu_in ht hP hc hq k (i + 1) fuel _ (by omega) (by omega)
  | k, i, 0, acc, _, hf => absurd hf (Nat.not_lt_zero k)
theorem p_pu_out {F q : Nat} {t : Nat → Nat → Nat} {hs v lit sc sm : Nat → Int32} (ht : Tok t) (hP : plOk t hs v lit sc sm) (hq : q < 48) (hF : 60 < F) :
    ∀ (k c fuel acc : Nat), c + k = t 0 0 → k < fuel → fX9_puffs_L14 F (nI (t 0 0)) lit sc sm v (nI q) fuel (nI acc) (nI c) = some (nI (acc + sumR (fun c => sumR (atQ t (puG q) q c) 0 (t 10 c)) c k))
  | 0, c, fuel + 1, acc, e, _ => by
    have hn := ht.1
    rw [fX9_puffs_L14, if_pos (nI_le (by omega) (by omega))]; rfl
  | k + 1, c, fuel + 1, acc, e, hf => by
    have hn := ht.1
    have hc : c < t 0 0 := by omega
    obtain ⟨-, -, -, -, g4, -, -⟩ := ht.2.2.2.2.2.2.1 c hc
    have h1 := p_pu_in (F := F) (k14 := fun x4 x5 => fX9_puffs_L14 F (nI (t 0 0)) lit sc sm v (nI q) fuel x4 x5) ht hP hc hq (t 10 c) 0 F acc (by omega) (by omega)
    rw [fX9_puffs_L14, if_neg (nI_ge hc (by omega)), sumR_s, ← Nat.add_assoc]
    exact h1.trans (p_pu_out ht hP hq hF k (c + 1) fuel _ (by omega) (by omega))
  | k, c, 0, acc, _, hf => absurd hf (Nat.not_lt_zero k)
theorem p_puM_in {F q r n : Nat} {all his los pm pf : Nat → Int32} {thr : Int32} {k24 : Int32 → Int32 → Int32 → (Nat → Int32) → (Nat → Int32) → (Nat → Int32) → (Nat → Int32) → Option (Int32 × Int32 × (Nat → Int32) × (Nat → Int32) × (Nat → Int32) × (Nat → Int32))} (hr : r < 132) (hn : n ≤ 54) (hpm : pm r = nI n) (hq : q < 48) :
    ∀ (M : List Nat) (j fuel acc : Nat), j + M.length = n → M.length < fuel → rowAt pf (54 * r + j) M → (∀ p ∈ M, p < 480000) → fX10_puffs_L37 F all (nI q) k24 fuel (nI acc) (nI r) (nI j) thr his los pm pf = k24 (nI (acc + sumL (puG q) M)) (nI (r + 1)) thr his los pm pf
  | [], j, fuel + 1, acc, e, _, _, _ => by
    have hj : j = n := e
    rw [fX10_puffs_L37, vb_nI hr (by decide), og_s, nI_clamp (by omega), hpm, if_pos (nI_le (by omega) (by omega)), ol_s, nI_1]; rfl
  | p :: M, j, fuel + 1, acc, e, hf, hR, hb => by
    rw [List.length_cons] at e hf
    have hp := hb p List.mem_cons_self
    have ih := fun acc => p_puM_in (F := F) (all := all) (his := his) (los := los) (thr := thr) (k24 := k24) hr hn hpm hq M (j + 1) fuel acc (by omega) (by omega) (by have := hR.2; rw [Nat.add_assoc] at this; exact this) (fun y hy => hb y (List.mem_cons_of_mem p hy))
    have d10 : nI p / (10000 : Int32) = nI (p / 10000) := pk_div (a := p) (d := 10000) (by omega) (by decide) (by decide)
    rw [fX10_puffs_L37, vb_nI hr (by decide), og_s, nI_clamp (by omega), hpm, if_neg (nI_ge (by omega) (by omega)), p_puffIn hr (by omega) hR.1, ob_s, d10, sumL_c, ← Nat.add_assoc]
    unfold fX10_puffs_L69
    simp only [ol_s, nI_1]
    unfold puG
    by_cases hc : p / 10000 = q
    · rw [if_pos (by rw [hc]), if_pos hc]
      exact ih _
    · rw [if_neg (nI_ne (by omega) (by omega) hc), if_neg hc, show nI acc + 0 = nI (acc + 0) from nI_add acc 0]
      exact ih _
  | M, j, 0, acc, _, hf, _, _ => absurd hf (Nat.not_lt_zero _)
theorem p_puM_out {F q : Nat} {t : Nat → Nat → Nat} {all his los pm pf : Nat → Int32} {thr : Int32} (ht : Tok t) (hM : tM t all 0) (hR : ∀ c, c < t 0 0 → frow pm pf c (lfL t (tW t) c)) (hq : q < 48) (hF : 60 < F) :
    ∀ (k c fuel acc : Nat), c + k = t 0 0 → k < fuel → fX10_puffs_L24 F all (nI q) fuel (nI acc) (nI c) thr his los pm pf = some (nI (acc + sumR (fun c => sumL (puG q) (lfL t (tW t) c)) c k), thr, his, los, pm, pf)
  | 0, c, fuel + 1, acc, e, _ => by
    have hn := ht.1
    have e0 : all (0 : Int32).toNatClampNeg = nI (t 0 0) := hM.1 0 (by decide)
    rw [fX10_puffs_L24, e0, if_pos (nI_le (by omega) (by omega))]; rfl
  | k + 1, c, fuel + 1, acc, e, hf => by
    have hn := ht.1
    have hc : c < t 0 0 := by omega
    have e0 : all (0 : Int32).toNatClampNeg = nI (t 0 0) := hM.1 0 (by decide)
    have hb := lfL_bd (Wd := tW t) ht hc
    have h1 := p_puM_in (F := F) (all := all) (his := his) (los := los) (thr := thr) (k24 := fun x4 x5 v_thrown v_highs v_lows v_puffMany v_puffsOf => fX10_puffs_L24 F all (nI q) fuel x4 x5 v_thrown v_highs v_lows v_puffMany v_puffsOf) (show c < 132 by omega) hb.1 (hR c hc).1 hq (lfL t (tW t) c) 0 F acc (by omega) (by have := hb.1; omega) (hR c hc).2 hb.2
    rw [fX10_puffs_L24, e0, if_neg (nI_ge hc (by omega)), sumR_s, ← Nat.add_assoc]
    exact h1.trans (p_puM_out ht hM hR hq hF k (c + 1) fuel _ (by omega) (by omega))
  | k, c, 0, acc, _, hf => absurd hf (Nat.not_lt_zero k)
theorem s_puffs {F : Nat} {t : Nat → Nat → Nat} {hs v lit sc sm all his los pm pf : Nat → Int32} {thr : Int32} (a1 : Int32) (ht : Tok t) (hP : plOk t hs v lit sc sm) (hM : tM t all 0) (hF : 60 < F) :
    ∃ r his' los' pm' pf', fX9_puffs F (nI (t 0 0)) lit sc sm v a1 = some r ∧ fX10_puffs F thr all his los pm pf a1 = some (r, 0, his', los', pm', pf') := by
  have hn := ht.1
  unfold fX9_puffs fX10_puffs
  rw [p_isQuarter, ob_s, p_isHour, ob_s]
  rcases vb_cases (a := a1) (n := 48) (by decide) with ⟨hb1, q, hq, rfl⟩ | ⟨hb1, -⟩
  · rw [hb1, bI_1 rfl, if_neg one0, if_neg one0]
    obtain ⟨his', los', pm', pf', f1, -, -, f4⟩ := p_laysNow (F := F) (his := his) (los := los) (pm := pm) (pf := pf) ht hM (by omega)
    have h1 := p_pu_out (F := F) ht hP hq hF (t 0 0) 0 F 0 (by omega) (by omega)
    have h2 := p_puM_out (F := F) (his := his') (los := los') (thr := 0) ht hM f4 hq hF (t 0 0) 0 F 0 (by omega) (by omega)
    have hsum : sumR (fun c => sumL (puG q) (lfL t (tW t) c)) 0 (t 0 0) = sumR (fun c => sumR (atQ t (puG q) q c) 0 (t 10 c)) 0 (t 0 0) := sumR_congr _ _ (fun c _ hc => sum_lf _ (fun q' x' h' th a b c d => by rw [puG_at b c d, if_neg a]) ht (by omega))
    rw [hsum] at h2
    refine ⟨_, his', los', pm', pf', h1, ?_⟩
    rw [f1, ob_s]
    exact h2
  · exact ⟨-3, his, los, pm, pf, by rw [hb1, bI_0 rfl, if_pos rfl], by rw [hb1, bI_0 rfl, if_pos rfl]⟩
