def brkB (t : Nat → Nat → Nat) (s : Nat) : Bool := anyT t (dW (nI s)) (t 3 0) 0 (t 0 0)
theorem p_brkC {F n : Nat} {t : Nat → Nat → Nat} {xs hts lit sc sm : Nat → Int32} (ht : Tok t) (hO : tcO t xs hts lit sc sm) (hn : n ≤ 200) (hF : 60 < F) :
    ∀ (k i fuel : Nat) (hs v his los : Nat → Int32), i + k = n + 1 → k < fuel → ∃ hs' v' his' los', fX1_firstBreakingSeed_L2 F (nI (t 0 0)) (nI (t 2 0)) (nI (t 3 0)) hts lit sc sm xs (nI n) fuel (nI i) hs v his los = some (encW (fstR (brkB t) i k), hs', v', his', los')
  | 0, i, fuel + 1, hs, v, his, los, h, _ => ⟨hs, v, his, los, by rw [fX1_firstBreakingSeed_L2, if_pos (nI_lt (by omega) (by omega))]; rfl⟩
  | k + 1, i, fuel + 1, hs, v, his, los, h, hf => by
    obtain ⟨hs1, v1, his1, los1, e1⟩ := p_isCalmC (F := F) (hs := hs) (v := v) (his := his) (los := los) (nI i) ht hO hF
    rw [fX1_firstBreakingSeed_L2, if_neg (nI_nlt (by omega) (by omega)), e1, ob_s, fstR_s]
    have hbe : brkB t i = anyT t (dW (nI i)) (t 3 0) 0 (t 0 0) := rfl
    rw [hbe]
    cases hb : anyT t (dW (nI i)) (t 3 0) 0 (t 0 0) with
    | false =>
      obtain ⟨hs', v', his', los', g⟩ := p_brkC ht hO hn hF k (i + 1) fuel hs1 v1 his1 los1 (by omega) (by omega)
      refine ⟨hs', v', his', los', ?_⟩
      show (if (1 : Int32) = 0 then _ else _) = _
      rw [if_neg one0, ol_s, nI_1]
      exact g
    | true => exact ⟨hs1, v1, his1, los1, rfl⟩
  | k, i, 0, hs, v, his, los, _, hf => absurd hf (Nat.not_lt_zero k)
theorem p_brkM {F n : Nat} {t : Nat → Nat → Nat} {all : Nat → Int32} {thr : Int32} (ht : Tok t) (hM : tM t all 0) (hn : n ≤ 200) (hF : 60 < F) :
    ∀ (k i fuel : Nat) (his los pm pf : Nat → Int32), i + k = n + 1 → k < fuel → ∃ his' los' pm' pf', fX10_breaks_L22 F all (nI n) fuel (nI i) thr his los pm pf = some (encW (fstR (brkB t) i k), thr, his', los', pm', pf')
  | 0, i, fuel + 1, his, los, pm, pf, h, _ => ⟨his, los, pm, pf, by rw [fX10_breaks_L22, if_pos (nI_lt (by omega) (by omega))]; rfl⟩
  | k + 1, i, fuel + 1, his, los, pm, pf, h, hf => by
    obtain ⟨his1, los1, pm1, pf1, e1⟩ := p_isCalmM (F := F) (his := his) (los := los) (pm := pm) (pf := pf) (nI i) ht hM hF
    rw [fX10_breaks_L22, if_neg (nI_nlt (by omega) (by omega)), e1, ob_s, fstR_s]
    have hbe : brkB t i = anyT t (dW (nI i)) (t 3 0) 0 (t 0 0) := rfl
    rw [hbe]
    cases hb : anyT t (dW (nI i)) (t 3 0) 0 (t 0 0) with
    | false =>
      obtain ⟨his', los', pm', pf', g⟩ := p_brkM (thr := thr) ht hM hn hF k (i + 1) fuel his1 los1 pm1 pf1 (by omega) (by omega)
      refine ⟨his', los', pm', pf', ?_⟩
      show (if (1 : Int32) = 0 then _ else _) = _
      rw [if_neg one0, ol_s, nI_1]
      exact g
    | true => exact ⟨his1, los1, pm1, pf1, rfl⟩
  | k, i, 0, his, los, pm, pf, _, hf => absurd hf (Nat.not_lt_zero k)
theorem s_breaks {F : Nat} {t : Nat → Nat → Nat} {hs v xs hts lit sc sm ohi olo all his los pm pf : Nat → Int32} {thr : Int32} (a1 : Int32) (ht : Tok t) (hO : tcO t xs hts lit sc sm) (hM : tM t all 0) (hF : 201 < F) :
    ∃ r hs' v' ohi' olo' his' los' pm' pf', fX9_breaks F (nI (t 0 0)) (nI (t 2 0)) (nI (t 3 0)) hts lit sc sm xs hs v ohi olo a1 = some (r, hs', v', ohi', olo') ∧ fX10_breaks F thr all his los pm pf a1 = some (r, 0, his', los', pm', pf') := by
  have hw := p_w1 (F := F) (a := a1) (M := 200) (hi := 200) (by decide) rfl
  unfold fX9_breaks fX10_breaks fX9_breaks_L12
  rcases in_1 (a := a1) (M := 200) (by decide) with ⟨n, h1, h2, rfl⟩ | h
  · obtain ⟨hs', v', ohi', olo', e1⟩ := p_brkC (F := F) ht hO h2 (by omega) n 1 F hs v ohi olo (by omega) (by omega)
    obtain ⟨his', los', pm', pf', e2⟩ := p_brkM (F := F) (thr := 0) ht hM h2 (by omega) n 1 F his los pm pf (by omega) (by omega)
    refine ⟨encW (fstR (brkB t) 1 n), hs', v', ohi', olo', his', los', pm', pf', ?_, ?_⟩
    · rw [if_neg (show ¬ nI n < 1 from nI_nlt (a := n) (b := 1) h1 (by omega)), if_pos (show nI n ≤ 200 from nI_le (a := n) (b := 200) h2 (by decide))]
      unfold fX1_firstBreakingSeed
      have e1' : fX1_firstBreakingSeed_L2 F (nI (t 0 0)) (nI (t 2 0)) (nI (t 3 0)) hts lit sc sm xs (nI n) F 1 hs v ohi olo = _ := e1
      rw [e1', ob_s]
    · rw [hw.1 n h1 h2 rfl, ob_s, if_neg one0]
      exact e2
  · refine ⟨-3, hs, v, ohi, olo, his, los, pm, pf, ?_, by rw [hw.2 h, ob_s, if_pos rfl]⟩
    by_cases h1 : a1 < 1
    · rw [if_pos h1]
    · rw [if_neg h1, if_neg (show ¬ a1 ≤ 200 from fun z => Int32.lt_irrefl (Int32.lt_of_le_of_lt z (h.resolve_left h1)))]
/-! steady winds -/
def stW (w : Nat) : Nat → Nat → Nat := fun b _ => if b = 0 then w / 7 else w % 7
def stC (t : Nat → Nat → Nat) (w : Nat) : Bool := !anyT t (stW w) (t 3 0) 0 (t 0 0)
def stR (p : Nat → Bool) (a : Int32) : Nat → Nat → Nat → Int32
  | 0, _, n => if a = -1 then nI n else -1
  | k + 1, w, n => if p w then (if nI n = a then nI w else stR p a k (w + 1) (n + 1)) else stR p a k (w + 1) n
theorem stR_s (p : Nat → Bool) (a : Int32) (k w n : Nat) : stR p a (k + 1) w n = if p w then (if nI n = a then nI w else stR p a k (w + 1) (n + 1)) else stR p a k (w + 1) n := rfl
theorem stW_le {w : Nat} (hw : w < 49) (b q : Nat) : stW w b q ≤ 6 := by
  unfold stW
  split <;> omega
theorem p_steadyC {F w : Nat} {t : Nat → Nat → Nat} {hs v xs hts lit sc sm his los : Nat → Int32} (ht : Tok t) (hO : tcO t xs hts lit sc sm) (hw : w < 49) (hF : 60 < F) :
    ∃ hs' v' his' los', fX1_isSteadyCalm F (nI (t 0 0)) (nI (t 2 0)) (nI (t 3 0)) hs v hts lit sc sm xs his los (nI w) = some (bI (stC t w), hs', v', his', los') := by
  obtain ⟨hs', v', e1, e2⟩ := p_oth (F := F) (Wd := stW w) (hs := hs) (v := v) (his := fillT his 0 48 (nI (w % 7))) (los := fillT los 0 48 (nI (w / 7))) ht hO (stW_le hw) (fun q hq => fillT_in (by omega) hq) (fun q hq => fillT_in (by omega) hq) (by omega)
  refine ⟨hs', v', fillT his 0 48 (nI (w % 7)), fillT los 0 48 (nI (w / 7)), ?_⟩
  have e7 : nI w / (7 : Int32) = nI (w / 7) := pk_div (a := w) (d := 7) (by omega) (by decide) (by decide)
  have r7 : nI w - nI w / (7 : Int32) * (7 : Int32) = nI (w % 7) := pk_rem (a := w) (d := 7) (by omega) (by decide) (by decide)
  unfold fX1_isSteadyCalm fX8_blowSteadily
  rw [r7, e7, p_fillI (by omega) (by decide), ob_s, p_fillI (by omega) (by decide), ob_s, ob_s]
  show ob (fX4_layLit F hs (nI (t 0 0)) (nI (t 2 0)) v hts lit sc xs (fillT his 0 48 (nI (w % 7))) (fillT los 0 48 (nI (w / 7)))) _ = _
  rw [e1, ob_s]
  show ob (fX4_someTouch F hs' (nI (t 0 0)) (nI (t 3 0)) v' lit sc sm) _ = _
  rw [p_someTouch ht e2 hF, ob_s]
  unfold stC
  cases anyT t (stW w) (t 3 0) 0 (t 0 0) with
  | false => rw [bI_0 rfl, if_pos rfl]; rfl
  | true => rw [bI_1 rfl, if_neg one0]; rfl
theorem p_stC1 {F : Nat} {t : Nat → Nat → Nat} {xs hts lit sc sm : Nat → Int32} (ht : Tok t) (hO : tcO t xs hts lit sc sm) (hF : 60 < F) :
    ∀ (k w fuel n : Nat) (hs v his los : Nat → Int32), w + k = 49 → k < fuel → n ≤ w → ∃ hs' v' his' los', fX1_calmSteadyWinds_L4 F (nI (t 0 0)) (nI (t 2 0)) (nI (t 3 0)) hts lit sc sm xs fuel (nI n) (nI w) hs v his los = some (stR (stC t) (-1) k w n, hs', v', his', los')
  | 0, w, fuel + 1, n, hs, v, his, los, h, _, _ => ⟨hs, v, his, los, by rw [fX1_calmSteadyWinds_L4, show w = 49 by omega, if_pos (show (49 : Int32) ≤ nI 49 from nI_le (Nat.le_refl 49) (by decide))]; rfl⟩
  | k + 1, w, fuel + 1, n, hs, v, his, los, h, hf, hnw => by
    obtain ⟨hs1, v1, his1, los1, e1⟩ := p_steadyC (F := F) (w := w) (hs := hs) (v := v) (his := his) (los := los) ht hO (by omega) hF
    rw [fX1_calmSteadyWinds_L4, if_neg (show ¬ (49 : Int32) ≤ nI w from nI_ge (a := w) (b := 49) (by omega) (by decide)), e1, ob_s, stR_s]
    unfold fX1_calmSteadyWinds_L21
    simp only [ol_s, nI_1]
    cases hb : stC t w with
    | false =>
      obtain ⟨hs', v', his', los', g⟩ := p_stC1 ht hO hF k (w + 1) fuel n hs1 v1 his1 los1 (by omega) (by omega) (by omega)
      exact ⟨hs', v', his', los', g⟩
    | true =>
      obtain ⟨hs', v', his', los', g⟩ := p_stC1 ht hO hF k (w + 1) fuel (n + 1) hs1 v1 his1 los1 (by omega) (by omega) (by omega)
      refine ⟨hs', v', his', los', ?_⟩
      rw [if_pos rfl, if_neg (nI_nm1 (by omega))]
      exact g
  | k, w, 0, n, hs, v, his, los, _, hf, _ => absurd hf (Nat.not_lt_zero k)
theorem p_stC2 {F : Nat} {a : Int32} {t : Nat → Nat → Nat} {xs hts lit sc sm : Nat → Int32} (ht : Tok t) (hO : tcO t xs hts lit sc sm) (ha : ¬ a = -1) (hF : 60 < F) :
    ∀ (k w fuel n : Nat) (hs v his los : Nat → Int32), w + k = 49 → k < fuel → n ≤ w → ∃ hs' v' his' los', fX1_calmSteadyWind_L4 F (nI (t 0 0)) (nI (t 2 0)) (nI (t 3 0)) hts lit sc sm xs a fuel (nI n) (nI w) hs v his los = some (stR (stC t) a k w n, hs', v', his', los')
  | 0, w, fuel + 1, n, hs, v, his, los, h, _, _ => ⟨hs, v, his, los, by rw [fX1_calmSteadyWind_L4, show w = 49 by omega, if_pos (show (49 : Int32) ≤ nI 49 from nI_le (Nat.le_refl 49) (by decide))]; unfold stR; rw [if_neg ha]⟩
  | k + 1, w, fuel + 1, n, hs, v, his, los, h, hf, hnw => by
    obtain ⟨hs1, v1, his1, los1, e1⟩ := p_steadyC (F := F) (w := w) (hs := hs) (v := v) (his := his) (los := los) ht hO (by omega) hF
    rw [fX1_calmSteadyWind_L4, if_neg (show ¬ (49 : Int32) ≤ nI w from nI_ge (a := w) (b := 49) (by omega) (by decide)), e1, ob_s, stR_s]
    unfold fX1_calmSteadyWind_L28
    simp only [ol_s, nI_1]
    cases hb : stC t w with
    | false =>
      obtain ⟨hs', v', his', los', g⟩ := p_stC2 ht hO ha hF k (w + 1) fuel n hs1 v1 his1 los1 (by omega) (by omega) (by omega)
      exact ⟨hs', v', his', los', g⟩
    | true =>
      show ∃ hs' v' his' los', (if (1 : Int32) = 0 then _ else _) = _
      rw [if_neg one0, if_pos rfl]
      by_cases hna : nI n = a
      · rw [if_pos hna, if_pos hna]
        exact ⟨hs1, v1, his1, los1, rfl⟩
      · rw [if_neg hna, if_neg hna]
        exact p_stC2 ht hO ha hF k (w + 1) fuel (n + 1) hs1 v1 his1 los1 (by omega) (by omega) (by omega)
  | k, w, 0, n, hs, v, his, los, _, hf, _ => absurd hf (Nat.not_lt_zero k)
theorem p_stM_in {F w n : Nat} {a thr : Int32} {t : Nat → Nat → Nat} {all pm pf : Nat → Int32} {k9 : Int32 → Int32 → Int32 → (Nat → Int32) → (Nat → Int32) → (Nat → Int32) → (Nat → Int32) → Option (Int32 × Int32 × (Nat → Int32) × (Nat → Int32) × (Nat → Int32) × (Nat → Int32))} (ht : Tok t) (hM : tM t all 0) (hw : w < 49) (hF : 60 < F) :
    ∀ (k i fuel : Nat) (his los : Nat → Int32), i + k = 48 → k < fuel → (∀ q, q < i → los q = nI (w / 7) ∧ his q = nI (w % 7)) → ∃ his' los' pm' pf', fX10_steady_L18 F all a k9 fuel (nI n) (nI w) (nI i) thr his los pm pf = if stC t w then (if nI n = a then some (nI w, thr, his', los', pm', pf') else k9 (nI (n + 1)) (nI (w + 1)) thr his' los' pm' pf') else k9 (nI n) (nI (w + 1)) thr his' los' pm' pf'
  | 0, i, fuel + 1, his, los, h, _, hq => by
    have hth := ht.thick
    have e3 : all (3 : Int32).toNatClampNeg = nI (t 3 0) := hM.1 3 (by decide)
    obtain ⟨pm', pf', e1, e2⟩ := p_laysLit (F := F) (Wd := stW w) (his := his) (los := los) (pm := pm) (pf := pf) ht hM (stW_le hw) (fun q h' => (hq q (by omega)).1) (fun q h' => (hq q (by omega)).2) (by omega)
    refine ⟨his, los, pm', pf', ?_⟩
    rw [fX10_steady_L18, show i = 48 by omega, if_pos (show (48 : Int32) ≤ nI 48 from nI_le (Nat.le_refl 48) (by decide)), e1, ob_s, e3]
    show ob (fX10_anyTouch F all pm' pf' (nI (t 3 0))) _ = _
    rw [p_anyTouch ht hM e2 (by omega) hF, ob_s]
    unfold fX10_steady_L83 stC
    simp only [ol_s, nI_1]
    cases anyT t (stW w) (t 3 0) 0 (t 0 0) with
    | false => rw [bI_0 rfl, if_pos rfl]; rfl
    | true => rw [bI_1 rfl, if_neg one0]; rfl
  | k + 1, i, fuel + 1, his, los, h, hf, hq => by
    have e7 : nI w / (7 : Int32) = nI (w / 7) := pk_div (a := w) (d := 7) (by omega) (by decide) (by decide)
    have r7 : nI w - nI w / (7 : Int32) * (7 : Int32) = nI (w % 7) := pk_rem (a := w) (d := 7) (by omega) (by decide) (by decide)
    rw [fX10_steady_L18, if_neg (show ¬ (48 : Int32) ≤ nI i from nI_ge (a := i) (b := 48) (by omega) (by decide)), r7, e7, vb_nI (by omega) (by decide), og_s, ol_s, og_s, ol_s, ol_s, nI_1, nI_clamp (by omega)]
    exact p_stM_in ht hM hw hF k (i + 1) fuel _ _ (by omega) (by omega) (fun q hq' => by
      by_cases e : q = i
      · subst e; rw [pk_us, pk_us]; exact ⟨rfl, rfl⟩
      · rw [pk_un e, pk_un e]; exact hq q (by omega))
  | k, i, 0, his, los, _, hf, _ => absurd hf (Nat.not_lt_zero k)
theorem p_stM {F : Nat} {a thr : Int32} {t : Nat → Nat → Nat} {all : Nat → Int32} (ht : Tok t) (hM : tM t all 0) (hF : 60 < F) :
    ∀ (k w fuel n : Nat) (his los pm pf : Nat → Int32), w + k = 49 → k < fuel → ∃ his' los' pm' pf', fX10_steady_L9 F all a fuel (nI n) (nI w) thr his los pm pf = some (stR (stC t) a k w n, thr, his', los', pm', pf')
  | 0, w, fuel + 1, n, his, los, pm, pf, h, _ => by
    refine ⟨his, los, pm, pf, ?_⟩
    rw [fX10_steady_L9, show w = 49 by omega, if_pos (show (49 : Int32) ≤ nI 49 from nI_le (Nat.le_refl 49) (by decide))]
    unfold stR
    by_cases ha : a = -1
    · rw [if_pos ha, if_pos ha]
    · rw [if_neg ha, if_neg ha]
  | k + 1, w, fuel + 1, n, his, los, pm, pf, h, hf => by
    obtain ⟨his1, los1, pm1, pf1, e1⟩ := p_stM_in (F := F) (w := w) (n := n) (a := a) (thr := thr) (pm := pm) (pf := pf) (k9 := fun x2 x3 v_thrown v_highs v_lows v_puffMany v_puffsOf => fX10_steady_L9 F all a fuel x2 x3 v_thrown v_highs v_lows v_puffMany v_puffsOf) ht hM (by omega) hF 48 0 F his los (by omega) (by omega) (fun q hq => by omega)
    rw [fX10_steady_L9, if_neg (show ¬ (49 : Int32) ≤ nI w from nI_ge (a := w) (b := 49) (by omega) (by decide)), stR_s]
    have e1' : fX10_steady_L18 F all a (fun x2 x3 v_thrown v_highs v_lows v_puffMany v_puffsOf => fX10_steady_L9 F all a fuel x2 x3 v_thrown v_highs v_lows v_puffMany v_puffsOf) F (nI n) (nI w) 0 thr his los pm pf = _ := e1
    rw [e1']
    cases hb : stC t w with
    | false => exact p_stM ht hM hF k (w + 1) fuel n his1 los1 pm1 pf1 (by omega) (by omega)
    | true =>
      rw [if_pos rfl, if_pos rfl]
      by_cases hna : nI n = a
      · rw [if_pos hna, if_pos hna]; exact ⟨his1, los1, pm1, pf1, rfl⟩
      · rw [if_neg hna, if_neg hna]
        exact p_stM ht hM hF k (w + 1) fuel (n + 1) his1 los1 pm1 pf1 (by omega) (by omega)
  | k, w, 0, n, his, los, pm, pf, _, hf => absurd hf (Nat.not_lt_zero k)
theorem stR_neg {p : Nat → Bool} {a : Int32} (ha : ¬ a = -1) (ha0 : a < 0) : ∀ (k w n : Nat), n + k < 2 ^ 31 → stR p a k w n = -1
  | 0, w, n, _ => by unfold stR; rw [if_neg ha]
  | k + 1, w, n, h => by
    rw [stR_s]
    have hna : ¬ nI n = a := fun z => absurd (z ▸ ha0) (nI_pos (n := n) (by omega))
    rw [if_neg hna, stR_neg ha ha0 k (w + 1) (n + 1) (by omega), stR_neg ha ha0 k (w + 1) n (by omega)]
    split <;> rfl
theorem s_steady {F : Nat} {t : Nat → Nat → Nat} {hs v xs hts lit sc sm ohi olo all his los pm pf : Nat → Int32} {thr : Int32} (a1 : Int32) (ht : Tok t) (hO : tcO t xs hts lit sc sm) (hM : tM t all 0) (hF : 60 < F) :
    ∃ r hs' v' ohi' olo' his' los' pm' pf', fX9_steady F (nI (t 0 0)) (nI (t 2 0)) (nI (t 3 0)) hts lit sc sm xs hs v ohi olo a1 = some (r, hs', v', ohi', olo') ∧ fX10_steady F thr all his los pm pf a1 = some (r, 0, his', los', pm', pf') := by
  obtain ⟨his', los', pm', pf', e2⟩ := p_stM (F := F) (a := a1) (thr := 0) ht hM hF 49 0 F 0 his los pm pf (by omega) (by omega)
  unfold fX9_steady fX10_steady
  have e2' : fX10_steady_L9 F all a1 F 0 0 0 his los pm pf = _ := e2
  rw [e2']
  by_cases h : a1 = -1
  · obtain ⟨hs', v', ohi', olo', e1⟩ := p_stC1 (F := F) ht hO hF 49 0 F 0 hs v ohi olo (by omega) (by omega) (by omega)
    refine ⟨_, hs', v', ohi', olo', his', los', pm', pf', ?_, rfl⟩
    unfold fX1_calmSteadyWinds
    have e1' : fX1_calmSteadyWinds_L4 F (nI (t 0 0)) (nI (t 2 0)) (nI (t 3 0)) hts lit sc sm xs F 0 0 hs v ohi olo = _ := e1
    rw [if_pos h, e1', ob_s, h]
  · rw [if_neg h]
    by_cases h0 : 0 ≤ a1
    · obtain ⟨hs', v', ohi', olo', e1⟩ := p_stC2 (F := F) (a := a1) ht hO h hF 49 0 F 0 hs v ohi olo (by omega) (by omega) (by omega)
      refine ⟨_, hs', v', ohi', olo', his', los', pm', pf', ?_, rfl⟩
      unfold fX1_calmSteadyWind
      have e1' : fX1_calmSteadyWind_L4 F (nI (t 0 0)) (nI (t 2 0)) (nI (t 3 0)) hts lit sc sm xs a1 F 0 0 hs v ohi olo = _ := e1
      rw [if_pos h0, e1', ob_s]
    · refine ⟨_, hs, v, ohi, olo, his', los', pm', pf', ?_, rfl⟩
      rw [if_neg h0, stR_neg h (Int32.not_le.mp h0) 49 0 0 (by decide)]
