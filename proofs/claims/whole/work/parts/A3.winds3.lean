/-! promises 32, 33, 34, 36: days of other winds -/
def tcO (t : Nat → Nat → Nat) (xs hts lit sc sm : Nat → Int32) : Prop := ∀ c, c < t 0 0 → xs c = nI (t 6 c) ∧ hts c = nI (t 7 c) ∧ sc c = nI (t 10 c) ∧ lit c = nI (t 11 c) - 1 ∧ ∀ k, k < t 10 c → sm (6 * c + k) = nI (t 12 (6 * c + k))
theorem tcO_of {t : Nat → Nat → Nat} {ch wc la th fi li : Int32} {xs hts fs ts sc sm lit wq wl wh : Nat → Int32} (h : tC t ch wc la th fi li xs hts fs ts sc sm lit wq wl wh) : tcO t xs hts lit sc sm := fun c hc => by
  obtain ⟨g0, g1, g2, g3, g4, g5, g6⟩ := h.2.2.2.2.2.2.1 c hc
  exact ⟨g0, g1, g4, g5, g6⟩
theorem p_oth {F : Nat} {t : Nat → Nat → Nat} {Wd : Nat → Nat → Nat} {hs v xs hts lit sc sm his los : Nat → Int32} (ht : Tok t) (hO : tcO t xs hts lit sc sm) (hWd : ∀ k q, Wd k q ≤ 6) (hlo : ∀ q, q < 48 → los q = nI (Wd 0 q)) (hhi : ∀ q, q < 48 → his q = nI (Wd 1 q)) (hF : 29 < F) :
    ∃ hs' v', fX4_layLit F hs (nI (t 0 0)) (nI (t 2 0)) v hts lit sc xs his los = some (hs', v') ∧ liOk t Wd (t 7) hs' v' lit sc sm := by
  obtain ⟨hs', v', e1, e2⟩ := p_layLit (F := F) (hs := hs) (v := v) ht (fun c hc => by obtain ⟨a, b, c1, d, -⟩ := hO c hc; exact ⟨a, b, c1, d⟩) hWd hlo hhi hF
  refine ⟨hs', v', e1, fun c hc => ?_⟩
  obtain ⟨-, -, a3, a4, a5⟩ := hO c hc
  have := (ht.2.2.2.2.2.2.1 c hc).2.1
  exact ⟨fun hl => ⟨e2 c hc hl, by omega⟩, a4, a3, a5⟩
def dW (s : Int32) : Nat → Nat → Nat := fun b q => drW s q b
theorem dW_le (s : Int32) (b q : Nat) : dW s b q ≤ 6 := drW_le s q b
def nb (b : Bool) : Int32 := bI (!b)
theorem p_isCalmC {F : Nat} {t : Nat → Nat → Nat} {hs v xs hts lit sc sm his los : Nat → Int32} (s : Int32) (ht : Tok t) (hO : tcO t xs hts lit sc sm) (hF : 60 < F) :
    ∃ hs' v' his' los', fX1_isCalm F (nI (t 0 0)) (nI (t 2 0)) (nI (t 3 0)) hs v hts lit sc sm xs his los s = some (nb (anyT t (dW s) (t 3 0) 0 (t 0 0)), hs', v', his', los') := by
  obtain ⟨hs', v', e1, e2⟩ := p_oth (F := F) (Wd := dW s) (hs := hs) (v := v) (his := oT his s 1 0) (los := oT los s 0 0) ht hO (dW_le s) (fun q hq => oT_in hq) (fun q hq => oT_in hq) (by omega)
  refine ⟨hs', v', oT his s 1 0, oT los s 0 0, ?_⟩
  unfold fX1_isCalm
  rw [p_draw (by omega), ob_s]
  show ob (fX4_layLit F hs (nI (t 0 0)) (nI (t 2 0)) v hts lit sc xs (oT his s 1 0) (oT los s 0 0)) _ = _
  rw [e1, ob_s]
  show ob (fX4_someTouch F hs' (nI (t 0 0)) (nI (t 3 0)) v' lit sc sm) _ = _
  rw [p_someTouch ht e2 hF, ob_s]
  cases anyT t (dW s) (t 3 0) 0 (t 0 0) with
  | false => rw [bI_0 rfl, if_pos rfl]; rfl
  | true => rw [bI_1 rfl, if_neg one0]; rfl
theorem p_isCalmM {F : Nat} {t : Nat → Nat → Nat} {all his los pm pf : Nat → Int32} (s : Int32) (ht : Tok t) (hM : tM t all 0) (hF : 60 < F) :
    ∃ his' los' pm' pf', fX10_isCalm F all his los pm pf s = some (nb (anyT t (dW s) (t 3 0) 0 (t 0 0)), his', los', pm', pf') := by
  have hth := ht.thick
  have e3 : all (3 : Int32).toNatClampNeg = nI (t 3 0) := hM.1 3 (by decide)
  obtain ⟨pm', pf', e1, e2⟩ := p_laysLit (F := F) (Wd := dW s) (his := oT his s 1 0) (los := oT los s 0 0) (pm := pm) (pf := pf) ht hM (dW_le s) (fun q hq => oT_in hq) (fun q hq => oT_in hq) (by omega)
  refine ⟨oT his s 1 0, oT los s 0 0, pm', pf', ?_⟩
  unfold fX10_isCalm
  rw [p_laysOther (by omega), ob_s]
  show ob (fX10_laysLit F all (oT his s 1 0) (oT los s 0 0) pm pf) _ = _
  rw [e1, ob_s, e3]
  show ob (fX10_anyTouch F all pm' pf' (nI (t 3 0))) _ = _
  rw [p_anyTouch ht hM e2 (by omega) hF, ob_s]
  cases anyT t (dW s) (t 3 0) 0 (t 0 0) with
  | false => rw [bI_0 rfl, if_pos rfl]; rfl
  | true => rw [bI_1 rfl, if_neg one0]; rfl
theorem s_gusts {F : Nat} {t : Nat → Nat → Nat} {hs v xs hts lit sc sm ohi olo all his los pr pm pf tc : Nat → Int32} {thr : Int32} (a1 : Int32) (ht : Tok t) (hO : tcO t xs hts lit sc sm) (hM : tM t all 0) (hF : 60 < F) :
    ∃ r hs' v' ohi' olo' his' los' pr' pm' pf' tc', fX9_gusts F (nI (t 0 0)) (nI (t 2 0)) (nI (t 3 0)) hts lit sc sm xs hs v ohi olo a1 = some (r, hs', v', ohi', olo') ∧ fX10_gusts F thr all his los pr pm pf tc a1 = some (r, 0, his', los', pr', pm', pf', tc') := by
  obtain ⟨hs', v', e1, e2⟩ := p_oth (F := F) (Wd := dW a1) (hs := hs) (v := v) (his := oT ohi a1 1 0) (los := oT olo a1 0 0) ht hO (dW_le a1) (fun q hq => oT_in hq) (fun q hq => oT_in hq) (by omega)
  obtain ⟨pm', pf', f1, f2⟩ := p_laysLit (F := F) (Wd := dW a1) (his := oT his a1 1 0) (los := oT los a1 0 0) (pm := pm) (pf := pf) ht hM (dW_le a1) (fun q hq => oT_in hq) (fun q hq => oT_in hq) (by omega)
  obtain ⟨f, pc', pr', tc', g1, g2, g3, g4, g5⟩ := p_gp (F := F) (pc := pr) (pr := pr) (tc := tc) ht e2 hM f2 hF
  refine ⟨nI (pairN t (dW a1) 0 (t 0 0)), hs', v', oT ohi a1 1 0, oT olo a1 0 0, oT his a1 1 0, oT los a1 0 0, pr', pm', pf', tc', ?_, ?_⟩
  · unfold fX9_gusts
    rw [p_draw (by omega), ob_s]
    show ob (fX4_layLit F hs (nI (t 0 0)) (nI (t 2 0)) v hts lit sc xs (oT ohi a1 1 0) (oT olo a1 0 0)) _ = _
    rw [e1, ob_s]
    show ob (fX4_touchingPairs F hs' (nI (t 0 0)) (nI (t 3 0)) v' lit sc sm) _ = _
    rw [p_touchingPairs ht e2 hF, ob_s]
  · unfold fX10_gusts
    rw [p_laysOther (by omega), ob_s]
    show ob (fX10_laysLit F all (oT his a1 1 0) (oT los a1 0 0) pm pf) _ = _
    rw [f1, ob_s]
    show ob (fX10_laysPairs F all pr pm' pf' tc) _ = _
    rw [g2, ob_s, g5]
def calmN (t : Nat → Nat → Nat) (s : Nat) : Nat := if anyT t (dW (nI s)) (t 3 0) 0 (t 0 0) then 0 else 1
theorem p_calmC {F n : Nat} {t : Nat → Nat → Nat} {xs hts lit sc sm : Nat → Int32} (ht : Tok t) (hO : tcO t xs hts lit sc sm) (hn : n ≤ 60) (hF : 60 < F) :
    ∀ (k i fuel acc : Nat) (hs v his los : Nat → Int32), i + k = n + 1 → k < fuel → ∃ hs' v' his' los', fX1_calmSeeds_L4 F (nI (t 0 0)) (nI (t 2 0)) (nI (t 3 0)) hts lit sc sm xs (nI n) fuel (nI acc) (nI i) hs v his los = some (nI (acc + sumR (calmN t) i k), hs', v', his', los')
  | 0, i, fuel + 1, acc, hs, v, his, los, h, _ => ⟨hs, v, his, los, by rw [fX1_calmSeeds_L4, if_pos (nI_lt (by omega) (by omega))]; rfl⟩
  | k + 1, i, fuel + 1, acc, hs, v, his, los, h, hf => by
    obtain ⟨hs1, v1, his1, los1, e1⟩ := p_isCalmC (F := F) (hs := hs) (v := v) (his := his) (los := los) (nI i) ht hO hF
    rw [fX1_calmSeeds_L4, if_neg (nI_nlt (by omega) (by omega)), e1, ob_s, sumR_s]
    unfold fX1_calmSeeds_L20
    simp only [ol_s, nI_1]
    unfold calmN
    cases hb : anyT t (dW (nI i)) (t 3 0) 0 (t 0 0) with
    | false =>
      obtain ⟨hs', v', his', los', g⟩ := p_calmC ht hO hn hF k (i + 1) fuel (acc + 1) hs1 v1 his1 los1 (by omega) (by omega)
      refine ⟨hs', v', his', los', ?_⟩
      show (if (1 : Int32) = 0 then _ else _) = _
      rw [if_neg one0]
      refine g.trans ?_
      simp only [Nat.add_assoc]; rfl
    | true =>
      obtain ⟨hs', v', his', los', g⟩ := p_calmC ht hO hn hF k (i + 1) fuel acc hs1 v1 his1 los1 (by omega) (by omega)
      refine ⟨hs', v', his', los', ?_⟩
      show (if (0 : Int32) = 0 then _ else _) = _
      rw [if_pos rfl]
      refine g.trans ?_
      rw [if_pos rfl, Nat.zero_add]; rfl
  | k, i, 0, acc, hs, v, his, los, _, hf => absurd hf (Nat.not_lt_zero k)
theorem p_calmM {F n : Nat} {t : Nat → Nat → Nat} {all : Nat → Int32} {thr : Int32} (ht : Tok t) (hM : tM t all 0) (hn : n ≤ 60) (hF : 60 < F) :
    ∀ (k i fuel acc : Nat) (his los pm pf : Nat → Int32), i + k = n + 1 → k < fuel → ∃ his' los' pm' pf', fX10_calm_L24 F all (nI n) fuel (nI acc) (nI i) thr his los pm pf = some (nI (acc + sumR (calmN t) i k), thr, his', los', pm', pf')
  | 0, i, fuel + 1, acc, his, los, pm, pf, h, _ => ⟨his, los, pm, pf, by rw [fX10_calm_L24, if_pos (nI_lt (by omega) (by omega))]; rfl⟩
  | k + 1, i, fuel + 1, acc, his, los, pm, pf, h, hf => by
    obtain ⟨his1, los1, pm1, pf1, e1⟩ := p_isCalmM (F := F) (his := his) (los := los) (pm := pm) (pf := pf) (nI i) ht hM hF
    rw [fX10_calm_L24, if_neg (nI_nlt (by omega) (by omega)), e1, ob_s, sumR_s]
    unfold fX10_calm_L43
    simp only [ol_s, nI_1]
    unfold calmN
    cases hb : anyT t (dW (nI i)) (t 3 0) 0 (t 0 0) with
    | false =>
      obtain ⟨his', los', pm', pf', g⟩ := p_calmM (thr := thr) ht hM hn hF k (i + 1) fuel (acc + 1) his1 los1 pm1 pf1 (by omega) (by omega)
      refine ⟨his', los', pm', pf', ?_⟩
      show (if (1 : Int32) = 0 then _ else _) = _
      rw [if_neg one0]
      refine g.trans ?_
      simp only [Nat.add_assoc]; rfl
    | true =>
      obtain ⟨his', los', pm', pf', g⟩ := p_calmM (thr := thr) ht hM hn hF k (i + 1) fuel acc his1 los1 pm1 pf1 (by omega) (by omega)
      refine ⟨his', los', pm', pf', ?_⟩
      show (if (0 : Int32) = 0 then _ else _) = _
      rw [if_pos rfl, show nI acc + 0 = nI acc from nI_add acc 0]
      refine g.trans ?_
      rw [if_pos rfl, Nat.zero_add]; rfl
  | k, i, 0, acc, his, los, pm, pf, _, hf => absurd hf (Nat.not_lt_zero k)
/-- a number from 1 to M -/
theorem in_1 {a : Int32} {M : Nat} (hM : M < 2 ^ 30) : (∃ n, 1 ≤ n ∧ n ≤ M ∧ a = nI n) ∨ a < 1 ∨ nI M < a := by
  rcases pk_ix a (n := M + 1) (by omega) with q | q | ⟨j, hj, rfl⟩
  · refine Or.inr (Or.inl ?_)
    rw [Int32.lt_iff_toInt_lt] at q ⊢
    have h0 : (0 : Int32).toInt = 0 := rfl
    have h1 : (1 : Int32).toInt = 1 := rfl
    omega
  · refine Or.inr (Or.inr (Int32.lt_of_lt_of_le (nI_lt (a := M) (b := M + 1) (by omega) (by omega)) q))
  · by_cases e : j = 0
    · subst e; exact Or.inr (Or.inl (by decide))
    · exact Or.inl ⟨j, by omega, by omega, rfl⟩
theorem p_w1 {F M : Nat} {a : Int32} {hi : Int64} (hM : M < 2 ^ 30) (hh : hi.toInt = M) : (∀ n, 1 ≤ n → n ≤ M → a = nI n → fX10_within F a.toInt64 1 hi = some 1) ∧ ((a < 1 ∨ nI M < a) → fX10_within F a.toInt64 1 hi = some 0) := by
  have h1 : (1 : Int64).toInt = 1 := rfl
  have h1' : (1 : Int32).toInt = 1 := rfl
  constructor
  · intro n a1 a2 e
    subst e
    rw [p_within32, hh, h1, nI_toInt (by omega)]
    have : (decide ((1 : Int) ≤ (n : Int)) && decide ((n : Int) ≤ (M : Int))) = true := by simp; omega
    rw [this]; rfl
  · intro h
    rw [p_within32, hh, h1]
    have : (decide ((1 : Int) ≤ a.toInt) && decide (a.toInt ≤ (M : Int))) = false := by
      rcases h with h | h
      · rw [Int32.lt_iff_toInt_lt, h1'] at h
        have : ¬ (1 : Int) ≤ a.toInt := by omega
        simp [this]
      · rw [Int32.lt_iff_toInt_lt, nI_toInt (by omega)] at h
        have : ¬ a.toInt ≤ (M : Int) := by omega
        simp [this]
    rw [this]; rfl
theorem s_calm {F : Nat} {t : Nat → Nat → Nat} {hs v xs hts lit sc sm ohi olo all his los pm pf : Nat → Int32} {thr : Int32} (a1 : Int32) (ht : Tok t) (hO : tcO t xs hts lit sc sm) (hM : tM t all 0) (hF : 61 < F) :
    ∃ r hs' v' ohi' olo' his' los' pm' pf', fX9_calm F (nI (t 0 0)) (nI (t 2 0)) (nI (t 3 0)) hts lit sc sm xs hs v ohi olo a1 = some (r, hs', v', ohi', olo') ∧ fX10_calm F thr all his los pm pf a1 = some (r, 0, his', los', pm', pf') := by
  have hw := p_w1 (F := F) (a := a1) (M := 60) (hi := 60) (by decide) rfl
  unfold fX9_calm fX10_calm fX9_calm_L11
  rcases in_1 (a := a1) (M := 60) (by decide) with ⟨n, h1, h2, rfl⟩ | h
  · obtain ⟨hs', v', ohi', olo', e1⟩ := p_calmC (F := F) ht hO h2 (by omega) n 1 F 0 hs v ohi olo (by omega) (by omega)
    obtain ⟨his', los', pm', pf', e2⟩ := p_calmM (F := F) (thr := 0) ht hM h2 (by omega) n 1 F 0 his los pm pf (by omega) (by omega)
    refine ⟨nI (0 + sumR (calmN t) 1 n), hs', v', ohi', olo', his', los', pm', pf', ?_, ?_⟩
    · rw [if_neg (show ¬ nI n < 1 from nI_nlt (a := n) (b := 1) h1 (by omega)), if_pos (show nI n ≤ 60 from nI_le (a := n) (b := 60) h2 (by decide))]
      unfold fX1_calmSeeds
      have e1' : fX1_calmSeeds_L4 F (nI (t 0 0)) (nI (t 2 0)) (nI (t 3 0)) hts lit sc sm xs (nI n) F 0 1 hs v ohi olo = _ := e1
      rw [e1', ob_s]
    · rw [hw.1 n h1 h2 rfl, ob_s, if_neg one0]
      exact e2
  · refine ⟨-3, hs, v, ohi, olo, his, los, pm, pf, ?_, by rw [hw.2 h, ob_s, if_pos rfl]⟩
    by_cases h1 : a1 < 1
    · rw [if_pos h1]
    · rw [if_neg h1, if_neg (show ¬ a1 ≤ 60 from fun z => Int32.lt_irrefl (Int32.lt_of_le_of_lt z (h.resolve_left h1)))]
