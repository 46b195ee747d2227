/-! promise 17: what a chimney pays, both sides -/
def qN (t : Nat → Nat → Nat) (Wd : Nat → Nat → Nat) (c d : Nat) : Nat := sumR (fun q => if tqB (lfL t Wd c) (lfL t Wd d) (t 3 0) q then 1 else 0) 0 48
def laterB (t : Nat → Nat → Nat) (c d : Nat) : Bool := decide (t 11 c ≠ 0) && (decide (t 11 d ≠ 0) && (decide (t 11 d < t 11 c) || (decide (t 11 c = t 11 d) && decide (d < c))))
def dueQ (t : Nat → Nat → Nat) (Wd : Nat → Nat → Nat) (c d : Nat) : Nat := if d ≠ c ∧ laterB t c d = true then qN t Wd c d else 0
theorem qN_le (t : Nat → Nat → Nat) (Wd : Nat → Nat → Nat) (c d : Nat) : qN t Wd c d ≤ 48 := by
  have hle := sumR_le (f := fun q => if tqB (lfL t Wd c) (lfL t Wd d) (t 3 0) q then 1 else 0) (M := 1) 48 0 (fun j _ _ => by show (if _ then 1 else 0) ≤ 1; split <;> omega)
  unfold qN; omega
theorem p_litLater {F c d : Nat} {t : Nat → Nat → Nat} {lit : Nat → Int32} (ht : Tok t) (hl : ∀ c, c < t 0 0 → lit c = nI (t 11 c) - 1) (hc : c < t 0 0) (hd : d < t 0 0) : fX7_litLater F (nI (t 0 0)) lit (nI c) (nI d) = some (bI (laterB t c d)) := by
  have hn := ht.1
  have l1 := ht.lit hc
  have l2 := ht.lit hd
  unfold fX7_litLater
  rw [p_isLit hc hn, ob_s, hl c hc]
  by_cases h1 : t 11 c = 0
  · rw [if_pos ((litC_iff l1).mpr h1), if_pos rfl]; simp [laterB, h1, bI]
  · rw [if_neg (fun z => h1 ((litC_iff l1).mp z)), if_neg one0, p_isLit hd hn, ob_s, hl d hd]
    by_cases h2 : t 11 d = 0
    · rw [if_pos ((litC_iff l2).mpr h2), if_pos rfl]; simp [laterB, h2, bI]
    · rw [if_neg (fun z => h2 ((litC_iff l2).mp z)), if_neg one0, vb_nI (show c < 10 by omega) (by decide), og_s, vb_nI (show d < 10 by omega) (by decide), og_s, og_s, og_s, nI_clamp (by omega), nI_clamp (by omega), hl c hc, hl d hd]
      obtain ⟨q, hq⟩ : ∃ q, t 11 c = q + 1 := ⟨t 11 c - 1, by omega⟩
      obtain ⟨r, hr⟩ : ∃ r, t 11 d = r + 1 := ⟨t 11 d - 1, by omega⟩
      unfold fX7_litLater_L53 laterB
      rw [hq, hr, nI_pred, nI_pred]
      by_cases h3 : r < q
      · rw [if_pos (nI_lt h3 (by omega))]; simp [h3, bI]
      · rw [if_neg (nI_nlt (by omega) (by omega))]
        by_cases h4 : q = r
        · subst h4
          rw [if_pos rfl]
          by_cases h5 : d < c
          · rw [if_neg (nI_ge h5 (by omega))]; simp [h5, bI]
          · rw [if_pos (nI_le (by omega) (by omega))]; simp [h5, bI]
        · rw [if_neg (nI_ne (by omega) (by omega) h4)]; simp [h3, h4, bI]
theorem p_dueFrom_L {F c : Nat} {t : Nat → Nat → Nat} {Wd : Nat → Nat → Nat} {hs v lit sc sm : Nat → Int32} {fi : Int32} (ht : Tok t) (H : liOk t Wd (t 7) hs v lit sc sm) (hfi : fi = nI (t 4 0)) (hc : c < t 0 0) (hF : 60 < F) :
    ∀ (k d fuel acc : Nat), d + k = t 0 0 → k < fuel → fX9_dueFrom_L4 F (nI (t 0 0)) (nI (t 3 0)) fi lit sc sm hs v (nI c) fuel (nI acc) (nI d) = some (nI ((acc + sumR (dueQ t Wd c) d k) * t 4 0))
  | 0, d, fuel + 1, acc, h, _ => by
    have hn := ht.1
    rw [fX9_dueFrom_L4, show d = t 0 0 by omega, if_pos (nI_le (Nat.le_refl _) (by omega)), hfi, pk_mul]; rfl
  | k + 1, d, fuel + 1, acc, h, hf => by
    have hn := ht.1
    have hth := ht.thick
    have hd : d < t 0 0 := by omega
    have ih := fun acc => p_dueFrom_L ht H hfi hc hF k (d + 1) fuel acc (by omega) (by omega)
    rw [fX9_dueFrom_L4, if_neg (nI_ge hd (by omega)), sumR_s]
    unfold fX9_dueFrom_L47
    simp only [ol_s, nI_1]
    by_cases e : d = c
    · have : dueQ t Wd c d = 0 := by unfold dueQ; rw [if_neg (fun z => z.1 e)]
      rw [if_pos (by rw [e]), ih, this, Nat.zero_add]
    · rw [if_neg (nI_ne (by omega) (by omega) e), p_litLater ht (fun c hc => (H c hc).2.1) hc hd, ob_s]
      cases hl : laterB t c d with
      | false =>
        have : dueQ t Wd c d = 0 := by unfold dueQ; rw [if_neg (fun z => by rw [hl] at z; cases z.2)]
        rw [bI_0 rfl, if_pos rfl, ih, this, Nat.zero_add]
      | true =>
        have : dueQ t Wd c d = qN t Wd c d := by unfold dueQ; rw [if_pos ⟨e, hl⟩]
        obtain ⟨N, n1, n2, n3⟩ := p_tQ (F := F) ht H hc hd hth.1 hth.2 hF
        rw [bI_1 rfl, if_neg one0, n2, ob_s, bits_n n1 n3 (fun j hj => tqB_lt (lfL_bd ht hc) hj), ob_s, nI_add]
        refine (ih _).trans ?_
        rw [this, ← Nat.add_assoc]; rfl
  | k, d, 0, acc, _, hf => absurd hf (Nat.not_lt_zero k)
theorem p_dueFrom {F c : Nat} {t : Nat → Nat → Nat} {Wd : Nat → Nat → Nat} {hs v lit sc sm : Nat → Int32} {fi : Int32} (ht : Tok t) (H : liOk t Wd (t 7) hs v lit sc sm) (hfi : fi = nI (t 4 0)) (hc : c < t 0 0) (hF : 60 < F) : fX9_dueFrom F (nI (t 0 0)) (nI (t 3 0)) fi lit sc sm hs v (nI c) = some (nI (sumR (dueQ t Wd c) 0 (t 0 0) * t 4 0)) := by
  have hn := ht.1
  have h := p_dueFrom_L (F := F) ht H hfi hc hF (t 0 0) 0 F 0 (by omega) (by omega)
  rw [Nat.zero_add] at h
  exact h
theorem p_faulty {F c d : Nat} {t : Nat → Nat → Nat} {all : Nat → Int32} (ht : Tok t) (hM : tM t all 0) (hc : c < t 0 0) (hd : d < t 0 0) (h1 : t 11 c ≠ 0) (h2 : t 11 d ≠ 0) : fX10_faulty F all (nI c) (nI d) = some (nI (if laterB t c d then c else d)) := by
  have hn := ht.1
  have l1 := ht.lit hc
  have l2 := ht.lit hd
  have m1 := (hM.2.1 c hc).2.2.2.2.2.1
  have m2 := (hM.2.1 d hd).2.2.2.2.2.1
  rw [Nat.zero_add] at m1 m2
  obtain ⟨q, hq⟩ : ∃ q, t 11 c = q + 1 := ⟨t 11 c - 1, by omega⟩
  obtain ⟨r, hr⟩ : ∃ r, t 11 d = r + 1 := ⟨t 11 d - 1, by omega⟩
  unfold fX10_faulty fX10_faulty_L31 fX10_faulty_L35 laterB
  rw [p_litAt (by omega), ob_s, p_litAt (by omega), ob_s, ob_s, ob_s, m1, m2, hq, hr, nI_pred, nI_pred]
  by_cases h3 : r < q
  · rw [if_pos (nI_lt h3 (by omega))]; simp [h3]
  · rw [if_neg (nI_nlt (by omega) (by omega))]
    by_cases h4 : q = r
    · subst h4
      rw [if_pos rfl]
      by_cases h5 : d < c
      · rw [if_neg (nI_ge h5 (by omega))]; simp [h5]
      · rw [if_pos (nI_le (by omega) (by omega))]; simp [h5]
    · rw [if_neg (nI_ne (by omega) (by omega) h4)]; simp [h3, h4]
theorem p_paysOf_L {F c : Nat} {t : Nat → Nat → Nat} {Wd : Nat → Nat → Nat} {all pm pf : Nat → Int32} (ht : Tok t) (hM : tM t all 0) (hR : ∀ c, c < t 0 0 → frow pm pf c (lfL t Wd c)) (hc : c < t 0 0) (hF : 60 < F) :
    ∀ (k d fuel acc : Nat) (tc : Nat → Int32), d + k = t 0 0 → k < fuel → ∃ tc', fX10_paysOf_L4 F all pm pf (nI c) fuel (nI (t 4 0 * acc)) (nI d) tc = some (nI (t 4 0 * (acc + sumR (dueQ t Wd c) d k)), tc')
  | 0, d, fuel + 1, acc, tc, h, _ => by
    have hn := ht.1
    have e : all (0 : Int32).toNatClampNeg = nI (t 0 0) := hM.1 0 (by decide)
    exact ⟨tc, by rw [fX10_paysOf_L4, e, show d = t 0 0 by omega, if_pos (nI_le (Nat.le_refl _) (by omega))]; rfl⟩
  | k + 1, d, fuel + 1, acc, tc, h, hf => by
    have hn := ht.1
    have hth := ht.thick
    have hd : d < t 0 0 := by omega
    have e : all (0 : Int32).toNatClampNeg = nI (t 0 0) := hM.1 0 (by decide)
    have e4 : all (4 : Int32).toNatClampNeg = nI (t 4 0) := hM.1 4 (by decide)
    have h3 : all 3 = nI (t 3 0) := hM.1 3 (by decide)
    have ih := fun acc tc => p_paysOf_L ht hM hR hc hF k (d + 1) fuel acc tc (by omega) (by omega)
    have l1 := ht.lit hc
    have l2 := ht.lit hd
    have m1 := (hM.2.1 c hc).2.2.2.2.2.1
    have m2 := (hM.2.1 d hd).2.2.2.2.2.1
    rw [Nat.zero_add] at m1 m2
    rw [fX10_paysOf_L4, e, if_neg (nI_ge hd (by omega)), sumR_s]
    unfold fX10_paysOf_L61
    simp only [ol_s, nI_1]
    by_cases e1 : d = c
    · have : dueQ t Wd c d = 0 := by unfold dueQ; rw [if_neg (fun z => z.1 e1)]
      rw [if_pos (by rw [e1]), this, Nat.zero_add]
      exact ih acc tc
    · rw [if_neg (nI_ne (by omega) (by omega) e1), p_mLit (by omega), ob_s, m1]
      by_cases h1 : t 11 c = 0
      · have : dueQ t Wd c d = 0 := by unfold dueQ laterB; rw [if_neg (fun z => by simp [h1] at z)]
        rw [if_pos ((litM_iff l1).mpr h1), if_pos rfl, this, Nat.zero_add]
        exact ih acc tc
      · rw [if_neg (fun z => h1 ((litM_iff l1).mp z)), if_neg one0, p_mLit (by omega), ob_s, m2]
        by_cases h2 : t 11 d = 0
        · have : dueQ t Wd c d = 0 := by unfold dueQ laterB; rw [if_neg (fun z => by simp [h2] at z)]
          rw [if_pos ((litM_iff l2).mpr h2), if_pos rfl, this, Nat.zero_add]
          exact ih acc tc
        · rw [if_neg (fun z => h2 ((litM_iff l2).mp z)), if_neg one0, p_faulty ht hM hc hd h1 h2, ob_s]
          cases hl : laterB t c d with
          | false =>
            have : dueQ t Wd c d = 0 := by unfold dueQ; rw [if_neg (fun z => by rw [hl] at z; cases z.2)]
            show ∃ tc', (if nI d = nI c then _ else _) = _
            rw [if_neg (nI_ne (by omega) (by omega) e1), this, Nat.zero_add]
            exact ih acc tc
          | true =>
            have : dueQ t Wd c d = qN t Wd c d := by unfold dueQ; rw [if_pos ⟨e1, hl⟩]
            obtain ⟨tc1, g1, g2⟩ := p_quarters (F := F) (tc := tc) h3 (by omega) (by omega) (hR c hc) (hR d hd) (lfL_bd ht hc) (lfL_bd ht hd) (by omega) (by omega)
            show ∃ tc', (if nI c = nI c then _ else _) = _
            rw [if_pos rfl, g1, ob_s, e4, pk_mul, nI_add, ← Nat.mul_add, this, ← Nat.add_assoc]
            exact ih _ tc1
  | k, d, 0, acc, tc, _, hf => absurd hf (Nat.not_lt_zero k)
theorem p_paysOf {F c : Nat} {t : Nat → Nat → Nat} {Wd : Nat → Nat → Nat} {all pm pf tc : Nat → Int32} (ht : Tok t) (hM : tM t all 0) (hR : ∀ c, c < t 0 0 → frow pm pf c (lfL t Wd c)) (hc : c < t 0 0) (hF : 60 < F) : ∃ tc', fX10_paysOf F all pm pf tc (nI c) = some (nI (sumR (dueQ t Wd c) 0 (t 0 0) * t 4 0), tc') := by
  have hn := ht.1
  obtain ⟨tc', h⟩ := p_paysOf_L (F := F) ht hM hR hc hF (t 0 0) 0 F 0 tc (by omega) (by omega)
  refine ⟨tc', ?_⟩
  rw [Nat.mul_zero, Nat.zero_add, Nat.mul_comm] at h
  exact h
theorem s_pays {F : Nat} {t : Nat → Nat → Nat} {hs v lit sc sm all his los pm pf tc : Nat → Int32} {thr fi : Int32} (a1 : Int32) (ht : Tok t) (hP : plOk t hs v lit sc sm) (hfi : fi = nI (t 4 0)) (hM : tM t all 0) (hF : 60 < F) :
    ∃ r his' los' pm' pf' tc', fX9_pays F (nI (t 0 0)) (nI (t 3 0)) fi lit sc sm hs v a1 = some r ∧ fX10_pays F thr all his los pm pf tc a1 = some (r, 0, his', los', pm', pf', tc') := by
  have hn := ht.1
  unfold fX9_pays fX10_pays
  rw [p_isChimney (hM.1 0 (by decide)) hn, ob_s]
  cases h1 : vb a1 (t 0 0) with
  | false => exact ⟨-2, his, los, pm, pf, tc, by rw [p_hasN (by omega) h1, ob_s, if_pos rfl], by rw [bI_0 rfl, if_pos rfl]⟩
  | true =>
    obtain ⟨c, hc, rfl⟩ := vb_of (by omega) h1
    obtain ⟨his', los', pm', pf', f1, -, -, f4⟩ := p_laysNow (F := F) (his := his) (los := los) (pm := pm) (pf := pf) ht hM (by omega)
    obtain ⟨tc', g1⟩ := p_paysOf (F := F) (tc := tc) ht hM f4 hc hF
    refine ⟨nI (sumR (dueQ t (tW t) c) 0 (t 0 0) * t 4 0), his', los', pm', pf', tc', ?_, ?_⟩
    · rw [p_has hc (by omega), ob_s, if_neg one0, p_dueFrom ht (li_of ht hP) hfi hc hF, ob_s]
    · rw [bI_1 rfl, if_neg one0, f1, ob_s]
      show ob (fX10_paysOf F all pm' pf' tc (nI c)) _ = _
      rw [g1, ob_s]
/-- all that is due -/
def dueAll (t : Nat → Nat → Nat) (Wd : Nat → Nat → Nat) (c k : Nat) : Nat := sumR (fun c => sumR (dueQ t Wd c) 0 (t 0 0) * t 4 0) c k
theorem p_dueAll_L {F : Nat} {t : Nat → Nat → Nat} {Wd : Nat → Nat → Nat} {hs v lit sc sm : Nat → Int32} {fi : Int32} (ht : Tok t) (H : liOk t Wd (t 7) hs v lit sc sm) (hfi : fi = nI (t 4 0)) (hF : 60 < F) :
    ∀ (k c fuel acc : Nat), c + k = t 0 0 → k < fuel → fX9_dueFromAll_L4 F (nI (t 0 0)) (nI (t 3 0)) fi lit sc sm hs v fuel (nI acc) (nI c) = some (nI (acc + dueAll t Wd c k))
  | 0, c, fuel + 1, acc, h, _ => by
    have hn := ht.1
    rw [fX9_dueFromAll_L4, show c = t 0 0 by omega, if_pos (nI_le (Nat.le_refl _) (by omega))]; rfl
  | k + 1, c, fuel + 1, acc, h, hf => by
    have hn := ht.1
    have hc : c < t 0 0 := by omega
    rw [fX9_dueFromAll_L4, if_neg (nI_ge hc (by omega)), p_dueFrom ht H hfi hc hF, ob_s, ol_s, ol_s, nI_add, nI_1, p_dueAll_L ht H hfi hF k (c + 1) fuel _ (by omega) (by omega)]
    unfold dueAll
    rw [sumR_s, Nat.add_assoc]
  | k, c, 0, acc, _, hf => absurd hf (Nat.not_lt_zero k)
theorem p_paysAll_L {F : Nat} {t : Nat → Nat → Nat} {Wd : Nat → Nat → Nat} {all his los pm pf : Nat → Int32} (ht : Tok t) (hM : tM t all 0) (hR : ∀ c, c < t 0 0 → frow pm pf c (lfL t Wd c)) (hF : 60 < F) :
    ∀ (k c fuel acc : Nat) (tc : Nat → Int32), c + k = t 0 0 → k < fuel → ∃ tc', fX10_paysAll_L8 F all fuel (nI acc) (nI c) his los pm pf tc = some (nI (acc + dueAll t Wd c k), his, los, pm, pf, tc')
  | 0, c, fuel + 1, acc, tc, h, _ => by
    have hn := ht.1
    have e : all (0 : Int32).toNatClampNeg = nI (t 0 0) := hM.1 0 (by decide)
    exact ⟨tc, by rw [fX10_paysAll_L8, e, show c = t 0 0 by omega, if_pos (nI_le (Nat.le_refl _) (by omega))]; rfl⟩
  | k + 1, c, fuel + 1, acc, tc, h, hf => by
    have hn := ht.1
    have hc : c < t 0 0 := by omega
    have e : all (0 : Int32).toNatClampNeg = nI (t 0 0) := hM.1 0 (by decide)
    obtain ⟨tc1, g1⟩ := p_paysOf (F := F) (tc := tc) ht hM hR hc hF
    obtain ⟨tc', g2⟩ := p_paysAll_L (his := his) (los := los) ht hM hR hF k (c + 1) fuel (acc + sumR (dueQ t Wd c) 0 (t 0 0) * t 4 0) tc1 (by omega) (by omega)
    refine ⟨tc', ?_⟩
    rw [fX10_paysAll_L8, e, if_neg (nI_ge hc (by omega)), g1, ob_s, ol_s, ol_s, nI_add, nI_1]
    refine g2.trans ?_
    unfold dueAll
    rw [sumR_s, Nat.add_assoc]
  | k, c, 0, acc, tc, _, hf => absurd hf (Nat.not_lt_zero k)
theorem p_dueAll {F : Nat} {t : Nat → Nat → Nat} {Wd : Nat → Nat → Nat} {hs v lit sc sm : Nat → Int32} {fi : Int32} (ht : Tok t) (H : liOk t Wd (t 7) hs v lit sc sm) (hfi : fi = nI (t 4 0)) (hF : 60 < F) : fX9_dueFromAll F (nI (t 0 0)) (nI (t 3 0)) fi lit sc sm hs v = some (nI (dueAll t Wd 0 (t 0 0))) := by
  have hn := ht.1
  have h := p_dueAll_L (F := F) ht H hfi hF (t 0 0) 0 F 0 (by omega) (by omega)
  rw [Nat.zero_add] at h
  exact h
theorem p_paysAll {F : Nat} {t : Nat → Nat → Nat} {all his los pm pf tc : Nat → Int32} (ht : Tok t) (hM : tM t all 0) (hF : 60 < F) : ∃ his' los' pm' pf' tc', fX10_paysAll F all his los pm pf tc = some (nI (dueAll t (tW t) 0 (t 0 0)), his', los', pm', pf', tc') := by
  have hn := ht.1
  obtain ⟨his', los', pm', pf', f1, -, -, f4⟩ := p_laysNow (F := F) (his := his) (los := los) (pm := pm) (pf := pf) ht hM (by omega)
  obtain ⟨tc', h⟩ := p_paysAll_L (F := F) (his := his') (los := los') ht hM f4 hF (t 0 0) 0 F 0 tc (by omega) (by omega)
  rw [Nat.zero_add] at h
  refine ⟨his', los', pm', pf', tc', ?_⟩
  unfold fX10_paysAll
  rw [f1, ob_s]
  exact h
