/-! promise 16: both sides keep the pairs in one order -/
theorem p_wm {F m : Nat} {a : Int32} (hm : m < 2 ^ 30) : fX10_within F a.toInt64 0 (nI m - 1).toInt64 = some (bI (vb a m)) := by
  rw [p_within32]
  congr 2
  rw [Bool.eq_iff_iff, vb_iff]
  have e0 : (0 : Int64).toInt = 0 := rfl
  rw [Int32.toInt_toInt64, nI_m1 (by omega)]
  simp [e0]
  omega
theorem p_ins {F f : Nat} {a1 a2 x1 x2 x3 : Int32} {all pm pf tc : Nat → Int32} {k4 : Int32 → Int32 → (Nat → Int32) → (Nat → Int32) → Option (Int32 × (Nat → Int32) × (Nat → Int32))} {k18 : Int32 → Int32 → Int32 → (Nat → Int32) → (Nat → Int32) → Option (Int32 × (Nat → Int32) × (Nat → Int32))} (hf : f < 45) :
    ∀ (i fuel fuel2 : Nat) (pc pr : Nat → Int32), i ≤ f → i < fuel → i < fuel2 → (∀ j, j ≤ f → j ≠ i → pc j = pr j) → ∃ pc' pr', fX9_insertPair_L2 F a1 a2 fuel (nI i) pc = some pc' ∧ fX10_laysPairs_L60 F all pm pf k4 k18 fuel2 x1 x2 x3 a2 (nI i) pr tc = fX10_laysPairs_L113 F all pm pf k4 k18 (x1 + 1) x2 x3 pr' tc ∧ ∀ j, j ≤ f → pc' j = pr' j
  | 0, fuel + 1, fuel2 + 1, pc, pr, _, _, _, h => by
    refine ⟨upd pc 0 a2, upd pr 0 a2, ?_, ?_, fun j hj => ?_⟩
    · rw [fX9_insertPair_L2, if_pos (show nI 0 ≤ 0 from nI_le (Nat.le_refl 0) (by decide)), fX9_insertPair_L38, vb_nI (by decide) (by decide), og_s, ol_s, nI_clamp (by decide)]
    · rw [fX10_laysPairs_L60, if_pos (show nI 0 ≤ 0 from nI_le (Nat.le_refl 0) (by decide)), fX10_laysPairs_L101, vb_nI (by decide) (by decide), og_s, ol_s, ol_s, nI_clamp (by decide)]
    · by_cases e : j = 0
      · subst e; rw [pk_us, pk_us]
      · rw [pk_un e, pk_un e]; exact h j hj e
  | i + 1, fuel + 1, fuel2 + 1, pc, pr, hi, h1, h2, h => by
    have hpi := h i (by omega) (by omega)
    rw [fX9_insertPair_L2, fX10_laysPairs_L60, if_neg (nI_nle (by omega) (by omega)), if_neg (nI_nle (by omega) (by omega)), nI_pred, vb_nI (show i < 45 by omega) (by decide), og_s, og_s, og_s, og_s, nI_clamp (by omega), hpi]
    by_cases hle : pr i ≤ a2
    · refine ⟨upd pc (i + 1) a2, upd pr (i + 1) a2, ?_, ?_, fun j hj => ?_⟩
      · rw [if_pos hle, fX9_insertPair_L38, vb_nI (by omega) (by decide), og_s, ol_s, nI_clamp (by omega)]
      · rw [if_pos hle, fX10_laysPairs_L101, vb_nI (by omega) (by decide), og_s, ol_s, ol_s, nI_clamp (by omega)]
      · by_cases e : j = i + 1
        · subst e; rw [pk_us, pk_us]
        · rw [pk_un e, pk_un e]; exact h j hj e
    · rw [if_neg hle, if_neg hle, vb_nI (show i + 1 < 45 by omega) (by decide), og_s, og_s, ol_s, ol_s, ol_s, ol_s, pk_m1, nI_clamp (by omega)]
      exact p_ins hf i fuel fuel2 (upd pc (i + 1) (pr i)) (upd pr (i + 1) (pr i)) (by omega) (by omega) (by omega) (fun j hj hne => by
        by_cases e : j = i + 1
        · subst e; rw [pk_us, pk_us]
        · rw [pk_un e, pk_un e]; exact h j hj e)
  | i, 0, fuel2, pc, pr, _, h1, _, _ => absurd h1 (Nat.not_lt_zero i)
  | i, fuel + 1, 0, pc, pr, _, _, h2, _ => absurd h2 (Nat.not_lt_zero i)
def touL (t : Nat → Nat → Nat) (Wd : Nat → Nat → Nat) (th c d : Nat) : Bool := touB (lfL t Wd c) (lfL t Wd d) th
theorem touL_f {t : Nat → Nat → Nat} {Wd : Nat → Nat → Nat} {th c d : Nat} (ht : Tok t) (hc : c < t 0 0) (h : fstR (tqB (lfL t Wd c) (lfL t Wd d) th) 0 48 = none) : touL t Wd th c d = false := by
  cases hb : touL t Wd th c d with
  | false => rfl
  | true =>
    obtain ⟨q, hq⟩ := touB_q.mp hb
    have := fstR_none 48 0 h q (by omega) (by have := tqB_lt (lfL_bd ht hc) hq; omega)
    rw [this] at hq; cases hq
theorem touL_t {t : Nat → Nat → Nat} {Wd : Nat → Nat → Nat} {th c d z : Nat} (h : fstR (tqB (lfL t Wd c) (lfL t Wd d) th) 0 48 = some z) : touL t Wd th c d = true := touB_q.mpr ⟨z, (fstR_some 48 0 z h).1.2.2⟩
theorem p_gp_in {F c R : Nat} {t : Nat → Nat → Nat} {Wd : Nat → Nat → Nat} {hs v lit sc sm all pm pf : Nat → Int32} {kc : Int32 → Int32 → (Nat → Int32) → Option (Int32 × (Nat → Int32))} {km : Int32 → Int32 → (Nat → Int32) → (Nat → Int32) → Option (Int32 × (Nat → Int32) × (Nat → Int32))} (ht : Tok t) (H : liOk t Wd (t 7) hs v lit sc sm) (hM : tM t all 0) (hR : ∀ c, c < t 0 0 → frow pm pf c (lfL t Wd c)) (hc : c < t 0 0) (hF : 60 < F) :
    ∀ (k d fuel fuel2 f : Nat) (pc pr tc : Nat → Int32), d + k = t 0 0 → k < fuel → k < fuel2 → f + k + R ≤ 45 → (∀ j, j < f → pc j = pr j) → ∃ f' pc' pr' tc', fX9_gatherPairs_L19 F (nI (t 0 0)) (nI (t 3 0)) lit sc sm hs v kc fuel (nI f) (nI c) (nI d) pc = kc (nI f') (nI (c + 1)) pc' ∧ fX10_laysPairs_L18 F all pm pf km fuel2 (nI f) (nI c) (nI d) pr tc = km (nI f') (nI (c + 1)) pr' tc' ∧ (∀ j, j < f' → pc' j = pr' j) ∧ f' + R ≤ 45 ∧ f' = f + sumR (fun d => if touL t Wd (t 3 0) c d then 1 else 0) d k
  | 0, d, fuel + 1, fuel2 + 1, f, pc, pr, tc, h, _, _, hb, ha => by
    have hn := ht.1
    have e : all (0 : Int32).toNatClampNeg = nI (t 0 0) := hM.1 0 (by decide)
    refine ⟨f, pc, pr, tc, ?_, ?_, ha, by omega, rfl⟩
    · rw [fX9_gatherPairs_L19, show d = t 0 0 by omega, if_pos (nI_le (Nat.le_refl _) (by omega)), ol_s, nI_1]
    · rw [fX10_laysPairs_L18, e, show d = t 0 0 by omega, if_pos (nI_le (Nat.le_refl _) (by omega)), ol_s, nI_1]
  | k + 1, d, fuel + 1, fuel2 + 1, f, pc, pr, tc, h, h1, h2, hb, ha => by
    have hn := ht.1
    have hth := ht.thick
    have hd : d < t 0 0 := by omega
    have e : all (0 : Int32).toNatClampNeg = nI (t 0 0) := hM.1 0 (by decide)
    have h3 : all 3 = nI (t 3 0) := hM.1 3 (by decide)
    obtain ⟨tc1, g1, g2⟩ := p_quarters (F := F) (tc := tc) h3 (by omega) (by omega) (hR c hc) (hR d hd) (lfL_bd ht hc) (lfL_bd ht hd) (by omega) (by omega)
    obtain ⟨N, n1, n2, n3⟩ := p_tQ (F := F) ht H hc hd hth.1 hth.2 hF
    rw [fX9_gatherPairs_L19, fX10_laysPairs_L18, e, if_neg (nI_ge hd (by omega)), if_neg (nI_ge hd (by omega)), n2, ob_s, g1, ob_s]
    unfold fX9_gatherPairs_L78
    have hle := sumR_le (f := fun q => if tqB (lfL t Wd c) (lfL t Wd d) (t 3 0) q then 1 else 0) (M := 1) 48 0 (fun j _ _ => by show (if _ then 1 else 0) ≤ 1; split <;> omega)
    rcases bits_1 (F := F) n1 n3 (fun j hj => tqB_lt (lfL_bd ht hc) hj) with ⟨b1, b2, b3⟩ | ⟨b1, z, hz, b2, b3, b4⟩
    · have hto := touL_f ht hc b2
      obtain ⟨f', pc', pr', tc', i1, i2, i3, i4, i5⟩ := p_gp_in (F := F) (kc := kc) (km := km) (R := R) ht H hM hR hc hF k (d + 1) fuel fuel2 f pc pr tc1 (by omega) (by omega) (by omega) (by omega) ha
      refine ⟨f', pc', pr', tc', ?_, ?_, i3, i4, ?_⟩
      · rw [if_pos b1, ol_s, nI_1]; exact i1
      · rw [b3]
        show (if nI 0 = 0 then _ else _) = _
        rw [if_pos nI_0, fX10_laysPairs_L113, ol_s, nI_1]; exact i2
      · rw [sumR_s, hto, i5]; simp
    · have hto := touL_t (t := t) (Wd := Wd) b2
      obtain ⟨pc1, pr1, j1, j2, j3⟩ := p_ins (F := F) (f := f) (a1 := nI f) (a2 := ((1000 : Int32) * nI z + (20 : Int32) * nI c) + nI d) (x1 := nI f) (x2 := nI c) (x3 := nI d) (all := all) (pm := pm) (pf := pf) (tc := tc1) (k4 := km) (k18 := fun x1 x2 x3 v_pairs v_touches => fX10_laysPairs_L18 F all pm pf km fuel2 x1 x2 x3 v_pairs v_touches) (by omega) f F F pc pr (Nat.le_refl _) (by omega) (by omega) (fun j hj hne => ha j (by omega))
      obtain ⟨f', pc', pr', tc', i1, i2, i3, i4, i5⟩ := p_gp_in (F := F) (kc := kc) (km := km) (R := R) ht H hM hR hc hF k (d + 1) fuel fuel2 (f + 1) pc1 pr1 tc1 (by omega) (by omega) (by omega) (by omega) (fun j hj => j3 j (by omega))
      refine ⟨f', pc', pr', tc', ?_, ?_, i3, i4, ?_⟩
      · rw [if_neg b1, if_neg (show ¬ (45 : Int32) ≤ nI f from nI_ge (a := f) (b := 45) (by omega) (by decide)), b3, ob_s, fX9_insertPair, j1, ob_s, ol_s, ol_s, nI_1, nI_1]; exact i1
      · show (if nI (sumR (fun q => if tqB (lfL t Wd c) (lfL t Wd d) (t 3 0) q then 1 else 0) 0 48) = 0 then _ else _) = _
        rw [if_neg (nI_ne0 b4 (by omega)), p_firstTouch g2 (by omega), ob_s, b2, encW_s, ol_s]
        refine j2.trans ?_
        rw [fX10_laysPairs_L113, ol_s, nI_1, nI_1]; exact i2
      · rw [sumR_s, hto, i5]; simp only [if_true]; omega
  | k, d, 0, fuel2, f, pc, pr, tc, _, h1, _, _, _ => absurd h1 (Nat.not_lt_zero k)
  | k, d, fuel + 1, 0, f, pc, pr, tc, _, _, h2, _, _ => absurd h2 (Nat.not_lt_zero k)
/-- how many pairs touch -/
def pairN (t : Nat → Nat → Nat) (Wd : Nat → Nat → Nat) (c k : Nat) : Nat := sumR (fun c => sumR (fun d => if touL t Wd (t 3 0) c d then 1 else 0) (c + 1) (t 0 0 - 1 - c)) c k
theorem p_gp_out {F : Nat} {t : Nat → Nat → Nat} {Wd : Nat → Nat → Nat} {hs v lit sc sm all pm pf : Nat → Int32} (ht : Tok t) (H : liOk t Wd (t 7) hs v lit sc sm) (hM : tM t all 0) (hR : ∀ c, c < t 0 0 → frow pm pf c (lfL t Wd c)) (hF : 60 < F) :
    ∀ (k c fuel fuel2 f : Nat) (pc pr tc : Nat → Int32), c + k = t 0 0 → k < fuel → k < fuel2 → f + sumR (fun c => t 0 0 - 1 - c) c k ≤ 45 → (∀ j, j < f → pc j = pr j) → ∃ f' pc' pr' tc', fX9_gatherPairs_L4 F (nI (t 0 0)) (nI (t 3 0)) lit sc sm hs v fuel (nI f) (nI c) pc = some (nI f', pc') ∧ fX10_laysPairs_L4 F all pm pf fuel2 (nI f) (nI c) pr tc = some (nI f', pr', tc') ∧ (∀ j, j < f' → pc' j = pr' j) ∧ f' ≤ 45 ∧ f' = f + pairN t Wd c k
  | 0, c, fuel + 1, fuel2 + 1, f, pc, pr, tc, h, _, _, hb, ha => by
    have hn := ht.1
    have e : all (0 : Int32).toNatClampNeg = nI (t 0 0) := hM.1 0 (by decide)
    refine ⟨f, pc, pr, tc, ?_, ?_, ha, by omega, rfl⟩
    · rw [fX9_gatherPairs_L4, show c = t 0 0 by omega, if_pos (nI_le (Nat.le_refl _) (by omega))]
    · rw [fX10_laysPairs_L4, e, show c = t 0 0 by omega, if_pos (nI_le (Nat.le_refl _) (by omega))]
  | k + 1, c, fuel + 1, fuel2 + 1, f, pc, pr, tc, h, h1, h2, hb, ha => by
    have hn := ht.1
    have hc : c < t 0 0 := by omega
    have e : all (0 : Int32).toNatClampNeg = nI (t 0 0) := hM.1 0 (by decide)
    rw [sumR_s] at hb
    obtain ⟨f1, pc1, pr1, tc1, i1, i2, i3, i4, i5⟩ := p_gp_in (F := F) (R := sumR (fun c => t 0 0 - 1 - c) (c + 1) k) (kc := fun x1 x2 v_pairCodes => fX9_gatherPairs_L4 F (nI (t 0 0)) (nI (t 3 0)) lit sc sm hs v fuel x1 x2 v_pairCodes) (km := fun x1 x2 v_pairs v_touches => fX10_laysPairs_L4 F all pm pf fuel2 x1 x2 v_pairs v_touches) ht H hM hR hc hF (t 0 0 - 1 - c) (c + 1) F F f pc pr tc (by omega) (by omega) (by omega) (by omega) ha
    obtain ⟨f', pc', pr', tc', j1, j2, j3, j4, j5⟩ := p_gp_out (F := F) ht H hM hR hF k (c + 1) fuel fuel2 f1 pc1 pr1 tc1 (by omega) (by omega) (by omega) i4 i3
    refine ⟨f', pc', pr', tc', ?_, ?_, j3, j4, ?_⟩
    · rw [fX9_gatherPairs_L4, if_neg (nI_ge hc (by omega)), ol_s, nI_1]; exact i1.trans j1
    · rw [fX10_laysPairs_L4, e, if_neg (nI_ge hc (by omega)), ol_s, nI_1]; exact i2.trans j2
    · unfold pairN at j5 ⊢
      rw [j5, i5, sumR_s]; omega
  | k, d, 0, fuel2, f, pc, pr, tc, _, h1, _, _, _ => absurd h1 (Nat.not_lt_zero k)
  | k, d, fuel + 1, 0, f, pc, pr, tc, _, _, h2, _, _ => absurd h2 (Nat.not_lt_zero k)
theorem pair45 : ∀ n, n < 11 → sumR (fun c => n - 1 - c) 0 n ≤ 45 := by decide +kernel
theorem p_gp {F : Nat} {t : Nat → Nat → Nat} {Wd : Nat → Nat → Nat} {hs v lit sc sm all pm pf pc pr tc : Nat → Int32} (ht : Tok t) (H : liOk t Wd (t 7) hs v lit sc sm) (hM : tM t all 0) (hR : ∀ c, c < t 0 0 → frow pm pf c (lfL t Wd c)) (hF : 60 < F) : ∃ f' pc' pr' tc', fX9_gatherPairs F (nI (t 0 0)) (nI (t 3 0)) pc lit sc sm hs v = some (nI f', pc') ∧ fX10_laysPairs F all pr pm pf tc = some (nI f', pr', tc') ∧ (∀ j, j < f' → pc' j = pr' j) ∧ f' ≤ 45 ∧ f' = pairN t Wd 0 (t 0 0) := by
  have hn := ht.1
  obtain ⟨f', pc', pr', tc', j1, j2, j3, j4, j5⟩ := p_gp_out (F := F) ht H hM hR hF (t 0 0) 0 F F 0 pc pr tc (by omega) (by omega) (by omega) (by rw [Nat.zero_add]; exact pair45 _ (by omega)) (fun j hj => by omega)
  exact ⟨f', pc', pr', tc', j1, j2, j3, j4, by omega⟩
theorem s_pair {F : Nat} {t : Nat → Nat → Nat} {hs v lit sc sm all his los pm pf pc pr tc : Nat → Int32} {thr : Int32} (a1 : Int32) (ht : Tok t) (hP : plOk t hs v lit sc sm) (hM : tM t all 0) (hF : 60 < F) :
    ∃ r pc' his' los' pr' pm' pf' tc', fX9_pair F (nI (t 0 0)) (nI (t 3 0)) pc lit sc sm hs v a1 = some (r, pc') ∧ fX10_pair F thr all his los pr pm pf tc a1 = some (r, 0, his', los', pr', pm', pf', tc') := by
  obtain ⟨his', los', pm', pf', f1, -, -, f4⟩ := p_laysNow (F := F) (his := his) (los := los) (pm := pm) (pf := pf) ht hM (by omega)
  obtain ⟨f, pc', pr', tc', g1, g2, g3, g4, -⟩ := p_gp (F := F) (pc := pc) (pr := pr) (tc := tc) ht (li_of ht hP) hM f4 hF
  unfold fX9_pair fX10_pair
  rw [g1, ob_s, f1, ob_s]
  show ∃ r pc' his' los' pr' pm' pf' tc', _ ∧ ob (fX10_laysPairs F all pr _ _ tc) _ = _
  simp only [g2, ob_s]
  by_cases h : a1 = -1
  · exact ⟨nI f, pc', his', los', pr', pm', pf', tc', by rw [if_pos h], by rw [if_pos h]⟩
  · rw [if_neg h, if_neg h, p_wm (by omega), ob_s]
    cases hv : vb a1 f with
    | false =>
      refine ⟨-1, pc', his', los', pr', pm', pf', tc', ?_, by rw [bI_0 rfl, if_pos rfl]⟩
      rcases vb_no (by omega) hv with q | q
      · rw [if_pos q]
      · by_cases h0 : a1 < 0
        · rw [if_pos h0]
        · rw [if_neg h0, if_pos q]
    | true =>
      obtain ⟨j, hj, rfl⟩ := vb_of (by omega) hv
      refine ⟨pr' j, pc', his', los', pr', pm', pf', tc', ?_, ?_⟩
      · rw [if_neg (nI_pos (by omega)), if_neg (nI_ge hj (by omega)), vb_nI (by omega) (by decide), og_s, nI_clamp (by omega), g3 j hj]
      · rw [bI_1 rfl, if_neg one0, vb_nI (by omega) (by decide), og_s, nI_clamp (by omega)]
