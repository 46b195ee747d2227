/-! promise 28, and who touches by the class' closeness -/
theorem p_th_in {F c : Nat} {t : Nat → Nat → Nat} {Wd : Nat → Nat → Nat} {hs v lit sc sm : Nat → Int32} {k4 : Int32 → Int32 → Option Int32} (ht : Tok t) (H : liOk t Wd (t 7) hs v lit sc sm) (hc : c < t 0 0) (hF : 60 < F) :
    ∀ (k d fuel x : Nat), d + k = t 0 0 → k < fuel → x ≤ 9 → ∃ x', x' ≤ 9 ∧ fX9_thickness_L19 F (nI (t 0 0)) lit sc sm hs v k4 fuel (nI x) (nI c) (nI d) = k4 (nI x') (nI (c + 1)) ∧ ∀ th, 1 ≤ th → (th ≤ x' ↔ th ≤ x ∨ anyR (fun d => touL t Wd th c d) d k = true)
  | 0, d, fuel + 1, x, h, _, hx => by
    have hn := ht.1
    refine ⟨x, hx, ?_, fun th _ => ⟨Or.inl, fun q => q.elim id (fun z => by cases z)⟩⟩
    rw [fX9_thickness_L19, show d = t 0 0 by omega, if_pos (nI_le (Nat.le_refl _) (by omega)), ol_s, nI_1]
  | k + 1, d, fuel + 1, x, h, hf, hx => by
    have hn := ht.1
    have hd : d < t 0 0 := by omega
    obtain ⟨y, y9, e1, e2⟩ := p_close (F := F) ht H hc hd hF
    obtain ⟨x', x9, f1, f2⟩ := p_th_in (F := F) (k4 := k4) ht H hc hF k (d + 1) fuel (max x y) (by omega) (by omega) (by omega)
    have hm : (if nI x < nI y then nI y else nI x) = nI (max x y) := by
      by_cases hlt : x < y
      · rw [if_pos (nI_lt hlt (by omega)), Nat.max_eq_right (by omega)]
      · rw [if_neg (nI_nlt (by omega) (by omega)), Nat.max_eq_left (by omega)]
    refine ⟨x', x9, ?_, fun th hth => (f2 th hth).trans ?_⟩
    · rw [fX9_thickness_L19, if_neg (nI_ge hd (by omega)), e1, ob_s, hm, ol_s, ol_s, nI_1]; exact f1
    · rw [anyR_s, Bool.or_eq_true, ← e2 th hth]
      constructor
      · rintro (z | z)
        · by_cases hx1 : th ≤ x
          · exact Or.inl hx1
          · exact Or.inr (Or.inl (by omega))
        · exact Or.inr (Or.inr z)
      · rintro (z | z | z)
        · exact Or.inl (by omega)
        · exact Or.inl (by omega)
        · exact Or.inr z
  | k, d, 0, x, _, hf, _ => absurd hf (Nat.not_lt_zero k)
theorem p_th_out {F : Nat} {t : Nat → Nat → Nat} {Wd : Nat → Nat → Nat} {hs v lit sc sm : Nat → Int32} (ht : Tok t) (H : liOk t Wd (t 7) hs v lit sc sm) (hF : 60 < F) :
    ∀ (k c fuel x : Nat), c + k = t 0 0 → k < fuel → x ≤ 9 → ∃ x', x' ≤ 9 ∧ fX9_thickness_L4 F (nI (t 0 0)) lit sc sm hs v fuel (nI x) (nI c) = some (nI (x' + 1)) ∧ ∀ th, 1 ≤ th → (th ≤ x' ↔ th ≤ x ∨ anyP t Wd th c k = true)
  | 0, c, fuel + 1, x, h, _, hx => by
    have hn := ht.1
    refine ⟨x, hx, ?_, fun th _ => ⟨Or.inl, fun q => q.elim id (fun z => by cases z)⟩⟩
    rw [fX9_thickness_L4, show c = t 0 0 by omega, if_pos (nI_le (Nat.le_refl _) (by omega)), nI_1]
  | k + 1, c, fuel + 1, x, h, hf, hx => by
    have hn := ht.1
    have hc : c < t 0 0 := by omega
    obtain ⟨x1, x19, f1, f2⟩ := p_th_in (F := F) (k4 := fun x1 x2 => fX9_thickness_L4 F (nI (t 0 0)) lit sc sm hs v fuel x1 x2) ht H hc hF (t 0 0 - 1 - c) (c + 1) F x (by omega) (by omega) hx
    obtain ⟨x', x9, g1, g2⟩ := p_th_out (F := F) ht H hF k (c + 1) fuel x1 (by omega) (by omega) x19
    refine ⟨x', x9, ?_, fun th hth => (g2 th hth).trans ?_⟩
    · rw [fX9_thickness_L4, if_neg (nI_ge hc (by omega)), ol_s, nI_1]; exact f1.trans g1
    · have hs : anyP t Wd th c (k + 1) = (anyR (fun d => touL t Wd th c d) (c + 1) (t 0 0 - 1 - c) || anyP t Wd th (c + 1) k) := rfl
      rw [hs, Bool.or_eq_true, f2 th hth, or_assoc]
  | k, c, 0, x, _, hf, _ => absurd hf (Nat.not_lt_zero k)
theorem p_thM {F X : Nat} {t : Nat → Nat → Nat} {Wd : Nat → Nat → Nat} {all his los pm pf : Nat → Int32} {thr : Int32} (ht : Tok t) (hM : tM t all 0) (hR : ∀ c, c < t 0 0 → frow pm pf c (lfL t Wd c)) (hX : X ≤ 9) (hany : ∀ th, 1 ≤ th → (th ≤ X ↔ anyT t Wd th 0 (t 0 0) = true)) (hF : 60 < F) :
    ∀ (k n fuel : Nat), n + k = X + 1 → k < fuel → 1 ≤ n → fX10_thickness_L11 F all fuel (nI n) thr his los pm pf = some (nI (X + 1), thr, his, los, pm, pf)
  | 0, n, fuel + 1, h, _, h1 => by
    have hz : anyT t Wd n 0 (t 0 0) = false := by
      cases hb : anyT t Wd n 0 (t 0 0) with
      | false => rfl
      | true => have := (hany n h1).mpr hb; omega
    rw [fX10_thickness_L11, p_anyTouch ht hM hR (by omega) hF, ob_s, hz, bI_0 rfl, if_pos rfl, show n = X + 1 by omega]
  | k + 1, n, fuel + 1, h, hf, h1 => by
    have hz : anyT t Wd n 0 (t 0 0) = true := (hany n h1).mp (by omega)
    rw [fX10_thickness_L11, p_anyTouch ht hM hR (by omega) hF, ob_s, hz, bI_1 rfl, if_neg one0, ol_s, nI_1]
    exact p_thM ht hM hR hX hany hF k (n + 1) fuel (by omega) (by omega) (by omega)
  | k, n, 0, _, hf, _ => absurd hf (Nat.not_lt_zero k)
theorem s_thickness {F : Nat} {t : Nat → Nat → Nat} {hs v lit sc sm all his los pm pf : Nat → Int32} {thr : Int32} (ht : Tok t) (hP : plOk t hs v lit sc sm) (hM : tM t all 0) (hF : 60 < F) :
    ∃ r his' los' pm' pf', fX9_thickness F (nI (t 0 0)) lit sc sm hs v = some r ∧ fX10_thickness F thr all his los pm pf = some (r, 0, his', los', pm', pf') := by
  have hn := ht.1
  obtain ⟨his', los', pm', pf', f1, -, -, f4⟩ := p_laysNow (F := F) (his := his) (los := los) (pm := pm) (pf := pf) ht hM (by omega)
  obtain ⟨X, hX, g1, g2⟩ := p_th_out (F := F) ht (li_of ht hP) hF (t 0 0) 0 F 0 (by omega) (by omega) (by omega)
  refine ⟨nI (X + 1), his', los', pm', pf', g1, ?_⟩
  unfold fX10_thickness
  rw [f1, ob_s]
  exact p_thM ht hM f4 hX (fun th hth => by
    rw [g2 th hth, anyP_T ht hth]
    exact ⟨fun z => z.elim (fun y => by omega) id, Or.inr⟩) hF X 1 F (by omega) (by omega) (by omega)
theorem p_so_in {F c : Nat} {t : Nat → Nat → Nat} {Wd : Nat → Nat → Nat} {hs v lit sc sm : Nat → Int32} {k2 : Int32 → Option Int32} (ht : Tok t) (H : liOk t Wd (t 7) hs v lit sc sm) (hc : c < t 0 0) (hF : 60 < F) :
    ∀ (k d fuel : Nat), d + k = t 0 0 → k < fuel → fX4_someTouch_L17 F hs (nI (t 0 0)) (nI (t 3 0)) v lit sc sm k2 fuel (nI c) (nI d) = if anyR (fun d => touL t Wd (t 3 0) c d) d k then some 1 else k2 (nI (c + 1))
  | 0, d, fuel + 1, h, _ => by
    have hn := ht.1
    rw [fX4_someTouch_L17, show d = t 0 0 by omega, if_pos (nI_le (Nat.le_refl _) (by omega)), ol_s, nI_1]; rfl
  | k + 1, d, fuel + 1, h, hf => by
    have hn := ht.1
    have hth := ht.thick
    have hd : d < t 0 0 := by omega
    obtain ⟨y, y9, e1, e2⟩ := p_close (F := F) ht H hc hd hF
    have ih := p_so_in (F := F) (k2 := k2) ht H hc hF k (d + 1) fuel (by omega) (by omega)
    rw [fX4_someTouch_L17, if_neg (nI_ge hd (by omega)), e1, ob_s, anyR_s]
    by_cases hy : t 3 0 ≤ y
    · rw [if_neg (nI_nlt hy (by omega)), (e2 _ hth.1).mp hy]; simp
    · have : touL t Wd (t 3 0) c d = false := by
        cases hb : touL t Wd (t 3 0) c d with
        | false => rfl
        | true => exact absurd ((e2 _ hth.1).mpr hb) hy
      rw [if_pos (nI_lt (by omega) (by omega)), ol_s, nI_1, this, Bool.false_or]; exact ih
  | k, d, 0, _, hf => absurd hf (Nat.not_lt_zero k)
theorem p_so_out {F : Nat} {t : Nat → Nat → Nat} {Wd : Nat → Nat → Nat} {hs v lit sc sm : Nat → Int32} (ht : Tok t) (H : liOk t Wd (t 7) hs v lit sc sm) (hF : 60 < F) :
    ∀ (k c fuel : Nat), c + k = t 0 0 → k < fuel → fX4_someTouch_L2 F hs (nI (t 0 0)) (nI (t 3 0)) v lit sc sm fuel (nI c) = some (bI (anyP t Wd (t 3 0) c k))
  | 0, c, fuel + 1, h, _ => by
    have hn := ht.1
    rw [fX4_someTouch_L2, show c = t 0 0 by omega, if_pos (nI_le (Nat.le_refl _) (by omega))]; rfl
  | k + 1, c, fuel + 1, h, hf => by
    have hn := ht.1
    have hc : c < t 0 0 := by omega
    have hin := p_so_in (F := F) (k2 := fun x1 => fX4_someTouch_L2 F hs (nI (t 0 0)) (nI (t 3 0)) v lit sc sm fuel x1) ht H hc hF (t 0 0 - 1 - c) (c + 1) F (by omega) (by omega)
    have hs : anyP t Wd (t 3 0) c (k + 1) = (anyR (fun d => touL t Wd (t 3 0) c d) (c + 1) (t 0 0 - 1 - c) || anyP t Wd (t 3 0) (c + 1) k) := rfl
    rw [fX4_someTouch_L2, if_neg (nI_ge hc (by omega)), ol_s, nI_1, hs]
    refine hin.trans ?_
    cases hb : anyR (fun d => touL t Wd (t 3 0) c d) (c + 1) (t 0 0 - 1 - c) with
    | true => rfl
    | false => rw [Bool.false_or]; exact p_so_out ht H hF k (c + 1) fuel (by omega) (by omega)
  | k, c, 0, _, hf => absurd hf (Nat.not_lt_zero k)
theorem p_someTouch {F : Nat} {t : Nat → Nat → Nat} {Wd : Nat → Nat → Nat} {hs v lit sc sm : Nat → Int32} (ht : Tok t) (H : liOk t Wd (t 7) hs v lit sc sm) (hF : 60 < F) : fX4_someTouch F hs (nI (t 0 0)) (nI (t 3 0)) v lit sc sm = some (bI (anyT t Wd (t 3 0) 0 (t 0 0))) := by
  have hn := ht.1
  rw [← anyP_T ht ht.thick.1]
  exact p_so_out ht H hF (t 0 0) 0 F (by omega) (by omega)
theorem p_tp_in {F c : Nat} {t : Nat → Nat → Nat} {Wd : Nat → Nat → Nat} {hs v lit sc sm : Nat → Int32} {k4 : Int32 → Int32 → Option Int32} (ht : Tok t) (H : liOk t Wd (t 7) hs v lit sc sm) (hc : c < t 0 0) (hF : 60 < F) :
    ∀ (k d fuel x : Nat), d + k = t 0 0 → k < fuel → fX4_touchingPairs_L19 F hs (nI (t 0 0)) (nI (t 3 0)) v lit sc sm k4 fuel (nI x) (nI c) (nI d) = k4 (nI (x + sumR (fun d => if touL t Wd (t 3 0) c d then 1 else 0) d k)) (nI (c + 1))
  | 0, d, fuel + 1, x, h, _ => by
    have hn := ht.1
    rw [fX4_touchingPairs_L19, show d = t 0 0 by omega, if_pos (nI_le (Nat.le_refl _) (by omega)), ol_s, nI_1]; rfl
  | k + 1, d, fuel + 1, x, h, hf => by
    have hn := ht.1
    have hth := ht.thick
    have hd : d < t 0 0 := by omega
    obtain ⟨y, y9, e1, e2⟩ := p_close (F := F) ht H hc hd hF
    have ih := fun x => p_tp_in (F := F) (k4 := k4) ht H hc hF k (d + 1) fuel x (by omega) (by omega)
    rw [fX4_touchingPairs_L19, if_neg (nI_ge hd (by omega)), e1, ob_s, sumR_s]
    unfold fX4_touchingPairs_L49
    simp only [ol_s, nI_1]
    by_cases hy : t 3 0 ≤ y
    · rw [if_neg (nI_nlt hy (by omega)), (e2 _ hth.1).mp hy, ih, if_pos rfl, Nat.add_assoc]
    · have : touL t Wd (t 3 0) c d = false := by
        cases hb : touL t Wd (t 3 0) c d with
        | false => rfl
        | true => exact absurd ((e2 _ hth.1).mpr hb) hy
      rw [if_pos (nI_lt (by omega) (by omega)), this, ih]; simp
  | k, d, 0, x, _, hf => absurd hf (Nat.not_lt_zero k)
theorem p_tp_out {F : Nat} {t : Nat → Nat → Nat} {Wd : Nat → Nat → Nat} {hs v lit sc sm : Nat → Int32} (ht : Tok t) (H : liOk t Wd (t 7) hs v lit sc sm) (hF : 60 < F) :
    ∀ (k c fuel x : Nat), c + k = t 0 0 → k < fuel → fX4_touchingPairs_L4 F hs (nI (t 0 0)) (nI (t 3 0)) v lit sc sm fuel (nI x) (nI c) = some (nI (x + pairN t Wd c k))
  | 0, c, fuel + 1, x, h, _ => by
    have hn := ht.1
    rw [fX4_touchingPairs_L4, show c = t 0 0 by omega, if_pos (nI_le (Nat.le_refl _) (by omega))]; rfl
  | k + 1, c, fuel + 1, x, h, hf => by
    have hn := ht.1
    have hc : c < t 0 0 := by omega
    have hin := p_tp_in (F := F) (k4 := fun x1 x2 => fX4_touchingPairs_L4 F hs (nI (t 0 0)) (nI (t 3 0)) v lit sc sm fuel x1 x2) ht H hc hF (t 0 0 - 1 - c) (c + 1) F x (by omega) (by omega)
    have hs : pairN t Wd c (k + 1) = sumR (fun d => if touL t Wd (t 3 0) c d then 1 else 0) (c + 1) (t 0 0 - 1 - c) + pairN t Wd (c + 1) k := rfl
    rw [fX4_touchingPairs_L4, if_neg (nI_ge hc (by omega)), ol_s, nI_1, hs, ← Nat.add_assoc]
    exact hin.trans (p_tp_out ht H hF k (c + 1) fuel _ (by omega) (by omega))
  | k, c, 0, x, _, hf => absurd hf (Nat.not_lt_zero k)
theorem p_touchingPairs {F : Nat} {t : Nat → Nat → Nat} {Wd : Nat → Nat → Nat} {hs v lit sc sm : Nat → Int32} (ht : Tok t) (H : liOk t Wd (t 7) hs v lit sc sm) (hF : 60 < F) : fX4_touchingPairs F hs (nI (t 0 0)) (nI (t 3 0)) v lit sc sm = some (nI (pairN t Wd 0 (t 0 0))) := by
  have hn := ht.1
  have h := p_tp_out (F := F) ht H hF (t 0 0) 0 F 0 (by omega) (by omega)
  rw [Nat.zero_add] at h
  exact h
theorem p_touchesSome_L {F c : Nat} {t : Nat → Nat → Nat} {Wd : Nat → Nat → Nat} {up : Nat → Nat} {hs v lit sc sm : Nat → Int32} (ht : Tok t) (H : liOk t Wd (fun c => t 7 c + up c) hs v lit sc sm) (hu : ∀ c, up c ≤ 12) (hc : c < t 0 0) (hl : t 11 c ≠ 0) (hF : 60 < F) :
    ∀ (k d fuel : Nat), d + k = t 0 0 → k < fuel → fX4_touchesSome_L2 F hs (nI (t 0 0)) (nI (t 3 0)) v lit sc sm (nI c) fuel (nI d) = some (bI (anyR (fun d => decide (d ≠ c) && (decide (t 11 d ≠ 0) && touB (fireL t Wd (up c) c (t 11 c - 1)) (fireL t Wd (up d) d (t 11 d - 1)) (t 3 0))) d k))
  | 0, d, fuel + 1, h, _ => by
    have hn := ht.1
    rw [fX4_touchesSome_L2, show d = t 0 0 by omega, if_pos (nI_le (Nat.le_refl _) (by omega))]; rfl
  | k + 1, d, fuel + 1, h, hf => by
    have hn := ht.1
    have hth := ht.thick
    have hd : d < t 0 0 := by omega
    obtain ⟨y, y9, e1, e2⟩ := p_closeU (F := F) ht H hu hc hd hF
    have ih := p_touchesSome_L (F := F) ht H hu hc hl hF k (d + 1) fuel (by omega) (by omega)
    rw [fX4_touchesSome_L2, if_neg (nI_ge hd (by omega)), anyR_s]
    unfold fX4_touchesSome_L36
    simp only [ol_s, nI_1]
    by_cases e : d = c
    · rw [if_pos (by rw [e]), ih]; simp [e]
    · have hde : decide (d ≠ c) = true := by simp [e]
      rw [if_neg (nI_ne (by omega) (by omega) e), e1, ob_s, hde, Bool.true_and]
      by_cases hy : t 3 0 ≤ y
      · obtain ⟨-, g2, g3⟩ := (e2 _ hth.1).mp hy
        have : decide (t 11 d ≠ 0) = true := by simp [g2]
        rw [if_neg (nI_nlt hy (by omega)), g3, this]; simp [bI]
      · have : (decide (t 11 d ≠ 0) && touB (fireL t Wd (up c) c (t 11 c - 1)) (fireL t Wd (up d) d (t 11 d - 1)) (t 3 0)) = false := by
          cases hb : (decide (t 11 d ≠ 0) && touB (fireL t Wd (up c) c (t 11 c - 1)) (fireL t Wd (up d) d (t 11 d - 1)) (t 3 0)) with
          | false => rfl
          | true =>
            rw [Bool.and_eq_true, decide_eq_true_eq] at hb
            exact absurd ((e2 _ hth.1).mpr ⟨hl, hb.1, hb.2⟩) hy
        rw [if_pos (nI_lt (by omega) (by omega)), ih, this, Bool.false_or]
  | k, d, 0, _, hf => absurd hf (Nat.not_lt_zero k)
