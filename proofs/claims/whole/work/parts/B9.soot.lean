/-! promises 18 and 19 -/
def soG (x p : Nat) : Nat := if p / 10 % 1000 / 25 = x then p % 10 else 0
theorem soG_at {j q x h th : Nat} (hx : x < 40) (hh : h < 25) (hth : th ≤ 9) : soG j (pcode q x h th) = if x = j then th else 0 := by
  unfold soG pcode
  by_cases e : x = j
  · rw [if_pos e, if_pos (by omega)]; omega
  · rw [if_neg e, if_neg (by omega)]
def rEq (row : Nat → Int32) (R : Nat → Nat) : Prop := ∀ j, j < 40 → row j = nI (R j)
/-- what the smoke of one puff from age a on gives to place j -/
def soP (ly : Nat) (Wd : Nat → Nat → Nat) (hg x0 b th : Nat) (a n j : Nat) : Nat := sumR (fun a => oG (wayX ly Wd hg x0 b a) (fun x => if x = j then th - a else 0)) a n
theorem p_as_in {F c lit k th ly hg x0 n0 : Nat} {Wd : Nat → Nat → Nat} {v sc sm : Nat → Int32} {k3 : Int32 → (Nat → Int32) → Option (Nat → Int32)} (hc : c < n0) (hn : n0 ≤ 10) (hx0 : x0 < 40) (hb : lit + k < 29) (hl : laid v ly Wd hg x0 c (lit + k)) (hth : th ≤ 9) :
    ∀ (n a fuel : Nat) (row : Nat → Int32) (R : Nat → Nat), a + n = th → n < fuel → rEq row R → ∃ row', fX4_addSoot_L25 F (nI n0) v sc sm (nI c) (nI lit) k3 fuel (nI k) (nI th) (nI a) row = k3 (nI (k + 1)) row' ∧ rEq row' (fun j => R j + soP ly Wd hg x0 (lit + k) th a n j)
  | 0, a, fuel + 1, row, R, e, _, hR => ⟨row, by rw [fX4_addSoot_L25, if_pos (nI_le (by omega) (by omega)), ol_s, nI_1], fun j hj => by rw [hR j hj]; rfl⟩
  | n + 1, a, fuel + 1, row, R, e, hf, hR => by
    rw [fX4_addSoot_L25, if_neg (nI_ge (by omega) (by omega)), nI_add, nI_add, p_xOnWay hc hn hb (by omega) (by omega), hl _ (by omega), ob_s, show lit + k + a - (lit + k) = a by omega]
    unfold fX4_addSoot_L74
    simp only [ol_s, nI_1]
    cases hw : wayX ly Wd hg x0 (lit + k) a with
    | none =>
      obtain ⟨row', e1, e2⟩ := p_as_in (F := F) (k3 := k3) (sc := sc) (sm := sm) hc hn hx0 hb hl hth n (a + 1) fuel row R (by omega) (by omega) hR
      refine ⟨row', by rw [encW_n, if_pos (show (-1 : Int32) < 0 by decide)]; exact e1, fun j hj => ?_⟩
      rw [e2 j hj]
      dsimp only
      unfold soP
      rw [sumR_s, hw, oG_n, Nat.zero_add]
    | some x =>
      have hx := wayX_lt hx0 _ hw
      obtain ⟨row', e1, e2⟩ := p_as_in (F := F) (k3 := k3) (sc := sc) (sm := sm) hc hn hx0 hb hl hth n (a + 1) fuel (upd row x (row x + nI (th - a))) (fun j => R j + (if x = j then th - a else 0)) (by omega) (by omega) (fun j hj => by
        dsimp only
        by_cases e3 : j = x
        · subst e3; rw [pk_us, hR j hj, if_pos rfl, nI_add]
        · rw [pk_un e3, hR j hj, if_neg (fun z => e3 z.symm), Nat.add_zero])
      refine ⟨row', ?_, fun j hj => ?_⟩
      · rw [encW_s, if_neg (nI_pos (by omega)), if_neg (show ¬ (40 : Int32) ≤ nI x from nI_ge (a := x) (b := 40) hx (by decide)), vb_nI hx (by decide), og_s, og_s, nI_clamp (by omega), pk_sub (by omega)]
        exact e1
      · rw [e2 j hj]
        dsimp only
        unfold soP
        rw [sumR_s, hw, oG_s, Nat.add_assoc]
  | n, a, 0, row, R, _, hf, _ => absurd hf (Nat.not_lt_zero _)
def soT (t : Nat → Nat → Nat) (Wd : Nat → Nat → Nat) (c lit j k : Nat) : Nat := if k < t 10 c then soP (t 2 0) Wd (t 7 c) (t 6 c) (lit + k) (t 12 (6 * c + k)) 0 (t 12 (6 * c + k)) j else 0
theorem p_as_out {F c lit : Nat} {t : Nat → Nat → Nat} {Wd : Nat → Nat → Nat} {v sc sm : Nat → Int32} (ht : Tok t) (hc : c < t 0 0) (hlit : lit ≤ 23) (hsc : sc c = nI (t 10 c)) (hsm : ∀ k, k < t 10 c → sm (6 * c + k) = nI (t 12 (6 * c + k))) (hl : ∀ k, k < t 10 c → laid v (t 2 0) Wd (t 7 c) (t 6 c) c (lit + k)) (hF : 60 < F) :
    ∀ (k i fuel : Nat) (row : Nat → Int32) (R : Nat → Nat), i + k = 6 → k < fuel → rEq row R → ∃ row', fX4_addSoot_L3 F (nI (t 0 0)) v sc sm (nI c) (nI lit) fuel (nI i) row = some row' ∧ rEq row' (fun j => R j + sumR (soT t Wd c lit j) i k)
  | 0, i, fuel + 1, row, R, e, _, hR => ⟨row, by rw [fX4_addSoot_L3, show i = 6 by omega, if_pos (show (6 : Int32) ≤ nI 6 from nI_le (Nat.le_refl 6) (by decide))], fun j hj => by rw [hR j hj]; rfl⟩
  | k + 1, i, fuel + 1, row, R, e, hf, hR => by
    have hn := ht.1
    obtain ⟨g0, g1, -, -, g4, -, g6⟩ := ht.2.2.2.2.2.2.1 c hc
    rw [fX4_addSoot_L3, if_neg (show ¬ (6 : Int32) ≤ nI i from nI_ge (a := i) (b := 6) (by omega) (by decide))]
    by_cases hi : i < t 10 c
    · have s9 := g6 i hi
      obtain ⟨row1, e1, e2⟩ := p_as_in (F := F) (k := i) (sc := sc) (sm := sm) (k3 := fun x4 v_p3 => fX4_addSoot_L3 F (nI (t 0 0)) v sc sm (nI c) (nI lit) fuel x4 v_p3) hc hn g0 (show lit + i < 29 by omega) (hl i hi) s9.2 (t 12 (6 * c + i)) 0 F row R (by omega) (by omega) hR
      obtain ⟨row', f1, f2⟩ := p_as_out (F := F) ht hc hlit hsc hsm hl hF k (i + 1) fuel row1 _ (by omega) (by omega) e2
      refine ⟨row', ?_, fun j hj => ?_⟩
      · rw [p_smokeOf_in ht hc hsc hi, ob_s, hsm i hi]
        exact e1.trans f1
      · rw [f2 j hj]
        dsimp only
        rw [sumR_s, ← Nat.add_assoc]
        have : soT t Wd c lit j i = soP (t 2 0) Wd (t 7 c) (t 6 c) (lit + i) (t 12 (6 * c + i)) 0 (t 12 (6 * c + i)) j := if_pos hi
        rw [this]
    · obtain ⟨row', f1, f2⟩ := p_as_out (F := F) ht hc hlit hsc hsm hl hF k (i + 1) fuel row R (by omega) (by omega) hR
      refine ⟨row', ?_, fun j hj => ?_⟩
      · rw [p_smokeOf_out ht hc hsc (Or.inr (nI_le (by omega) (by omega))), ob_s]
        obtain ⟨f, rfl⟩ : ∃ f, F = f + 1 := ⟨F - 1, by omega⟩
        rw [fX4_addSoot_L25, if_pos (Int32.le_refl 0), ol_s, nI_1]
        exact f1
      · rw [f2 j hj]
        dsimp only
        rw [sumR_s]
        have : soT t Wd c lit j i = 0 := if_neg hi
        rw [this, Nat.zero_add]
  | k, i, 0, row, R, _, hf, _ => absurd hf (Nat.not_lt_zero k)
theorem soT_sum {t : Nat → Nat → Nat} {Wd : Nat → Nat → Nat} {c lit j : Nat} (ht : Tok t) (hc : c < t 0 0) : sumR (soT t Wd c lit j) 0 6 = sumL (soG j) (fireL t Wd 0 c lit) := by
  obtain ⟨g0, g1, -, -, g4, -, g6⟩ := ht.2.2.2.2.2.2.1 c hc
  have h6 : sumR (soT t Wd c lit j) 0 (t 10 c + (6 - t 10 c)) = sumR (soT t Wd c lit j) 0 (t 10 c) := by
    rw [sumR_split, sumR_zero (f := soT t Wd c lit j) (6 - t 10 c) (0 + t 10 c) (fun k a b => if_neg (by omega)), Nat.add_zero]
  rw [show t 10 c + (6 - t 10 c) = 6 by omega] at h6
  rw [h6]
  unfold fireL
  rw [sumL_prL]
  refine sumR_congr _ _ (fun k _ hk => ?_)
  have s9 := g6 k (by omega)
  show soT t Wd c lit j k = sumL (soG j) (pfL (t 2 0) Wd (t 7 c + 0) (t 6 c) (lit + k) (t 12 (6 * c + k)) 0)
  rw [sumL_pfL, Nat.add_zero]
  unfold soT
  rw [if_pos (by omega)]
  unfold soP
  refine sumR_congr _ _ (fun a _ ha => ?_)
  cases hw : wayX (t 2 0) Wd (t 7 c) (t 6 c) (lit + k) a with
  | none => rfl
  | some x =>
    have hx := wayX_lt g0 _ hw
    have hh := wayX_h (show t 7 c < 25 by omega) _ hw
    rw [oG_s, oG_s, soG_at hx hh (by omega), Nat.add_zero]
theorem p_addSoot {F c lit : Nat} {t : Nat → Nat → Nat} {Wd : Nat → Nat → Nat} {v sc sm row : Nat → Int32} {R : Nat → Nat} (ht : Tok t) (hc : c < t 0 0) (hlit : lit ≤ 23) (hsc : sc c = nI (t 10 c)) (hsm : ∀ k, k < t 10 c → sm (6 * c + k) = nI (t 12 (6 * c + k))) (hl : ∀ k, k < t 10 c → laid v (t 2 0) Wd (t 7 c) (t 6 c) c (lit + k)) (hR : rEq row R) (hF : 60 < F) : ∃ row', fX4_addSoot F row (nI (t 0 0)) v sc sm (nI c) (nI lit) = some row' ∧ rEq row' (fun j => R j + sumL (soG j) (fireL t Wd 0 c lit)) := by
  obtain ⟨row', e1, e2⟩ := p_as_out (F := F) ht hc hlit hsc hsm hl hF 6 0 F row R (by omega) (by omega) hR
  refine ⟨row', e1, fun j hj => ?_⟩
  rw [e2 j hj]
  dsimp only
  rw [soT_sum ht hc]
def sootS (t : Nat → Nat → Nat) (j c k : Nat) : Nat := sumR (fun c => sumL (soG j) (lfL t (tW t) c)) c k
theorem p_gs_L {F : Nat} {t : Nat → Nat → Nat} {hs v lit sc sm : Nat → Int32} (ht : Tok t) (hP : plOk t hs v lit sc sm) (hF : 60 < F) :
    ∀ (k c fuel : Nat) (row : Nat → Int32) (R : Nat → Nat), c + k = t 0 0 → k < fuel → rEq row R → ∃ row', fX9_gatherSoot_L10 F (nI (t 0 0)) lit sc sm v fuel (nI c) row = some row' ∧ rEq row' (fun j => R j + sootS t j c k)
  | 0, c, fuel + 1, row, R, e, _, hR => by
    have hn := ht.1
    exact ⟨row, by rw [fX9_gatherSoot_L10, if_pos (nI_le (by omega) (by omega))], fun j hj => by rw [hR j hj]; rfl⟩
  | k + 1, c, fuel + 1, row, R, e, hf, hR => by
    have hn := ht.1
    have hc : c < t 0 0 := by omega
    have hlt := ht.lit hc
    obtain ⟨p1, p2, p3, p4⟩ := hP c hc
    have hs : ∀ j, sootS t j c (k + 1) = sumL (soG j) (lfL t (tW t) c) + sootS t j (c + 1) k := fun _ => rfl
    rw [fX9_gatherSoot_L10, if_neg (nI_ge hc (by omega)), p_isLit hc hn, ob_s, p2]
    unfold fX9_gatherSoot_L53
    simp only [ol_s, nI_1]
    by_cases hl : t 11 c = 0
    · obtain ⟨row', f1, f2⟩ := p_gs_L (F := F) ht hP hF k (c + 1) fuel row R (by omega) (by omega) hR
      refine ⟨row', by rw [if_pos ((litC_iff hlt).mpr hl), if_pos rfl]; exact f1, fun j hj => ?_⟩
      rw [f2 j hj]
      dsimp only
      rw [hs, lfL_un hl]
      show nI (R j + sootS t j (c + 1) k) = nI (R j + (0 + sootS t j (c + 1) k))
      rw [Nat.zero_add]
    · obtain ⟨lc, hlc⟩ : ∃ q, t 11 c = q + 1 := ⟨t 11 c - 1, by omega⟩
      obtain ⟨-, -, g2, g3, g4, g5, -⟩ := ht.2.2.2.2.2.2.1 c hc
      obtain ⟨row1, e1, e2⟩ := p_addSoot (F := F) (lit := lc) (Wd := tW t) ht hc (by omega) p3 p4 (fun k hk => p1.2 (lc + k) (by omega) (by omega)) hR hF
      obtain ⟨row', f1, f2⟩ := p_gs_L (F := F) ht hP hF k (c + 1) fuel row1 _ (by omega) (by omega) e2
      refine ⟨row', ?_, fun j hj => ?_⟩
      · rw [if_neg (fun z => hl ((litC_iff hlt).mp z)), if_neg one0, vb_nI (show c < 10 by omega) (by decide), og_s, nI_clamp (by omega), p2, hlc, nI_pred, e1, ob_s]
        exact f1
      · rw [f2 j hj]
        dsimp only
        rw [hs, lfL_lit hl, hlc, Nat.add_sub_cancel, Nat.add_assoc]
  | k, c, 0, row, R, _, hf, _ => absurd hf (Nat.not_lt_zero k)
theorem p_gatherSoot {F : Nat} {t : Nat → Nat → Nat} {hs v lit sc sm row : Nat → Int32} (ht : Tok t) (hP : plOk t hs v lit sc sm) (hF : 60 < F) : ∃ row', fX9_gatherSoot F (nI (t 0 0)) row lit sc sm v = some row' ∧ rEq row' (fun j => sootS t j 0 (t 0 0)) := by
  have hn := ht.1
  obtain ⟨row', e1, e2⟩ := p_gs_L (F := F) ht hP hF (t 0 0) 0 F (fillT row 0 40 0) (fun _ => 0) (by omega) (by omega) (fun j hj => fillT_in (by omega) hj)
  refine ⟨row', ?_, fun j hj => by rw [e2 j hj]; dsimp only; rw [Nat.zero_add]⟩
  unfold fX9_gatherSoot
  rw [p_fillI (by omega) (by decide), ob_s]
  exact e1
theorem p_sootOf_L {F r n x : Nat} {pm pf : Nat → Int32} (hr : r < 132) (hn : n ≤ 54) (hpm : pm r = nI n) (hx : x < 40) :
    ∀ (M : List Nat) (j fuel acc : Nat), j + M.length = n → M.length < fuel → rowAt pf (54 * r + j) M → (∀ p ∈ M, p < 480000) → fX10_sootOf_L5 F pm pf (nI r) (nI x) fuel (nI acc) (nI j) = some (nI (acc + sumL (soG x) M))
  | [], j, fuel + 1, acc, e, _, _, _ => by
    have hj : j = n := e
    rw [fX10_sootOf_L5, vb_nI hr (by decide), og_s, nI_clamp (by omega), hpm, if_pos (nI_le (by omega) (by omega))]; rfl
  | p :: M, j, fuel + 1, acc, e, hf, hR, hb => by
    rw [List.length_cons] at e hf
    have hp := hb p List.mem_cons_self
    have ih := fun acc => p_sootOf_L (F := F) hr hn hpm hx M (j + 1) fuel acc (by omega) (by omega) (by have := hR.2; rw [Nat.add_assoc] at this; exact this) (fun y hy => hb y (List.mem_cons_of_mem p hy))
    have d10 : nI p / (10 : Int32) = nI (p / 10) := pk_div (a := p) (d := 10) (by omega) (by decide) (by decide)
    have r10 : nI p - nI (p / 10) * (10 : Int32) = nI (p % 10) := by rw [← d10]; exact pk_rem (a := p) (d := 10) (by omega) (by decide) (by decide)
    have r1000 : nI (p / 10) - nI (p / 10) / (1000 : Int32) * (1000 : Int32) = nI (p / 10 % 1000) := pk_rem (a := p / 10) (d := 1000) (by omega) (by decide) (by decide)
    have d25 : nI (p / 10 % 1000) / (25 : Int32) = nI (p / 10 % 1000 / 25) := pk_div (a := p / 10 % 1000) (d := 25) (by omega) (by decide) (by decide)
    rw [fX10_sootOf_L5, vb_nI hr (by decide), og_s, nI_clamp (by omega), hpm, if_neg (nI_ge (by omega) (by omega)), p_puffIn hr (by omega) hR.1, ob_s, ob_s, d10, r10, r1000, d25, sumL_c, ← Nat.add_assoc]
    unfold fX10_sootOf_L52
    simp only [ol_s, nI_1]
    unfold soG
    by_cases hc : p / 10 % 1000 / 25 = x
    · rw [if_pos (by rw [hc]), if_pos hc, nI_add]
      exact ih _
    · rw [if_neg (nI_ne (by omega) (by omega) hc), if_neg hc, show nI acc + 0 = nI (acc + 0) from nI_add acc 0]
      exact ih _
  | M, j, 0, acc, _, hf, _, _ => absurd hf (Nat.not_lt_zero _)
theorem p_sootOf {F r x : Nat} {pm pf : Nat → Int32} {L : List Nat} (hr : r < 132) (h : frow pm pf r L) (hb : bdL L) (hx : x < 40) (hF : 60 < F) : fX10_sootOf F pm pf (nI r) (nI x) = some (nI (sumL (soG x) L)) := by
  have := p_sootOf_L (F := F) hr hb.1 h.1 hx L 0 F 0 (by omega) (by have := hb.1; omega) h.2 hb.2
  rw [Nat.zero_add] at this
  exact this
theorem p_sootAll_L {F x : Nat} {t : Nat → Nat → Nat} {all pm pf : Nat → Int32} (ht : Tok t) (hM : tM t all 0) (hR : ∀ c, c < t 0 0 → frow pm pf c (lfL t (tW t) c)) (hx : x < 40) (hF : 60 < F) :
    ∀ (k c fuel acc : Nat), c + k = t 0 0 → k < fuel → fX10_sootAll_L4 F all pm pf (nI x) fuel (nI acc) (nI c) = some (nI (acc + sootS t x c k))
  | 0, c, fuel + 1, acc, e, _ => by
    have hn := ht.1
    have e0 : all (0 : Int32).toNatClampNeg = nI (t 0 0) := hM.1 0 (by decide)
    rw [fX10_sootAll_L4, e0, if_pos (nI_le (by omega) (by omega))]; rfl
  | k + 1, c, fuel + 1, acc, e, hf => by
    have hn := ht.1
    have hc : c < t 0 0 := by omega
    have e0 : all (0 : Int32).toNatClampNeg = nI (t 0 0) := hM.1 0 (by decide)
    have hs : sootS t x c (k + 1) = sumL (soG x) (lfL t (tW t) c) + sootS t x (c + 1) k := rfl
    rw [fX10_sootAll_L4, e0, if_neg (nI_ge hc (by omega)), p_sootOf (by omega) (hR c hc) (lfL_bd ht hc) hx hF, ob_s, ol_s, ol_s, nI_add, nI_1, p_sootAll_L ht hM hR hx hF k (c + 1) fuel _ (by omega) (by omega), hs, Nat.add_assoc]
  | k, c, 0, acc, _, hf => absurd hf (Nat.not_lt_zero k)
theorem p_sootAll {F x : Nat} {t : Nat → Nat → Nat} {all pm pf : Nat → Int32} (ht : Tok t) (hM : tM t all 0) (hR : ∀ c, c < t 0 0 → frow pm pf c (lfL t (tW t) c)) (hx : x < 40) (hF : 60 < F) : fX10_sootAll F all pm pf (nI x) = some (nI (sootS t x 0 (t 0 0))) := by
  have hn := ht.1
  have h := p_sootAll_L (F := F) ht hM hR hx hF (t 0 0) 0 F 0 (by omega) (by omega)
  rw [Nat.zero_add] at h
  exact h
theorem s_soot {F : Nat} {t : Nat → Nat → Nat} {hs v lit sc sm row all his los pm pf : Nat → Int32} {thr : Int32} (a1 : Int32) (ht : Tok t) (hP : plOk t hs v lit sc sm) (hM : tM t all 0) (hF : 60 < F) :
    ∃ r row' his' los' pm' pf', fX9_soot F (nI (t 0 0)) row lit sc sm v a1 = some (r, row') ∧ fX10_soot F thr all his los pm pf a1 = some (r, 0, his', los', pm', pf') := by
  unfold fX9_soot fX10_soot
  rw [p_isX, ob_s, p_w039, ob_s]
  rcases vb_cases (a := a1) (n := 40) (by decide) with ⟨hb, x, hx, rfl⟩ | ⟨hb, -⟩
  · obtain ⟨his', los', pm', pf', f1, -, -, f4⟩ := p_laysNow (F := F) (his := his) (los := los) (pm := pm) (pf := pf) ht hM (by omega)
    obtain ⟨row', e1, e2⟩ := p_gatherSoot (F := F) (row := row) ht hP hF
    refine ⟨nI (sootS t x 0 (t 0 0)), row', his', los', pm', pf', ?_, ?_⟩
    · rw [hb, bI_1 rfl, if_neg one0, e1, ob_s, og_s, nI_clamp (by omega), e2 x hx]
    · rw [hb, bI_1 rfl, if_neg one0, f1, ob_s]
      show ob (fX10_sootAll F all pm' pf' (nI x)) _ = _
      rw [p_sootAll ht hM f4 hx hF, ob_s]
  · exact ⟨-2, row, his, los, pm, pf, by rw [hb, bI_0 rfl, if_pos rfl], by rw [hb, bI_0 rfl, if_pos rfl]⟩
theorem sootS_le {t : Nat → Nat → Nat} {j : Nat} (ht : Tok t) : sootS t j 0 (t 0 0) < 2 ^ 20 := by
  have hn := ht.1
  have h := sumR_le (f := fun c => sumL (soG j) (lfL t (tW t) c)) (M := 486) (t 0 0) 0 (fun c _ hc => by
    have hb := lfL_bd (Wd := tW t) ht (show c < t 0 0 by omega)
    have h1 := sumL_le (g := soG j) (M := 9) (lfL t (tW t) c) (fun p _ => by unfold soG; split <;> omega)
    have h2 := hb.1
    omega)
  unfold sootS
  omega
theorem p_blC {F : Nat} {n lit sc sm v row : Nat → Int32} {ch : Int32} {G : Nat → Nat} (hg : rEq row G) (hb : ∀ q, G q < 2 ^ 20) : ∀ (k q fuel b : Nat), q + k = 40 → k < fuel → b < q → fX9_blackest_L8 F ch lit sc sm v fuel (nI b) (nI q) row = some (nI (bqR G k q b), row)
  | 0, q, fuel + 1, b, h, _, hbq => by
    rw [fX9_blackest_L8, show q = 40 by omega, if_pos (show (40 : Int32) ≤ nI 40 from nI_le (Nat.le_refl 40) (by decide))]; rfl
  | k + 1, q, fuel + 1, b, h, hf, hbq => by
    have b1 := hb q
    have b2 := hb b
    rw [fX9_blackest_L8, if_neg (show ¬ (40 : Int32) ≤ nI q from nI_ge (a := q) (b := 40) (by omega) (by decide)), vb_nI (show q < 40 by omega) (by decide), og_s, vb_nI (show b < 40 by omega) (by decide), og_s, nI_clamp (by omega), nI_clamp (by omega), hg q (by omega), hg b (by omega)]
    unfold fX9_blackest_L31
    simp only [ol_s, nI_1]
    show _ = some (nI (bqR G k (q + 1) (if G q ≤ G b then b else q)), row)
    by_cases hle : G q ≤ G b
    · rw [if_pos (nI_le hle (by omega)), if_pos hle]
      exact p_blC (n := n) hg hb k (q + 1) fuel b (by omega) (by omega) (by omega)
    · rw [if_neg (nI_ge (by omega) (by omega)), if_neg hle]
      exact p_blC (n := n) hg hb k (q + 1) fuel q (by omega) (by omega) (by omega)
  | k, q, 0, b, _, hf, _ => absurd hf (Nat.not_lt_zero k)
theorem p_blM {F : Nat} {t : Nat → Nat → Nat} {all his los pm pf : Nat → Int32} {thr : Int32} (ht : Tok t) (hM : tM t all 0) (hR : ∀ c, c < t 0 0 → frow pm pf c (lfL t (tW t) c)) (hF : 60 < F) : ∀ (k q fuel b : Nat), q + k = 40 → k < fuel → b < q → fX10_blackest_L13 F all fuel (nI b) (nI q) thr his los pm pf = some (nI (bqR (fun j => sootS t j 0 (t 0 0)) k q b), thr, his, los, pm, pf)
  | 0, q, fuel + 1, b, h, _, hbq => by
    rw [fX10_blackest_L13, show q = 40 by omega, if_pos (show (40 : Int32) ≤ nI 40 from nI_le (Nat.le_refl 40) (by decide))]; rfl
  | k + 1, q, fuel + 1, b, h, hf, hbq => by
    have b1 := sootS_le (j := q) ht
    have b2 := sootS_le (j := b) ht
    rw [fX10_blackest_L13, if_neg (show ¬ (40 : Int32) ≤ nI q from nI_ge (a := q) (b := 40) (by omega) (by decide)), p_sootAll ht hM hR (by omega) hF, ob_s, p_sootAll ht hM hR (by omega) hF, ob_s]
    unfold fX10_blackest_L34
    simp only [ol_s, nI_1]
    show _ = some (nI (bqR (fun j => sootS t j 0 (t 0 0)) k (q + 1) (if sootS t q 0 (t 0 0) ≤ sootS t b 0 (t 0 0) then b else q)), thr, his, los, pm, pf)
    by_cases hle : sootS t q 0 (t 0 0) ≤ sootS t b 0 (t 0 0)
    · rw [if_pos (nI_le hle (by omega)), if_pos hle]
      exact p_blM ht hM hR hF k (q + 1) fuel b (by omega) (by omega) (by omega)
    · rw [if_neg (nI_ge (by omega) (by omega)), if_neg hle]
      exact p_blM ht hM hR hF k (q + 1) fuel q (by omega) (by omega) (by omega)
  | k, q, 0, b, _, hf, _ => absurd hf (Nat.not_lt_zero k)
theorem s_blackest {F : Nat} {t : Nat → Nat → Nat} {hs v lit sc sm row all his los pm pf : Nat → Int32} {thr : Int32} (ht : Tok t) (hP : plOk t hs v lit sc sm) (hM : tM t all 0) (hF : 60 < F) :
    ∃ r row' his' los' pm' pf', fX9_blackest F (nI (t 0 0)) row lit sc sm v = some (r, row') ∧ fX10_blackest F thr all his los pm pf = some (r, 0, his', los', pm', pf') := by
  obtain ⟨his', los', pm', pf', f1, -, -, f4⟩ := p_laysNow (F := F) (his := his) (los := los) (pm := pm) (pf := pf) ht hM (by omega)
  obtain ⟨row', e1, e2⟩ := p_gatherSoot (F := F) (row := row) ht hP hF
  refine ⟨nI (bqR (fun j => sootS t j 0 (t 0 0)) 39 1 0), row', his', los', pm', pf', ?_, ?_⟩
  · unfold fX9_blackest
    rw [e1, ob_s]
    exact p_blC (F := F) (n := v) (ch := nI (t 0 0)) (lit := lit) (sc := sc) (sm := sm) (v := v) e2 (fun q => sootS_le ht) 39 1 F 0 (by omega) (by omega) (by omega)
  · unfold fX10_blackest
    rw [f1, ob_s]
    exact p_blM (F := F) (thr := 0) (his := his') (los := los') ht hM f4 hF 39 1 F 0 (by omega) (by omega) (by omega)
