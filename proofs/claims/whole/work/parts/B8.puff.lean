/-! promise 13 -/
theorem p_xOf_out {F c lc q : Nat} {a2 : Int32} {t : Nat → Nat → Nat} {v lit sc sm : Nat → Int32} (ht : Tok t) (hc : c < t 0 0) (hq : t 11 c = lc + 1) (hlit : lit c = nI lc) (hsc : sc c = nI (t 10 c)) (hk : a2 < 0 ∨ nI (t 10 c) ≤ a2) : fX4_xOfPuff F (nI (t 0 0)) v lit sc sm (nI c) a2 (nI q) = some (-1) := by
  have hn := ht.1
  have hl := ht.lit hc
  have h0 : fX4_thicknessOfPuff F (nI (t 0 0)) lit sc sm (nI c) a2 (nI q) = some 0 := by
    unfold fX4_thicknessOfPuff
    rw [p_isLit hc hn, ob_s, hlit, if_neg (nI_nm1 (by omega)), if_neg one0, vb_nI (show c < 10 by omega) (by decide), og_s, ol_s, nI_clamp (by omega), hlit]
    generalize nI q - nI lc - a2 = y
    by_cases hy : 0 ≤ y
    · rw [if_pos hy, p_smokeOf_out ht hc hsc hk, ob_s]
      have : ¬ (0 : Int32) < 0 - y := by
        obtain ⟨j, hj, rfl⟩ := nI_of (x := y) (Int32.not_lt.mpr hy)
        rw [Int32.zero_sub, Int32.lt_iff_toInt_lt]
        have e0 : (0 : Int32).toInt = 0 := rfl
        have := sb_negT hj
        omega
      rw [if_neg this]
    · rw [if_neg hy]
  unfold fX4_xOfPuff
  rw [h0, ob_s, if_pos rfl]
/-- what the reference finds of one puff from age a on -/
def oR (o : Option Nat) (a4 : Int32) (h : Nat) : Int32 := match o with
  | none => -1
  | some x => if a4 = 0 then nI x else nI h
theorem oR_n (a4 : Int32) (h : Nat) : oR none a4 h = -1 := rfl
theorem oR_0 {a4 : Int32} (x h : Nat) (e : a4 = 0) : oR (some x) a4 h = nI x := if_pos e
theorem oR_1 {a4 : Int32} (x h : Nat) (e : ¬ a4 = 0) : oR (some x) a4 h = nI h := if_neg e
def rP (ly : Nat) (Wd : Nat → Nat → Nat) (hg x0 b q n a : Nat) (a4 : Int32) : Int32 := if b + a ≤ q ∧ q < b + a + n then oR (wayX ly Wd hg x0 b (q - b)) a4 (hg + (q - b)) else -1
theorem rP_y {ly : Nat} {Wd : Nat → Nat → Nat} {hg x0 b q n a : Nat} {a4 : Int32} (h : b + a ≤ q ∧ q < b + a + n) : rP ly Wd hg x0 b q n a a4 = oR (wayX ly Wd hg x0 b (q - b)) a4 (hg + (q - b)) := if_pos h
theorem rP_n {ly : Nat} {Wd : Nat → Nat → Nat} {hg x0 b q n a : Nat} {a4 : Int32} (h : ¬ (b + a ≤ q ∧ q < b + a + n)) : rP ly Wd hg x0 b q n a a4 = -1 := if_neg h
theorem p_puffS {F ly hg x0 b q L : Nat} {a1 a2 a4 thr : Int32} {Wd : Nat → Nat → Nat} {all his los pm pf : Nat → Int32} (hx0 : x0 < 40) (hhg : hg < 25) (hpm : pm 130 = nI L) (hL : L ≤ 54) (hq : q < 48) (hb : b ≤ 28) :
    ∀ (n a i fuel : Nat), n + a ≤ 9 → i + (pfL ly Wd hg x0 b n a).length = L → (pfL ly Wd hg x0 b n a).length < fuel → rowAt pf (54 * 130 + i) (pfL ly Wd hg x0 b n a) → fX10_puff_L87 F all a1 a2 (nI q) a4 fuel (nI i) thr his los pm pf = some (rP ly Wd hg x0 b q n a a4, thr, his, los, pm, pf)
  | 0, a, i, fuel + 1, _, e, _, _ => by
    have hi : i = L := e
    have e130 : pm (130 : Int32).toNatClampNeg = nI L := hpm
    rw [fX10_puff_L87, e130, if_pos (nI_le (by omega) (by omega)), rP_n (by omega)]
  | n + 1, a, i, fuel + 1, h9, e, hf, hR => by
    have e130 : pm (130 : Int32).toNatClampNeg = nI L := hpm
    cases hw : wayX ly Wd hg x0 b a with
    | none =>
      rw [pfL_none hw] at e hf
      have hi : i = L := e
      rw [fX10_puff_L87, e130, if_pos (nI_le (by omega) (by omega))]
      by_cases hc : b + a ≤ q ∧ q < b + a + (n + 1)
      · have := wayX_n_le hw (q - b - a)
        rw [show a + (q - b - a) = q - b by omega] at this
        rw [rP_y hc, this, oR_n]
      · rw [rP_n hc]
    | some x =>
      have hx := wayX_lt hx0 _ hw
      have hh := wayX_h hhg _ hw
      rw [pfL_some hw] at e hf hR
      rw [List.length_cons] at e hf
      have hcode : pcode (b + a) x (hg + a) (n + 1) < 480000 := by unfold pcode; omega
      have d10 : nI (pcode (b + a) x (hg + a) (n + 1)) / (10 : Int32) = nI (1000 * (b + a) + 25 * x + (hg + a)) := by
        refine (pk_div (a := pcode (b + a) x (hg + a) (n + 1)) (d := 10) (by omega) (by decide) (by decide)).trans ?_
        congr 1
        unfold pcode; omega
      have d1000 : nI (1000 * (b + a) + 25 * x + (hg + a)) / (1000 : Int32) = nI (b + a) := by
        refine (pk_div (a := 1000 * (b + a) + 25 * x + (hg + a)) (d := 1000) (by omega) (by decide) (by decide)).trans ?_
        congr 1
        omega
      have r1000 : nI (1000 * (b + a) + 25 * x + (hg + a)) - nI (b + a) * (1000 : Int32) = nI (25 * x + (hg + a)) := by
        rw [← d1000]
        refine (pk_rem (a := 1000 * (b + a) + 25 * x + (hg + a)) (d := 1000) (by omega) (by decide) (by decide)).trans ?_
        congr 1
        omega
      have d25 : nI (25 * x + (hg + a)) / (25 : Int32) = nI x := by
        refine (pk_div (a := 25 * x + (hg + a)) (d := 25) (by omega) (by decide) (by decide)).trans ?_
        congr 1
        omega
      have r25 : nI (25 * x + (hg + a)) - nI x * (25 : Int32) = nI (hg + a) := by
        rw [← d25]
        refine (pk_rem (a := 25 * x + (hg + a)) (d := 25) (by omega) (by decide) (by decide)).trans ?_
        congr 1
        omega
      have hpi : fX10_puffIn F pf 130 (nI i) = some (nI (pcode (b + a) x (hg + a) (n + 1))) := p_puffIn (r := 130) (by decide) (by omega) hR.1
      rw [fX10_puff_L87, e130, if_neg (nI_ge (by omega) (by omega)), hpi, ob_s, ol_s, d10, d1000, r1000, d25, r25]
      by_cases hqa : b + a = q
      · rw [if_pos (by rw [hqa])]
        rw [rP_y (by omega), show q - b = a by omega, hw]
        by_cases h4 : a4 = 0
        · rw [if_pos h4, oR_0 _ _ h4]
        · rw [if_neg h4, oR_1 _ _ h4]
      · rw [if_neg (nI_ne (by omega) (by omega) hqa), ol_s, nI_1]
        have ih := p_puffS (F := F) (ly := ly) (Wd := Wd) (a1 := a1) (a2 := a2) (a4 := a4) (thr := thr) (all := all) (his := his) (los := los) hx0 hhg hpm hL hq hb n (a + 1) (i + 1) fuel (by omega) (by omega) (by omega) (by have := hR.2; rw [Nat.add_assoc] at this; exact this)
        rw [ih]
        by_cases hc : b + (a + 1) ≤ q ∧ q < b + (a + 1) + n
        · rw [rP_y hc, rP_y (by omega)]
        · rw [rP_n hc, rP_n (by omega)]
  | n, a, i, 0, _, _, hf, _ => absurd hf (Nat.not_lt_zero _)
theorem s_puff {F : Nat} {t : Nat → Nat → Nat} {hs v lit sc sm all his los pm pf : Nat → Int32} {thr : Int32} (a1 a2 a3 a4 : Int32) (ht : Tok t) (hP : plOk t hs v lit sc sm) (hM : tM t all 0) (hF : 60 < F) :
    ∃ r his' los' pm' pf', fX9_puff F (nI (t 0 0)) lit sc sm hs v a1 a2 a3 a4 = some r ∧ fX10_puff F thr all his los pm pf a1 a2 a3 a4 = some (r, 0, his', los', pm', pf') := by
  have hn := ht.1
  unfold fX9_puff fX10_puff fX9_puff_L74
  rw [p_isChimney (hM.1 0 (by decide)) hn, ob_s]
  cases hv : vb a1 (t 0 0) with
  | false => exact ⟨-2, his, los, pm, pf, by rw [p_hasN (by omega) hv, ob_s, if_pos rfl], by rw [bI_0 rfl, if_pos rfl]⟩
  | true =>
    obtain ⟨c, hc, rfl⟩ := vb_of (by omega) hv
    obtain ⟨g0, g1, g2, g3, g4, g5, g6⟩ := ht.2.2.2.2.2.2.1 c hc
    obtain ⟨p1, p2, p3, p4⟩ := hP c hc
    obtain ⟨-, -, -, -, m4, m5, -⟩ := hM.2.1 c hc
    rw [Nat.zero_add] at m4 m5
    have hlt := ht.lit hc
    have e46 : (46 : Int32) + nI c = nI (46 + c) := nI_add 46 c
    rw [p_has hc (by omega), ob_s, if_neg one0, p_isQuarter, ob_s, bI_1 rfl, if_neg one0, p_isHour, ob_s]
    rcases vb_cases (a := a3) (n := 48) (by decide) with ⟨hb1, q, hq, rfl⟩ | ⟨hb1, -⟩
    · rw [hb1, bI_1 rfl, if_neg one0, if_neg one0, p_isLit hc hn, ob_s, p2, p_mLit (by omega), ob_s, m5]
      by_cases hl : t 11 c = 0
      · exact ⟨-5, his, los, pm, pf, by rw [if_pos ((litC_iff hlt).mpr hl), if_pos rfl], by rw [if_pos ((litM_iff hlt).mpr hl), if_pos rfl]⟩
      · obtain ⟨lc, hlc⟩ : ∃ q, t 11 c = q + 1 := ⟨t 11 c - 1, by omega⟩
        have hlit : lit c = nI lc := by rw [p2, hlc, nI_pred]
        have ok := litOk_of ht hc hl p1
        rw [if_neg (fun z => hl ((litC_iff hlt).mp z)), if_neg one0, if_neg (fun z => hl ((litM_iff hlt).mp z)), if_neg one0, e46, vb_nI (show 46 + c < 486 by omega) (by decide), og_s, nI_clamp (by omega), m4, p_wm (by omega), ob_s]
        rcases vb_cases (a := a2) (n := t 10 c) (by omega) with ⟨hb2, k, hk, rfl⟩ | ⟨hb2, hor⟩
        · have s9 := g6 k hk
          have h0 : ∀ q, q < 48 → wT los t 0 0 q = nI (tW t 0 q) := fun q hq => wT_in hq
          have h1 : ∀ q, q < 48 → wT his t 1 0 q = nI (tW t 1 q) := fun q hq => wT_in hq
          obtain ⟨pf', e1, e2, e3⟩ := p_laysPart (F := F) (r := 130) (lit := lc) (up := 0) (f := k) (e := k + 1) (pm := pm) (pf := pf) ht hM hc (by omega) (by omega) (by omega) (by omega) (tW_le ht) h0 h1 (by omega) (by omega)
          have hlist : prL (t 2 0) (tW t) (t 7 c + 0) (t 6 c) lc (fun k => t 12 (6 * c + k)) (k + 1 - k) k = pfL (t 2 0) (tW t) (t 7 c) (t 6 c) (lc + k) (t 12 (6 * c + k)) 0 := by
            rw [show k + 1 - k = 1 by omega]
            show pfL (t 2 0) (tW t) (t 7 c) (t 6 c) (lc + k) (t 12 (6 * c + k)) 0 ++ [] = _
            rw [List.append_nil]
          rw [hlist] at e1 e2
          have hlen := pfL_len (ly := t 2 0) (Wd := tW t) (hg := t 7 c) (x0 := t 6 c) (b := lc + k) (t 12 (6 * c + k)) 0
          have hS := p_puffS (F := F) (ly := t 2 0) (hg := t 7 c) (x0 := t 6 c) (b := lc + k) (q := q) (a1 := nI c) (a2 := nI k) (a4 := a4) (thr := 0) (Wd := tW t) (all := all) (his := wT his t 1 0) (los := wT los t 0 0) (pm := upd pm 130 (nI (pfL (t 2 0) (tW t) (t 7 c) (t 6 c) (lc + k) (t 12 (6 * c + k)) 0).length)) (pf := pf') g0 (by omega) pk_us (by omega) hq (by omega) (t 12 (6 * c + k)) 0 0 F (by omega) (by omega) (by omega) e2
          have e1' : fX10_laysPuffs F all (wT his t 1 0) (wT los t 0 0) pm pf 130 (nI c) (nI lc) 0 (nI k) (nI (k + 1)) = _ := e1
          have hS' : fX10_puff_L87 F all (nI c) (nI k) (nI q) a4 F 0 0 (wT his t 1 0) (wT los t 0 0) (upd pm 130 (nI (pfL (t 2 0) (tW t) (t 7 c) (t 6 c) (lc + k) (t 12 (6 * c + k)) 0).length)) pf' = _ := hS
          refine ⟨rP (t 2 0) (tW t) (t 7 c) (t 6 c) (lc + k) q (t 12 (6 * c + k)) 0 a4, wT his t 1 0, wT los t 0 0, upd pm 130 (nI (pfL (t 2 0) (tW t) (t 7 c) (t 6 c) (lc + k) (t 12 (6 * c + k)) 0).length), pf', ?_, ?_⟩
          · rw [p_xOf ht hc hlc hlit p3 p4 ok hk (by omega), ob_s]
            by_cases hc1 : lc + k ≤ q ∧ q < lc + k + t 12 (6 * c + k)
            · have hth : ¬ thP t c lc k q = 0 := by unfold thP; rw [if_pos hc1.1]; omega
              rw [if_neg hth, rP_y (b := lc + k) (a := 0) (by omega)]
              cases hw : wayX (t 2 0) (tW t) (t 7 c) (t 6 c) (lc + k) (q - (lc + k)) with
              | none =>
                have : wq (t 2 0) (tW t) (t 7 c) (t 6 c) (lc + k) q = none := hw
                rw [this, encW_n, oR_n, if_pos rfl]
                split <;> rfl
              | some x =>
                have hx := wayX_lt g0 _ hw
                have : wq (t 2 0) (tW t) (t 7 c) (t 6 c) (lc + k) q = some x := hw
                rw [this, encW_s]
                by_cases h4 : a4 = 0
                · rw [if_pos h4, oR_0 _ _ h4]
                · rw [if_neg h4, oR_1 _ _ h4, if_neg (nI_nm1 (by omega)), p_hOf ht hc hlc hlit ok.1 hc1.1, ob_s]
            · have hth : thP t c lc k q = 0 := by
                unfold thP
                by_cases z : lc + k ≤ q
                · rw [if_pos z]; omega
                · rw [if_neg z]
              rw [if_pos hth, rP_n (b := lc + k) (a := 0) (by omega), encW_n, if_pos rfl]
              split <;> rfl
          · rw [hb2, bI_1 rfl, if_neg one0, p_laysWinds ht hM (by omega), ob_s, p_litAt (by omega), ob_s, m5, hlc, nI_pred, nI_1]
            show ob (fX10_laysPuffs F all (wT his t 1 0) (wT los t 0 0) pm pf 130 (nI c) (nI lc) 0 (nI k) (nI (k + 1))) _ = _
            rw [e1', ob_s]
            exact hS'
        · refine ⟨-1, his, los, pm, pf, ?_, by rw [hb2, bI_0 rfl, if_pos rfl]⟩
          rw [p_xOf_out ht hc hlc hlit p3 hor, ob_s, if_pos rfl]
          split <;> rfl
    · exact ⟨-3, his, los, pm, pf, by rw [hb1, bI_0 rfl, if_pos rfl], by rw [hb1, bI_0 rfl, if_pos rfl]⟩
