/-! promise 38 -/
def hadB (t : Nat → Nat → Nat) (c k j : Nat) : Bool := anyR (fun c => (lfL t (tW t) c).any (fun p => decide (p / 10 % 1000 = j))) c k
theorem p_skM_in {F r n : Nat} {all his los pm pf : Nat → Int32} {thr : Int32} {k33 : Int32 → Int32 → (Nat → Int32) → (Nat → Int32) → (Nat → Int32) → (Nat → Int32) → (Nat → Int32) → Option (Int32 × Int32 × (Nat → Int32) × (Nat → Int32) × (Nat → Int32) × (Nat → Int32) × (Nat → Int32))} (hr : r < 132) (hn : n ≤ 54) (hpm : pm r = nI n) :
    ∀ (M : List Nat) (j fuel : Nat) (hd : Nat → Int32) (S : Nat → Bool), j + M.length = n → M.length < fuel → rowAt pf (54 * r + j) M → (∀ p ∈ M, p < 480000) → (∀ i, i < 1000 → hd i = bI (S i)) → ∃ hd', fX10_sky_L45 F all k33 fuel (nI r) (nI j) thr hd his los pm pf = k33 (nI (r + 1)) thr hd' his los pm pf ∧ ∀ i, i < 1000 → hd' i = bI (S i || M.any (fun p => decide (p / 10 % 1000 = i)))
  | [], j, fuel + 1, hd, S, e, _, _, _, hS => by
    have hj : j = n := e
    refine ⟨hd, ?_, fun i hi => by rw [hS i hi]; simp⟩
    rw [fX10_sky_L45, vb_nI hr (by decide), og_s, nI_clamp (by omega), hpm, if_pos (nI_le (by omega) (by omega)), ol_s, nI_1]
  | p :: M, j, fuel + 1, hd, S, e, hf, hR, hb, hS => by
    rw [List.length_cons] at e hf
    have hp := hb p List.mem_cons_self
    have d10 : nI p / (10 : Int32) = nI (p / 10) := pk_div (a := p) (d := 10) (by omega) (by decide) (by decide)
    have r1000 : nI (p / 10) - nI (p / 10) / (1000 : Int32) * (1000 : Int32) = nI (p / 10 % 1000) := pk_rem (a := p / 10) (d := 1000) (by omega) (by decide) (by decide)
    obtain ⟨hd', e1, e2⟩ := p_skM_in (F := F) (all := all) (his := his) (los := los) (thr := thr) (k33 := k33) hr hn hpm M (j + 1) fuel (upd hd (p / 10 % 1000) 1) (fun i => S i || decide (p / 10 % 1000 = i)) (by omega) (by omega) (by have := hR.2; rw [Nat.add_assoc] at this; exact this) (fun y hy => hb y (List.mem_cons_of_mem p hy)) (fun i hi => by
      by_cases e3 : i = p / 10 % 1000
      · subst e3; rw [pk_us]; simp [bI]
      · rw [pk_un e3, hS i hi]
        have : ¬ p / 10 % 1000 = i := fun z => e3 z.symm
        simp [this])
    refine ⟨hd', ?_, fun i hi => ?_⟩
    · rw [fX10_sky_L45, vb_nI hr (by decide), og_s, nI_clamp (by omega), hpm, if_neg (nI_ge (by omega) (by omega)), p_puffIn hr (by omega) hR.1, ob_s, d10, r1000, vb_nI (by omega) (by decide), og_s, ol_s, ol_s, nI_1, nI_clamp (by omega)]
      exact e1
    · rw [e2 i hi, List.any_cons, Bool.or_assoc]
  | M, j, 0, hd, S, _, hf, _, _, _ => absurd hf (Nat.not_lt_zero _)
theorem p_skM_cnt {F : Nat} {all his los pm pf hd : Nat → Int32} {thr : Int32} {S : Nat → Bool} (hS : ∀ i, i < 1000 → hd i = bI (S i)) : ∀ (k i fuel n : Nat), i + k = 1000 → k < fuel → fX10_sky_L90 F all fuel (nI n) (nI i) thr hd his los pm pf = some ((nI (n + sumR (fun j => if S j then 1 else 0) i k) * (100 : Int32)) / (1000 : Int32), thr, hd, his, los, pm, pf)
  | 0, i, fuel + 1, n, h, _ => by
    rw [fX10_sky_L90, show i = 1000 by omega, if_pos (show (1000 : Int32) ≤ nI 1000 from nI_le (Nat.le_refl 1000) (by decide))]; rfl
  | k + 1, i, fuel + 1, n, h, hf => by
    rw [fX10_sky_L90, if_neg (show ¬ (1000 : Int32) ≤ nI i from nI_ge (a := i) (b := 1000) (by omega) (by decide)), vb_nI (by omega) (by decide), og_s, nI_clamp (by omega), hS i (by omega), sumR_s]
    unfold fX10_sky_L112
    simp only [ol_s, nI_1]
    cases hs : S i with
    | false =>
      rw [bI_0 rfl, if_pos rfl, show nI n + 0 = nI n from nI_add n 0, p_skM_cnt hS k (i + 1) fuel n (by omega) (by omega)]
      simp
    | true =>
      rw [bI_1 rfl, if_neg one0, p_skM_cnt hS k (i + 1) fuel (n + 1) (by omega) (by omega)]
      simp only [if_true]
      rw [Nat.add_assoc]
  | k, i, 0, n, _, hf => absurd hf (Nat.not_lt_zero k)
theorem p_skM_out {F : Nat} {t : Nat → Nat → Nat} {all his los pm pf : Nat → Int32} {thr : Int32} (ht : Tok t) (hM : tM t all 0) (hR : ∀ c, c < t 0 0 → frow pm pf c (lfL t (tW t) c)) (hF : 1001 < F) :
    ∀ (k c fuel : Nat) (hd : Nat → Int32) (S : Nat → Bool), c + k = t 0 0 → k < fuel → (∀ i, i < 1000 → hd i = bI (S i)) → ∃ hd', fX10_sky_L33 F all fuel (nI c) thr hd his los pm pf = some ((nI (sumR (fun j => if (S j || hadB t c k j) then 1 else 0) 0 1000) * (100 : Int32)) / (1000 : Int32), thr, hd', his, los, pm, pf)
  | 0, c, fuel + 1, hd, S, e, _, hS => by
    have hn := ht.1
    have e0 : all (0 : Int32).toNatClampNeg = nI (t 0 0) := hM.1 0 (by decide)
    have hc := p_skM_cnt (F := F) (all := all) (his := his) (los := los) (pm := pm) (pf := pf) (thr := thr) (S := fun j => S j || hadB t c 0 j) (hd := hd) (fun i hi => by rw [hS i hi]; simp [hadB, anyR]) 1000 0 F 0 (by omega) (by omega)
    refine ⟨hd, ?_⟩
    rw [fX10_sky_L33, e0, if_pos (nI_le (by omega) (by omega)), show (0 : Int32) = nI 0 from rfl, hc, Nat.zero_add]
  | k + 1, c, fuel + 1, hd, S, e, hf, hS => by
    have hn := ht.1
    have hc : c < t 0 0 := by omega
    have e0 : all (0 : Int32).toNatClampNeg = nI (t 0 0) := hM.1 0 (by decide)
    have hb := lfL_bd (Wd := tW t) ht hc
    obtain ⟨hd1, e1, e2⟩ := p_skM_in (F := F) (all := all) (his := his) (los := los) (thr := thr) (k33 := fun x1 v_thrown v_hadSmoke v_highs v_lows v_puffMany v_puffsOf => fX10_sky_L33 F all fuel x1 v_thrown v_hadSmoke v_highs v_lows v_puffMany v_puffsOf) (show c < 132 by omega) hb.1 (hR c hc).1 (lfL t (tW t) c) 0 F hd S (by omega) (by have := hb.1; omega) (hR c hc).2 hb.2 hS
    obtain ⟨hd', f1⟩ := p_skM_out (thr := thr) ht hM hR hF k (c + 1) fuel hd1 _ (by omega) (by omega) e2
    refine ⟨hd', ?_⟩
    have hs : ∀ j, (S j || hadB t c (k + 1) j) = (S j || (lfL t (tW t) c).any (fun p => decide (p / 10 % 1000 = j)) || hadB t (c + 1) k j) := fun j => by
      show (S j || ((lfL t (tW t) c).any (fun p => decide (p / 10 % 1000 = j)) || hadB t (c + 1) k j)) = _
      rw [Bool.or_assoc]
    rw [fX10_sky_L33, e0, if_neg (nI_ge hc (by omega))]
    simp only [hs]
    exact e1.trans f1
  | k, c, 0, hd, S, _, hf, _ => absurd hf (Nat.not_lt_zero k)
theorem p_skM_clr {F : Nat} {all his los pm pf : Nat → Int32} {thr : Int32} : ∀ (k i fuel : Nat) (hd : Nat → Int32), i + k = 1000 → k < fuel → (∀ q, q < i → hd q = 0) → ∃ hd', fX10_sky_L11 F all fuel (nI i) thr hd his los pm pf = fX10_sky_L33 F all F 0 thr hd' his los pm pf ∧ ∀ q, q < 1000 → hd' q = 0
  | 0, i, fuel + 1, hd, h, _, h0 => ⟨hd, by rw [fX10_sky_L11, show i = 1000 by omega, if_pos (show (1000 : Int32) ≤ nI 1000 from nI_le (Nat.le_refl 1000) (by decide))], fun q hq => h0 q (by omega)⟩
  | k + 1, i, fuel + 1, hd, h, hf, h0 => by
    rw [fX10_sky_L11, if_neg (show ¬ (1000 : Int32) ≤ nI i from nI_ge (a := i) (b := 1000) (by omega) (by decide)), vb_nI (by omega) (by decide), og_s, ol_s, ol_s, nI_1, nI_clamp (by omega)]
    exact p_skM_clr k (i + 1) fuel _ (by omega) (by omega) (fun q hq => by
      by_cases e : q = i
      · subst e; rw [pk_us]; rfl
      · rw [pk_un e]; exact h0 q (by omega))
  | k, i, 0, hd, _, hf, _ => absurd hf (Nat.not_lt_zero k)
/-! the class' cells -/
def cellQ (cells : Nat → Int64) (Q : Nat → Nat → Prop) : Prop := ∀ h, h < 25 → bsL (cells h) (Q h)
def mkP (t : Nat → Nat → Nat) (c k a0 h x : Nat) : Prop := ∃ lc a, t 11 c = lc + 1 ∧ a0 ≤ a ∧ a < t 12 (6 * c + k) ∧ wayX (t 2 0) (tW t) (t 7 c) (t 6 c) (lc + k) a = some x ∧ t 7 c + a = h
theorem p_mk_L {F c k : Nat} {t : Nat → Nat → Nat} {hs v lit sc sm : Nat → Int32} (ht : Tok t) (hP : plOk t hs v lit sc sm) (hc : c < t 0 0) (hk : k < t 10 c) :
    ∀ (n a fuel : Nat) (cells : Nat → Int64) (Q : Nat → Nat → Prop), a + n = t 12 (6 * c + k) → n < fuel → cellQ cells Q → ∃ cells', fX9_markSmoky_L15 F (nI (t 0 0)) lit sc sm hs v (nI c) (nI k) fuel (lit c + nI k) (nI a) cells = some cells' ∧ cellQ cells' (fun h x => Q h x ∨ mkP t c k a h x)
  | 0, a, fuel + 1, cells, Q, e, _, hQ => by
    obtain ⟨p1, p2, p3, p4⟩ := hP c hc
    obtain ⟨-, -, -, -, g4, -, g6⟩ := ht.2.2.2.2.2.2.1 c hc
    have s9 := g6 k hk
    refine ⟨cells, ?_, fun h hh => bsL_iff (hQ h hh) (fun x _ => ⟨Or.inl, fun z => z.elim id (fun ⟨lc, a', z1, z2, z3, _⟩ => by omega)⟩)⟩
    rw [fX9_markSmoky_L15, p_smokeOf_in ht hc p3 hk, ob_s, p4 k hk, if_pos (nI_le (by omega) (by omega))]
  | n + 1, a, fuel + 1, cells, Q, e, hf, hQ => by
    have hn := ht.1
    have hlt := ht.lit hc
    obtain ⟨p1, p2, p3, p4⟩ := hP c hc
    obtain ⟨g0, g1, -, -, g4, -, g6⟩ := ht.2.2.2.2.2.2.1 c hc
    have s9 := g6 k hk
    have skip : (∀ h x, ¬ (∃ lc, t 11 c = lc + 1 ∧ wayX (t 2 0) (tW t) (t 7 c) (t 6 c) (lc + k) a = some x ∧ t 7 c + a = h)) → ∃ cells', fX9_markSmoky_L15 F (nI (t 0 0)) lit sc sm hs v (nI c) (nI k) fuel (lit c + nI k) (nI (a + 1)) cells = some cells' ∧ cellQ cells' (fun h x => Q h x ∨ mkP t c k a h x) := by
      intro hno
      obtain ⟨cells', f1, f2⟩ := p_mk_L (F := F) ht hP hc hk n (a + 1) fuel cells Q (by omega) (by omega) hQ
      refine ⟨cells', f1, fun h hh => bsL_iff (f2 h hh) (fun x _ => ?_)⟩
      constructor
      · rintro (z | ⟨lc, a', z1, z2, z3⟩)
        · exact Or.inl z
        · exact Or.inr ⟨lc, a', z1, by omega, z3⟩
      · rintro (z | ⟨lc, a', z1, z2, z3, z4, z5⟩)
        · exact Or.inl z
        · by_cases e1 : a' = a
          · subst e1; exact absurd ⟨lc, z1, z4, z5⟩ (hno h x)
          · exact Or.inr ⟨lc, a', z1, by omega, z3, z4, z5⟩
    rw [fX9_markSmoky_L15, p_smokeOf_in ht hc p3 hk, ob_s, p4 k hk, if_neg (nI_ge (by omega) (by omega))]
    unfold fX9_markSmoky_L93
    simp only [ol_s, nI_1]
    by_cases hl : t 11 c = 0
    · have hlit : lit c = -1 := by rw [p2, hl]; rfl
      have hh : fX4_heightOfPuff F hs (nI (t 0 0)) lit (nI c) (nI k) (lit c + nI k + nI a) = some (-1) := by
        unfold fX4_heightOfPuff
        rw [p_isLit hc hn, ob_s, if_pos hlit, if_pos rfl]
      rw [p_xOfN ht hc hlit, ob_s, hh, ob_s, p_isX, ob_s]
      have : vb (-1) 40 = false := by decide
      rw [this, bI_0 rfl, if_pos rfl]
      exact skip (fun h x ⟨lc, z, _⟩ => by omega)
    · obtain ⟨lc, hlc⟩ : ∃ q, t 11 c = q + 1 := ⟨t 11 c - 1, by omega⟩
      have hlit : lit c = nI lc := by rw [p2, hlc, nI_pred]
      have ok := litOk_of ht hc hl p1
      have hth : ¬ thP t c lc k (lc + k + a) = 0 := by unfold thP; rw [if_pos (by omega)]; omega
      have hidx : lit c + nI k + nI a = nI (lc + k + a) := by rw [hlit, nI_add, nI_add]
      rw [hidx, p_xOf ht hc hlc hlit p3 p4 ok hk (by omega), ob_s, p_hOf ht hc hlc hlit ok.1 (show lc + k ≤ lc + k + a by omega), ob_s, if_neg hth, p_isX, ob_s, show lc + k + a - (lc + k) = a by omega]
      have hwq : wq (t 2 0) (tW t) (t 7 c) (t 6 c) (lc + k) (lc + k + a) = wayX (t 2 0) (tW t) (t 7 c) (t 6 c) (lc + k) a := by
        unfold wq
        rw [show lc + k + a - (lc + k) = a by omega]
      rw [hwq]
      rw [hlit] at skip ⊢
      cases hw : wayX (t 2 0) (tW t) (t 7 c) (t 6 c) (lc + k) a with
      | none =>
        have : vb (encW none) 40 = false := by decide
        rw [this, bI_0 rfl, if_pos rfl]
        refine skip (fun h x ⟨lc', z, z2, _⟩ => ?_)
        have : lc' = lc := by omega
        subst this
        rw [hw] at z2; cases z2
      | some x0 =>
        have hx := wayX_lt g0 _ hw
        have hh := wayX_h (show t 7 c < 25 by omega) _ hw
        rw [encW_s, vb_nI hx (by decide), bI_1 rfl, if_neg one0, if_neg (nI_pos (by omega)), if_neg (show ¬ (25 : Int32) ≤ nI (t 7 c + a) from nI_ge (a := t 7 c + a) (b := 25) hh (by decide)), vb_nI hh (by decide), og_s, og_s, nI_clamp (by omega)]
        obtain ⟨cells', f1, f2⟩ := p_mk_L (F := F) ht hP hc hk n (a + 1) fuel (vp_updL cells (t 7 c + a) (cells (t 7 c + a) ||| ((1 : Int64) <<< ((nI x0).toInt64 &&& 63)))) (fun h x => Q h x ∨ (h = t 7 c + a ∧ x = x0)) (by omega) (by omega) (fun h hh' => by
          by_cases e1 : h = t 7 c + a
          · subst e1
            rw [pk_uLs]
            exact bsL_iff (bsL_or (hQ _ hh') (bsL_bit (q := x0) (by omega))) (fun x _ => ⟨fun z => z.elim Or.inl (fun y => Or.inr ⟨rfl, y⟩), fun z => z.elim Or.inl (fun y => Or.inr y.2)⟩)
          · rw [pk_uLn e1]
            exact bsL_iff (hQ h hh') (fun x _ => ⟨Or.inl, fun z => z.elim id (fun y => absurd y.1 e1)⟩))
        rw [hlit] at f1
        refine ⟨cells', f1, fun h hh' => bsL_iff (f2 h hh') (fun x _ => ?_)⟩
        constructor
        · rintro ((z | ⟨z1, z2⟩) | ⟨lc', a', z1, z2, z3⟩)
          · exact Or.inl z
          · subst z1; subst z2
            exact Or.inr ⟨lc, a, hlc, Nat.le_refl _, by omega, hw, rfl⟩
          · exact Or.inr ⟨lc', a', z1, by omega, z3⟩
        · rintro (z | ⟨lc', a', z1, z2, z3, z4, z5⟩)
          · exact Or.inl (Or.inl z)
          · by_cases e1 : a' = a
            · subst e1
              have : lc' = lc := by omega
              subst this
              rw [hw] at z4
              cases z4
              exact Or.inl (Or.inr ⟨z5.symm, rfl⟩)
            · exact Or.inr ⟨lc', a', z1, by omega, z3, z4, z5⟩
  | n, a, 0, cells, Q, _, hf, _ => absurd hf (Nat.not_lt_zero _)
theorem p_mark {F c k : Nat} {t : Nat → Nat → Nat} {hs v lit sc sm : Nat → Int32} {cells : Nat → Int64} {Q : Nat → Nat → Prop} (ht : Tok t) (hP : plOk t hs v lit sc sm) (hc : c < t 0 0) (hk : k < t 10 c) (hQ : cellQ cells Q) (hF : 60 < F) : ∃ cells', fX9_markSmoky F (nI (t 0 0)) cells lit sc sm hs v (nI c) (nI k) = some cells' ∧ cellQ cells' (fun h x => Q h x ∨ mkP t c k 0 h x) := by
  have hn := ht.1
  obtain ⟨-, -, -, -, g4, -, g6⟩ := ht.2.2.2.2.2.2.1 c hc
  have s9 := g6 k hk
  unfold fX9_markSmoky
  rw [vb_nI (show c < 10 by omega) (by decide), og_s, ol_s, nI_clamp (by omega)]
  exact p_mk_L ht hP hc hk (t 12 (6 * c + k)) 0 F cells Q (by omega) (by omega) hQ
theorem p_sk_in {F c : Nat} {t : Nat → Nat → Nat} {hs v lit sc sm : Nat → Int32} {k10 : Int32 → (Nat → Int64) → Option (Int32 × (Nat → Int64))} (ht : Tok t) (hP : plOk t hs v lit sc sm) (hc : c < t 0 0) (hF : 60 < F) :
    ∀ (k i fuel : Nat) (cells : Nat → Int64) (Q : Nat → Nat → Prop), i + k = t 10 c → k < fuel → cellQ cells Q → ∃ cells', fX9_sky_L23 F (nI (t 0 0)) lit sc sm hs v k10 fuel (nI c) (nI i) cells = k10 (nI (c + 1)) cells' ∧ cellQ cells' (fun h x => Q h x ∨ ∃ k', i ≤ k' ∧ k' < t 10 c ∧ mkP t c k' 0 h x)
  | 0, i, fuel + 1, cells, Q, e, _, hQ => by
    have hn := ht.1
    obtain ⟨-, -, -, -, g4, -, -⟩ := ht.2.2.2.2.2.2.1 c hc
    refine ⟨cells, ?_, fun h hh => bsL_iff (hQ h hh) (fun x _ => ⟨Or.inl, fun z => z.elim id (fun ⟨k', z1, z2, _⟩ => by omega)⟩)⟩
    rw [fX9_sky_L23, vb_nI (show c < 10 by omega) (by decide), og_s, nI_clamp (by omega), (hP c hc).2.2.1, if_pos (nI_le (by omega) (by omega)), ol_s, nI_1]
  | k + 1, i, fuel + 1, cells, Q, e, hf, hQ => by
    have hn := ht.1
    obtain ⟨-, -, -, -, g4, -, -⟩ := ht.2.2.2.2.2.2.1 c hc
    obtain ⟨c1, m1, m2⟩ := p_mark (F := F) (k := i) ht hP hc (by omega) hQ hF
    obtain ⟨cells', f1, f2⟩ := p_sk_in (F := F) (k10 := k10) ht hP hc hF k (i + 1) fuel c1 _ (by omega) (by omega) m2
    refine ⟨cells', ?_, fun h hh => bsL_iff (f2 h hh) (fun x _ => ?_)⟩
    · rw [fX9_sky_L23, vb_nI (show c < 10 by omega) (by decide), og_s, nI_clamp (by omega), (hP c hc).2.2.1, if_neg (nI_ge (by omega) (by omega)), m1, ob_s, ol_s, nI_1]
      exact f1
    · constructor
      · rintro ((z | z) | ⟨k', z1, z2, z3⟩)
        · exact Or.inl z
        · exact Or.inr ⟨i, Nat.le_refl _, by omega, z⟩
        · exact Or.inr ⟨k', by omega, z2, z3⟩
      · rintro (z | ⟨k', z1, z2, z3⟩)
        · exact Or.inl (Or.inl z)
        · by_cases e1 : k' = i
          · subst e1; exact Or.inl (Or.inr z3)
          · exact Or.inr ⟨k', by omega, z2, z3⟩
  | k, i, 0, cells, Q, _, hf, _ => absurd hf (Nat.not_lt_zero k)
theorem p_sk_cnt {F : Nat} {ch : Int32} {lit sc sm hs v : Nat → Int32} {cells : Nat → Int64} {C : Nat → Nat} (hB : ∀ h, h < 25 → fJ13_bitCount_95d88 F (cells h) = some (nI (C h))) :
    ∀ (k h fuel n : Nat), h + k = 25 → k < fuel → fX9_sky_L58 F ch lit sc sm hs v fuel (nI n) (nI h) cells = some ((nI (n + sumR C h k) * (100 : Int32)) / (1000 : Int32), cells)
  | 0, h, fuel + 1, n, e, _ => by
    rw [fX9_sky_L58, show h = 25 by omega, if_pos (show (25 : Int32) ≤ nI 25 from nI_le (Nat.le_refl 25) (by decide))]; rfl
  | k + 1, h, fuel + 1, n, e, hf => by
    rw [fX9_sky_L58, if_neg (show ¬ (25 : Int32) ≤ nI h from nI_ge (a := h) (b := 25) (by omega) (by decide)), vb_nI (by omega) (by decide), og_s, nI_clamp (by omega), hB h (by omega), ob_s, ol_s, ol_s, nI_add, nI_1, sumR_s, ← Nat.add_assoc]
    exact p_sk_cnt hB k (h + 1) fuel _ (by omega) (by omega)
  | k, h, 0, n, _, hf => absurd hf (Nat.not_lt_zero k)
theorem p_sk_out {F : Nat} {t : Nat → Nat → Nat} {hs v lit sc sm : Nat → Int32} (ht : Tok t) (hP : plOk t hs v lit sc sm) (hF : 60 < F) :
    ∀ (k c fuel : Nat) (cells : Nat → Int64) (Q : Nat → Nat → Prop), c + k = t 0 0 → k < fuel → cellQ cells Q → ∃ cells', fX9_sky_L10 F (nI (t 0 0)) lit sc sm hs v fuel (nI c) cells = fX9_sky_L58 F (nI (t 0 0)) lit sc sm hs v F 0 0 cells' ∧ cellQ cells' (fun h x => Q h x ∨ ∃ c' k', c ≤ c' ∧ c' < t 0 0 ∧ k' < t 10 c' ∧ mkP t c' k' 0 h x)
  | 0, c, fuel + 1, cells, Q, e, _, hQ => by
    have hn := ht.1
    refine ⟨cells, ?_, fun h hh => bsL_iff (hQ h hh) (fun x _ => ⟨Or.inl, fun z => z.elim id (fun ⟨c', k', z1, z2, _⟩ => by omega)⟩)⟩
    rw [fX9_sky_L10, if_pos (nI_le (by omega) (by omega))]
  | k + 1, c, fuel + 1, cells, Q, e, hf, hQ => by
    have hn := ht.1
    have hc : c < t 0 0 := by omega
    obtain ⟨-, -, -, -, g4, -, -⟩ := ht.2.2.2.2.2.2.1 c hc
    obtain ⟨c1, m1, m2⟩ := p_sk_in (F := F) (k10 := fun x1 v_smokyCells => fX9_sky_L10 F (nI (t 0 0)) lit sc sm hs v fuel x1 v_smokyCells) ht hP hc hF (t 10 c) 0 F cells Q (by omega) (by omega) hQ
    obtain ⟨cells', f1, f2⟩ := p_sk_out (F := F) ht hP hF k (c + 1) fuel c1 _ (by omega) (by omega) m2
    refine ⟨cells', ?_, fun h hh => bsL_iff (f2 h hh) (fun x _ => ?_)⟩
    · rw [fX9_sky_L10, if_neg (nI_ge hc (by omega))]
      exact m1.trans f1
    · constructor
      · rintro ((z | ⟨k', z1, z2, z3⟩) | ⟨c', k', z1, z2⟩)
        · exact Or.inl z
        · exact Or.inr ⟨c, k', Nat.le_refl _, hc, z2, z3⟩
        · exact Or.inr ⟨c', k', by omega, z2⟩
      · rintro (z | ⟨c', k', z1, z2, z3, z4⟩)
        · exact Or.inl (Or.inl z)
        · by_cases e1 : c' = c
          · subst e1; exact Or.inl (Or.inr ⟨k', by omega, z3, z4⟩)
          · exact Or.inr ⟨c', k', by omega, z2, z3, z4⟩
  | k, c, 0, cells, Q, _, hf, _ => absurd hf (Nat.not_lt_zero k)
