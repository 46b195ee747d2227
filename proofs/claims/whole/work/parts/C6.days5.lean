/-! THE REFERENCE'S DAYS: day e of n chimneys is d = e * 25^(3 - n) -/
def p25 : Nat → Nat
  | 0 => 1
  | k + 1 => 25 * p25 k
theorem p_qi_L {F n : Nat} {a1 a2 : Int32} {all : Nat → Int32} (h0 : all 0 = nI n) (hn : n ≤ 3) : ∀ (k j fuel v : Nat), j + k = n → k < fuel → v < 15625 → fX10_quarterIn_L7 F all a1 a2 fuel (nI v) (nI j) = some (nI (v / p25 k % 25))
  | 0, j, fuel + 1, v, e, _, hv => by
    have e0 : all (0 : Int32).toNatClampNeg = nI n := h0
    rw [fX10_quarterIn_L7, e0, if_pos (nI_le (by omega) (by omega)), show v / p25 0 = v from Nat.div_one v]
    exact congrArg some (pk_rem (a := v) (d := 25) (by omega) (by decide) (by decide))
  | k + 1, j, fuel + 1, v, e, hf, hv => by
    have e0 : all (0 : Int32).toNatClampNeg = nI n := h0
    have d25 : nI v / (25 : Int32) = nI (v / 25) := pk_div (a := v) (d := 25) (by omega) (by decide) (by decide)
    rw [fX10_quarterIn_L7, e0, if_neg (nI_ge (by omega) (by omega)), ol_s, ol_s, d25, nI_1, p_qi_L h0 hn k (j + 1) fuel (v / 25) (by omega) (by omega) (by omega), Nat.div_div_eq_div_mul]
    rfl
  | k, j, 0, v, _, hf, _ => absurd hf (Nat.not_lt_zero k)
theorem oc_lt {n c e : Nat} (hn : n ≤ 3) (hc : c < n) (he : e < p25 n) : e / p25 (n - (c + 1)) % 25 = oc c (e * p25 (3 - n)) := by
  rcases (show (n = 1 ∧ c = 0) ∨ (n = 2 ∧ c = 0) ∨ (n = 2 ∧ c = 1) ∨ (n = 3 ∧ c = 0) ∨ (n = 3 ∧ c = 1) ∨ (n = 3 ∧ c = 2) by omega) with ⟨rfl, rfl⟩ | ⟨rfl, rfl⟩ | ⟨rfl, rfl⟩ | ⟨rfl, rfl⟩ | ⟨rfl, rfl⟩ | ⟨rfl, rfl⟩
  · have h : e < 25 := he
    show e / 1 % 25 = (if 0 = 0 then e * 625 / 625 else _)
    rw [if_pos rfl]; omega
  · have h : e < 625 := he
    show e / 25 % 25 = (if 0 = 0 then e * 25 / 625 else _)
    rw [if_pos rfl]; omega
  · have h : e < 625 := he
    show e / 1 % 25 = (if 1 = 0 then _ else if 1 = 1 then e * 25 / 25 % 25 else _)
    rw [if_neg (by decide), if_pos rfl]; omega
  · have h : e < 15625 := he
    show e / 625 % 25 = (if 0 = 0 then e * 1 / 625 else _)
    rw [if_pos rfl]; omega
  · show e / 25 % 25 = (if 1 = 0 then _ else if 1 = 1 then e * 1 / 25 % 25 else _)
    rw [if_neg (by decide), if_pos rfl]; omega
  · show e / 1 % 25 = (if 2 = 0 then _ else if 2 = 1 then _ else e * 1 % 25)
    rw [if_neg (by decide), if_neg (by decide)]; omega
theorem oc_ge {n c e : Nat} (hc : n ≤ c) (hc3 : c < 3) (he : e < p25 n) : oc c (e * p25 (3 - n)) = 0 := by
  rcases (show (n = 0 ∧ c = 0) ∨ (n = 0 ∧ c = 1) ∨ (n = 0 ∧ c = 2) ∨ (n = 1 ∧ c = 1) ∨ (n = 1 ∧ c = 2) ∨ (n = 2 ∧ c = 2) by omega) with ⟨rfl, rfl⟩ | ⟨rfl, rfl⟩ | ⟨rfl, rfl⟩ | ⟨rfl, rfl⟩ | ⟨rfl, rfl⟩ | ⟨rfl, rfl⟩
  · have h : e < 1 := he
    show (if 0 = 0 then e * 15625 / 625 else _) = 0
    rw [if_pos rfl]; omega
  · have h : e < 1 := he
    show (if 1 = 0 then _ else if 1 = 1 then e * 15625 / 25 % 25 else _) = 0
    rw [if_neg (by decide), if_pos rfl]; omega
  · have h : e < 1 := he
    show (if 2 = 0 then _ else if 2 = 1 then _ else e * 15625 % 25) = 0
    rw [if_neg (by decide), if_neg (by decide)]; omega
  · have h : e < 25 := he
    show (if 1 = 0 then _ else if 1 = 1 then e * 625 / 25 % 25 else _) = 0
    rw [if_neg (by decide), if_pos rfl]; omega
  · have h : e < 25 := he
    show (if 2 = 0 then _ else if 2 = 1 then _ else e * 625 % 25) = 0
    rw [if_neg (by decide), if_neg (by decide)]; omega
  · have h : e < 625 := he
    show (if 2 = 0 then _ else if 2 = 1 then _ else e * 25 % 25) = 0
    rw [if_neg (by decide), if_neg (by decide)]; omega
theorem p25_le {n : Nat} (hn : n ≤ 3) : p25 n ≤ 15625 := by
  rcases (show n = 0 ∨ n = 1 ∨ n = 2 ∨ n = 3 by omega) with rfl | rfl | rfl | rfl <;> decide
theorem oc_25 (c d : Nat) (hd : d < 15625) : oc c d < 25 := by
  unfold oc
  split
  · omega
  · split <;> omega
theorem p_qi {F n c e : Nat} {all : Nat → Int32} (h0 : all 0 = nI n) (hn : n ≤ 3) (hc : c < n) (he : e < p25 n) (hF : 60 < F) : fX10_quarterIn F all (nI e) (nI c) = some (nI (oc c (e * p25 (3 - n)))) := by
  have hp := p25_le hn
  unfold fX10_quarterIn
  rw [ol_s, nI_1, p_qi_L h0 hn (n - (c + 1)) (c + 1) F e (by omega) (by omega) (by omega), oc_lt hn hc he]
def dayB (t : Nat → Nat → Nat) (d c k : Nat) : Bool := !anyR (fun c => !optB t c (oc c d)) c k
theorem p_isDay_L {F e : Nat} {t : Nat → Nat → Nat} {all : Nat → Int32} (ht : Tok t) (hM : tM t all 0) (hn : t 0 0 ≤ 3) (he : e < p25 (t 0 0)) (hF : 60 < F) : ∀ (k c fuel : Nat), c + k = t 0 0 → k < fuel → fX10_isDay_L2 F all (nI e) fuel (nI c) = some (bI (dayB t (e * p25 (3 - t 0 0)) c k))
  | 0, c, fuel + 1, h, _ => by
    have e0 : all (0 : Int32).toNatClampNeg = nI (t 0 0) := hM.1 0 (by decide)
    rw [fX10_isDay_L2, e0, if_pos (nI_le (by omega) (by omega))]; rfl
  | k + 1, c, fuel + 1, h, hf => by
    have hc : c < t 0 0 := by omega
    have e0 : all (0 : Int32).toNatClampNeg = nI (t 0 0) := hM.1 0 (by decide)
    obtain ⟨-, -, m2, m3, -, -, -⟩ := hM.2.1 c hc
    rw [Nat.zero_add] at m2 m3
    obtain ⟨-, -, g2, g3, -, -, -⟩ := ht.2.2.2.2.2.2.1 c hc
    have ih := p_isDay_L (F := F) ht hM hn he hF k (c + 1) fuel (by omega) (by omega)
    have hs : dayB t (e * p25 (3 - t 0 0)) c (k + 1) = (optB t c (oc c (e * p25 (3 - t 0 0))) && dayB t (e * p25 (3 - t 0 0)) (c + 1) k) := by
      unfold dayB
      rw [anyR_s]
      cases optB t c (oc c (e * p25 (3 - t 0 0))) <;> simp
    have hq : oc c (e * p25 (3 - t 0 0)) < 25 := by
      rw [← oc_lt hn hc he]
      exact Nat.mod_lt _ (by decide)
    rw [fX10_isDay_L2, e0, if_neg (nI_ge hc (by omega)), p_qi (hM.1 0 (by decide)) hn hc he hF, ob_s, ob_s, hs]
    unfold fX10_isDay_L39
    simp only [ol_s, nI_1]
    generalize oc c (e * p25 (3 - t 0 0)) = q at hq
    by_cases hz : q = 0
    · subst hz
      rw [if_pos (show nI 0 ≤ 0 from nI_le (Nat.le_refl 0) (by decide)), ih]
      simp [optB]
    · obtain ⟨p, rfl⟩ : ∃ p, q = p + 1 := ⟨q - 1, by omega⟩
      have hmay : mayB t c (nI p) = optB t c (p + 1) := by
        unfold mayB optB
        rw [nI_toInt (by omega)]
        rw [Bool.eq_iff_iff]
        simp
        omega
      rw [if_neg (nI_nle (by omega) (by omega)), nI_pred, p_isTime ht hc m2 m3, ob_s, hmay]
      cases optB t c (p + 1) with
      | false => rw [bI_0 rfl, if_pos rfl]; rfl
      | true => rw [bI_1 rfl, if_neg one0, ih, Bool.true_and]
  | k, c, 0, _, hf => absurd hf (Nat.not_lt_zero k)
/-- soot by chimney, option and place, of any option -/
def sv3 (t : Nat → Nat → Nat) (c q x : Nat) : Nat := if q = 0 then 0 else sumL (soG x) (fireL t (tW t) 0 c (q - 1))
theorem sv3_shr {t : Nat → Nat → Nat} {c q x : Nat} (h : optB t c q = true) : sv3 t c q x = shr t c q x := by
  unfold sv3 shr
  by_cases hq : q = 0
  · rw [if_pos hq, if_neg (fun z => z.1 hq)]
  · rw [if_neg hq, if_pos ⟨hq, h⟩]
def sfOk (t : Nat → Nat → Nat) (sf : Nat → Int32) (c q : Nat) : Prop := ∀ x, x < 40 → sf (1000 * c + 40 * q + x) = nI (sv3 t c q x)
theorem p_lS_x {F c q : Nat} {t : Nat → Nat → Nat} {all his los pm pf : Nat → Int32} {L : List Nat} {k6 : Int32 → (Nat → Int32) → (Nat → Int32) → (Nat → Int32) → (Nat → Int32) → (Nat → Int32) → Option ((Nat → Int32) × (Nat → Int32) × (Nat → Int32) × (Nat → Int32) × (Nat → Int32))} {k18 : Int32 → Int32 → (Nat → Int32) → (Nat → Int32) → (Nat → Int32) → (Nat → Int32) → (Nat → Int32) → Option ((Nat → Int32) × (Nat → Int32) × (Nat → Int32) × (Nat → Int32) × (Nat → Int32))} (hc : c < 3) (hq : q < 25) (hL : frow pm pf 131 L) (hb : bdL L) (hv : ∀ x, sumL (soG x) L = sv3 t c q x) (hF : 60 < F) :
    ∀ (k x fuel : Nat) (sf : Nat → Int32), x + k = 40 → k < fuel → (∀ y, y < x → sf (1000 * c + 40 * q + y) = nI (sv3 t c q y)) → ∃ sf', fX10_laysSheets_L51 F all k6 k18 fuel (nI c) (nI q) (nI x) his los pm pf sf = k18 (nI c) (nI (q + 1)) his los pm pf sf' ∧ sfOk t sf' c q ∧ ∀ j, (j < 1000 * c + 40 * q ∨ 1000 * c + 40 * q + 40 ≤ j) → sf' j = sf j
  | 0, x, fuel + 1, sf, e, _, h => ⟨sf, by rw [fX10_laysSheets_L51, show x = 40 by omega, if_pos (show (40 : Int32) ≤ nI 40 from nI_le (Nat.le_refl 40) (by decide)), ol_s, nI_1], fun y hy => h y (by omega), fun _ _ => rfl⟩
  | k + 1, x, fuel + 1, sf, e, hf, h => by
    have ix : ((1000 : Int32) * nI c + (40 : Int32) * nI q) + nI x = nI (1000 * c + 40 * q + x) := by
      rw [show (1000 : Int32) = nI 1000 from rfl, show (40 : Int32) = nI 40 from rfl, pk_mul, pk_mul, nI_add, nI_add]
    have hso : fX10_sootOf F pm pf 131 (nI x) = some (nI (sv3 t c q x)) := by
      refine (show fX10_sootOf F pm pf 131 (nI x) = _ from p_sootOf (F := F) (r := 131) (by decide) hL hb (show x < 40 by omega) hF).trans ?_
      rw [hv]
    obtain ⟨sf', f1, f2, f3⟩ := p_lS_x (F := F) (all := all) (his := his) (los := los) (k6 := k6) (k18 := k18) hc hq hL hb hv hF k (x + 1) fuel (upd sf (1000 * c + 40 * q + x) (nI (sv3 t c q x))) (by omega) (by omega) (fun y hy => by
      by_cases e1 : y = x
      · subst e1; rw [pk_us]
      · rw [pk_un (by omega)]; exact h y (by omega))
    refine ⟨sf', ?_, f2, fun j hj => by rw [f3 j hj, pk_un (by omega)]⟩
    rw [fX10_laysSheets_L51, if_neg (show ¬ (40 : Int32) ≤ nI x from nI_ge (a := x) (b := 40) (by omega) (by decide)), hso, ob_s, ix, vb_nI (by omega) (by decide), og_s, ol_s, ol_s, nI_1, nI_clamp (by omega)]
    exact f1
  | k, x, 0, sf, _, hf, _ => absurd hf (Nat.not_lt_zero k)
theorem p_lS_q {F c : Nat} {t : Nat → Nat → Nat} {all his los : Nat → Int32} {k6 : Int32 → (Nat → Int32) → (Nat → Int32) → (Nat → Int32) → (Nat → Int32) → (Nat → Int32) → Option ((Nat → Int32) × (Nat → Int32) × (Nat → Int32) × (Nat → Int32) × (Nat → Int32))} (ht : Tok t) (hM : tM t all 0) (hn : t 0 0 ≤ 3) (hc : c < t 0 0) (hlo : ∀ q, q < 48 → los q = nI (tW t 0 q)) (hhi : ∀ q, q < 48 → his q = nI (tW t 1 q)) (hF : 60 < F) :
    ∀ (k q fuel : Nat) (pm pf sf : Nat → Int32), q + k = 25 → k < fuel → (∀ q', q' < q → sfOk t sf c q') → ∃ pm' pf' sf', fX10_laysSheets_L18 F all k6 fuel (nI c) (nI q) his los pm pf sf = k6 (nI (c + 1)) his los pm' pf' sf' ∧ (∀ q', q' < 25 → sfOk t sf' c q') ∧ ∀ j, (j < 1000 * c ∨ 1000 * c + 1000 ≤ j) → sf' j = sf j
  | 0, q, fuel + 1, pm, pf, sf, e, _, h => ⟨pm, pf, sf, by rw [fX10_laysSheets_L18, show q = 25 by omega, if_pos (show (25 : Int32) ≤ nI 25 from nI_le (Nat.le_refl 25) (by decide)), ol_s, nI_1], fun q' hq' => h q' (by omega), fun _ _ => rfl⟩
  | k + 1, q, fuel + 1, pm, pf, sf, e, hf, h => by
    have go : ∀ (pm1 pf1 : Nat → Int32) (L : List Nat), frow pm1 pf1 131 L → bdL L → (∀ x, sumL (soG x) L = sv3 t c q x) → ∃ pm' pf' sf', fX10_laysSheets_L49 F all k6 (fun x1 x2 v_highs v_lows v_puffMany v_puffsOf v_sootFor => fX10_laysSheets_L18 F all k6 fuel x1 x2 v_highs v_lows v_puffMany v_puffsOf v_sootFor) (nI c) (nI q) his los pm1 pf1 sf = k6 (nI (c + 1)) his los pm' pf' sf' ∧ (∀ q', q' < 25 → sfOk t sf' c q') ∧ ∀ j, (j < 1000 * c ∨ 1000 * c + 1000 ≤ j) → sf' j = sf j := by
      intro pm1 pf1 L hL hb hv
      obtain ⟨sf1, s1, s2, s3⟩ := p_lS_x (F := F) (c := c) (q := q) (all := all) (his := his) (los := los) (k6 := k6) (k18 := fun x1 x2 v_highs v_lows v_puffMany v_puffsOf v_sootFor => fX10_laysSheets_L18 F all k6 fuel x1 x2 v_highs v_lows v_puffMany v_puffsOf v_sootFor) (by omega) (by omega) hL hb hv hF 40 0 F sf (by omega) (by omega) (fun y hy => by omega)
      obtain ⟨pm', pf', sf', f1, f2, f3⟩ := p_lS_q (F := F) (k6 := k6) ht hM hn hc hlo hhi hF k (q + 1) fuel pm1 pf1 sf1 (by omega) (by omega) (fun q' hq' => by
        by_cases e1 : q' = q
        · subst e1; exact s2
        · intro x hx
          rw [s3 _ (by omega)]
          exact h q' (by omega) x hx)
      exact ⟨pm', pf', sf', s1.trans f1, f2, fun j hj => by rw [f3 j hj, s3 j (by omega)]⟩
    rw [fX10_laysSheets_L18, if_neg (show ¬ (25 : Int32) ≤ nI q from nI_ge (a := q) (b := 25) (by omega) (by decide)), ol_s]
    cases q with
    | zero =>
      rw [if_pos (show nI 0 ≤ 0 from nI_le (Nat.le_refl 0) (by decide))]
      exact go _ pf [] ⟨pk_us, trivial⟩ ⟨Nat.zero_le _, fun p hp => by cases hp⟩ (fun x => rfl)
    | succ p =>
      obtain ⟨pm1, pf1, e1, e2, -, -⟩ := p_laysFire (F := F) (r := 131) (c := c) (lit := p) (up := 0) (pm := upd pm (131 : Int32).toNatClampNeg 0) (pf := pf) ht hM hc (by omega) (by omega) (tW_le ht) hlo hhi (by omega) (by omega)
      have e1' : fX10_laysFire F all his los (upd pm (131 : Int32).toNatClampNeg 0) pf 131 (nI c) (nI p) 0 = some (pm1, pf1) := e1
      rw [if_neg (nI_nle (by omega) (by omega)), nI_pred, e1', ob_s]
      exact go pm1 pf1 _ e2 (fireL_bd ht hc (by omega) (by omega)) (fun x => rfl)
  | k, q, 0, pm, pf, sf, _, hf, _ => absurd hf (Nat.not_lt_zero k)
theorem p_laysSheets_L {F : Nat} {t : Nat → Nat → Nat} {all his los : Nat → Int32} (ht : Tok t) (hM : tM t all 0) (hn : t 0 0 ≤ 3) (hlo : ∀ q, q < 48 → los q = nI (tW t 0 q)) (hhi : ∀ q, q < 48 → his q = nI (tW t 1 q)) (hF : 60 < F) :
    ∀ (k c fuel : Nat) (pm pf sf : Nat → Int32), c + k = t 0 0 → k < fuel → (∀ c', c' < c → ∀ q, q < 25 → sfOk t sf c' q) → ∃ pm' pf' sf', fX10_laysSheets_L6 F all fuel (nI c) his los pm pf sf = some (his, los, pm', pf', sf') ∧ ∀ c', c' < t 0 0 → ∀ q, q < 25 → sfOk t sf' c' q
  | 0, c, fuel + 1, pm, pf, sf, e, _, h => by
    have e0 : all (0 : Int32).toNatClampNeg = nI (t 0 0) := hM.1 0 (by decide)
    exact ⟨pm, pf, sf, by rw [fX10_laysSheets_L6, e0, if_pos (nI_le (by omega) (by omega))], fun c' hc' => h c' (by omega)⟩
  | k + 1, c, fuel + 1, pm, pf, sf, e, hf, h => by
    have e0 : all (0 : Int32).toNatClampNeg = nI (t 0 0) := hM.1 0 (by decide)
    obtain ⟨pm1, pf1, sf1, s1, s2, s3⟩ := p_lS_q (F := F) (k6 := fun x1 v_highs v_lows v_puffMany v_puffsOf v_sootFor => fX10_laysSheets_L6 F all fuel x1 v_highs v_lows v_puffMany v_puffsOf v_sootFor) ht hM hn (show c < t 0 0 by omega) hlo hhi hF 25 0 F pm pf sf (by omega) (by omega) (fun q hq => by omega)
    obtain ⟨pm', pf', sf', f1, f2⟩ := p_laysSheets_L (F := F) ht hM hn hlo hhi hF k (c + 1) fuel pm1 pf1 sf1 (by omega) (by omega) (fun c' hc' q hq x hx => by
      by_cases e1 : c' = c
      · subst e1; exact s2 q hq x hx
      · rw [s3 _ (by omega)]; exact h c' (by omega) q hq x hx)
    refine ⟨pm', pf', sf', ?_, f2⟩
    rw [fX10_laysSheets_L6, e0, if_neg (nI_ge (by omega) (by omega))]
    exact s1.trans f1
  | k, c, 0, pm, pf, sf, _, hf, _ => absurd hf (Nat.not_lt_zero k)
theorem p_laysSheets {F : Nat} {t : Nat → Nat → Nat} {all his los pm pf sf : Nat → Int32} (ht : Tok t) (hM : tM t all 0) (hn : t 0 0 ≤ 3) (hF : 60 < F) : ∃ his' los' pm' pf' sf', fX10_laysSheets F all his los pm pf sf = some (his', los', pm', pf', sf') ∧ ∀ c', c' < t 0 0 → ∀ q, q < 25 → sfOk t sf' c' q := by
  have h0 : ∀ q, q < 48 → wT los t 0 0 q = nI (tW t 0 q) := fun q hq => wT_in hq
  have h1 : ∀ q, q < 48 → wT his t 1 0 q = nI (tW t 1 q) := fun q hq => wT_in hq
  obtain ⟨pm', pf', sf', f1, f2⟩ := p_laysSheets_L (F := F) ht hM hn h0 h1 hF (t 0 0) 0 F pm pf sf (by omega) (by omega) (fun c' hc' => by omega)
  refine ⟨wT his t 1 0, wT los t 0 0, pm', pf', sf', ?_, f2⟩
  unfold fX10_laysSheets
  rw [p_laysWinds ht hM (by omega), ob_s]
  exact f1
