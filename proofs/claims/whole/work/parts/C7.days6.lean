theorem sub0 (x : Int64) : x - lN 0 = x := by
  show x - 0 = x
  exact Int64.sub_zero x
theorem sub_z {x y : Int64} : x - y = 0 ↔ y = x := by
  constructor
  · intro h
    have := Int64.sub_add_cancel x y
    rw [h, Int64.zero_add] at this
    exact this
  · intro h; subst h; exact Int64.sub_self y
/-- what is left of a told amount after chimneys c .. -/
def sbR (s : Nat → Nat) : Nat → Nat → Int64 → Int64
  | 0, _, x => x
  | k + 1, c, x => sbR s k (c + 1) (x - lN (s c))
theorem p_ft_in {F r i e T : Nat} {t : Nat → Nat → Nat} {X : Nat → Nat} {all many sf : Nat → Int32} {nums : Nat → Int64} {k2 : Int32 → Option Int32} (hM : tM t all 0) (hn : t 0 0 ≤ 3) (he : e < p25 (t 0 0)) (hr : r < 4) (hi : i < T) (hT : T ≤ 20) (hx : X i < 40) (hxn : nums (40 * r + 2 * i) = lN (X i)) (hsf : ∀ c', c' < t 0 0 → ∀ q, q < 25 → sfOk t sf c' q) (ht : Tok t) (hF : 60 < F) :
    ∀ (k c fuel : Nat) (x4 : Int64), c + k = t 0 0 → k < fuel → fX10_fits_L30 F all nums many sf (nI r) (nI e) k2 fuel (nI (2 * i)) x4 (nI c) = if sbR (fun c => sv3 t c (oc c (e * p25 (3 - t 0 0))) (X i)) k c x4 = 0 then k2 (nI (2 * (i + 1))) else some 0
  | 0, c, fuel + 1, x4, h, _ => by
    have e0 : all (0 : Int32).toNatClampNeg = nI (t 0 0) := hM.1 0 (by decide)
    rw [fX10_fits_L30, e0, if_pos (nI_le (by omega) (by omega)), ol_s, show nI (2 * i) + 2 = nI (2 * (i + 1)) from nI_add (2 * i) 2]
    have hs0 : sbR (fun c => sv3 t c (oc c (e * p25 (3 - t 0 0))) (X i)) 0 c x4 = x4 := rfl
    rw [hs0]
    by_cases hz : x4 = 0
    · rw [if_pos ((cmp0 _ _).mpr hz), if_pos hz]
    · rw [if_neg (fun z => hz ((cmp0 _ _).mp z)), if_neg hz]
  | k + 1, c, fuel + 1, x4, h, hf => by
    have hc : c < t 0 0 := by omega
    have e0 : all (0 : Int32).toNatClampNeg = nI (t 0 0) := hM.1 0 (by decide)
    have hq : oc c (e * p25 (3 - t 0 0)) < 25 := by
      rw [← oc_lt hn hc he]
      exact Nat.mod_lt _ (by decide)
    have ix : (40 : Int32) * nI r + nI (2 * i) = nI (40 * r + 2 * i) := by
      rw [show (40 : Int32) = nI 40 from rfl, pk_mul, nI_add]
    rw [fX10_fits_L30, e0, if_neg (nI_ge hc (by omega)), p_qi (hM.1 0 (by decide)) hn hc he hF, ob_s, ix, vb_nI (by omega) (by decide), og_s, nI_clamp (by omega), hxn, lN_i]
    have ih := fun x => p_ft_in (F := F) (k2 := k2) (many := many) hM hn he hr hi hT hx hxn hsf ht hF k (c + 1) fuel x (by omega) (by omega)
    have hs : ∀ x, sbR (fun c => sv3 t c (oc c (e * p25 (3 - t 0 0))) (X i)) (k + 1) c x = sbR (fun c => sv3 t c (oc c (e * p25 (3 - t 0 0))) (X i)) k (c + 1) (x - lN (sv3 t c (oc c (e * p25 (3 - t 0 0))) (X i))) := fun _ => rfl
    rw [hs]
    have hv := hsf c hc _ hq (X i) hx
    generalize hqe : oc c (e * p25 (3 - t 0 0)) = q at hq hv
    have ix2 : ((1000 : Int32) * nI c + (40 : Int32) * nI q) + nI (X i) = nI (1000 * c + 40 * q + X i) := by
      rw [show (1000 : Int32) = nI 1000 from rfl, show (40 : Int32) = nI 40 from rfl, pk_mul, pk_mul, nI_add, nI_add]
    have hb : sv3 t c q (X i) < 2 ^ 20 := by
      unfold sv3
      by_cases z : q = 0
      · rw [if_pos z]; decide
      · rw [if_neg z]
        have h1 := sumL_le (g := soG (X i)) (M := 9) (fireL t (tW t) 0 c (q - 1)) (fun p _ => by unfold soG; split <;> omega)
        have h2 := fireL_len (Wd := tW t) (up := 0) (lit := q - 1) ht hc
        omega
    rw [ix2, vb_nI (by omega) (by decide), og_s, ol_s, ol_s, nI_1, nI_clamp (by omega), hv, nI_l (by omega)]
    exact ih _
  | k, c, 0, x4, _, hf => absurd hf (Nat.not_lt_zero k)
theorem p_ft_out {F r e T : Nat} {t : Nat → Nat → Nat} {X : Nat → Nat} {all many sf : Nat → Int32} {nums : Nat → Int64} (hM : tM t all 0) (hn : t 0 0 ≤ 3) (he : e < p25 (t 0 0)) (hr : r < 4) (hT : T ≤ 20) (hmany : many r = nI (2 * T)) (hx : ∀ i, i < T → X i < 40 ∧ nums (40 * r + 2 * i) = lN (X i)) (hsf : ∀ c', c' < t 0 0 → ∀ q, q < 25 → sfOk t sf c' q) (ht : Tok t) (hF : 60 < F) :
    ∀ (k i fuel : Nat), i + k = T → k < fuel → fX10_fits_L2 F all nums many sf (nI r) (nI e) fuel (nI (2 * i)) = some (bI (!anyR (fun i => !decide (sbR (fun c => sv3 t c (oc c (e * p25 (3 - t 0 0))) (X i)) (t 0 0) 0 (nums (40 * r + 2 * i + 1)) = 0)) i k))
  | 0, i, fuel + 1, h, _ => by
    rw [fX10_fits_L2, vb_nI hr (by decide), og_s, nI_clamp (by omega), hmany, if_pos (nI_le (by omega) (by omega))]; rfl
  | k + 1, i, fuel + 1, h, hf => by
    have ix : ((40 : Int32) * nI r + nI (2 * i)) + (1 : Int32) = nI (40 * r + 2 * i + 1) := by
      rw [show (40 : Int32) = nI 40 from rfl, pk_mul, nI_add, nI_1]
    have hin := p_ft_in (F := F) (many := many) (k2 := fun x3 => fX10_fits_L2 F all nums many sf (nI r) (nI e) fuel x3) hM hn he hr (show i < T by omega) hT (hx i (by omega)).1 (hx i (by omega)).2 hsf ht hF (t 0 0) 0 F (nums (40 * r + 2 * i + 1)) (by omega) (by omega)
    rw [fX10_fits_L2, vb_nI hr (by decide), og_s, nI_clamp (by omega), hmany, if_neg (nI_ge (by omega) (by omega)), ix, vb_nI (by omega) (by decide), og_s, ol_s, nI_clamp (by omega), anyR_s]
    refine hin.trans ?_
    by_cases hz : sbR (fun c => sv3 t c (oc c (e * p25 (3 - t 0 0))) (X i)) (t 0 0) 0 (nums (40 * r + 2 * i + 1)) = 0
    · have hd : (!decide (sbR (fun c => sv3 t c (oc c (e * p25 (3 - t 0 0))) (X i)) (t 0 0) 0 (nums (40 * r + 2 * i + 1)) = 0)) = false := by simp [hz]
      rw [if_pos hz, hd, Bool.false_or]
      exact p_ft_out hM hn he hr hT hmany hx hsf ht hF k (i + 1) fuel (by omega) (by omega)
    · have hd : (!decide (sbR (fun c => sv3 t c (oc c (e * p25 (3 - t 0 0))) (X i)) (t 0 0) 0 (nums (40 * r + 2 * i + 1)) = 0)) = true := by simp [hz]
      rw [if_neg hz, hd, Bool.true_or]; rfl
  | k, i, 0, _, hf => absurd hf (Nat.not_lt_zero k)
theorem sbR_iff {n : Nat} {s : Nat → Nat} {x : Int64} (hn : n ≤ 3) (hs : ∀ c, n ≤ c → c < 3 → s c = 0) : sbR s n 0 x = 0 ↔ lN (s 2) = (x - lN (s 0)) - lN (s 1) := by
  rcases (show n = 0 ∨ n = 1 ∨ n = 2 ∨ n = 3 by omega) with rfl | rfl | rfl | rfl
  · rw [hs 0 (by omega) (by omega), hs 1 (by omega) (by omega), hs 2 (by omega) (by omega), sub0, sub0]
    exact ⟨fun z => z.symm, fun z => z.symm⟩
  · rw [hs 1 (by omega) (by omega), hs 2 (by omega) (by omega), sub0]
    exact ⟨fun z => z.symm, fun z => z.symm⟩
  · rw [hs 2 (by omega) (by omega)]
    exact ⟨fun z => z.symm, fun z => z.symm⟩
  · show ((x - lN (s 0)) - lN (s 1)) - lN (s 2) = 0 ↔ _
    exact sub_z
/-- day e fits on the reference's side as day d does on the class' -/
theorem p_dayfit {F r e T : Nat} {t : Nat → Nat → Nat} {X : Nat → Nat} {Z : Nat → Int64} {all many sf : Nat → Int32} {nums : Nat → Int64} (hM : tM t all 0) (hn : t 0 0 ≤ 3) (he : e < p25 (t 0 0)) (hr : r < 4) (hT : T ≤ 20) (hmany : many r = nI (2 * T)) (hx : ∀ i, i < T → X i < 40 ∧ nums (40 * r + 2 * i) = lN (X i)) (hZ : ∀ i, i < T → Z i = nums (40 * r + 2 * i + 1)) (hsf : ∀ c', c' < t 0 0 → ∀ q, q < 25 → sfOk t sf c' q) (ht : Tok t) (hF : 60 < F) : ∃ b1 b2, fX10_isDay F all (nI e) = some (bI b1) ∧ fX10_fits F all nums many sf (nI r) (nI e) = some (bI b2) ∧ (b1 && b2) = fitB t X Z T (e * p25 (3 - t 0 0)) := by
  refine ⟨_, _, p_isDay_L ht hM hn he hF (t 0 0) 0 F (by omega) (by omega), p_ft_out hM hn he hr hT hmany hx hsf ht hF T 0 F (by omega) (by omega), ?_⟩
  have hopt : ∀ c, t 0 0 ≤ c → c < 3 → optB t c (oc c (e * p25 (3 - t 0 0))) = true := fun c h1 h2 => by
    rw [oc_ge h1 h2 he]; simp [optB]
  have o0 : e * p25 (3 - t 0 0) / 625 = oc 0 (e * p25 (3 - t 0 0)) := rfl
  have o1 : e * p25 (3 - t 0 0) / 25 % 25 = oc 1 (e * p25 (3 - t 0 0)) := rfl
  have o2 : e * p25 (3 - t 0 0) % 25 = oc 2 (e * p25 (3 - t 0 0)) := rfl
  unfold fitB
  rw [o0, o1, o2]
  have hoc : ∀ c, t 0 0 ≤ c → c < 3 → oc c (e * p25 (3 - t 0 0)) = 0 := fun c h1 h2 => oc_ge h1 h2 he
  generalize e * p25 (3 - t 0 0) = d at hopt hoc
  have hday : dayB t d 0 (t 0 0) = (optB t 0 (oc 0 d) && (optB t 1 (oc 1 d) && optB t 2 (oc 2 d))) := by
    rw [Bool.eq_iff_iff]
    unfold dayB
    rw [Bool.not_eq_true', Bool.and_eq_true, Bool.and_eq_true]
    constructor
    · intro h
      have g : ∀ c, c < 3 → optB t c (oc c d) = true := fun c hc => by
        rcases Nat.lt_or_ge c (t 0 0) with q | q
        · cases hb : optB t c (oc c d) with
          | true => rfl
          | false =>
            have := (anyR_iff (p := fun c => !optB t c (oc c d)) (t 0 0) 0).mpr ⟨c, by omega, by omega, by simp [hb]⟩
            rw [h] at this; cases this
        · exact hopt c q hc
      exact ⟨g 0 (by omega), g 1 (by omega), g 2 (by omega)⟩
    · rintro ⟨a, b, c⟩
      cases hb : anyR (fun c => !optB t c (oc c d)) 0 (t 0 0) with
      | false => rfl
      | true =>
        obtain ⟨j, j1, j2, j3⟩ := (anyR_iff _ _).mp hb
        rcases (show j = 0 ∨ j = 1 ∨ j = 2 by omega) with rfl | rfl | rfl
        · simp [a] at j3
        · simp [b] at j3
        · simp [c] at j3
  rw [hday]
  cases v0 : optB t 0 (oc 0 d) with
  | false => rfl
  | true =>
    cases v1 : optB t 1 (oc 1 d) with
    | false => rfl
    | true =>
      cases v2 : optB t 2 (oc 2 d) with
      | false => rfl
      | true =>
        rw [Bool.true_and, Bool.true_and, Bool.true_and, Bool.true_and]
        unfold okB
        rw [Bool.true_and]
        congr 1
        refine anyR_congr T 0 (fun i _ hi => ?_)
        unfold misB
        congr 1
        refine decide_eq_decide.mpr ?_
        have hsb := sbR_iff (n := t 0 0) (s := fun c => sv3 t c (oc c d) (X i)) (x := nums (40 * r + 2 * i + 1)) hn (fun c c1 c2 => by
          show sv3 t c (oc c d) (X i) = 0
          unfold sv3
          exact if_pos (hoc c c1 c2))
        refine hsb.trans ?_
        show lN (sv3 t 2 (oc 2 d) (X i)) = (nums (40 * r + 2 * i + 1) - lN (sv3 t 0 (oc 0 d) (X i))) - lN (sv3 t 1 (oc 1 d) (X i)) ↔ _
        rw [sv3_shr v0, sv3_shr v1, sv3_shr v2, hZ i (by omega)]
