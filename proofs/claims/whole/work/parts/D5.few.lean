theorem frow_rng {pm pf pm' pf' : Nat → Int32} {s : Nat} {L : List Nat} (hL : L.length ≤ 54) (h : frow pm pf s L) (h1 : pm' s = pm s) (h2 : ∀ p, 54 * s ≤ p → p < 54 * s + 54 → pf' p = pf p) : frow pm' pf' s L :=
  ⟨by rw [h1]; exact h.1, rowAt_congr L _ (fun j j1 j2 => h2 j (by omega) (by omega)) h.2⟩
theorem p_lf75 {F c m : Nat} {t : Nat → Nat → Nat} {Wd : Nat → Nat → Nat} {all his los ap few fo : Nat → Int32} {k28 : Int32 → Int32 → (Nat → Int32) → (Nat → Int32) → (Nat → Int32) → (Nat → Int32) → (Nat → Int32) → (Nat → Int32) → (Nat → Int32) → Option (Int32 × Int32 × (Nat → Int32) × (Nat → Int32) × (Nat → Int32) × (Nat → Int32) × (Nat → Int32) × (Nat → Int32) × (Nat → Int32))} (ht : Tok t) (hM : tM t all 0) (hc : c < t 0 0) (hm : m < 5) (hWd : ∀ k q, Wd k q ≤ 6) (hlo : ∀ q, q < 48 → los q = nI (Wd 0 q)) (hhi : ∀ q, q < 48 → his q = nI (Wd 1 q)) (hF : 60 < F) :
    ∀ (n j fuel : Nat) (pm pf : Nat → Int32), j + n = 24 → n < fuel → ∃ pm' pf' : Nat → Int32, fX10_laysFew_L75 F all k28 fuel (nI c) (nI j) (nI m) ap few fo his los pm pf = k28 (nI (c + 1)) (nI (m + 1)) ap few fo his los pm' pf' ∧ (∀ q, j ≤ q → q < 24 → frow pm' pf' (10 + 24 * m + q) (fireL t Wd 0 c q)) ∧ (∀ s, (s < 10 + 24 * m + j ∨ 10 + 24 * m + 24 ≤ s) → pm' s = pm s) ∧ ∀ p, (p < 54 * (10 + 24 * m + j) ∨ 54 * (10 + 24 * m + 24) ≤ p) → pf' p = pf p
  | 0, j, fuel + 1, pm, pf, h, _ => by
    refine ⟨pm, pf, ?_, fun q a1 a2 => by omega, fun _ _ => rfl, fun _ _ => rfl⟩
    rw [fX10_laysFew_L75, if_pos (show (24 : Int32) ≤ nI j from nI_le (a := 24) (b := j) (by omega) (by omega)), ol_s, fX10_laysFew_L116, ol_s, nI_1, nI_1]
  | n + 1, j, fuel + 1, pm, pf, h, hf => by
    obtain ⟨pm1, pf1, e1, e2, e3, e4⟩ := p_laysFire (F := F) (r := 10 + 24 * m + j) (c := c) (lit := j) (up := 0) (pm := pm) (pf := pf) ht hM hc (by omega) (by omega) hWd hlo hhi (by omega) (by omega)
    obtain ⟨pm', pf', f1, f2, f3, f4⟩ := p_lf75 (F := F) (ap := ap) (few := few) (fo := fo) (k28 := k28) ht hM hc hm hWd hlo hhi hF n (j + 1) fuel pm1 pf1 (by omega) (by omega)
    refine ⟨pm', pf', ?_, fun q a1 a2 => ?_, fun s hs => ?_, fun p hp => ?_⟩
    · have er : (10 : Int32) + (24 : Int32) * nI m + nI j = nI (10 + 24 * m + j) := by
        rw [show (24 : Int32) = nI 24 from rfl, show (10 : Int32) = nI 10 from rfl, pk_mul, nI_add, nI_add]
      rw [fX10_laysFew_L75, if_neg (show ¬ (24 : Int32) ≤ nI j from nI_ge (a := j) (b := 24) (by omega) (by decide)), er, show fX10_laysFire F all his los pm pf (nI (10 + 24 * m + j)) (nI c) (nI j) 0 = some (pm1, pf1) from e1, ob_s, ol_s, nI_1]
      exact f1
    · by_cases e : q = j
      · subst e
        exact frow_rng (fireL_len ht hc) e2 (f3 _ (by omega)) (fun p p1 p2 => f4 p (by omega))
      · exact f2 q (by omega) a2
    · rw [f3 s (by omega), e3 s (by omega)]
    · rw [f4 p (by omega), e4 p (by omega)]
  | n, j, 0, pm, pf, _, hf => absurd hf (Nat.not_lt_zero n)
/-- the rows of the fires there are, and of those that may come -/
def fewR (t : Nat → Nat → Nat) (Wd : Nat → Nat → Nat) (pm pf : Nat → Int32) (m : Nat) : Prop := (∀ d, d < t 0 0 → frow pm pf d (lfL t Wd d)) ∧ ∀ k, k < m → ∀ q, q < 24 → frow pm pf (10 + 24 * k + q) (fireL t Wd 0 (uW t k) q)
theorem p_lf28 {F : Nat} {t : Nat → Nat → Nat} {Wd : Nat → Nat → Nat} {all his los : Nat → Int32} (ht : Tok t) (hM : tM t all 0) (hWd : ∀ k q, Wd k q ≤ 6) (hlo : ∀ q, q < 48 → los q = nI (Wd 0 q)) (hhi : ∀ q, q < 48 → his q = nI (Wd 1 q)) (hU : uN t ≤ 5) (hF : 60 < F) :
    ∀ (n i fuel : Nat) (ap few fo pm pf : Nat → Int32), i + n = t 0 0 → n < fuel → (∀ k, k < fitN (uB t) i → few k = nI (uW t k) ∧ bsI (fo k) (freeP t Wd (uW t k))) → fewR t Wd pm pf (fitN (uB t) i) → ∃ few' fo' pm' pf' : Nat → Int32, fX10_laysFew_L28 F all fuel (nI i) (nI (fitN (uB t) i)) ap few fo his los pm pf = fX10_laysFew_L124 F all F 0 (nI (uN t)) ap few' fo' his los pm' pf' ∧ (∀ k, k < uN t → few' k = nI (uW t k) ∧ bsI (fo' k) (freeP t Wd (uW t k))) ∧ fewR t Wd pm' pf' (uN t)
  | 0, i, fuel + 1, ap, few, fo, pm, pf, h, _, h1, h2 => by
    have hn := ht.1
    have hu : fitN (uB t) i = uN t := by rw [show i = t 0 0 by omega]; rfl
    have e0 : all (0 : Int32).toNatClampNeg = nI (t 0 0) := hM.1 0 (by decide)
    rw [hu] at h1 h2 ⊢
    refine ⟨few, fo, pm, pf, ?_, h1, h2⟩
    rw [fX10_laysFew_L28, e0, if_pos (nI_le (by omega) (by omega))]
  | n + 1, i, fuel + 1, ap, few, fo, pm, pf, h, hf, h1, h2 => by
    have hn := ht.1
    have hi : i < t 0 0 := by omega
    have hlt := ht.lit hi
    have e0 : all (0 : Int32).toNatClampNeg = nI (t 0 0) := hM.1 0 (by decide)
    have m5 := (hM.2.1 i hi).2.2.2.2.2.1
    rw [Nat.zero_add] at m5
    have IH := fun few0 fo0 pm0 pf0 => p_lf28 (F := F) ht hM hWd hlo hhi hU hF n (i + 1) fuel ap few0 fo0 pm0 pf0 (by omega) (by omega)
    rw [fX10_laysFew_L28, e0, if_neg (nI_ge hi (by omega)), p_mLit (by omega), ob_s, m5]
    by_cases hl : t 11 i = 0
    · have hb : uB t i = true := decide_eq_true hl
      have hs := fitN_s (uB t) i
      rw [hb] at hs
      simp at hs
      have hlt' := uN_lt hi hl
      obtain ⟨S, pm1, pf1, a1, a2, a3, a4, a5⟩ := p_freeFor (F := F) ht hM hi hWd hlo hhi h2.1 hF
      obtain ⟨pm2, pf2, b1, b2, b3, b4⟩ := p_lf75 (F := F) (m := fitN (uB t) i) (ap := ap) (few := upd few (fitN (uB t) i) (nI i)) (fo := upd fo (fitN (uB t) i) S) (k28 := fun x1 v_fewMany v_areApart v_few v_freeOf v_highs v_lows v_puffMany v_puffsOf => fX10_laysFew_L28 F all fuel x1 v_fewMany v_areApart v_few v_freeOf v_highs v_lows v_puffMany v_puffsOf) ht hM hi (by omega) hWd hlo hhi hF 24 0 F pm1 pf1 (by omega) (by omega)
      have hW := uW_of hi hl
      rw [hs] at IH
      obtain ⟨few', fo', pm', pf', f1, f2, f3⟩ := IH (upd few (fitN (uB t) i) (nI i)) (upd fo (fitN (uB t) i) S) pm2 pf2 (fun k hk => by
        by_cases e : k = fitN (uB t) i
        · rw [e, hW, pk_us, pk_us]
          exact ⟨rfl, a2⟩
        · rw [pk_un e, pk_un e]
          exact h1 k (by omega)) ⟨fun d hd => frow_rng (lfL_len ht hd) (a3 d hd) (b3 d (by omega)) (fun p p1 p2 => b4 p (by omega)), fun k hk q hq => by
        by_cases e : k = fitN (uB t) i
        · rw [e, hW]
          exact b2 q (Nat.zero_le _) hq
        · have hk' : k < uN t := by omega
          exact frow_rng (fireL_len ht (uW_at hk').1) (frow_rng (fireL_len ht (uW_at hk').1) (h2.2 k (by omega) q hq) (a4 _ (by omega)) (fun p p1 p2 => a5 p (by omega))) (b3 _ (by omega)) (fun p p1 p2 => b4 p (by omega))⟩
      refine ⟨few', fo', pm', pf', ?_, f2, f3⟩
      rw [if_pos ((litM_iff hlt).mpr hl), if_pos rfl, vb_nI (show fitN (uB t) i < 5 by omega) (by decide), og_s, ol_s, a1, ob_s, og_s, ol_s, nI_clamp (by omega)]
      exact b1.trans f1
    · have hb : uB t i = false := decide_eq_false hl
      have hs := fitN_s (uB t) i
      rw [hb] at hs
      simp at hs
      rw [hs] at IH
      rw [if_neg (fun z => hl ((litM_iff hlt).mp z)), if_neg one0, fX10_laysFew_L116, ol_s, nI_1]
      exact IH few fo pm pf h1 h2
  | n, i, 0, ap, few, fo, pm, pf, _, hf, _, _ => absurd hf (Nat.not_lt_zero n)
