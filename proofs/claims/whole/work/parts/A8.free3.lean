/-! the reference's side of free; promise 20 -/
theorem touB_lf {t : Nat → Nat → Nat} {Wd : Nat → Nat → Nat} {c j d th : Nat} (ht : Tok t) (hc : c < t 0 0) (hd : d < t 0 0) (hth : 1 ≤ th) : touB (fireL t Wd 0 c j) (lfL t Wd d) th = true ↔ (t 11 d ≠ 0 ∧ ∃ q, tch t Wd (t 7 c) c j (t 7 d) d (t 11 d - 1) th q) := by
  by_cases hl : t 11 d = 0
  · rw [lfL_un hl, touB_nil]; exact ⟨fun z => (by cases z), fun z => absurd hl z.1⟩
  · rw [lfL_lit hl]
    have := touB_iff (Wd := Wd) (up := 0) (up' := 0) (lc := j) (ld := t 11 d - 1) ht hc hd (by omega) (by omega) hth
    rw [this]
    exact ⟨fun z => ⟨hl, z⟩, fun z => z.2⟩
def tlB (t : Nat → Nat → Nat) (Wd : Nat → Nat → Nat) (c j : Nat) : Bool := anyR (fun d => decide (d ≠ c) && touB (fireL t Wd 0 c j) (lfL t Wd d) (t 3 0)) 0 (t 0 0)
theorem tlB_iff {t : Nat → Nat → Nat} {Wd : Nat → Nat → Nat} {c j : Nat} (ht : Tok t) (hc : c < t 0 0) : tlB t Wd c j = true ↔ ∃ d, d < t 0 0 ∧ d ≠ c ∧ t 11 d ≠ 0 ∧ ∃ q, tch t Wd (t 7 c) c j (t 7 d) d (t 11 d - 1) (t 3 0) q := by
  unfold tlB
  rw [anyR_iff]
  constructor
  · rintro ⟨d, -, h2, h3⟩
    rw [Bool.and_eq_true, decide_eq_true_eq] at h3
    obtain ⟨a, b⟩ := (touB_lf ht hc (by omega) ht.thick.1).mp h3.2
    exact ⟨d, by omega, h3.1, a, b⟩
  · rintro ⟨d, h1, h2, h3, h4⟩
    refine ⟨d, by omega, by omega, ?_⟩
    show (decide (d ≠ c) && _) = true
    rw [Bool.and_eq_true, decide_eq_true_eq]
    exact ⟨h2, (touB_lf ht hc h1 ht.thick.1).mpr ⟨h3, h4⟩⟩
/-- one fire tried in row 130 -/
theorem p_try {F c j : Nat} {t : Nat → Nat → Nat} {Wd : Nat → Nat → Nat} {all his los pm pf : Nat → Int32} (ht : Tok t) (hM : tM t all 0) (hc : c < t 0 0) (hj : j ≤ 23) (hWd : ∀ k q, Wd k q ≤ 6) (hlo : ∀ q, q < 48 → los q = nI (Wd 0 q)) (hhi : ∀ q, q < 48 → his q = nI (Wd 1 q)) (hR : ∀ d, d < t 0 0 → frow pm pf d (lfL t Wd d)) (hF : 60 < F) :
    ∃ pm' pf', fX10_laysFire F all his los pm pf 130 (nI c) (nI j) 0 = some (pm', pf') ∧ fX10_touchesLit F all pm' pf' 130 (nI c) (nI (t 3 0)) = some (bI (tlB t Wd c j)) ∧ (∀ d, d < t 0 0 → frow pm' pf' d (lfL t Wd d)) ∧ (∀ s, s ≠ 130 → pm' s = pm s) ∧ ∀ i, (i < 54 * 130 ∨ 54 * 130 + 54 ≤ i) → pf' i = pf i := by
  have hn := ht.1
  have hth := ht.thick
  obtain ⟨pm1, pf1, e1, e2, e4, e5⟩ := p_laysFire (F := F) (r := 130) (c := c) (lit := j) (up := 0) (pm := pm) (pf := pf) ht hM hc hj (by omega) hWd hlo hhi (by omega) (by omega)
  have hR1 : ∀ d, d < t 0 0 → frow pm1 pf1 d (lfL t Wd d) := fun d hd => frow_keep (r := 130) (lfL_len ht hd) (by omega) (hR d hd) e4 e5
  exact ⟨pm1, pf1, e1, p_touchesLit (F := F) (r := 130) (b := c) (th := t 3 0) ht hM hR1 (by omega) e2 (fireL_bd ht hc (by omega) hj) (by omega) (by omega) hF, hR1, e4, e5⟩
theorem p_ff_L {F c : Nat} {t : Nat → Nat → Nat} {Wd : Nat → Nat → Nat} {all his los : Nat → Int32} (ht : Tok t) (hM : tM t all 0) (hc : c < t 0 0) (hWd : ∀ k q, Wd k q ≤ 6) (hlo : ∀ q, q < 48 → los q = nI (Wd 0 q)) (hhi : ∀ q, q < 48 → his q = nI (Wd 1 q)) (hF : 60 < F) :
    ∀ (k j fuel : Nat) (S : Int32) (pm pf : Nat → Int32), j + k = t 9 c + 1 → k < fuel → t 8 c ≤ j → (∀ d, d < t 0 0 → frow pm pf d (lfL t Wd d)) → bsI S (fun i => (t 8 c ≤ i ∧ i < j) ∧ ¬ tlB t Wd c i = true) → ∃ S' pm' pf', fX10_freeFor_L12 F all his los (nI c) fuel S (nI j) pm pf = some (S', pm', pf') ∧ bsI S' (freeP t Wd c) ∧ (∀ d, d < t 0 0 → frow pm' pf' d (lfL t Wd d)) ∧ (∀ s, s ≠ 130 → pm' s = pm s) ∧ ∀ i, (i < 54 * 130 ∨ 54 * 130 + 54 ≤ i) → pf' i = pf i
  | 0, j, fuel + 1, S, pm, pf, h, _, _, hR, hS => by
    have hn := ht.1
    obtain ⟨q0, q1, q2, q3, q4, q5, q6⟩ := ht.2.2.2.2.2.2.1 c hc
    have m3 := (hM.2.1 c hc).2.2.2.1
    rw [Nat.zero_add] at m3
    have e36 : (36 : Int32) + nI c = nI (36 + c) := nI_add 36 c
    refine ⟨S, pm, pf, ?_, bsI_iff hS (fun i _ => ?_), hR, fun _ _ => rfl, fun _ _ => rfl⟩
    · rw [fX10_freeFor_L12, e36, vb_nI (by omega) (by decide), og_s, nI_clamp (by omega), m3, if_pos (nI_lt (by omega) (by omega))]
    · unfold freeP
      rw [tlB_iff ht hc]
      constructor
      · rintro ⟨⟨z1, z2⟩, z3⟩; exact ⟨⟨z1, by omega⟩, z3⟩
      · rintro ⟨⟨z1, z2⟩, z3⟩; exact ⟨⟨z1, by omega⟩, z3⟩
  | k + 1, j, fuel + 1, S, pm, pf, h, hf, hj, hR, hS => by
    have hn := ht.1
    obtain ⟨q0, q1, q2, q3, q4, q5, q6⟩ := ht.2.2.2.2.2.2.1 c hc
    have m3 := (hM.2.1 c hc).2.2.2.1
    rw [Nat.zero_add] at m3
    have e36 : (36 : Int32) + nI c = nI (36 + c) := nI_add 36 c
    have e3 : all (3 : Int32).toNatClampNeg = nI (t 3 0) := hM.1 3 (by decide)
    obtain ⟨pm1, pf1, e1, e2, e4, e5, e6⟩ := p_try (F := F) (j := j) ht hM hc (by omega) hWd hlo hhi hR hF
    rw [fX10_freeFor_L12, e36, vb_nI (by omega) (by decide), og_s, nI_clamp (by omega), m3, if_neg (nI_nlt (by omega) (by omega)), e1, ob_s, e3]
    show ∃ S' pm' pf', ob (fX10_touchesLit F all pm1 pf1 130 (nI c) (nI (t 3 0))) _ = _ ∧ _
    rw [e2, ob_s]
    unfold fX10_freeFor_L60
    simp only [ol_s, nI_1]
    have fin : ∀ S0 : Int32, bsI S0 (fun i => (t 8 c ≤ i ∧ i < j + 1) ∧ ¬ tlB t Wd c i = true) → ∃ S' pm' pf', fX10_freeFor_L12 F all his los (nI c) fuel S0 (nI (j + 1)) pm1 pf1 = some (S', pm', pf') ∧ bsI S' (freeP t Wd c) ∧ (∀ d, d < t 0 0 → frow pm' pf' d (lfL t Wd d)) ∧ (∀ s, s ≠ 130 → pm' s = pm s) ∧ ∀ i, (i < 54 * 130 ∨ 54 * 130 + 54 ≤ i) → pf' i = pf i := by
      intro S0 h0
      obtain ⟨S', pm', pf', f1, f2, f3, f4, f5⟩ := p_ff_L (F := F) ht hM hc hWd hlo hhi hF k (j + 1) fuel S0 pm1 pf1 (by omega) (by omega) (by omega) e4 h0
      exact ⟨S', pm', pf', f1, f2, f3, fun s hs => (f4 s hs).trans (e5 s hs), fun i hi => (f5 i hi).trans (e6 i hi)⟩
    cases hb : tlB t Wd c j with
    | false =>
      rw [bI_0 rfl, if_pos rfl]
      refine fin _ (bsI_iff (bsI_or hS (bsI_bit (q := j) (by omega))) (fun i _ => ?_))
      constructor
      · rintro (⟨⟨z1, z2⟩, z3⟩ | z)
        · exact ⟨⟨z1, by omega⟩, z3⟩
        · subst z; exact ⟨⟨hj, by omega⟩, by rw [hb]; simp⟩
      · rintro ⟨⟨z1, z2⟩, z3⟩
        by_cases e : i = j
        · exact Or.inr e
        · exact Or.inl ⟨⟨z1, by omega⟩, z3⟩
    | true =>
      rw [bI_1 rfl, if_neg one0]
      refine fin _ (bsI_iff (bsI_or hS bsI_0) (fun i _ => ?_))
      constructor
      · rintro (⟨⟨z1, z2⟩, z3⟩ | z)
        · exact ⟨⟨z1, by omega⟩, z3⟩
        · exact False.elim z
      · rintro ⟨⟨z1, z2⟩, z3⟩
        by_cases e : i = j
        · subst e; exact absurd hb z3
        · exact Or.inl ⟨⟨z1, by omega⟩, z3⟩
  | k, j, 0, S, pm, pf, _, hf, _, _, _ => absurd hf (Nat.not_lt_zero k)
theorem p_freeFor {F c : Nat} {t : Nat → Nat → Nat} {Wd : Nat → Nat → Nat} {all his los pm pf : Nat → Int32} (ht : Tok t) (hM : tM t all 0) (hc : c < t 0 0) (hWd : ∀ k q, Wd k q ≤ 6) (hlo : ∀ q, q < 48 → los q = nI (Wd 0 q)) (hhi : ∀ q, q < 48 → his q = nI (Wd 1 q)) (hR : ∀ d, d < t 0 0 → frow pm pf d (lfL t Wd d)) (hF : 60 < F) : ∃ S pm' pf', fX10_freeFor F all his los pm pf (nI c) = some (S, pm', pf') ∧ bsI S (freeP t Wd c) ∧ (∀ d, d < t 0 0 → frow pm' pf' d (lfL t Wd d)) ∧ (∀ s, s ≠ 130 → pm' s = pm s) ∧ ∀ i, (i < 54 * 130 ∨ 54 * 130 + 54 ≤ i) → pf' i = pf i := by
  have hn := ht.1
  obtain ⟨q0, q1, q2, q3, q4, q5, q6⟩ := ht.2.2.2.2.2.2.1 c hc
  have m2 := (hM.2.1 c hc).2.2.1
  rw [Nat.zero_add] at m2
  have e26 : (26 : Int32) + nI c = nI (26 + c) := nI_add 26 c
  unfold fX10_freeFor
  rw [e26, vb_nI (by omega) (by decide), og_s, ol_s, nI_clamp (by omega), m2]
  exact p_ff_L ht hM hc hWd hlo hhi hF (t 9 c + 1 - t 8 c) (t 8 c) F 0 pm pf (by omega) (by omega) (Nat.le_refl _) hR (bsI_iff bsI_0 (fun i _ => ⟨False.elim, fun z => by omega⟩))
theorem s_free {F : Nat} {t : Nat → Nat → Nat} {hs v lit sc sm fs ts all his los pm pf : Nat → Int32} {thr : Int32} (a1 : Int32) (ht : Tok t) (hP : plOk t hs v lit sc sm) (h2 : ∀ c, c < t 0 0 → fs c = nI (t 8 c)) (h3 : ∀ c, c < t 0 0 → ts c = nI (t 9 c)) (hM : tM t all 0) (hF : 60 < F) :
    ∃ r his' los' pm' pf', fX9_free F (nI (t 0 0)) (nI (t 3 0)) fs lit sc sm ts hs v a1 = some r ∧ fX10_free F thr all his los pm pf a1 = some (r, 0, his', los', pm', pf') := by
  have hn := ht.1
  unfold fX9_free fX10_free
  rw [p_isChimney (hM.1 0 (by decide)) hn, ob_s]
  cases h1 : vb a1 (t 0 0) with
  | false => exact ⟨-2, his, los, pm, pf, by rw [p_hasN (by omega) h1, ob_s, if_pos rfl], by rw [bI_0 rfl, if_pos rfl]⟩
  | true =>
    obtain ⟨c, hc, rfl⟩ := vb_of (by omega) h1
    obtain ⟨his', los', pm1, pf1, f1, f2, f3, f4⟩ := p_laysNow (F := F) (his := his) (los := los) (pm := pm) (pf := pf) ht hM (by omega)
    obtain ⟨S, e1, e2⟩ := p_freeQ (F := F) ht (li_of ht hP) (hP c hc).1 (h2 c hc) (h3 c hc) hc hF
    obtain ⟨S', pm', pf', g1, g2, -⟩ := p_freeFor (F := F) ht hM hc (tW_le ht) f2 f3 f4 hF
    have := bsI_eq e2 g2
    subst this
    refine ⟨S, his', los', pm', pf', ?_, ?_⟩
    · rw [p_has hc (by omega), ob_s, if_neg one0, e1, ob_s]
    · rw [bI_1 rfl, if_neg one0, f1, ob_s]
      show ob (fX10_freeFor F all his' los' pm1 pf1 (nI c)) _ = _
      rw [g1, ob_s]
