theorem pl_eq {t : Nat → Nat → Nat} {hs v lit lit' sc sm : Nat → Int32} (ht : Tok t) (h : plOk t hs v lit sc sm) (hl : ∀ d, d < 10 → lit' d = lit d) : plOk t hs v lit' sc sm := fun c hc => by
  have hn := ht.1
  obtain ⟨h1, h2, h3⟩ := h c hc
  exact ⟨h1, by rw [hl c (by omega)]; exact h2, h3⟩
theorem p_cheap {F c : Nat} {t : Nat → Nat → Nat} {hs v sc sm fs ts all : Nat → Int32} {fi thr : Int32} (ht : Tok t) (hfi : fi = nI (t 4 0)) (h3 : ts c = nI (t 9 c)) (hM : tM t all 0) (hc : c < t 0 0) (hl : t 11 c = 0) (hF : 60 < F) :
    ∀ (k q fuel fuel2 : Nat) (b L : Int32) (lit his los pm pf tc : Nat → Int32), q + k = t 9 c + 1 → k < fuel → k < fuel2 → t 8 c ≤ q → plOk t hs v lit sc sm → ∃ r lit' his' los' pm' pf' tc', fX9_cheapest_L50 F (nI (t 0 0)) (nI (t 3 0)) fi fs sc sm ts hs v (nI c) fuel b L (nI q) lit = some (r, lit') ∧ fX10_cheapest_L50 F (nI c) fuel2 b L (nI q) thr all his los pm pf tc = some (r, thr, all, his', los', pm', pf', tc') ∧ ∀ d, d < 10 → lit' d = lit d
  | 0, q, fuel + 1, fuel2 + 1, b, L, lit, his, los, pm, pf, tc, h, _, _, _, _ => by
    have hn := ht.1
    obtain ⟨q0, q1, q2, q3, q4, q5, q6⟩ := ht.2.2.2.2.2.2.1 c hc
    have m3 := (hM.2.1 c hc).2.2.2.1
    rw [Nat.zero_add] at m3
    have e36 : (36 : Int32) + nI c = nI (36 + c) := nI_add 36 c
    refine ⟨b, lit, his, los, pm, pf, tc, ?_, ?_, fun _ _ => rfl⟩
    · rw [fX9_cheapest_L50, vb_nI (show c < 10 by omega) (by decide), og_s, nI_clamp (by omega), h3, if_pos (nI_lt (by omega) (by omega))]
    · rw [fX10_cheapest_L50, e36, vb_nI (by omega) (by decide), og_s, nI_clamp (by omega), m3, if_pos (nI_lt (by omega) (by omega))]
  | k + 1, q, fuel + 1, fuel2 + 1, b, L, lit, his, los, pm, pf, tc, h, h1, h2, hq, hP => by
    have hn := ht.1
    obtain ⟨q0, q1, q2, q3, q4, q5, q6⟩ := ht.2.2.2.2.2.2.1 c hc
    have m3 := (hM.2.1 c hc).2.2.2.1
    rw [Nat.zero_add] at m3
    have e36 : (36 : Int32) + nI c = nI (36 + c) := nI_add 36 c
    obtain ⟨lit1, e1, e2⟩ := p_priceIn (F := F) ht hP hfi hc hl hq (show q ≤ t 9 c by omega) hF
    obtain ⟨all1, his1, los1, pm1, pf1, tc1, f1, f2⟩ := p_priceOf (F := F) (his := his) (los := los) (pm := pm) (pf := pf) (tc := tc) ht hM hc hl hq (show q ≤ t 9 c by omega) hF
    have hall : all1 = all := funext f2
    subst hall
    have hP1 := pl_eq ht hP e2
    rw [fX9_cheapest_L50, vb_nI (show c < 10 by omega) (by decide), og_s, nI_clamp (by omega), h3, if_neg (nI_nlt (by omega) (by omega)), e1, ob_s, fX10_cheapest_L50, e36, vb_nI (by omega) (by decide), og_s, nI_clamp (by omega), m3, if_neg (nI_nlt (by omega) (by omega)), f1, ob_s]
    unfold fX9_cheapest_L85 fX10_cheapest_L88
    simp only [ol_s, nI_1]
    generalize nI (priceS t c q * t 4 0) = P
    by_cases hcmp : L ≤ P
    · obtain ⟨r, lit', his', los', pm', pf', tc', g1, g2, g3⟩ := p_cheap (F := F) (thr := thr) (fs := fs) ht hfi h3 hM hc hl hF k (q + 1) fuel fuel2 b L lit1 his1 los1 pm1 pf1 tc1 (by omega) (by omega) (by omega) (by omega) hP1
      refine ⟨r, lit', his', los', pm', pf', tc', ?_, ?_, fun d hd => (g3 d hd).trans (e2 d hd)⟩
      · rw [if_pos hcmp]; exact g1
      · rw [if_neg (fun z => Int32.lt_irrefl (Int32.lt_of_lt_of_le z hcmp))]; exact g2
    · obtain ⟨r, lit', his', los', pm', pf', tc', g1, g2, g3⟩ := p_cheap (F := F) (thr := thr) (fs := fs) ht hfi h3 hM hc hl hF k (q + 1) fuel fuel2 (nI q) P lit1 his1 los1 pm1 pf1 tc1 (by omega) (by omega) (by omega) (by omega) hP1
      refine ⟨r, lit', his', los', pm', pf', tc', ?_, ?_, fun d hd => (g3 d hd).trans (e2 d hd)⟩
      · rw [if_neg hcmp]; exact g1
      · rw [if_pos (Int32.not_le.mp hcmp)]; exact g2
  | k, q, 0, fuel2, b, L, lit, his, los, pm, pf, tc, _, h1, _, _, _ => absurd h1 (Nat.not_lt_zero k)
  | k, q, fuel + 1, 0, b, L, lit, his, los, pm, pf, tc, _, _, h2, _, _ => absurd h2 (Nat.not_lt_zero k)
theorem s_cheapest {F : Nat} {t : Nat → Nat → Nat} {hs v lit sc sm fs ts all his los pm pf tc : Nat → Int32} {thr fi : Int32} (a1 : Int32) (ht : Tok t) (hP : plOk t hs v lit sc sm) (hfi : fi = nI (t 4 0)) (h2 : ∀ c, c < t 0 0 → fs c = nI (t 8 c)) (h3 : ∀ c, c < t 0 0 → ts c = nI (t 9 c)) (hM : tM t all 0) (hF : 60 < F) :
    ∃ r lit' his' los' pm' pf' tc', fX9_cheapest F (nI (t 0 0)) (nI (t 3 0)) fi fs lit sc sm ts hs v a1 = some (r, lit') ∧ fX10_cheapest F thr all his los pm pf tc a1 = some (r, 0, all, his', los', pm', pf', tc') ∧ (∀ d, d < 10 → lit' d = lit d) := by
  have hn := ht.1
  unfold fX9_cheapest fX10_cheapest
  rw [p_isChimney (hM.1 0 (by decide)) hn, ob_s]
  cases hv : vb a1 (t 0 0) with
  | false => exact ⟨-2, lit, his, los, pm, pf, tc, by rw [p_hasN (by omega) hv, ob_s, if_pos rfl], by rw [bI_0 rfl, if_pos rfl], fun _ _ => rfl⟩
  | true =>
    obtain ⟨c, hc, rfl⟩ := vb_of (by omega) hv
    have hlt := ht.lit hc
    obtain ⟨q0, q1, q2, q3, q4, q5, q6⟩ := ht.2.2.2.2.2.2.1 c hc
    obtain ⟨-, -, m2, m3, -, m5, -⟩ := hM.2.1 c hc
    rw [Nat.zero_add] at m2 m3 m5
    have e26 : (26 : Int32) + nI c = nI (26 + c) := nI_add 26 c
    rw [p_has hc (by omega), ob_s, if_neg one0, p_isLit hc hn, ob_s, (hP c hc).2.1, bI_1 rfl, if_neg one0, p_mLit (by omega), ob_s, m5]
    by_cases hl : t 11 c = 0
    · obtain ⟨lit1, e1, e2⟩ := p_priceIn (F := F) ht hP hfi hc hl (Nat.le_refl _) q2 hF
      obtain ⟨all1, his1, los1, pm1, pf1, tc1, f1, f2⟩ := p_priceOf (F := F) (his := his) (los := los) (pm := pm) (pf := pf) (tc := tc) ht hM hc hl (Nat.le_refl _) q2 hF
      have hall : all1 = all := funext f2
      subst hall
      obtain ⟨r, lit', his', los', pm', pf', tc', g1, g2, g3⟩ := p_cheap (F := F) (thr := 0) (fs := fs) ht hfi (h3 c hc) hM hc hl hF (t 9 c - t 8 c) (t 8 c + 1) F F (nI (t 8 c)) (nI (priceS t c (t 8 c) * t 4 0)) lit1 his1 los1 pm1 pf1 tc1 (by omega) (by omega) (by omega) (by omega) (pl_eq ht hP e2)
      refine ⟨r, lit', his', los', pm', pf', tc', ?_, ?_, fun d hd => (g3 d hd).trans (e2 d hd)⟩
      · rw [if_pos ((litC_iff hlt).mpr hl), if_pos rfl, vb_nI (show c < 10 by omega) (by decide), og_s, ol_s, nI_clamp (by omega), h2 c hc, e1, ob_s, ol_s, nI_1]
        exact g1
      · rw [if_pos ((litM_iff hlt).mpr hl), if_pos rfl, e26, vb_nI (by omega) (by decide), og_s, ol_s, nI_clamp (by omega), m2, f1, ob_s, ol_s, nI_1]
        exact g2
    · exact ⟨-5, lit, his, los, pm, pf, tc, by rw [if_neg (fun z => hl ((litC_iff hlt).mp z)), if_neg one0], by rw [if_neg (fun z => hl ((litM_iff hlt).mp z)), if_neg one0], fun _ _ => rfl⟩
