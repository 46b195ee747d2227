/-- one day of drawn winds: the free quarters of c, which is not lit, on both sides -/
theorem p_day {F c : Nat} {t : Nat → Nat → Nat} {hs v xs hts lit sc sm fs ts whi wlo all his los pm pf : Nat → Int32} (s : Int32) (ht : Tok t) (hO : tcO t xs hts lit sc sm) (h2 : fs c = nI (t 8 c)) (h3 : ts c = nI (t 9 c)) (hM : tM t all 0) (hc : c < t 0 0) (hl : t 11 c = 0) (hF : 60 < F) :
    ∃ S hs1 v1 hs2 v2 pm1 pf1 pm2 pf2, fX4_layLit F hs (nI (t 0 0)) (nI (t 2 0)) v hts lit sc xs (oT whi s 1 0) (oT wlo s 0 0) = some (hs1, v1) ∧ fX4_layWhole F hs1 (nI (t 0 0)) (nI (t 2 0)) v1 fs hts sc ts xs (oT whi s 1 0) (oT wlo s 0 0) (nI c) = some (hs2, v2) ∧ fX4_freeQuarters F hs2 (nI (t 0 0)) (nI (t 3 0)) v2 fs lit sc sm ts (nI c) = some S ∧ fX10_laysLit F all (oT his s 1 0) (oT los s 0 0) pm pf = some (pm1, pf1) ∧ fX10_freeFor F all (oT his s 1 0) (oT los s 0 0) pm1 pf1 (nI c) = some (S, pm2, pf2) ∧ ∀ j, j < 32 → bt S j = true → t 8 c ≤ j ∧ j ≤ t 9 c := by
  have hlo : ∀ q, q < 48 → oT wlo s 0 0 q = nI (dW s 0 q) := fun q hq => oT_in hq
  have hhi : ∀ q, q < 48 → oT whi s 1 0 q = nI (dW s 1 q) := fun q hq => oT_in hq
  obtain ⟨o0, o1, o2, o3, o4⟩ := hO c hc
  obtain ⟨q0, q1, q2, q3, q4, q5, q6⟩ := ht.2.2.2.2.2.2.1 c hc
  obtain ⟨hs1, v1, e1, e2⟩ := p_oth (F := F) (Wd := dW s) (hs := hs) (v := v) ht hO (dW_le s) hlo hhi (by omega)
  obtain ⟨v2, f1, f2, f3⟩ := p_layWhole (F := F) (hs := hs1) (v := v1) ht hc o0 o1 h2 h3 o2 (dW_le s) hlo hhi (by omega)
  have H : liOk t (dW s) (t 7) (upd hs1 c (nI (t 7 c))) v2 lit sc sm := fun d hd => by
    obtain ⟨g1, g2⟩ := e2 d hd
    refine ⟨fun hld => ?_, g2⟩
    have hdc : d ≠ c := fun z => hld (z ▸ hl)
    obtain ⟨⟨w1, w2⟩, w3⟩ := g1 hld
    obtain ⟨-, -, b2, b3, b4, b5, -⟩ := ht.2.2.2.2.2.2.1 d hd
    refine ⟨⟨by rw [pk_un hdc]; exact w1, fun b hb1 hb2 a ha => ?_⟩, w3⟩
    rw [f3 _ (by omega)]
    exact w2 b hb1 hb2 a ha
  obtain ⟨S, s1, s2⟩ := p_freeQ (F := F) ht H ⟨pk_us, f2⟩ h2 h3 hc hF
  obtain ⟨pm1, pf1, g1, g2⟩ := p_laysLit (F := F) (Wd := dW s) (his := oT his s 1 0) (los := oT los s 0 0) (pm := pm) (pf := pf) ht hM (dW_le s) (fun q hq => oT_in hq) (fun q hq => oT_in hq) (by omega)
  obtain ⟨S', pm2, pf2, k1, k2, -⟩ := p_freeFor (F := F) (Wd := dW s) (his := oT his s 1 0) (los := oT los s 0 0) ht hM hc (dW_le s) (fun q hq => oT_in hq) (fun q hq => oT_in hq) g2 hF
  have := bsI_eq s2 k2
  subst this
  exact ⟨S, hs1, v1, _, v2, pm1, pf1, pm2, pf2, e1, f1, s1, g1, k1, fun j hj hb => ((bsI_b s2 hj).mp hb).1⟩
theorem p_weigh {F c n : Nat} {t : Nat → Nat → Nat} {bq bd : Int32} {xs hts lit sc sm fs ts all : Nat → Int32} (ht : Tok t) (hO : tcO t xs hts lit sc sm) (h2 : fs c = nI (t 8 c)) (h3 : ts c = nI (t 9 c)) (hM : tM t all 0) (hc : c < t 0 0) (hl : t 11 c = 0) (hn20 : n ≤ 20) (hF : 60 < F) :
    ∀ (k s fuel fuel2 o : Nat) (G : Nat → Nat) (gC gM hs v whi wlo his los pm pf : Nat → Int32), s + k = n + 1 → k < fuel → k < fuel2 → gEq gC G → gEq gM G → (∀ q, G q + k < 100) → (∀ q, t 9 c < q → q < 24 → G q = 0) → ∃ (b o' : Nat) (G' : Nat → Nat) (gC' gM' hs' v' whi' wlo' his' los' pm' pf' : Nat → Int32), fX1_weigh_L15 F (nI (t 0 0)) (nI (t 2 0)) (nI (t 3 0)) fs hts lit sc sm ts xs (nI c) (nI n) fuel (nI s) bq bd (nI o) gC hs v whi wlo = some (nI b, nI (G' b), nI o', gC', hs', v', whi', wlo') ∧ fX10_bestBy_L28 F all (nI c) (nI n) fuel2 (nI s) (nI o) gM his los pm pf = some (nI b, nI o', gM', his', los', pm', pf') ∧ b < 24 ∧ gM' b = nI (G' b)
  | 0, s, fuel + 1, fuel2 + 1, o, G, gC, gM, hs, v, whi, wlo, his, los, pm, pf, h, _, _, hgC, hgM, hG, hG0 => by
    have hn := ht.1
    obtain ⟨q0, q1, q2, q3, q4, q5, q6⟩ := ht.2.2.2.2.2.2.1 c hc
    have m2 := (hM.2.1 c hc).2.2.1
    have m3 := (hM.2.1 c hc).2.2.2.1
    rw [Nat.zero_add] at m2 m3
    have e26 : (26 : Int32) + nI c = nI (26 + c) := nI_add 26 c
    have hb : ∀ q, G q < 2 ^ 20 := fun q => by have := hG q; omega
    have h1 := p_bqC (F := F) (ch := nI (t 0 0)) (la := nI (t 2 0)) (th := nI (t 3 0)) (a1 := nI c) (a2 := nI n) (fs := fs) (hts := hts) (lit := lit) (sc := sc) (sm := sm) (ts := ts) (xs := xs) (hs := hs) (v := v) (whi := whi) (wlo := wlo) (bd := bd) (od := nI o) hgC hb (23 - t 8 c) (t 8 c + 1) F (t 8 c) (by omega) (by omega) (by omega)
    have h2' := p_bqM (F := F) (a2 := nI n) (go := nI o) (his := his) (los := los) (pm := pm) (pf := pf) (show c < 10 by omega) m3 q3 hgM hb (t 9 c - t 8 c) (t 8 c + 1) F (t 8 c) (by omega) (by omega) (by omega)
    have same : bqR G (23 - t 8 c) (t 8 c + 1) (t 8 c) = bqR G (t 9 c - t 8 c) (t 8 c + 1) (t 8 c) := by
      rw [show 23 - t 8 c = (t 9 c - t 8 c) + (23 - t 9 c) by omega, bqR_app]
      exact bqR_zero _ _ _ (fun j a b => hG0 j (by omega) (by omega))
    have hlt := bqR_lt (G := G) (t 9 c - t 8 c) (t 8 c + 1) (t 8 c) (by omega)
    rw [same] at h1
    refine ⟨bqR G (t 9 c - t 8 c) (t 8 c + 1) (t 8 c), o, G, gC, gM, hs, v, whi, wlo, his, los, pm, pf, ?_, ?_, by omega, hgM _ (by omega)⟩
    · rw [fX1_weigh_L15, if_pos (nI_lt (by omega) (by omega)), p_has hc (by omega), ob_s, if_neg one0, vb_nI (show c < 10 by omega) (by decide), og_s, nI_clamp (by omega), h2, fX1_weigh_L86, ol_s, nI_1]
      exact h1
    · rw [fX10_bestBy_L28, if_pos (nI_lt (by omega) (by omega)), e26, vb_nI (by omega) (by decide), og_s, ol_s, nI_clamp (by omega), m2, ol_s, nI_1]
      exact h2'
  | k + 1, s, fuel + 1, fuel2 + 1, o, G, gC, gM, hs, v, whi, wlo, his, los, pm, pf, h, h1, h1', hgC, hgM, hG, hG0 => by
    have hn := ht.1
    obtain ⟨q0, q1, q2, q3, q4, q5, q6⟩ := ht.2.2.2.2.2.2.1 c hc
    obtain ⟨S, hs1, v1, hs2, v2, pm1, pf1, pm2, pf2, d1, d2, d3, d4, d5, d6⟩ := p_day (F := F) (hs := hs) (v := v) (whi := whi) (wlo := wlo) (his := his) (los := los) (pm := pm) (pf := pf) (nI s) ht hO h2 h3 hM hc hl hF
    obtain ⟨gC1, a1, a2⟩ := p_addGood (F := F) (o := o) (S := S) hgC (by omega)
    obtain ⟨gM1, b1, b2⟩ := p_aM (F := F) (o := o) (i0 := s) (S := S) (a1 := nI c) (a2 := nI n) (G := G) (all := all) (his := oT his (nI s) 1 0) (los := oT los (nI s) 0 0) (pm := pm2) (pf := pf2) (k28 := fun x3 v_goodSome v_goodIn v_highs v_lows v_puffMany v_puffsOf => fX10_bestBy_L28 F all (nI c) (nI n) fuel2 x3 v_goodSome v_goodIn v_highs v_lows v_puffMany v_puffsOf) 24 0 F gM (by omega) (by omega) (fun q hq => by omega) (fun q _ hq => hgM q hq)
    have hbit1 : ∀ q, (if bt S q then 1 else 0) ≤ 1 := fun q => by split <;> omega
    obtain ⟨b, o', G', gC', gM', hs', v', whi', wlo', his', los', pm', pf', r1, r2, r3, r4⟩ := p_weigh (F := F) (bq := bq) (bd := bd) ht hO h2 h3 hM hc hl hn20 hF k (s + 1) fuel fuel2 (o + (if S = 0 then 0 else 1)) (addG G S) gC1 gM1 hs2 v2 (oT whi (nI s) 1 0) (oT wlo (nI s) 0 0) (oT his (nI s) 1 0) (oT los (nI s) 0 0) pm2 pf2 (by omega) (by omega) (by omega) a2 b2 (fun q => by
      have h1 := hG q
      have h2 := hbit1 q
      unfold addG
      omega) (fun q hq hq2 => by
      unfold addG
      rw [hG0 q hq hq2]
      cases hbq : bt S q with
      | false => rfl
      | true => have := d6 q (by omega) hbq; omega)
    refine ⟨b, o', G', gC', gM', hs', v', whi', wlo', his', los', pm', pf', ?_, ?_, r3, r4⟩
    · rw [fX1_weigh_L15, if_neg (nI_nlt (by omega) (by omega)), p_draw (by omega), ob_s]
      show ob (fX4_layLit F hs (nI (t 0 0)) (nI (t 2 0)) v hts lit sc xs (oT whi (nI s) 1 0) (oT wlo (nI s) 0 0)) _ = _
      rw [d1, ob_s]
      show ob (fX4_layWhole F hs1 (nI (t 0 0)) (nI (t 2 0)) v1 fs hts sc ts xs (oT whi (nI s) 1 0) (oT wlo (nI s) 0 0) (nI c)) _ = _
      rw [d2, ob_s]
      show ob (fX4_freeQuarters F hs2 (nI (t 0 0)) (nI (t 3 0)) v2 fs lit sc sm ts (nI c)) _ = _
      rw [d3, ob_s, a1, ob_s, ol_s, nI_1]
      exact r1
    · rw [fX10_bestBy_L28, if_neg (nI_nlt (by omega) (by omega)), p_laysOther (by omega), ob_s]
      show ob (fX10_laysLit F all (oT his (nI s) 1 0) (oT los (nI s) 0 0) pm pf) _ = _
      rw [d4, ob_s]
      show ob (fX10_freeFor F all (oT his (nI s) 1 0) (oT los (nI s) 0 0) pm1 pf1 (nI c)) _ = _
      rw [d5, ob_s]
      exact b1.trans r2
  | k, s, 0, fuel2, o, G, gC, gM, hs, v, whi, wlo, his, los, pm, pf, _, h1, _, _, _, _, _ => absurd h1 (Nat.not_lt_zero k)
  | k, s, fuel + 1, 0, o, G, gC, gM, hs, v, whi, wlo, his, los, pm, pf, _, _, h1, _, _, _, _ => absurd h1 (Nat.not_lt_zero k)
theorem p_gM0 {F : Nat} {a1 a2 go : Int32} {all his los pm pf : Nat → Int32} : ∀ (k i fuel : Nat) (g : Nat → Int32), i + k = 24 → k < fuel → (∀ q, q < i → g q = 0) → ∃ g', fX10_bestBy_L2 F all a1 a2 fuel (nI i) go g his los pm pf = fX10_bestBy_L28 F all a1 a2 F 1 0 g' his los pm pf ∧ ∀ q, q < 24 → g' q = 0
  | 0, i, fuel + 1, g, h, _, h1 => ⟨g, by rw [fX10_bestBy_L2, show i = 24 by omega, if_pos (show (24 : Int32) ≤ nI 24 from nI_le (Nat.le_refl 24) (by decide))], fun q hq => h1 q (by omega)⟩
  | k + 1, i, fuel + 1, g, h, hf, h1 => by
    rw [fX10_bestBy_L2, if_neg (show ¬ (24 : Int32) ≤ nI i from nI_ge (a := i) (b := 24) (by omega) (by decide)), vb_nI (by omega) (by decide), og_s, ol_s, ol_s, nI_1, nI_clamp (by omega)]
    exact p_gM0 k (i + 1) fuel _ (by omega) (by omega) (fun q hq => by
      by_cases e : q = i
      · subst e; rw [pk_us]
      · rw [pk_un e]; exact h1 q (by omega))
  | k, i, 0, g, _, hf, _ => absurd hf (Nat.not_lt_zero k)
theorem p_forecast {F c n : Nat} {t : Nat → Nat → Nat} {bq bd od gs : Int32} {gd gi hs v xs hts lit sc sm fs ts whi wlo all his los pm pf : Nat → Int32} (ht : Tok t) (hO : tcO t xs hts lit sc sm) (h2 : fs c = nI (t 8 c)) (h3 : ts c = nI (t 9 c)) (hM : tM t all 0) (hc : c < t 0 0) (hl : t 11 c = 0) (hn20 : n ≤ 20) (hF : 60 < F) :
    ∃ (b o' : Nat) (G' : Nat → Nat) (gC' gM' hs' v' whi' wlo' his' los' pm' pf' : Nat → Int32), fX1_weigh F bq bd od gd (nI (t 0 0)) (nI (t 2 0)) (nI (t 3 0)) hs v fs hts lit sc sm ts xs whi wlo (nI c) (nI n) = some (nI b, nI (G' b), nI o', gC', hs', v', whi', wlo') ∧ fX10_bestBy F gs all gi his los pm pf (nI c) (nI n) = some (nI b, nI o', gM', his', los', pm', pf') ∧ b < 24 ∧ gM' b = nI (G' b) := by
  obtain ⟨g0, z1, z2⟩ := p_gM0 (F := F) (a1 := nI c) (a2 := nI n) (go := gs) (all := all) (his := his) (los := los) (pm := pm) (pf := pf) 24 0 F gi (by omega) (by omega) (fun q hq => by omega)
  obtain ⟨b, o', G', gC', gM', hs', v', whi', wlo', his', los', pm', pf', r1, r2, r3, r4⟩ := p_weigh (F := F) (bq := bq) (bd := bd) ht hO h2 h3 hM hc hl hn20 hF n 1 F F 0 (fun _ => 0) (fillT gd 0 24 0) g0 hs v whi wlo his los pm pf (by omega) (by omega) (by omega) (fun q hq => fillT_in (by omega) hq) (fun q hq => z2 q hq) (fun q => by omega) (fun q _ _ => rfl)
  refine ⟨b, o', G', gC', gM', hs', v', whi', wlo', his', los', pm', pf', ?_, ?_, r3, r4⟩
  · unfold fX1_weigh
    rw [p_fillI (by omega) (by decide), ob_s]
    exact r1
  · unfold fX10_bestBy
    exact z1.trans r2
theorem p_refF {F : Nat} {t : Nat → Nat → Nat} {lit all : Nat → Int32} (a1 a2 : Int32) (ht : Tok t) (hl : ∀ c, c < t 0 0 → lit c = nI (t 11 c) - 1) (hM : tM t all 0) : (∃ c n, c < t 0 0 ∧ t 11 c = 0 ∧ 1 ≤ n ∧ n ≤ 20 ∧ a1 = nI c ∧ a2 = nI n ∧ fX9_refusalOfForecast F (nI (t 0 0)) lit a1 a2 = some 0 ∧ fX10_refusesBest F all a1 a2 = some 0) ∨ ∃ r, ¬ r = 0 ∧ fX9_refusalOfForecast F (nI (t 0 0)) lit a1 a2 = some r ∧ fX10_refusesBest F all a1 a2 = some r := by
  have hn := ht.1
  unfold fX9_refusalOfForecast fX10_refusesBest fX9_refusalOfForecast_L39
  rw [p_isChimney (hM.1 0 (by decide)) hn, ob_s]
  cases hv : vb a1 (t 0 0) with
  | false => exact Or.inr ⟨-2, by decide, by rw [p_hasN (by omega) hv, ob_s, if_pos rfl], by rw [bI_0 rfl, if_pos rfl]⟩
  | true =>
    obtain ⟨c, hc, rfl⟩ := vb_of (by omega) hv
    have hlt := ht.lit hc
    have m5 := (hM.2.1 c hc).2.2.2.2.2.1
    rw [Nat.zero_add] at m5
    rw [p_has hc (by omega), ob_s, if_neg one0, p_isLit hc hn, ob_s, hl c hc, bI_1 rfl, if_neg one0, p_mLit (by omega), ob_s, m5]
    by_cases h0 : t 11 c = 0
    · have hw := p_w1 (F := F) (a := a2) (M := 20) (hi := 20) (by decide) rfl
      rw [if_pos ((litC_iff hlt).mpr h0), if_pos rfl, if_pos ((litM_iff hlt).mpr h0), if_pos rfl]
      rcases in_1 (a := a2) (M := 20) (by decide) with ⟨n, n1, n2, rfl⟩ | h
      · refine Or.inl ⟨c, n, hc, h0, n1, n2, rfl, rfl, ?_, ?_⟩
        · rw [if_neg (show ¬ nI n < 1 from nI_nlt (a := n) (b := 1) n1 (by omega)), if_pos (show nI n ≤ 20 from nI_le (a := n) (b := 20) n2 (by decide))]
        · rw [hw.1 n n1 n2 rfl, ob_s, if_neg one0]
      · refine Or.inr ⟨-3, by decide, ?_, by rw [hw.2 h, ob_s, if_pos rfl]⟩
        by_cases h1 : a2 < 1
        · rw [if_pos h1]
        · rw [if_neg h1, if_neg (show ¬ a2 ≤ 20 from fun z => Int32.lt_irrefl (Int32.lt_of_le_of_lt z (h.resolve_left h1)))]
    · exact Or.inr ⟨-5, by decide, by rw [if_neg (fun z => h0 ((litC_iff hlt).mp z)), if_neg one0], by rw [if_neg (fun z => h0 ((litM_iff hlt).mp z)), if_neg one0]⟩
theorem s_best {F : Nat} {t : Nat → Nat → Nat} {bq bd od gs thr : Int32} {gd gi hs v xs hts lit sc sm fs ts whi wlo all his los pm pf : Nat → Int32} (a1 a2 : Int32) (ht : Tok t) (hO : tcO t xs hts lit sc sm) (h2 : ∀ c, c < t 0 0 → fs c = nI (t 8 c)) (h3 : ∀ c, c < t 0 0 → ts c = nI (t 9 c)) (hM : tM t all 0) (hF : 60 < F) :
    ∃ r bq' bd' od' gd' hs' v' whi' wlo' gs' gi' his' los' pm' pf', fX9_best F bq bd od (nI (t 0 0)) (nI (t 2 0)) (nI (t 3 0)) gd fs hts lit sc sm ts xs hs v whi wlo a1 a2 = some (r, bq', bd', od', gd', hs', v', whi', wlo') ∧ fX10_best F thr gs all gi his los pm pf a1 a2 = some (r, 0, gs', gi', his', los', pm', pf') := by
  unfold fX9_best fX10_best
  rcases p_refF (F := F) a1 a2 ht (fun c hc => (hO c hc).2.2.2.1) hM with ⟨c, n, hc, hl, n1, n2, rfl, rfl, e1, e2⟩ | ⟨r, r0, e1, e2⟩
  · obtain ⟨b, o', G', gC', gM', hs', v', whi', wlo', his', los', pm', pf', f1, f2, f3, f4⟩ := p_forecast (F := F) (bq := bq) (bd := bd) (od := od) (gs := gs) (gd := gd) (gi := gi) (hs := hs) (v := v) (whi := whi) (wlo := wlo) (his := his) (los := los) (pm := pm) (pf := pf) ht hO (h2 c hc) (h3 c hc) hM hc hl n2 hF
    exact ⟨nI b, nI b, nI (G' b), nI o', gC', hs', v', whi', wlo', nI o', gM', his', los', pm', pf', by rw [e1, ob_s, if_pos rfl, f1, ob_s], by rw [e2, ob_s, if_pos rfl, f2, ob_s]⟩
  · exact ⟨r, bq, bd, od, gd, hs, v, whi, wlo, gs, gi, his, los, pm, pf, by rw [e1, ob_s, if_neg r0], by rw [e2, ob_s, if_neg r0]⟩
theorem s_worth {F : Nat} {t : Nat → Nat → Nat} {bq bd od gs thr : Int32} {gd gi hs v xs hts lit sc sm fs ts whi wlo all his los pm pf : Nat → Int32} (a1 a2 : Int32) (ht : Tok t) (hO : tcO t xs hts lit sc sm) (h2 : ∀ c, c < t 0 0 → fs c = nI (t 8 c)) (h3 : ∀ c, c < t 0 0 → ts c = nI (t 9 c)) (hM : tM t all 0) (hF : 60 < F) :
    ∃ r bq' bd' od' gd' hs' v' whi' wlo' gs' gi' his' los' pm' pf', fX9_worth F bq bd od (nI (t 0 0)) (nI (t 2 0)) (nI (t 3 0)) gd fs hts lit sc sm ts xs hs v whi wlo a1 a2 = some (r, bq', bd', od', gd', hs', v', whi', wlo') ∧ fX10_worth F thr gs all gi his los pm pf a1 a2 = some (r, 0, gs', gi', his', los', pm', pf') := by
  unfold fX9_worth fX10_worth
  rcases p_refF (F := F) a1 a2 ht (fun c hc => (hO c hc).2.2.2.1) hM with ⟨c, n, hc, hl, n1, n2, rfl, rfl, e1, e2⟩ | ⟨r, r0, e1, e2⟩
  · obtain ⟨b, o', G', gC', gM', hs', v', whi', wlo', his', los', pm', pf', f1, f2, f3, f4⟩ := p_forecast (F := F) (bq := bq) (bd := bd) (od := od) (gs := gs) (gd := gd) (gi := gi) (hs := hs) (v := v) (whi := whi) (wlo := wlo) (his := his) (los := los) (pm := pm) (pf := pf) ht hO (h2 c hc) (h3 c hc) hM hc hl n2 hF
    refine ⟨nI o' - nI (G' b), nI b, nI (G' b), nI o', gC', hs', v', whi', wlo', nI o', gM', his', los', pm', pf', by rw [e1, ob_s, if_pos rfl, f1, ob_s], ?_⟩
    rw [e2, ob_s, if_pos rfl, f2, ob_s]
    show og (vb (nI b) 24) (some (nI o' - gM' (nI b).toNatClampNeg, _)) = _
    rw [vb_nI f3 (by decide), og_s, nI_clamp (by omega), f4]
  · exact ⟨r, bq, bd, od, gd, hs, v, whi, wlo, gs, gi, his, los, pm, pf, by rw [e1, ob_s, if_neg r0], by rw [e2, ob_s, if_neg r0]⟩
