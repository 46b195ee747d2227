theorem p_plq {F U c : Nat} {t : Nat → Nat → Nat} {W g : Nat → Nat} {so who lit : Nat → Int32} (hn : t 0 0 ≤ 10) (hc : c < t 0 0) (hU : U ≤ 5) (hw : ∀ k, k < U → who k = nI (W k) ∧ W k < 10) (hg : ∀ k, k < U → so k = nI (g k)) (hl : lit c = nI (t 11 c) - 1) :
    ∀ (n k fuel : Nat), k + n = U → n < fuel → ∃ r, fX6_plannedQuarter_L2 F (nI U) so (nI (t 0 0)) who lit (nI c) fuel (nI k) = some r ∧ ((∃ j, k ≤ j ∧ j < U ∧ W j = c ∧ (∀ i, k ≤ i → i < j → W i ≠ c) ∧ r = nI (g j)) ∨ ((∀ j, k ≤ j → j < U → W j ≠ c) ∧ r = nI (t 11 c) - 1))
  | 0, k, fuel + 1, h, _ => by
    refine ⟨nI (t 11 c) - 1, ?_, Or.inr ⟨fun j a b => by omega, rfl⟩⟩
    rw [fX6_plannedQuarter_L2, if_pos (nI_le (by omega) (by omega)), p_has hc (by omega), ob_s, if_neg one0, vb_nI (show c < 10 by omega) (by decide), og_s, nI_clamp (by omega), hl]
  | n + 1, k, fuel + 1, h, hf => by
    obtain ⟨w1, w2⟩ := hw k (by omega)
    rw [fX6_plannedQuarter_L2, if_neg (nI_ge (by omega) (by omega)), vb_nI (show k < 5 by omega) (by decide), og_s, nI_clamp (by omega), w1]
    by_cases e : W k = c
    · refine ⟨nI (g k), ?_, Or.inl ⟨k, Nat.le_refl _, by omega, e, fun i a b => by omega, rfl⟩⟩
      rw [if_pos (by rw [e]), og_s, hg k (by omega)]
    · obtain ⟨r, e1, e2⟩ := p_plq (F := F) (so := so) hn hc hU hw hg hl n (k + 1) fuel (by omega) (by omega)
      refine ⟨r, ?_, ?_⟩
      · rw [if_neg (nI_ne (by omega) (by omega) e), ol_s, nI_1]; exact e1
      · rcases e2 with ⟨j, a, b, d, i1, i2⟩ | ⟨a, b⟩
        · refine Or.inl ⟨j, by omega, b, d, fun i h1 h2 => ?_, i2⟩
          by_cases q : i = k
          · rw [q]; exact e
          · exact i1 i (by omega) h2
        · refine Or.inr ⟨fun j h1 h2 => ?_, b⟩
          by_cases q : j = k
          · rw [q]; exact e
          · exact a j (by omega) h2
  | n, k, 0, _, hf => absurd hf (Nat.not_lt_zero n)
theorem p_pl90 {F U c : Nat} {t : Nat → Nat → Nat} {W g : Nat → Nat} {thr bl bs : Int32} {all ap bo few fo his los pm pf qo : Nat → Int32} (hc : c < 10) (hU : U ≤ 5) (hw : ∀ k, k < U → few k = nI (W k) ∧ W k < 10) (hg : ∀ k, k < U → bo k = nI (g k)) (hl : all (56 + c) = nI (t 11 c)) :
    ∀ (n k fuel : Nat), k + n = U → n < fuel → ∃ r, fstIs (fX10_plan_L90 F all (nI (c + 10)) fuel (nI k) thr (nI U) bl bs ap bo few fo his los pm pf qo) r ∧ ((∃ j, k ≤ j ∧ j < U ∧ W j = c ∧ (∀ i, k ≤ i → i < j → W i ≠ c) ∧ r = nI (g j)) ∨ ((∀ j, k ≤ j → j < U → W j ≠ c) ∧ r = nI (t 11 c) - 1))
  | 0, k, fuel + 1, h, _ => by
    refine ⟨nI (t 11 c) - 1, ?_, Or.inr ⟨fun j a b => by omega, rfl⟩⟩
    rw [fX10_plan_L90, if_pos (nI_le (by omega) (by omega)), show nI (c + 10) - (10 : Int32) = nI c from pk_sub (a := c + 10) (b := 10) (by omega), p_litAt hc, ob_s, hl]; exact fst_mk
  | n + 1, k, fuel + 1, h, hf => by
    obtain ⟨w1, w2⟩ := hw k (by omega)
    rw [fX10_plan_L90, if_neg (nI_ge (by omega) (by omega)), vb_nI (show k < 5 by omega) (by decide), og_s, nI_clamp (by omega), w1, show nI (c + 10) - (10 : Int32) = nI c from pk_sub (a := c + 10) (b := 10) (by omega)]
    by_cases e : W k = c
    · refine ⟨nI (g k), ?_, Or.inl ⟨k, Nat.le_refl _, by omega, e, fun i a b => by omega, rfl⟩⟩
      rw [if_pos (by rw [e]), og_s, hg k (by omega)]; exact fst_mk
    · obtain ⟨r, e1, e2⟩ := p_pl90 (F := F) (thr := thr) (bl := bl) (bs := bs) (ap := ap) (bo := bo) (fo := fo) (his := his) (los := los) (pm := pm) (pf := pf) (qo := qo) hc hU hw hg hl n (k + 1) fuel (by omega) (by omega)
      refine ⟨r, ?_, ?_⟩
      · rw [if_neg (nI_ne (by omega) (by omega) e), ol_s, nI_1]; exact e1
      · rcases e2 with ⟨j, a, b, d, i1, i2⟩ | ⟨a, b⟩
        · refine Or.inl ⟨j, by omega, b, d, fun i h1 h2 => ?_, i2⟩
          by_cases q : i = k
          · rw [q]; exact e
          · exact i1 i (by omega) h2
        · refine Or.inr ⟨fun j h1 h2 => ?_, b⟩
          by_cases q : j = k
          · rw [q]; exact e
          · exact a j (by omega) h2
  | n, k, 0, _, hf => absurd hf (Nat.not_lt_zero n)
theorem plq_same {U c : Nat} {t : Nat → Nat → Nat} {W g : Nat → Nat} {r r' : Int32} (h : (∃ j, 0 ≤ j ∧ j < U ∧ W j = c ∧ (∀ i, 0 ≤ i → i < j → W i ≠ c) ∧ r = nI (g j)) ∨ ((∀ j, 0 ≤ j → j < U → W j ≠ c) ∧ r = nI (t 11 c) - 1)) (h' : (∃ j, 0 ≤ j ∧ j < U ∧ W j = c ∧ (∀ i, 0 ≤ i → i < j → W i ≠ c) ∧ r' = nI (g j)) ∨ ((∀ j, 0 ≤ j → j < U → W j ≠ c) ∧ r' = nI (t 11 c) - 1)) : r = r' := by
  rcases h with ⟨j, -, a1, a2, a3, a4⟩ | ⟨a1, a2⟩
  · rcases h' with ⟨k, -, b1, b2, b3, b4⟩ | ⟨b1, b2⟩
    · have : j = k := by
        rcases Nat.lt_trichotomy j k with q | q | q
        · exact absurd a2 (b3 j (by omega) q)
        · exact q
        · exact absurd b2 (a3 k (by omega) q)
      rw [a4, b4, this]
    · exact absurd a2 (b1 j (by omega) a1)
  · rcases h' with ⟨k, -, b1, b2, b3, b4⟩ | ⟨b1, b2⟩
    · exact absurd b2 (a1 k (by omega) b1)
    · rw [a2, b2]
/-- the part of plan behind its first test: a1 is 0, 1, or 10 and a chimney -/
theorem s_plan39 {F : Nat} {t : Nat → Nat → Nat} {hs v lit sc sm fs ts ch cl op so who all ap bo few fo his los pm pf qo : Nat → Int32} {mem sl ss thr fm bl bs : Int32} (a1 : Int32) (ha : a1 = 0 ∨ a1 = 1 ∨ ∃ c, c < t 0 0 ∧ a1 = nI (c + 10)) (ht : Tok t) (hP : plOk t hs v lit sc sm) (h2 : ∀ c, c < t 0 0 → fs c = nI (t 8 c)) (h3 : ∀ c, c < t 0 0 → ts c = nI (t 9 c)) (hM : tM t all 0) (hF : 600 < F) :
    ∃ r, fstIs (fX9_plan_L26 F (nI (t 0 0)) (nI (t 3 0)) fs lit sc sm ts hs v a1 mem sl ss ch cl op so who) r ∧ fstIs (fX10_plan_L39 F all a1 thr fm bl bs ap bo few fo his los pm pf qo) r := by
  have hn := ht.1
  unfold fX9_plan_L26 fX10_plan_L39
  rcases p_gu (F := F) (mem := mem) (cl := cl) (op := op) (who := who) ht hP h2 h3 hF with ⟨h5, cl', op', who', e1, e2, e3⟩ | ⟨h5, e1⟩
  · rcases p_lf (F := F) (fm := fm) (ap := ap) (few := few) (fo := fo) (his := his) (los := los) (pm := pm) (pf := pf) ht hM (by omega) with ⟨-, ap', few', fo', his', los', pm', pf', g1, g2⟩ | ⟨h6, -⟩
    · have hlink := tab_link ht h5 e2 g2
      rw [e1, ob_s, g1, ob_s]
      dsimp only
      rw [if_neg one0, if_neg one0]
      rcases p_both (F := F) (ch := ch) (so := so) (sl := sl) (ss := ss) (bs := bs) (bo := bo) (qo := qo) h5 (clI_of cl' (uN t)) hlink (opF_of op' (uN t)) (by omega) with ⟨q1, q2⟩ | ⟨la, su, g, ch', op2, so', bo', qo', q0, q1, q2, q3⟩
      · obtain ⟨w1, q1'⟩ := fst_of q1
        obtain ⟨w2, q2'⟩ := fst_of q2
        refine ⟨-1, ?_, ?_⟩
        · rw [q1', ob_s]; exact fst_mk
        · rw [q2', ob_s]
          dsimp only
          rw [if_pos rfl]; exact fst_mk
      · rw [q1, ob_s, q2, ob_s]
        dsimp only
        rw [if_neg one0, if_neg (nI_nm1 (by omega))]
        rcases ha with ha | ha | ⟨c, hc, ha⟩
        · rw [if_pos ha, if_pos ha]; exact ⟨nI la, fst_mk, fst_mk⟩
        · have h10 : ¬ a1 = 0 := by rw [ha]; decide
          rw [if_neg h10, if_neg h10, if_pos ha, if_pos ha]; exact ⟨nI su, fst_mk, fst_mk⟩
        · have h10 : ¬ a1 = 0 := by rw [ha]; exact nI_ne0 (by omega) (by omega)
          have h11 : ¬ a1 = 1 := by rw [ha]; exact nI_ne (a := c + 10) (b := 1) (by omega) (by decide) (by omega)
          rw [if_neg h10, if_neg h10, if_neg h11, if_neg h11, ha, show nI (c + 10) - (10 : Int32) = nI c from pk_sub (a := c + 10) (b := 10) (by omega)]
          have hW10 : ∀ k, k < uN t → uW t k < 10 := fun k hk => by have := (uW_at hk).1; omega
          obtain ⟨r, a1, a2⟩ := p_plq (F := F) (W := uW t) (g := g) (so := so') hn hc h5 (fun k hk => ⟨e3 k hk, hW10 k hk⟩) (fun k hk => (q3 k hk).1) (hP c hc).2.1 (uN t) 0 F (by omega) (by omega)
          have m5 := (hM.2.1 c hc).2.2.2.2.2.1
          rw [Nat.zero_add] at m5
          obtain ⟨r', b1, b2⟩ := p_pl90 (F := F) (t := t) (W := uW t) (g := g) (thr := thr) (bl := nI la) (bs := nI su) (ap := ap') (bo := bo') (fo := fo') (his := his') (los := los') (pm := pm') (pf := pf') (qo := qo') (show c < 10 by omega) h5 (fun k hk => ⟨(g2.1 k hk).1, hW10 k hk⟩) (fun k hk => (q3 k hk).2) m5 (uN t) 0 F (by omega) (by omega)
          have := plq_same a2 b2
          subst this
          refine ⟨r, ?_, b1⟩
          have a1' : fX6_plannedQuarter F (nI (uN t)) so' (nI (t 0 0)) who' lit (nI c) = some r := a1
          rw [a1', ob_s]; exact fst_mk
    · omega
  · rcases p_lf (F := F) (fm := fm) (ap := ap) (few := few) (fo := fo) (his := his) (los := los) (pm := pm) (pf := pf) ht hM (by omega) with ⟨h6, -⟩ | ⟨-, g1⟩
    · omega
    · obtain ⟨w1, e1'⟩ := fst_of e1
      obtain ⟨w2, g1'⟩ := fst_of g1
      refine ⟨-4, ?_, ?_⟩
      · rw [e1', ob_s]; exact fst_mk
      · rw [g1', ob_s]; exact fst_mk
/-- promise 21 -/
theorem s_plan {F : Nat} {t : Nat → Nat → Nat} {hs v lit sc sm fs ts ch cl op so who all ap bo few fo his los pm pf qo : Nat → Int32} {mem sl ss thr fm bl bs : Int32} (a1 : Int32) (ht : Tok t) (hP : plOk t hs v lit sc sm) (h2 : ∀ c, c < t 0 0 → fs c = nI (t 8 c)) (h3 : ∀ c, c < t 0 0 → ts c = nI (t 9 c)) (hM : tM t all 0) (hF : 600 < F) :
    ∃ r, fstIs (fX9_plan F (nI (t 0 0)) (nI (t 3 0)) mem sl ss fs lit sc sm ts hs v ch cl op so who a1) r ∧ fstIs (fX10_plan F thr fm bl bs all ap bo few fo his los pm pf qo a1) r := by
  have hn := ht.1
  have e0 : all (0 : Int32).toNatClampNeg = nI (t 0 0) := hM.1 0 (by decide)
  unfold fX9_plan fX10_plan
  rw [p_within32, ob_s, w01, e0, show (9 : Int32) + nI (t 0 0) = nI (9 + t 0 0) from nI_add 9 _, p_within32, ob_s, Int32.toInt_toInt64, nI_toInt (by omega), show (10 : Int64).toInt = 10 from rfl]
  by_cases hneg : a1 < 0
  · refine ⟨-2, ?_, ?_⟩
    · rw [if_pos hneg]; exact fst_mk
    · have h1 : a1.toInt < 0 := by
        have := Int32.lt_iff_toInt_lt.mp hneg
        exact this
      rw [decide_eq_false (fun z => z hneg), Bool.false_and, bI_0 rfl, if_pos rfl, decide_eq_false (show ¬ (10 : Int) ≤ a1.toInt by omega), Bool.false_and, bI_0 rfl, if_pos rfl]; exact fst_mk
  · obtain ⟨k, hk, rfl⟩ := nI_of hneg
    rw [if_neg hneg, decide_eq_true hneg, Bool.true_and, nI_toInt hk]
    by_cases h1 : k ≤ 1
    · have hle : nI k ≤ 1 := nI_le (a := k) (b := 1) h1 (by decide)
      rw [if_pos hle, decide_eq_true hle, bI_1 rfl, if_neg one0]
      exact s_plan39 (nI k) (by
        rcases Nat.lt_or_ge k 1 with q | q
        · left; rw [show k = 0 by omega]; rfl
        · right; left; rw [show k = 1 by omega]; rfl) ht hP h2 h3 hM hF
    · have hle : ¬ nI k ≤ 1 := nI_ge (a := 1) (b := k) (by omega) hk
      rw [if_neg hle, decide_eq_false hle, bI_0 rfl, if_pos rfl]
      rcases Nat.lt_or_ge k 10 with q | q
      · have hv : vb (nI k - (10 : Int32)) (t 0 0) = false := by
          cases hb : vb (nI k - (10 : Int32)) (t 0 0) with
          | false => rfl
          | true =>
            obtain ⟨i, hi, e⟩ := vb_of (by omega) hb
            have := pk_sneg (a := k) (b := 10) (by decide) q
            rw [show nI k - nI 10 = nI i from e] at this
            exact absurd this (nI_pos (by omega))
        refine ⟨-2, ?_, ?_⟩
        · rw [p_hasN (by omega) hv, ob_s, if_pos rfl]; exact fst_mk
        · rw [decide_eq_false (show ¬ (10 : Int) ≤ (k : Int) by omega), Bool.false_and, bI_0 rfl, if_pos rfl]; exact fst_mk
      · have hsub : nI k - (10 : Int32) = nI (k - 10) := pk_sub (b := 10) q
        rw [hsub]
        rcases Nat.lt_or_ge (k - 10) (t 0 0) with z | z
        · rw [p_has z (by omega), ob_s, if_neg one0, decide_eq_true (show (10 : Int) ≤ (k : Int) by omega), decide_eq_true (show (k : Int) ≤ ((9 + t 0 0 : Nat) : Int) by omega), Bool.true_and, bI_1 rfl, if_neg one0]
          exact s_plan39 (nI k) (Or.inr (Or.inr ⟨k - 10, z, by rw [show k - 10 + 10 = k by omega]⟩)) ht hP h2 h3 hM hF
        · have hv : vb (nI (k - 10)) (t 0 0) = false := by
            cases hb : vb (nI (k - 10)) (t 0 0) with
            | false => rfl
            | true =>
              obtain ⟨i, hi, e⟩ := vb_of (by omega) hb
              have := (nI_eq (by omega) (by omega)).mp e
              omega
          refine ⟨-2, ?_, ?_⟩
          · rw [p_hasN (by omega) hv, ob_s, if_pos rfl]; exact fst_mk
          · rw [decide_eq_false (show ¬ (k : Int) ≤ ((9 + t 0 0 : Nat) : Int) by omega), Bool.and_false, bI_0 rfl, if_pos rfl]; exact fst_mk
