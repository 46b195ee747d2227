theorem w01 (a : Int32) : (decide ((0 : Int64).toInt ≤ a.toInt) && decide (a.toInt ≤ (1 : Int64).toInt)) = (decide (¬ a < 0) && decide (a ≤ 1)) := by
  have e0 : (0 : Int64).toInt = 0 := rfl
  have e1 : (1 : Int64).toInt = 1 := rfl
  have e2 : (0 : Int32).toInt = 0 := rfl
  have e3 : (1 : Int32).toInt = 1 := rfl
  rw [Bool.eq_iff_iff]
  simp [Int32.lt_iff_toInt_lt, Int32.le_iff_toInt_le, e0, e1, e2, e3]
theorem p_lq {F : Nat} (a : Int32) : fX9_isLightingQuarter F a = some (bI (vb a 24)) := by
  unfold fX9_isLightingQuarter
  rcases pk_ix a (n := 24) (by decide) with q | q | ⟨j, hj, rfl⟩
  · have : vb a 24 = false := by
      cases hb : vb a 24 with
      | false => rfl
      | true => obtain ⟨i, hi, rfl⟩ := vb_of (by decide) hb; exact absurd q (nI_pos (by omega))
    rw [this, if_pos q]; rfl
  · have : vb a 24 = false := by
      cases hb : vb a 24 with
      | false => rfl
      | true => obtain ⟨i, hi, rfl⟩ := vb_of (by decide) hb; exact absurd q (nI_ge (by omega) (by decide))
    rw [this]
    split
    · rfl
    · rw [if_pos (show (24 : Int32) ≤ a from q)]; rfl
  · rw [vb_nI hj (by decide), if_neg (nI_pos (by omega)), if_neg (show ¬ (24 : Int32) ≤ nI j from nI_ge (a := j) (b := 24) hj (by decide))]; rfl
theorem w23 (a : Int32) : (decide ((0 : Int64).toInt ≤ a.toInt) && decide (a.toInt ≤ (23 : Int64).toInt)) = vb a 24 := by
  have e0 : (0 : Int64).toInt = 0 := rfl
  have e1 : (23 : Int64).toInt = 23 := rfl
  rw [Bool.eq_iff_iff, vb_iff]
  simp [e0, e1]
  omega
theorem rfI_L {f : Nat → Nat → Bool} {x : Nat → Nat → Nat → Nat → Bool} {U L : Nat} {fo ap : Nat → Int32} (hL : L ≤ 23) (h : rfI f x U 23 fo ap) : rfI (fMx f L) x U L fo ap := by
  refine ⟨fun k hk q hq => ?_, fun k hk q hq => ?_, fun j i a b c d e g => ?_⟩
  · rw [h.1 k hk q (by omega)]; unfold fMx; rw [decide_eq_true hq, Bool.and_true]
  · unfold fMx at hq
    have := (Bool.and_eq_true_iff.mp hq).2
    exact of_decide_eq_true this
  · unfold fMx at e g
    exact h.2.2 j i a b c d (Bool.and_eq_true_iff.mp e).1 (Bool.and_eq_true_iff.mp g).1
/-- promise 24 -/
theorem s_most {F : Nat} {t : Nat → Nat → Nat} {hs v lit sc sm fs ts cl op who all ap few fo his los pm pf qo : Nat → Int32} {mem thr fm : Int32} (a1 a2 : Int32) (ht : Tok t) (hP : plOk t hs v lit sc sm) (h2 : ∀ c, c < t 0 0 → fs c = nI (t 8 c)) (h3 : ∀ c, c < t 0 0 → ts c = nI (t 9 c)) (hM : tM t all 0) (hF : 600 < F) :
    ∃ r, fstIs (fX9_most F (nI (t 0 0)) (nI (t 3 0)) mem fs lit sc sm ts hs v cl op who a1 a2) r ∧ fstIs (fX10_most F thr fm all ap few fo his los pm pf qo a1 a2) r := by
  unfold fX9_most fX10_most
  rw [p_within32, ob_s, w01, p_lq, p_within32, ob_s, ob_s, w23]
  by_cases hn : a2 < 0
  · refine ⟨-2, ?_, ?_⟩
    · rw [if_pos hn]; exact fst_mk
    · rw [decide_eq_false (fun z => z hn), Bool.false_and, bI_0 rfl, if_pos rfl]; exact fst_mk
  · rw [if_neg hn, decide_eq_true hn, Bool.true_and]
    by_cases h1 : a2 ≤ 1
    · rw [if_pos h1, decide_eq_true h1, bI_1 rfl, if_neg one0]
      cases hv : vb a1 24 with
      | false =>
        refine ⟨-3, ?_, ?_⟩
        · rw [bI_0 rfl, if_pos rfl]; exact fst_mk
        · rw [bI_0 rfl, if_pos rfl]; exact fst_mk
      | true =>
        obtain ⟨L, hL, rfl⟩ := vb_of (by decide) hv
        rw [bI_1 rfl, if_neg one0, if_neg one0]
        rcases p_gu (F := F) (mem := mem) (cl := cl) (op := op) (who := who) ht hP h2 h3 hF with ⟨h5, cl', op', who', e1, e2, e3⟩ | ⟨h5, e1⟩
        · rcases p_lf (F := F) (fm := fm) (ap := ap) (few := few) (fo := fo) (his := his) (los := los) (pm := pm) (pf := pf) ht hM (by omega) with ⟨-, ap', few', fo', his', los', pm', pf', g1, g2⟩ | ⟨h6, -⟩
          · have hlink := rfI_L (show L ≤ 23 by omega) (tab_link ht h5 e2 g2)
            obtain ⟨R, op2, s1, s2⟩ := p_greatest (F := F) h5 hL (clI_of cl' (uN t)) (by omega) (opF_of op' (uN t))
            obtain ⟨R', q1, q2⟩ := p_rm48 (F := F) (W := uW t) (all := all) (his := his') (los := los') (pm := pm') (pf := pf') (thr := 0) (a2 := a2) h5 hL hlink (fun k hk => (g2.1 k hk).1) (by omega) (2 ^ uN t - 1) 1 F 0 qo (by have := pw_U (uN t) (by omega); omega) (by have := pw_U (uN t) (by omega); omega) (Nat.le_refl _) (Or.inl ⟨rfl, fun m a b => by omega⟩)
            have hRR := isMax_eq s2 q1
            subst hRR
            have hR32 : R < 32 := by
              have := pw_U (uN t) (by omega)
              rcases s2 with ⟨a, -⟩ | ⟨-, a, -⟩ <;> omega
            refine ⟨if a2 = 0 then nI (pc R) else chW (uW t) R (uN t) 0 0, ?_, ?_⟩
            · rw [e1, ob_s]
              dsimp only
              rw [if_neg one0, s1, ob_s]
              dsimp only
              by_cases e : a2 = 0
              · rw [if_pos e, if_pos e, p_bc5 hR32, ob_s]; exact fst_mk
              · rw [if_neg e, if_neg e, p_chimneysOf h5 e3 (by omega), ob_s]; exact fst_mk
            · rw [g1, ob_s]
              dsimp only
              rw [if_neg one0]
              exact q2
          · omega
        · rcases p_lf (F := F) (fm := fm) (ap := ap) (few := few) (fo := fo) (his := his) (los := los) (pm := pm) (pf := pf) ht hM (by omega) with ⟨h6, -⟩ | ⟨-, g1⟩
          · omega
          · obtain ⟨w1, e1'⟩ := fst_of e1
            obtain ⟨w2, g1'⟩ := fst_of g1
            refine ⟨-4, ?_, ?_⟩
            · rw [e1', ob_s]; exact fst_mk
            · rw [g1', ob_s]; exact fst_mk
    · refine ⟨-2, ?_, ?_⟩
      · rw [if_neg h1]; exact fst_mk
      · rw [decide_eq_false h1, bI_0 rfl, if_pos rfl]; exact fst_mk
/-! promise 22: how many plans -/
def tal (T T' N : Nat) : Prop := T' < 100040 ∧ T ≤ T' ∧ T' ≤ T + N ∧ (T' = T + N ∨ 100000 ≤ T')
theorem p_ap53 {F U D z m' : Nat} {a2 : Int32} {cl : Nat → Int32} {rM : Int32 → (Nat → Int32) → Int32 → Int32 → Option (Int32 × (Nat → Int32))} {f : Nat → Nat → Bool} {x : Nat → Nat → Nat → Nat → Bool} {s : Nat → Bool} {g : Nat → Nat} {la su : Nat} (hU : U ≤ 5) (hD : D ≤ z) (hz : z < U) (hsz : s z = true) (hm : m' < 32) (hm' : ∀ j, j < 5 → m'.testBit j = (decide (z + 1 ≤ j) && s j)) (hcl : clI x U cl) (hF : 6 < F)
    (hR : ∀ (g1 : Nat → Nat) (la su T : Nat) (op1 : Nat → Int32), T < 100000 → opI f x s g1 U op1 (D + 1) (z + 1) → ∃ T' op2, rM (nI T) op1 (nI (D + 1)) (nI m') = some (nI T', op2) ∧ tal T T' (PL f x s (U - (z + 1)) (z + 1) g1 la su).length ∧ ∀ p, p < 5 * (D + 1 + 1) → op2 p = op1 p) :
    ∀ (n q fuel T : Nat) (op : Nat → Int32), q + n = 24 → n < fuel → T < 100040 → opI f x s g U op D z → ∃ T' op', fX6_addPlans_L53 F (nI U) cl (nI D) a2 rM fuel (nI z) (nI m') (nI q) (nI T) op = some (nI T', op') ∧ tal T T' (fromQ (plH f x s (U - (z + 1)) z g la su) n q).length ∧ ∀ p, p < 5 * (D + 1) → op' p = op p
  | 0, q, fuel + 1, T, op, h, _, hT, _ => by
    refine ⟨T, op, ?_, ⟨hT, Nat.le_refl _, Nat.le_refl _, Or.inl rfl⟩, fun _ _ => rfl⟩
    rw [fX6_addPlans_L53, if_pos (show (24 : Int32) ≤ nI q from nI_le (a := 24) (b := q) (by omega) (by omega))]
  | n + 1, q, fuel + 1, T, op, h, hf, hT, hop => by
    have IH := fun T0 op0 => p_ap53 (F := F) (a2 := a2) (g := g) (la := la) (su := su) hU hD hz hsz hm hm' hcl hF hR n (q + 1) fuel T0 op0 (by omega) (by omega)
    rw [fX6_addPlans_L53, if_neg (show ¬ (24 : Int32) ≤ nI q from nI_ge (a := q) (b := 24) (by omega) (by decide))]
    by_cases hTM : 100000 ≤ T
    · refine ⟨T, op, ?_, ⟨hT, Nat.le_refl _, by omega, Or.inr hTM⟩, fun _ _ => rfl⟩
      rw [if_pos (show (100000 : Int32) ≤ nI T from nI_le (a := 100000) (b := T) hTM (by omega))]
    · rw [if_neg (show ¬ (100000 : Int32) ≤ nI T from nI_ge (a := T) (b := 100000) (by omega) (by decide)), p_isOpen hU hD hz (by omega) hsz hop, ob_s, fromQ_s, List.length_append]
      cases hb : goB f x s g z z q with
      | false =>
        rw [bI_0 rfl, if_pos rfl, fX6_addPlans_L102, ol_s, nI_1, plH_no hb, List.length_nil, Nat.zero_add]
        exact IH T op hT hop
      | true =>
        obtain ⟨b, op1, e1, e2, e3, e4⟩ := p_narrow (F := F) (q := q) hU hD hz (by omega) hsz hm hm' hcl hF hop
        rw [bI_1 rfl, if_neg one0, e1, ob_s, plH_yes hb]
        dsimp only
        cases b with
        | false =>
          rw [bI_0 rfl, if_pos rfl, fX6_addPlans_L102, ol_s, nI_1, e4 rfl, List.length_nil, Nat.zero_add]
          obtain ⟨T', op', f1, f2, f3⟩ := IH T op1 hT (opI_congr hU hop e2)
          exact ⟨T', op', f1, f2, fun p hp => by rw [f3 p hp, e2 p hp]⟩
        | true =>
          obtain ⟨T1, op2, g1, g2, g3⟩ := hR (va_up g z q) (max la q) (su + q) T op1 (by omega) (e3 rfl)
          have g4 : ∀ p, p < 5 * (D + 1) → op2 p = op p := fun p hp => by rw [g3 p (by omega), e2 p hp]
          obtain ⟨T', op', f1, f2, f3⟩ := IH T1 op2 g2.1 (opI_congr hU hop g4)
          refine ⟨T', op', ?_, ?_, fun p hp => by rw [f3 p hp, g4 p hp]⟩
          · rw [bI_1 rfl, if_neg one0, show nI D + (1 : Int32) = nI (D + 1) from nI_1 D, g1, ob_s]
            dsimp only
            rw [fX6_addPlans_L102, ol_s, nI_1]
            exact f1
          · unfold tal at g2 f2 ⊢
            omega
  | n, q, 0, T, op, _, hf, _, _ => absurd hf (Nat.not_lt_zero n)
theorem len_last {f : Nat → Nat → Bool} {x : Nat → Nat → Nat → Nat → Bool} {s : Nat → Bool} {r z : Nat} {g : Nat → Nat} {la su : Nat} {S : Int32} (hr : ∀ j, z + 1 ≤ j → j < z + 1 + r → s j = false) (hb : ∀ b, b < 32 → bt S b = goB f x s g z z b) (hf : ∀ q, f z q = true → q ≤ 23) : ∃ N, N < 2 ^ 32 ∧ S = nI N ∧ sumR (fun j => if N.testBit j then 1 else 0) 0 32 = (fromQ (plH f x s r z g la su) 24 0).length := by
  obtain ⟨N, hN, rfl⟩ := wb_of32 S
  refine ⟨N, hN, rfl, ?_⟩
  rw [fromQ_len, sumR_split 24 8, sumR_zero 8 (0 + 24) (fun j a b => ?_), Nat.add_zero]
  · refine sumR_congr 24 0 (fun j a b => ?_)
    have h := hb j (by omega)
    rw [bt_nI (by omega)] at h
    rw [h]
    cases hg : goB f x s g z z j with
    | false => rw [plH_no hg]; rfl
    | true => rw [plH_yes hg, PL_none r (z + 1) hr]; rfl
  · have h := hb j (by omega)
    rw [bt_nI (by omega)] at h
    cases ht : N.testBit j with
    | false => rfl
    | true =>
      rw [ht] at h
      have := hf j (goB_iff.mp h.symm).1
      omega
theorem p_addPlans {F U : Nat} {cl : Nat → Int32} {f : Nat → Nat → Bool} {x : Nat → Nat → Nat → Nat → Bool} {s : Nat → Bool} (hU : U ≤ 5) (hsU : ∀ j, s j = true → j < U) (hcl : clI x U cl) (hff : ∀ k, k < U → ∀ q, f k q = true → q ≤ 23) (hF : 24 < F) :
    ∀ (d i D m : Nat) (g : Nat → Nat) (la su T : Nat) (op : Nat → Int32), U - i < d → D ≤ i → i ≤ U → m < 32 → m ≠ 0 → T < 100000 → (∀ j, j < 5 → m.testBit j = (decide (i ≤ j) && s j)) → opI f x s g U op D i → ∃ T' op', fX6_addPlans F (nI U) cl d (nI T) op (nI D) (nI m) = some (nI T', op') ∧ tal T T' (PL f x s (U - i) i g la su).length ∧ ∀ p, p < 5 * (D + 1) → op' p = op p
  | 0, i, D, m, g, la, su, T, op, h, _, _, _, _, _, _, _ => absurd h (Nat.not_lt_zero _)
  | d + 1, i, D, m, g, la, su, T, op, h, hD, hi, hm, h0, hT, hmb, hop => by
    rw [fX6_addPlans]
    obtain ⟨z, hz, b1, b2, m', hm1, hm2, hm3⟩ := low5 m hm h0
    have hz1 := hmb z hz
    rw [b1] at hz1
    have hzi := Bool.and_eq_true_iff.mp hz1.symm
    have hiz : i ≤ z := of_decide_eq_true hzi.1
    have hsz : s z = true := hzi.2
    have hzU := hsU z hsz
    have hno : ∀ j, i ≤ j → j < z → s j = false := fun j a b => by
      have := hmb j (by omega)
      rw [b2 j b, decide_eq_true a, Bool.true_and] at this
      exact this.symm
    have hgo : ∀ k, k ≤ z - i → ∀ j q, goB f x s g (i + k) j q = goB f x s g i j q := by
      intro k
      induction k with
      | zero => intro _ j q; rfl
      | succ k ih => intro hk j q; rw [← Nat.add_assoc, goB_no (hno (i + k) (by omega) (by omega))]; exact ih (by omega) j q
    have hopz : opI f x s g U op D z := fun j a b c e he => by
      rw [hop j (by omega) b c e he, ← hgo (z - i) (Nat.le_refl _), show i + (z - i) = z by omega]
    have hPL : PL f x s (U - i) i g la su = fromQ (plH f x s (U - (z + 1)) z g la su) 24 0 := by
      rw [← PL_in hsz, show U - i = (U - (z + 1) + 1) + (z - i) by omega, PL_skip (z - i) i (fun j a b => hno j a (by omega)), show i + (z - i) = z by omega]
    have hmz : ∀ j, j < 5 → m'.testBit j = (decide (z + 1 ≤ j) && s j) := fun j hj => by
      rw [hm3 j hj, hmb j hj]
      by_cases e1 : j = z
      · subst e1
        have q1 : ¬ (j + 1 ≤ j) := by omega
        simp [q1]
      · by_cases e2 : j < z
        · have : ¬ (z + 1 ≤ j) := by omega
          by_cases e3 : i ≤ j
          · simp [hno j e3 e2]
          · simp [e3, this]
        · have a1 : z + 1 ≤ j := by omega
          have a2 : i ≤ j := by omega
          simp [a1, a2, e1]
    rw [if_neg (nI_ne0 (by omega) (by omega)), if_pos (show nI D < (5 : Int32) from nI_lt (a := D) (b := 5) (by omega) (by decide)), p_firstOf hm hz b1 b2, ob_s, hm2, ol_s, hPL]
    by_cases hr : m' = 0
    · obtain ⟨N, n1, n2, n3⟩ := len_last (f := f) (x := x) (s := s) (r := U - (z + 1)) (z := z) (g := g) (la := la) (su := su) (S := op (5 * D + z)) (fun j a b => by
        have := hmz j (by omega)
        rw [hr, Nat.zero_testBit, decide_eq_true a, Bool.true_and] at this
        exact this.symm) (fun b hb => hopz z (Nat.le_refl _) hzU hsz b hb) (hff z hzU)
      have hle : sumR (fun j => if N.testBit j then 1 else 0) 0 32 ≤ 1 * 32 := sumR_le 32 0 (fun j _ _ => by split <;> omega)
      refine ⟨T + (fromQ (plH f x s (U - (z + 1)) z g la su) 24 0).length, op, ?_, ⟨by omega, by omega, Nat.le_refl _, Or.inl rfl⟩, fun _ _ => rfl⟩
      rw [hr, if_pos nI_0, ix5, vb_nI (show 5 * D + z < 30 by omega) (by decide), og_s, nI_clamp (by omega), n2, p_bitCountI n1, ob_s, ol_s, nI_add, n3]
    · rw [if_neg (nI_ne0 (by omega) (by omega))]
      exact p_ap53 (F := F) (a2 := nI m) (g := g) (la := la) (su := su) hU (by omega) hzU hsz hm1 hmz hcl (by omega) (fun g1 la1 su1 T1 op1 ht1 h1 => p_addPlans hU hsU hcl hff hF d (z + 1) (D + 1) m' g1 la1 su1 T1 op1 (by omega) (by omega) (by omega) hm1 hr ht1 hmz h1) 24 0 F T op (by omega) (by omega) (by omega) hopz
theorem full_tb {U j : Nat} : (2 ^ U - 1).testBit j = decide (j < U) := Nat.testBit_two_pow_sub_one U j
theorem full_no {f : Nat → Nat → Bool} {x : Nat → Nat → Nat → Nat → Bool} {U R : Nat} (hR : R < 2 ^ U) (h : hasP f x U R = false) : PL f x (fun j => (2 ^ U - 1).testBit j) U 0 (fun _ => 0) 0 0 = [] := by
  have h0 : PL f x (fun j => R.testBit j) U 0 (fun _ => 0) 0 0 = [] := by
    unfold hasP at h
    exact List.isEmpty_iff.mp (by simpa using h)
  exact PL_sub (fun j hj => by rw [full_tb]; exact decide_eq_true (lt_pow hR hj)) U 0 _ _ _ _ _ _ (fun _ _ _ => rfl) h0
theorem p_tally {F U : Nat} {tl : Int32} {cl op : Nat → Int32} {f : Nat → Nat → Bool} {x : Nat → Nat → Nat → Nat → Bool} (hU : U ≤ 5) (hcl : clI x U cl) (hff : ∀ k, k < U → ∀ q, f k q = true → q ≤ 23) (ho : opF f U op) (hF : 32 < F) : fstIs (fX6_tallyPlans F (nI U) tl cl op) (nI (min 100000 (PL f x (fun j => (2 ^ U - 1).testBit j) U 0 (fun _ => 0) 0 0).length)) := by
  unfold fX6_tallyPlans
  by_cases h0 : U = 0
  · subst h0
    rw [if_pos nI_0]; rfl
  · have hp := pw_U U (by omega)
    obtain ⟨R, op2, s1, s2, s3⟩ := p_shutSet (F := F) (f := f) hU hcl hF ho
    have hp1 : 1 < 2 ^ U := by
      have : 2 ^ 1 ≤ 2 ^ U := Nat.pow_le_pow_right (by decide) (by omega)
      omega
    rw [if_neg (nI_ne0 (by omega) (by omega)), s1, ob_s]
    dsimp only
    by_cases e : R = 0
    · rw [e, if_pos nI_0, hp.1, show nI (2 ^ U) - (1 : Int32) = nI (2 ^ U - 1) from pk_sub (b := 1) hp.2.1]
      obtain ⟨T', op', a1, a2, -⟩ := p_addPlans (F := F) (s := fun j => (2 ^ U - 1).testBit j) hU (fun j hj => by rw [full_tb] at hj; exact of_decide_eq_true hj) hcl hff (by omega) 8 0 0 (2 ^ U - 1) (fun _ => 0) 0 0 0 op2 (by omega) (Nat.le_refl _) (by omega) (by omega) (by omega) (by omega) (fun j hj => by simp) (fun j a b c d e => by
        rw [Nat.mul_zero, Nat.zero_add, s3 j b d e]
        unfold goB noC
        simp)
      have a1' : fX6_addPlans F (nI U) cl 8 0 op2 0 (nI (2 ^ U - 1)) = some (nI T', op') := a1
      rw [a1', ob_s]
      dsimp only
      rw [fX6_tallyPlans_L34]
      unfold tal at a2
      rw [Nat.sub_zero] at a2
      generalize (PL f x (fun j => (2 ^ U - 1).testBit j) U 0 (fun _ => 0) 0 0).length = N at a2
      by_cases hT : 100000 < T'
      · rw [if_pos (show (100000 : Int32) < nI T' from nI_lt (a := 100000) (b := T') hT (by omega)), show min 100000 N = 100000 by omega]; exact fst_mk
      · rw [if_neg (show ¬ (100000 : Int32) < nI T' from nI_nlt (a := 100000) (b := T') (by omega) (by decide)), show min 100000 N = T' by omega]; exact fst_mk
    · obtain ⟨r1, r2, r3, -⟩ : 1 ≤ R ∧ R < 2 ^ U ∧ hasP f x U R = false ∧ _ := by
        rcases s2 with ⟨a, -⟩ | a
        · exact absurd a e
        · exact a
      rw [if_neg (nI_ne0 (by omega) (by omega)), full_no r2 r3]
      rfl
/-- promise 22 -/
theorem s_plans {F : Nat} {t : Nat → Nat → Nat} {hs v lit sc sm fs ts cl op who all ap few fo his los pm pf qo : Nat → Int32} {mem thr fm tl : Int32} (ht : Tok t) (hP : plOk t hs v lit sc sm) (h2 : ∀ c, c < t 0 0 → fs c = nI (t 8 c)) (h3 : ∀ c, c < t 0 0 → ts c = nI (t 9 c)) (hM : tM t all 0) (hF : 600 < F) :
    ∃ r, fstIs (fX9_plans F (nI (t 0 0)) (nI (t 3 0)) mem tl fs lit sc sm ts hs v cl op who) r ∧ fstIs (fX10_plans F thr fm all ap few fo his los pm pf qo) r := by
  unfold fX9_plans fX10_plans
  rcases p_gu (F := F) (mem := mem) (cl := cl) (op := op) (who := who) ht hP h2 h3 hF with ⟨h5, cl', op', who', e1, e2, e3⟩ | ⟨h5, e1⟩
  · rcases p_lf (F := F) (fm := fm) (ap := ap) (few := few) (fo := fo) (his := his) (los := los) (pm := pm) (pf := pf) ht hM (by omega) with ⟨-, ap', few', fo', his', los', pm', pf', g1, g2⟩ | ⟨h6, -⟩
    · have hlink := tab_link ht h5 e2 g2
      have hp := pw_U (uN t) (by omega)
      obtain ⟨w, s1⟩ := fst_of (p_tally (F := F) (tl := tl) h5 (clI_of cl' (uN t)) hlink.2.1 (opF_of op' (uN t)) (by omega))
      obtain ⟨qo', w1⟩ := p_ways0 (F := F) (m := 2 ^ uN t - 1) (most := 100000) (qo := qo) h5 (Nat.le_refl 23) hlink (by omega) (by omega) (by omega)
      have w1' : fX10_waysFrom F (nI (uN t)) ap' fo' 8 qo 0 (nI (2 ^ uN t - 1)) 23 100000 = _ := w1
      refine ⟨nI (min 100000 (PL (fOf op') (xOfC cl') (fun j => (2 ^ uN t - 1).testBit j) (uN t) 0 (fun _ => 0) 0 0).length), ?_, ?_⟩
      rotate_left
      · rw [g1, ob_s]
        dsimp only
        rw [if_neg one0, hp.1, show nI (2 ^ uN t) - (1 : Int32) = nI (2 ^ uN t - 1) from pk_sub (b := 1) hp.2.1, w1', ob_s]
        exact fst_mk
      · rw [e1, ob_s]
        dsimp only
        rw [if_neg one0, s1, ob_s]
        exact fst_mk
    · omega
  · rcases p_lf (F := F) (fm := fm) (ap := ap) (few := few) (fo := fo) (his := his) (los := los) (pm := pm) (pf := pf) ht hM (by omega) with ⟨h6, -⟩ | ⟨-, g1⟩
    · omega
    · obtain ⟨w1, e1'⟩ := fst_of e1
      obtain ⟨w2, g1'⟩ := fst_of g1
      refine ⟨-4, ?_, ?_⟩
      · rw [e1', ob_s]; exact fst_mk
      · rw [g1', ob_s]; exact fst_mk
