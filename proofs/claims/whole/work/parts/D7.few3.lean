theorem p_lf124 {F U : Nat} {t : Nat → Nat → Nat} {Wd : Nat → Nat → Nat} {all few fo his los pm pf : Nat → Int32} (ht : Tok t) (hM : tM t all 0) (hU : U = uN t) (hU5 : U ≤ 5) (hfo : ∀ k, k < U → bsI (fo k) (freeP t Wd (uW t k))) (hR : fewR t Wd pm pf U) (hF : 130 < F) :
    ∀ (n x fuel : Nat) (ap : Nat → Int32), x + n = 24 * U → n < fuel → (∀ x' y, x' < x → y < x' → apOk t Wd ap x' y) → ∃ ap' : Nat → Int32, fX10_laysFew_L124 F all fuel (nI x) (nI U) ap few fo his los pm pf = some (1, nI U, ap', few, fo, his, los, pm, pf) ∧ ∀ x' y, x' < 24 * U → y < x' → apOk t Wd ap' x' y
  | 0, x, fuel + 1, ap, h, _, hA => by
    refine ⟨ap, ?_, fun x' y a1 a2 => hA x' y (by omega) a2⟩
    have e : (24 : Int32) * nI U = nI (24 * U) := pk_mul 24 U
    rw [fX10_laysFew_L124, e, if_pos (nI_le (by omega) (by omega))]
  | n + 1, x, fuel + 1, ap, h, hf, hA => by
    have e : (24 : Int32) * nI U = nI (24 * U) := pk_mul 24 U
    obtain ⟨ap1, e1, e2, e3⟩ := p_lf137 (F := F) (x := x) (few := few) (his := his) (los := los) (k124 := fun x1 v_fewMany v_areApart v_few v_freeOf v_highs v_lows v_puffMany v_puffsOf => fX10_laysFew_L124 F all fuel x1 v_fewMany v_areApart v_few v_freeOf v_highs v_lows v_puffMany v_puffsOf) ht hM hU hU5 hfo hR (by omega) (by omega) x 0 F ap (by omega) (by omega)
    obtain ⟨ap', f1, f2⟩ := p_lf124 (F := F) (few := few) (his := his) (los := los) ht hM hU hU5 hfo hR hF n (x + 1) fuel ap1 (by omega) (by omega) (fun x' y a1 a2 => by
      by_cases e : x' = x
      · subst e; exact e2 y (Nat.zero_le _) a2
      · unfold apOk
        rw [e3 _ (fun y' b1 b2 => by omega)]
        exact hA x' y (by omega) a2)
    refine ⟨ap', ?_, f2⟩
    rw [fX10_laysFew_L124, e, if_neg (nI_ge (by omega) (by omega))]
    exact e1.trans f1
  | n, x, 0, ap, _, hf, _ => absurd hf (Nat.not_lt_zero n)
theorem unl_cnt {t : Nat → Nat → Nat} {all : Nat → Int32} (ht : Tok t) (hM : tM t all 0) : ∀ i, i ≤ t 0 0 → cntB (mlitB all) i + fitN (uB t) i = i
  | 0, _ => by
    have := fitN_le (uB t) 0
    show 0 + fitN (uB t) 0 = 0
    omega
  | i + 1, h => by
    have ih := unl_cnt ht hM i (by omega)
    have hi : i < t 0 0 := by omega
    have m5 := (hM.2.1 i hi).2.2.2.2.2.1
    rw [Nat.zero_add] at m5
    have hc : cntB (mlitB all) (i + 1) = cntB (mlitB all) i + (if mlitB all i then 1 else 0) := rfl
    have hs := fitN_s (uB t) i
    have li := litM_iff (ht.lit hi)
    by_cases hl : t 11 i = 0
    · have h1 : uB t i = true := decide_eq_true hl
      have h2 : mlitB all i = false := by unfold mlitB; rw [m5]; simp [li.mpr hl]
      rw [h1] at hs
      rw [h2] at hc
      simp at hs hc
      omega
    · have h1 : uB t i = false := decide_eq_false hl
      have h2 : mlitB all i = true := by
        unfold mlitB; rw [m5]
        have : ¬ nI (t 11 i) ≤ 0 := fun z => hl (li.mp z)
        simp [this]
      rw [h1] at hs
      rw [h2] at hc
      simp at hs hc
      omega
/-- the reference's tables of the few -/
def fwT (t : Nat → Nat → Nat) (Wd : Nat → Nat → Nat) (few fo ap : Nat → Int32) : Prop := (∀ k, k < uN t → few k = nI (uW t k) ∧ bsI (fo k) (freeP t Wd (uW t k))) ∧ ∀ x y, x < 24 * uN t → y < x → apOk t Wd ap x y
theorem p_lf {F : Nat} {t : Nat → Nat → Nat} {all ap few fo his los pm pf : Nat → Int32} {fm : Int32} (ht : Tok t) (hM : tM t all 0) (hF : 130 < F) : (uN t ≤ 5 ∧ ∃ ap' few' fo' his' los' pm' pf' : Nat → Int32, fX10_laysFew F fm all ap few fo his los pm pf = some (1, nI (uN t), ap', few', fo', his', los', pm', pf') ∧ fwT t (tW t) few' fo' ap') ∨ (5 < uN t ∧ fstIs (fX10_laysFew F fm all ap few fo his los pm pf) 0) := by
  have hn := ht.1
  have e0 : all (0 : Int32).toNatClampNeg = nI (t 0 0) := hM.1 0 (by decide)
  have hc := unl_cnt ht hM (t 0 0) (Nat.le_refl _)
  have hsub : nI (t 0 0) - nI (cntB (mlitB all) (t 0 0)) = nI (uN t) := by
    rw [pk_sub (by omega)]
    unfold uN
    rw [show t 0 0 - cntB (mlitB all) (t 0 0) = fitN (uB t) (t 0 0) by omega]
  have hle : uN t ≤ 10 := by unfold uN; omega
  unfold fX10_laysFew
  rw [p_litMany (hM.1 0 (by decide)) hn (by omega), ob_s, e0, hsub]
  by_cases h5 : uN t ≤ 5
  · obtain ⟨his', los', pm1, pf1, f1, f2, f3, f4⟩ := p_laysNow (F := F) (his := his) (los := los) (pm := pm) (pf := pf) ht hM (by omega)
    have z0 : fitN (uB t) 0 = 0 := by have := fitN_le (uB t) 0; omega
    obtain ⟨few', fo', pm', pf', g1, g2, g3⟩ := p_lf28 (F := F) (Wd := tW t) ht hM (tW_le ht) f2 f3 h5 (by omega) (t 0 0) 0 F ap few fo pm1 pf1 (by omega) (by omega) (fun k hk => by omega) ⟨f4, fun k hk => by omega⟩
    rw [z0] at g1
    obtain ⟨ap', k1, k2⟩ := p_lf124 (F := F) (few := few') (his := his') (los := los') ht hM rfl h5 (fun k hk => (g2 k hk).2) g3 hF (24 * uN t) 0 F ap (by omega) (by omega) (fun x' y a1 => by omega)
    refine Or.inl ⟨h5, ap', few', fo', his', los', pm', pf', ?_, g2, k2⟩
    rw [if_pos (show nI (uN t) ≤ 5 from nI_le (a := uN t) (b := 5) h5 (by decide)), f1, ob_s]
    exact g1.trans k1
  · refine Or.inr ⟨by omega, ?_⟩
    rw [if_neg (show ¬ nI (uN t) ≤ 5 from nI_ge (a := 5) (b := uN t) (by omega) (by omega))]
    rfl
