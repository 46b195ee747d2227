theorem p_otg_L {F i k : Nat} {L : Int64} {A : Nat → Nat} {cnt am ob : Nat → Int32} (hi : i < 20) (hk : k ≤ 25) (hc : cnt i = nI k) (hA : ∀ j, j < k → am (25 * i + j) = nI (A j) ∧ A j < 2 ^ 20) :
    ∀ (m j fuel : Nat), j + m = k → m < fuel → (∀ j', j' < j → ¬ lN (A j') = L) → (∃ j0, j0 < k ∧ lN (A j0) = L ∧ fX0_optionsThatGive_L6 F cnt am ob (nI i) L fuel (nI (25 * i + j)) = some (ob (25 * i + j0))) ∨ ((∀ j', j' < k → ¬ lN (A j') = L) ∧ fX0_optionsThatGive_L6 F cnt am ob (nI i) L fuel (nI (25 * i + j)) = some 0)
  | 0, j, fuel + 1, e, _, h => by
    have e25 : nI i * (25 : Int32) + nI k = nI (25 * i + k) := by rw [show (25 : Int32) = nI 25 from rfl, pk_mul, nI_add, Nat.mul_comm]
    refine Or.inr ⟨fun j' hj' => h j' (by omega), ?_⟩
    rw [fX0_optionsThatGive_L6, vb_nI hi (by decide), og_s, nI_clamp (by omega), hc, e25, if_pos (nI_le (by omega) (by omega))]
  | m + 1, j, fuel + 1, e, hf, h => by
    have e25 : nI i * (25 : Int32) + nI k = nI (25 * i + k) := by rw [show (25 : Int32) = nI 25 from rfl, pk_mul, nI_add, Nat.mul_comm]
    obtain ⟨a1, a2⟩ := hA j (by omega)
    rw [fX0_optionsThatGive_L6, vb_nI hi (by decide), og_s, nI_clamp (by omega), hc, e25, if_neg (nI_ge (by omega) (by omega)), vb_nI (by omega) (by decide), og_s, og_s, nI_clamp (by omega), a1, nI_l (by omega)]
    by_cases hj : lN (A j) = L
    · exact Or.inl ⟨j, by omega, hj, by rw [if_pos ((cmp0 _ _).mpr hj)]⟩
    · rw [if_neg (fun z => hj ((cmp0 _ _).mp z)), ol_s, nI_1]
      exact p_otg_L hi hk hc hA m (j + 1) fuel (by omega) (by omega) (fun j' hj' => by
        by_cases e1 : j' = j
        · subst e1; exact hj
        · exact h j' (by omega))
  | m, j, 0, _, hf, _ => absurd hf (Nat.not_lt_zero _)
theorem p_otg {F i : Nat} {t : Nat → Nat → Nat} {sv : Nat → Nat} {L : Int64} {cnt am ob : Nat → Int32} (hi : i < 20) (hT : tabI t sv i 25 cnt am ob) (hs : ∀ o, sv o < 2 ^ 20) (hF : 60 < F) : ∃ S, fX0_optionsThatGive F cnt am ob (nI i) L = some S ∧ bsI S (fun o => o < 25 ∧ optB t 2 o = true ∧ lN (sv o) = L) := by
  obtain ⟨k, A, h1, h2, h3, h4, h5⟩ := hT
  have e25 : nI i * (25 : Int32) = nI (25 * i + 0) := by rw [show (25 : Int32) = nI 25 from rfl, pk_mul, Nat.mul_comm, Nat.add_zero]
  unfold fX0_optionsThatGive
  rw [ol_s, e25]
  rcases p_otg_L (F := F) (L := L) (ob := ob) hi h1 h2 (fun j hj => ⟨(h3 j hj).1, (h3 j hj).2.1⟩) k 0 F (by omega) (by omega) (fun j' hj' => by omega) with ⟨j0, b1, b2, b3⟩ | ⟨b1, b2⟩
  · obtain ⟨a1, a2, a3⟩ := h3 j0 b1
    refine ⟨_, b3, bsI_iff a3 (fun o _ => ?_)⟩
    constructor
    · rintro ⟨z1, z2, z3⟩; exact ⟨z1, z2, by rw [z3]; exact b2⟩
    · rintro ⟨z1, z2, z3⟩
      have := hs o
      exact ⟨z1, z2, (pk_lEQ (by omega) (by omega)).mp (z3.trans b2.symm)⟩
  · refine ⟨0, b2, bsI_iff bsI_0 (fun o _ => ⟨False.elim, fun z => ?_⟩)⟩
    obtain ⟨j, y1, y2⟩ := h5 o z.1 z.2.1
    exact b1 j y1 (by rw [y2]; exact z.2.2)
/-! days that fit -/
def misB (t : Nat → Nat → Nat) (X : Nat → Nat) (Z : Nat → Int64) (o0 o1 o2 i : Nat) : Bool := !decide (lN (shr t 2 o2 (X i)) = (Z i - lN (shr t 0 o0 (X i))) - lN (shr t 1 o1 (X i)))
def okB (t : Nat → Nat → Nat) (X : Nat → Nat) (Z : Nat → Int64) (T o0 o1 o2 : Nat) : Bool := !anyR (misB t X Z o0 o1 o2) 0 T
theorem p_fo_L {F T o0 o1 : Nat} {t : Nat → Nat → Nat} {X : Nat → Nat} {Z : Nat → Int64} {cnt am op ob sh : Nat → Int32} (ht : Tok t) (hT : T ≤ 20) (h0 : o0 < 25) (h1 : o1 < 25) (htab : ∀ i, i < T → tabI t (svO t X i) i 25 cnt am ob) (hs0 : ∀ i, i < T → sh (plc 0 o0 i) = nI (shr t 0 o0 (X i))) (hs1 : ∀ i, i < T → sh (plc 1 o1 i) = nI (shr t 1 o1 (X i))) (hF : 60 < F) :
    ∀ (k i fuel : Nat) (S : Int32), i + k = T → k < fuel → bsI S (fun o => (o < 25 ∧ optB t 2 o = true) ∧ anyR (misB t X Z o0 o1 o) 0 i = false) → ∃ S', fX0_fittingOptions_L10 F (nI T) cnt am op ob sh Z (nI o0) (nI o1) fuel S (nI i) = some S' ∧ bsI S' (fun o => (o < 25 ∧ optB t 2 o = true) ∧ anyR (misB t X Z o0 o1 o) 0 T = false)
  | 0, i, fuel + 1, S, e, _, hS => ⟨S, by rw [fX0_fittingOptions_L10, if_pos (nI_le (by omega) (by omega))]; rfl, by rw [show i = T by omega] at hS; exact hS⟩
  | k + 1, i, fuel + 1, S, e, hf, hS => by
    rw [fX0_fittingOptions_L10, if_neg (nI_ge (by omega) (by omega))]
    unfold fX0_fittingOptions_L77
    by_cases hz : S = 0
    · subst hz
      refine ⟨0, by rw [if_pos rfl], bsI_iff bsI_0 (fun o ho => ⟨False.elim, fun z => ?_⟩)⟩
      have hf0 : anyR (misB t X Z o0 o1 o) 0 i = false := by
        cases hb : anyR (misB t X Z o0 o1 o) 0 i with
        | false => rfl
        | true =>
          obtain ⟨j, a, b, c⟩ := (anyR_iff _ _).mp hb
          have := (anyR_iff (p := misB t X Z o0 o1 o) T 0).mpr ⟨j, a, by omega, c⟩
          rw [z.2] at this; cases this
      have := (hS o ho).mpr ⟨z.1, hf0⟩
      exact (bsI_0 o ho).mp this
    · obtain ⟨S1, s1, s2⟩ := p_otg (F := F) (sv := svO t X i) (L := (Z i - lN (shr t 0 o0 (X i))) - lN (shr t 1 o1 (X i))) (show i < 20 by omega) (htab i (by omega)) (fun o => shr_lt ht) hF
      have hp0 : plc 0 o0 i < 1500 := by unfold plc; omega
      have hp1 : plc 1 o1 i < 1500 := by unfold plc; omega
      have l0 : fX0_sharePlace F 0 (nI o0) (nI i) = some (nI (plc 0 o0 i)) := congrArg some (plc_I 0 o0 i)
      have l1 : fX0_sharePlace F 1 (nI o1) (nI i) = some (nI (plc 1 o1 i)) := congrArg some (plc_I 1 o1 i)
      have b0 := shr_lt (c := 0) (o := o0) (x := X i) ht
      have b1 := shr_lt (c := 1) (o := o1) (x := X i) ht
      rw [if_neg hz, vb_nI (by omega) (by decide), og_s, l0, ob_s, vb_nI hp0 (by decide), og_s, l1, ob_s, vb_nI hp1 (by decide), og_s, ol_s, nI_clamp (by omega), nI_clamp (by omega), nI_clamp (by omega), hs0 i (by omega), hs1 i (by omega), nI_l (by omega), nI_l (by omega), s1, ob_s, ol_s, ol_s, nI_1]
      refine p_fo_L ht hT h0 h1 htab hs0 hs1 hF k (i + 1) fuel (S &&& S1) (by omega) (by omega) (bsI_iff (bsI_and hS s2) (fun o _ => ?_))
      have hend : anyR (misB t X Z o0 o1 o) 0 (i + 1) = (anyR (misB t X Z o0 o1 o) 0 i || misB t X Z o0 o1 o i) := by
        rw [Bool.eq_iff_iff, Bool.or_eq_true, anyR_iff, anyR_iff]
        constructor
        · rintro ⟨j, a, b, c⟩
          by_cases e1 : j = i
          · subst e1; exact Or.inr c
          · exact Or.inl ⟨j, a, by omega, c⟩
        · rintro (⟨j, a, b, c⟩ | c)
          · exact ⟨j, a, by omega, c⟩
          · exact ⟨i, by omega, by omega, c⟩
      rw [hend, Bool.or_eq_false_iff]
      have hm : misB t X Z o0 o1 o i = false ↔ lN (svO t X i o) = (Z i - lN (shr t 0 o0 (X i))) - lN (shr t 1 o1 (X i)) := by
        unfold misB svO
        simp
      rw [hm]
      constructor
      · rintro ⟨⟨z1, z2⟩, z3, z4, z5⟩; exact ⟨z1, z2, z5⟩
      · rintro ⟨z1, z2, z3⟩; exact ⟨⟨z1, z2⟩, z1.1, z1.2, z3⟩
  | k, i, 0, S, _, hf, _ => absurd hf (Nat.not_lt_zero k)
theorem p_fo {F T o0 o1 : Nat} {t : Nat → Nat → Nat} {X : Nat → Nat} {Z : Nat → Int64} {cnt am op ob sh : Nat → Int32} (ht : Tok t) (hT : T ≤ 20) (h0 : o0 < 25) (h1 : o1 < 25) (hop : bsI (op 2) (fun j => j < 25 ∧ optB t 2 j = true)) (htab : ∀ i, i < T → tabI t (svO t X i) i 25 cnt am ob) (hs0 : ∀ i, i < T → sh (plc 0 o0 i) = nI (shr t 0 o0 (X i))) (hs1 : ∀ i, i < T → sh (plc 1 o1 i) = nI (shr t 1 o1 (X i))) (hF : 60 < F) : ∃ S, fX0_fittingOptions F (nI T) cnt am op ob sh Z (nI o0) (nI o1) = some S ∧ ∀ o, o < 32 → bt S o = (decide (o < 25) && (optB t 2 o && okB t X Z T o0 o1 o)) := by
  obtain ⟨S, s1, s2⟩ := p_fo_L (F := F) (op := op) ht hT h0 h1 htab hs0 hs1 hF T 0 F (op 2) (by omega) (by omega) (bsI_iff hop (fun o _ => ⟨fun z => ⟨z, rfl⟩, fun z => z.1⟩))
  refine ⟨S, s1, fun o ho => ?_⟩
  rw [Bool.eq_iff_iff, bsI_b s2 ho]
  unfold okB
  simp only [Bool.and_eq_true, decide_eq_true_eq, Bool.not_eq_true']
  exact ⟨fun z => ⟨z.1.1, z.1.2, z.2⟩, fun z => ⟨⟨z.1, z.2.1⟩, z.2.2⟩⟩
/-- day d = 625 o0 + 25 o1 + o2 fits -/
def fitB (t : Nat → Nat → Nat) (X : Nat → Nat) (Z : Nat → Int64) (T d : Nat) : Bool := optB t 0 (d / 625) && (optB t 1 (d / 25 % 25) && (optB t 2 (d % 25) && okB t X Z T (d / 625) (d / 25 % 25) (d % 25)))
/-- how many of the first D days fit -/
def fitN (f : Nat → Bool) (D : Nat) : Nat := sumR (fun d => if f d then 1 else 0) 0 D
theorem fitN_s (f : Nat → Bool) (D : Nat) : fitN f (D + 1) = fitN f D + (if f D then 1 else 0) := by
  unfold fitN
  rw [sumR_end, Nat.zero_add]
theorem fitN_le (f : Nat → Bool) (D : Nat) : fitN f D ≤ D := by
  have := sumR_le (f := fun d => if f d then 1 else 0) (M := 1) D 0 (fun j _ _ => by show (if _ then 1 else 0) ≤ 1; split <;> omega)
  unfold fitN; omega
theorem fitN_mono (f : Nat → Bool) {a b : Nat} (h : a ≤ b) : fitN f a ≤ fitN f b := by
  unfold fitN
  rw [show b = a + (b - a) by omega, sumR_split]; omega
/-- the k-th day that fits is kept -/
def dayK (f : Nat → Bool) (a : Int32) (D : Nat) (dy : Nat → Int32) : Prop := ∀ d, d < D → f d = true → nI (fitN f d) = a → dy 0 = nI (d / 625) ∧ dy 1 = nI (d / 25 % 25) ∧ dy 2 = nI (d % 25)
theorem dayK_no {f : Nat → Bool} {a : Int32} {D : Nat} {dy : Nat → Int32} (h : dayK f a D dy) (hf : f D = false) : dayK f a (D + 1) dy := fun d hd hfd hn => by
  by_cases e : d = D
  · subst e; rw [hf] at hfd; cases hfd
  · exact h d (by omega) hfd hn
theorem p_ad_L {F o0 o1 : Nat} {a fit al : Int32} {f : Nat → Bool} (h0 : o0 < 25) (h1 : o1 < 25) (hfit : ∀ o, o < 25 → bt fit o = f (625 * o0 + 25 * o1 + o)) :
    ∀ (k o fuel : Nat) (dy : Nat → Int32), o + k = 25 → k < fuel → dayK f a (625 * o0 + 25 * o1 + o) dy → ∃ dy', fX0_addDays_L3 F (nI o0) (nI o1) fit a fuel (nI o) (nI (fitN f (625 * o0 + 25 * o1 + o))) al dy = (if nI o0 = 0 then (fX0_addDays_L80 F (nI o0) (nI o1) fit a 0 al (nI (fitN f (625 * o0 + 25 * o1 + 25))) al dy') else (fX0_addDays_L80 F (nI o0) (nI o1) fit a 1 al (nI (fitN f (625 * o0 + 25 * o1 + 25))) al dy')) ∧ dayK f a (625 * o0 + 25 * o1 + 25) dy'
  | 0, o, fuel + 1, dy, e, _, h => ⟨dy, by rw [fX0_addDays_L3, show o = 25 by omega, if_pos (show (25 : Int32) ≤ nI 25 from nI_le (Nat.le_refl 25) (by decide))], by rw [show o = 25 by omega] at h; exact h⟩
  | k + 1, o, fuel + 1, dy, e, hf, h => by
    have hs := fitN_s f (625 * o0 + 25 * o1 + o)
    rw [fX0_addDays_L3, if_neg (show ¬ (25 : Int32) ≤ nI o from nI_ge (a := o) (b := 25) (by omega) (by decide)), bitI (by omega), hfit o (by omega)]
    unfold fX0_addDays_L50 fX0_addDays_L60
    simp only [ol_s, nI_1]
    cases hb : f (625 * o0 + 25 * o1 + o) with
    | false =>
      rw [hb] at hs
      have ih := p_ad_L (F := F) (al := al) h0 h1 hfit k (o + 1) fuel dy (by omega) (by omega) (by rw [← Nat.add_assoc]; exact dayK_no h hb)
      rw [← Nat.add_assoc, hs] at ih
      rw [bI_0 rfl, if_pos rfl]
      exact ih
    | true =>
      rw [hb] at hs
      rw [bI_1 rfl, if_neg one0]
      by_cases ha : nI (fitN f (625 * o0 + 25 * o1 + o)) = a
      · rw [if_pos ha]
        have ih := p_ad_L (F := F) (al := al) h0 h1 hfit k (o + 1) fuel (upd (upd (upd dy (0 : Int32).toNatClampNeg (nI o0)) (1 : Int32).toNatClampNeg (nI o1)) (2 : Int32).toNatClampNeg (nI o)) (by omega) (by omega) (fun d hd hfd hn => by
          by_cases e1 : d = 625 * o0 + 25 * o1 + o
          · subst e1
            rw [show (625 * o0 + 25 * o1 + o) / 625 = o0 by omega, show (625 * o0 + 25 * o1 + o) / 25 % 25 = o1 by omega, show (625 * o0 + 25 * o1 + o) % 25 = o by omega]
            refine ⟨?_, ?_, ?_⟩
            · rw [pk_un (by decide), pk_un (by decide)]; exact pk_us
            · rw [pk_un (by decide)]; exact pk_us
            · exact pk_us
          · exfalso
            have m1 := fitN_mono f (a := d + 1) (b := 625 * o0 + 25 * o1 + o) (by omega)
            have m2 := fitN_s f d
            rw [hfd] at m2
            have m3 := fitN_le f (625 * o0 + 25 * o1 + o)
            have := (nI_eq (by omega) (by omega)).mp (hn.trans ha.symm)
            simp at m2
            omega)
        rw [← Nat.add_assoc, hs] at ih
        exact ih
      · rw [if_neg ha]
        have ih := p_ad_L (F := F) (al := al) h0 h1 hfit k (o + 1) fuel dy (by omega) (by omega) (fun d hd hfd hn => by
          by_cases e1 : d = 625 * o0 + 25 * o1 + o
          · subst e1; exact absurd hn ha
          · exact h d (by omega) hfd hn)
        rw [← Nat.add_assoc, hs] at ih
        exact ih
  | k, o, 0, dy, _, hf, _ => absurd hf (Nat.not_lt_zero k)
