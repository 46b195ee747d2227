/-- the amounts of place i with their options, of options below o -/
def tabI (t : Nat → Nat → Nat) (sv : Nat → Nat) (i o : Nat) (cnt am ob : Nat → Int32) : Prop := ∃ (k : Nat) (A : Nat → Nat), k ≤ o ∧ cnt i = nI k ∧ (∀ j, j < k → am (25 * i + j) = nI (A j) ∧ A j < 2 ^ 20 ∧ bsI (ob (25 * i + j)) (fun q => q < o ∧ optB t 2 q = true ∧ sv q = A j)) ∧ (∀ j j', j < j' → j' < k → A j ≠ A j') ∧ ∀ q, q < o → optB t 2 q = true → ∃ j, j < k ∧ A j = sv q
theorem tabI_skip {t : Nat → Nat → Nat} {sv : Nat → Nat} {i o : Nat} {cnt am ob : Nat → Int32} (h : tabI t sv i o cnt am ob) (ho : optB t 2 o = false) : tabI t sv i (o + 1) cnt am ob := by
  obtain ⟨k, A, h1, h2, h3, h4, h5⟩ := h
  refine ⟨k, A, by omega, h2, fun j hj => ?_, h4, fun q hq hb => ?_⟩
  · obtain ⟨a1, a2, a3⟩ := h3 j hj
    refine ⟨a1, a2, bsI_iff a3 (fun q _ => ⟨fun z => ⟨by omega, z.2⟩, fun z => ⟨?_, z.2⟩⟩)⟩
    by_cases e : q = o
    · subst e; rw [ho] at z; cases z.2.1
    · omega
  · by_cases e : q = o
    · subst e; rw [ho] at hb; cases hb
    · exact h5 q (by omega) hb
theorem p_aa_L {F i k s : Nat} {o : Int32} {A : Nat → Nat} {cnt am ob : Nat → Int32} (hi : i < 20) (hk : k ≤ 24) (hA : ∀ j, j < k → am (25 * i + j) = nI (A j) ∧ A j < 2 ^ 20) (hs : s < 2 ^ 20) :
    ∀ (m j fuel : Nat), j + m = k → m < fuel → (∀ j', j' < j → A j' ≠ s) → ∃ j0, j0 ≤ k ∧ (∀ j', j' < j0 → A j' ≠ s) ∧ (j0 < k → A j0 = s) ∧ fX0_addAmount_L17 F (nI i) (nI s) o fuel (nI (25 * i + j)) (nI (25 * i + k)) cnt am ob = fX0_addAmount_L41 F (nI i) (nI s) o (nI (25 * i + j0)) (nI (25 * i + k)) cnt am ob
  | 0, j, fuel + 1, e, _, h => ⟨k, Nat.le_refl _, fun j' hj' => h j' (by omega), fun z => by omega, by rw [fX0_addAmount_L17, show j = k by omega, if_pos (nI_le (by omega) (by omega))]⟩
  | m + 1, j, fuel + 1, e, hf, h => by
    obtain ⟨a1, a2⟩ := hA j (by omega)
    rw [fX0_addAmount_L17, if_neg (nI_ge (by omega) (by omega)), vb_nI (by omega) (by decide), og_s, nI_clamp (by omega), a1]
    by_cases hj : A j = s
    · exact ⟨j, by omega, h, fun _ => hj, by rw [if_pos (by rw [hj])]⟩
    · rw [if_neg (nI_ne (by omega) (by omega) hj), ol_s, nI_1]
      exact p_aa_L hi hk hA hs m (j + 1) fuel (by omega) (by omega) (fun j' hj' => by
        by_cases e1 : j' = j
        · subst e1; exact hj
        · exact h j' (by omega))
  | m, j, 0, _, hf, _ => absurd hf (Nat.not_lt_zero _)
theorem p_addAmount {F i o : Nat} {t : Nat → Nat → Nat} {sv : Nat → Nat} {cnt am ob : Nat → Int32} (hi : i < 20) (ho : o < 25) (hT : tabI t sv i o cnt am ob) (hb : optB t 2 o = true) (hs : sv o < 2 ^ 20) (hF : 60 < F) : ∃ cnt' am' ob', fX0_addAmount F cnt am ob (nI i) (nI (sv o)) (nI o) = some (cnt', am', ob') ∧ tabI t sv i (o + 1) cnt' am' ob' ∧ (∀ j, j ≠ i → cnt' j = cnt j) ∧ ∀ j, (j < 25 * i ∨ 25 * i + 25 ≤ j) → am' j = am j ∧ ob' j = ob j := by
  obtain ⟨k, A, h1, h2, h3, h4, h5⟩ := hT
  obtain ⟨j0, b1, b2, b3, b4⟩ := p_aa_L (F := F) (k := k) (o := nI o) (A := A) (cnt := cnt) (ob := ob) hi (by omega) (fun j hj => ⟨(h3 j hj).1, (h3 j hj).2.1⟩) hs k 0 F (by omega) (by omega) (fun j' hj' => by omega)
  have e25 : nI i * (25 : Int32) = nI (25 * i + 0) := by rw [show (25 : Int32) = nI 25 from rfl, pk_mul, Nat.mul_comm, Nat.add_zero]
  have e25k : nI (25 * i + 0) + nI k = nI (25 * i + k) := by rw [Nat.add_zero, nI_add]
  have hbit := bsI_bit (q := o) (by omega)
  have start : fX0_addAmount F cnt am ob (nI i) (nI (sv o)) (nI o) = fX0_addAmount_L41 F (nI i) (nI (sv o)) (nI o) (nI (25 * i + j0)) (nI (25 * i + k)) cnt am ob := by
    unfold fX0_addAmount
    rw [ol_s, vb_nI hi (by decide), og_s, ol_s, nI_clamp (by omega), h2, e25, e25k]
    exact b4
  rw [start]
  unfold fX0_addAmount_L41 fX0_addAmount_L74
  have hv : vb (nI (25 * i + j0)) 500 = true := vb_nI (by omega) (by decide)
  have hcl : (nI (25 * i + j0)).toNatClampNeg = 25 * i + j0 := nI_clamp (by omega)
  by_cases hj : j0 < k
  · refine ⟨cnt, am, upd ob (25 * i + j0) (ob (25 * i + j0) ||| ((1 : Int32) <<< (nI o &&& 31))), ?_, ⟨k, A, by omega, h2, fun j hjk => ?_, h4, fun q hq hbq => ?_⟩, fun _ _ => rfl, fun j hjj => ⟨rfl, pk_un (by omega)⟩⟩
    · rw [if_neg (nI_ne (by omega) (by omega) (by omega)), hv, og_s, og_s, ol_s, hcl]
    · obtain ⟨a1, a2, a3⟩ := h3 j hjk
      refine ⟨a1, a2, ?_⟩
      by_cases e : j = j0
      · subst e
        rw [pk_us]
        refine bsI_iff (bsI_or a3 hbit) (fun q _ => ?_)
        constructor
        · rintro (z | z)
          · exact ⟨by omega, z.2⟩
          · subst z; exact ⟨by omega, hb, (b3 hj).symm⟩
        · rintro z
          by_cases e1 : q = o
          · exact Or.inr e1
          · exact Or.inl ⟨by omega, z.2⟩
      · rw [pk_un (by omega)]
        refine bsI_iff a3 (fun q _ => ⟨fun z => ⟨by omega, z.2⟩, fun z => ⟨?_, z.2⟩⟩)
        by_cases e1 : q = o
        · subst e1
          exfalso
          have := b3 hj
          rcases Nat.lt_or_ge j j0 with y | y
          · exact h4 j j0 y hj (by rw [this]; exact z.2.2.symm)
          · exact h4 j0 j (by omega) hjk (by rw [this]; exact z.2.2)
        · omega
    · by_cases e1 : q = o
      · subst e1; exact ⟨j0, hj, b3 hj⟩
      · exact h5 q (by omega) hbq
  · have hjk : j0 = k := by omega
    subst hjk
    refine ⟨upd cnt i (nI (j0 + 1)), upd am (25 * i + j0) (nI (sv o)), upd (upd ob (25 * i + j0) 0) (25 * i + j0) (0 ||| ((1 : Int32) <<< (nI o &&& 31))), ?_, ⟨j0 + 1, va_up A j0 (sv o), by omega, pk_us, fun j hjk => ?_, fun j j' hjj hj' => ?_, fun q hq hbq => ?_⟩, fun j hj => pk_un hj, fun j hjj => ⟨pk_un (by omega), ?_⟩⟩
    · rw [if_pos rfl, hv, og_s, ol_s, og_s, ol_s, vb_nI hi (by decide), og_s, og_s, ol_s, og_s, og_s, ol_s, hcl, nI_clamp (by omega), h2, nI_1, pk_us]
    · by_cases e : j = j0
      · subst e
        rw [pk_us, pk_us, va_up_self]
        refine ⟨rfl, hs, bsI_iff (bsI_or bsI_0 hbit) (fun q _ => ?_)⟩
        constructor
        · rintro (z | z)
          · exact False.elim z
          · subst z; exact ⟨by omega, hb, rfl⟩
        · rintro z
          by_cases e1 : q = o
          · exact Or.inr e1
          · exfalso
            obtain ⟨j', y1, y2⟩ := h5 q (by omega) z.2.1
            exact b2 j' y1 (by rw [y2]; exact z.2.2)
      · obtain ⟨a1, a2, a3⟩ := h3 j (by omega)
        rw [pk_un (by omega), pk_un (by omega), pk_un (by omega), va_up_ne _ _ e]
        refine ⟨a1, a2, bsI_iff a3 (fun q _ => ⟨fun z => ⟨by omega, z.2⟩, fun z => ⟨?_, z.2⟩⟩)⟩
        by_cases e1 : q = o
        · subst e1; exact absurd z.2.2.symm (b2 j (by omega))
        · omega
    · by_cases e : j' = j0
      · subst e
        rw [va_up_self, va_up_ne _ _ (by omega)]
        exact b2 j (by omega)
      · rw [va_up_ne _ _ e, va_up_ne _ _ (by omega)]
        exact h4 j j' hjj (by omega)
    · by_cases e1 : q = o
      · subst e1; exact ⟨j0, by omega, va_up_self _ _ _⟩
      · obtain ⟨j', y1, y2⟩ := h5 q (by omega) hbq
        exact ⟨j', by omega, by rw [va_up_ne _ _ (by omega)]; exact y2⟩
    · rw [pk_un (by omega), pk_un (by omega)]
def svO (t : Nat → Nat → Nat) (X : Nat → Nat) (i : Nat) : Nat → Nat := fun o => shr t 2 o (X i)
theorem shr_le {t : Nat → Nat → Nat} {c o x : Nat} (hc : c < 3) : shr t c o x < 2 ^ 20 ∨ True := Or.inr trivial
theorem shr_lt {t : Nat → Nat → Nat} {c o x : Nat} (ht : Tok t) : shr t c o x < 2 ^ 20 := by
  unfold shr
  by_cases h : o ≠ 0 ∧ optB t c o = true
  · rw [if_pos h]
    have hcn : c < t 0 0 := by
      have := h.2
      unfold optB at this
      simp [h.1] at this
      exact this.1
    have h1 := sumL_le (g := soG x) (M := 9) (fireL t (tW t) 0 c (o - 1)) (fun p _ => by unfold soG; split <;> omega)
    have h2 := fireL_len (Wd := tW t) (up := 0) (lit := o - 1) ht hcn
    omega
  · rw [if_neg h]; decide
theorem tabI_keep {t : Nat → Nat → Nat} {sv : Nat → Nat} {i o : Nat} {cnt am ob cnt' am' ob' : Nat → Int32} (h : tabI t sv i o cnt am ob) (ho : o ≤ 25) (h1 : cnt' i = cnt i) (h2 : ∀ j, 25 * i ≤ j → j < 25 * i + 25 → am' j = am j ∧ ob' j = ob j) : tabI t sv i o cnt' am' ob' := by
  obtain ⟨k, A, a1, a2, a3, a4, a5⟩ := h
  refine ⟨k, A, a1, h1.trans a2, fun j hj => ?_, a4, a5⟩
  obtain ⟨b1, b2, b3⟩ := a3 j hj
  obtain ⟨c1, c2⟩ := h2 (25 * i + j) (by omega) (by omega)
  exact ⟨c1.trans b1, b2, by rw [c2]; exact b3⟩
theorem p_la_in {F i T : Nat} {t : Nat → Nat → Nat} {X : Nat → Nat} {op sh : Nat → Int32} {k4 : Int32 → Int32 → (Nat → Int32) → (Nat → Int32) → (Nat → Int32) → Option ((Nat → Int32) × (Nat → Int32) × (Nat → Int32))} (ht : Tok t) (hi : i < T) (hT : T ≤ 20) (hop : bsI (op 2) (fun j => j < 25 ∧ optB t 2 j = true)) (hsh : ∀ o, o < 25 → sh (plc 2 o i) = nI (shr t 2 o (X i))) (hF : 60 < F) :
    ∀ (k o fuel : Nat) (cnt am ob : Nat → Int32), o + k = 25 → k < fuel → tabI t (svO t X i) i o cnt am ob → ∃ cnt' am' ob', fX0_layAmounts_L21 F (nI T) op sh k4 fuel 2 (nI i) (nI o) cnt am ob = k4 2 (nI (i + 1)) cnt' am' ob' ∧ tabI t (svO t X i) i 25 cnt' am' ob' ∧ (∀ j, j ≠ i → cnt' j = cnt j) ∧ ∀ j, (j < 25 * i ∨ 25 * i + 25 ≤ j) → am' j = am j ∧ ob' j = ob j
  | 0, o, fuel + 1, cnt, am, ob, e, _, h => by
    refine ⟨cnt, am, ob, ?_, by rw [show o = 25 by omega] at h; exact h, fun _ _ => rfl, fun _ _ => ⟨rfl, rfl⟩⟩
    rw [fX0_layAmounts_L21, show o = 25 by omega, if_pos (show (25 : Int32) ≤ nI 25 from nI_le (Nat.le_refl 25) (by decide)), ol_s, nI_1]
  | k + 1, o, fuel + 1, cnt, am, ob, e, hf, h => by
    have e2 : op (2 : Int32).toNatClampNeg = op 2 := rfl
    have v2 : vb (2 : Int32) 3 = true := by decide
    rw [fX0_layAmounts_L21, if_neg (show ¬ (25 : Int32) ≤ nI o from nI_ge (a := o) (b := 25) (by omega) (by decide)), v2, og_s, e2, bitI (by omega)]
    unfold fX0_layAmounts_L57
    simp only [ol_s, nI_1]
    have hbo : bt (op 2) o = optB t 2 o := by
      rw [Bool.eq_iff_iff, bsI_b hop (by omega)]
      exact ⟨fun z => z.2, fun z => ⟨by omega, z⟩⟩
    rw [hbo]
    cases hb : optB t 2 o with
    | false =>
      rw [bI_0 rfl, if_pos rfl]
      exact p_la_in ht hi hT hop hsh hF k (o + 1) fuel cnt am ob (by omega) (by omega) (tabI_skip h hb)
    | true =>
      obtain ⟨c1, a1, o1, f1, f2, f3, f4⟩ := p_addAmount (F := F) (sv := svO t X i) (by omega) (show o < 25 by omega) h hb (shr_lt ht) hF
      obtain ⟨cnt', am', ob', g1, g2, g3, g4⟩ := p_la_in (F := F) (k4 := k4) ht hi hT hop hsh hF k (o + 1) fuel c1 a1 o1 (by omega) (by omega) f2
      have hpl : fX0_sharePlace F 2 (nI o) (nI i) = some (nI (plc 2 o i)) := by
        unfold fX0_sharePlace
        exact congrArg some (plc_I 2 o i)
      refine ⟨cnt', am', ob', ?_, g2, fun j hj => (g3 j hj).trans (f3 j hj), fun j hj => ⟨((g4 j hj).1).trans (f4 j hj).1, ((g4 j hj).2).trans (f4 j hj).2⟩⟩
      have hp : plc 2 o i < 1500 := by unfold plc; omega
      rw [bI_1 rfl, if_neg one0, hpl, ob_s, vb_nI hp (by decide), og_s, nI_clamp (by omega), hsh o (by omega)]
      have f1' : fX0_addAmount F cnt am ob (nI i) (nI (shr t 2 o (X i))) (nI o) = some (c1, a1, o1) := f1
      rw [f1', ob_s]
      exact g1
  | k, o, 0, cnt, am, ob, _, hf, _ => absurd hf (Nat.not_lt_zero k)
theorem p_la_out {F T : Nat} {t : Nat → Nat → Nat} {X : Nat → Nat} {op sh : Nat → Int32} (ht : Tok t) (hT : T ≤ 20) (hop : bsI (op 2) (fun j => j < 25 ∧ optB t 2 j = true)) (hsh : ∀ o, o < 25 → ∀ i, i < T → sh (plc 2 o i) = nI (shr t 2 o (X i))) (hF : 60 < F) :
    ∀ (k i fuel : Nat) (cnt am ob : Nat → Int32), i + k = T → k < fuel → (∀ j, j < i → tabI t (svO t X j) j 25 cnt am ob) → ∃ cnt' am' ob', fX0_layAmounts_L4 F (nI T) op sh fuel 2 (nI i) cnt am ob = some (cnt', am', ob') ∧ ∀ j, j < T → tabI t (svO t X j) j 25 cnt' am' ob'
  | 0, i, fuel + 1, cnt, am, ob, e, _, h => ⟨cnt, am, ob, by rw [fX0_layAmounts_L4, if_pos (nI_le (by omega) (by omega))], fun j hj => h j (by omega)⟩
  | k + 1, i, fuel + 1, cnt, am, ob, e, hf, h => by
    have h0 : tabI t (svO t X i) i 0 (upd cnt i 0) am ob := ⟨0, fun _ => 0, by omega, pk_us, fun j hj => by omega, fun j j' a b => by omega, fun q hq => by omega⟩
    obtain ⟨c1, a1, o1, f1, f2, f3, f4⟩ := p_la_in (F := F) (X := X) (k4 := fun x1 x2 v_amountCounts v_amounts v_optionsByAmount => fX0_layAmounts_L4 F (nI T) op sh fuel x1 x2 v_amountCounts v_amounts v_optionsByAmount) ht (show i < T by omega) hT hop (fun o ho => hsh o ho i (by omega)) hF 25 0 F (upd cnt i 0) am ob (by omega) (by omega) h0
    obtain ⟨cnt', am', ob', g1, g2⟩ := p_la_out (F := F) (X := X) ht hT hop hsh hF k (i + 1) fuel c1 a1 o1 (by omega) (by omega) (fun j hj => by
      by_cases e1 : j = i
      · subst e1; exact f2
      · refine tabI_keep (h j (by omega)) (Nat.le_refl _) ?_ (fun q q1 q2 => f4 q (by omega))
        rw [f3 j e1, pk_un e1])
    refine ⟨cnt', am', ob', ?_, g2⟩
    rw [fX0_layAmounts_L4, if_neg (nI_ge (by omega) (by omega)), vb_nI (by omega) (by decide), og_s, ol_s, nI_clamp (by omega)]
    exact f1.trans g1
  | k, i, 0, cnt, am, ob, _, hf, _ => absurd hf (Nat.not_lt_zero k)
