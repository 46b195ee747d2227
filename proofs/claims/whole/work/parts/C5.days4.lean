def oc (c d : Nat) : Nat := if c = 0 then d / 625 else if c = 1 then d / 25 % 25 else d % 25
/-- c is lit on all of the first D days that fit -/
def alwP (f : Nat → Bool) (c D : Nat) : Prop := ∀ d, d < D → f d = true → oc c d ≠ 0
def alS (f : Nat → Bool) (D : Nat) (al : Int32) : Prop := bsI al (fun c => c < 3 ∧ alwP f c D)
theorem oc0 {o0 o1 o : Nat} (h1 : o1 < 25) (h2 : o < 25) : oc 0 (625 * o0 + 25 * o1 + o) = o0 := by unfold oc; rw [if_pos rfl]; omega
theorem oc1 {o0 o1 o : Nat} (h1 : o1 < 25) (h2 : o < 25) : oc 1 (625 * o0 + 25 * o1 + o) = o1 := by unfold oc; rw [if_neg (by decide), if_pos rfl]; omega
theorem oc2 {o0 o1 o : Nat} (h1 : o1 < 25) (h2 : o < 25) : oc 2 (625 * o0 + 25 * o1 + o) = o := by unfold oc; rw [if_neg (by decide), if_neg (by decide)]; omega
theorem alwP_blk {f : Nat → Bool} {c D : Nat} : alwP f c (D + 25) ↔ alwP f c D ∧ ∀ o, o < 25 → f (D + o) = true → oc c (D + o) ≠ 0 := by
  constructor
  · intro h
    exact ⟨fun d hd => h d (by omega), fun o ho => h (D + o) (by omega)⟩
  · rintro ⟨h1, h2⟩ d hd hf
    by_cases e : d < D
    · exact h1 d e hf
    · have := h2 (d - D) (by omega)
      rw [show D + (d - D) = d by omega] at this
      exact this hf
theorem bit0 (S : Int32) : S &&& (1 : Int32) = bI (bt S 0) := by
  have h := bitI (q := 0) (by decide) S
  have e : S >>> (nI 0 &&& 31) = S := sb_shr0 S
  rw [e] at h
  exact h
theorem bsI_1 : bsI 1 (fun j => j = 0) := bsI_bit (q := 0) (by decide)
theorem bsI_2 : bsI 2 (fun j => j = 1) := bsI_bit (q := 1) (by decide)
theorem bsI_4 : bsI 4 (fun j => j = 2) := bsI_bit (q := 2) (by decide)
theorem p_addDays {F o0 o1 : Nat} {a fit al : Int32} {f : Nat → Bool} {dy : Nat → Int32} (h0 : o0 < 25) (h1 : o1 < 25) (hfit : ∀ o, o < 25 → bt fit o = f (625 * o0 + 25 * o1 + o)) (hne : ∃ o, o < 25 ∧ f (625 * o0 + 25 * o1 + o) = true) (hal : alS f (625 * o0 + 25 * o1) al) (hd : dayK f a (625 * o0 + 25 * o1) dy) (hF : 60 < F) : ∃ al' dy', fX0_addDays F (nI (fitN f (625 * o0 + 25 * o1))) al dy (nI o0) (nI o1) fit a = some (nI (fitN f (625 * o0 + 25 * o1 + 25)), al', dy') ∧ alS f (625 * o0 + 25 * o1 + 25) al' ∧ dayK f a (625 * o0 + 25 * o1 + 25) dy' := by
  obtain ⟨dy', e1, e2⟩ := p_ad_L (F := F) (al := al) h0 h1 hfit 25 0 F dy (by omega) (by omega) hd
  obtain ⟨om, m1, m2⟩ := hne
  have b0 : bsI (if nI o0 = 0 then (0 : Int32) else 1) (fun j => j = 0 ∧ o0 ≠ 0) := by
    by_cases e : o0 = 0
    · rw [e, if_pos nI_0]; exact bsI_iff bsI_0 (fun j _ => ⟨False.elim, fun z => z.2 rfl⟩)
    · rw [if_neg (nI_ne0 (by omega) (by omega))]; exact bsI_iff bsI_1 (fun j _ => ⟨fun z => ⟨z, e⟩, fun z => z.1⟩)
  have b1 : bsI (if nI o1 = 0 then (0 : Int32) else 2) (fun j => j = 1 ∧ o1 ≠ 0) := by
    by_cases e : o1 = 0
    · rw [e, if_pos nI_0]; exact bsI_iff bsI_0 (fun j _ => ⟨False.elim, fun z => z.2 rfl⟩)
    · rw [if_neg (nI_ne0 (by omega) (by omega))]; exact bsI_iff bsI_2 (fun j _ => ⟨fun z => ⟨z, e⟩, fun z => z.1⟩)
  have b2 : bsI (if fit &&& (1 : Int32) = 0 then (4 : Int32) else 0) (fun j => j = 2 ∧ f (625 * o0 + 25 * o1 + 0) = false) := by
    rw [bit0, hfit 0 (by omega)]
    cases hb : f (625 * o0 + 25 * o1 + 0) with
    | false => rw [bI_0 rfl, if_pos rfl]; exact bsI_iff bsI_4 (fun j _ => ⟨fun z => ⟨z, rfl⟩, fun z => z.1⟩)
    | true => rw [bI_1 rfl, if_neg one0]; exact bsI_iff bsI_0 (fun j _ => ⟨False.elim, fun z => by cases z.2⟩)
  refine ⟨al &&& (((if nI o0 = 0 then (0 : Int32) else 1) ||| (if nI o1 = 0 then (0 : Int32) else 2)) ||| (if fit &&& (1 : Int32) = 0 then (4 : Int32) else 0)), dy', ?_, ?_, e2⟩
  · unfold fX0_addDays
    refine (show fX0_addDays_L3 F (nI o0) (nI o1) fit a F 0 (nI (fitN f (625 * o0 + 25 * o1))) al dy = _ from e1).trans ?_
    unfold fX0_addDays_L80 fX0_addDays_L89 fX0_addDays_L101
    simp only [ol_s]
    by_cases z0 : nI o0 = 0 <;> by_cases z1 : nI o1 = 0 <;> by_cases z2 : fit &&& (1 : Int32) = 0 <;> simp only [z0, z1, z2, if_true, if_false]
  · refine bsI_iff (bsI_and hal (bsI_or (bsI_or b0 b1) b2)) (fun c _ => ?_)
    rw [alwP_blk]
    constructor
    · rintro ⟨⟨z1, z2⟩, z3⟩
      refine ⟨z1, z2, fun o ho hf => ?_⟩
      rcases z3 with (⟨y1, y2⟩ | ⟨y1, y2⟩) | ⟨y1, y2⟩
      · subst y1; rw [oc0 h1 ho]; exact y2
      · subst y1; rw [oc1 h1 ho]; exact y2
      · subst y1; rw [oc2 h1 ho]; intro z; subst z; rw [hf] at y2; cases y2
    · rintro ⟨z1, z2, z3⟩
      refine ⟨⟨z1, z2⟩, ?_⟩
      rcases (show c = 0 ∨ c = 1 ∨ c = 2 by omega) with e | e | e
      · subst e
        have := z3 om m1 m2
        rw [oc0 h1 m1] at this
        exact Or.inl (Or.inl ⟨rfl, this⟩)
      · subst e
        have := z3 om m1 m2
        rw [oc1 h1 m1] at this
        exact Or.inl (Or.inr ⟨rfl, this⟩)
      · subst e
        refine Or.inr ⟨rfl, ?_⟩
        cases hb : f (625 * o0 + 25 * o1 + 0) with
        | false => rfl
        | true => exact absurd (oc2 h1 (by omega)) (z3 0 (by omega) hb)
theorem skip25 {f : Nat → Bool} {D : Nat} {a al : Int32} {dy : Nat → Int32} (hno : ∀ o, o < 25 → f (D + o) = false) (hal : alS f D al) (hd : dayK f a D dy) : fitN f (D + 25) = fitN f D ∧ alS f (D + 25) al ∧ dayK f a (D + 25) dy := by
  refine ⟨?_, ?_, fun d hd' hf hn => ?_⟩
  · unfold fitN
    rw [sumR_split, sumR_zero 25 (0 + D) (fun j j1 j2 => by
      have := hno (j - D) (by omega)
      rw [show D + (j - D) = j by omega] at this
      rw [this]; rfl), Nat.add_zero]
  · refine bsI_iff hal (fun c _ => ?_)
    rw [alwP_blk]
    exact ⟨fun z => ⟨z.1, z.2, fun o ho hf => by rw [hno o ho] at hf; cases hf⟩, fun z => ⟨z.1, z.2.1⟩⟩
  · by_cases e : d < D
    · exact hd d e hf hn
    · have := hno (d - D) (by omega)
      rw [show D + (d - D) = d by omega, hf] at this
      cases this
theorem p_sd_in {F T o0 : Nat} {t : Nat → Nat → Nat} {X : Nat → Nat} {Z : Nat → Int64} {a : Int32} {cnt am op ob sh : Nat → Int32} {k13 : Int32 → Int32 → Int32 → (Nat → Int32) → Option (Int32 × Int32 × (Nat → Int32))} (ht : Tok t) (hT : T ≤ 20) (h0 : o0 < 25) (hop : ∀ c, c < 3 → bsI (op c) (fun j => j < 25 ∧ optB t c j = true)) (htab : ∀ i, i < T → tabI t (svO t X i) i 25 cnt am ob) (hsh : ∀ c, c < 3 → ∀ o, o < 25 → ∀ i, i < T → sh (plc c o i) = nI (shr t c o (X i))) (hF : 60 < F) :
    ∀ (k o1 fuel : Nat) (al : Int32) (dy : Nat → Int32), o1 + k = 25 → k < fuel → alS (fitB t X Z T) (625 * o0 + 25 * o1) al → dayK (fitB t X Z T) a (625 * o0 + 25 * o1) dy → ∃ al' dy', fX0_seekDay_L21 F (nI T) cnt am op ob sh Z a k13 fuel (nI o0) (nI o1) (nI (fitN (fitB t X Z T) (625 * o0 + 25 * o1))) al dy = k13 (nI (o0 + 1)) (nI (fitN (fitB t X Z T) (625 * (o0 + 1)))) al' dy' ∧ alS (fitB t X Z T) (625 * (o0 + 1)) al' ∧ dayK (fitB t X Z T) a (625 * (o0 + 1)) dy'
  | 0, o1, fuel + 1, al, dy, e, _, hal, hd => by
    have hD : 625 * o0 + 25 * o1 = 625 * (o0 + 1) := by omega
    rw [hD] at hal hd
    refine ⟨al, dy, ?_, hal, hd⟩
    rw [fX0_seekDay_L21, hD, show o1 = 25 by omega, if_pos (show (25 : Int32) ≤ nI 25 from nI_le (Nat.le_refl 25) (by decide)), ol_s, nI_1]
  | k + 1, o1, fuel + 1, al, dy, e, hf, hal, hd => by
    have h1 : o1 < 25 := by omega
    have e0 : op (0 : Int32).toNatClampNeg = op 0 := rfl
    have e1 : op (1 : Int32).toNatClampNeg = op 1 := rfl
    have hb0 : bt (op 0) o0 = optB t 0 o0 := by
      rw [Bool.eq_iff_iff, bsI_b (hop 0 (by decide)) (by omega)]
      exact ⟨fun z => z.2, fun z => ⟨h0, z⟩⟩
    have hb1 : bt (op 1) o1 = optB t 1 o1 := by
      rw [Bool.eq_iff_iff, bsI_b (hop 1 (by decide)) (by omega)]
      exact ⟨fun z => z.2, fun z => ⟨h1, z⟩⟩
    have fdef : ∀ o, o < 25 → fitB t X Z T (625 * o0 + 25 * o1 + o) = (optB t 0 o0 && (optB t 1 o1 && (optB t 2 o && okB t X Z T o0 o1 o))) := fun o ho => by
      unfold fitB
      rw [show (625 * o0 + 25 * o1 + o) / 625 = o0 by omega, show (625 * o0 + 25 * o1 + o) / 25 % 25 = o1 by omega, show (625 * o0 + 25 * o1 + o) % 25 = o by omega]
    have nxt : 625 * o0 + 25 * o1 + 25 = 625 * o0 + 25 * (o1 + 1) := by omega
    have skip : (∀ o, o < 25 → fitB t X Z T (625 * o0 + 25 * o1 + o) = false) → ∃ al' dy', fX0_seekDay_L21 F (nI T) cnt am op ob sh Z a k13 fuel (nI o0) (nI (o1 + 1)) (nI (fitN (fitB t X Z T) (625 * o0 + 25 * o1))) al dy = k13 (nI (o0 + 1)) (nI (fitN (fitB t X Z T) (625 * (o0 + 1)))) al' dy' ∧ alS (fitB t X Z T) (625 * (o0 + 1)) al' ∧ dayK (fitB t X Z T) a (625 * (o0 + 1)) dy' := by
      intro hno
      obtain ⟨s1, s2, s3⟩ := skip25 hno hal hd
      rw [nxt] at s1 s2 s3
      have ih := p_sd_in (F := F) (k13 := k13) ht hT h0 hop htab hsh hF k (o1 + 1) fuel al dy (by omega) (by omega) s2 s3
      rw [s1] at ih
      exact ih
    rw [fX0_seekDay_L21, if_neg (show ¬ (25 : Int32) ≤ nI o1 from nI_ge (a := o1) (b := 25) (by omega) (by decide)), e0, e1, bitI (by omega), bitI (by omega), hb0, hb1]
    unfold fX0_seekDay_L57 fX0_seekDay_L58 fX0_seekDay_L75 fX0_seekDay_L91
    simp only [ol_s, nI_1, if_true]
    cases hv0 : optB t 0 o0 with
    | false =>
      rw [bI_0 rfl, if_pos rfl]
      exact skip (fun o ho => by rw [fdef o ho, hv0]; rfl)
    | true =>
      rw [bI_1 rfl, if_neg one0]
      cases hv1 : optB t 1 o1 with
      | false =>
        rw [bI_0 rfl, if_pos rfl]
        exact skip (fun o ho => by rw [fdef o ho, hv0, hv1]; rfl)
      | true =>
        obtain ⟨S, s1, s2⟩ := p_fo (F := F) (Z := Z) (cnt := cnt) (am := am) (op := op) (ob := ob) (sh := sh) ht hT h0 h1 (hop 2 (by decide)) htab (fun i hi => hsh 0 (by decide) o0 h0 i hi) (fun i hi => hsh 1 (by decide) o1 h1 i hi) hF
        have hfit : ∀ o, o < 25 → bt S o = fitB t X Z T (625 * o0 + 25 * o1 + o) := fun o ho => by
          rw [s2 o (by omega), fdef o ho, hv0, hv1]
          have : decide (o < 25) = true := by simp [ho]
          rw [this, Bool.true_and, Bool.true_and]
        rw [bI_1 rfl, if_neg one0, if_neg one0, s1, ob_s]
        by_cases hS : S = 0
        · rw [if_pos hS]
          exact skip (fun o ho => by rw [← hfit o ho, hS]; exact b_0 o)
        · have hne : ∃ o, o < 25 ∧ fitB t X Z T (625 * o0 + 25 * o1 + o) = true := by
            refine Classical.byContradiction fun hx => hS ?_
            refine b_ext (fun o ho => ?_)
            rw [b_0 o]
            cases hbo : bt S o with
            | false => rfl
            | true =>
              have h25 : o < 25 := by
                have := s2 o ho
                rw [hbo] at this
                by_cases z : o < 25
                · exact z
                · simp [z] at this
              exact absurd ⟨o, h25, by rw [← hfit o h25]; exact hbo⟩ hx
          obtain ⟨al1, dy1, d1, d2, d3⟩ := p_addDays (F := F) h0 h1 hfit hne hal hd hF
          rw [if_neg hS, d1, ob_s]
          rw [nxt] at d2 d3 ⊢
          exact p_sd_in (F := F) (k13 := k13) ht hT h0 hop htab hsh hF k (o1 + 1) fuel al1 dy1 (by omega) (by omega) d2 d3
  | k, o1, 0, al, dy, _, hf, _, _ => absurd hf (Nat.not_lt_zero k)
theorem p_sd_out {F T : Nat} {t : Nat → Nat → Nat} {X : Nat → Nat} {Z : Nat → Int64} {a : Int32} {cnt am op ob sh : Nat → Int32} (ht : Tok t) (hT : T ≤ 20) (hop : ∀ c, c < 3 → bsI (op c) (fun j => j < 25 ∧ optB t c j = true)) (htab : ∀ i, i < T → tabI t (svO t X i) i 25 cnt am ob) (hsh : ∀ c, c < 3 → ∀ o, o < 25 → ∀ i, i < T → sh (plc c o i) = nI (shr t c o (X i))) (hF : 60 < F) :
    ∀ (k o0 fuel : Nat) (al : Int32) (dy : Nat → Int32), o0 + k = 25 → k < fuel → alS (fitB t X Z T) (625 * o0) al → dayK (fitB t X Z T) a (625 * o0) dy → ∃ al' dy', fX0_seekDay_L13 F (nI T) cnt am op ob sh Z a fuel (nI o0) (nI (fitN (fitB t X Z T) (625 * o0))) al dy = some (nI (fitN (fitB t X Z T) 15625), al', dy') ∧ alS (fitB t X Z T) 15625 al' ∧ dayK (fitB t X Z T) a 15625 dy'
  | 0, o0, fuel + 1, al, dy, e, _, hal, hd => by
    have hD : 625 * o0 = 15625 := by omega
    rw [hD] at hal hd
    refine ⟨al, dy, ?_, hal, hd⟩
    rw [fX0_seekDay_L13, hD, show o0 = 25 by omega, if_pos (show (25 : Int32) ≤ nI 25 from nI_le (Nat.le_refl 25) (by decide))]
  | k + 1, o0, fuel + 1, al, dy, e, hf, hal, hd => by
    obtain ⟨al1, dy1, f1, f2, f3⟩ := p_sd_in (F := F) (X := X) (Z := Z) (a := a) (k13 := fun x2 v_fitting v_alwaysLit v_day => fX0_seekDay_L13 F (nI T) cnt am op ob sh Z a fuel x2 v_fitting v_alwaysLit v_day) ht hT (show o0 < 25 by omega) hop htab hsh hF 25 0 F al dy (by omega) (by omega) hal hd
    obtain ⟨al', dy', g1, g2, g3⟩ := p_sd_out (F := F) ht hT hop htab hsh hF k (o0 + 1) fuel al1 dy1 (by omega) (by omega) f2 f3
    refine ⟨al', dy', ?_, g2, g3⟩
    rw [fX0_seekDay_L13, if_neg (show ¬ (25 : Int32) ≤ nI o0 from nI_ge (a := o0) (b := 25) (by omega) (by decide))]
    exact f1.trans g1
  | k, o0, 0, al, dy, _, hf, _, _ => absurd hf (Nat.not_lt_zero k)
theorem p_seekDay {F T : Nat} {t : Nat → Nat → Nat} {X : Nat → Nat} {Z : Nat → Int64} {a ft al : Int32} {cnt am op ob sh dy : Nat → Int32} (ht : Tok t) (hT : T ≤ 20) (hop : ∀ c, c < 3 → bsI (op c) (fun j => j < 25 ∧ optB t c j = true)) (htab : ∀ i, i < T → tabI t (svO t X i) i 25 cnt am ob) (hsh : ∀ c, c < 3 → ∀ o, o < 25 → ∀ i, i < T → sh (plc c o i) = nI (shr t c o (X i))) (hF : 60 < F) : ∃ al' dy', fX0_seekDay F (nI T) ft al cnt am dy op ob sh Z a = some (nI (fitN (fitB t X Z T) 15625), al', dy') ∧ alS (fitB t X Z T) 15625 al' ∧ dayK (fitB t X Z T) a 15625 dy' := by
  have h7 : alS (fitB t X Z T) (625 * 0) 7 := by
    have h := bsI_or (bsI_or bsI_1 bsI_2) bsI_4
    have e : ((1 : Int32) ||| 2) ||| 4 = 7 := by decide
    rw [e] at h
    refine bsI_iff h (fun c _ => ?_)
    constructor
    · intro z; exact ⟨by omega, fun d hd => by omega⟩
    · rintro ⟨z, -⟩; omega
  exact p_sd_out (F := F) ht hT hop htab hsh hF 25 0 F 7 dy (by omega) (by omega) h7 (fun d hd => by omega)
