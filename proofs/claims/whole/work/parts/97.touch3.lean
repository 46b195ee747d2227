/-! promises 14 and 15: both sides -/
theorem cmp0 (a b : Int64) : lg_cmp a b = 0 ↔ a = b := by
  constructor
  · intro h
    have h1 : ¬ a < b := fun q => by
      have := (lg_cmp_lt a b).mpr q
      rw [h] at this; exact absurd this (by decide)
    have h2 : ¬ b < a := fun q => by
      have := (lg_cmp_gt a b).mpr q
      rw [h] at this; exact absurd this (by decide)
    exact Int64.le_antisymm (Int64.not_lt.mp h2) (Int64.not_lt.mp h1)
  · intro h
    subst h
    by_cases h1 : lg_cmp a a < 0
    · exact absurd ((lg_cmp_lt a a).mp h1) Int64.lt_irrefl
    · by_cases h2 : 0 < lg_cmp a a
      · exact absurd ((lg_cmp_gt a a).mp h2) Int64.lt_irrefl
      · exact Int32.le_antisymm (Int32.not_lt.mp h2) (Int32.not_lt.mp h1)
/-- the class' cells and ways of the told winds -/
def plOk (t : Nat → Nat → Nat) (hs v lit sc sm : Nat → Int32) : Prop := ∀ c, c < t 0 0 → wayOk t (tW t) hs v c ∧ lit c = nI (t 11 c) - 1 ∧ sc c = nI (t 10 c) ∧ ∀ k, k < t 10 c → sm (6 * c + k) = nI (t 12 (6 * c + k))
/-- lit chimneys' ways by some winds, heights h -/
def liOk (t : Nat → Nat → Nat) (Wd : Nat → Nat → Nat) (h : Nat → Nat) (hs v lit sc sm : Nat → Int32) : Prop := ∀ c, c < t 0 0 → (t 11 c ≠ 0 → litOk t Wd (h c) hs v c ∧ h c ≤ 24) ∧ lit c = nI (t 11 c) - 1 ∧ sc c = nI (t 10 c) ∧ ∀ k, k < t 10 c → sm (6 * c + k) = nI (t 12 (6 * c + k))
theorem li_of {t : Nat → Nat → Nat} {hs v lit sc sm : Nat → Int32} (ht : Tok t) (h : plOk t hs v lit sc sm) : liOk t (tW t) (t 7) hs v lit sc sm := fun c hc => by
  obtain ⟨h1, h2⟩ := h c hc
  have := (ht.2.2.2.2.2.2.1 c hc).2.1
  exact ⟨fun hl => ⟨litOk_of ht hc hl h1, by omega⟩, h2⟩
theorem two_of {t : Nat → Nat → Nat} {Wd : Nat → Nat → Nat} {h : Nat → Nat} {hs v lit sc sm : Nat → Int32} {c d : Nat} (ht : Tok t) (H : liOk t Wd h hs v lit sc sm) (hc : c < t 0 0) (hd : d < t 0 0) (lc : t 11 c ≠ 0) (ld : t 11 d ≠ 0) : two t Wd hs v lit sc sm (h c) c (t 11 c - 1) (h d) d (t 11 d - 1) := by
  obtain ⟨a1, a2, a3, a4⟩ := H c hc
  obtain ⟨b1, b2, b3, b4⟩ := H d hd
  obtain ⟨q, hq⟩ : ∃ q, t 11 c = q + 1 := ⟨t 11 c - 1, by omega⟩
  obtain ⟨r, hr⟩ : ∃ r, t 11 d = r + 1 := ⟨t 11 d - 1, by omega⟩
  refine ⟨ht, hc, hd, by omega, by omega, ?_, ?_, a3, b3, a4, b4, (a1 lc).1, (b1 ld).1, (a1 lc).2, (b1 ld).2⟩
  · rw [a2, hq, nI_pred, Nat.add_sub_cancel]
  · rw [b2, hr, nI_pred, Nat.add_sub_cancel]
theorem lfL_lit {t : Nat → Nat → Nat} {Wd : Nat → Nat → Nat} {c : Nat} (h : t 11 c ≠ 0) : lfL t Wd c = fireL t Wd 0 c (t 11 c - 1) := if_neg h
theorem lfL_un {t : Nat → Nat → Nat} {Wd : Nat → Nat → Nat} {c : Nat} (h : t 11 c = 0) : lfL t Wd c = [] := if_pos h
theorem tqB_nil {L : List Nat} {th q : Nat} : tqB L [] th q = false := by
  unfold tqB
  simp
theorem tqB_nil' {L : List Nat} {th q : Nat} : tqB [] L th q = false := rfl
theorem tqB_lt {L L' : List Nat} {th q : Nat} (h : bdL L) (hq : tqB L L' th q = true) : q < 48 := by
  unfold tqB at hq
  simp only [List.any_eq_true, Bool.and_eq_true, decide_eq_true_eq] at hq
  obtain ⟨p, hp, p', hp', hm, rfl⟩ := hq
  have := h.2 p hp
  omega
theorem p_tQ {F th : Nat} {t : Nat → Nat → Nat} {Wd : Nat → Nat → Nat} {hs v lit sc sm : Nat → Int32} {c d : Nat} (ht : Tok t) (H : liOk t Wd (t 7) hs v lit sc sm) (hc : c < t 0 0) (hd : d < t 0 0) (hth : 1 ≤ th) (hth9 : th ≤ 9) (hF : 60 < F) : ∃ N, N < 2 ^ 64 ∧ fX4_touchQuarters F hs (nI (t 0 0)) (nI th) v lit sc sm (nI c) (nI d) = some (lN N) ∧ ∀ j, j < 64 → N.testBit j = tqB (lfL t Wd c) (lfL t Wd d) th j := by
  have un : lit c = -1 ∨ lit d = -1 → (t 11 c = 0 ∨ t 11 d = 0) → ∃ N, N < 2 ^ 64 ∧ fX4_touchQuarters F hs (nI (t 0 0)) (nI th) v lit sc sm (nI c) (nI d) = some (lN N) ∧ ∀ j, j < 64 → N.testBit j = tqB (lfL t Wd c) (lfL t Wd d) th j := by
    intro h h'
    refine ⟨0, by decide, p_touchQ_un ht.1 hc hd h, fun j _ => ?_⟩
    rw [Nat.zero_testBit]
    rcases h' with e | e
    · rw [lfL_un e]; rfl
    · rw [lfL_un e, tqB_nil]
  by_cases lc : t 11 c = 0
  · exact un (Or.inl (by rw [(H c hc).2.1, lc]; rfl)) (Or.inl lc)
  · by_cases ld : t 11 d = 0
    · exact un (Or.inr (by rw [(H d hd).2.1, ld]; rfl)) (Or.inr ld)
    · obtain ⟨S, e1, e2⟩ := p_touchQuarters (F := F) (th := th) (two_of ht H hc hd lc ld) hth hth9 hF
      obtain ⟨N, hN, rfl⟩ := wb_of S
      refine ⟨N, hN, e1, fun j hj => ?_⟩
      have h1 := e2 j hj
      rw [lN_bit hj] at h1
      have h2 := tqB_iff (Wd := Wd) (up := 0) (up' := 0) (lc := t 11 c - 1) (ld := t 11 d - 1) (q := j) ht hc hd (by omega) (by omega) hth
      rw [lfL_lit lc, lfL_lit ld, Bool.eq_iff_iff, h1]
      exact h2.symm
theorem fstR_none {p : Nat → Bool} : ∀ (k i : Nat), fstR p i k = none → ∀ j, i ≤ j → j < i + k → p j = false
  | 0, i, _, j, h1, h2 => by omega
  | k + 1, i, h, j, h1, h2 => by
    rw [fstR_s] at h
    cases hp : p i with
    | true => rw [hp] at h; simp at h
    | false =>
      rw [hp] at h
      by_cases e : j = i
      · subst e; exact hp
      · exact fstR_none k (i + 1) (by simpa using h) j (by omega) (by omega)
theorem fstR_some {p : Nat → Bool} : ∀ (k i z : Nat), fstR p i k = some z → (i ≤ z ∧ z < i + k ∧ p z = true) ∧ ∀ j, i ≤ j → j < z → p j = false
  | 0, i, z, h => by cases h
  | k + 1, i, z, h => by
    rw [fstR_s] at h
    cases hp : p i with
    | true =>
      rw [hp] at h
      have : i = z := by simpa using h
      subst this
      exact ⟨⟨Nat.le_refl _, by omega, hp⟩, fun j h1 h2 => by omega⟩
    | false =>
      rw [hp] at h
      obtain ⟨⟨a1, a2, a3⟩, a4⟩ := fstR_some k (i + 1) z (by simpa using h)
      refine ⟨⟨by omega, by omega, a3⟩, fun j h1 h2 => ?_⟩
      by_cases e : j = i
      · subst e; exact hp
      · exact a4 j (by omega) h2
theorem lN_0 {N : Nat} (hN : N < 2 ^ 64) : lN N = 0 ↔ N = 0 := by
  constructor
  · intro h
    have : (lN N).toBitVec.toNat = (0 : Int64).toBitVec.toNat := by rw [h]
    rw [wb_tn hN] at this
    exact this
  · intro h; subst h; rfl
/-- of a set of quarters: is there one, which is the first, how many are there -/
theorem bits_1 {F N : Nat} {p : Nat → Bool} (hN : N < 2 ^ 64) (hp : ∀ j, j < 64 → N.testBit j = p j) (h48 : ∀ j, p j = true → j < 48) : (lg_cmp (lN N) 0 = 0 ∧ fstR p 0 48 = none ∧ sumR (fun q => if p q then 1 else 0) 0 48 = 0) ∨ (¬ lg_cmp (lN N) 0 = 0 ∧ ∃ z, z < 48 ∧ fstR p 0 48 = some z ∧ fJ13_numberOfTrailingZeros_95d88 F (lN N) = some (nI z) ∧ 0 < sumR (fun q => if p q then 1 else 0) 0 48) := by
  cases hf : fstR p 0 48 with
  | none =>
    have h0 := fstR_none 48 0 hf
    have hN0 : N = 0 := by
      apply Nat.eq_of_testBit_eq
      intro j
      rw [Nat.zero_testBit]
      by_cases h : j < 64
      · rw [hp j h]
        by_cases h' : j < 48
        · exact h0 j (by omega) (by omega)
        · cases hpj : p j with
          | false => rfl
          | true => exact absurd (h48 j hpj) h'
      · exact Nat.testBit_lt_two_pow (Nat.lt_of_lt_of_le hN (Nat.pow_le_pow_right (by decide) (by omega)))
    refine Or.inl ⟨(cmp0 _ _).mpr ((lN_0 hN).mpr hN0), rfl, sumR_zero 48 0 (fun j h1 h2 => ?_)⟩
    rw [h0 j h1 h2]; rfl
  | some z =>
    obtain ⟨⟨a1, a2, a3⟩, a4⟩ := fstR_some 48 0 z hf
    have hb : N.testBit z = true := by rw [hp z (by omega)]; exact a3
    refine Or.inr ⟨fun h => ?_, z, by omega, rfl, p_ctz64 hN (by omega) hb (fun j hj => by rw [hp j (by omega)]; exact a4 j (by omega) hj), ?_⟩
    · have := (lN_0 hN).mp ((cmp0 _ _).mp h)
      rw [this, Nat.zero_testBit] at hb; cases hb
    · rw [show 48 = z + (48 - z) by omega, sumR_split, show 48 - z = (47 - z) + 1 by omega, sumR_s, Nat.zero_add, if_pos a3]
      omega
theorem bits_n {F N : Nat} {p : Nat → Bool} (hN : N < 2 ^ 64) (hp : ∀ j, j < 64 → N.testBit j = p j) (h48 : ∀ j, p j = true → j < 48) : fJ13_bitCount_95d88 F (lN N) = some (nI (sumR (fun q => if p q then 1 else 0) 0 48)) := by
  rw [p_bitCountL hN, show 64 = 48 + 16 from rfl, sumR_split 48 16 0]
  have h1 : sumR (fun j => if N.testBit j then 1 else 0) 0 48 = sumR (fun q => if p q then 1 else 0) 0 48 := sumR_congr 48 0 (fun j _ h => by rw [hp j (by omega)])
  have h2 : sumR (fun j => if N.testBit j then 1 else 0) (0 + 48) 16 = 0 := sumR_zero 16 _ (fun j a b => by
    rw [hp j (by omega)]
    cases hpj : p j with
    | false => rfl
    | true => have := h48 j hpj; omega)
  rw [h1, h2, Nat.add_zero]
theorem p_areTwo {F n : Nat} {a1 a2 : Int32} {all : Nat → Int32} (h0 : all 0 = nI n) (hn : n ≤ 10) : (∃ c d, c < n ∧ d < n ∧ c ≠ d ∧ a1 = nI c ∧ a2 = nI d ∧ fX9_areTwo F (nI n) a1 a2 = some 1 ∧ fX10_areTwo F all a1 a2 = some 1) ∨ (fX9_areTwo F (nI n) a1 a2 = some 0 ∧ fX10_areTwo F all a1 a2 = some 0) := by
  unfold fX9_areTwo fX10_areTwo
  rw [p_isChimney h0 hn, p_isChimney h0 hn, ob_s]
  cases h1 : vb a1 n with
  | false => exact Or.inr ⟨by rw [p_hasN (by omega) h1, ob_s, if_pos rfl], by rw [bI_0 rfl, if_pos rfl]⟩
  | true =>
    obtain ⟨c, hc, rfl⟩ := vb_of (by omega) h1
    rw [p_has hc (by omega), ob_s, if_neg one0, bI_1 rfl, if_neg one0, ob_s]
    cases h2 : vb a2 n with
    | false => exact Or.inr ⟨by rw [p_hasN (by omega) h2, ob_s, if_pos rfl], by rw [bI_0 rfl, if_pos rfl]⟩
    | true =>
      obtain ⟨d, hd, rfl⟩ := vb_of (by omega) h2
      rw [p_has hd (by omega), ob_s, if_neg one0, bI_1 rfl, if_neg one0]
      by_cases e : c = d
      · subst e
        exact Or.inr ⟨by rw [if_pos rfl], by rw [if_pos rfl]⟩
      · exact Or.inl ⟨c, d, hc, hd, e, rfl, rfl, by rw [if_neg (nI_ne (by omega) (by omega) e)], by rw [if_neg (nI_ne (by omega) (by omega) e)]⟩
theorem Tok.thick {t : Nat → Nat → Nat} (h : Tok t) : 1 ≤ t 3 0 ∧ t 3 0 ≤ 9 := h.2.2.2.1
theorem s_touch {F : Nat} {t : Nat → Nat → Nat} {hs v lit sc sm all his los pm pf tc : Nat → Int32} {thr : Int32} (a1 a2 : Int32) (ht : Tok t) (hP : plOk t hs v lit sc sm) (hM : tM t all 0) (hF : 60 < F) :
    ∃ r his' los' pm' pf' tc', fX9_touch F (nI (t 0 0)) (nI (t 3 0)) lit sc sm hs v a1 a2 = some r ∧ fX10_touch F thr all his los pm pf tc a1 a2 = some (r, 0, his', los', pm', pf', tc') := by
  have hn := ht.1
  have hth := ht.thick
  have h3 : all 3 = nI (t 3 0) := hM.1 3 (by decide)
  unfold fX9_touch fX10_touch
  rcases p_areTwo (F := F) (a1 := a1) (a2 := a2) (hM.1 0 (by decide)) hn with ⟨c, d, hc, hd, hcd, rfl, rfl, e1, e2⟩ | ⟨e1, e2⟩
  · obtain ⟨his', los', pm', pf', f1, -, -, f4⟩ := p_laysNow (F := F) (his := his) (los := los) (pm := pm) (pf := pf) ht hM (by omega)
    obtain ⟨tc', g1, g2⟩ := p_quarters (F := F) (tc := tc) h3 (by omega) (by omega) (f4 c hc) (f4 d hd) (lfL_bd ht hc) (lfL_bd ht hd) (by omega) (by omega)
    obtain ⟨N, n1, n2, n3⟩ := p_tQ (F := F) ht (li_of ht hP) hc hd hth.1 hth.2 hF
    have hb := bits_1 (F := F) n1 n3 (fun j hj => tqB_lt (lfL_bd ht hc) hj)
    refine ⟨encW (fstR (tqB (lfL t (tW t) c) (lfL t (tW t) d) (t 3 0)) 0 48), his', los', pm', pf', tc', ?_, ?_⟩
    · rw [e1, ob_s, if_neg one0, n2, ob_s]
      rcases hb with ⟨b1, b2, -⟩ | ⟨b1, z, -, b2, b3, -⟩
      · rw [if_pos b1, b2]; rfl
      · rw [if_neg b1, b3, ob_s, b2]; rfl
    · rw [e2, ob_s, if_neg one0, f1, ob_s]
      show ob (fX10_quarters F all pm' pf' tc (nI c) (nI d)) _ = _
      rw [g1, ob_s, p_firstTouch g2 (by omega), ob_s]
  · exact ⟨-2, his, los, pm, pf, tc, by rw [e1, ob_s, if_pos rfl], by rw [e2, ob_s, if_pos rfl]⟩
theorem s_touching {F : Nat} {t : Nat → Nat → Nat} {hs v lit sc sm all his los pm pf tc : Nat → Int32} {thr : Int32} (a1 a2 : Int32) (ht : Tok t) (hP : plOk t hs v lit sc sm) (hM : tM t all 0) (hF : 60 < F) :
    ∃ r his' los' pm' pf' tc', fX9_touching F (nI (t 0 0)) (nI (t 3 0)) lit sc sm hs v a1 a2 = some r ∧ fX10_touching F thr all his los pm pf tc a1 a2 = some (r, 0, his', los', pm', pf', tc') := by
  have hn := ht.1
  have hth := ht.thick
  have h3 : all 3 = nI (t 3 0) := hM.1 3 (by decide)
  unfold fX9_touching fX10_touching
  rcases p_areTwo (F := F) (a1 := a1) (a2 := a2) (hM.1 0 (by decide)) hn with ⟨c, d, hc, hd, hcd, rfl, rfl, e1, e2⟩ | ⟨e1, e2⟩
  · obtain ⟨his', los', pm', pf', f1, -, -, f4⟩ := p_laysNow (F := F) (his := his) (los := los) (pm := pm) (pf := pf) ht hM (by omega)
    obtain ⟨tc', g1, g2⟩ := p_quarters (F := F) (tc := tc) h3 (by omega) (by omega) (f4 c hc) (f4 d hd) (lfL_bd ht hc) (lfL_bd ht hd) (by omega) (by omega)
    obtain ⟨N, n1, n2, n3⟩ := p_tQ (F := F) ht (li_of ht hP) hc hd hth.1 hth.2 hF
    refine ⟨nI (sumR (fun q => if tqB (lfL t (tW t) c) (lfL t (tW t) d) (t 3 0) q then 1 else 0) 0 48), his', los', pm', pf', tc', ?_, ?_⟩
    · rw [e1, ob_s, if_neg one0, n2, ob_s, bits_n n1 n3 (fun j hj => tqB_lt (lfL_bd ht hc) hj), ob_s]
    · rw [e2, ob_s, if_neg one0, f1, ob_s]
      show ob (fX10_quarters F all pm' pf' tc (nI c) (nI d)) _ = _
      rw [g1, ob_s]
  · exact ⟨-2, his, los, pm, pf, tc, by rw [e1, ob_s, if_pos rfl], by rw [e2, ob_s, if_pos rfl]⟩
