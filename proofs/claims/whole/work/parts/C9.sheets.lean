/-! promises 29 to 31: both sides -/
def xOf (nums : Nat → Int64) (r i : Nat) : Nat := (nums (40 * r + 2 * i)).toInt.toNat
theorem l_in40 {x : Int64} (h1 : ¬ x < 0) (h2 : ¬ (40 : Int64) ≤ x) : ∃ n, n < 40 ∧ x = lN n := by
  obtain ⟨n, hn, rfl⟩ := pk_lOf h1
  refine ⟨n, ?_, rfl⟩
  rw [show (40 : Int64) = lN 40 from rfl, pk_lLE (by decide) hn] at h2
  omega
theorem p_t115 {F T : Nat} {t : Nat → Nat → Nat} {X : Nat → Nat} {Z : Nat → Int64} {sz : Int32} {vals : Nat → Int64} {hs v lit fs sc sm ts tX cnt am op obm row sh : Nat → Int32} (ht : Tok t) (hP : plOk t hs v lit sc sm) (h2 : ∀ c, c < t 0 0 → fs c = nI (t 8 c)) (h3 : ∀ c, c < t 0 0 → ts c = nI (t 9 c)) (hT : T ≤ 20) (hX : ∀ i, i < T → X i < 40 ∧ tX i = nI (X i)) (hF : 60 < F) : ∃ cnt' am' op' obm' row' sh', fX0_takeSheets_L115 F sz vals (nI (t 0 0)) v fs sc sm ts F 0 (nI T) cnt am op obm row sh Z tX = some (1, nI T, cnt', am', op', obm', row', sh', Z, tX) ∧ (∀ c, c < 3 → bsI (op' c) (fun j => j < 25 ∧ optB t c j = true)) ∧ (∀ i, i < T → tabI t (svO t X i) i 25 cnt' am' obm') ∧ ∀ c, c < 3 → ∀ o, o < 25 → ∀ i, i < T → sh' (plc c o i) = nI (shr t c o (X i)) := by
  obtain ⟨f, rfl⟩ : ∃ f, F = f + 4 := ⟨F - 4, by omega⟩
  obtain ⟨o0, r0, s0, a1, a2, a3, a4, a5⟩ := p_layShares (F := f + 4) (c := 0) (X := X) (op := op) (row := row) (sh := sh) ht hP h2 h3 (by decide) hT hX hF
  obtain ⟨o1, r1, s1, b1, b2, b3, b4, b5⟩ := p_layShares (F := f + 4) (c := 1) (X := X) (op := o0) (row := r0) (sh := s0) ht hP h2 h3 (by decide) hT hX hF
  obtain ⟨o2, r2, s2, c1, c2, c3, c4, c5⟩ := p_layShares (F := f + 4) (c := 2) (X := X) (op := o1) (row := r1) (sh := s1) ht hP h2 h3 (by decide) hT hX hF
  have hop : ∀ c, c < 3 → bsI (o2 c) (fun j => j < 25 ∧ optB t c j = true) := fun c hc => by
    rcases (show c = 0 ∨ c = 1 ∨ c = 2 by omega) with rfl | rfl | rfl
    · rw [c4 0 (by decide), b4 0 (by decide)]; exact a3
    · rw [c4 1 (by decide)]; exact b3
    · exact c3
  have hsh : ∀ c, c < 3 → ∀ o, o < 25 → ∀ i, i < T → s2 (plc c o i) = nI (shr t c o (X i)) := fun c hc o ho i hi => by
    rcases (show c = 0 ∨ c = 1 ∨ c = 2 by omega) with rfl | rfl | rfl
    · rw [c5 _ (by unfold plc; omega), b5 _ (by unfold plc; omega)]; exact a2 o ho i hi
    · rw [c5 _ (by unfold plc; omega)]; exact b2 o ho i hi
    · exact c2 o ho i hi
  obtain ⟨cnt', am', obm', d1, d2⟩ := p_la_out (F := f + 4) (X := X) ht hT (hop 2 (by decide)) (fun o ho i hi => hsh 2 (by decide) o ho i hi) hF T 0 (f + 4) cnt am obm (by omega) (by omega) (fun j hj => by omega)
  refine ⟨cnt', am', o2, obm', r2, s2, ?_, hop, d2, hsh⟩
  have a1' : fX0_layShares (f + 4) (nI T) op row sh tX (nI (t 0 0)) v fs sc sm ts 0 = some (o0, r0, s0) := a1
  have b1' : fX0_layShares (f + 4) (nI T) o0 r0 s0 tX (nI (t 0 0)) v fs sc sm ts (0 + 1) = some (o1, r1, s1) := b1
  have c1' : fX0_layShares (f + 4) (nI T) o1 r1 s1 tX (nI (t 0 0)) v fs sc sm ts (0 + 1 + 1) = some (o2, r2, s2) := c1
  have d1' : fX0_layAmounts (f + 4) (nI T) cnt am o2 obm s2 = some (cnt', am', obm') := d1
  rw [fX0_takeSheets_L115, if_neg (show ¬ (3 : Int32) ≤ 0 by decide), a1', ob_s, ol_s, fX0_takeSheets_L115, if_neg (show ¬ (3 : Int32) ≤ 0 + 1 by decide)]
  show ob (fX0_layShares (f + 4) (nI T) o0 r0 s0 tX (nI (t 0 0)) v fs sc sm ts (0 + 1)) _ = _
  rw [b1', ob_s, ol_s, fX0_takeSheets_L115, if_neg (show ¬ (3 : Int32) ≤ 0 + 1 + 1 by decide)]
  show ob (fX0_layShares (f + 4) (nI T) o1 r1 s1 tX (nI (t 0 0)) v fs sc sm ts (0 + 1 + 1)) _ = _
  rw [c1', ob_s, ol_s, fX0_takeSheets_L115, if_pos (show (3 : Int32) ≤ 0 + 1 + 1 + 1 by decide)]
  show ob (fX0_layAmounts (f + 4) (nI T) cnt am o2 obm s2) _ = _
  rw [d1', ob_s]
theorem p_tk {F r T : Nat} {t : Nat → Nat → Nat} {vals nums : Nat → Int64} {v fs sc sm ts all many srt cnt am op obm row sh : Nat → Int32} (hr : r < 4) (hT : T ≤ 20) (hmany : many r = nI (2 * T)) (hv : ∀ i, i < 2 * T → vals i = nums (40 * r + i)) :
    ∀ (k i fuel fuel2 : Nat) (tS : Nat → Int64) (tX : Nat → Int32), i + k = T → k < fuel → k < fuel2 → (∀ j, j < i → xOf nums r j < 40 ∧ nums (40 * r + 2 * j) = lN (xOf nums r j) ∧ tX j = nI (xOf nums r j) ∧ tS j = nums (40 * r + 2 * j + 1)) → (∃ tS' tX', fX0_takeSheets_L29 F (nI (2 * T)) vals (nI (t 0 0)) v fs sc sm ts fuel (nI i) (nI i) cnt am op obm row sh tS tX = fX0_takeSheets_L115 F (nI (2 * T)) vals (nI (t 0 0)) v fs sc sm ts F 0 (nI T) cnt am op obm row sh tS' tX' ∧ fX10_refusesSheets_L43 F all nums many srt (nI r) fuel2 (nI (2 * i)) = some 0 ∧ ∀ j, j < T → xOf nums r j < 40 ∧ nums (40 * r + 2 * j) = lN (xOf nums r j) ∧ tX' j = nI (xOf nums r j) ∧ tS' j = nums (40 * r + 2 * j + 1)) ∨ (∃ w, fX0_takeSheets_L29 F (nI (2 * T)) vals (nI (t 0 0)) v fs sc sm ts fuel (nI i) (nI i) cnt am op obm row sh tS tX = some (0, w) ∧ fX10_refusesSheets_L43 F all nums many srt (nI r) fuel2 (nI (2 * i)) = some (-3))
  | 0, i, fuel + 1, fuel2 + 1, tS, tX, e, _, _, h => by
    have d2 : nI (2 * T) / (2 : Int32) = nI T := by
      refine (pk_div (a := 2 * T) (d := 2) (by omega) (by decide) (by decide)).trans ?_
      rw [show 2 * T / 2 = T by omega]
    refine Or.inl ⟨tS, tX, ?_, ?_, fun j hj => h j (by omega)⟩
    · rw [fX0_takeSheets_L29, d2, show i = T by omega, if_pos (nI_le (Nat.le_refl _) (by omega))]
    · rw [fX10_refusesSheets_L43, vb_nI hr (by decide), og_s, nI_clamp (by omega), hmany, if_pos (nI_le (by omega) (by omega))]
  | k + 1, i, fuel + 1, fuel2 + 1, tS, tX, e, h1, h2, h => by
    have d2 : nI (2 * T) / (2 : Int32) = nI T := by
      refine (pk_div (a := 2 * T) (d := 2) (by omega) (by decide) (by decide)).trans ?_
      rw [show 2 * T / 2 = T by omega]
    have m2 : (2 : Int32) * nI i = nI (2 * i) := by rw [show (2 : Int32) = nI 2 from rfl, pk_mul]
    have ix : (40 : Int32) * nI r + nI (2 * i) = nI (40 * r + 2 * i) := by
      rw [show (40 : Int32) = nI 40 from rfl, pk_mul, nI_add]
    have p2 : nI (2 * i) + 2 = nI (2 * (i + 1)) := nI_add (2 * i) 2
    rw [fX0_takeSheets_L29, d2, if_neg (nI_ge (by omega) (by omega)), m2, p_at (by omega) (by omega), ob_s, nI_1, p_at (by omega) (by omega), ob_s, hv (2 * i) (by omega), hv (2 * i + 1) (by omega), fX10_refusesSheets_L43, vb_nI hr (by decide), og_s, nI_clamp (n := r) (by omega), hmany, if_neg (nI_ge (a := 2 * i) (b := 2 * T) (by omega) (by omega)), ix, vb_nI (show 40 * r + 2 * i < 160 by omega) (by decide), og_s, nI_clamp (n := 40 * r + 2 * i) (by omega), p_within, ob_s, nI_1 (40 * r + 2 * i), vb_nI (show 40 * r + 2 * i + 1 < 160 by omega) (by decide), og_s, nI_clamp (n := 40 * r + 2 * i + 1) (by omega), ← Nat.add_assoc, p2]
    by_cases c1 : nums (40 * r + 2 * i) < 0
    · refine Or.inr ⟨_, by rw [if_pos ((lg_cmp_lt _ _).mpr c1)], ?_⟩
      have : decide ((0 : Int64) ≤ nums (40 * r + 2 * i)) = false := decide_eq_false (Int64.not_le.mpr c1)
      rw [this, Bool.false_and, bI_0 rfl, if_pos rfl]
    · rw [if_neg (fun z => c1 ((lg_cmp_lt _ _).mp z))]
      have hge : (0 ≤ lg_cmp (nums (40 * r + 2 * i)) 40) ↔ (40 : Int64) ≤ nums (40 * r + 2 * i) := by
        rw [← Int32.not_lt, lg_cmp_lt, Int64.not_lt]
      by_cases c2 : (40 : Int64) ≤ nums (40 * r + 2 * i)
      · refine Or.inr ⟨_, by rw [if_pos (hge.mpr c2)], ?_⟩
        have h39 : ¬ nums (40 * r + 2 * i) ≤ 39 := fun z => by
          have := Int64.le_trans c2 z
          exact absurd this (by decide)
        rw [decide_eq_false h39, Bool.and_false, bI_0 rfl, if_pos rfl]
      · obtain ⟨x, hx, hxe⟩ := l_in40 c1 c2
        have hxo : xOf nums r i = x := by
          unfold xOf
          rw [hxe, pk_lT (by omega)]; rfl
        have hb1 : decide ((0 : Int64) ≤ nums (40 * r + 2 * i)) = true := decide_eq_true (Int64.not_lt.mp c1)
        have hb2 : decide (nums (40 * r + 2 * i) ≤ 39) = true := by
          refine decide_eq_true ?_
          rw [hxe, show (39 : Int64) = lN 39 from rfl, pk_lLE (by omega) (by decide)]
          omega
        rw [if_neg (fun z => c2 (hge.mp z)), hb1, hb2, Bool.and_true, bI_1 rfl, if_neg one0]
        by_cases c3 : 0 ≤ lg_cmp (nums (40 * r + 2 * i + 1)) 0
        · rw [if_pos c3, if_pos c3, vb_nI (show i < 20 by omega) (by decide), og_s]
          simp only [ol_s, og_s, nI_1]
          rw [nI_clamp (by omega), hxe, lN_i]
          exact p_tk hr hT hmany hv k (i + 1) fuel fuel2 _ _ (by omega) (by omega) (by omega) (fun j hj => by
            by_cases e1 : j = i
            · subst e1
              rw [hxo, pk_us, pk_uLs]
              exact ⟨hx, hxe, rfl, rfl⟩
            · rw [pk_un e1, pk_uLn e1]
              exact h j (by omega))
        · exact Or.inr ⟨_, by rw [if_neg c3], by rw [if_neg c3]⟩
  | k, i, 0, fuel2, tS, tX, _, h1, _, _ => absurd h1 (Nat.not_lt_zero k)
  | k, i, fuel + 1, 0, tS, tX, _, _, h2, _ => absurd h2 (Nat.not_lt_zero k)
