theorem fit_div {t : Nat → Nat → Nat} {X : Nat → Nat} {Z : Nat → Int64} {T d : Nat} (hn : t 0 0 ≤ 3) (hd : d < 15625) (h : fitB t X Z T d = true) : d % p25 (3 - t 0 0) = 0 := by
  have hz : ∀ c o, t 0 0 ≤ c → optB t c o = true → o = 0 := fun c o hc ho => by
    unfold optB at ho
    have : ¬ c < t 0 0 := by omega
    simpa [this] using ho
  unfold fitB at h
  simp only [Bool.and_eq_true] at h
  obtain ⟨h0, h1, h2, -⟩ := h
  rcases (show t 0 0 = 0 ∨ t 0 0 = 1 ∨ t 0 0 = 2 ∨ t 0 0 = 3 by omega) with e | e | e | e
  · have a := hz 0 _ (by omega) h0
    have b := hz 1 _ (by omega) h1
    have c := hz 2 _ (by omega) h2
    rw [e]
    show d % 15625 = 0
    omega
  · have b := hz 1 _ (by omega) h1
    have c := hz 2 _ (by omega) h2
    rw [e]
    show d % 625 = 0
    omega
  · have c := hz 2 _ (by omega) h2
    rw [e]
    show d % 25 = 0
    omega
  · rw [e]
    show d % 1 = 0
    omega
theorem p25_m {n : Nat} (hn : n ≤ 3) : 1 ≤ p25 (3 - n) ∧ p25 (3 - n) * p25 n = 15625 := by
  rcases (show n = 0 ∨ n = 1 ∨ n = 2 ∨ n = 3 by omega) with rfl | rfl | rfl | rfl <;> decide
theorem fitN_blk {f : Nat → Bool} {m : Nat} (hm : 1 ≤ m) (E : Nat) (h : ∀ d, d < m * E → f d = true → d % m = 0) : fitN f (m * E) = fitN (fun e => f (e * m)) E := by
  unfold fitN
  rw [sumR_blocks m E]
  refine sumR_congr E 0 (fun e _ he => ?_)
  have hlt : m * e + m ≤ m * E := by
    have := Nat.mul_le_mul_left m (show e + 1 ≤ E by omega)
    rw [Nat.mul_succ] at this
    exact this
  rw [sumR_pt (j0 := m * e) m (m * e) (fun j h1 h2 hne => by
    cases hf : f j with
    | false => rfl
    | true =>
      have hz := h j (by omega) hf
      have hdm := Nat.div_add_mod j m
      rw [hz, Nat.add_zero] at hdm
      have : j / m = e := by
        have a1 : m * (j / m) < m * (e + 1) := by rw [Nat.mul_succ]; omega
        have a2 := Nat.lt_of_mul_lt_mul_left a1
        have a3 : m * e < m * (j / m + 1) := by rw [Nat.mul_succ]; omega
        have a4 := Nat.lt_of_mul_lt_mul_left a3
        omega
      rw [this] at hdm
      omega), if_pos ⟨Nat.le_refl _, by omega⟩, Nat.mul_comm m e]
def alM (t : Nat → Nat → Nat) (f : Nat → Bool) (E : Nat) (al : Int32) : Prop := bsI al (fun c => c < t 0 0 ∧ ∀ e, e < E → f (e * p25 (3 - t 0 0)) = true → oc c (e * p25 (3 - t 0 0)) ≠ 0)
def tdS (g : Nat → Bool) (a : Int32) (E : Nat) (td : Int32) : Prop := (∃ e, e < E ∧ g e = true ∧ nI (fitN g e) = a ∧ td = nI e) ∨ (td = -1 ∧ ∀ e, e < E → g e = true → ¬ nI (fitN g e) = a)
theorem p_d102 {F E w : Nat} {t : Nat → Nat → Nat} {nums : Nat → Int64} {x4 a1 a2 td : Int32} {all many his los pm pf sf : Nat → Int32} {k56 : Int32 → Int32 → Int32 → Int32 → Int32 → (Nat → Int32) → (Nat → Int32) → (Nat → Int32) → (Nat → Int32) → (Nat → Int32) → Option (Int32 × Int32 × Int32 × (Nat → Int32) × (Nat → Int32) × (Nat → Int32) × (Nat → Int32) × (Nat → Int32))} (hM : tM t all 0) (hn : t 0 0 ≤ 3) (he : E < p25 (t 0 0)) (hF : 60 < F) :
    ∀ (k c fuel : Nat) (al : Int32) (P : Nat → Prop), c + k = t 0 0 → k < fuel → bsI al P → ∃ al', fX10_daysOf_L102 F all nums many a1 a2 k56 fuel (nI w) x4 (nI E) (nI c) al td his los pm pf sf = k56 (nI w) x4 (nI (E + 1)) al' td his los pm pf sf ∧ bsI al' (fun j => P j ∧ (c ≤ j → j < t 0 0 → oc j (E * p25 (3 - t 0 0)) ≠ 0))
  | 0, c, fuel + 1, al, P, h, _, hP => by
    have e0 : all (0 : Int32).toNatClampNeg = nI (t 0 0) := hM.1 0 (by decide)
    refine ⟨al, ?_, bsI_iff hP (fun j _ => ⟨fun z => ⟨z, fun a b => by omega⟩, fun z => z.1⟩)⟩
    rw [fX10_daysOf_L102, e0, if_pos (nI_le (by omega) (by omega)), fX10_daysOf_L145, ol_s, nI_1]
  | k + 1, c, fuel + 1, al, P, h, hf, hP => by
    have hc : c < t 0 0 := by omega
    have e0 : all (0 : Int32).toNatClampNeg = nI (t 0 0) := hM.1 0 (by decide)
    have hq : oc c (E * p25 (3 - t 0 0)) < 25 := by
      rw [← oc_lt hn hc he]
      exact Nat.mod_lt _ (by decide)
    rw [fX10_daysOf_L102, e0, if_neg (nI_ge hc (by omega)), p_qi (hM.1 0 (by decide)) hn hc he hF, ob_s]
    unfold fX10_daysOf_L139
    simp only [ol_s, nI_1]
    by_cases hz : oc c (E * p25 (3 - t 0 0)) = 0
    · rw [hz, if_pos nI_0]
      obtain ⟨al', f1, f2⟩ := p_d102 (F := F) (x4 := x4) (a1 := a1) (a2 := a2) (td := td) (nums := nums) (many := many) (his := his) (los := los) (pm := pm) (pf := pf) (sf := sf) (k56 := k56) hM hn he hF k (c + 1) fuel _ _ (by omega) (by omega) (bsI_and hP (bsI_not (bsI_bit (q := c) (by omega))))
      refine ⟨al', f1, bsI_iff f2 (fun j _ => ?_)⟩
      constructor
      · rintro ⟨⟨z1, z2⟩, z3⟩
        exact ⟨z1, fun a b => z3 (by omega) b⟩
      · rintro ⟨z1, z2⟩
        exact ⟨⟨z1, fun z => by subst z; exact z2 (Nat.le_refl _) hc hz⟩, fun a b => z2 (by omega) b⟩
    · rw [if_neg (nI_ne0 (by omega) (by omega))]
      obtain ⟨al', f1, f2⟩ := p_d102 (F := F) (x4 := x4) (a1 := a1) (a2 := a2) (td := td) (nums := nums) (many := many) (his := his) (los := los) (pm := pm) (pf := pf) (sf := sf) (k56 := k56) hM hn he hF k (c + 1) fuel al P (by omega) (by omega) hP
      refine ⟨al', f1, bsI_iff f2 (fun j _ => ?_)⟩
      constructor
      · rintro ⟨z1, z2⟩
        refine ⟨z1, fun a b => ?_⟩
        by_cases e1 : j = c
        · subst e1; exact hz
        · exact z2 (by omega) b
      · rintro ⟨z1, z2⟩; exact ⟨z1, fun a b => z2 (by omega) b⟩
  | k, c, 0, al, P, _, hf, _ => absurd hf (Nat.not_lt_zero k)
theorem p_d56 {F r T : Nat} {t : Nat → Nat → Nat} {X : Nat → Nat} {Z : Nat → Int64} {a : Int32} {all many sf his los pm pf : Nat → Int32} {nums : Nat → Int64} (hM : tM t all 0) (hn : t 0 0 ≤ 3) (hr : r < 4) (hT : T ≤ 20) (hmany : many r = nI (2 * T)) (hx : ∀ i, i < T → X i < 40 ∧ nums (40 * r + 2 * i) = lN (X i)) (hZ : ∀ i, i < T → Z i = nums (40 * r + 2 * i + 1)) (hsf : ∀ c', c' < t 0 0 → ∀ q, q < 25 → sfOk t sf c' q) (ht : Tok t) (hF : 60 < F) :
    ∀ (k E fuel : Nat) (al td : Int32), E + k = p25 (t 0 0) → k < fuel → alM t (fitB t X Z T) E al → tdS (fun e => fitB t X Z T (e * p25 (3 - t 0 0))) a E td → ∃ al' td', fX10_daysOf_L56 F all nums many (nI r) a fuel (nI (p25 (t 0 0))) (nI (fitN (fun e => fitB t X Z T (e * p25 (3 - t 0 0))) E)) (nI E) al td his los pm pf sf = some (nI (fitN (fun e => fitB t X Z T (e * p25 (3 - t 0 0))) (p25 (t 0 0))), al', td', his, los, pm, pf, sf) ∧ alM t (fitB t X Z T) (p25 (t 0 0)) al' ∧ tdS (fun e => fitB t X Z T (e * p25 (3 - t 0 0))) a (p25 (t 0 0)) td'
  | 0, E, fuel + 1, al, td, h, _, hal, htd => by
    have hp := p25_le hn
    have hE : E = p25 (t 0 0) := by omega
    rw [hE] at hal htd
    refine ⟨al, td, ?_, hal, htd⟩
    rw [fX10_daysOf_L56, hE, if_pos (nI_le (Nat.le_refl _) (by omega))]
  | k + 1, E, fuel + 1, al, td, h, hf, hal, htd => by
    have hp := p25_le hn
    have he : E < p25 (t 0 0) := by omega
    obtain ⟨b1, b2, d1, d2, d3⟩ := p_dayfit (F := F) (X := X) (Z := Z) hM hn he hr hT hmany hx hZ hsf ht hF
    have hs := fitN_s (fun e => fitB t X Z T (e * p25 (3 - t 0 0))) E
    rw [fX10_daysOf_L56, if_neg (nI_ge he (by omega)), d1, ob_s]
    have skip : fitB t X Z T (E * p25 (3 - t 0 0)) = false → ∃ al' td', fX10_daysOf_L56 F all nums many (nI r) a fuel (nI (p25 (t 0 0))) (nI (fitN (fun e => fitB t X Z T (e * p25 (3 - t 0 0))) E)) (nI (E + 1)) al td his los pm pf sf = some (nI (fitN (fun e => fitB t X Z T (e * p25 (3 - t 0 0))) (p25 (t 0 0))), al', td', his, los, pm, pf, sf) ∧ alM t (fitB t X Z T) (p25 (t 0 0)) al' ∧ tdS (fun e => fitB t X Z T (e * p25 (3 - t 0 0))) a (p25 (t 0 0)) td' := by
      intro hno
      have hs' : fitN (fun e => fitB t X Z T (e * p25 (3 - t 0 0))) (E + 1) = fitN (fun e => fitB t X Z T (e * p25 (3 - t 0 0))) E := by rw [hs]; simp [hno]
      have ih := p_d56 (F := F) (his := his) (los := los) (pm := pm) (pf := pf) (a := a) hM hn hr hT hmany hx hZ hsf ht hF k (E + 1) fuel al td (by omega) (by omega) (bsI_iff hal (fun c _ => ⟨fun z => ⟨z.1, fun e he' hfe => by
        by_cases e1 : e = E
        · subst e1; rw [hno] at hfe; cases hfe
        · exact z.2 e (by omega) hfe⟩, fun z => ⟨z.1, fun e he' => z.2 e (by omega)⟩⟩)) (by
        rcases htd with ⟨e, q1, q2⟩ | ⟨q1, q2⟩
        · exact Or.inl ⟨e, by omega, q2⟩
        · exact Or.inr ⟨q1, fun e he' hfe => by
            by_cases e1 : e = E
            · subst e1
              have hfe' : fitB t X Z T (e * p25 (3 - t 0 0)) = true := hfe
              rw [hno] at hfe'; cases hfe'
            · exact q2 e (by omega) hfe⟩)
      rw [hs'] at ih
      exact ih
    unfold fX10_daysOf_L145 fX10_daysOf_L96
    simp only [ol_s, nI_1]
    cases b1 with
    | false => rw [bI_0 rfl, if_pos rfl]; exact skip (by rw [← d3]; rfl)
    | true =>
      rw [bI_1 rfl, if_neg one0, d2, ob_s]
      cases b2 with
      | false => rw [bI_0 rfl, if_pos rfl]; exact skip (by rw [← d3]; rfl)
      | true =>
        have hfit : fitB t X Z T (E * p25 (3 - t 0 0)) = true := by rw [← d3]; rfl
        have hs' : fitN (fun e => fitB t X Z T (e * p25 (3 - t 0 0))) (E + 1) = fitN (fun e => fitB t X Z T (e * p25 (3 - t 0 0))) E + 1 := by rw [hs]; simp [hfit]
        rw [bI_1 rfl, if_neg one0]
        have fin : ∀ td1, tdS (fun e => fitB t X Z T (e * p25 (3 - t 0 0))) a (E + 1) td1 → ∃ al' td', fX10_daysOf_L102 F all nums many (nI r) a (fun x3 x4 x5 v_alwaysLit v_theDay v_highs v_lows v_puffMany v_puffsOf v_sootFor => fX10_daysOf_L56 F all nums many (nI r) a fuel x3 x4 x5 v_alwaysLit v_theDay v_highs v_lows v_puffMany v_puffsOf v_sootFor) F (nI (p25 (t 0 0))) (nI (fitN (fun e => fitB t X Z T (e * p25 (3 - t 0 0))) E + 1)) (nI E) 0 al td1 his los pm pf sf = some (nI (fitN (fun e => fitB t X Z T (e * p25 (3 - t 0 0))) (p25 (t 0 0))), al', td', his, los, pm, pf, sf) ∧ alM t (fitB t X Z T) (p25 (t 0 0)) al' ∧ tdS (fun e => fitB t X Z T (e * p25 (3 - t 0 0))) a (p25 (t 0 0)) td' := by
          intro td1 h1
          obtain ⟨al1, g1, g2⟩ := p_d102 (F := F) (w := p25 (t 0 0)) (x4 := nI (fitN (fun e => fitB t X Z T (e * p25 (3 - t 0 0))) E + 1)) (a1 := nI r) (a2 := a) (td := td1) (nums := nums) (many := many) (his := his) (los := los) (pm := pm) (pf := pf) (sf := sf) (k56 := fun x3 x4 x5 v_alwaysLit v_theDay v_highs v_lows v_puffMany v_puffsOf v_sootFor => fX10_daysOf_L56 F all nums many (nI r) a fuel x3 x4 x5 v_alwaysLit v_theDay v_highs v_lows v_puffMany v_puffsOf v_sootFor) hM hn he hF (t 0 0) 0 F al _ (by omega) (by omega) hal
          have ih := p_d56 (F := F) (his := his) (los := los) (pm := pm) (pf := pf) (a := a) hM hn hr hT hmany hx hZ hsf ht hF k (E + 1) fuel al1 td1 (by omega) (by omega) (bsI_iff g2 (fun c _ => ⟨fun z => ⟨z.1.1, fun e he' hfe => by
            by_cases e1 : e = E
            · subst e1; exact z.2 (Nat.zero_le _) z.1.1
            · exact z.1.2 e (by omega) hfe⟩, fun z => ⟨⟨z.1, fun e he' => z.2 e (by omega)⟩, fun _ _ => z.2 E (by omega) hfit⟩⟩)) h1
          rw [hs'] at ih
          obtain ⟨al', td', i1, i2⟩ := ih
          exact ⟨al', td', g1.trans i1, i2⟩
        by_cases ha : nI (fitN (fun e => fitB t X Z T (e * p25 (3 - t 0 0))) E) = a
        · rw [if_pos ha]
          exact fin (nI E) (Or.inl ⟨E, by omega, hfit, ha, rfl⟩)
        · rw [if_neg ha]
          refine fin td ?_
          rcases htd with ⟨e, q1, q2⟩ | ⟨q1, q2⟩
          · exact Or.inl ⟨e, by omega, q2⟩
          · exact Or.inr ⟨q1, fun e he' hfe => by
              by_cases e1 : e = E
              · subst e1; exact ha
              · exact q2 e (by omega) hfe⟩
  | k, E, 0, al, td, _, hf, _, _ => absurd hf (Nat.not_lt_zero k)
theorem bsI_m0 : ∀ n, n < 4 → ∀ j, j < 32 → (((1 : Int32) <<< (nI n &&& 31)) - 1).toBitVec.getLsbD j = decide (j < n) := by decide +kernel
theorem p_d9 {F r T : Nat} {t : Nat → Nat → Nat} {X : Nat → Nat} {Z : Nat → Int64} {a alw tdy : Int32} {all many sf his los pm pf : Nat → Int32} {nums : Nat → Int64} (hM : tM t all 0) (hn : t 0 0 ≤ 3) (hr : r < 4) (hT : T ≤ 20) (hmany : many r = nI (2 * T)) (hx : ∀ i, i < T → X i < 40 ∧ nums (40 * r + 2 * i) = lN (X i)) (hZ : ∀ i, i < T → Z i = nums (40 * r + 2 * i + 1)) (hsf : ∀ c', c' < t 0 0 → ∀ q, q < 25 → sfOk t sf c' q) (ht : Tok t) (hF : 15630 < F) :
    ∀ (k c fuel : Nat), c + k = t 0 0 → k < fuel → ∃ al' td', fX10_daysOf_L9 F all nums many (nI r) a fuel (nI (p25 c)) (nI c) alw tdy his los pm pf sf = some (nI (fitN (fun e => fitB t X Z T (e * p25 (3 - t 0 0))) (p25 (t 0 0))), al', td', his, los, pm, pf, sf) ∧ alM t (fitB t X Z T) (p25 (t 0 0)) al' ∧ tdS (fun e => fitB t X Z T (e * p25 (3 - t 0 0))) a (p25 (t 0 0)) td'
  | 0, c, fuel + 1, h, _ => by
    have e0 : all (0 : Int32).toNatClampNeg = nI (t 0 0) := hM.1 0 (by decide)
    have hp := p25_le hn
    have hc : c = t 0 0 := by omega
    rw [fX10_daysOf_L9, e0, hc, if_pos (nI_le (Nat.le_refl _) (by omega)), ol_s]
    exact p_d56 (F := F) hM hn hr hT hmany hx hZ hsf ht (by omega) (p25 (t 0 0)) 0 F _ (-1) (by omega) (by omega) (fun j hj => by
      rw [bsI_m0 (t 0 0) (by omega) j hj, decide_eq_true_eq]
      exact ⟨fun z => ⟨z, fun e he => by omega⟩, fun z => z.1⟩) (Or.inr ⟨rfl, fun e he => by omega⟩)
  | k + 1, c, fuel + 1, h, hf => by
    have e0 : all (0 : Int32).toNatClampNeg = nI (t 0 0) := hM.1 0 (by decide)
    have e25 : nI (p25 c) * (25 : Int32) = nI (p25 (c + 1)) := by
      rw [show (25 : Int32) = nI 25 from rfl, pk_mul, Nat.mul_comm]; rfl
    rw [fX10_daysOf_L9, e0, if_neg (nI_ge (by omega) (by omega)), ol_s, ol_s, e25, nI_1]
    exact p_d9 hM hn hr hT hmany hx hZ hsf ht hF k (c + 1) fuel (by omega) (by omega)
  | k, c, 0, _, hf => absurd hf (Nat.not_lt_zero k)
theorem p_daysOf {F r T : Nat} {t : Nat → Nat → Nat} {X : Nat → Nat} {Z : Nat → Int64} {a alw tdy : Int32} {all many sf his los pm pf : Nat → Int32} {nums : Nat → Int64} (hM : tM t all 0) (hn : t 0 0 ≤ 3) (hr : r < 4) (hT : T ≤ 20) (hmany : many r = nI (2 * T)) (hx : ∀ i, i < T → X i < 40 ∧ nums (40 * r + 2 * i) = lN (X i)) (hZ : ∀ i, i < T → Z i = nums (40 * r + 2 * i + 1)) (ht : Tok t) (hF : 15630 < F) : ∃ al' td' his' los' pm' pf' sf', fX10_daysOf F alw tdy all his los nums pm pf many sf (nI r) a = some (nI (fitN (fun e => fitB t X Z T (e * p25 (3 - t 0 0))) (p25 (t 0 0))), al', td', his', los', pm', pf', sf') ∧ alM t (fitB t X Z T) (p25 (t 0 0)) al' ∧ tdS (fun e => fitB t X Z T (e * p25 (3 - t 0 0))) a (p25 (t 0 0)) td' := by
  obtain ⟨his', los', pm', pf', sf', s1, s2⟩ := p_laysSheets (F := F) (his := his) (los := los) (pm := pm) (pf := pf) (sf := sf) ht hM hn (by omega)
  obtain ⟨al', td', f1, f2, f3⟩ := p_d9 (F := F) (a := a) (alw := alw) (tdy := tdy) (his := his') (los := los') (pm := pm') (pf := pf') hM hn hr hT hmany hx hZ s2 ht hF (t 0 0) 0 F (by omega) (by omega)
  refine ⟨al', td', his', los', pm', pf', sf', ?_, f2, f3⟩
  unfold fX10_daysOf
  rw [s1, ob_s]
  exact f1
