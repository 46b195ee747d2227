/-- sheets refused, or taken: both sides -/
theorem p_refS {F r : Nat} {t : Nat → Nat → Nat} {hs v lit sc sm fs ts cnt am op obm row sh tX all many srt : Nat → Int32} {tS vals nums : Nat → Int64} {td sort size : Int32} (ht : Tok t) (hP : plOk t hs v lit sc sm) (h2 : ∀ c, c < t 0 0 → fs c = nI (t 8 c)) (h3 : ∀ c, c < t 0 0 → ts c = nI (t 9 c)) (hM : tM t all 0) (hr : r < 4) (hR : rRel r sort size vals nums many srt) (hF : 60 < F) :
    (∃ T X Z cnt' am' op' obm' row' sh' tX', t 0 0 ≤ 3 ∧ T ≤ 20 ∧ many r = nI (2 * T) ∧ (∀ i, i < T → X i < 40 ∧ nums (40 * r + 2 * i) = lN (X i)) ∧ (∀ i, i < T → Z i = nums (40 * r + 2 * i + 1)) ∧ fX9_refusalOfSheets_at0 F td (nI (t 0 0)) size cnt am op obm row sh tS tX fs sc sm ts v vals (nI r) = some (0, nI T, cnt', am', op', obm', row', sh', Z, tX') ∧ fX10_refusesSheets F all nums many srt (nI r) = some 0 ∧ (∀ c, c < 3 → bsI (op' c) (fun j => j < 25 ∧ optB t c j = true)) ∧ (∀ i, i < T → tabI t (svO t X i) i 25 cnt' am' obm') ∧ ∀ c, c < 3 → ∀ o, o < 25 → ∀ i, i < T → sh' (plc c o i) = nI (shr t c o (X i))) ∨ (∃ x w, ¬ x = 0 ∧ fX9_refusalOfSheets_at0 F td (nI (t 0 0)) size cnt am op obm row sh tS tX fs sc sm ts v vals (nI r) = some (x, w) ∧ fX10_refusesSheets F all nums many srt (nI r) = some x) := by
  have hn := ht.1
  have e0 : all (0 : Int32).toNatClampNeg = nI (t 0 0) := hM.1 0 (by decide)
  unfold fX9_refusalOfSheets_at0 fX10_refusesSheets
  rw [vb_nI hr (by decide), og_s, og_s, nI_clamp (by omega), e0]
  rcases hR with ⟨r1, r2⟩ | ⟨m, s, hm, hs', r1, r2, r3, r4, r5⟩
  · have hmiss : fX3_isMissing F size = some 1 := by
      unfold fX3_isMissing
      rw [if_pos r1]
    exact Or.inr ⟨-6, _, by decide, by rw [hmiss, ob_s, if_neg one0], by rw [if_pos r2]⟩
  · have hmiss : fX3_isMissing F size = some 0 := by
      unfold fX3_isMissing
      rw [r1, if_neg (nI_nm1 (by omega))]
    rw [hmiss, ob_s, if_pos rfl, r3, if_neg (nI_nm1 (by omega)), r4]
    by_cases h3n : t 0 0 ≤ 3
    · rw [if_pos (show nI (t 0 0) ≤ 3 from nI_le (a := t 0 0) (b := 3) h3n (by decide)), if_pos (show nI (t 0 0) ≤ 3 from nI_le (a := t 0 0) (b := 3) h3n (by decide))]
      have rm : nI m - nI m / (2 : Int32) * (2 : Int32) = nI (m % 2) := pk_rem (a := m) (d := 2) (by omega) (by decide) (by decide)
      have dm : nI m / (2 : Int32) = nI (m / 2) := pk_div (a := m) (d := 2) (by omega) (by decide) (by decide)
      unfold fX0_takeSheets
      rw [r1, rm]
      by_cases hev : m % 2 = 0
      · obtain ⟨T, rfl⟩ : ∃ T, m = 2 * T := ⟨m / 2, by omega⟩
        rw [hev, if_pos nI_0, if_neg (show ¬ nI 0 = 1 by decide), dm, show 2 * T / 2 = T by omega, if_pos (show nI T ≤ 20 from nI_le (a := T) (b := 20) (by omega) (by decide))]
        rcases p_tk (F := F) (t := t) (v := v) (fs := fs) (sc := sc) (sm := sm) (ts := ts) (all := all) (srt := srt) (cnt := cnt) (am := am) (op := op) (obm := obm) (row := row) (sh := sh) hr (show T ≤ 20 by omega) r4 r5 T 0 F F tS tX (by omega) (by omega) (by omega) (fun j hj => by omega) with ⟨tS', tX', g1, g2, g3⟩ | ⟨w, g1, g2⟩
        · obtain ⟨cnt', am', op', obm', row', sh', f1, f2, f3, f4⟩ := p_t115 (F := F) (X := xOf nums r) (Z := tS') (sz := nI (2 * T)) (vals := vals) (tX := tX') (cnt := cnt) (am := am) (op := op) (obm := obm) (row := row) (sh := sh) ht hP h2 h3 (show T ≤ 20 by omega) (fun i hi => ⟨(g3 i hi).1, (g3 i hi).2.2.1⟩) hF
          refine Or.inl ⟨T, xOf nums r, tS', cnt', am', op', obm', row', sh', tX', h3n, by omega, rfl, fun i hi => ⟨(g3 i hi).1, (g3 i hi).2.1⟩, fun i hi => (g3 i hi).2.2.2, ?_, g2, f2, f3, f4⟩
          have g1' : fX0_takeSheets_L29 F (nI (2 * T)) vals (nI (t 0 0)) v fs sc sm ts F 0 0 cnt am op obm row sh tS tX = some (1, nI T, cnt', am', op', obm', row', sh', tS', tX') := g1.trans f1
          rw [g1', ob_s]
          rfl
        · have g1' : fX0_takeSheets_L29 F (nI (2 * T)) vals (nI (t 0 0)) v fs sc sm ts F 0 0 cnt am op obm row sh tS tX = some (0, w) := g1
          exact Or.inr ⟨-3, _, by decide, by rw [g1', ob_s]; rfl, g2⟩
      · have hod : m % 2 = 1 := by omega
        exact Or.inr ⟨-3, _, by decide, by rw [hod, if_neg (show ¬ nI 1 = 0 by decide), ob_s]; rfl, by rw [hod, if_pos (show nI 1 = 1 from rfl)]⟩
    · rw [if_neg (show ¬ nI (t 0 0) ≤ 3 from nI_ge (a := 3) (b := t 0 0) (by omega) (by omega)), if_neg (show ¬ nI (t 0 0) ≤ 3 from nI_ge (a := 3) (b := t 0 0) (by omega) (by omega))]
      exact Or.inr ⟨-4, _, by decide, rfl, rfl⟩
theorem fit_same {t : Nat → Nat → Nat} {X : Nat → Nat} {Z : Nat → Int64} {T : Nat} (hn : t 0 0 ≤ 3) : fitN (fitB t X Z T) 15625 = fitN (fun e => fitB t X Z T (e * p25 (3 - t 0 0))) (p25 (t 0 0)) := by
  obtain ⟨m1, m2⟩ := p25_m hn
  rw [← fitN_blk (f := fitB t X Z T) m1 (p25 (t 0 0)) (fun d hd hf => fit_div hn (by omega) hf), m2]
def fstIs {α : Type} (o : Option (Int32 × α)) (x : Int32) : Prop := o.map Prod.fst = some x
theorem fstIs_ex {α : Type} {o : Option (Int32 × α)} {x : Int32} (h : fstIs o x) : ∃ w, o = some (x, w) := by
  cases o with
  | none => cases h
  | some y =>
    obtain ⟨a, b⟩ := y
    have : a = x := Option.some.inj h
    exact ⟨b, by rw [this]⟩
theorem s_sheets {F r : Nat} {t : Nat → Nat → Nat} {hs v lit sc sm fs ts cnt am dy op obm row sh tX all his los pm pf many srt sf : Nat → Int32} {tS vals nums : Nat → Int64} {td ft al thr alw tdy sort size : Int32} (ht : Tok t) (hP : plOk t hs v lit sc sm) (h2 : ∀ c, c < t 0 0 → fs c = nI (t 8 c)) (h3 : ∀ c, c < t 0 0 → ts c = nI (t 9 c)) (hM : tM t all 0) (hr : r < 4) (hR : rRel r sort size vals nums many srt) (hF : 15630 < F) :
    ∃ x, fstIs (fX9_sheets_at0 F td ft al (nI (t 0 0)) size cnt am dy op obm row sh tS tX fs sc sm ts v vals (nI r)) x ∧ fstIs (fX10_sheets F thr alw tdy all his los nums pm pf many srt sf (nI r)) x := by
  have hv4 : vb (nI r) 4 = true := vb_nI hr (by decide)
  unfold fX9_sheets_at0 fX10_sheets
  rw [p_w03, ob_s, hv4, bI_1 rfl, if_neg one0]
  rcases p_refS (F := F) (cnt := cnt) (am := am) (op := op) (obm := obm) (row := row) (sh := sh) (tX := tX) (tS := tS) (td := td) ht hP h2 h3 hM hr hR (by omega) with ⟨T, X, Z, cnt', am', op', obm', row', sh', tX', hn3, hT, hmany, hx, hZ, e1, e2, f2, f3, f4⟩ | ⟨x, w, x0, e1, e2⟩
  · obtain ⟨al', dy', g1, g2, g3⟩ := p_seekDay (F := F) (Z := Z) (a := -1) (ft := ft) (al := al) (dy := dy) ht hT f2 f3 f4 (by omega)
    obtain ⟨al2, td2, his', los', pm', pf', sf', k1, k2, k3⟩ := p_daysOf (F := F) (Z := Z) (a := -1) (alw := alw) (tdy := tdy) (his := his) (los := los) (pm := pm) (pf := pf) (sf := sf) hM hn3 hr hT hmany hx hZ ht hF
    rw [← fit_same hn3] at k1
    have hle := fitN_le (fitB t X Z T) 15625
    refine ⟨nI (fitN (fitB t X Z T) 15625), ?_, ?_⟩
    · rw [e1, ob_s]
      show fstIs (if (0 : Int32) = 0 then ob (fX0_seekDay F (nI T) ft al cnt' am' dy op' obm' sh' Z (-1)) _ else _) _
      rw [if_pos rfl, g1, ob_s]; rfl
    · rw [e2, ob_s, if_pos rfl, k1, ob_s]; rfl
  · refine ⟨x, ?_, ?_⟩
    · rw [e1, ob_s]
      show fstIs (if x = 0 then _ else _) x
      rw [if_neg x0]; rfl
    · rw [e2, ob_s, if_neg x0]; rfl
theorem al_same {t : Nat → Nat → Nat} {X : Nat → Nat} {Z : Nat → Int64} {T : Nat} {al al2 : Int32} (hn : t 0 0 ≤ 3) (h1 : alS (fitB t X Z T) 15625 al) (h2 : alM t (fitB t X Z T) (p25 (t 0 0)) al2) (hp : ¬ fitN (fitB t X Z T) 15625 = 0) : al = al2 := by
  obtain ⟨m1, m2⟩ := p25_m hn
  have hex : ∃ e, e < p25 (t 0 0) ∧ fitB t X Z T (e * p25 (3 - t 0 0)) = true := by
    refine Classical.byContradiction fun hx => hp ?_
    rw [fit_same hn]
    unfold fitN
    exact sumR_zero _ _ (fun e _ he => by
      dsimp only
      by_cases hb : fitB t X Z T (e * p25 (3 - t 0 0)) = true
      · exact absurd ⟨e, by omega, hb⟩ hx
      · exact if_neg hb)
  refine bsI_eq h1 (bsI_iff h2 (fun c _ => ?_))
  constructor
  · rintro ⟨z1, z2⟩
    refine ⟨by omega, fun d hd hf => ?_⟩
    have hz := fit_div hn hd hf
    have hdm := Nat.div_add_mod d (p25 (3 - t 0 0))
    rw [hz, Nat.add_zero, Nat.mul_comm] at hdm
    have hlt : d / p25 (3 - t 0 0) < p25 (t 0 0) := by
      rw [Nat.div_lt_iff_lt_mul (by omega), Nat.mul_comm, m2]
      exact hd
    have := z2 _ hlt (by rw [hdm]; exact hf)
    rw [hdm] at this
    exact this
  · rintro ⟨z1, z2⟩
    have hmul : ∀ e, e < p25 (t 0 0) → e * p25 (3 - t 0 0) < 15625 := fun e he => by
      rw [← m2, Nat.mul_comm]
      exact Nat.mul_lt_mul_of_pos_left he m1
    refine ⟨?_, fun e he hf => z2 _ (hmul e he) hf⟩
    refine Classical.byContradiction fun hx => ?_
    obtain ⟨e, he, hf⟩ := hex
    exact z2 _ (hmul e he) hf (oc_ge (by omega) z1 he)
theorem s_sure {F r : Nat} {t : Nat → Nat → Nat} {hs v lit sc sm fs ts cnt am dy op obm row sh tX all his los pm pf many srt sf : Nat → Int32} {tS vals nums : Nat → Int64} {td ft al thr alw tdy sort size : Int32} (ht : Tok t) (hP : plOk t hs v lit sc sm) (h2 : ∀ c, c < t 0 0 → fs c = nI (t 8 c)) (h3 : ∀ c, c < t 0 0 → ts c = nI (t 9 c)) (hM : tM t all 0) (hr : r < 4) (hR : rRel r sort size vals nums many srt) (hF : 15630 < F) :
    ∃ x, fstIs (fX9_sure_at0 F td ft al (nI (t 0 0)) size cnt am dy op obm row sh tS tX fs sc sm ts v vals (nI r)) x ∧ fstIs (fX10_sure F thr alw tdy all his los nums pm pf many srt sf (nI r)) x := by
  have hv4 : vb (nI r) 4 = true := vb_nI hr (by decide)
  unfold fX9_sure_at0 fX10_sure
  rw [p_w03, ob_s, hv4, bI_1 rfl, if_neg one0]
  rcases p_refS (F := F) (cnt := cnt) (am := am) (op := op) (obm := obm) (row := row) (sh := sh) (tX := tX) (tS := tS) (td := td) ht hP h2 h3 hM hr hR (by omega) with ⟨T, X, Z, cnt', am', op', obm', row', sh', tX', hn3, hT, hmany, hx, hZ, e1, e2, f2, f3, f4⟩ | ⟨x, w, x0, e1, e2⟩
  · obtain ⟨al', dy', g1, g2, g3⟩ := p_seekDay (F := F) (Z := Z) (a := -1) (ft := ft) (al := al) (dy := dy) ht hT f2 f3 f4 (by omega)
    obtain ⟨al2, td2, his', los', pm', pf', sf', k1, k2, k3⟩ := p_daysOf (F := F) (Z := Z) (a := -1) (alw := alw) (tdy := tdy) (his := his) (los := los) (pm := pm) (pf := pf) (sf := sf) hM hn3 hr hT hmany hx hZ ht hF
    rw [← fit_same hn3] at k1
    have hle := fitN_le (fitB t X Z T) 15625
    rw [e1, ob_s, e2, ob_s, if_pos rfl, k1, ob_s]
    dsimp only
    rw [if_pos rfl, g1, ob_s]
    dsimp only
    by_cases hz : fitN (fitB t X Z T) 15625 = 0
    · rw [hz]
      exact ⟨0, rfl, rfl⟩
    · have hal := al_same hn3 g2 k2 hz
      subst hal
      refine ⟨al', ?_, ?_⟩
      · rw [if_neg (nI_ne0 (by omega) (by omega))]; rfl
      · rw [if_neg (nI_ne0 (by omega) (by omega))]; rfl
  · refine ⟨x, ?_, ?_⟩
    · rw [e1, ob_s]
      show fstIs (if x = 0 then _ else _) x
      rw [if_neg x0]; rfl
    · rw [e2, ob_s, if_neg x0]; rfl
/-- the k-th day is there when there are more than k -/
theorem fitN_at {f : Nat → Bool} {k : Nat} : ∀ D, k < fitN f D → ∃ d, d < D ∧ f d = true ∧ fitN f d = k
  | 0, h => by
    have := fitN_le f 0
    omega
  | D + 1, h => by
    rw [fitN_s] at h
    by_cases hk : k < fitN f D
    · obtain ⟨d, h1, h2⟩ := fitN_at D hk
      exact ⟨d, by omega, h2⟩
    · cases hf : f D with
      | false => rw [hf] at h; simp at h; omega
      | true =>
        rw [hf] at h
        simp at h
        exact ⟨D, by omega, hf, by omega⟩
theorem oc_n {c d : Nat} (dy : Nat → Int32) (hc : c < 3) (h : dy 0 = nI (d / 625) ∧ dy 1 = nI (d / 25 % 25) ∧ dy 2 = nI (d % 25)) : dy c = nI (oc c d) := by
  rcases (show c = 0 ∨ c = 1 ∨ c = 2 by omega) with rfl | rfl | rfl
  · exact h.1
  · exact h.2.1
  · exact h.2.2
theorem s_sheet {F r : Nat} {t : Nat → Nat → Nat} {hs v lit sc sm fs ts cnt am dy op obm row sh tX all his los pm pf many srt sf : Nat → Int32} {tS vals nums : Nat → Int64} {td ft al thr alw tdy sort size : Int32} (ht : Tok t) (hP : plOk t hs v lit sc sm) (h2 : ∀ c, c < t 0 0 → fs c = nI (t 8 c)) (h3 : ∀ c, c < t 0 0 → ts c = nI (t 9 c)) (hM : tM t all 0) (hr : r < 4) (hR : rRel r sort size vals nums many srt) (hF : 15630 < F) (a2 a3 : Int32) :
    ∃ x, fstIs (fX9_sheet_at0 F td ft al (nI (t 0 0)) size cnt am dy op obm row sh tS tX fs sc sm ts v vals (nI r) a2 a3) x ∧ fstIs (fX10_sheet F thr alw tdy all his los nums pm pf many srt sf (nI r) a2 a3) x := by
  have hv4 : vb (nI r) 4 = true := vb_nI hr (by decide)
  have hn := ht.1
  unfold fX9_sheet_at0 fX10_sheet
  rw [p_w03, ob_s, hv4, bI_1 rfl, if_neg one0, p_isChimney (hM.1 0 (by decide)) hn, ob_s]
  cases hv3 : vb a3 (t 0 0) with
  | false =>
    refine ⟨-2, ?_, ?_⟩
    · rw [p_hasN (by omega) hv3, ob_s, if_pos rfl]; rfl
    · rw [bI_0 rfl, if_pos rfl]; rfl
  | true =>
  obtain ⟨c, hc, rfl⟩ := vb_of (by omega) hv3
  rw [p_has hc (by omega), ob_s, if_neg one0, bI_1 rfl, if_neg one0]
  rcases p_refS (F := F) (cnt := cnt) (am := am) (op := op) (obm := obm) (row := row) (sh := sh) (tX := tX) (tS := tS) (td := td) ht hP h2 h3 hM hr hR (by omega) with ⟨T, X, Z, cnt', am', op', obm', row', sh', tX', hn3, hT, hmany, hx, hZ, e1, e2, f2, f3, f4⟩ | ⟨x, w, x0, e1, e2⟩
  · obtain ⟨al', dy', g1, g2, g3⟩ := p_seekDay (F := F) (Z := Z) (a := a2) (ft := ft) (al := al) (dy := dy) ht hT f2 f3 f4 (by omega)
    obtain ⟨al2, td2, his', los', pm', pf', sf', k1, k2, k3⟩ := p_daysOf (F := F) (Z := Z) (a := a2) (alw := alw) (tdy := tdy) (his := his) (los := los) (pm := pm) (pf := pf) (sf := sf) hM hn3 hr hT hmany hx hZ ht hF
    rw [← fit_same hn3] at k1
    have hle := fitN_le (fitB t X Z T) 15625
    obtain ⟨m1, m2⟩ := p25_m hn3
    have hp := p25_le hn3
    have hmul : ∀ e, e < p25 (t 0 0) → e * p25 (3 - t 0 0) < 15625 := fun e he => by
      rw [← m2, Nat.mul_comm]
      exact Nat.mul_lt_mul_of_pos_left he m1
    have hNe : ∀ e, e < p25 (t 0 0) → fitN (fun e => fitB t X Z T (e * p25 (3 - t 0 0))) e = fitN (fitB t X Z T) (e * p25 (3 - t 0 0)) := fun e he => by
      rw [← fitN_blk (f := fitB t X Z T) m1 e (fun d hd hf => fit_div hn3 (by
        have := hmul e he
        rw [Nat.mul_comm] at hd
        omega) hf), Nat.mul_comm]
    rw [e1, ob_s, e2, ob_s, if_pos rfl, k1, ob_s]
    dsimp only
    rw [if_pos rfl, g1, ob_s]
    dsimp only
    rcases k3 with ⟨e, q1, q2, q3, q4⟩ | ⟨q1, q2⟩
    · have hN := hNe e q1
      have hs := fitN_mono (fitB t X Z T) (a := e * p25 (3 - t 0 0) + 1) (b := 15625) (by have := hmul e q1; omega)
      have q2' : fitB t X Z T (e * p25 (3 - t 0 0)) = true := q2
      rw [fitN_s, q2'] at hs
      simp at hs
      have ha2 : a2 = nI (fitN (fitB t X Z T) (e * p25 (3 - t 0 0))) := by rw [← hN]; exact q3.symm
      have hday := g3 _ (hmul e q1) q2' ha2.symm
      refine ⟨nI (oc c (e * p25 (3 - t 0 0))) - 1, ?_, ?_⟩
      · unfold fX0_dayQuarter
        rw [ha2, if_neg (nI_pos (by omega)), if_neg (nI_ge (by omega) (by omega)), if_neg (nI_pos (by omega)), if_neg (show ¬ (3 : Int32) ≤ nI c from nI_ge (a := c) (b := 3) (by omega) (by decide)), vb_nI (show c < 3 by omega) (by decide), og_s, ob_s, nI_clamp (by omega), oc_n dy' (by omega) hday]; rfl
      · rw [q4, if_neg (nI_nm1 (by omega)), p_qi (hM.1 0 (by decide)) hn3 hc q1 (by omega), ob_s]; rfl
    · refine ⟨-5, ?_, ?_⟩
      · by_cases hneg : a2 < 0
        · rw [if_pos hneg]; rfl
        · obtain ⟨k, hk, rfl⟩ := nI_of hneg
          rw [if_neg hneg]
          by_cases hkn : fitN (fitB t X Z T) 15625 ≤ k
          · rw [if_pos (nI_le hkn hk)]; rfl
          · exfalso
            rw [fit_same hn3] at hkn
            obtain ⟨e, y1, y2, y3⟩ := fitN_at (f := fun e => fitB t X Z T (e * p25 (3 - t 0 0))) (k := k) (p25 (t 0 0)) (by omega)
            exact q2 e y1 y2 (by rw [y3])
      · rw [q1, if_pos rfl]; rfl
  · refine ⟨x, ?_, ?_⟩
    · rw [e1, ob_s]
      show fstIs (if x = 0 then _ else _) x
      rw [if_neg x0]; rfl
    · rw [e2, ob_s, if_neg x0]; rfl
theorem sheets_1 : @fX9_sheets_at1 = @fX9_sheets_at0 := rfl
theorem sheets_2 : @fX9_sheets_at2 = @fX9_sheets_at0 := rfl
theorem sheets_3 : @fX9_sheets_at3 = @fX9_sheets_at0 := rfl
theorem sheet_1 : @fX9_sheet_at1 = @fX9_sheet_at0 := rfl
theorem sheet_2 : @fX9_sheet_at2 = @fX9_sheet_at0 := rfl
theorem sheet_3 : @fX9_sheet_at3 = @fX9_sheet_at0 := rfl
theorem sure_1 : @fX9_sure_at1 = @fX9_sure_at0 := rfl
theorem sure_2 : @fX9_sure_at2 = @fX9_sure_at0 := rfl
theorem sure_3 : @fX9_sure_at3 = @fX9_sure_at0 := rfl
theorem s_sheets_n {F : Nat} {td ft al thr alw tdy : Int32} {cnt am dy op obm sh all his los pm pf many srt sf : Nat → Int32} {tS nums : Nat → Int64} (a1 a2 a3 : Int32) (h : vb a1 4 = false) : fstIs (fX9_sheets_atn F td ft al cnt am dy op obm sh tS a1) (-2) ∧ fX9_sheet_atn F a1 a2 a3 = some (-2) ∧ fstIs (fX9_sure_atn F td ft al cnt am dy op obm sh tS a1) (-2) ∧ fstIs (fX10_sheets F thr alw tdy all his los nums pm pf many srt sf a1) (-2) ∧ fstIs (fX10_sheet F thr alw tdy all his los nums pm pf many srt sf a1 a2 a3) (-2) ∧ fstIs (fX10_sure F thr alw tdy all his los nums pm pf many srt sf a1) (-2) := by
  refine ⟨rfl, rfl, rfl, ?_, ?_, ?_⟩
  · unfold fX10_sheets
    rw [p_w03, ob_s, h, bI_0 rfl, if_pos rfl]; rfl
  · unfold fX10_sheet
    rw [p_w03, ob_s, h, bI_0 rfl, if_pos rfl]; rfl
  · unfold fX10_sure
    rw [p_w03, ob_s, h, bI_0 rfl, if_pos rfl]; rfl
