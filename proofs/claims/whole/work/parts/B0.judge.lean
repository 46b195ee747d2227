/-! promises 9 and 10 -/
theorem tLit2 (t : Nat → Nat → Nat) (l l' : Nat → Nat) : tLit (tLit t l) l' = tLit t l' := by
  funext k
  by_cases h : k = 11
  · subst h; simp [tLit]
  · simp [tLit, h]
/-- what is lit now, on both sides; all0 is what the reference held before -/
def jOk (t : Nat → Nat → Nat) (l : Nat → Nat) (lit all all0 : Nat → Int32) : Prop := Tok (tLit t l) ∧ (∀ c, c < t 0 0 → lit c = nI (l c) - 1) ∧ tM (tLit t l) all 0 ∧ ∀ j, (j < 56 ∨ 66 ≤ j) → all j = all0 j
theorem p_at {F m i : Nat} {vals : Nat → Int64} (hm : m ≤ 40) (hi : i < m) : fX3_at F (nI m) vals (nI i) = some (vals i) := by
  unfold fX3_at
  rw [p_hasPlace hm, vb_nI hi (by omega), ob_s, bI_1 rfl, if_neg one0, vb_nI (by omega) (by decide), og_s, nI_clamp (by omega)]
theorem p_L103 {F n : Nat} {vals : Nat → Int64} {sz th a2 x3 pl wy lt : Int32} {hs v fs sc sm ts lb lit : Nat → Int32} (hn : n ≤ 10) (hF : 11 < F) : fX2_lightRow_L103 F sz vals (nI n) th hs v fs sc sm ts a2 x3 pl wy lt lb lit = some (x3, pl, wy, nI (cntB (litB lit) n), lb, (if a2 = 0 then va_cpy lb lit 0 0 10 else lit)) := by
  unfold fX2_lightRow_L103 fX2_lightRow_L136
  rw [p_litCount hn (by omega), ob_s]
  by_cases h : a2 = 0
  · rw [if_pos h, if_pos h, ol_s]; rfl
  · rw [if_neg h, if_neg h]
theorem p_row {F r m : Nat} {t : Nat → Nat → Nat} {hs v lit0 sc sm fs ts all0 many : Nat → Int32} {lb : Nat → Int32} {vals nums : Nat → Int64} {lt sy : Int32} (ht : Tok t) (hP : plOk t hs v lit0 sc sm) (h2 : ∀ c, c < t 0 0 → fs c = nI (t 8 c)) (h3 : ∀ c, c < t 0 0 → ts c = nI (t 9 c)) (hr : r < 4) (hm : m ≤ 40) (hmany : many r = nI m) (hv : ∀ i, i < m → vals i = nums (40 * r + i)) (hF : 60 < F) :
    ∀ (k i fuel fuel2 : Nat) (l : Nat → Nat) (lit all his los pm pf : Nat → Int32), i + k = m → k + 1 < fuel → k < fuel2 → jOk t l lit all all0 → ∃ dn w l' lit' all' his' los' pm' pf', w ≤ 4 ∧ dn ≤ m ∧ fX2_lightRow_L30 F (nI m) vals (nI (t 0 0)) (nI (t 3 0)) hs v fs sc sm ts sy fuel (nI i) (-1) 0 lt lb lit = some (nI dn, (if w = 0 then -1 else nI dn), nI w, nI (cntB (litB lit') (t 0 0)), lb, (if sy = 0 then va_cpy lb lit' 0 0 10 else lit')) ∧ fX10_lightsAll_L7 F nums many (nI r) fuel2 (nI i) 0 all his los pm pf = some (nI dn, nI w, all', his', los', pm', pf') ∧ jOk t l' lit' all' all0
  | 0, i, fuel + 1, fuel2 + 1, l, lit, all, his, los, pm, pf, h, _, _, hJ => by
    have hn := ht.1
    refine ⟨m, 0, l, lit, all, his, los, pm, pf, by omega, by omega, ?_, ?_, hJ⟩
    · rw [fX2_lightRow_L30, show i = m by omega, if_pos (nI_le (Nat.le_refl _) (by omega)), p_L103 hn (by omega)]; rfl
    · rw [fX10_lightsAll_L7, show i = m by omega, vb_nI hr (by decide), og_s, nI_clamp (by omega), hmany, if_pos (nI_le (Nat.le_refl _) (by omega)), og_s]; rfl
  | k + 1, i, fuel + 2, fuel2 + 1, l, lit, all, his, los, pm, pf, h, h1, h1', hJ => by
    have hn := ht.1
    obtain ⟨j1, j2, j3, j4⟩ := hJ
    obtain ⟨w, his1, los1, pm1, pf1, w4, o1, o2, o3⟩ := p_obst (F := F) (his := his) (los := los) (pm := pm) (pf := pf) (vals i) j1 (pl_lit hP j2) h2 h3 j3 hF
    have o1' : fX2_obstacle F (nI (t 0 0)) (nI (t 3 0)) hs v fs lit sc sm ts (vals i) = some (nI w) := o1
    have ix : (40 : Int32) * nI r + nI i = nI (40 * r + i) := by
      rw [show (40 : Int32) = nI 40 from rfl, pk_mul, nI_add]
    rw [fX2_lightRow_L30, if_neg (nI_ge (by omega) (by omega)), if_pos rfl, p_at hm (by omega), ob_s, o1', ob_s, fX10_lightsAll_L7, vb_nI hr (by decide), og_s, nI_clamp (by omega), hmany, if_neg (nI_ge (by omega) (by omega)), ix, vb_nI (by omega) (by decide), og_s, nI_clamp (by omega), ← hv i (by omega), ol_s (vals i), o2, ob_s]
    by_cases hw : w = 0
    · obtain ⟨c, q, hc, q1, q2, hx⟩ := o3 hw
      have hc : c < t 0 0 := hc
      have q1 : t 8 c ≤ q := q1
      have q2 : q ≤ t 9 c := q2
      obtain ⟨g0, g1, g2, g3, g4, g5, g6⟩ := ht.2.2.2.2.2.2.1 c hc
      have a1 : lN (32 * c + q) >>> (((5 : Int32)).toInt64 &&& 63) = lN c := by
        rw [shr5N (by omega), show (32 * c + q) / 32 = c by omega]
      have a2 : lN (32 * c + q) &&& (31 : Int64) = lN q := by rw [and31 (by omega), show (32 * c + q) % 32 = q by omega]
      have hd2 : nI (32 * c + q) / (32 : Int32) = nI c := by
        refine (pk_div (a := 32 * c + q) (d := 32) (by omega) (by decide) (by decide)).trans ?_
        rw [show (32 * c + q) / 32 = c by omega]
      have hr2 : nI (32 * c + q) - nI (32 * c + q) / (32 : Int32) * (32 : Int32) = nI q := by
        refine (pk_rem (a := 32 * c + q) (d := 32) (by omega) (by decide) (by decide)).trans ?_
        rw [show (32 * c + q) % 32 = q by omega]
      have e56 : (56 : Int32) + nI c = nI (56 + c) := nI_add 56 c
      have lc : ∀ d, d < t 0 0 → (va_up l c (q + 1) d = 0 ∨ (t 8 d + 1 ≤ va_up l c (q + 1) d ∧ va_up l c (q + 1) d ≤ t 9 d + 1)) := fun d hd => by
        by_cases e : d = c
        · subst e; rw [va_up_self]; omega
        · rw [va_up_ne _ _ e]
          obtain ⟨-, -, -, -, -, g, -⟩ := j1.2.2.2.2.2.2.1 d hd
          exact g
      have hT' : Tok (tLit t (va_up l c (q + 1))) := Tok_lit ht lc
      have hJ' : jOk t (va_up l c (q + 1)) (upd lit c (nI q)) (upd all (56 + c) (nI (q + 1))) all0 := by
        refine ⟨hT', fun d hd => ?_, ?_, fun j hj => ?_⟩
        · by_cases e : d = c
          · subst e; rw [va_up_self, pk_us, nI_pred]
          · rw [va_up_ne _ _ e, pk_un e]; exact j2 d hd
        · rw [← tLit2 t l]
          refine tM_lit j3 hn ht.2.1 (fun d hd => ((ht.2.2.2.2.2.2.1 d hd).2.2.2.2.1).2) (fun d hd => ?_) (fun j hj => ?_)
          · by_cases e : d = c
            · subst e; rw [va_up_self, Nat.zero_add, pk_us]
            · rw [va_up_ne _ _ e, Nat.zero_add, pk_un (by omega)]
              have := (j3.2.1 d hd).2.2.2.2.2.1
              rw [Nat.zero_add] at this; exact this
          · rw [Nat.zero_add, pk_un (by omega)]
        · rw [pk_un (by omega)]; exact j4 j hj
      obtain ⟨dn, w', l', lit', all', his', los', pm', pf', b1, b2, b3, b4, b5⟩ := p_row (F := F) (lt := lt) (lb := lb) (sy := sy) ht hP h2 h3 hr hm hmany hv hF k (i + 1) (fuel + 1) fuel2 _ _ _ his1 los1 pm1 pf1 (by omega) (by omega) (by omega) hJ'
      refine ⟨dn, w', l', lit', all', his', los', pm', pf', b1, b2, ?_, ?_, b5⟩
      · rw [hw, if_pos nI_0, hx, a1, a2, lN_i, lN_i, vb_nI (show c < 10 by omega) (by decide), og_s, ol_s, ol_s, nI_1, nI_clamp (by omega), fX2_lightRow_L100]
        exact b3
      · rw [hw]
        show (if nI 0 = 0 then _ else _) = _
        rw [if_pos nI_0, hx, lN_i, hr2, hd2, e56, vb_nI (by omega) (by decide), og_s, ol_s, ol_s, nI_1, nI_1, nI_clamp (by omega)]
        exact b4
    · refine ⟨i, w, l, lit, all, his1, los1, pm1, pf1, w4, by omega, ?_, ?_, j1, j2, j3, j4⟩
      · rw [if_neg (nI_ne0 (by omega) (by omega)), fX2_lightRow_L100, fX2_lightRow_L30, if_neg (nI_ge (by omega) (by omega)), if_neg (nI_ne0 (by omega) (by omega)), p_L103 hn (by omega), if_neg hw]
      · show (if nI w = 0 then _ else _) = _
        rw [if_neg (nI_ne0 (by omega) (by omega))]
  | k, i, 0, fuel2, l, lit, all, his, los, pm, pf, _, h1, _, _ => absurd h1 (Nat.not_lt_zero _)
  | k, i, fuel + 1, 0, l, lit, all, his, los, pm, pf, _, _, h1, _ => absurd h1 (Nat.not_lt_zero _)
  | k + 1, i, 1, fuel2, l, lit, all, his, los, pm, pf, _, h1, _, _ => by omega
theorem jOk_0 {t : Nat → Nat → Nat} {lit all : Nat → Int32} (ht : Tok t) (hl : ∀ c, c < t 0 0 → lit c = nI (t 11 c) - 1) (hM : tM t all 0) : jOk t (t 11) lit all all := by
  refine ⟨by rw [tLit_same]; exact ht, hl, by rw [tLit_same]; exact hM, fun _ _ => rfl⟩
theorem s_perform {F r : Nat} {t : Nat → Nat → Nat} {hs v lit sc sm fs ts lb all his los pm pf many srt : Nat → Int32} {vals nums : Nat → Int64} {thr pl wy lt why sort size : Int32} (ht : Tok t) (hP : plOk t hs v lit sc sm) (h2 : ∀ c, c < t 0 0 → fs c = nI (t 8 c)) (h3 : ∀ c, c < t 0 0 → ts c = nI (t 9 c)) (hM : tM t all 0) (hr : r < 4) (hR : rRel r sort size vals nums many srt) (hF : 60 < F) :
    ∃ x pl' wy' lt' lb' lit' why' all' his' los' pm' pf' l, fX9_perform_at0 F pl wy lt (nI (t 0 0)) (nI (t 3 0)) size lb fs lit sc sm ts hs v vals (nI r) = some (x, pl', wy', lt', lb', lit') ∧ fX10_perform F thr why all his los nums pm pf many srt (nI r) = some (x, 0, why', all', his', los', pm', pf') ∧ jOk t l lit' all' all := by
  have hv4 : vb (nI r) 4 = true := vb_nI hr (by decide)
  unfold fX9_perform_at0 fX10_perform
  rw [p_w03, ob_s, hv4, bI_1 rfl, if_neg one0, og_s, nI_clamp (by omega)]
  have hj := jOk_0 ht (fun c hc => (hP c hc).2.1) hM
  rcases hR with ⟨r1, r2⟩ | ⟨m, s, hm, hs', r1, r2, r3, r4, r5⟩
  · refine ⟨-6, pl, wy, lt, lb, lit, why, all, his, los, pm, pf, t 11, ?_, by rw [if_pos r2], hj⟩
    unfold fX3_isMissing
    rw [if_pos r1, ob_s, if_neg one0]
  · have hmiss : fX3_isMissing F size = some 0 := by
      unfold fX3_isMissing
      rw [r1, if_neg (nI_nm1 (by omega))]
    obtain ⟨dn, w, l', lit', all', his', los', pm', pf', b1, b2, b3, b4, b5⟩ := p_row (F := F) (lt := lt) (lb := va_cpy lit lb 0 0 10) (sy := 1) (hs := hs) (v := v) (sc := sc) (sm := sm) ht hP h2 h3 hr hm r4 r5 hF m 0 F F (t 11) lit all his los pm pf (by omega) (by omega) (by omega) hj
    refine ⟨nI dn, (if w = 0 then -1 else nI dn), nI w, nI (cntB (litB lit') (t 0 0)), va_cpy lit lb 0 0 10, lit', nI w, all', his', los', pm', pf', l', ?_, ?_, b5⟩
    · rw [hmiss, ob_s, if_pos rfl, r1]
      unfold fX2_lightRow
      rw [if_neg one0] at b3
      have b3' : fX2_lightRow_L30 F (nI m) vals (nI (t 0 0)) (nI (t 3 0)) hs v fs sc sm ts 1 F 0 (-1) 0 lt (va_cpy lit lb (0 : Int32).toNatClampNeg (0 : Int32).toNatClampNeg (10 : Int32).toNatClampNeg) lit = _ := b3
      rw [ol_s, b3', ob_s]
    · rw [r3, if_neg (nI_nm1 (by omega))]
      unfold fX10_lightsAll
      have b4' : fX10_lightsAll_L7 F nums many (nI r) F 0 0 all his los pm pf = _ := b4
      rw [b4', ob_s]
theorem s_perform_n {F : Nat} {nums : Nat → Int64} {thr why : Int32} {all his los pm pf many srt : Nat → Int32} (a1 : Int32) (h : vb a1 4 = false) : fX9_perform_atn F a1 = some (-2) ∧ fX10_perform F thr why all his los nums pm pf many srt a1 = some (-2, 0, why, all, his, los, pm, pf) := by
  refine ⟨rfl, ?_⟩
  unfold fX10_perform
  rw [p_w03, ob_s, h, bI_0 rfl, if_pos rfl]
theorem p_keep {F : Nat} {nums : Nat → Int64} {a1 a2 thr why : Int32} {all his los pm pf many srt : Nat → Int32} : ∀ (k i fuel : Nat) (kp : Nat → Int32), i + k = 162 → k < fuel → (∀ j, j < i → kp j = all j) → ∃ kp', fX10_judge_L47 F nums many srt a1 a2 fuel (nI i) thr why all his kp los pm pf = (ob (fX10_lightsAll F why all his los nums pm pf many a1) (fun o_10 => ob (fX10_litMany F o_10.2.2.1) (fun o_11 => fX10_judge_L87 F nums many srt a1 a2 F o_10.1 o_11 (0 : Int32) thr o_10.2.1 o_10.2.2.1 o_10.2.2.2.1 kp' o_10.2.2.2.2.1 o_10.2.2.2.2.2.1 o_10.2.2.2.2.2.2))) ∧ ∀ j, j < 162 → kp' j = all j
  | 0, i, fuel + 1, kp, h, _, hk => ⟨kp, by rw [fX10_judge_L47, show i = 162 by omega, if_pos (show (162 : Int32) ≤ nI 162 from nI_le (Nat.le_refl 162) (by decide))], fun j hj => hk j (by omega)⟩
  | k + 1, i, fuel + 1, kp, h, hf, hk => by
    rw [fX10_judge_L47, if_neg (show ¬ (162 : Int32) ≤ nI i from nI_ge (a := i) (b := 162) (by omega) (by decide)), vb_nI (by omega) (by decide), og_s, vb_nI (by omega) (by decide), og_s, ol_s, ol_s, nI_1, nI_clamp (by omega)]
    exact p_keep k (i + 1) fuel _ (by omega) (by omega) (fun j hj => by
      by_cases e : j = i
      · subst e; rw [pk_us]
      · rw [pk_un e]; exact hk j (by omega))
  | k, i, 0, kp, _, hf, _ => absurd hf (Nat.not_lt_zero k)
theorem p_back {F : Nat} {nums : Nat → Int64} {a1 a2 thr x3 x4 why : Int32} {his los kp pm pf many srt all0 : Nat → Int32} (hk : ∀ j, j < 162 → kp j = all0 j) : ∀ (k i fuel : Nat) (all : Nat → Int32), i + k = 162 → k < fuel → (∀ j, j < i → all j = all0 j) → (∀ j, 162 ≤ j → all j = all0 j) → ∃ all', fX10_judge_L87 F nums many srt a1 a2 fuel x3 x4 (nI i) thr why all his kp los pm pf = (if a2 = 0 then (if why = 0 then (some ((-1 : Int32), thr, why, all', his, kp, los, pm, pf)) else (some (x3, thr, why, all', his, kp, los, pm, pf))) else (if a2 = (1 : Int32) then (some (why, thr, why, all', his, kp, los, pm, pf)) else (some (x4, thr, why, all', his, kp, los, pm, pf)))) ∧ ∀ j, all' j = all0 j
  | 0, i, fuel + 1, all, h, _, h1, h2 => ⟨all, by rw [fX10_judge_L87, show i = 162 by omega, if_pos (show (162 : Int32) ≤ nI 162 from nI_le (Nat.le_refl 162) (by decide))], fun j => by
      rcases Nat.lt_or_ge j 162 with q | q
      · exact h1 j (by omega)
      · exact h2 j q⟩
  | k + 1, i, fuel + 1, all, h, hf, h1, h2 => by
    rw [fX10_judge_L87, if_neg (show ¬ (162 : Int32) ≤ nI i from nI_ge (a := i) (b := 162) (by omega) (by decide)), vb_nI (by omega) (by decide), og_s, vb_nI (by omega) (by decide), og_s, ol_s, ol_s, nI_1, nI_clamp (by omega)]
    exact p_back hk k (i + 1) fuel _ (by omega) (by omega) (fun j hj => by
      by_cases e : j = i
      · subst e; rw [pk_us]; exact hk j (by omega)
      · rw [pk_un e]; exact h1 j (by omega)) (fun j hj => by rw [pk_un (by omega)]; exact h2 j hj)
  | k, i, 0, all, _, hf, _, _ => absurd hf (Nat.not_lt_zero k)
theorem s_judge {F r : Nat} {t : Nat → Nat → Nat} {hs v lit sc sm fs ts lb all his los kp pm pf many srt : Nat → Int32} {vals nums : Nat → Int64} {thr pl wy lt why sort size : Int32} (a2 : Int32) (ht : Tok t) (hP : plOk t hs v lit sc sm) (h2 : ∀ c, c < t 0 0 → fs c = nI (t 8 c)) (h3 : ∀ c, c < t 0 0 → ts c = nI (t 9 c)) (hM : tM t all 0) (hr : r < 4) (hR : rRel r sort size vals nums many srt) (hF : 200 < F) :
    ∃ x pl' wy' lt' lb' lit' why' all' his' kp' los' pm' pf', fX9_judge_at0 F pl wy lt (nI (t 0 0)) (nI (t 3 0)) size lb fs lit sc sm ts hs v vals (nI r) a2 = some (x, pl', wy', lt', lb', lit') ∧ fX10_judge F thr why all his kp los nums pm pf many srt (nI r) a2 = some (x, 0, why', all', his', kp', los', pm', pf') ∧ (∀ c, c < 10 → lit' c = lit c) ∧ ∀ j, all' j = all j := by
  have hv4 : vb (nI r) 4 = true := vb_nI hr (by decide)
  have hn := ht.1
  have hw2 : fX10_within F a2.toInt64 0 2 = some (bI (vb a2 3)) := by
    rw [p_within32]
    congr 2
    rw [Bool.eq_iff_iff, vb_iff]
    have e0 : (0 : Int64).toInt = 0 := rfl
    have e3 : (2 : Int64).toInt = 2 := rfl
    simp [e0, e3]
    omega
  unfold fX9_judge_at0 fX10_judge
  rw [p_w03, ob_s, hv4, bI_1 rfl, if_neg one0, hw2, ob_s, og_s, nI_clamp (by omega)]
  rcases vb_cases (a := a2) (n := 3) (by decide) with ⟨hb, q, hq, rfl⟩ | ⟨hb, hor⟩
  · rw [hb, bI_1 rfl, if_neg one0, if_neg (nI_pos (by omega)), if_pos (show nI q ≤ 2 from nI_le (a := q) (b := 2) (by omega) (by decide))]
    rcases hR with ⟨r1, r2⟩ | ⟨m, s, hm, hs', r1, r2, r3, r4, r5⟩
    · refine ⟨-6, pl, wy, lt, lb, lit, why, all, his, kp, los, pm, pf, ?_, by rw [if_pos r2], fun _ _ => rfl, fun _ => rfl⟩
      unfold fX3_isMissing
      rw [if_pos r1, ob_s, if_neg one0]
    · have hmiss : fX3_isMissing F size = some 0 := by
        unfold fX3_isMissing
        rw [r1, if_neg (nI_nm1 (by omega))]
      have hj := jOk_0 ht (fun c hc => (hP c hc).2.1) hM
      obtain ⟨dn, w, l', lit', all1, his', los', pm', pf', b1, b2, b3, b4, b5⟩ := p_row (F := F) (lt := lt) (lb := va_cpy lit lb 0 0 10) (sy := 0) (hs := hs) (v := v) (sc := sc) (sm := sm) ht hP h2 h3 hr hm r4 r5 (by omega) m 0 F F (t 11) lit all his los pm pf (by omega) (by omega) (by omega) hj
      obtain ⟨kp', k1, k2⟩ := p_keep (F := F) (nums := nums) (a1 := nI r) (a2 := nI q) (thr := 0) (why := why) (all := all) (his := his) (los := los) (pm := pm) (pf := pf) (many := many) (srt := srt) 162 0 F kp (by omega) (by omega) (fun j hj => by omega)
      have hlm : cntB (mlitB all1) (t 0 0) = cntB (litB lit') (t 0 0) := lit_same (t := tLit t l') b5.1 b5.2.2.1 b5.2.1
      have h01 : all1 0 = nI (t 0 0) := b5.2.2.1.1 0 (by decide)
      obtain ⟨all', l1, l2⟩ := p_back (F := F) (nums := nums) (a1 := nI r) (a2 := nI q) (thr := 0) (x3 := nI dn) (x4 := nI (cntB (litB lit') (t 0 0))) (why := nI w) (his := his') (los := los') (pm := pm') (pf := pf') (many := many) (srt := srt) k2 162 0 F all1 (by omega) (by omega) (fun j hj => by omega) (fun j hj => b5.2.2.2 j (by omega))
      rw [if_pos (show (0 : Int32) = 0 from rfl)] at b3
      have b3' : fX2_lightRow_L30 F (nI m) vals (nI (t 0 0)) (nI (t 3 0)) hs v fs sc sm ts 0 F 0 (-1) 0 lt (va_cpy lit lb (0 : Int32).toNatClampNeg (0 : Int32).toNatClampNeg (10 : Int32).toNatClampNeg) lit = _ := b3
      have b4' : fX10_lightsAll_L7 F nums many (nI r) F 0 0 all his los pm pf = _ := b4
      have k1' : fX10_judge_L47 F nums many srt (nI r) (nI q) F 0 0 why all his kp los pm pf = _ := k1
      have try' : fX2_lightRow F pl wy lt (nI m) vals lb (nI (t 0 0)) (nI (t 3 0)) hs v fs lit sc sm ts 0 = some (nI dn, (if w = 0 then -1 else nI dn), nI w, nI (cntB (litB lit') (t 0 0)), va_cpy lit lb 0 0 10, va_cpy (va_cpy lit lb 0 0 10) lit' 0 0 10) := by
        unfold fX2_lightRow
        rw [ol_s, b3']
      have ref' : fX10_judge_L47 F nums many srt (nI r) (nI q) F 0 0 why all his kp los pm pf = (if nI q = 0 then (if nI w = 0 then (some ((-1 : Int32), 0, nI w, all', his', kp', los', pm', pf')) else (some (nI dn, 0, nI w, all', his', kp', los', pm', pf'))) else (if nI q = (1 : Int32) then (some (nI w, 0, nI w, all', his', kp', los', pm', pf')) else (some (nI (cntB (litB lit') (t 0 0)), 0, nI w, all', his', kp', los', pm', pf')))) := by
        rw [k1']
        unfold fX10_lightsAll
        rw [b4', ob_s]
        show ob (fX10_litMany F all1) _ = _
        rw [p_litMany h01 hn (by omega), ob_s, hlm]
        exact l1
      have hl10 : ∀ c, c < 10 → va_cpy (va_cpy lit lb 0 0 10) lit' 0 0 10 c = lit c := fun c hc => by
        rw [pk_cpy_in (by omega) (by omega), pk_cpy_in (by omega) (by omega)]
        congr 1
        omega
      have hwz : (if nI w = 0 then (-1 : Int32) else nI dn) = (if w = 0 then -1 else nI dn) := by
        by_cases e : w = 0
        · rw [if_pos e, e, if_pos nI_0]
        · rw [if_neg e, if_neg (nI_ne0 (by omega) (by omega))]
      rw [hmiss, ob_s, if_pos rfl, r1, try', ob_s, r3, if_neg (nI_nm1 (by omega)), ref']
      by_cases q0 : nI q = 0
      · refine ⟨(if w = 0 then -1 else nI dn), _, _, _, _, _, nI w, all', his', kp', los', pm', pf', by rw [if_pos q0], ?_, hl10, l2⟩
        rw [if_pos q0, ← hwz]
        split <;> rfl
      · rw [if_neg q0, if_neg q0]
        by_cases q1 : nI q = 1
        · exact ⟨nI w, _, _, _, _, _, nI w, all', his', kp', los', pm', pf', by rw [if_pos q1], by rw [if_pos q1], hl10, l2⟩
        · exact ⟨nI (cntB (litB lit') (t 0 0)), _, _, _, _, _, nI w, all', his', kp', los', pm', pf', by rw [if_neg q1], by rw [if_neg q1], hl10, l2⟩
  · refine ⟨-2, pl, wy, lt, lb, lit, why, all, his, kp, los, pm, pf, ?_, by rw [hb, bI_0 rfl, if_pos rfl], fun _ _ => rfl, fun _ => rfl⟩
    by_cases h0 : a2 < 0
    · rw [if_pos h0]
    · rw [if_neg h0, if_neg (show ¬ a2 ≤ 2 from fun z => Int32.lt_irrefl (Int32.lt_of_le_of_lt z (Int32.lt_of_lt_of_le (show (2 : Int32) < nI 3 by decide) (hor.resolve_left h0))))]
theorem s_judge_n {F : Nat} {nums : Nat → Int64} {thr why : Int32} {all his los kp pm pf many srt : Nat → Int32} (a1 a2 : Int32) (h : vb a1 4 = false) : fX9_judge_atn F a1 a2 = some (-2) ∧ fX10_judge F thr why all his kp los nums pm pf many srt a1 a2 = some (-2, 0, why, all, his, kp, los, pm, pf) := by
  refine ⟨rfl, ?_⟩
  unfold fX10_judge
  rw [p_w03, ob_s, h, bI_0 rfl, if_pos rfl]
theorem perform_1 : @fX9_perform_at1 = @fX9_perform_at0 := rfl
theorem perform_2 : @fX9_perform_at2 = @fX9_perform_at0 := rfl
theorem perform_3 : @fX9_perform_at3 = @fX9_perform_at0 := rfl
theorem judge_1 : @fX9_judge_at1 = @fX9_judge_at0 := rfl
theorem judge_2 : @fX9_judge_at2 = @fX9_judge_at0 := rfl
theorem judge_3 : @fX9_judge_at3 = @fX9_judge_at0 := rfl
