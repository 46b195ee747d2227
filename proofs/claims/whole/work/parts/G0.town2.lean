theorem tM_cp {t : Nat → Nat → Nat} {fr all : Nat → Int32} {off off' : Nat} (ht : Tok t) (h : tM t fr off) (he : ∀ j, j < 162 → all (off' + j) = fr (off + j)) : tM t all off' := by
  obtain ⟨h1, h2, h3⟩ := h
  have hn := ht.1
  have hw := ht.2.1
  refine ⟨fun k hk => ?_, fun c hc => ?_, fun w hw' => ?_⟩
  · rw [he k (by omega)]; exact h1 k hk
  · have hm6 := (ht.2.2.2.2.2.2.1 c hc).2.2.2.2.1.2
    rw [he _ (by omega), he _ (by omega), he _ (by omega), he _ (by omega), he _ (by omega), he _ (by omega)]
    obtain ⟨g0, g1, g2, g3, g4, g5, g6⟩ := h2 c hc
    exact ⟨g0, g1, g2, g3, g4, g5, fun k hk => by rw [he _ (by omega)]; exact g6 k hk⟩
  · rw [he _ (by omega), he _ (by omega), he _ (by omega)]; exact h3 w hw'
theorem p_248 {F : Nat} {m fr : Nat → Int32} {a1 thr tpd at' bh sz ki nu w wa fk fp : Int32} : ∀ (k i fuel : Nat) (all : Nat → Int32), i + k = 162 → k < fuel → ∃ all', fX10_town_L248 F m a1 fuel (nI i) thr tpd at' bh sz ki nu w wa fk fp all fr = some (all' 5, thr, tpd, at', bh, sz, ki, nu, w, wa, fk, fp, all', fr) ∧ (∀ j, i ≤ j → j < 162 → all' j = fr j) ∧ ∀ j, (j < i ∨ 162 ≤ j) → all' j = all j
  | 0, i, fuel + 1, all, h, _ => by
    refine ⟨all, ?_, fun j a b => by omega, fun _ _ => rfl⟩
    rw [fX10_town_L248, if_pos (show (162 : Int32) ≤ nI i from nI_le (a := 162) (b := i) (by omega) (by omega))]
    rfl
  | k + 1, i, fuel + 1, all, h, hf => by
    obtain ⟨all', e1, e2, e3⟩ := p_248 (F := F) (m := m) (fr := fr) (a1 := a1) (thr := thr) (tpd := tpd) (at' := at') (bh := bh) (sz := sz) (ki := ki) (nu := nu) (w := w) (wa := wa) (fk := fk) (fp := fp) k (i + 1) fuel (upd all i (fr i)) (by omega) (by omega)
    refine ⟨all', ?_, fun j a b => ?_, fun j hj => ?_⟩
    · rw [fX10_town_L248, if_neg (show ¬ (162 : Int32) ≤ nI i from nI_ge (a := i) (b := 162) (by omega) (by decide)), vb_nI (show i < 162 by omega) (by decide), og_s, vb_nI (show i < 486 by omega) (by decide), og_s, ol_s, ol_s, nI_1, nI_clamp (by omega)]
      exact e1
    · by_cases e : j = i
      · subst e; rw [e3 j (by omega), pk_us]
      · exact e2 j (by omega) b
    · rw [e3 j (by omega), pk_un (by omega)]
  | k, i, 0, all, _, hf => absurd hf (Nat.not_lt_zero k)
/-- promise 3 -/
theorem s_town {F p : Nat} {t : Nat → Nat → Nat} {hch hwc hla hth hfi hli rf rp rl rn rs rso rv dch dwc dla dth dfi dli thr at' bh sz ki nu w wa : Int32} {tape m all fr hfs hhs hlit hsc hsm hts hwh hwl hwq hxs ph pw twh twl dfs dhs dlit dsc dsm dts dwh dwl dwq dxs : Nat → Int32} (a1 : Int32) (ht : Tok t) (hC : tC t hch hwc hla hth hfi hli hxs hhs hfs hts hsc hsm hlit hwq hwl hwh) (hP : plOk t ph pw hlit hsc hsm) (hlo : ∀ q, q < 48 → twl q = nI (windS t q 0)) (hhi : ∀ q, q < 48 → twh q = nI (windS t q 1)) (hM : tM t all 0) (hT : tpR p tape m) (hF : 1000 < F) :
    ∃ (r : Int32) (p' : Nat) (t' : Nat → Nat → Nat) (hch' hwc' hla' hth' hfi' hli' rf' rp' rl' rn' rs' rso' rv' dch' dwc' dla' dth' dfi' dli' at'' bh' sz' ki' nu' w' wa' : Int32) (all' fr' hfs' hhs' hlit' hsc' hsm' hts' hwh' hwl' hwq' hxs' ph' pw' twh' twl' dfs' dhs' dlit' dsc' dsm' dts' dwh' dwl' dwq' dxs' : Nat → Int32) (bb : Bool),
      fX9_town F (nI p) hch hwc hla hth hfi hli rf rp rl rn rs rso rv tape hfs hhs hlit hsc hsm hts hwh hwl hwq hxs ph pw dch dwc dla dth dfi dli twh twl dfs dhs dlit dsc dsm dts dwh dwl dwq dxs a1 = some (r, nI p', hch', hwc', hla', hth', hfi', hli', rf', rp', rl', rn', rs', rso', rv', hfs', hhs', hlit', hsc', hsm', hts', hwh', hwl', hwq', hxs', ph', pw', dch', dwc', dla', dth', dfi', dli', twh', twl', dfs', dhs', dlit', dsc', dsm', dts', dwh', dwl', dwq', dxs', bb) ∧
      fX10_town F thr (nI p) at' bh sz ki nu w wa rf rp all fr m a1 = some (r, 0, nI p', at'', bh', sz', ki', nu', w', wa', rf', rp', all', fr') ∧ tpR p' tape m ∧ Tok t' ∧ tC t' hch' hwc' hla' hth' hfi' hli' hxs' hhs' hfs' hts' hsc' hsm' hlit' hwq' hwl' hwh' ∧ plOk t' ph' pw' hlit' hsc' hsm' ∧ (∀ q, q < 48 → twl' q = nI (windS t' q 0)) ∧ (∀ q, q < 48 → twh' q = nI (windS t' q 1)) ∧ tM t' all' 0 ∧ ∀ j, 162 ≤ j → all' j = all j := by
  obtain ⟨hp, hb⟩ := id hT
  have hwi : fX10_within F a1.toInt64 0 (nI p).toInt64 = some (bI (decide (¬ a1 < 0 ∧ a1 ≤ nI p))) := by
    rw [p_within32]
    congr 2
    have e0 : (0 : Int64).toInt = 0 := rfl
    have e2 : (0 : Int32).toInt = 0 := rfl
    rw [Bool.eq_iff_iff]
    simp [Int32.lt_iff_toInt_lt, Int32.le_iff_toInt_le, e0, e2]
  by_cases hok : ¬ a1 < 0 ∧ a1 ≤ nI p
  · obtain ⟨n, hn2, rfl⟩ := nI_of hok.1
    have hn : n ≤ p := (nI_leI hn2 (by omega)).mp hok.2
    have hbb : ∀ j, j < n → tape j &&& 255 = m j := fun j hj => hb j (by omega)
    have hby : bytB n m := fun j hj => by
      obtain ⟨y, y1, y2⟩ := pk_andE (tape j) (m := 255) 8 rfl
      exact ⟨y, by omega, by rw [← hbb j hj, y2]⟩
    have hTok : ∀ q, q ≤ n → ∃ a b kd v, tokP F n tape m q a b kd v := fun q hq => p_tok (by omega) hbb hby hF q hq
    obtain ⟨a, b, kd, v, hT0⟩ := hTok 0 (Nat.zero_le _)
    obtain ⟨x, x1, x2⟩ := hT0.2.1 rs rso rv
    obtain ⟨y, y1, y2⟩ := hT0.2.2.1 at' ki nu
    have x1' : fX5_takeToken F (nI n) 0 rs rso rv tape = some (nI b, nI a, nI (srt kd), x) := x1
    have y1' : fX10_next F at' 0 (nI n) ki nu m = some (nI a, nI b, nI kd, y) := y1
    have hRC : RC F n tape m 0 0 (-1) (nI b) (nI a) (nI (srt kd)) x (nI a) (nI b) (nI kd) y 0 wa := ⟨0, a, b, kd, v, hT0, ⟨rfl, rfl, rfl, x2⟩, Or.inl ⟨rfl, rfl, rfl, Nat.zero_le _, rfl, rfl, rfl, y2⟩⟩
    have hd0 : drI t00 (plT fr) 0 0 6 2 5 0 dfs dhs dlit dsc dsm dts dwh dwl dwq dxs := ⟨t00_ok, t00_C, plT_M, fun c hc => plT_lt (by omega) (by omega) (by omega) (by omega)⟩
    obtain ⟨f', pl', nx', st', so', va', at2, bh2, ki2, nu2, w2, wa2, ch', wc', la', th', fi', li', fs', hs', lit', sc', sm', ts', wh', wl', wq', xs', fr', c1, r1, res⟩ := p_text2 (all := all) (thr := 0) (tpd := 0) (fk := rf) (fp := rp) (a1 := nI n) (a2 := nI n) (show n ≤ 900 by omega) hTok (by omega) (n + 1) 0 0 F F t00 0 (-1) (nI b) (nI a) (nI (srt kd)) x (nI a) (nI b) (nI kd) y 0 wa 0 0 6 2 5 0 dfs dhs dlit dsc dsm dts dwh dwl dwq dxs (plT fr) (by omega) (by omega) (by omega) (Nat.le_refl _) hRC (fun _ => ⟨hd0, by decide⟩)
    have c1' : fX5_readText_L43 F tape (nI n) F 0 0 (-1) (nI n) (nI b) (nI a) (nI (srt kd)) x 0 0 6 2 5 0 dfs dhs dlit dsc dsm dts dwh dwl dwq dxs = _ := c1
    have hrt : fX5_readText F rf rp rl rn rs rso rv tape dch dwc dla dth dfi dli dfs dhs dlit dsc dsm dts dwh dwl dwq dxs (nI n) = some (f', pl', nI n, nx', st', so', va', ch', wc', la', th', fi', li', fs', hs', lit', sc', sm', ts', wh', wl', wq', xs') := by
      unfold fX5_readText fX7_begin
      rw [if_neg (show ¬ (900 : Int32) < nI n from nI_nlt (a := 900) (b := n) (by omega) (by decide)), ol_s, ob_s, x1', ob_s]
      exact c1'
    unfold fX9_town fX10_town
    rw [if_neg hok.1, if_pos hok.2, hrt, ob_s, hwi, ob_s, decide_eq_true hok, bI_1 rfl, if_neg one0, p_plain (Nat.le_refl _) (by decide) (by omega), ob_s, y1', ob_s]
    dsimp only
    rw [r1]
    rcases res with ⟨rfl, rfl, rfl, t', hD⟩ | ⟨hf, rfl, rfl⟩
    · obtain ⟨d1, d2, d3, -⟩ := hD
      obtain ⟨fs2, hs2, lit2, sc2, sm2, ts2, wh2, wl2, wq2, xs2, ph2, pw2, twh2, twl2, q1, q2, q3, q4, q5⟩ := p_settle (F := F) (hch := hch) (hwc := hwc) (hla := hla) (hth := hth) (hfi := hfi) (hli := hli) (hfs := hfs) (hhs := hhs) (hlit := hlit) (hsc := hsc) (hsm := hsm) (hts := hts) (hwh := hwh) (hwl := hwl) (hwq := hwq) (hxs := hxs) (ph := ph) (pw := pw) (twh := twh) (twl := twl) d1 d2 (by omega)
      obtain ⟨all', z1, z2, z3⟩ := p_248 (F := F) (m := m) (fr := fr') (a1 := nI n) (thr := 0) (tpd := 0) (at' := at2) (bh := bh2) (sz := nI n) (ki := ki2) (nu := nu2) (w := 0) (wa := wa2) (fk := 0) (fp := -1) 162 0 F all (by omega) (by omega)
      have z1' : fX10_town_L248 F m (nI n) F 0 0 0 at2 bh2 (nI n) ki2 nu2 0 wa2 0 (-1) all fr' = _ := z1
      have e5 : all' 5 = li' := by
        rw [z2 5 (by decide) (by decide), d2.2.2.2.2.2.1]
        have := d3.1 5 (by decide)
        rw [Nat.zero_add] at this; exact this
      refine ⟨li', 0, t', ch', wc', la', th', fi', li', 0, -1, nI n, nx', st', so', va', ch', wc', la', th', fi', li', at2, bh2, nI n, ki2, nu2, 0, wa2, all', fr', fs2, hs2, lit2, sc2, sm2, ts2, wh2, wl2, wq2, xs2, ph2, pw2, twh2, twl2, fs', hs', lit', sc', sm', ts', wh', wl', wq', xs', true, ?_, ?_, ⟨by omega, fun j hj => by omega⟩, d1, q2, q3, q4, q5, tM_cp d1 d3 (fun j hj => by rw [Nat.zero_add]; exact z2 j (Nat.zero_le _) hj), fun j hj => z3 j (by omega)⟩
      · rw [if_pos rfl, q1, ob_s]
        rfl
      · unfold fX10_town_L204 fX10_town_L228
        rw [if_pos rfl, if_pos rfl, z1', e5]
        rfl
    · refine ⟨(-30 : Int32) - w2, 0, t, hch, hwc, hla, hth, hfi, hli, w2, wa2, nI n, nx', st', so', va', ch', wc', la', th', fi', li', at2, bh2, nI n, ki2, nu2, w2, wa2, all, fr', hfs, hhs, hlit, hsc, hsm, hts, hwh, hwl, hwq, hxs, ph, pw, twh, twl, fs', hs', lit', sc', sm', ts', wh', wl', wq', xs', true, ?_, ?_, ⟨by omega, fun j hj => by omega⟩, ht, hC, hP, hlo, hhi, hM, fun _ _ => rfl⟩
      · rw [if_neg hf]
        rfl
      · unfold fX10_town_L204 fX10_town_L228
        rw [if_neg hf, if_neg hf]
        rfl
  · refine ⟨-3, p, t, hch, hwc, hla, hth, hfi, hli, rf, rp, rl, rn, rs, rso, rv, dch, dwc, dla, dth, dfi, dli, at', bh, sz, ki, nu, w, wa, all, fr, hfs, hhs, hlit, hsc, hsm, hts, hwh, hwl, hwq, hxs, ph, pw, twh, twl, dfs, dhs, dlit, dsc, dsm, dts, dwh, dwl, dwq, dxs, false, ?_, ?_, hT, ht, hC, hP, hlo, hhi, hM, fun _ _ => rfl⟩
    · unfold fX9_town
      by_cases h1 : a1 < 0
      · rw [if_pos h1]
      · rw [if_neg h1, if_neg (fun z => hok ⟨h1, z⟩)]
    · unfold fX10_town
      rw [hwi, ob_s, decide_eq_false hok, bI_0 rfl, if_pos rfl]
/-! promises 42 and 43, the reference's side -/
theorem w01a {F i : Nat} (hi : i < 2) : fX10_within F (nI i).toInt64 0 1 = some 1 := by
  have h : fX10_within F (nI i).toInt64 (nI 0).toInt64 (nI 1).toInt64 = some (bI (decide (0 ≤ i ∧ i ≤ 1))) := w_in (by omega) (by decide) (by decide)
  rw [decide_eq_true (by omega)] at h
  exact h
theorem w01n {F : Nat} {a : Int32} (h : vb a 2 = false) : fX10_within F a.toInt64 0 1 = some 0 := by
  rw [p_within32]
  have e0 : (0 : Int64).toInt = 0 := rfl
  have e1 : (1 : Int64).toInt = 1 := rfl
  have : ¬ (0 ≤ a.toInt ∧ a.toInt < (2 : Nat)) := fun z => by rw [vb_iff.mpr z] at h; cases h
  rw [e0, e1]
  congr 1
  apply bI_0
  simp
  omega
theorem p_im20 {F i : Nat} {thr : Int32} {hi : Nat → Int32} (h2 : i < 2) : ∀ (k j fuel : Nat) (all : Nat → Int32), j + k = 162 → k < fuel → ∃ all', fX10_image_L20 F (nI i) fuel (nI j) thr all hi = some (0, thr, all', upd hi i (vp_nar .boolean (1 : Int32))) ∧ (∀ x, j ≤ x → x < 162 → all' (162 * (i + 1) + x) = all x) ∧ ∀ x, (x < 162 * (i + 1) + j ∨ 162 * (i + 1) + 162 ≤ x) → all' x = all x
  | 0, j, fuel + 1, all, h, _ => by
    refine ⟨all, ?_, fun x a b => by omega, fun _ _ => rfl⟩
    rw [fX10_image_L20, if_pos (show (162 : Int32) ≤ nI j from nI_le (a := 162) (b := j) (by omega) (by omega)), vb_nI h2 (by decide), og_s, ol_s, nI_clamp (by omega)]
  | k + 1, j, fuel + 1, all, h, hf => by
    have ei : (162 : Int32) * (nI i + (1 : Int32)) + nI j = nI (162 * (i + 1) + j) := by
      rw [show nI i + (1 : Int32) = nI (i + 1) from nI_1 i, show (162 : Int32) = nI 162 from rfl, pk_mul, nI_add]
    obtain ⟨all', e1, e2, e3⟩ := p_im20 (F := F) (thr := thr) (hi := hi) h2 k (j + 1) fuel (upd all (162 * (i + 1) + j) (all j)) (by omega) (by omega)
    refine ⟨all', ?_, fun x a b => ?_, fun x hx => ?_⟩
    · rw [fX10_image_L20, if_neg (show ¬ (162 : Int32) ≤ nI j from nI_ge (a := j) (b := 162) (by omega) (by decide)), ei, vb_nI (show j < 486 by omega) (by decide), og_s, vb_nI (show 162 * (i + 1) + j < 486 by omega) (by decide), og_s, ol_s, ol_s, nI_1, nI_clamp (by omega), nI_clamp (by omega)]
      exact e1
    · by_cases e : x = j
      · subst e; rw [e3 _ (by omega), pk_us]
      · rw [e2 x (by omega) b, pk_un (by omega)]
    · rw [e3 x (by omega), pk_un (by omega)]
  | k, j, 0, all, _, hf => absurd hf (Nat.not_lt_zero k)
theorem p_re32 {F i : Nat} {thr : Int32} {hi : Nat → Int32} (h2 : i < 2) : ∀ (k j fuel : Nat) (all : Nat → Int32), j + k = 162 → k < fuel → ∃ all', fX10_restore_L32 F hi (nI i) fuel (nI j) thr all = some (0, thr, all') ∧ (∀ x, j ≤ x → x < 162 → all' x = all (162 * (i + 1) + x)) ∧ ∀ x, (x < j ∨ 162 ≤ x) → all' x = all x
  | 0, j, fuel + 1, all, h, _ => by
    refine ⟨all, ?_, fun x a b => by omega, fun _ _ => rfl⟩
    rw [fX10_restore_L32, if_pos (show (162 : Int32) ≤ nI j from nI_le (a := 162) (b := j) (by omega) (by omega))]
  | k + 1, j, fuel + 1, all, h, hf => by
    have ei : (162 : Int32) * (nI i + (1 : Int32)) + nI j = nI (162 * (i + 1) + j) := by
      rw [show nI i + (1 : Int32) = nI (i + 1) from nI_1 i, show (162 : Int32) = nI 162 from rfl, pk_mul, nI_add]
    obtain ⟨all', e1, e2, e3⟩ := p_re32 (F := F) (thr := thr) (hi := hi) h2 k (j + 1) fuel (upd all j (all (162 * (i + 1) + j))) (by omega) (by omega)
    refine ⟨all', ?_, fun x a b => ?_, fun x hx => ?_⟩
    · rw [fX10_restore_L32, if_neg (show ¬ (162 : Int32) ≤ nI j from nI_ge (a := j) (b := 162) (by omega) (by decide)), ei, vb_nI (show 162 * (i + 1) + j < 486 by omega) (by decide), og_s, vb_nI (show j < 486 by omega) (by decide), og_s, ol_s, ol_s, nI_1, nI_clamp (by omega), nI_clamp (by omega)]
      exact e1
    · by_cases e : x = j
      · subst e; rw [e3 _ (by omega), pk_us]
      · rw [e2 x (by omega) b, pk_un (by omega)]
    · rw [e3 x (by omega), pk_un (by omega)]
  | k, j, 0, all, _, hf => absurd hf (Nat.not_lt_zero k)
