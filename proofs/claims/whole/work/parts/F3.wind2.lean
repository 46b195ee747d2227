theorem RS_w {F n lb p : Nat} {c m : Nat → Int32} {f pl at' bh ki nu w wa : Int32} (h : RS F n c m lb p f pl at' bh ki nu w wa) : w = f := by
  rcases h.2 with ⟨h1, h2, -⟩ | ⟨-, h2, -⟩
  · rw [h1, h2]
  · exact h2
/-- a wind, behind its word -/
theorem p_wind2 {F n lb p a b v W : Nat} {c m wh wl wq fr : Nat → Int32} {va nu wa : Int32} (hTok : ∀ q, q ≤ n → ∃ a b kd v, tokP F n c m q a b kd v) (hT : tokP F n c m p a b 3 v) (hlb : lb ≤ a) (hW : W ≤ 12) (hf1 : fr 1 = nI W) :
    ∃ f' pl' nx' st' so' va' wc' wh' wl' wq' at'' bh' ki' nu' w' wa' fr', fX5_readWind F 0 (-1) (nI n) (nI b) (nI a) (nI (srt 3)) va (nI W) c wh wl wq = some (f', pl', nx', st', so', va', wc', wh', wl', wq') ∧ fX10_readWind F (nI a) (nI b) (nI n) (nI 3) nu 0 wa fr m = some (at'', bh', ki', nu', w', wa', fr') ∧ RC F n c m (lb + 1) f' pl' nx' st' so' va' at'' bh' ki' nu' w' wa' ∧ (f' = 0 → ∃ q l h, W < 12 ∧ q ≤ 47 ∧ l ≤ 6 ∧ h ≤ 6 ∧ wc' = nI (W + 1) ∧ wh' = upd wh W (nI h) ∧ wl' = upd wl W (nI l) ∧ wq' = upd wq W (nI q) ∧ fr' = upd (upd (upd (upd fr (126 + 3 * W) (nI q)) (126 + 3 * W + 1) (nI l)) (126 + 3 * W + 2) (nI h)) 1 (nI (W + 1))) := by
  have e1 : fr (1 : Int32).toNatClampNeg = nI W := hf1
  unfold fX5_readWind fX10_readWind
  rw [e1, ol_s]
  by_cases e : W = 12
  · refine ⟨4, nI a, nI b, nI a, nI (srt 3), va, nI W, wh, wl, wq, nI a, nI b, nI 3, nu, 4, nI a, fr, ?_, ?_, ⟨p, a, b, 3, v, hT, ⟨rfl, rfl, rfl, fun z => by cases z⟩, Or.inr ⟨by decide, rfl, rfl⟩⟩, fun z => absurd z (by decide)⟩
    · rw [if_pos (show nI W = 12 by rw [e]; rfl), blm0 (by decide), ob_s]; rfl
    · rw [if_pos (show nI W = 12 by rw [e]; rfl), fail0 (by decide), ob_s]
      rfl
  · have hne : ¬ nI W = 12 := nI_ne (a := W) (b := 12) (by omega) (by decide) e
    rw [if_neg hne, if_neg hne, fX10_readWind_L18, if_pos rfl]
    obtain ⟨at0, bh0, ki0, nu0, n1, n2⟩ := nx2 (at' := nI a) (ki := nI 3) (nu := nu) (wa := wa) hTok hT hlb (by decide)
    rw [n1, ob_s]
    dsimp only
    obtain ⟨p1, x1, f1, pl1, st1, so1, y1, at1, bh1, ki1, nu1, w1, wa1, c1, r1, s1, v1⟩ := num2 (lo := 0) (hi := 47) (st := nI a) (so := nI (srt 3)) (va := va) hTok (by decide) (by decide) n2
    obtain ⟨p2, x2, f2, pl2, st2, so2, y2, at2, bh2, ki2, nu2, w2, wa2, c2, r2, s2, v2⟩ := num2 (lo := 0) (hi := 6) (st := st1) (so := so1) (va := x1) hTok (by decide) (by decide) s1
    obtain ⟨p3, x3, f3, pl3, st3, so3, y3, at3, bh3, ki3, nu3, w3, wa3, c3, r3, s3, v3⟩ := num2 (lo := 0) (hi := 6) (st := st2) (so := so2) (va := x2) hTok (by decide) (by decide) s2
    obtain ⟨nx4, st4, so4, va4, c4, s4⟩ := tk2 (st := st3) (so := so3) (va := x3) hTok s3
    have c1' : fX5_number F 0 (-1) (nI n) (nI b) (nI a) (nI (srt 3)) va c 0 47 = _ := c1
    have c2' : fX5_number F f1 pl1 (nI n) (nI p1) st1 so1 x1 c 0 6 = _ := c2
    have c3' : fX5_number F f2 pl2 (nI n) (nI p2) st2 so2 x2 c 0 6 = _ := c3
    have r1' : fX10_takes F at0 bh0 (nI n) ki0 nu0 0 wa m 0 47 = _ := r1
    have r2' : fX10_takes F at1 bh1 (nI n) ki1 nu1 w1 wa1 m 0 6 = _ := r2
    have r3' : fX10_takes F at2 bh2 (nI n) ki2 nu2 w2 wa2 m 0 6 = _ := r3
    have hadd : fX7_addWind F (nI W) wh wl wq x1 x2 x3 = some (nI (W + 1), upd wh W x3, upd wl W x2, upd wq W x1) := by
      unfold fX7_addWind
      rw [if_neg (show ¬ (12 : Int32) ≤ nI W from nI_ge (a := W) (b := 12) (by omega) (by decide)), vb_nI (show W < 12 by omega) (by decide), og_s, ol_s, og_s, ol_s, og_s, ol_s, ol_s, nI_clamp (by omega), show nI W + (1 : Int32) = nI (W + 1) from nI_1 W]
    rw [c1', ob_s]
    dsimp only
    rw [c2', ob_s]
    dsimp only
    rw [c3', ob_s]
    dsimp only
    rw [hadd, ob_s]
    dsimp only
    rw [c4, ob_s]
    dsimp only
    rw [r1', ob_s]
    dsimp only
    rw [r2', ob_s]
    dsimp only
    rw [r3', ob_s]
    dsimp only
    have hw3 := RS_w s3
    by_cases hz : f3 = 0
    · obtain ⟨q1, h, h1, h2, h3, h4⟩ := v3 hz
      obtain ⟨q2, l, l1, l2, l3, l4⟩ := v2 q1
      obtain ⟨q3, q, g1, g2, g3, g4⟩ := v1 q2
      have ei : (126 : Int32) + (3 : Int32) * nI W = nI (126 + 3 * W) := by
        rw [show (126 : Int32) = nI 126 from rfl, show (3 : Int32) = nI 3 from rfl, pk_mul, nI_add]
      refine ⟨f3, pl3, nx4, st4, so4, va4, nI (W + 1), upd wh W x3, upd wl W x2, upd wq W x1, at3, bh3, ki3, nu3, w3, wa3, _, rfl, ?_, s4, fun _ => ⟨q, l, h, by omega, g2, l2, h2, rfl, by rw [h3], by rw [l3], by rw [g3], rfl⟩⟩
      rw [if_pos (by rw [hw3, hz]), ei, vb_nI (show 126 + 3 * W < 162 by omega) (by decide), og_s, ol_s, show nI (126 + 3 * W) + (1 : Int32) = nI (126 + 3 * W + 1) from nI_1 _, show nI (126 + 3 * W) + (2 : Int32) = nI (126 + 3 * W + 2) from nI_add _ 2, vb_nI (show 126 + 3 * W + 1 < 162 by omega) (by decide), og_s, ol_s, vb_nI (show 126 + 3 * W + 2 < 162 by omega) (by decide), og_s, ol_s, ol_s, nI_clamp (by omega), nI_clamp (by omega), nI_clamp (by omega), g4, l4, h4]
      have hu : upd (upd (upd fr (126 + 3 * W) (nI q)) (126 + 3 * W + 1) (nI l)) (126 + 3 * W + 2) (nI h) (1 : Int32).toNatClampNeg + 1 = nI (W + 1) := by
        show upd (upd (upd fr (126 + 3 * W) (nI q)) (126 + 3 * W + 1) (nI l)) (126 + 3 * W + 2) (nI h) 1 + 1 = _
        rw [pk_un (by omega), pk_un (by omega), pk_un (by omega), hf1, nI_1]
      rw [hu]
      rfl
    · refine ⟨f3, pl3, nx4, st4, so4, va4, nI (W + 1), upd wh W x3, upd wl W x2, upd wq W x1, at3, bh3, ki3, nu3, w3, wa3, fr, rfl, ?_, s4, fun z => absurd z hz⟩
      rw [if_neg (by rw [hw3]; exact hz)]
/-- a line's end -/
theorem p_end2 {F n lb : Nat} {c m all fr fs hs lit sc sm ts wh wl wq xs : Nat → Int32} {f pl nx st so va at' bh ki nu w wa ch wc la th fi li thr tpd fk fp a1 : Int32} {k53 : Int32 → Int32 → Int32 → Int32 → Int32 → Int32 → Int32 → Int32 → Int32 → Int32 → Int32 → (Nat → Int32) → (Nat → Int32) → Option (Int32 × Int32 × Int32 × Int32 × Int32 × Int32 × Int32 × Int32 × Int32 × Int32 × Int32 × Int32 × (Nat → Int32) × (Nat → Int32))} (hTok : ∀ q, q ≤ n → ∃ a b kd v, tokP F n c m q a b kd v) (hC : RC F n c m lb f pl nx st so va at' bh ki nu w wa) :
    ∃ f' pl' nx' st' so' va' at'' bh' ki' nu' w' wa' li', fX5_readLine_L115 F (nI n) c f pl nx st so va ch wc la th fi li fs hs lit sc sm ts wh wl wq xs = some (f', pl', nx', st', so', va', ch, wc, la, th, fi, li', fs, hs, lit, sc, sm, ts, wh, wl, wq, xs) ∧ fX10_town_L177 F m a1 k53 thr tpd at' bh (nI n) ki nu w wa fk fp all fr = k53 thr tpd at'' bh' (nI n) ki' nu' w' wa' fk fp all (upd fr 5 (fr 5 + 1)) ∧ RC F n c m (lb + 1) f' pl' nx' st' so' va' at'' bh' ki' nu' w' wa' ∧ (f' = 0 → f = 0 ∧ li' = li + 1) := by
  obtain ⟨p, a, b, kd, v, hT, ⟨rfl, rfl, rfl, hva⟩, hC⟩ := hC
  have hk := hT.1.2.2.2.1
  have hb := hT.1.2.2.1
  unfold fX5_readLine_L115 fX10_town_L177 fX10_town_L191
  rcases hC with ⟨rfl, rfl, rfl, hlb, rfl, rfl, rfl, hnu⟩ | ⟨hf, rfl, rfl⟩
  · by_cases e : kd = 9
    · subst e
      obtain ⟨at0, bh0, ki0, nu0, n1, n2⟩ := nx2 (at' := nI a) (ki := nI 9) (nu := nu) (wa := wa) hTok hT hlb (by decide)
      obtain ⟨nx4, st4, so4, va4, c4, s4⟩ := tk2 (st := nI a) (so := nI (srt 9)) (va := va) hTok n2
      refine ⟨0, -1, nx4, st4, so4, va4, at0, bh0, ki0, nu0, 0, wa, li + 1, ?_, ?_, s4, fun _ => ⟨rfl, rfl⟩⟩
      · rw [if_pos ((srt3 hk).mpr rfl), ol_s, c4, ob_s]
      · have he : fX10_eats F (nI a) (nI b) (nI n) (nI 9) nu 0 m 9 = some (1, at0, bh0, ki0, nu0) := by
          unfold fX10_eats
          rw [show (9 : Int32) = nI 9 from rfl, is0 hk hk, ob_s, decide_eq_true rfl, bI_1 rfl, if_neg one0, n1, ob_s]
        rw [he, ob_s]
        dsimp only
        rw [if_neg one0, ol_s]
        rfl
    · have h0 : ¬ (if kd = 11 then (1 : Int32) else 2) = 0 := by split <;> decide
      refine ⟨if kd = 11 then 1 else 2, nI a, nI b, nI a, nI (srt kd), va, nI a, nI b, nI kd, nu, if kd = 11 then 1 else 2, nI a, li, ?_, ?_, ⟨p, a, b, kd, v, hT, ⟨rfl, rfl, rfl, hva⟩, Or.inr ⟨h0, rfl, rfl⟩⟩, fun z => absurd z h0⟩
      · rw [if_neg (fun z => e ((srt3 hk).mp z)), blm0 hk, ob_s]
      · have he : fX10_eats F (nI a) (nI b) (nI n) (nI kd) nu 0 m 9 = some (0, nI a, nI b, nI kd, nu) := eatN (j := 9) hk (by decide) e
        rw [he, ob_s]
        dsimp only
        rw [if_pos rfl, fail0 hk, ob_s, ol_s]
        rfl
  · rw [eatS hf, ob_s]
    dsimp only
    rw [if_pos rfl, failS hf, ob_s, ol_s]
    by_cases e : kd = 9
    · obtain ⟨a', b', kd', v', hT'⟩ := hTok b hb
      obtain ⟨x, x1, x2⟩ := hT'.2.1 (nI a) (nI (srt kd)) va
      refine ⟨w, wa, nI b', nI a', nI (srt kd'), x, at', bh, ki, nu, w, wa, li + 1, ?_, rfl, ⟨b, a', b', kd', v', hT', ⟨rfl, rfl, rfl, x2⟩, Or.inr ⟨hf, rfl, rfl⟩⟩, fun z => absurd z hf⟩
      rw [if_pos ((srt3 hk).mpr e), x1, ob_s]
    · refine ⟨w, wa, nI b, nI a, nI (srt kd), va, at', bh, ki, nu, w, wa, li, ?_, rfl, ⟨p, a, b, kd, v, hT, ⟨rfl, rfl, rfl, hva⟩, Or.inr ⟨hf, rfl, rfl⟩⟩, fun z => absurd z hf⟩
      rw [if_neg (fun z => e ((srt3 hk).mp z)), blmS hf, ob_s]
/-! towns that grow -/
def tSc (t : Nat → Nat → Nat) (k v : Nat) : Nat → Nat → Nat := fun i j => if i = k ∧ j = 0 then v else t i j
theorem tSc_at {t : Nat → Nat → Nat} {k v : Nat} : tSc t k v k 0 = v := by unfold tSc; rw [if_pos ⟨rfl, rfl⟩]
theorem tSc_ne {t : Nat → Nat → Nat} {k v i j : Nat} (h : i ≠ k) : tSc t k v i j = t i j := by unfold tSc; rw [if_neg (fun z => h z.1)]
theorem tM_sc {t : Nat → Nat → Nat} {k v : Nat} {fr : Nat → Int32} (h : tM t fr 0) (hk2 : 2 ≤ k) (hk : k < 6) : tM (tSc t k v) (upd fr k (nI v)) 0 := by
  obtain ⟨h1, h2, h3⟩ := h
  have z0 : tSc t k v 0 0 = t 0 0 := tSc_ne (by omega)
  have z1 : tSc t k v 1 0 = t 1 0 := tSc_ne (by omega)
  refine ⟨fun i hi => ?_, fun c hc => ?_, fun w hw => ?_⟩
  · rw [Nat.zero_add]
    by_cases e : i = k
    · rw [e, pk_us, tSc_at]
    · rw [pk_un e, tSc_ne e, ← h1 i hi, Nat.zero_add]
  · rw [z0] at hc
    obtain ⟨g0, g1, g2, g3, g4, g5, g6⟩ := h2 c hc
    refine ⟨?_, ?_, ?_, ?_, ?_, ?_, fun i hi => ?_⟩
    · rw [pk_un (by omega), tSc_ne (by omega)]; exact g0
    · rw [pk_un (by omega), tSc_ne (by omega)]; exact g1
    · rw [pk_un (by omega), tSc_ne (by omega)]; exact g2
    · rw [pk_un (by omega), tSc_ne (by omega)]; exact g3
    · rw [pk_un (by omega), tSc_ne (by omega)]; exact g4
    · rw [pk_un (by omega), tSc_ne (by omega)]; exact g5
    · rw [tSc_ne (by omega)] at hi
      rw [pk_un (by omega), tSc_ne (by omega)]; exact g6 i hi
  · rw [z1] at hw
    obtain ⟨g0, g1, g2⟩ := h3 w hw
    refine ⟨?_, ?_, ?_⟩
    · rw [pk_un (by omega), tSc_ne (by omega)]; exact g0
    · rw [pk_un (by omega), tSc_ne (by omega)]; exact g1
    · rw [pk_un (by omega), tSc_ne (by omega)]; exact g2
theorem tC_rest {t t' : Nat → Nat → Nat} {ch wc la th fi li la' th' fi' li' : Int32} {xs hs fs ts sc sm lit wq wl wh : Nat → Int32} (h : tC t ch wc la th fi li xs hs fs ts sc sm lit wq wl wh) (h0 : t' 0 0 = t 0 0) (h1 : t' 1 0 = t 1 0) (h6 : ∀ i j, 6 ≤ i → t' i j = t i j) (e2 : la' = nI (t' 2 0)) (e3 : th' = nI (t' 3 0)) (e4 : fi' = nI (t' 4 0)) (e5 : li' = nI (t' 5 0)) : tC t' ch wc la' th' fi' li' xs hs fs ts sc sm lit wq wl wh := by
  obtain ⟨a0, a1, -, -, -, -, a6, a7⟩ := h
  refine ⟨by rw [h0]; exact a0, by rw [h1]; exact a1, e2, e3, e4, e5, fun c hc => ?_, fun w hw => ?_⟩
  · rw [h0] at hc
    obtain ⟨g0, g1, g2, g3, g4, g5, g6⟩ := a6 c hc
    rw [h6 6 c (by omega), h6 7 c (by omega), h6 8 c (by omega), h6 9 c (by omega), h6 10 c (by omega), h6 11 c (by omega)]
    exact ⟨g0, g1, g2, g3, g4, g5, fun k hk => by rw [h6 12 _ (by omega)]; exact g6 k hk⟩
  · rw [h1] at hw
    rw [h6 13 w (by omega), h6 14 w (by omega), h6 15 w (by omega)]
    exact a7 w hw
theorem Tok_sc {t : Nat → Nat → Nat} {k v : Nat} (h : Tok t) (hk2 : 2 ≤ k) (hk : k < 6) (e2 : k = 2 → v ≤ 20) (e3 : k = 3 → 1 ≤ v ∧ v ≤ 9) (e4 : k = 4 → v ≤ 99) (e5 : k = 5 → v ≤ 900) : Tok (tSc t k v) := by
  obtain ⟨h0, h1, h2, h3, h4, h5, h6, h7⟩ := h
  have z : ∀ i, i ≠ k → tSc t k v i 0 = t i 0 := fun i hi => tSc_ne hi
  refine ⟨by rw [z 0 (by omega)]; exact h0, by rw [z 1 (by omega)]; exact h1, ?_, ?_, ?_, ?_, fun c hc => ?_, fun w hw => ?_⟩
  · by_cases e : (2 : Nat) = k
    · subst e; rw [tSc_at]; exact e2 rfl
    · rw [z 2 e]; exact h2
  · by_cases e : (3 : Nat) = k
    · subst e; rw [tSc_at]; exact e3 rfl
    · rw [z 3 e]; exact h3
  · by_cases e : (4 : Nat) = k
    · subst e; rw [tSc_at]; exact e4 rfl
    · rw [z 4 e]; exact h4
  · by_cases e : (5 : Nat) = k
    · subst e; rw [tSc_at]; exact e5 rfl
    · rw [z 5 e]; exact h5
  · rw [z 0 (by omega)] at hc
    have hh : ∀ i j, 6 ≤ i → tSc t k v i j = t i j := fun i j hi => tSc_ne (by omega)
    rw [hh 6 c (by omega), hh 7 c (by omega), hh 8 c (by omega), hh 9 c (by omega), hh 10 c (by omega), hh 11 c (by omega)]
    obtain ⟨g0, g1, g2, g3, g4, g5, g6⟩ := h6 c hc
    exact ⟨g0, g1, g2, g3, g4, g5, fun i hi => by rw [hh 12 _ (by omega)]; exact g6 i hi⟩
  · rw [z 1 (by omega)] at hw
    have hh : ∀ i j, 6 ≤ i → tSc t k v i j = t i j := fun i j hi => tSc_ne (by omega)
    rw [hh 13 w (by omega), hh 14 w (by omega), hh 15 w (by omega)]
    exact h7 w hw
/-- a wind more -/
def tWn (t : Nat → Nat → Nat) (q l h : Nat) : Nat → Nat → Nat := fun i j => if i = 1 ∧ j = 0 then t 1 0 + 1 else if i = 13 ∧ j = t 1 0 then q else if i = 14 ∧ j = t 1 0 then l else if i = 15 ∧ j = t 1 0 then h else t i j
theorem tWn_o {t : Nat → Nat → Nat} {q l h i j : Nat} (h1 : i ≠ 1) (h2 : i < 13) : tWn t q l h i j = t i j := by
  unfold tWn
  rw [if_neg (fun z => h1 z.1), if_neg (fun z => by omega), if_neg (fun z => by omega), if_neg (fun z => by omega)]
theorem tWn_1 {t : Nat → Nat → Nat} {q l h : Nat} : tWn t q l h 1 0 = t 1 0 + 1 := by unfold tWn; rw [if_pos ⟨rfl, rfl⟩]
theorem tWn_w {t : Nat → Nat → Nat} {q l h j : Nat} (hj : j ≠ t 1 0) {i : Nat} (hi : 13 ≤ i) : tWn t q l h i j = t i j := by
  unfold tWn
  rw [if_neg (fun z => by omega), if_neg (fun z => hj z.2), if_neg (fun z => hj z.2), if_neg (fun z => hj z.2)]
theorem tWn_s {t : Nat → Nat → Nat} {q l h : Nat} : tWn t q l h 13 (t 1 0) = q ∧ tWn t q l h 14 (t 1 0) = l ∧ tWn t q l h 15 (t 1 0) = h := by
  unfold tWn
  refine ⟨?_, ?_, ?_⟩ <;> simp
theorem tC_wn {t : Nat → Nat → Nat} {q l h : Nat} {ch wc la th fi li : Int32} {xs hs fs ts sc sm lit wq wl wh : Nat → Int32} (hC : tC t ch wc la th fi li xs hs fs ts sc sm lit wq wl wh) : tC (tWn t q l h) ch (nI (t 1 0 + 1)) la th fi li xs hs fs ts sc sm lit (upd wq (t 1 0) (nI q)) (upd wl (t 1 0) (nI l)) (upd wh (t 1 0) (nI h)) := by
  obtain ⟨a0, a1, a2, a3, a4, a5, a6, a7⟩ := hC
  have o : ∀ i j, i ≠ 1 → i < 13 → tWn t q l h i j = t i j := fun i j h1 h2 => tWn_o h1 h2
  refine ⟨by rw [o 0 0 (by omega) (by omega)]; exact a0, by rw [tWn_1], by rw [o 2 0 (by omega) (by omega)]; exact a2, by rw [o 3 0 (by omega) (by omega)]; exact a3, by rw [o 4 0 (by omega) (by omega)]; exact a4, by rw [o 5 0 (by omega) (by omega)]; exact a5, fun c hc => ?_, fun w hw => ?_⟩
  · rw [o 0 0 (by omega) (by omega)] at hc
    obtain ⟨g0, g1, g2, g3, g4, g5, g6⟩ := a6 c hc
    rw [o 6 c (by omega) (by omega), o 7 c (by omega) (by omega), o 8 c (by omega) (by omega), o 9 c (by omega) (by omega), o 10 c (by omega) (by omega), o 11 c (by omega) (by omega)]
    exact ⟨g0, g1, g2, g3, g4, g5, fun k hk => by rw [o 12 _ (by omega) (by omega)]; exact g6 k hk⟩
  · rw [tWn_1] at hw
    by_cases e : w = t 1 0
    · subst e
      rw [tWn_s.1, tWn_s.2.1, tWn_s.2.2, pk_us, pk_us, pk_us]
      exact ⟨rfl, rfl, rfl⟩
    · rw [tWn_w e (by omega), tWn_w e (by omega), tWn_w e (by omega), pk_un e, pk_un e, pk_un e]
      exact a7 w (by omega)
theorem tM_wn {t : Nat → Nat → Nat} {q l h : Nat} {fr : Nat → Int32} (hM : tM t fr 0) (hn : t 0 0 ≤ 10) (hm : ∀ c, c < t 0 0 → t 10 c ≤ 6) : tM (tWn t q l h) (upd (upd (upd (upd fr (126 + 3 * t 1 0) (nI q)) (126 + 3 * t 1 0 + 1) (nI l)) (126 + 3 * t 1 0 + 2) (nI h)) 1 (nI (t 1 0 + 1))) 0 := by
  obtain ⟨h1, h2, h3⟩ := hM
  have o : ∀ i j, i ≠ 1 → i < 13 → tWn t q l h i j = t i j := fun i j h1 h2 => tWn_o h1 h2
  have u : ∀ j, j < 126 → j ≠ 1 → upd (upd (upd (upd fr (126 + 3 * t 1 0) (nI q)) (126 + 3 * t 1 0 + 1) (nI l)) (126 + 3 * t 1 0 + 2) (nI h)) 1 (nI (t 1 0 + 1)) j = fr j := fun j hj h' => by
    rw [pk_un h', pk_un (by omega), pk_un (by omega), pk_un (by omega)]
  refine ⟨fun i hi => ?_, fun c hc => ?_, fun w hw => ?_⟩
  · rw [Nat.zero_add]
    by_cases e : i = 1
    · rw [e, pk_us, tWn_1]
    · rw [u i (by omega) e, o i 0 e (by omega), ← h1 i hi, Nat.zero_add]
  · rw [o 0 0 (by omega) (by omega)] at hc
    obtain ⟨g0, g1, g2, g3, g4, g5, g6⟩ := h2 c hc
    rw [Nat.zero_add] at g0 g1 g2 g3 g4 g5
    rw [o 6 c (by omega) (by omega), o 7 c (by omega) (by omega), o 8 c (by omega) (by omega), o 9 c (by omega) (by omega), o 10 c (by omega) (by omega), o 11 c (by omega) (by omega), Nat.zero_add, Nat.zero_add, Nat.zero_add, Nat.zero_add, Nat.zero_add, Nat.zero_add, u _ (by omega) (by omega), u _ (by omega) (by omega), u _ (by omega) (by omega), u _ (by omega) (by omega), u _ (by omega) (by omega), u _ (by omega) (by omega)]
    refine ⟨g0, g1, g2, g3, g4, g5, fun k hk => ?_⟩
    have hm6 := hm c hc
    have := g6 k hk
    rw [Nat.zero_add] at this ⊢
    rw [o 12 _ (by omega) (by omega), u _ (by omega) (by omega)]; exact this
  · rw [tWn_1] at hw
    by_cases e : w = t 1 0
    · subst e
      rw [tWn_s.1, tWn_s.2.1, tWn_s.2.2, Nat.zero_add, Nat.zero_add, Nat.zero_add]
      refine ⟨?_, ?_, ?_⟩
      · rw [pk_un (by omega), pk_un (by omega), pk_un (by omega), pk_us]
      · rw [show 127 + 3 * t 1 0 = 126 + 3 * t 1 0 + 1 by omega, pk_un (by omega), pk_un (by omega), pk_us]
      · rw [show 128 + 3 * t 1 0 = 126 + 3 * t 1 0 + 2 by omega, pk_un (by omega), pk_us]
    · rw [tWn_w e (by omega), tWn_w e (by omega), tWn_w e (by omega)]
      obtain ⟨g0, g1, g2⟩ := h3 w (by omega)
      rw [Nat.zero_add] at g0 g1 g2
      rw [Nat.zero_add, Nat.zero_add, Nat.zero_add]
      refine ⟨?_, ?_, ?_⟩
      · rw [pk_un (by omega), pk_un (by omega), pk_un (by omega), pk_un (by omega)]; exact g0
      · rw [pk_un (by omega), pk_un (by omega), pk_un (by omega), pk_un (by omega)]; exact g1
      · rw [pk_un (by omega), pk_un (by omega), pk_un (by omega), pk_un (by omega)]; exact g2
theorem Tok_wn {t : Nat → Nat → Nat} {q l h : Nat} (ht : Tok t) (hW : t 1 0 < 12) (hq : q ≤ 47) (hl : l ≤ 6) (hh : h ≤ 6) : Tok (tWn t q l h) := by
  obtain ⟨h0, h1, h2, h3, h4, h5, h6, h7⟩ := ht
  have o : ∀ i j, i ≠ 1 → i < 13 → tWn t q l h i j = t i j := fun i j h1 h2 => tWn_o h1 h2
  refine ⟨by rw [o 0 0 (by omega) (by omega)]; exact h0, by rw [tWn_1]; omega, by rw [o 2 0 (by omega) (by omega)]; exact h2, by rw [o 3 0 (by omega) (by omega)]; exact h3, by rw [o 4 0 (by omega) (by omega)]; exact h4, by rw [o 5 0 (by omega) (by omega)]; exact h5, fun c hc => ?_, fun w hw => ?_⟩
  · rw [o 0 0 (by omega) (by omega)] at hc
    obtain ⟨g0, g1, g2, g3, g4, g5, g6⟩ := h6 c hc
    rw [o 6 c (by omega) (by omega), o 7 c (by omega) (by omega), o 8 c (by omega) (by omega), o 9 c (by omega) (by omega), o 10 c (by omega) (by omega), o 11 c (by omega) (by omega)]
    exact ⟨g0, g1, g2, g3, g4, g5, fun k hk => by rw [o 12 _ (by omega) (by omega)]; exact g6 k hk⟩
  · rw [tWn_1] at hw
    by_cases e : w = t 1 0
    · subst e
      rw [tWn_s.1, tWn_s.2.1, tWn_s.2.2]
      omega
    · rw [tWn_w e (by omega), tWn_w e (by omega), tWn_w e (by omega)]
      exact h7 w (by omega)
