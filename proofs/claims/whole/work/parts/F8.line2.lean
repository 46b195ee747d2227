theorem eat_nx {F n kd : Nat} {at' bh nu a b k v : Int32} {m : Nat → Int32} (hk : kd ≤ 11) (h : fX10_next F at' bh (nI n) (nI kd) nu m = some (a, b, k, v)) : fX10_eats F at' bh (nI n) (nI kd) nu 0 m (nI kd) = some (1, a, b, k, v) := by
  unfold fX10_eats
  rw [is0 hk hk, ob_s, decide_eq_true rfl, bI_1 rfl, if_neg one0, h, ob_s]
theorem p_line2 {F n lb fuel : Nat} {t : Nat → Nat → Nat} {c m all fr fs hs lit sc sm ts wh wl wq xs : Nat → Int32} {nx st so va at' bh ki nu wa ch wc la th fi li thr tpd fk fp a1 : Int32} (hn : n ≤ 900) (hTok : ∀ q, q ≤ n → ∃ a b kd v, tokP F n c m q a b kd v) (hF : 20 < F) (hC : RC F n c m lb 0 (-1) nx st so va at' bh ki nu 0 wa) (hso : ¬ so = 0) (hD : drI t fr ch wc la th fi li fs hs lit sc sm ts wh wl wq xs) (ht5 : t 5 0 ≤ lb) :
    ∃ f' pl' nx' st' so' va' at'' bh' ki' nu' w' wa' ch' wc' la' th' fi' li' fs' hs' lit' sc' sm' ts' wh' wl' wq' xs' fr', fX5_readLine F 0 (-1) (nI n) nx st so va ch wc la th fi li c fs hs lit sc sm ts wh wl wq xs = some (f', pl', nx', st', so', va', ch', wc', la', th', fi', li', fs', hs', lit', sc', sm', ts', wh', wl', wq', xs') ∧ fX10_town_L53 F m a1 (fuel + 1) thr tpd at' bh (nI n) ki nu 0 wa fk fp all fr = fX10_town_L53 F m a1 fuel thr tpd at'' bh' (nI n) ki' nu' w' wa' fk fp all fr' ∧ RC F n c m (lb + 1) f' pl' nx' st' so' va' at'' bh' ki' nu' w' wa' ∧ (f' = 0 → ∃ t', drI t' fr' ch' wc' la' th' fi' li' fs' hs' lit' sc' sm' ts' wh' wl' wq' xs' ∧ t' 5 0 ≤ lb + 1) := by
  obtain ⟨p, a, b, kd, v, hT, ⟨rfl, rfl, rfl, hva⟩, hx⟩ := hC
  rcases hx with ⟨-, -, -, hlb, rfl, rfl, rfl, hnu⟩ | ⟨z, -⟩
  · obtain ⟨q1, q2, q3, q4, q5, q6⟩ := hT.1
    have hk10 : kd ≠ 10 := fun z => hso ((srt0 q4).mpr z)
    have hab := q6 hk10
    have hL : t 5 0 + 1 ≤ 900 := by omega
    have hki : ¬ nI kd = 10 := nI_ne (a := kd) (b := 10) (by omega) (by decide) hk10
    have sp := fun w hw => hT.2.2.2 w hw
    have i0 : fX10_is F (nI kd) 0 0 = some (bI (decide (kd = 0))) := is0 (j := 0) q4 (by decide)
    have i3 : fX10_is F (nI kd) 0 3 = some (bI (decide (kd = 3))) := is0 (j := 3) q4 (by decide)
    obtain ⟨hD1, hD2, hD3, hD4⟩ := id hD
    have hch := hD2.1
    have hwc := hD2.2.1
    subst hch
    subst hwc
    have f0 : fr 0 = nI (t 0 0) := by have := hD3.1 0 (by decide); rw [Nat.zero_add] at this; exact this
    have f1 : fr 1 = nI (t 1 0) := by have := hD3.1 1 (by decide); rw [Nat.zero_add] at this; exact this
    by_cases k0 : kd = 0
    · subst k0
      obtain ⟨f', pl', nx', st', so', va', ch', fs', hs', lit', sc', sm', ts', xs', at'', bh', ki', nu', w', wa', fr', c1, r1, s1, v1⟩ := p_chim2 (va := va) (nu := nu) (wa := wa) (fs := fs) (hs := hs) (lit := lit) (sc := sc) (sm := sm) (ts := ts) (xs := xs) hTok hF hT hlb hD1.1 f0
      obtain ⟨f2, pl2, nx2, st2, so2, va2, at2, bh2, ki2, nu2, w2, wa2, li2, c2, r2, s2, v2⟩ := p_end2 (all := all) (fr := fr') (fs := fs') (hs := hs') (lit := lit') (sc := sc') (sm := sm') (ts := ts') (wh := wh) (wl := wl) (wq := wq) (xs := xs') (ch := ch') (wc := nI (t 1 0)) (la := la) (th := th) (fi := fi) (li := li) (thr := thr) (tpd := tpd) (fk := fk) (fp := fp) (a1 := a1) (k53 := fun v_thrown v_taped v_at v_behind v_size v_kind v_number v_wrong v_wrongAt v_faultKind v_faultPlace v_all v_fresh => fX10_town_L53 F m a1 fuel v_thrown v_taped v_at v_behind v_size v_kind v_number v_wrong v_wrongAt v_faultKind v_faultPlace v_all v_fresh) hTok s1
      refine ⟨f2, pl2, nx2, st2, so2, va2, at2, bh2, ki2, nu2, w2, wa2, ch', nI (t 1 0), la, th, fi, li2, fs', hs', lit', sc', sm', ts', wh, wl, wq, xs', upd fr' 5 (fr' 5 + 1), ?_, ?_, RC_lb s2 (by omega), fun hz => ?_⟩
      · unfold fX5_readLine
        rw [show fX5_spells F (nI n) (nI b) (nI a) (nI (srt 0)) c 0 = some 1 from sp 0 (by decide), ob_s, if_neg one0, c1, ob_s]
        exact c2
      · rw [fX10_town_L53, if_pos rfl, if_neg hki, i0, ob_s, decide_eq_true rfl, bI_1 rfl, if_neg one0, r1, ob_s]
        exact r2
      · obtain ⟨z1, z2⟩ := v2 hz
        obtain ⟨X, H, A, B, K, S, frm, g1, g2, g3, g4, g5, g6, rfl, rfl, rfl, rfl, rfl, rfl, g7, rfl⟩ := v1 z1
        have hd := dr_ch hD g1 g2 g3 g4 g5 g6 g7
        have h5 : tCh t X H A B K S 5 0 = t 5 0 := tCh_o (by omega) (by omega)
        have hd2 := dr_li hd (by rw [h5]; exact hL)
        rw [z2]
        exact ⟨_, hd2, by rw [tSc_at, h5]; omega⟩
    · have n0 : fX5_spells F (nI n) (nI b) (nI a) (nI (srt kd)) c 0 = some 0 := by rw [sp 0 (by decide), decide_eq_false k0]; rfl
      by_cases k3 : kd = 3
      · subst k3
        obtain ⟨f', pl', nx', st', so', va', wc', wh', wl', wq', at'', bh', ki', nu', w', wa', fr', c1, r1, s1, v1⟩ := p_wind2 (va := va) (nu := nu) (wa := wa) (wh := wh) (wl := wl) (wq := wq) hTok hT hlb hD1.2.1 f1
        obtain ⟨f2, pl2, nx2, st2, so2, va2, at2, bh2, ki2, nu2, w2, wa2, li2, c2, r2, s2, v2⟩ := p_end2 (all := all) (fr := fr') (fs := fs) (hs := hs) (lit := lit) (sc := sc) (sm := sm) (ts := ts) (wh := wh') (wl := wl') (wq := wq') (xs := xs) (ch := nI (t 0 0)) (wc := wc') (la := la) (th := th) (fi := fi) (li := li) (thr := thr) (tpd := tpd) (fk := fk) (fp := fp) (a1 := a1) (k53 := fun v_thrown v_taped v_at v_behind v_size v_kind v_number v_wrong v_wrongAt v_faultKind v_faultPlace v_all v_fresh => fX10_town_L53 F m a1 fuel v_thrown v_taped v_at v_behind v_size v_kind v_number v_wrong v_wrongAt v_faultKind v_faultPlace v_all v_fresh) hTok s1
        refine ⟨f2, pl2, nx2, st2, so2, va2, at2, bh2, ki2, nu2, w2, wa2, nI (t 0 0), wc', la, th, fi, li2, fs, hs, lit, sc, sm, ts, wh', wl', wq', xs, upd fr' 5 (fr' 5 + 1), ?_, ?_, RC_lb s2 (by omega), fun hz => ?_⟩
        · unfold fX5_readLine
          rw [n0, ob_s, if_pos rfl, show fX5_spells F (nI n) (nI b) (nI a) (nI (srt 3)) c 3 = some 1 from sp 3 (by decide), ob_s, if_neg one0, c1, ob_s]
          exact c2
        · rw [fX10_town_L53, if_pos rfl, if_neg hki, i0, ob_s, decide_eq_false k0, bI_0 rfl, if_pos rfl, i3, ob_s, decide_eq_true rfl, bI_1 rfl, if_neg one0, r1, ob_s]
          exact r2
        · obtain ⟨z1, z2⟩ := v2 hz
          obtain ⟨q, l, h, g1, g2, g3, g4, rfl, rfl, rfl, rfl, rfl⟩ := v1 z1
          have hd := dr_wn hD g1 g2 g3 g4
          have h5 : tWn t q l h 5 0 = t 5 0 := tWn_o (by omega) (by omega)
          have hd2 := dr_li hd (by rw [h5]; exact hL)
          rw [z2]
          exact ⟨_, hd2, by rw [tSc_at, h5]; omega⟩
      · have n3 : fX5_spells F (nI n) (nI b) (nI a) (nI (srt kd)) c 3 = some 0 := by rw [sp 3 (by decide), decide_eq_false k3]; rfl
        by_cases k4 : kd = 4
        · subst k4
          obtain ⟨at0, bh0, ki0, nu0, n1, n2⟩ := nx2 (at' := nI a) (ki := nI 4) (nu := nu) (wa := wa) hTok hT hlb (by decide)
          obtain ⟨x, f', pl', nx', st', so', va', y, at'', bh', ki', nu', w', wa', c1, r1, s1, v1⟩ := only2 (lo := 0) (hi := 20) (st := nI a) (so := nI (srt 4)) (va := va) hTok (by decide) (by decide) n2
          have c1' : fX5_onlyNumber F 0 (-1) (nI n) (nI b) (nI a) (nI (srt 4)) va c 0 20 = _ := c1
          have r1' : fX10_takes F at0 bh0 (nI n) ki0 nu0 0 wa m 0 20 = _ := r1
          have he : fX10_eats F (nI a) (nI b) (nI n) (nI 4) nu 0 m 4 = _ := eat_nx q4 n1
          obtain ⟨f2, pl2, nx2', st2, so2, va2, at2, bh2, ki2, nu2, w2, wa2, li2, c2, r2, s2, v2⟩ := p_end2 (all := all) (fr := upd fr 2 y) (fs := fs) (hs := hs) (lit := lit) (sc := sc) (sm := sm) (ts := ts) (wh := wh) (wl := wl) (wq := wq) (xs := xs) (ch := nI (t 0 0)) (wc := nI (t 1 0)) (la := x) (th := th) (fi := fi) (li := li) (thr := thr) (tpd := tpd) (fk := fk) (fp := fp) (a1 := a1) (k53 := fun v_thrown v_taped v_at v_behind v_size v_kind v_number v_wrong v_wrongAt v_faultKind v_faultPlace v_all v_fresh => fX10_town_L53 F m a1 fuel v_thrown v_taped v_at v_behind v_size v_kind v_number v_wrong v_wrongAt v_faultKind v_faultPlace v_all v_fresh) hTok s1
          refine ⟨f2, pl2, nx2', st2, so2, va2, at2, bh2, ki2, nu2, w2, wa2, nI (t 0 0), nI (t 1 0), x, th, fi, li2, fs, hs, lit, sc, sm, ts, wh, wl, wq, xs, upd (upd fr 2 y) 5 (upd fr 2 y 5 + 1), ?_, ?_, RC_lb s2 (by omega), fun hz => ?_⟩
          · unfold fX5_readLine
            rw [n0, ob_s, if_pos rfl, n3, ob_s, if_pos rfl, show fX5_spells F (nI n) (nI b) (nI a) (nI (srt 4)) c 4 = some 1 from sp 4 (by decide), ob_s, if_neg one0, c1', ob_s]
            exact c2
          · rw [fX10_town_L53, if_pos rfl, if_neg hki, i0, ob_s, decide_eq_false k0, bI_0 rfl, if_pos rfl, i3, ob_s, decide_eq_false k3, bI_0 rfl, if_pos rfl, he, ob_s]
            dsimp only
            rw [if_neg one0, r1', ob_s]
            dsimp only
            rw [ol_s]
            exact r2
          · obtain ⟨z1, z2⟩ := v2 hz
            obtain ⟨-, v0, g1, g2, rfl, rfl⟩ := v1 z1
            have hd := dr_2 hD g2
            have h5 : tSc t 2 v0 5 0 = t 5 0 := tSc_ne (by omega)
            have hd2 := dr_li hd (by rw [h5]; exact hL)
            rw [z2]
            exact ⟨_, hd2, by rw [tSc_at, h5]; omega⟩
        · have n4 : fX5_spells F (nI n) (nI b) (nI a) (nI (srt kd)) c 4 = some 0 := by rw [sp 4 (by decide), decide_eq_false k4]; rfl
          have e4 : fX10_eats F (nI a) (nI b) (nI n) (nI kd) nu 0 m 4 = _ := eatN (j := 4) q4 (by decide) k4
          by_cases k5 : kd = 5
          · subst k5
            obtain ⟨at0, bh0, ki0, nu0, n1, n2⟩ := nx2 (at' := nI a) (ki := nI 5) (nu := nu) (wa := wa) hTok hT hlb (by decide)
            obtain ⟨x, f', pl', nx', st', so', va', y, at'', bh', ki', nu', w', wa', c1, r1, s1, v1⟩ := only2 (lo := 1) (hi := 9) (st := nI a) (so := nI (srt 5)) (va := va) hTok (by decide) (by decide) n2
            have c1' : fX5_onlyNumber F 0 (-1) (nI n) (nI b) (nI a) (nI (srt 5)) va c 1 9 = _ := c1
            have r1' : fX10_takes F at0 bh0 (nI n) ki0 nu0 0 wa m 1 9 = _ := r1
            have he : fX10_eats F (nI a) (nI b) (nI n) (nI 5) nu 0 m 5 = _ := eat_nx q4 n1
            obtain ⟨f2, pl2, nx2', st2, so2, va2, at2, bh2, ki2, nu2, w2, wa2, li2, c2, r2, s2, v2⟩ := p_end2 (all := all) (fr := upd fr 3 y) (fs := fs) (hs := hs) (lit := lit) (sc := sc) (sm := sm) (ts := ts) (wh := wh) (wl := wl) (wq := wq) (xs := xs) (ch := nI (t 0 0)) (wc := nI (t 1 0)) (la := la) (th := x) (fi := fi) (li := li) (thr := thr) (tpd := tpd) (fk := fk) (fp := fp) (a1 := a1) (k53 := fun v_thrown v_taped v_at v_behind v_size v_kind v_number v_wrong v_wrongAt v_faultKind v_faultPlace v_all v_fresh => fX10_town_L53 F m a1 fuel v_thrown v_taped v_at v_behind v_size v_kind v_number v_wrong v_wrongAt v_faultKind v_faultPlace v_all v_fresh) hTok s1
            refine ⟨f2, pl2, nx2', st2, so2, va2, at2, bh2, ki2, nu2, w2, wa2, nI (t 0 0), nI (t 1 0), la, x, fi, li2, fs, hs, lit, sc, sm, ts, wh, wl, wq, xs, upd (upd fr 3 y) 5 (upd fr 3 y 5 + 1), ?_, ?_, RC_lb s2 (by omega), fun hz => ?_⟩
            · unfold fX5_readLine
              rw [n0, ob_s, if_pos rfl, n3, ob_s, if_pos rfl, n4, ob_s, if_pos rfl, show fX5_spells F (nI n) (nI b) (nI a) (nI (srt 5)) c 5 = some 1 from sp 5 (by decide), ob_s, if_neg one0, c1', ob_s]
              exact c2
            · rw [fX10_town_L53, if_pos rfl, if_neg hki, i0, ob_s, decide_eq_false k0, bI_0 rfl, if_pos rfl, i3, ob_s, decide_eq_false k3, bI_0 rfl, if_pos rfl, e4, ob_s]
              dsimp only
              rw [if_pos rfl, he, ob_s]
              dsimp only
              rw [if_neg one0, r1', ob_s]
              dsimp only
              rw [ol_s]
              exact r2
            · obtain ⟨z1, z2⟩ := v2 hz
              obtain ⟨-, v0, g1, g2, rfl, rfl⟩ := v1 z1
              have hd := dr_3 hD ⟨g1, g2⟩
              have h5 : tSc t 3 v0 5 0 = t 5 0 := tSc_ne (by omega)
              have hd2 := dr_li hd (by rw [h5]; exact hL)
              rw [z2]
              exact ⟨_, hd2, by rw [tSc_at, h5]; omega⟩
          · have n5 : fX5_spells F (nI n) (nI b) (nI a) (nI (srt kd)) c 5 = some 0 := by rw [sp 5 (by decide), decide_eq_false k5]; rfl
            have e5 : fX10_eats F (nI a) (nI b) (nI n) (nI kd) nu 0 m 5 = _ := eatN (j := 5) q4 (by decide) k5
            by_cases k6 : kd = 6
            · subst k6
              obtain ⟨at0, bh0, ki0, nu0, n1, n2⟩ := nx2 (at' := nI a) (ki := nI 6) (nu := nu) (wa := wa) hTok hT hlb (by decide)
              obtain ⟨x, f', pl', nx', st', so', va', y, at'', bh', ki', nu', w', wa', c1, r1, s1, v1⟩ := only2 (lo := 0) (hi := 99) (st := nI a) (so := nI (srt 6)) (va := va) hTok (by decide) (by decide) n2
              have c1' : fX5_onlyNumber F 0 (-1) (nI n) (nI b) (nI a) (nI (srt 6)) va c 0 99 = _ := c1
              have r1' : fX10_takes F at0 bh0 (nI n) ki0 nu0 0 wa m 0 99 = _ := r1
              have he : fX10_eats F (nI a) (nI b) (nI n) (nI 6) nu 0 m 6 = _ := eat_nx q4 n1
              obtain ⟨f2, pl2, nx2', st2, so2, va2, at2, bh2, ki2, nu2, w2, wa2, li2, c2, r2, s2, v2⟩ := p_end2 (all := all) (fr := upd fr 4 y) (fs := fs) (hs := hs) (lit := lit) (sc := sc) (sm := sm) (ts := ts) (wh := wh) (wl := wl) (wq := wq) (xs := xs) (ch := nI (t 0 0)) (wc := nI (t 1 0)) (la := la) (th := th) (fi := x) (li := li) (thr := thr) (tpd := tpd) (fk := fk) (fp := fp) (a1 := a1) (k53 := fun v_thrown v_taped v_at v_behind v_size v_kind v_number v_wrong v_wrongAt v_faultKind v_faultPlace v_all v_fresh => fX10_town_L53 F m a1 fuel v_thrown v_taped v_at v_behind v_size v_kind v_number v_wrong v_wrongAt v_faultKind v_faultPlace v_all v_fresh) hTok s1
              refine ⟨f2, pl2, nx2', st2, so2, va2, at2, bh2, ki2, nu2, w2, wa2, nI (t 0 0), nI (t 1 0), la, th, x, li2, fs, hs, lit, sc, sm, ts, wh, wl, wq, xs, upd (upd fr 4 y) 5 (upd fr 4 y 5 + 1), ?_, ?_, RC_lb s2 (by omega), fun hz => ?_⟩
              · unfold fX5_readLine
                rw [n0, ob_s, if_pos rfl, n3, ob_s, if_pos rfl, n4, ob_s, if_pos rfl, n5, ob_s, if_pos rfl, show fX5_spells F (nI n) (nI b) (nI a) (nI (srt 6)) c 6 = some 1 from sp 6 (by decide), ob_s, if_neg one0, c1', ob_s]
                exact c2
              · rw [fX10_town_L53, if_pos rfl, if_neg hki, i0, ob_s, decide_eq_false k0, bI_0 rfl, if_pos rfl, i3, ob_s, decide_eq_false k3, bI_0 rfl, if_pos rfl, e4, ob_s]
                dsimp only
                rw [if_pos rfl, e5, ob_s]
                dsimp only
                rw [if_pos rfl, he, ob_s]
                dsimp only
                rw [if_neg one0, r1', ob_s]
                dsimp only
                rw [ol_s]
                exact r2
              · obtain ⟨z1, z2⟩ := v2 hz
                obtain ⟨-, v0, g1, g2, rfl, rfl⟩ := v1 z1
                have hd := dr_4 hD g2
                have h5 : tSc t 4 v0 5 0 = t 5 0 := tSc_ne (by omega)
                have hd2 := dr_li hd (by rw [h5]; exact hL)
                rw [z2]
                exact ⟨_, hd2, by rw [tSc_at, h5]; omega⟩
            · have n6 : fX5_spells F (nI n) (nI b) (nI a) (nI (srt kd)) c 6 = some 0 := by rw [sp 6 (by decide), decide_eq_false k6]; rfl
              have e6 : fX10_eats F (nI a) (nI b) (nI n) (nI kd) nu 0 m 6 = _ := eatN (j := 6) q4 (by decide) k6
              have h0 : ¬ (if kd = 11 then (1 : Int32) else 2) = 0 := by split <;> decide
              have s1 : RC F n c m lb (if kd = 11 then (1 : Int32) else 2) (nI a) (nI b) (nI a) (nI (srt kd)) va (nI a) (nI b) (nI kd) nu (if kd = 11 then (1 : Int32) else 2) (nI a) := ⟨p, a, b, kd, v, hT, ⟨rfl, rfl, rfl, hva⟩, Or.inr ⟨h0, rfl, rfl⟩⟩
              obtain ⟨f2, pl2, nx2', st2, so2, va2, at2, bh2, ki2, nu2, w2, wa2, li2, c2, r2, s2, v2⟩ := p_end2 (all := all) (fr := fr) (fs := fs) (hs := hs) (lit := lit) (sc := sc) (sm := sm) (ts := ts) (wh := wh) (wl := wl) (wq := wq) (xs := xs) (ch := nI (t 0 0)) (wc := nI (t 1 0)) (la := la) (th := th) (fi := fi) (li := li) (thr := thr) (tpd := tpd) (fk := fk) (fp := fp) (a1 := a1) (k53 := fun v_thrown v_taped v_at v_behind v_size v_kind v_number v_wrong v_wrongAt v_faultKind v_faultPlace v_all v_fresh => fX10_town_L53 F m a1 fuel v_thrown v_taped v_at v_behind v_size v_kind v_number v_wrong v_wrongAt v_faultKind v_faultPlace v_all v_fresh) hTok s1
              refine ⟨f2, pl2, nx2', st2, so2, va2, at2, bh2, ki2, nu2, w2, wa2, nI (t 0 0), nI (t 1 0), la, th, fi, li2, fs, hs, lit, sc, sm, ts, wh, wl, wq, xs, upd fr 5 (fr 5 + 1), ?_, ?_, s2, fun hz => absurd (v2 hz).1 h0⟩
              · unfold fX5_readLine
                rw [n0, ob_s, if_pos rfl, n3, ob_s, if_pos rfl, n4, ob_s, if_pos rfl, n5, ob_s, if_pos rfl, n6, ob_s, if_pos rfl, blm0 q4, ob_s]
                exact c2
              · rw [fX10_town_L53, if_pos rfl, if_neg hki, i0, ob_s, decide_eq_false k0, bI_0 rfl, if_pos rfl, i3, ob_s, decide_eq_false k3, bI_0 rfl, if_pos rfl, e4, ob_s]
                dsimp only
                rw [if_pos rfl, e5, ob_s]
                dsimp only
                rw [if_pos rfl, e6, ob_s]
                dsimp only
                rw [if_pos rfl, fail0 q4, ob_s]
                exact r2
  · exact absurd rfl z
