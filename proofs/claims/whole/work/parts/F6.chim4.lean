/-- a chimney, behind its word -/
theorem p_chim2 {F n lb p a b v C : Nat} {c m fs hs lit sc sm ts xs fr : Nat → Int32} {va nu wa : Int32} (hTok : ∀ q, q ≤ n → ∃ a b kd v, tokP F n c m q a b kd v) (hF : 20 < F) (hT : tokP F n c m p a b 0 v) (hlb : lb ≤ a) (hC10 : C ≤ 10) (h0 : fr 0 = nI C) :
    ∃ f' pl' nx' st' so' va' ch' fs' hs' lit' sc' sm' ts' xs' at'' bh' ki' nu' w' wa' fr', fX5_readChimney F 0 (-1) (nI n) (nI b) (nI a) (nI (srt 0)) va (nI C) c fs hs lit sc sm ts xs = some (f', pl', nx', st', so', va', ch', fs', hs', lit', sc', sm', ts', xs') ∧ fX10_readChimney F (nI a) (nI b) (nI n) (nI 0) nu 0 wa fr m = some (at'', bh', ki', nu', w', wa', fr') ∧ RC F n c m (lb + 1) f' pl' nx' st' so' va' at'' bh' ki' nu' w' wa' ∧ (f' = 0 → ∃ X H A B K S frm, C < 10 ∧ X ≤ 39 ∧ H ≤ 12 ∧ A ≤ B ∧ B ≤ 23 ∧ 1 ≤ K ∧ ch' = nI (C + 1) ∧ xs' = upd xs C (nI X) ∧ hs' = upd hs C (nI H) ∧ lit' = upd lit C (-1) ∧ fs' = upd fs C (nI A) ∧ ts' = upd ts C (nI B) ∧ smR C 0 K S sc sm fr sc' sm' frm ∧ fr' = frC frm C X H A B K) := by
  have e1 : fr (0 : Int32).toNatClampNeg = nI C := h0
  unfold fX5_readChimney fX10_readChimney
  rw [e1, ol_s]
  by_cases e : C = 10
  · refine ⟨4, nI a, nI b, nI a, nI (srt 0), va, nI C, fs, hs, lit, sc, sm, ts, xs, nI a, nI b, nI 0, nu, 4, nI a, fr, ?_, ?_, ⟨p, a, b, 0, v, hT, ⟨rfl, rfl, rfl, fun z => by cases z⟩, Or.inr ⟨by decide, rfl, rfl⟩⟩, fun z => absurd z (by decide)⟩
    · rw [if_pos (show nI C = 10 by rw [e]; rfl), blm0 (by decide), ob_s]; rfl
    · rw [if_pos (show nI C = 10 by rw [e]; rfl), fail0 (by decide), ob_s]
      rfl
  · have hC : C < 10 := by omega
    have hne : ¬ nI C = 10 := nI_ne (a := C) (b := 10) (by omega) (by decide) e
    rw [if_neg hne, if_neg hne, fX10_readChimney_L18, if_pos rfl]
    obtain ⟨at0, bh0, ki0, nu0, n1, n2⟩ := nx2 (at' := nI a) (ki := nI 0) (nu := nu) (wa := wa) hTok hT hlb (by decide)
    rw [n1, ob_s]
    dsimp only
    obtain ⟨p1, x1, f1, pl1, st1, so1, y1, at1, bh1, ki1, nu1, w1, wa1, c1, r1, s1, v1⟩ := num2 (lo := 0) (hi := 39) (st := nI a) (so := nI (srt 0)) (va := va) hTok (by decide) (by decide) n2
    obtain ⟨p2, x2, f2, pl2, st2, so2, y2, at2, bh2, ki2, nu2, w2, wa2, c2, r2, s2, v2⟩ := num2 (lo := 0) (hi := 12) (st := st1) (so := so1) (va := x1) hTok (by decide) (by decide) s1
    obtain ⟨p3, x3, f3, pl3, st3, so3, y3, at3, bh3, ki3, nu3, w3, wa3, c3, r3, s3, v3⟩ := num2 (lo := 1) (hi := 9) (st := st2) (so := so2) (va := x2) hTok (by decide) (by decide) s2
    obtain ⟨nx4, st4, so4, va4, c4, s4⟩ := tk2 (st := st3) (so := so3) (va := x3) hTok s3
    have c1' : fX5_number F 0 (-1) (nI n) (nI b) (nI a) (nI (srt 0)) va c 0 39 = _ := c1
    have c2' : fX5_number F f1 pl1 (nI n) (nI p1) st1 so1 x1 c 0 12 = _ := c2
    have c3' : fX5_number F f2 pl2 (nI n) (nI p2) st2 so2 x2 c 1 9 = _ := c3
    have r1' : fX10_takes F at0 bh0 (nI n) ki0 nu0 0 wa m 0 39 = _ := r1
    have r2' : fX10_takes F at1 bh1 (nI n) ki1 nu1 w1 wa1 m 0 12 = _ := r2
    have r3' : fX10_takes F at2 bh2 (nI n) ki2 nu2 w2 wa2 m 1 9 = _ := r3
    have hadd : fX7_addChimney F (nI C) hs lit sc xs x1 x2 = some (nI (C + 1), upd hs C x2, upd lit C (-1), upd sc C 0, upd xs C x1) := by
      unfold fX7_addChimney
      rw [if_neg (show ¬ (10 : Int32) ≤ nI C from nI_ge (a := C) (b := 10) hC (by decide)), vb_nI hC (by decide), og_s, ol_s, og_s, ol_s, og_s, ol_s, og_s, ol_s, ol_s, nI_clamp (by omega), show nI C + (1 : Int32) = nI (C + 1) from nI_1 C]
    have hsm : fX7_addSmoke F (nI (C + 1)) (upd sc C 0) sm x3 = some (upd (upd sc C 0) C (nI 1), upd sm (6 * C) x3) := addSm (F := F) (k := 0) (sc := upd sc C 0) (sm := sm) (x := x3) hC (by decide) pk_us
    rw [c1', ob_s]
    dsimp only
    rw [c2', ob_s]
    dsimp only
    rw [hadd, ob_s]
    dsimp only
    rw [c3', ob_s]
    dsimp only
    rw [hsm, ob_s]
    dsimp only
    rw [c4, ob_s]
    dsimp only
    rw [r1', ob_s]
    dsimp only
    rw [r2', ob_s]
    dsimp only
    obtain ⟨fu, hfu⟩ : ∃ fu, F = fu + 1 := ⟨F - 1, by omega⟩
    have r49 : ∀ fr0, fX10_readChimney_L49 F (nI n) m F (nI C) y1 y2 0 at2 bh2 ki2 nu2 w2 wa2 fr0 = fX10_readChimney_L99 F (nI n) m (fun x1 x2 x3 x4 v_at v_behind v_kind v_number v_wrong v_wrongAt v_fresh => fX10_readChimney_L49 F (nI n) m fu x1 x2 x3 x4 v_at v_behind v_kind v_number v_wrong v_wrongAt v_fresh) (nI C) y1 y2 0 at2 bh2 ki2 nu2 w2 wa2 fr0 := by
      intro fr0
      have h49 : fX10_readChimney_L49 F (nI n) m (fu + 1) (nI C) y1 y2 0 at2 bh2 ki2 nu2 w2 wa2 fr0 = fX10_readChimney_L63 F (nI n) m (fun x1 x2 x3 x4 v_at v_behind v_kind v_number v_wrong v_wrongAt v_fresh => fX10_readChimney_L49 F (nI n) m fu x1 x2 x3 x4 v_at v_behind v_kind v_number v_wrong v_wrongAt v_fresh) (nI C) y1 y2 (nI 0) at2 bh2 ki2 nu2 w2 wa2 fr0 := by
        rw [fX10_readChimney_L49, if_pos rfl]; rfl
      rw [← hfu] at h49
      rw [h49, rc63_L99 (by decide)]
      rfl
    rw [r49, fX10_readChimney_L99, r3', ob_s]
    dsimp only
    have hw3 := RS_w s3
    by_cases hz : f3 = 0
    · obtain ⟨q1, sv, sv1, sv2, sv3, sv4⟩ := v3 hz
      obtain ⟨q2, H, h1, h2, h3, h4⟩ := v2 q1
      obtain ⟨q3, X, g1, g2, g3, g4⟩ := v1 q2
      have hpl : pl3 = -1 := by
        rcases s3.2 with ⟨-, -, z, -⟩ | ⟨z, -⟩
        · exact z
        · exact absurd hz z
      have hw0 : w3 = 0 := by rw [hw3, hz]
      subst hz
      subst hpl
      subst hw0
      have ei : (66 : Int32) + (6 : Int32) * nI C + 0 = nI (66 + 6 * C + 0) := by
        rw [show (66 : Int32) = nI 66 from rfl, show (6 : Int32) = nI 6 from rfl, pk_mul, nI_add, show (0 : Int32) = nI 0 from rfl, nI_add]
      rw [if_pos rfl, ei, vb_nI (show 66 + 6 * C + 0 < 162 by omega) (by decide), og_s, ol_s, ol_s, show (0 : Int32) + 1 = nI 1 from rfl, nI_clamp (by omega), g4, h4, g3, h3, sv3, sv4, show (1 : Int32) = nI 1 from rfl]
      rcases p_smk2 (X := X) (H := H) (fs := fs) (hs := upd hs C (nI H)) (lit := upd lit C (-1)) (ts := ts) (xs := upd xs C (nI X)) hTok hC 5 1 (lb + 1) F fu nx4 st4 so4 va4 at3 bh3 ki3 nu3 wa3 (upd (upd sc C 0) C (nI 1)) (upd sm (6 * C) (nI sv)) (upd fr (66 + 6 * C + 0) (nI sv)) (by omega) (by omega) (by omega) (by omega) pk_us s4 with ⟨K, S, nx5, st5, so5, va5, at5, bh5, ki5, nu5, wa5, sc5, sm5, fr5, a1, a2, a3, a4⟩ | ⟨f5, pl5, nx5, st5, so5, va5, at5, bh5, ki5, nu5, wa5, sc5, sm5, fr5, a0, a1, a2, a3⟩
      · obtain ⟨z1, z2, z3, z4, z5, z6, z7⟩ := a4
        have h50 : fr5 0 = nI C := by rw [z7 0 (by omega), pk_un (by omega), h0]
        obtain ⟨f6, pl6, nx6, st6, so6, va6, fs6, ts6, at6, bh6, ki6, nu6, w6, wa6, fr6, b1, b2, b3, b4⟩ := p_95_2 (X := X) (H := H) (K := K) (fs := fs) (hs := upd hs C (nI H)) (lit := upd lit C (-1)) (sc := sc5) (sm := sm5) (ts := ts) (xs := upd xs C (nI X)) hTok hC h50 a3
        refine ⟨f6, pl6, nx6, st6, so6, va6, nI (C + 1), fs6, upd hs C (nI H), upd lit C (-1), sc5, sm5, ts6, upd xs C (nI X), at6, bh6, ki6, nu6, w6, wa6, fr6, a1.trans b1, a2.trans b2, b3, fun hz => ?_⟩
        obtain ⟨A, B, b5, b6, b7, b8, b9⟩ := b4 hz
        refine ⟨X, H, A, B, K, fun i => if i = 0 then sv else S i, fr5, hC, g2, h2, b5, b6, z1, rfl, rfl, rfl, rfl, b7, b8, ⟨Nat.zero_le _, z2, z3, fun j hj => by rw [z4 j hj, pk_un hj, pk_un hj], fun i i1 i2 => ?_, fun j hj => by rw [z6 j (by omega), pk_un (by omega)], fun j hj => by rw [z7 j (by omega), pk_un (by omega)]⟩, b9⟩
        dsimp only
        by_cases e0 : i = 0
        · subst e0
          rw [if_pos rfl, z6 _ (by omega), z7 _ (by omega), Nat.add_zero, pk_us, Nat.add_zero, pk_us]
          exact ⟨sv1, sv2, rfl, rfl⟩
        · rw [if_neg e0]
          exact z5 i (by omega) i2
      · obtain ⟨nx6, st6, so6, va6, fs6, ts6, b1, b2⟩ := L95_st (pl := pl5) (fs := fs) (hs := upd hs C (nI H)) (lit := upd lit C (-1)) (sc := sc5) (sm := sm5) (ts := ts) (xs := upd xs C (nI X)) hTok hC (RC_g a3) a0
        have hRC6 : RC F n c m (lb + 1) f5 pl5 nx6 st6 so6 va6 at5 bh5 ki5 nu5 f5 pl5 := by
          obtain ⟨p', a', b', kd', v', hT', hc'⟩ := b2
          exact ⟨p', a', b', kd', v', hT', hc', Or.inr ⟨a0, rfl, rfl⟩⟩
        exact ⟨f5, pl5, nx6, st6, so6, va6, nI (C + 1), fs6, _, _, sc5, sm5, ts6, _, at5, bh5, ki5, nu5, f5, pl5, fr5, a1.trans b1, a2, hRC6, fun z => absurd z a0⟩
    · have hl63 : fX5_readChimney_L63 F (nI n) c F 1 f3 pl3 nx4 st4 so4 va4 (nI (C + 1)) fs (upd hs C x2) (upd lit C (-1)) (upd (upd sc C 0) C (nI 1)) (upd sm (6 * C) x3) ts (upd xs C x1) = fX5_readChimney_L95 F (nI n) c f3 pl3 nx4 st4 so4 va4 (nI (C + 1)) fs (upd hs C x2) (upd lit C (-1)) (upd (upd sc C 0) C (nI 1)) (upd sm (6 * C) x3) ts (upd xs C x1) := by
        have : ∀ G, G = fu + 1 → fX5_readChimney_L63 F (nI n) c G 1 f3 pl3 nx4 st4 so4 va4 (nI (C + 1)) fs (upd hs C x2) (upd lit C (-1)) (upd (upd sc C 0) C (nI 1)) (upd sm (6 * C) x3) ts (upd xs C x1) = fX5_readChimney_L95 F (nI n) c f3 pl3 nx4 st4 so4 va4 (nI (C + 1)) fs (upd hs C x2) (upd lit C (-1)) (upd (upd sc C 0) C (nI 1)) (upd sm (6 * C) x3) ts (upd xs C x1) := by
          intro G hG
          subst hG
          rw [fX5_readChimney_L63, if_neg (by decide), if_neg hz, ite_self]
        exact this F hfu
      rw [hl63, if_neg (by rw [hw3]; exact hz)]
      obtain ⟨nx6, st6, so6, va6, fs6, ts6, b1, b2⟩ := L95_st (pl := pl3) (fs := fs) (hs := upd hs C x2) (lit := upd lit C (-1)) (sc := upd (upd sc C 0) C (nI 1)) (sm := upd sm (6 * C) x3) (ts := ts) (xs := upd xs C x1) hTok hC (RC_g s4) hz
      exact ⟨f3, pl3, nx6, st6, so6, va6, nI (C + 1), fs6, _, _, _, _, ts6, _, at3, bh3, ki3, nu3, w3, wa3, fr, b1, rfl, RC_bad s4 hz b2, fun z => absurd z hz⟩
