theorem RC_lb {F n lb lb' : Nat} {c m : Nat → Int32} {f pl nx st so va at' bh ki nu w wa : Int32} (h : RC F n c m lb f pl nx st so va at' bh ki nu w wa) (hl : lb' ≤ lb) : RC F n c m lb' f pl nx st so va at' bh ki nu w wa := by
  obtain ⟨p, a, b, kd, v, hT, hc, h⟩ := h
  refine ⟨p, a, b, kd, v, hT, hc, ?_⟩
  rcases h with ⟨h1, h2, h3, h4, h5⟩ | h
  · exact Or.inl ⟨h1, h2, h3, by omega, h5⟩
  · exact Or.inr h
/-- the class has some token -/
def gT (F n : Nat) (c m : Nat → Int32) (nx st so va : Int32) : Prop := ∃ p a b kd v, tokP F n c m p a b kd v ∧ cT a b kd v nx st so va
theorem onlyC_st {F n : Nat} {c m : Nat → Int32} {f pl nx st so va lo hi : Int32} (hTok : ∀ q, q ≤ n → ∃ a b kd v, tokP F n c m q a b kd v) (hg : gT F n c m nx st so va) (hf : ¬ f = 0) : ∃ x nx' st' so' va', fX5_onlyNumber F f pl (nI n) nx st so va c lo hi = some (x, f, pl, nx', st', so', va') ∧ gT F n c m nx' st' so' va' := by
  obtain ⟨p, a, b, kd, v, hT, rfl, rfl, rfl, hva⟩ := hg
  obtain ⟨a1, b1, kd1, v1, hT1⟩ := hTok b hT.1.2.2.1
  obtain ⟨x, x1, x2⟩ := numC_st (pl := pl) (st := nI a) (so := nI (srt kd)) (va := va) (lo := lo) (hi := hi) hT1 hf
  obtain ⟨a2, b2, kd2, v2, hT2⟩ := hTok b1 hT1.1.2.2.1
  obtain ⟨y, y1, y2⟩ := hT2.2.1 (nI a1) (nI (srt kd1)) x
  refine ⟨x, nI b2, nI a2, nI (srt kd2), y, ?_, b1, a2, b2, kd2, v2, hT2, rfl, rfl, rfl, y2⟩
  unfold fX5_onlyNumber
  rw [x1, ob_s]
  dsimp only
  rw [y1, ob_s]
theorem bound_C {F C : Nat} {fs ts : Nat → Int32} {x y : Int32} (hC : C < 10) : fX7_bound F (nI (C + 1)) fs ts x y = some (upd fs C x, upd ts C y) := by
  unfold fX7_bound
  rw [if_neg (nI_nle (by omega) (by omega)), show nI (C + 1) - (1 : Int32) = nI C from nI_pred C, vb_nI hC (by decide), og_s, ol_s, og_s, ol_s, nI_clamp (by omega)]
theorem spl_any {F n w : Nat} {c m : Nat → Int32} {nx st so va : Int32} (hg : gT F n c m nx st so va) (hw : w < 7) : ∃ r : Bool, fX5_spells F (nI n) nx st so c w = some (bI r) := by
  obtain ⟨p, a, b, kd, v, hT, rfl, rfl, rfl, hva⟩ := hg
  exact ⟨_, hT.2.2.2 w hw⟩
theorem L114_st {F n C : Nat} {c m fs hs lit sc sm ts xs : Nat → Int32} {x3 f pl nx st so va : Int32} (hTok : ∀ q, q ≤ n → ∃ a b kd v, tokP F n c m q a b kd v) (hC : C < 10) (hg : gT F n c m nx st so va) (hf : ¬ f = 0) : ∃ nx' st' so' va' fs' ts', fX5_readChimney_L114 F (nI n) c x3 f pl nx st so va (nI (C + 1)) fs hs lit sc sm ts xs = some (f, pl, nx', st', so', va', nI (C + 1), fs', hs, lit, sc, sm, ts', xs) ∧ gT F n c m nx' st' so' va' := by
  obtain ⟨r, hr⟩ := spl_any (w := 2) hg (by decide)
  unfold fX5_readChimney_L114 fX5_readChimney_L136
  rw [hr, ob_s]
  cases r with
  | false =>
    refine ⟨nx, st, so, va, upd fs C x3, upd ts C 23, ?_, hg⟩
    rw [bI_0 rfl, if_pos rfl, bound_C hC, ob_s]
  | true =>
    obtain ⟨x, nx', st', so', va', e1, e2⟩ := onlyC_st (pl := pl) (lo := x3) (hi := 23) hTok hg hf
    refine ⟨nx', st', so', va', upd fs C x3, upd ts C x, ?_, e2⟩
    rw [bI_1 rfl, if_neg one0, e1, ob_s]
    dsimp only
    rw [bound_C hC, ob_s]
theorem L95_st {F n C : Nat} {c m fs hs lit sc sm ts xs : Nat → Int32} {f pl nx st so va : Int32} (hTok : ∀ q, q ≤ n → ∃ a b kd v, tokP F n c m q a b kd v) (hC : C < 10) (hg : gT F n c m nx st so va) (hf : ¬ f = 0) : ∃ nx' st' so' va' fs' ts', fX5_readChimney_L95 F (nI n) c f pl nx st so va (nI (C + 1)) fs hs lit sc sm ts xs = some (f, pl, nx', st', so', va', nI (C + 1), fs', hs, lit, sc, sm, ts', xs) ∧ gT F n c m nx' st' so' va' := by
  obtain ⟨r, hr⟩ := spl_any (w := 1) hg (by decide)
  unfold fX5_readChimney_L95
  rw [hr, ob_s]
  cases r with
  | false =>
    rw [bI_0 rfl, if_pos rfl]
    exact L114_st hTok hC hg hf
  | true =>
    obtain ⟨x, nx', st', so', va', e1, e2⟩ := onlyC_st (pl := pl) (lo := 0) (hi := 23) hTok hg hf
    rw [bI_1 rfl, if_neg one0, e1, ob_s]
    dsimp only
    exact L114_st hTok hC e2 hf
theorem RC_g {F n lb : Nat} {c m : Nat → Int32} {f pl nx st so va at' bh ki nu w wa : Int32} (h : RC F n c m lb f pl nx st so va at' bh ki nu w wa) : gT F n c m nx st so va := by
  obtain ⟨p, a, b, kd, v, hT, hc, -⟩ := h
  exact ⟨p, a, b, kd, v, hT, hc⟩
theorem RC_w {F n lb : Nat} {c m : Nat → Int32} {f pl nx st so va at' bh ki nu w wa : Int32} (h : RC F n c m lb f pl nx st so va at' bh ki nu w wa) : w = f := by
  obtain ⟨p, a, b, kd, v, hT, hc, h⟩ := h
  rcases h with ⟨h1, h2, -⟩ | ⟨-, h2, -⟩
  · rw [h1, h2]
  · exact h2
theorem RC_bad {F n lb lb' : Nat} {c m : Nat → Int32} {f pl nx st so va nx' st' so' va' at' bh ki nu w wa at'' bh' ki' nu' : Int32} (h : RC F n c m lb f pl nx st so va at' bh ki nu w wa) (hf : ¬ f = 0) (hg : gT F n c m nx' st' so' va') : RC F n c m lb' f pl nx' st' so' va' at'' bh' ki' nu' w wa := by
  obtain ⟨p, a, b, kd, v, hT, hc, h⟩ := h
  obtain ⟨p', a', b', kd', v', hT', hc'⟩ := hg
  refine ⟨p', a', b', kd', v', hT', hc', ?_⟩
  rcases h with ⟨h1, -⟩ | h
  · exact absurd h1 hf
  · exact Or.inr h
/-- a key with a number behind it: 'from' or 'to' -/
theorem key2 {F n lb w lo : Nat} {c m : Nat → Int32} {pl nx st so va at' bh ki nu wa : Int32} (hTok : ∀ q, q ≤ n → ∃ a b kd v, tokP F n c m q a b kd v) (hw : w < 7) (hlo : lo ≤ 23) (hC : RC F n c m lb 0 pl nx st so va at' bh ki nu 0 wa) :
    (fX5_spells F (nI n) nx st so c w = some 0 ∧ fX10_eats F at' bh (nI n) ki nu 0 m (nI w) = some (0, at', bh, ki, nu)) ∨ ∃ x f' pl' nx' st' so' va' a1 b1 k1 n1 y at'' bh' ki' nu' w' wa', fX5_spells F (nI n) nx st so c w = some 1 ∧ fX5_onlyNumber F 0 pl (nI n) nx st so va c (nI lo) 23 = some (x, f', pl', nx', st', so', va') ∧ fX10_eats F at' bh (nI n) ki nu 0 m (nI w) = some (1, a1, b1, k1, n1) ∧ fX10_takes F a1 b1 (nI n) k1 n1 0 wa m (nI lo) 23 = some (y, at'', bh', ki', nu', w', wa') ∧ RC F n c m lb f' pl' nx' st' so' va' at'' bh' ki' nu' w' wa' ∧ (f' = 0 → ∃ v, lo ≤ v ∧ v ≤ 23 ∧ x = nI v ∧ y = nI v) := by
  obtain ⟨p, a, b, kd, v, hT, ⟨rfl, rfl, rfl, hva⟩, h⟩ := hC
  rcases h with ⟨-, -, rfl, hlb, rfl, rfl, rfl, hnu⟩ | ⟨z, -⟩
  · have hk := hT.1.2.2.2.1
    have hs := hT.2.2.2 w hw
    by_cases e : kd = w
    · right
      subst e
      obtain ⟨at0, bh0, ki0, nu0, n1, n2⟩ := nx2 (at' := nI a) (ki := nI kd) (nu := nu) (wa := wa) hTok hT hlb (by omega)
      obtain ⟨x, f', pl', nx', st', so', va', y, at'', bh', ki', nu', w', wa', c1, r1, s1, v1⟩ := only2 (lo := lo) (hi := 23) (st := nI a) (so := nI (srt kd)) (va := va) hTok (by omega) (by decide) n2
      refine ⟨x, f', pl', nx', st', so', va', at0, bh0, ki0, nu0, y, at'', bh', ki', nu', w', wa', ?_, c1, ?_, r1, RC_lb s1 (by omega), fun z => (v1 z).2⟩
      · rw [hs, decide_eq_true rfl]; rfl
      · unfold fX10_eats
        rw [is0 hk hk, ob_s, decide_eq_true rfl, bI_1 rfl, if_neg one0, n1, ob_s]
    · left
      exact ⟨by rw [hs, decide_eq_false e]; rfl, eatN hk (by omega) e⟩
  · exact absurd rfl z
/-- the reference's 'from' and on -/
def rfF (F : Nat) (v_size : Int32) (v_tape : Nat → Int32) (x1 x2 x3 x4 v_at v_behind v_kind v_number v_wrong v_wrongAt : Int32) (v_fresh : Nat → Int32) : Option (Int32 × Int32 × Int32 × Int32 × Int32 × Int32 × (Nat → Int32)) := ob (fX10_eats F v_at v_behind v_size v_kind v_number v_wrong v_tape (1 : Int32)) (fun o_30 => if o_30.1 = 0 then (fX10_readChimney_L158 F v_size v_tape x1 x2 x3 x4 (0 : Int32) o_30.2.1 o_30.2.2.1 o_30.2.2.2.1 o_30.2.2.2.2 v_wrong v_wrongAt v_fresh) else (ob (fX10_takes F o_30.2.1 o_30.2.2.1 v_size o_30.2.2.2.1 o_30.2.2.2.2 v_wrong v_wrongAt v_tape (0 : Int32) (23 : Int32)) (fun o_32 => fX10_readChimney_L158 F v_size v_tape x1 x2 x3 x4 o_32.1 o_32.2.1 o_32.2.2.1 o_32.2.2.2.1 o_32.2.2.2.2.1 o_32.2.2.2.2.2.1 o_32.2.2.2.2.2.2 v_fresh)))
/-- a chimney told into fresh -/
def frC (fr : Nat → Int32) (C X H A B K : Nat) : Nat → Int32 := upd (upd (upd (upd (upd (upd fr (6 + C) (nI X)) (16 + C) (nI H)) (26 + C) (nI A)) (36 + C) (nI B)) (46 + C) (nI K)) 0 (nI (C + 1))
theorem L181_ok {F n C X H A B K : Nat} {m fr : Nat → Int32} {at' bh ki nu wa : Int32} (hC : C < 10) (h0 : fr 0 = nI C) : fX10_readChimney_L181 F (nI n) m (nI C) (nI X) (nI H) (nI K) (nI A) (nI B) at' bh ki nu 0 wa fr = some (at', bh, ki, nu, 0, wa, frC fr C X H A B K) := by
  unfold fX10_readChimney_L181
  rw [if_pos rfl, show (6 : Int32) + nI C = nI (6 + C) from nI_add 6 C, show (16 : Int32) + nI C = nI (16 + C) from nI_add 16 C, show (26 : Int32) + nI C = nI (26 + C) from nI_add 26 C, show (36 : Int32) + nI C = nI (36 + C) from nI_add 36 C, show (46 : Int32) + nI C = nI (46 + C) from nI_add 46 C, vb_nI (show 6 + C < 162 by omega) (by decide), og_s, ol_s, vb_nI (show 16 + C < 162 by omega) (by decide), og_s, ol_s, vb_nI (show 26 + C < 162 by omega) (by decide), og_s, ol_s, vb_nI (show 36 + C < 162 by omega) (by decide), og_s, ol_s, vb_nI (show 46 + C < 162 by omega) (by decide), og_s, ol_s, ol_s, nI_clamp (by omega), nI_clamp (by omega), nI_clamp (by omega), nI_clamp (by omega), nI_clamp (by omega)]
  have hu : upd (upd (upd (upd (upd fr (6 + C) (nI X)) (16 + C) (nI H)) (26 + C) (nI A)) (36 + C) (nI B)) (46 + C) (nI K) (0 : Int32).toNatClampNeg + 1 = nI (C + 1) := by
    show upd (upd (upd (upd (upd fr (6 + C) (nI X)) (16 + C) (nI H)) (26 + C) (nI A)) (36 + C) (nI B)) (46 + C) (nI K) 0 + 1 = _
    rw [pk_un (by omega), pk_un (by omega), pk_un (by omega), pk_un (by omega), pk_un (by omega), h0, nI_1]
  rw [hu]
  rfl
theorem L181_st {F : Nat} {sz x1 x2 x3 x4 x5 s0 at' bh ki nu w wa : Int32} {m fr : Nat → Int32} (hf : ¬ w = 0) : fX10_readChimney_L181 F sz m x1 x2 x3 x4 x5 s0 at' bh ki nu w wa fr = some (at', bh, ki, nu, w, wa, fr) := by
  unfold fX10_readChimney_L181
  rw [if_neg hf]
theorem L158_st {F : Nat} {sz x1 x2 x3 x4 s0 at' bh ki nu w wa : Int32} {m fr : Nat → Int32} (hf : ¬ w = 0) : fX10_readChimney_L158 F sz m x1 x2 x3 x4 s0 at' bh ki nu w wa fr = some (at', bh, ki, nu, w, wa, fr) := by
  unfold fX10_readChimney_L158
  rw [eatS hf, ob_s]
  dsimp only
  rw [if_pos rfl, L181_st hf]
theorem p_114_2 {F n lb C X H A K : Nat} {c m fs hs lit sc sm ts xs fr : Nat → Int32} {pl nx st so va at' bh ki nu wa : Int32} (hTok : ∀ q, q ≤ n → ∃ a b kd v, tokP F n c m q a b kd v) (hC : C < 10) (h0 : fr 0 = nI C) (hA : A ≤ 23) (hS : RC F n c m lb 0 pl nx st so va at' bh ki nu 0 wa) :
    ∃ f' pl' nx' st' so' va' fs' ts' at'' bh' ki' nu' w' wa' fr', fX5_readChimney_L114 F (nI n) c (nI A) 0 pl nx st so va (nI (C + 1)) fs hs lit sc sm ts xs = some (f', pl', nx', st', so', va', nI (C + 1), fs', hs, lit, sc, sm, ts', xs) ∧ fX10_readChimney_L158 F (nI n) m (nI C) (nI X) (nI H) (nI K) (nI A) at' bh ki nu 0 wa fr = some (at'', bh', ki', nu', w', wa', fr') ∧ RC F n c m lb f' pl' nx' st' so' va' at'' bh' ki' nu' w' wa' ∧ (f' = 0 → ∃ B, A ≤ B ∧ B ≤ 23 ∧ fs' = upd fs C (nI A) ∧ ts' = upd ts C (nI B) ∧ fr' = frC fr C X H A B K) := by
  unfold fX5_readChimney_L114 fX10_readChimney_L158 fX5_readChimney_L136
  rcases key2 (w := 2) (lo := A) hTok (by decide) hA hS with ⟨e1, e2⟩ | ⟨x, f', pl', nx', st', so', va', a1, b1, k1, n1, y, at'', bh', ki', nu', w', wa', e1, e2, e3, e4, e5, e6⟩
  · have e2' : fX10_eats F at' bh (nI n) ki nu 0 m 2 = _ := e2
    refine ⟨0, pl, nx, st, so, va, upd fs C (nI A), upd ts C 23, at', bh, ki, nu, 0, wa, frC fr C X H A 23 K, ?_, ?_, hS, fun _ => ⟨23, hA, Nat.le_refl _, rfl, rfl, rfl⟩⟩
    · rw [e1, ob_s, if_pos rfl, bound_C hC, ob_s]
    · rw [e2', ob_s]
      dsimp only
      rw [if_pos rfl]
      exact L181_ok (B := 23) hC h0
  · have e3' : fX10_eats F at' bh (nI n) ki nu 0 m 2 = _ := e3
    rw [e1, ob_s, if_neg one0, e2, ob_s]
    dsimp only
    rw [bound_C hC, ob_s, e3', ob_s]
    dsimp only
    rw [if_neg one0, e4, ob_s]
    dsimp only
    have hw := RC_w e5
    by_cases hz : f' = 0
    · obtain ⟨B, B1, B2, B3, B4⟩ := e6 hz
      have hw0 : w' = 0 := by rw [hw, hz]
      subst hw0
      rw [B4, L181_ok hC h0]
      exact ⟨f', pl', nx', st', so', va', _, _, at'', bh', ki', nu', 0, wa', _, rfl, rfl, e5, fun _ => ⟨B, B1, B2, rfl, by rw [B3], rfl⟩⟩
    · rw [L181_st (by rw [hw]; exact hz)]
      exact ⟨f', pl', nx', st', so', va', _, _, at'', bh', ki', nu', w', wa', fr, rfl, rfl, e5, fun z => absurd z hz⟩
theorem p_95_2 {F n lb C X H K : Nat} {c m fs hs lit sc sm ts xs fr : Nat → Int32} {pl nx st so va at' bh ki nu wa : Int32} (hTok : ∀ q, q ≤ n → ∃ a b kd v, tokP F n c m q a b kd v) (hC : C < 10) (h0 : fr 0 = nI C) (hS : RC F n c m lb 0 pl nx st so va at' bh ki nu 0 wa) :
    ∃ f' pl' nx' st' so' va' fs' ts' at'' bh' ki' nu' w' wa' fr', fX5_readChimney_L95 F (nI n) c 0 pl nx st so va (nI (C + 1)) fs hs lit sc sm ts xs = some (f', pl', nx', st', so', va', nI (C + 1), fs', hs, lit, sc, sm, ts', xs) ∧ rfF F (nI n) m (nI C) (nI X) (nI H) (nI K) at' bh ki nu 0 wa fr = some (at'', bh', ki', nu', w', wa', fr') ∧ RC F n c m lb f' pl' nx' st' so' va' at'' bh' ki' nu' w' wa' ∧ (f' = 0 → ∃ A B, A ≤ B ∧ B ≤ 23 ∧ fs' = upd fs C (nI A) ∧ ts' = upd ts C (nI B) ∧ fr' = frC fr C X H A B K) := by
  unfold fX5_readChimney_L95 rfF
  rcases key2 (w := 1) (lo := 0) hTok (by decide) (by omega) hS with ⟨e1, e2⟩ | ⟨x, f', pl', nx', st', so', va', a1, b1, k1, n1, y, at'', bh', ki', nu', w', wa', e1, e2, e3, e4, e5, e6⟩
  · have e2' : fX10_eats F at' bh (nI n) ki nu 0 m 1 = _ := e2
    rw [e1, ob_s, if_pos rfl, e2', ob_s]
    dsimp only
    rw [if_pos rfl]
    obtain ⟨f', pl', nx', st', so', va', fs', ts', at'', bh', ki', nu', w', wa', fr', g1, g2, g3, g4⟩ := p_114_2 (X := X) (H := H) (A := 0) (K := K) (fs := fs) (hs := hs) (lit := lit) (sc := sc) (sm := sm) (ts := ts) (xs := xs) hTok hC h0 (by omega) hS
    exact ⟨f', pl', nx', st', so', va', fs', ts', at'', bh', ki', nu', w', wa', fr', g1, g2, g3, fun z => by
      obtain ⟨B, B1, B2, B3⟩ := g4 z
      exact ⟨0, B, B1, B2, B3⟩⟩
  · have e3' : fX10_eats F at' bh (nI n) ki nu 0 m 1 = _ := e3
    have e2' : fX5_onlyNumber F 0 pl (nI n) nx st so va c 0 23 = _ := e2
    have e4' : fX10_takes F a1 b1 (nI n) k1 n1 0 wa m 0 23 = _ := e4
    rw [e1, ob_s, if_neg one0, e2', ob_s]
    dsimp only
    rw [e3', ob_s]
    dsimp only
    rw [if_neg one0, e4', ob_s]
    dsimp only
    have hw := RC_w e5
    by_cases hz : f' = 0
    · obtain ⟨A, A1, A2, A3, A4⟩ := e6 hz
      have hw0 : w' = 0 := by rw [hw, hz]
      subst hw0
      subst hz
      rw [A3, A4]
      obtain ⟨f2, pl2, nx2, st2, so2, va2, fs', ts', at2, bh2, ki2, nu2, w2, wa2, fr', g1, g2, g3, g4⟩ := p_114_2 (X := X) (H := H) (A := A) (K := K) (fs := fs) (hs := hs) (lit := lit) (sc := sc) (sm := sm) (ts := ts) (xs := xs) hTok hC h0 A2 e5
      exact ⟨f2, pl2, nx2, st2, so2, va2, fs', ts', at2, bh2, ki2, nu2, w2, wa2, fr', g1, g2, g3, fun z => by
        obtain ⟨B, B1, B2, B3⟩ := g4 z
        exact ⟨A, B, B1, B2, B3⟩⟩
    · obtain ⟨nx2, st2, so2, va2, fs', ts', g1, g2⟩ := L114_st (x3 := x) (pl := pl') (fs := fs) (hs := hs) (lit := lit) (sc := sc) (sm := sm) (ts := ts) (xs := xs) hTok hC (RC_g e5) hz
      rw [L158_st (by rw [hw]; exact hz)]
      exact ⟨f', pl', nx2, st2, so2, va2, fs', ts', at'', bh', ki', nu', w', wa', fr, g1, rfl, RC_bad e5 hz g2, fun z => absurd z hz⟩
