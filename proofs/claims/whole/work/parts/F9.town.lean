/-- all lines: the two readers end alike -/
theorem p_text2 {F n : Nat} {c m all : Nat → Int32} {thr tpd fk fp a1 a2 : Int32} (hn : n ≤ 900) (hTok : ∀ q, q ≤ n → ∃ a b kd v, tokP F n c m q a b kd v) (hF : 20 < F) :
    ∀ (k lb L fuel fuel' : Nat) (t : Nat → Nat → Nat) (f pl nx st so va at' bh ki nu w wa ch wc la th fi li : Int32) (fs hs lit sc sm ts wh wl wq xs fr : Nat → Int32), lb + k = n + 1 → k < fuel → k < fuel' → L ≤ lb → RC F n c m lb f pl nx st so va at' bh ki nu w wa → (f = 0 → drI t fr ch wc la th fi li fs hs lit sc sm ts wh wl wq xs ∧ t 5 0 ≤ lb) →
    ∃ f' pl' nx' st' so' va' at'' bh' ki' nu' w' wa' ch' wc' la' th' fi' li' fs' hs' lit' sc' sm' ts' wh' wl' wq' xs' fr', fX5_readText_L43 F c a2 fuel (nI L) f pl (nI n) nx st so va ch wc la th fi li fs hs lit sc sm ts wh wl wq xs = some (f', pl', nI n, nx', st', so', va', ch', wc', la', th', fi', li', fs', hs', lit', sc', sm', ts', wh', wl', wq', xs') ∧ fX10_town_L53 F m a1 fuel' thr tpd at' bh (nI n) ki nu w wa fk fp all fr = fX10_town_L204 F m a1 thr tpd at'' bh' (nI n) ki' nu' w' wa' fk fp all fr' ∧ ((f' = 0 ∧ w' = 0 ∧ pl' = -1 ∧ ∃ t', drI t' fr' ch' wc' la' th' fi' li' fs' hs' lit' sc' sm' ts' wh' wl' wq' xs') ∨ (¬ f' = 0 ∧ w' = f' ∧ wa' = pl')) := by
  intro k
  induction k with
  | zero =>
    intro lb L fuel fuel' t f pl nx st so va at' bh ki nu w wa ch wc la th fi li fs hs lit sc sm ts wh wl wq xs fr hk hf hf' hL hC hD
    obtain ⟨fu, rfl⟩ : ∃ fu, fuel = fu + 1 := ⟨fuel - 1, by omega⟩
    obtain ⟨fu', rfl⟩ : ∃ fu, fuel' = fu + 1 := ⟨fuel' - 1, by omega⟩
    by_cases hz : f = 0
    · exfalso
      obtain ⟨p, a, b, kd, v, hT, hcT, hx⟩ := hC
      rcases hx with ⟨-, -, -, hlb, -⟩ | ⟨z, -⟩
      · have := hT.1.2.1
        have := hT.1.2.2.1
        omega
      · exact z hz
    · obtain ⟨p, a, b, kd, v, hT, hcT, hx⟩ := hC
      rcases hx with ⟨z, -⟩ | ⟨-, h2, h3⟩
      · exact absurd z hz
      · refine ⟨f, pl, nx, st, so, va, at', bh, ki, nu, w, wa, ch, wc, la, th, fi, li, fs, hs, lit, sc, sm, ts, wh, wl, wq, xs, fr, ?_, ?_, Or.inr ⟨hz, h2, h3⟩⟩
        · rw [fX5_readText_L43, if_neg hz, ite_self, ite_self]
        · rw [fX10_town_L53, if_neg (by rw [h2]; exact hz)]
  | succ k' ih =>
    intro lb L fuel fuel' t f pl nx st so va at' bh ki nu w wa ch wc la th fi li fs hs lit sc sm ts wh wl wq xs fr hk hf hf' hL hC hD
    obtain ⟨fu, rfl⟩ : ∃ fu, fuel = fu + 1 := ⟨fuel - 1, by omega⟩
    obtain ⟨fu', rfl⟩ : ∃ fu, fuel' = fu + 1 := ⟨fuel' - 1, by omega⟩
    by_cases hz : f = 0
    · have hC0 := hC
      obtain ⟨p, a, b, kd, v, hT, hcT, hx⟩ := hC
      rcases hx with ⟨-, rfl, rfl, hlb, hrT⟩ | ⟨z, -⟩
      · subst hz
        obtain ⟨q1, q2, q3, q4, q5, q6⟩ := hT.1
        obtain ⟨hD1, hD2⟩ := hD rfl
        have hso : so = nI (srt kd) := hcT.2.2.1
        have hki : ki = nI kd := hrT.2.2.1
        by_cases e : kd = 10
        · refine ⟨0, -1, nx, st, so, va, at', bh, ki, nu, 0, wa, ch, wc, la, th, fi, li, fs, hs, lit, sc, sm, ts, wh, wl, wq, xs, fr, ?_, ?_, Or.inl ⟨rfl, rfl, rfl, t, hD1⟩⟩
          · rw [fX5_readText_L43, if_neg (show ¬ (900 : Int32) < nI L from nI_nlt (a := 900) (b := L) (by omega) (by decide)), if_pos (by rw [hso]; exact (srt0 q4).mpr e)]
          · rw [fX10_town_L53, if_pos rfl, if_pos (show ki = 10 by rw [hki, e]; rfl)]
        · have hab := q6 e
          have hso0 : ¬ so = 0 := fun z => e ((srt0 q4).mp (by rw [← hso]; exact z))
          obtain ⟨f1, pl1, nx1, st1, so1, va1, at1, bh1, ki1, nu1, w1, wa1, ch1, wc1, la1, th1, fi1, li1, fs1, hs1, lit1, sc1, sm1, ts1, wh1, wl1, wq1, xs1, fr1, c1, r1, s1, v1⟩ := p_line2 (fuel := fu') (all := all) (thr := thr) (tpd := tpd) (fk := fk) (fp := fp) (a1 := a1) hn hTok hF hC0 hso0 hD1 hD2
          have hD' : ∃ t', f1 = 0 → drI t' fr1 ch1 wc1 la1 th1 fi1 li1 fs1 hs1 lit1 sc1 sm1 ts1 wh1 wl1 wq1 xs1 ∧ t' 5 0 ≤ lb + 1 := by
            by_cases z : f1 = 0
            · obtain ⟨t', z1, z2⟩ := v1 z
              exact ⟨t', fun _ => ⟨z1, z2⟩⟩
            · exact ⟨t, fun z' => absurd z' z⟩
          obtain ⟨t', hD'⟩ := hD'
          obtain ⟨f2, pl2, nx2, st2, so2, va2, at2, bh2, ki2, nu2, w2, wa2, ch2, wc2, la2, th2, fi2, li2, fs2, hs2, lit2, sc2, sm2, ts2, wh2, wl2, wq2, xs2, fr2, c2, r2, s2⟩ := ih (lb + 1) (L + 1) fu fu' t' f1 pl1 nx1 st1 so1 va1 at1 bh1 ki1 nu1 w1 wa1 ch1 wc1 la1 th1 fi1 li1 fs1 hs1 lit1 sc1 sm1 ts1 wh1 wl1 wq1 xs1 fr1 (by omega) (by omega) (by omega) (by omega) s1 hD'
          refine ⟨f2, pl2, nx2, st2, so2, va2, at2, bh2, ki2, nu2, w2, wa2, ch2, wc2, la2, th2, fi2, li2, fs2, hs2, lit2, sc2, sm2, ts2, wh2, wl2, wq2, xs2, fr2, ?_, r1.trans r2, s2⟩
          rw [fX5_readText_L43, if_neg (show ¬ (900 : Int32) < nI L from nI_nlt (a := 900) (b := L) (by omega) (by decide)), if_neg hso0, if_pos rfl, c1, ob_s, ol_s, nI_1]
          exact c2
      · exact absurd hz z
    · obtain ⟨p, a, b, kd, v, hT, hcT, hx⟩ := hC
      rcases hx with ⟨z, -⟩ | ⟨-, h2, h3⟩
      · exact absurd z hz
      · refine ⟨f, pl, nx, st, so, va, at', bh, ki, nu, w, wa, ch, wc, la, th, fi, li, fs, hs, lit, sc, sm, ts, wh, wl, wq, xs, fr, ?_, ?_, Or.inr ⟨hz, h2, h3⟩⟩
        · rw [fX5_readText_L43, if_neg hz, ite_self, ite_self]
        · rw [fX10_town_L53, if_neg (by rw [h2]; exact hz)]
/-- a plain town -/
def t00 : Nat → Nat → Nat := fun i _ => if i = 2 then 6 else if i = 3 then 2 else if i = 4 then 5 else 0
def plF (v : Nat → Int32) (k : Nat) : Nat → Int32 := fun j => if k ≤ j ∧ j < 162 then 0 else v j
def plT (v : Nat → Int32) : Nat → Int32 := upd (upd (upd (plF v 0) 2 6) 3 2) 4 5
theorem p_plain_L {F N : Nat} (hN : 162 ≤ N) (hN2 : N < 2 ^ 30) : ∀ (k i fuel : Nat) (v : Nat → Int32), i + k = 162 → k < fuel → fX10_plain_L2 F N fuel (nI i) v = some (upd (upd (upd (plF v i) 2 6) 3 2) 4 5)
  | 0, i, fuel + 1, v, h, _ => by
    have e : plF v i = v := by
      funext j
      unfold plF
      rw [if_neg (by omega)]
    have v2 : vb (2 : Int32) N = true := vb_nI (i := 2) (by omega) (by omega)
    have v3 : vb (3 : Int32) N = true := vb_nI (i := 3) (by omega) (by omega)
    have v4 : vb (4 : Int32) N = true := vb_nI (i := 4) (by omega) (by omega)
    rw [fX10_plain_L2, if_pos (show (162 : Int32) ≤ nI i from nI_le (a := 162) (b := i) (by omega) (by omega)), v2, og_s, ol_s, v3, og_s, ol_s, v4, og_s, ol_s, e]
    rfl
  | k + 1, i, fuel + 1, v, h, hf => by
    rw [fX10_plain_L2, if_neg (show ¬ (162 : Int32) ≤ nI i from nI_ge (a := i) (b := 162) (by omega) (by decide)), vb_nI (show i < N by omega) (by omega), og_s, ol_s, ol_s, nI_1, nI_clamp (by omega), p_plain_L hN hN2 k (i + 1) fuel _ (by omega) (by omega)]
    congr 4
    funext j
    unfold plF upd
    by_cases e : j = i
    · subst e
      rw [if_neg (by omega), if_pos rfl, if_pos ⟨Nat.le_refl _, by omega⟩]
    · by_cases e2 : i ≤ j ∧ j < 162
      · rw [if_pos (by omega), if_pos e2]
      · rw [if_neg (by omega), if_neg e, if_neg e2]
  | k, i, 0, v, _, hf => absurd hf (Nat.not_lt_zero k)
theorem p_plain {F N : Nat} {v : Nat → Int32} (hN : 162 ≤ N) (hN2 : N < 2 ^ 30) (hF : 162 < F) : fX10_plain F N v = some (plT v) := p_plain_L hN hN2 162 0 F v (by omega) hF
theorem plT_lt {v : Nat → Int32} {j : Nat} (h : j < 162) (h2 : j ≠ 2) (h3 : j ≠ 3) (h4 : j ≠ 4) : plT v j = 0 := by
  unfold plT
  rw [pk_un h4, pk_un h3, pk_un h2]
  unfold plF
  rw [if_pos ⟨Nat.zero_le _, h⟩]
theorem plT_M {v : Nat → Int32} : tM t00 (plT v) 0 := by
  refine ⟨fun k hk => ?_, fun c hc => absurd hc (by show ¬ c < 0; omega), fun w hw => absurd hw (by show ¬ w < 0; omega)⟩
  rw [Nat.zero_add]
  by_cases e2 : k = 2
  · subst e2; unfold plT; rw [pk_un (by decide), pk_un (by decide), pk_us]; rfl
  · by_cases e3 : k = 3
    · subst e3; unfold plT; rw [pk_un (by decide), pk_us]; rfl
    · by_cases e4 : k = 4
      · subst e4; unfold plT; rw [pk_us]; rfl
      · rw [plT_lt (by omega) e2 e3 e4]
        unfold t00
        rw [if_neg e2, if_neg e3, if_neg e4]; rfl
theorem t00_ok : Tok t00 := by
  refine ⟨by decide, by decide, by decide, by decide, by decide, by decide, fun c hc => absurd hc (by show ¬ c < 0; omega), fun w hw => absurd hw (by show ¬ w < 0; omega)⟩
theorem t00_C {fs hs lit sc sm ts wh wl wq xs : Nat → Int32} : tC t00 0 0 6 2 5 0 xs hs fs ts sc sm lit wq wl wh :=
  ⟨rfl, rfl, rfl, rfl, rfl, rfl, fun c hc => absurd hc (by show ¬ c < 0; omega), fun w hw => absurd hw (by show ¬ w < 0; omega)⟩
/-- a town taken over: by restore, by town -/
theorem p_settle {F : Nat} {t : Nat → Nat → Nat} {pch pwc pla pth pfi pli hch hwc hla hth hfi hli : Int32} {pfs phs plit psc psm pts pwh pwl pwq pxs hfs hhs hlit hsc hsm hts hwh hwl hwq hxs ph pw twh twl : Nat → Int32} (ht : Tok t) (hC : tC t pch pwc pla pth pfi pli pxs phs pfs pts psc psm plit pwq pwl pwh) (hF : 60 < F) :
    ∃ fs' hs' lit' sc' sm' ts' wh' wl' wq' xs' ph' pw' th' tl', fX9_settle F pch pwc pla pth pfi pli pfs phs plit psc psm pts pwh pwl pwq pxs hch hwc hla hth hfi hli hfs hhs hlit hsc hsm hts hwh hwl hwq hxs ph pw twh twl = some (pch, pwc, pla, pth, pfi, pli, fs', hs', lit', sc', sm', ts', wh', wl', wq', xs', ph', pw', th', tl') ∧ tC t pch pwc pla pth pfi pli xs' hs' fs' ts' sc' sm' lit' wq' wl' wh' ∧ plOk t ph' pw' lit' sc' sm' ∧ (∀ q, q < 48 → tl' q = nI (windS t q 0)) ∧ (∀ q, q < 48 → th' q = nI (windS t q 1)) := by
  have hn := ht.1
  have hw := ht.2.1
  have cp : ∀ (N j : Nat) (f g : Nat → Int32), j < N → va_cpy f g 0 0 N j = f j := fun N j f g hj => by
    rw [pk_cpy_in (by omega) (by omega)]
    congr 1
    omega
  obtain ⟨c0, c1, c2, c3, c4, c5, c6, c7⟩ := hC
  have hC' : tC t pch pwc pla pth pfi pli (va_cpy pxs hxs 0 0 10) (va_cpy phs hhs 0 0 10) (va_cpy pfs hfs 0 0 10) (va_cpy pts hts 0 0 10) (va_cpy psc hsc 0 0 10) (va_cpy psm hsm 0 0 60) (va_cpy plit hlit 0 0 10) (va_cpy pwq hwq 0 0 12) (va_cpy pwl hwl 0 0 12) (va_cpy pwh hwh 0 0 12) := by
    refine ⟨c0, c1, c2, c3, c4, c5, fun c hc => ?_, fun w hw' => ?_⟩
    · have hm6 := (ht.2.2.2.2.2.2.1 c hc).2.2.2.2.1.2
      rw [cp 10 c _ _ (by omega), cp 10 c _ _ (by omega), cp 10 c _ _ (by omega), cp 10 c _ _ (by omega), cp 10 c _ _ (by omega), cp 10 c _ _ (by omega)]
      obtain ⟨g0, g1, g2, g3, g4, g5, g6⟩ := c6 c hc
      exact ⟨g0, g1, g2, g3, g4, g5, fun k hk => by rw [cp 60 _ _ _ (by omega)]; exact g6 k hk⟩
    · rw [cp 12 w _ _ (by omega), cp 12 w _ _ (by omega), cp 12 w _ _ (by omega)]
      exact c7 w hw'
  obtain ⟨-, -, -, -, -, -, d6, d7⟩ := id hC'
  have hfo := p_followTold (F := F) (hi := twh) (lo := twl) ht d7 (by omega)
  obtain ⟨ph', pw', l1, l2⟩ := p_layAll (F := F) (Wd := tW t) (hs := ph) (v := pw) (his := wT twh t 1 0) (los := wT twl t 0 0) ht (fun c hc => ⟨(d6 c hc).1, (d6 c hc).2.1, (d6 c hc).2.2.1, (d6 c hc).2.2.2.1, (d6 c hc).2.2.2.2.1⟩) (tW_le ht) (fun q hq => wT_in hq) (fun q hq => wT_in hq) (by omega)
  refine ⟨va_cpy pfs hfs 0 0 10, va_cpy phs hhs 0 0 10, va_cpy plit hlit 0 0 10, va_cpy psc hsc 0 0 10, va_cpy psm hsm 0 0 60, va_cpy pts hts 0 0 10, va_cpy pwh hwh 0 0 12, va_cpy pwl hwl 0 0 12, va_cpy pwq hwq 0 0 12, va_cpy pxs hxs 0 0 10, ph', pw', wT twh t 1 0, wT twl t 0 0, ?_, hC', fun c hc => ⟨l2 c hc, (d6 c hc).2.2.2.2.2.1, (d6 c hc).2.2.2.2.1, (d6 c hc).2.2.2.2.2.2⟩, fun q hq => wT_in hq, fun q hq => wT_in hq⟩
  unfold fX9_settle
  have htk : fX7_takeFrom F hch hwc hla hth hfi hli pch pwc pla pth pfi pli pfs phs plit psc psm pts pwh pwl pwq pxs hfs hhs hlit hsc hsm hts hwh hwl hwq hxs = some (pch, pwc, pla, pth, pfi, pli, va_cpy pfs hfs 0 0 10, va_cpy phs hhs 0 0 10, va_cpy plit hlit 0 0 10, va_cpy psc hsc 0 0 10, va_cpy psm hsm 0 0 60, va_cpy pts hts 0 0 10, va_cpy pwh hwh 0 0 12, va_cpy pwl hwl 0 0 12, va_cpy pwq hwq 0 0 12, va_cpy pxs hxs 0 0 10) := rfl
  rw [htk, ob_s]
  dsimp only
  rw [c1, hfo, ob_s]
  dsimp only
  rw [c0, c2, l1, ob_s]
