/-! promises 25 and 26 -/
def litAs (t : Nat → Nat → Nat) (c q : Nat) : Nat → Nat → Nat := tLit t (va_up (t 11) c (q + 1))
def priceS (t : Nat → Nat → Nat) (c q : Nat) : Nat := sumR (fun d => if d = c then 0 else qN (litAs t c q) (tW t) c d) 0 (t 0 0)
theorem Tok_as {t : Nat → Nat → Nat} {c q : Nat} (ht : Tok t) (hc : c < t 0 0) (h1 : t 8 c ≤ q) (h2 : q ≤ t 9 c) : Tok (litAs t c q) := Tok_lit ht (fun d hd => by
  by_cases e : d = c
  · subst e; rw [va_up_self]; omega
  · rw [va_up_ne _ _ e]
    obtain ⟨-, -, -, -, -, g, -⟩ := ht.2.2.2.2.2.2.1 d hd
    exact g)
theorem lfL_tL (t : Nat → Nat → Nat) (l : Nat → Nat) (Wd : Nat → Nat → Nat) (d : Nat) : lfL (tLit t l) Wd d = if l d = 0 then [] else fireL t Wd 0 d (l d - 1) := rfl
theorem lfL_as {t : Nat → Nat → Nat} {Wd : Nat → Nat → Nat} {c q d : Nat} (h : d ≠ c) : lfL (litAs t c q) Wd d = lfL t Wd d := by
  unfold litAs
  rw [lfL_tL, va_up_ne _ _ h]; rfl
theorem qN_symm {t : Nat → Nat → Nat} {Wd : Nat → Nat → Nat} {c d : Nat} (ht : Tok t) (hc : c < t 0 0) (hd : d < t 0 0) : qN t Wd c d = qN t Wd d c := by
  have hth := ht.thick
  unfold qN
  refine sumR_congr 48 0 (fun q _ _ => ?_)
  have e : tqB (lfL t Wd c) (lfL t Wd d) (t 3 0) q = tqB (lfL t Wd d) (lfL t Wd c) (t 3 0) q := by
    by_cases h1 : t 11 c = 0
    · rw [lfL_un h1, tqB_nil]; rfl
    · by_cases h2 : t 11 d = 0
      · rw [lfL_un h2, tqB_nil]; rfl
      · rw [lfL_lit h1, lfL_lit h2, Bool.eq_iff_iff, tqB_iff ht hc hd (by omega) (by omega) hth.1, tqB_iff ht hd hc (by omega) (by omega) hth.1]
        exact ⟨tch_symm, tch_symm⟩
  rw [e]
theorem qN_un {t : Nat → Nat → Nat} {Wd : Nat → Nat → Nat} {c d : Nat} (h : t 11 d = 0) : qN t Wd c d = 0 := by
  unfold qN
  rw [lfL_un h]
  exact sumR_zero 48 0 (fun q _ _ => by rw [tqB_nil]; rfl)
theorem sumR_one {X c : Nat} : ∀ (k i : Nat), i ≤ c → c < i + k → sumR (fun j => if j = c then X else 0) i k = X
  | 0, i, h1, h2 => by omega
  | k + 1, i, h1, h2 => by
    rw [sumR_s]
    by_cases e : i = c
    · rw [if_pos e, sumR_zero k (i + 1) (fun j a b => if_neg (by omega)), Nat.add_zero]
    · rw [if_neg e, sumR_one k (i + 1) (by omega) (by omega), Nat.zero_add]
/-- what is due once c is lit in q -/
theorem due_as {t : Nat → Nat → Nat} {c q : Nat} (ht : Tok t) (hc : c < t 0 0) (hl : t 11 c = 0) (h1 : t 8 c ≤ q) (h2 : q ≤ t 9 c) : dueAll (litAs t c q) (tW (litAs t c q)) 0 (t 0 0) = dueAll t (tW t) 0 (t 0 0) + priceS t c q * t 4 0 := by
  have hT := Tok_as ht hc h1 h2
  have hW : tW (litAs t c q) = tW t := tW_lit t _
  rw [hW]
  have mulS : ∀ (f : Nat → Nat) (k i : Nat), sumR (fun j => f j * t 4 0) i k = sumR f i k * t 4 0 := fun f k => by
    induction k with
    | zero => intro i; rw [show sumR f i 0 = 0 from rfl, Nat.zero_mul]; rfl
    | succ k ih => intro i; rw [sumR_s, sumR_s, ih, Nat.add_mul]
  have e1 : dueAll (litAs t c q) (tW t) 0 (t 0 0) = sumR (fun c' => sumR (dueQ (litAs t c q) (tW t) c') 0 (t 0 0)) 0 (t 0 0) * t 4 0 := mulS _ _ _
  have e2 : dueAll t (tW t) 0 (t 0 0) = sumR (fun c' => sumR (dueQ t (tW t) c') 0 (t 0 0)) 0 (t 0 0) * t 4 0 := mulS _ _ _
  rw [e1, e2, ← Nat.add_mul]
  congr 1
  have l11 : ∀ d, (litAs t c q) 11 d = va_up (t 11) c (q + 1) d := fun _ => rfl
  have lcc : (litAs t c q) 11 c = q + 1 := by rw [l11, va_up_self]
  have ldd : ∀ d, d ≠ c → (litAs t c q) 11 d = t 11 d := fun d hd => by rw [l11, va_up_ne _ _ hd]
  -- rows of the others
  have row : ∀ c', c' < t 0 0 → c' ≠ c → sumR (dueQ (litAs t c q) (tW t) c') 0 (t 0 0) = sumR (dueQ t (tW t) c') 0 (t 0 0) + (if laterB (litAs t c q) c' c = true then qN (litAs t c q) (tW t) c' c else 0) := fun c' hc' hne => by
    rw [← sumR_one (X := if laterB (litAs t c q) c' c = true then qN (litAs t c q) (tW t) c' c else 0) (c := c) (t 0 0) 0 (by omega) (by omega), ← sumR_add]
    refine sumR_congr _ _ (fun d _ hd => ?_)
    by_cases e : d = c
    · subst e
      have z : dueQ t (tW t) c' d = 0 := by unfold dueQ laterB; rw [if_neg (fun z => by simp [hl] at z)]
      rw [z, Nat.zero_add, if_pos rfl]
      unfold dueQ
      by_cases hb : laterB (litAs t d q) c' d = true
      · rw [if_pos hb, if_pos ⟨fun z => hne z.symm, hb⟩]
      · rw [if_neg hb, if_neg (fun z => hb z.2)]
    · rw [if_neg e, Nat.add_zero]
      unfold dueQ
      have hb : laterB (litAs t c q) c' d = laterB t c' d := by unfold laterB; rw [ldd c' hne, ldd d e]
      have hq : qN (litAs t c q) (tW t) c' d = qN t (tW t) c' d := by unfold qN; rw [lfL_as hne, lfL_as e]; rfl
      rw [hb, hq]
  have z0 : sumR (dueQ t (tW t) c) 0 (t 0 0) = 0 := sumR_zero _ _ (fun d _ _ => by unfold dueQ laterB; rw [if_neg (fun z => by simp [hl] at z)])
  have tot : sumR (fun c' => sumR (dueQ (litAs t c q) (tW t) c') 0 (t 0 0)) 0 (t 0 0) = sumR (fun c' => (sumR (dueQ t (tW t) c') 0 (t 0 0) + (if c' = c then 0 else if laterB (litAs t c q) c' c = true then qN (litAs t c q) (tW t) c' c else 0)) + (if c' = c then sumR (dueQ (litAs t c q) (tW t) c) 0 (t 0 0) else 0)) 0 (t 0 0) := sumR_congr _ _ (fun c' _ hc' => by
    by_cases e : c' = c
    · subst e; rw [z0, if_pos rfl, if_pos rfl, Nat.zero_add]
    · rw [if_neg e, if_neg e, Nat.add_zero]; exact row c' (by omega) e)
  rw [tot, sumR_add, sumR_add, sumR_one (c := c) (t 0 0) 0 (by omega) (by omega), Nat.add_assoc]
  congr 1
  unfold priceS
  rw [← sumR_add]
  refine sumR_congr _ _ (fun d _ hd => ?_)
  by_cases e : d = c
  · subst e
    rw [if_pos rfl, if_pos rfl, Nat.zero_add]
    unfold dueQ
    exact if_neg (fun z => z.1 rfl)
  · rw [if_neg e, if_neg e]
    unfold dueQ
    by_cases hd0 : t 11 d = 0
    · have b1 : laterB (litAs t c q) d c = false := by unfold laterB; rw [ldd d e, hd0]; simp
      have b2 : laterB (litAs t c q) c d = false := by unfold laterB; rw [ldd d e, hd0]; simp
      rw [b1, b2, qN_un (t := litAs t c q) (c := c) (d := d) (by rw [ldd d e]; exact hd0)]; simp
    · have hsy := qN_symm (Wd := tW t) hT (show c < (litAs t c q) 0 0 from hc) (show d < (litAs t c q) 0 0 by show d < t 0 0; omega)
      by_cases hb : laterB (litAs t c q) d c = true
      · have b2 : laterB (litAs t c q) c d = false := by
          unfold laterB at hb ⊢
          rw [ldd d e, lcc] at hb ⊢
          simp at hb ⊢
          omega
        rw [hb, b2]; simp [hsy]
      · have b2 : laterB (litAs t c q) c d = true := by
          unfold laterB at hb ⊢
          rw [ldd d e, lcc] at hb ⊢
          simp [hd0] at hb ⊢
          omega
        rw [b2, if_neg hb, Nat.zero_add, if_pos ⟨e, rfl⟩]
theorem p_pI_L {F c q : Nat} {t : Nat → Nat → Nat} {hs v lit sc sm : Nat → Int32} {fi a2 : Int32} (ht : Tok t) (H : liOk (litAs t c q) (tW t) (t 7) hs v lit sc sm) (hT : Tok (litAs t c q)) (hfi : fi = nI (t 4 0)) (hc : c < t 0 0) (hF : 60 < F) :
    ∀ (k d fuel acc : Nat), d + k = t 0 0 → k < fuel → fX9_priceIn_L15 F (nI (t 0 0)) (nI (t 3 0)) fi sc sm hs v (nI c) a2 fuel (nI acc) (nI d) lit = some (nI ((acc + sumR (fun d => if d = c then 0 else qN (litAs t c q) (tW t) c d) d k) * t 4 0), upd lit c (-1))
  | 0, d, fuel + 1, acc, h, _ => by
    have hn := ht.1
    rw [fX9_priceIn_L15, show d = t 0 0 by omega, if_pos (nI_le (Nat.le_refl _) (by omega)), vb_nI (show c < 10 by omega) (by decide), og_s, ol_s, hfi, pk_mul, nI_clamp (by omega)]; rfl
  | k + 1, d, fuel + 1, acc, h, hf => by
    have hn := ht.1
    have hth := ht.thick
    have hd : d < t 0 0 := by omega
    have ih := fun acc => p_pI_L (a2 := a2) ht H hT hfi hc hF k (d + 1) fuel acc (by omega) (by omega)
    rw [fX9_priceIn_L15, if_neg (nI_ge hd (by omega)), sumR_s]
    unfold fX9_priceIn_L49
    simp only [ol_s, nI_1]
    by_cases e : d = c
    · rw [if_pos (by rw [e]), ih, if_pos e, Nat.zero_add]
    · obtain ⟨N, n1, n2, n3⟩ := p_tQ (F := F) (th := t 3 0) (t := litAs t c q) (c := c) (d := d) hT H hc hd hth.1 hth.2 hF
      have n2' : fX4_touchQuarters F hs (nI (t 0 0)) (nI (t 3 0)) v lit sc sm (nI c) (nI d) = some (lN N) := n2
      rw [if_neg (nI_ne (by omega) (by omega) e), n2', ob_s, bits_n n1 n3 (fun j hj => tqB_lt (lfL_bd hT hc) hj), ob_s, nI_add, if_neg e]
      refine (ih _).trans ?_
      rw [← Nat.add_assoc]; rfl
  | k, d, 0, acc, _, hf => absurd hf (Nat.not_lt_zero k)
theorem p_priceIn {F c q : Nat} {t : Nat → Nat → Nat} {hs v lit sc sm : Nat → Int32} {fi : Int32} (ht : Tok t) (hP : plOk t hs v lit sc sm) (hfi : fi = nI (t 4 0)) (hc : c < t 0 0) (hl : t 11 c = 0) (h1 : t 8 c ≤ q) (h2 : q ≤ t 9 c) (hF : 60 < F) : ∃ lit', fX9_priceIn F (nI (t 0 0)) (nI (t 3 0)) fi lit sc sm hs v (nI c) (nI q) = some (nI (priceS t c q * t 4 0), lit') ∧ ∀ d, d < 10 → lit' d = lit d := by
  have hn := ht.1
  have hT := Tok_as ht hc h1 h2
  have hP' : plOk (litAs t c q) hs v (upd lit c (nI q)) sc sm := pl_lit hP (fun d hd => by
    by_cases e : d = c
    · subst e; rw [va_up_self, pk_us, nI_pred]
    · rw [va_up_ne _ _ e, pk_un e]; exact (hP d hd).2.1)
  have H := li_of hT hP'
  rw [show tW (litAs t c q) = tW t from tW_lit t _] at H
  have h := p_pI_L (F := F) (a2 := nI q) (fi := fi) ht H hT hfi hc hF (t 0 0) 0 F 0 (by omega) (by omega)
  refine ⟨upd (upd lit c (nI q)) c (-1), ?_, fun d hd => ?_⟩
  · unfold fX9_priceIn
    rw [vb_nI (show c < 10 by omega) (by decide), og_s, ol_s, nI_clamp (by omega)]
    rw [Nat.zero_add] at h
    exact h
  · by_cases e : d = c
    · subst e
      rw [pk_us, (hP d hc).2.1, hl]; rfl
    · rw [pk_un e, pk_un e]
theorem p_priceOf {F c q : Nat} {t : Nat → Nat → Nat} {all his los pm pf tc : Nat → Int32} (ht : Tok t) (hM : tM t all 0) (hc : c < t 0 0) (hl : t 11 c = 0) (h1 : t 8 c ≤ q) (h2 : q ≤ t 9 c) (hF : 60 < F) : ∃ all' his' los' pm' pf' tc', fX10_priceOf F all his los pm pf tc (nI c) (nI q) = some (nI (priceS t c q * t 4 0), all', his', los', pm', pf', tc') ∧ ∀ j, all' j = all j := by
  have hn := ht.1
  have hT := Tok_as ht hc h1 h2
  have e56 : (56 : Int32) + nI c = nI (56 + c) := nI_add 56 c
  have hM' : tM (litAs t c q) (upd all (56 + c) (nI (q + 1))) 0 := by
    refine tM_lit hM hn ht.2.1 (fun d hd => ((ht.2.2.2.2.2.2.1 d hd).2.2.2.2.1).2) (fun d hd => ?_) (fun j hj => ?_)
    · by_cases e : d = c
      · subst e; rw [va_up_self, Nat.zero_add, pk_us]
      · rw [va_up_ne _ _ e, Nat.zero_add, pk_un (by omega)]
        have := (hM.2.1 d hd).2.2.2.2.2.1
        rw [Nat.zero_add] at this; exact this
    · rw [Nat.zero_add, pk_un (by omega)]
  obtain ⟨his1, los1, pm1, pf1, tc1, g1⟩ := p_paysAll (F := F) (his := his) (los := los) (pm := pm) (pf := pf) (tc := tc) ht hM hF
  obtain ⟨his2, los2, pm2, pf2, tc2, g2⟩ := p_paysAll (F := F) (his := his1) (los := los1) (pm := pm1) (pf := pf1) (tc := tc1) hT hM' hF
  have g2' : fX10_paysAll F (upd all (56 + c) (nI (q + 1))) his1 los1 pm1 pf1 tc1 = some (nI (dueAll t (tW t) 0 (t 0 0) + priceS t c q * t 4 0), his2, los2, pm2, pf2, tc2) := by
    refine g2.trans ?_
    rw [← due_as ht hc hl h1 h2]; rfl
  refine ⟨upd (upd all (56 + c) (nI (q + 1))) (56 + c) 0, his2, los2, pm2, pf2, tc2, ?_, fun j => ?_⟩
  · unfold fX10_priceOf
    rw [g1, ob_s, e56, vb_nI (by omega) (by decide), og_s, ol_s, nI_1, nI_clamp (by omega)]
    show ob (fX10_paysAll F (upd all (56 + c) (nI (q + 1))) his1 los1 pm1 pf1 tc1) _ = _
    rw [g2', ob_s, og_s, ol_s]
    show some (nI (dueAll t (tW t) 0 (t 0 0) + priceS t c q * t 4 0) - nI (dueAll t (tW t) 0 (t 0 0)), _) = _
    rw [pk_sub (by omega), Nat.add_sub_cancel_left]
  · by_cases e : j = 56 + c
    · subst e
      have m5 := (hM.2.1 c hc).2.2.2.2.2.1
      rw [Nat.zero_add] at m5
      rw [pk_us, m5, hl]; rfl
    · rw [pk_un e, pk_un e]
theorem s_price {F : Nat} {t : Nat → Nat → Nat} {hs v lit sc sm fs ts all his los pm pf tc : Nat → Int32} {thr fi : Int32} (a1 a2 : Int32) (ht : Tok t) (hP : plOk t hs v lit sc sm) (hfi : fi = nI (t 4 0)) (h2 : ∀ c, c < t 0 0 → fs c = nI (t 8 c)) (h3 : ∀ c, c < t 0 0 → ts c = nI (t 9 c)) (hM : tM t all 0) (hF : 60 < F) :
    ∃ r lit' all' his' los' pm' pf' tc', fX9_price F (nI (t 0 0)) (nI (t 3 0)) fi fs lit sc sm ts hs v a1 a2 = some (r, lit') ∧ fX10_price F thr all his los pm pf tc a1 a2 = some (r, 0, all', his', los', pm', pf', tc') ∧ (∀ d, d < 10 → lit' d = lit d) ∧ ∀ j, all' j = all j := by
  have hn := ht.1
  unfold fX9_price fX10_price
  rw [p_isChimney (hM.1 0 (by decide)) hn, ob_s]
  cases hv : vb a1 (t 0 0) with
  | false => exact ⟨-2, lit, all, his, los, pm, pf, tc, by rw [p_hasN (by omega) hv, ob_s, if_pos rfl], by rw [bI_0 rfl, if_pos rfl], fun _ _ => rfl, fun _ => rfl⟩
  | true =>
    obtain ⟨c, hc, rfl⟩ := vb_of (by omega) hv
    have hlt := ht.lit hc
    obtain ⟨-, -, m2, m3, -, m5, -⟩ := hM.2.1 c hc
    rw [Nat.zero_add] at m2 m3 m5
    rw [p_has hc (by omega), ob_s, if_neg one0, p_isLit hc hn, ob_s, (hP c hc).2.1, bI_1 rfl, if_neg one0, p_mLit (by omega), ob_s, m5]
    by_cases hl : t 11 c = 0
    · rw [if_pos ((litC_iff hlt).mpr hl), if_pos rfl, if_pos ((litM_iff hlt).mpr hl), if_pos rfl, p_mayBeLit ht hc (h2 c hc) (h3 c hc), ob_s, p_isTime ht hc m2 m3, ob_s]
      cases hmay : mayB t c a2 with
      | false => exact ⟨-1, lit, all, his, los, pm, pf, tc, by rw [bI_0 rfl, if_pos rfl], by rw [bI_0 rfl, if_pos rfl], fun _ _ => rfl, fun _ => rfl⟩
      | true =>
        obtain ⟨q, rfl, q1, q2⟩ := q_of_may hmay
        obtain ⟨lit', e1, e2⟩ := p_priceIn (F := F) ht hP hfi hc hl q1 q2 hF
        obtain ⟨all', his', los', pm', pf', tc', f1, f2⟩ := p_priceOf (F := F) (his := his) (los := los) (pm := pm) (pf := pf) (tc := tc) ht hM hc hl q1 q2 hF
        exact ⟨_, lit', all', his', los', pm', pf', tc', by rw [bI_1 rfl, if_neg one0, e1, ob_s], by rw [bI_1 rfl, if_neg one0, f1, ob_s], e2, f2⟩
    · exact ⟨-5, lit, all, his, los, pm, pf, tc, by rw [if_neg (fun z => hl ((litC_iff hlt).mp z)), if_neg one0], by rw [if_neg (fun z => hl ((litM_iff hlt).mp z)), if_neg one0], fun _ _ => rfl, fun _ => rfl⟩
