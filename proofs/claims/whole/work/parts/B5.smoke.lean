/-! promises 11 and 12: sums over puffs -/
def oG (o : Option Nat) (f : Nat → Nat) : Nat := match o with
  | none => 0
  | some x => f x
theorem oG_n (f : Nat → Nat) : oG none f = 0 := rfl
theorem oG_s (x : Nat) (f : Nat → Nat) : oG (some x) f = f x := rfl
theorem sumL_pfL {ly : Nat} {Wd : Nat → Nat → Nat} {hg x0 b : Nat} (g : Nat → Nat) : ∀ (n a : Nat), sumL g (pfL ly Wd hg x0 b n a) = sumR (fun j => oG (wayX ly Wd hg x0 b j) (fun x => g (pcode (b + j) x (hg + j) (n + a - j)))) a n
  | 0, a => rfl
  | n + 1, a => by
    rw [sumR_s]
    cases hw : wayX ly Wd hg x0 b a with
    | none =>
      rw [pfL_none hw, oG_n, Nat.zero_add]
      symm
      exact sumR_zero n (a + 1) (fun j h1 h2 => by
        have := wayX_n_le hw (j - a)
        rw [show a + (j - a) = j by omega] at this
        show oG (wayX ly Wd hg x0 b j) _ = 0
        rw [this]; rfl)
    | some x =>
      rw [pfL_some hw, sumL_c, oG_s, sumL_pfL g n (a + 1), show n + 1 + a - a = n + 1 by omega]
      congr 1
      refine sumR_congr n (a + 1) (fun j h1 h2 => ?_)
      rw [show n + (a + 1) - j = n + 1 + a - j by omega]
theorem sumL_prL {ly : Nat} {Wd : Nat → Nat → Nat} {hg x0 lit : Nat} {sm : Nat → Nat} (g : Nat → Nat) : ∀ (k i : Nat), sumL g (prL ly Wd hg x0 lit sm k i) = sumR (fun m => sumL g (pfL ly Wd hg x0 (lit + m) (sm m) 0)) i k
  | 0, _ => rfl
  | k + 1, i => by
    show sumL g (pfL ly Wd hg x0 (lit + i) (sm i) 0 ++ prL ly Wd hg x0 lit sm k (i + 1)) = _
    rw [sumL_append, sumR_s, sumL_prL g k (i + 1)]
theorem sumR_pt {f : Nat → Nat} {j0 : Nat} : ∀ (k i : Nat), (∀ j, i ≤ j → j < i + k → j ≠ j0 → f j = 0) → sumR f i k = if i ≤ j0 ∧ j0 < i + k then f j0 else 0
  | 0, i, _ => by rw [if_neg (by omega)]; rfl
  | k + 1, i, h => by
    rw [sumR_s, sumR_pt k (i + 1) (fun j a b => h j (by omega) (by omega))]
    by_cases e : i = j0
    · subst e
      rw [if_neg (by omega), if_pos (by omega), Nat.add_zero]
    · rw [h i (Nat.le_refl _) (by omega) e, Nat.zero_add]
      by_cases e2 : i + 1 ≤ j0 ∧ j0 < i + 1 + k
      · rw [if_pos e2, if_pos (by omega)]
      · rw [if_neg e2, if_neg (by omega)]
/-- how thick the k-th puff of c is in q, lit in lc -/
def thP (t : Nat → Nat → Nat) (c lc k q : Nat) : Nat := if lc + k ≤ q then t 12 (6 * c + k) - (q - (lc + k)) else 0
/-- a fire's sum of what is counted in quarter q alone -/
theorem sum_at {t : Nat → Nat → Nat} {Wd : Nat → Nat → Nat} {c lc q : Nat} (g : Nat → Nat) (hg : ∀ q' x h th, q' ≠ q → x < 40 → h < 25 → th ≤ 9 → g (pcode q' x h th) = 0) (ht : Tok t) (hc : c < t 0 0) : sumL g (fireL t Wd 0 c lc) = sumR (fun k => if thP t c lc k q = 0 then 0 else oG (wq (t 2 0) Wd (t 7 c) (t 6 c) (lc + k) q) (fun x => g (pcode q x (t 7 c + (q - (lc + k))) (thP t c lc k q)))) 0 (t 10 c) := by
  obtain ⟨g0, g1, -, -, g4, -, g6⟩ := ht.2.2.2.2.2.2.1 c hc
  unfold fireL
  rw [sumL_prL]
  refine sumR_congr _ _ (fun k _ hk => ?_)
  have hs := g6 k (by omega)
  show sumL g (pfL (t 2 0) Wd (t 7 c + 0) (t 6 c) (lc + k) (t 12 (6 * c + k)) 0) = _
  rw [Nat.add_zero, sumL_pfL, sumR_pt (j0 := q - (lc + k)) (t 12 (6 * c + k)) 0]
  · unfold thP
    by_cases h1 : lc + k ≤ q
    · rw [if_pos h1]
      by_cases h2 : q - (lc + k) < t 12 (6 * c + k)
      · rw [if_pos (by omega), if_neg (by omega)]
        show oG (wayX (t 2 0) Wd (t 7 c) (t 6 c) (lc + k) (q - (lc + k))) _ = oG (wayX (t 2 0) Wd (t 7 c) (t 6 c) (lc + k) (q - (lc + k))) _
        rw [show lc + k + (q - (lc + k)) = q by omega, Nat.add_zero]
      · rw [if_neg (by omega), if_pos (by omega)]
    · rw [if_neg h1, if_pos rfl]
      by_cases h2 : 0 ≤ q - (lc + k) ∧ q - (lc + k) < 0 + t 12 (6 * c + k)
      · rw [if_pos h2]
        cases hw : wayX (t 2 0) Wd (t 7 c) (t 6 c) (lc + k) (q - (lc + k)) with
        | none => rfl
        | some x =>
          rw [oG_s]
          have hx := wayX_lt g0 _ hw
          have hh := wayX_h (show t 7 c < 25 by omega) _ hw
          exact hg _ _ _ _ (by omega) hx hh (by omega)
      · rw [if_neg h2]
  · intro j _ hj hne
    show oG (wayX (t 2 0) Wd (t 7 c) (t 6 c) (lc + k) j) _ = 0
    cases hw : wayX (t 2 0) Wd (t 7 c) (t 6 c) (lc + k) j with
    | none => rfl
    | some x =>
      rw [oG_s]
      have hx := wayX_lt g0 _ hw
      have hh := wayX_h (show t 7 c < 25 by omega) _ hw
      exact hg _ _ _ _ (by omega) hx hh (by omega)
/-! the class' puffs -/
theorem p_thk {F c lc k q : Nat} {t : Nat → Nat → Nat} {lit sc sm : Nat → Int32} (ht : Tok t) (hc : c < t 0 0) (hq : t 11 c = lc + 1) (hlit : lit c = nI lc) (hsc : sc c = nI (t 10 c)) (hsm : ∀ k, k < t 10 c → sm (6 * c + k) = nI (t 12 (6 * c + k))) (hk : k < t 10 c) (hq48 : q < 100) : fX4_thicknessOfPuff F (nI (t 0 0)) lit sc sm (nI c) (nI k) (nI q) = some (nI (thP t c lc k q)) := by
  have hn := ht.1
  have hl := ht.lit hc
  obtain ⟨-, -, -, -, g4, -, g6⟩ := ht.2.2.2.2.2.2.1 c hc
  have hs := g6 k hk
  unfold fX4_thicknessOfPuff thP
  rw [p_isLit hc hn, ob_s, hlit, if_neg (nI_nm1 (by omega)), if_neg one0, vb_nI (show c < 10 by omega) (by decide), og_s, ol_s, nI_clamp (by omega), hlit, sub3]
  by_cases h : lc + k ≤ q
  · rw [if_pos h, pk_sub h, if_pos (nI_pos' (by omega)), p_smokeOf_in ht hc hsc hk, ob_s, hsm k hk]
    by_cases h2 : q - (lc + k) < t 12 (6 * c + k)
    · rw [pk_sub (by omega), if_pos (show (0 : Int32) < nI (t 12 (6 * c + k) - (q - (lc + k))) from nI_lt (a := 0) (by omega) (by omega))]
    · have : ¬ (0 : Int32) < nI (t 12 (6 * c + k)) - nI (q - (lc + k)) := by
        rw [Int32.lt_iff_toInt_lt, pk_sub_toInt (by omega) (by omega)]
        have : (0 : Int32).toInt = 0 := rfl
        omega
      rw [if_neg this, show t 12 (6 * c + k) - (q - (lc + k)) = 0 by omega]; rfl
  · rw [if_neg h, if_neg (fun z => by
      have := pk_sneg (a := q) (b := lc + k) (by omega) (by omega)
      exact Int32.lt_irrefl (Int32.lt_of_lt_of_le this z))]; rfl
theorem p_xOf {F c lc k q h : Nat} {t : Nat → Nat → Nat} {Wd : Nat → Nat → Nat} {hs v lit sc sm : Nat → Int32} (ht : Tok t) (hc : c < t 0 0) (hq : t 11 c = lc + 1) (hlit : lit c = nI lc) (hsc : sc c = nI (t 10 c)) (hsm : ∀ k, k < t 10 c → sm (6 * c + k) = nI (t 12 (6 * c + k))) (ok : litOk t Wd h hs v c) (hk : k < t 10 c) (hq48 : q < 100) : fX4_xOfPuff F (nI (t 0 0)) v lit sc sm (nI c) (nI k) (nI q) = some (encW (if thP t c lc k q = 0 then none else wq (t 2 0) Wd h (t 6 c) (lc + k) q)) := by
  have hn := ht.1
  have hl := ht.lit hc
  obtain ⟨-, -, -, -, g4, -, g6⟩ := ht.2.2.2.2.2.2.1 c hc
  have hs := g6 k hk
  unfold fX4_xOfPuff
  rw [p_thk ht hc hq hlit hsc hsm hk hq48, ob_s]
  by_cases h0 : thP t c lc k q = 0
  · rw [h0, if_pos nI_0, if_pos rfl]; rfl
  · have hlt : thP t c lc k q ≤ 9 := by unfold thP; split <;> omega
    have hlk : lc + k ≤ q ∧ q < lc + k + 9 := by
      unfold thP at h0
      by_cases z : lc + k ≤ q
      · rw [if_pos z] at h0; omega
      · rw [if_neg z] at h0; exact absurd rfl h0
    rw [if_neg (nI_ne0 (by omega) (by omega)), if_neg h0, vb_nI (show c < 10 by omega) (by decide), og_s, nI_clamp (by omega), hlit, nI_add, p_xOnWay hc hn (by omega) hlk.1 hlk.2, ob_s, ok.2 (lc + k) (by omega) (by omega) _ (by omega)]
    rfl
theorem p_hOf {F c lc k q h : Nat} {t : Nat → Nat → Nat} {hs lit : Nat → Int32} (ht : Tok t) (hc : c < t 0 0) (hq : t 11 c = lc + 1) (hlit : lit c = nI lc) (hh : hs c = nI h) (hk : lc + k ≤ q) : fX4_heightOfPuff F hs (nI (t 0 0)) lit (nI c) (nI k) (nI q) = some (nI (h + (q - (lc + k)))) := by
  have hn := ht.1
  have hl := ht.lit hc
  unfold fX4_heightOfPuff
  rw [p_isLit hc hn, ob_s, hlit, if_neg (nI_nm1 (by omega)), if_neg one0, vb_nI (show c < 10 by omega) (by decide), og_s, og_s, nI_clamp (by omega), hlit, hh, nI_add, sub3, pk_sub (by omega)]
  congr 2
  omega
/-- of a chimney that is not lit -/
theorem p_thkN {F c : Nat} {a2 a3 : Int32} {t : Nat → Nat → Nat} {lit sc sm : Nat → Int32} (ht : Tok t) (hc : c < t 0 0) (hl : lit c = -1) : fX4_thicknessOfPuff F (nI (t 0 0)) lit sc sm (nI c) a2 a3 = some 0 := by
  unfold fX4_thicknessOfPuff
  rw [p_isLit hc ht.1, ob_s, if_pos hl, if_pos rfl]
theorem p_xOfN {F c : Nat} {a2 a3 : Int32} {t : Nat → Nat → Nat} {v lit sc sm : Nat → Int32} (ht : Tok t) (hc : c < t 0 0) (hl : lit c = -1) : fX4_xOfPuff F (nI (t 0 0)) v lit sc sm (nI c) a2 a3 = some (-1) := by
  unfold fX4_xOfPuff
  rw [p_thkN ht hc hl, ob_s, if_pos rfl]
def smG (q x h p : Nat) : Nat := if p / 10 = 1000 * q + 25 * x + h then p % 10 else 0
theorem smG_at {q x h q' x' h' th : Nat} (hx : x < 40) (hh : h < 25) (hx' : x' < 40) (hh' : h' < 25) (hth : th ≤ 9) : smG q x h (pcode q' x' h' th) = if q' = q ∧ x' = x ∧ h' = h then th else 0 := by
  unfold smG pcode
  by_cases e : q' = q ∧ x' = x ∧ h' = h
  · rw [if_pos e, if_pos (by omega)]; omega
  · rw [if_neg e, if_neg (by omega)]
/-- what chimney c gives to a sum over its puffs in quarter q -/
def atQ (t : Nat → Nat → Nat) (g : Nat → Nat) (q c k : Nat) : Nat := if t 11 c = 0 ∨ thP t c (t 11 c - 1) k q = 0 then 0 else oG (wq (t 2 0) (tW t) (t 7 c) (t 6 c) (t 11 c - 1 + k) q) (fun x => g (pcode q x (t 7 c + (q - (t 11 c - 1 + k))) (thP t c (t 11 c - 1) k q)))
theorem sum_lf {t : Nat → Nat → Nat} {q c : Nat} (g : Nat → Nat) (hg : ∀ q' x h th, q' ≠ q → x < 40 → h < 25 → th ≤ 9 → g (pcode q' x h th) = 0) (ht : Tok t) (hc : c < t 0 0) : sumL g (lfL t (tW t) c) = sumR (atQ t g q c) 0 (t 10 c) := by
  by_cases hl : t 11 c = 0
  · rw [lfL_un hl, sumR_zero _ _ (fun k _ _ => by unfold atQ; exact if_pos (Or.inl hl))]; rfl
  · rw [lfL_lit hl, sum_at g hg ht hc]
    refine sumR_congr _ _ (fun k _ _ => ?_)
    unfold atQ
    by_cases h0 : thP t c (t 11 c - 1) k q = 0
    · rw [if_pos h0, if_pos (Or.inr h0)]
    · rw [if_neg h0, if_neg (fun z => z.elim hl h0)]
