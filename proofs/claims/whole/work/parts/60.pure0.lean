/-! THE PURE LAYER: small steps -/
theorem ob_s {α β : Type} (a : α) (k : α → Option β) : ob (some a) k = k a := rfl
theorem og_s {β : Type} (k : Option β) : og true k = k := rfl
theorem ol_s {α β : Type} (a : α) (k : α → Option β) : ol a k = k a := rfl
theorem vb_nI {i n : Nat} (h : i < n) (hn : n < 2 ^ 31) : vb (nI i) n = true := by
  have h1 : (nI i).toNatClampNeg = i := nI_clamp (by omega)
  have h2 : ¬ nI i < 0 := nI_pos (by omega)
  simp [vb, h1, h2, h]
theorem vb_of {c : Int32} {n : Nat} (hn : n < 2 ^ 31) (h : vb c n = true) : ∃ i, i < n ∧ c = nI i := vp_in_of (vb_ok h) hn
theorem vb_no {c : Int32} {n : Nat} (hn : n < 2 ^ 31) (h : vb c n = false) : c < 0 ∨ nI n ≤ c := by
  rcases pk_ix c hn with q | q | ⟨j, hj, rfl⟩
  · exact Or.inl q
  · exact Or.inr q
  · rw [vb_nI hj hn] at h; cases h
def cntB (p : Nat → Bool) : Nat → Nat
  | 0 => 0
  | n + 1 => cntB p n + (if p n then 1 else 0)
theorem cntB_le (p : Nat → Bool) : ∀ n, cntB p n ≤ n
  | 0 => Nat.le_refl 0
  | n + 1 => by
    have := cntB_le p n
    show cntB p n + (if p n then 1 else 0) ≤ n + 1
    split <;> omega
theorem cntB_mono (p : Nat → Bool) (i : Nat) : ∀ n, i ≤ n → cntB p i ≤ cntB p n
  | 0, h => by rw [Nat.le_zero.mp h]; exact Nat.le_refl _
  | n + 1, h => by
    rcases Nat.lt_or_ge i (n + 1) with q | q
    · have := cntB_mono p i n (by omega)
      show cntB p i ≤ cntB p n + (if p n then 1 else 0)
      omega
    · rw [show i = n + 1 by omega]; exact Nat.le_refl _
/-! Town -/
theorem p_has {F n i : Nat} (hi : i < n) (hn : n < 2 ^ 31) : fX7_has F (nI n) (nI i) = some 1 := by
  unfold fX7_has
  rw [if_neg (nI_pos (by omega)), if_neg (nI_ge hi hn)]
theorem p_hasN {F n : Nat} {c : Int32} (hn : n < 2 ^ 31) (h : vb c n = false) : fX7_has F (nI n) c = some 0 := by
  unfold fX7_has
  rcases vb_no hn h with q | q
  · rw [if_pos q]
  · rw [if_pos q]
    split <;> rfl
theorem p_isLit {F n i : Nat} {lit : Nat → Int32} (hi : i < n) (hn : n ≤ 10) : fX7_isLit F (nI n) lit (nI i) = some (if lit i = -1 then 0 else 1) := by
  unfold fX7_isLit
  rw [p_has hi (by omega), ob_s, if_neg (by decide), vb_nI (by omega) (by decide), og_s, nI_clamp (by omega)]
  split <;> rfl
theorem p_isLitN {F n : Nat} {c : Int32} {lit : Nat → Int32} (hn : n ≤ 10) (h : vb c n = false) : fX7_isLit F (nI n) lit c = some 0 := by
  unfold fX7_isLit
  rw [p_hasN (by omega) h, ob_s, if_pos rfl]
def litB (lit : Nat → Int32) (c : Nat) : Bool := !decide (lit c = -1)
theorem p_litCount_L {F n : Nat} {lit : Nat → Int32} (hn : n ≤ 10) : ∀ (k i fuel acc : Nat), i + k = n → k < fuel → fX7_litCount_L4 F (nI n) lit fuel (nI acc) (nI i) = some (nI (acc + (cntB (litB lit) n - cntB (litB lit) i)))
  | 0, i, fuel + 1, acc, h, _ => by
    rw [fX7_litCount_L4, show i = n by omega, if_pos (nI_le (Nat.le_refl n) (by omega)), Nat.sub_self]; rfl
  | k + 1, i, fuel + 1, acc, h, hf => by
    have hm := cntB_mono (litB lit) (i + 1) n (by omega)
    have hc : cntB (litB lit) (i + 1) = cntB (litB lit) i + (if litB lit i then 1 else 0) := rfl
    rw [fX7_litCount_L4, if_neg (nI_ge (by omega) (by omega)), p_isLit (by omega) hn, ob_s]
    by_cases hl : lit i = -1
    · have hb : litB lit i = false := by simp [litB, hl]
      rw [hb] at hc
      rw [if_pos hl, if_pos rfl, fX7_litCount_L23, ol_s, nI_1, p_litCount_L hn k (i + 1) fuel acc (by omega) (by omega)]
      simp only [hc]; simp
    · have hb : litB lit i = true := by simp [litB, hl]
      rw [hb] at hc
      simp only [if_true] at hc
      rw [if_neg hl, if_neg (by decide), ol_s, fX7_litCount_L23, ol_s, nI_1, nI_1, p_litCount_L hn k (i + 1) fuel (acc + 1) (by omega) (by omega)]
      congr 2
      omega
  | k, i, 0, acc, _, hf => absurd hf (Nat.not_lt_zero k)
theorem p_litCount {F n : Nat} {lit : Nat → Int32} (hn : n ≤ 10) (hF : 10 < F) : fX7_litCount F (nI n) lit = some (nI (cntB (litB lit) n)) := by
  unfold fX7_litCount
  have h := p_litCount_L (F := F) (lit := lit) hn n 0 F 0 (by omega) (by omega)
  rw [nI_0] at h
  simpa [cntB] using h
