/-! THE TOWN as numbers: t 0 0 chimneys, t 1 0 winds, t 2 0 layer, t 3 0 thick, t 4 0 fine, t 5 0 lines; of chimney c: t 6 x, t 7 height, t 8 from, t 9 to, t 10 how many smokes, t 11 lit (0 not, quarter + 1), t 12 (6 c + k) smoke; of wind w: t 13 quarter, t 14 low, t 15 high -/
def Tok (t : Nat → Nat → Nat) : Prop := t 0 0 ≤ 10 ∧ t 1 0 ≤ 12 ∧ t 2 0 ≤ 20 ∧ (1 ≤ t 3 0 ∧ t 3 0 ≤ 9) ∧ t 4 0 ≤ 99 ∧ t 5 0 ≤ 900 ∧ (∀ c, c < t 0 0 → t 6 c < 40 ∧ t 7 c ≤ 12 ∧ t 8 c ≤ t 9 c ∧ t 9 c ≤ 23 ∧ (1 ≤ t 10 c ∧ t 10 c ≤ 6) ∧ (t 11 c = 0 ∨ (t 8 c + 1 ≤ t 11 c ∧ t 11 c ≤ t 9 c + 1)) ∧ ∀ k, k < t 10 c → 1 ≤ t 12 (6 * c + k) ∧ t 12 (6 * c + k) ≤ 9) ∧ ∀ w, w < t 1 0 → t 13 w < 48 ∧ t 14 w ≤ 6 ∧ t 15 w ≤ 6
/-- the class' cells of a town -/
def tC (t : Nat → Nat → Nat) (ch wc la th fi li : Int32) (xs hs fs ts sc sm lit wq wl wh : Nat → Int32) : Prop := ch = nI (t 0 0) ∧ wc = nI (t 1 0) ∧ la = nI (t 2 0) ∧ th = nI (t 3 0) ∧ fi = nI (t 4 0) ∧ li = nI (t 5 0) ∧ (∀ c, c < t 0 0 → xs c = nI (t 6 c) ∧ hs c = nI (t 7 c) ∧ fs c = nI (t 8 c) ∧ ts c = nI (t 9 c) ∧ sc c = nI (t 10 c) ∧ lit c = nI (t 11 c) - 1 ∧ ∀ k, k < t 10 c → sm (6 * c + k) = nI (t 12 (6 * c + k))) ∧ ∀ w, w < t 1 0 → wq w = nI (t 13 w) ∧ wl w = nI (t 14 w) ∧ wh w = nI (t 15 w)
/-- the reference's -/
def tM (t : Nat → Nat → Nat) (all : Nat → Int32) (off : Nat) : Prop := (∀ k, k < 6 → all (off + k) = nI (t k 0)) ∧ (∀ c, c < t 0 0 → all (off + (6 + c)) = nI (t 6 c) ∧ all (off + (16 + c)) = nI (t 7 c) ∧ all (off + (26 + c)) = nI (t 8 c) ∧ all (off + (36 + c)) = nI (t 9 c) ∧ all (off + (46 + c)) = nI (t 10 c) ∧ all (off + (56 + c)) = nI (t 11 c) ∧ ∀ k, k < t 10 c → all (off + (66 + (6 * c + k))) = nI (t 12 (6 * c + k))) ∧ ∀ w, w < t 1 0 → all (off + (126 + 3 * w)) = nI (t 13 w) ∧ all (off + (127 + 3 * w)) = nI (t 14 w) ∧ all (off + (128 + 3 * w)) = nI (t 15 w)
def tLit (t : Nat → Nat → Nat) (l : Nat → Nat) : Nat → Nat → Nat := fun k => if k = 11 then l else t k
theorem nI_p1 (l : Nat) : nI (l + 1) - 1 = nI l := nI_pred l
theorem litC_iff {l : Nat} (h : l ≤ 24) : (nI l - 1 = -1) ↔ l = 0 := by
  constructor
  · intro q
    cases l with
    | zero => rfl
    | succ l =>
      rw [nI_pred] at q
      have h1 : (nI l).toInt = (-1 : Int32).toInt := by rw [q]
      rw [nI_toInt (by omega)] at h1
      have h2 : (-1 : Int32).toInt = -1 := rfl
      omega
  · intro q; subst q; rfl
theorem litM_iff {l : Nat} (h : l ≤ 24) : (nI l ≤ 0) ↔ l = 0 := by
  constructor
  · intro q
    rcases Nat.eq_zero_or_pos l with h1 | h1
    · exact h1
    · exact absurd q (nI_nle h1 (by omega))
  · intro q; subst q; exact Int32.le_refl 0
theorem Tok.lit {t : Nat → Nat → Nat} (h : Tok t) {c : Nat} (hc : c < t 0 0) : t 11 c ≤ 24 := by
  obtain ⟨-, -, h3, h4, -, h6, -⟩ := h.2.2.2.2.2.2.1 c hc
  omega
/-- may chimney c be lit in q (an int)? -/
def mayB (t : Nat → Nat → Nat) (c : Nat) (q : Int32) : Bool := decide ((t 8 c : Int) ≤ q.toInt) && decide (q.toInt ≤ (t 9 c : Int))
theorem p_mayBeLit {F i : Nat} {t : Nat → Nat → Nat} {fs ts : Nat → Int32} {q : Int32} (ht : Tok t) (hi : i < t 0 0) (hf : fs i = nI (t 8 i)) (hto : ts i = nI (t 9 i)) : fX7_mayBeLit F (nI (t 0 0)) fs ts (nI i) q = some (bI (mayB t i q)) := by
  have hn := ht.1
  obtain ⟨-, -, h3, h4, -⟩ := ht.2.2.2.2.2.2.1 i hi
  unfold fX7_mayBeLit
  rw [p_has hi (by omega), ob_s, if_neg (by decide), vb_nI (by omega) (by decide), og_s, og_s, nI_clamp (by omega), hf, hto]
  have e1 : (q < nI (t 8 i)) ↔ ¬ ((t 8 i : Int) ≤ q.toInt) := by rw [Int32.lt_iff_toInt_lt, nI_toInt (by omega)]; omega
  have e2 : (nI (t 9 i) < q) ↔ ¬ (q.toInt ≤ (t 9 i : Int)) := by rw [Int32.lt_iff_toInt_lt, nI_toInt (by omega)]; omega
  by_cases a : (t 8 i : Int) ≤ q.toInt
  · rw [if_neg (fun z => e1.mp z a)]
    by_cases b : q.toInt ≤ (t 9 i : Int)
    · rw [if_neg (fun z => e2.mp z b)]; simp [mayB, a, b, bI]
    · rw [if_pos (e2.mpr b)]; simp [mayB, b, bI]
  · rw [if_pos (e1.mpr a)]; simp [mayB, a, bI]
theorem p_isTime {F i : Nat} {t : Nat → Nat → Nat} {all : Nat → Int32} {q : Int32} (ht : Tok t) (hi : i < t 0 0) (hf : all (26 + i) = nI (t 8 i)) (hto : all (36 + i) = nI (t 9 i)) : fX10_isTime F all (nI i) q = some (bI (mayB t i q)) := by
  have hn := ht.1
  obtain ⟨-, -, h3, h4, -⟩ := ht.2.2.2.2.2.2.1 i hi
  unfold fX10_isTime
  have e1 : (26 : Int32) + nI i = nI (26 + i) := nI_add 26 i
  have e2 : (36 : Int32) + nI i = nI (36 + i) := nI_add 36 i
  rw [e1, e2, vb_nI (by omega) (by decide), og_s, vb_nI (by omega) (by decide), og_s, nI_clamp (by omega), nI_clamp (by omega), hf, hto, p_within32, ob_s, bI_zb, og_s, Int32.toInt_toInt64, Int32.toInt_toInt64, nI_toInt (by omega), nI_toInt (by omega)]
  rfl
theorem q_of_may {t : Nat → Nat → Nat} {i : Nat} {q : Int32} (h : mayB t i q = true) : ∃ k : Nat, q = nI k ∧ t 8 i ≤ k ∧ k ≤ t 9 i := by
  simp [mayB] at h
  have h0 : ¬ q < 0 := by
    rw [Int32.lt_iff_toInt_lt]
    have : (0 : Int32).toInt = 0 := rfl
    omega
  obtain ⟨k, hk, rfl⟩ := nI_of h0
  rw [nI_toInt hk] at h
  exact ⟨k, rfl, by omega, by omega⟩
