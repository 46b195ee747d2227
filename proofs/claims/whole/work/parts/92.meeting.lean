/-! THE CLASS: ways looked up, meetings -/
theorem p_xOnWay {F n c b q : Nat} {v : Nat → Int32} (hc : c < n) (hn : n ≤ 10) (hb : b < 29) (hq : b ≤ q) (hq9 : q < b + 9) : fX4_xOnWay F (nI n) v (nI c) (nI b) (nI q) = some (v ((c * 29 + b) * 9 + (q - b))) := by
  have ix : ((nI c * (29 : Int32) + nI b) * (9 : Int32)) + nI (q - b) = nI ((c * 29 + b) * 9 + (q - b)) := by
    rw [show (29 : Int32) = nI 29 from rfl, pk_mul, nI_add, show (9 : Int32) = nI 9 from rfl, pk_mul, nI_add]
  unfold fX4_xOnWay
  rw [ol_s, pk_sub hq, if_neg (nI_pos (by omega)), if_neg (nI_ge hc (by omega)), if_neg (nI_pos (by omega)), if_neg (show ¬ (29 : Int32) ≤ nI b from nI_ge (a := b) (b := 29) hb (by decide)), if_neg (nI_pos (by omega)), if_pos (show nI (q - b) < (9 : Int32) from nI_lt (a := q - b) (b := 9) (by omega) (by decide)), ix, vb_nI (by omega) (by decide), og_s, nI_clamp (by omega)]
theorem p_xOnWay_age {F n c b q : Nat} {v : Nat → Int32} (hc : c < n) (hn : n ≤ 10) (hb : b < 29) (hq : b + 9 ≤ q) (hq2 : q < 2 ^ 30) : fX4_xOnWay F (nI n) v (nI c) (nI b) (nI q) = some (-1) := by
  unfold fX4_xOnWay
  rw [ol_s, pk_sub (by omega), if_neg (nI_pos (by omega)), if_neg (nI_ge hc (by omega)), if_neg (nI_pos (by omega)), if_neg (show ¬ (29 : Int32) ≤ nI b from nI_ge (a := b) (b := 29) hb (by decide)), if_neg (nI_pos (by omega)), if_neg (show ¬ nI (q - b) < (9 : Int32) from nI_nlt (a := q - b) (b := 9) (by omega) (by omega))]
/-- of any ints an answer; NONE where they tell no place of the row -/
theorem p_xOnWay_tot {F n c : Nat} {v : Nat → Int32} (hc : c < n) (hn : n ≤ 10) (a2 a3 : Int32) : ∃ r, fX4_xOnWay F (nI n) v (nI c) a2 a3 = some r ∧ ((vb a2 29 = false ∨ vb (a3 - a2) 9 = false) → r = -1) := by
  unfold fX4_xOnWay
  rw [ol_s, if_neg (show ¬ nI c < 0 from nI_pos (by omega)), if_neg (nI_ge hc (by omega))]
  rcases pk_ix a2 (n := 29) (by decide) with q | q | ⟨b, hb, rfl⟩
  · exact ⟨-1, by rw [if_pos q], fun _ => rfl⟩
  · refine ⟨-1, ?_, fun _ => rfl⟩
    by_cases h : a2 < 0
    · rw [if_pos h]
    · rw [if_neg h, if_pos (show (29 : Int32) ≤ a2 from q)]
  · rw [if_neg (nI_pos (by omega)), if_neg (show ¬ (29 : Int32) ≤ nI b from nI_ge (a := b) (b := 29) hb (by decide))]
    rcases pk_ix (a3 - nI b) (n := 9) (by decide) with q | q | ⟨j, hj, e⟩
    · exact ⟨-1, by rw [if_pos q], fun _ => rfl⟩
    · refine ⟨-1, ?_, fun _ => rfl⟩
      by_cases h : a3 - nI b < 0
      · rw [if_pos h]
      · rw [if_neg h, if_neg (fun z => Int32.lt_irrefl (Int32.lt_of_lt_of_le z (show (9 : Int32) ≤ a3 - nI b from q)))]
    · have ix : ((nI c * (29 : Int32) + nI b) * (9 : Int32)) + nI j = nI ((c * 29 + b) * 9 + j) := by
        rw [show (29 : Int32) = nI 29 from rfl, pk_mul, nI_add, show (9 : Int32) = nI 9 from rfl, pk_mul, nI_add]
      refine ⟨v ((c * 29 + b) * 9 + j), ?_, fun h => ?_⟩
      · rw [e, if_neg (nI_pos (by omega)), if_pos (show nI j < (9 : Int32) from nI_lt (a := j) (b := 9) hj (by decide)), ix, vb_nI (by omega) (by decide), og_s, nI_clamp (by omega)]
      · rw [e, vb_nI hb (by decide), vb_nI hj (by decide)] at h
        rcases h with h | h <;> cases h
theorem sub_1 (x y : Int32) : x + 1 - y = (x - y) + 1 := by
  rw [Int32.sub_eq_add_neg, Int32.sub_eq_add_neg, Int32.add_assoc, Int32.add_assoc, Int32.add_comm 1]
/-- meeting answers, whatever is asked -/
theorem p_meeting_tot_L {F n c d : Nat} {v : Nat → Int32} (hc : c < n) (hd : d < n) (hn : n ≤ 10) (a2 a4 x5 : Int32) : ∀ (k j fuel : Nat) (x6 : Int32), j + k = 9 → k < fuel → x6 - a2 = nI j → ∃ r, fX4_meeting_L19 F (nI n) v (nI c) a2 (nI d) a4 fuel x5 x6 = some r
  | 0, j, fuel + 1, x6, h, _, hx => by
    obtain ⟨r, e1, e2⟩ := p_xOnWay_tot (F := F) (v := v) hc hn a2 x6
    rw [fX4_meeting_L19]
    by_cases h5 : x5 ≤ x6
    · exact ⟨-1, by rw [if_pos h5]⟩
    · have hv : vb (x6 - a2) 9 = false := by rw [hx, show j = 9 by omega]; decide
      exact ⟨-1, by rw [if_neg h5, e1, ob_s, e2 (Or.inr hv), if_pos rfl]⟩
  | k + 1, j, fuel + 1, x6, h, hf, hx => by
    obtain ⟨r, e1, e2⟩ := p_xOnWay_tot (F := F) (v := v) hc hn a2 x6
    obtain ⟨r', e1', -⟩ := p_xOnWay_tot (F := F) (v := v) hd hn a4 x6
    rw [fX4_meeting_L19]
    by_cases h5 : x5 ≤ x6
    · exact ⟨-1, by rw [if_pos h5]⟩
    · rw [if_neg h5, e1, ob_s]
      by_cases hr : r = -1
      · exact ⟨-1, by rw [if_pos hr]⟩
      · rw [if_neg hr, e1', ob_s]
        by_cases hrr : r = r'
        · exact ⟨x6, by rw [if_pos hrr]⟩
        · rw [if_neg hrr, ol_s]
          exact p_meeting_tot_L hc hd hn a2 a4 x5 k (j + 1) fuel (x6 + 1) (by omega) (by omega) (by rw [sub_1, hx, nI_1])
  | k, j, 0, x6, _, hf, _ => absurd hf (Nat.not_lt_zero k)
theorem p_meeting_tot {F n c d : Nat} {v : Nat → Int32} (hc : c < n) (hd : d < n) (hn : n ≤ 10) (hF : 9 < F) (a2 a4 : Int32) : ∃ r, fX4_meeting F (nI n) v (nI c) a2 (nI d) a4 = some r := by
  unfold fX4_meeting
  rw [ol_s, ol_s]
  generalize (if a4 < a2 then a4 else a2) + (9 : Int32) = x5
  generalize (if a2 < a4 then a4 else a2) = x6
  rcases vb_cases (a := x6 - a2) (n := 9) (by decide) with ⟨-, j, hj, e⟩ | ⟨h1, -⟩
  · exact p_meeting_tot_L hc hd hn a2 a4 x5 (9 - j) j F x6 (by omega) (by omega) e
  · obtain ⟨r, e1, e2⟩ := p_xOnWay_tot (F := F) (v := v) hc hn a2 x6
    obtain ⟨f, rfl⟩ : ∃ f, F = f + 1 := ⟨F - 1, by omega⟩
    rw [fX4_meeting_L19]
    by_cases h5 : x5 ≤ x6
    · exact ⟨-1, by rw [if_pos h5]⟩
    · exact ⟨-1, by rw [if_neg h5, e1, ob_s, e2 (Or.inr h1), if_pos rfl]⟩
/-- the quarter in which two ways meet first, of quarters from lo to hi -/
def mSpec (A B : Nat → Option Nat) (lo hi : Nat) (m : Option Nat) : Prop := (∀ q, m = some q → lo ≤ q ∧ q < hi ∧ ∃ x, A q = some x ∧ B q = some x) ∧ ∀ q x, lo ≤ q → q < hi → A q = some x → B q = some x → ∃ m0, m = some m0 ∧ m0 ≤ q
def wq (ly : Nat) (Wd : Nat → Nat → Nat) (hg x0 b q : Nat) : Option Nat := wayX ly Wd hg x0 b (q - b)
theorem encW_inj {a b : Option Nat} (ha : ∀ x, a = some x → x < 2 ^ 30) (hb : ∀ x, b = some x → x < 2 ^ 30) : encW a = encW b ↔ a = b := by
  cases a with
  | none =>
    cases b with
    | none => simp
    | some y =>
      have := hb y rfl
      simp only [encW_n, encW_s]
      constructor
      · intro h; exact absurd h.symm (nI_nm1 (by omega))
      · intro h; cases h
  | some x =>
    have hx := ha x rfl
    cases b with
    | none =>
      simp only [encW_n, encW_s]
      constructor
      · intro h; exact absurd h (nI_nm1 (by omega))
      · intro h; cases h
    | some y =>
      have hy := hb y rfl
      simp only [encW_s]
      rw [nI_eq (by omega) (by omega)]
      simp
theorem p_meeting_L {F n c d ly hc xc bc hd xd bd : Nat} {Wd : Nat → Nat → Nat} {v : Nat → Int32} (hcn : c < n) (hdn : d < n) (hn : n ≤ 10) (hxc : xc < 40) (hxd : xd < 40) (hbc : bc < 29) (hbd : bd < 29) (lc : laid v ly Wd hc xc c bc) (ld : laid v ly Wd hd xd d bd) :
    ∀ (k i fuel : Nat), bc ≤ i → bd ≤ i → (i + k = bc + 9 ∨ i + k = bd + 9) → i + k ≤ bc + 9 → i + k ≤ bd + 9 → k < fuel → ∃ m, fX4_meeting_L19 F (nI n) v (nI c) (nI bc) (nI d) (nI bd) fuel (nI (i + k)) (nI i) = some (encW m) ∧ mSpec (wq ly Wd hc xc bc) (wq ly Wd hd xd bd) i (i + k) m
  | 0, i, fuel + 1, h1, h2, _, _, _, _ => by
    refine ⟨none, ?_, fun q h => (by cases h), fun q x a b => by omega⟩
    rw [fX4_meeting_L19, if_pos (nI_le (by omega) (by omega))]; rfl
  | k + 1, i, fuel + 1, h1, h2, h3, h4, h5, hf => by
    have e1 : fX4_xOnWay F (nI n) v (nI c) (nI bc) (nI i) = some (encW (wq ly Wd hc xc bc i)) := by
      rw [p_xOnWay hcn hn hbc h1 (by omega), lc _ (by omega)]; rfl
    have e2 : fX4_xOnWay F (nI n) v (nI d) (nI bd) (nI i) = some (encW (wq ly Wd hd xd bd i)) := by
      rw [p_xOnWay hdn hn hbd h2 (by omega), ld _ (by omega)]; rfl
    rw [fX4_meeting_L19, if_neg (nI_ge (by omega) (by omega)), e1, ob_s]
    cases hA : wq ly Wd hc xc bc i with
    | none =>
      refine ⟨none, by rw [encW_n, if_pos rfl], fun q h => (by cases h), fun q x a b hq => ?_⟩
      have := wayX_n_le (show wayX ly Wd hc xc bc (i - bc) = none from hA) (q - i)
      rw [show i - bc + (q - i) = q - bc by omega] at this
      unfold wq at hq
      rw [this] at hq; cases hq
    | some x =>
      have hx40 := wayX_lt hxc _ (show wayX ly Wd hc xc bc (i - bc) = some x from hA)
      rw [encW_s, if_neg (nI_nm1 (by omega)), e2, ob_s]
      by_cases hB : wq ly Wd hd xd bd i = some x
      · refine ⟨some i, by rw [hB, encW_s, if_pos rfl]; rfl, fun q h => ?_, fun q y a b _ _ => ⟨i, rfl, a⟩⟩
        cases h
        exact ⟨Nat.le_refl _, by omega, x, hA, hB⟩
      · have hne : ¬ nI x = encW (wq ly Wd hd xd bd i) := fun z => hB ((encW_inj (a := some x) (fun y hy => by cases hy; omega) (fun y hy => by have := wayX_lt hxd _ (show wayX ly Wd hd xd bd (i - bd) = some y from hy); omega)).mp z).symm
        obtain ⟨m, f1, f2, f3⟩ := p_meeting_L (F := F) hcn hdn hn hxc hxd hbc hbd lc ld k (i + 1) fuel (by omega) (by omega) (by omega) (by omega) (by omega) (by omega)
        rw [show i + 1 + k = i + (k + 1) by omega] at f1 f2 f3
        refine ⟨m, by rw [if_neg hne, ol_s, nI_1]; exact f1, fun q h => ?_, fun q y a b c1 c2 => ?_⟩
        · obtain ⟨g1, g2, g3⟩ := f2 q h
          exact ⟨by omega, g2, g3⟩
        · by_cases e : q = i
          · subst e
            rw [hA] at c1
            cases c1
            exact absurd c2 hB
          · exact f3 q y (by omega) b c1 c2
  | k, i, 0, _, _, _, _, _, hf => absurd hf (Nat.not_lt_zero k)
theorem p_meeting {F n c d ly hc xc bc hd xd bd : Nat} {Wd : Nat → Nat → Nat} {v : Nat → Int32} (hcn : c < n) (hdn : d < n) (hn : n ≤ 10) (hxc : xc < 40) (hxd : xd < 40) (hbc : bc < 29) (hbd : bd < 29) (lc : laid v ly Wd hc xc c bc) (ld : laid v ly Wd hd xd d bd) (hF : 9 < F) :
    ∃ m, fX4_meeting F (nI n) v (nI c) (nI bc) (nI d) (nI bd) = some (encW m) ∧ (∀ q, m = some q → bc ≤ q ∧ bd ≤ q ∧ q < bc + 9 ∧ q < bd + 9 ∧ ∃ x, wq ly Wd hc xc bc q = some x ∧ wq ly Wd hd xd bd q = some x) ∧ ∀ q x, bc ≤ q → bd ≤ q → q < bc + 9 → q < bd + 9 → wq ly Wd hc xc bc q = some x → wq ly Wd hd xd bd q = some x → ∃ m0, m = some m0 ∧ m0 ≤ q := by
  unfold fX4_meeting
  rw [ol_s, ol_s]
  rcases Nat.lt_or_ge bc bd with h | h
  · rw [if_neg (nI_nlt (by omega) (by omega)), if_pos (nI_lt h (by omega)), show nI bc + (9 : Int32) = nI (bc + 9) from nI_add bc 9]
    by_cases h9 : bd ≤ bc + 9
    · obtain ⟨m, e1, e2, e3⟩ := p_meeting_L (F := F) hcn hdn hn hxc hxd hbc hbd lc ld (bc + 9 - bd) bd F (by omega) (by omega) (by omega) (by omega) (by omega) (by omega)
      rw [show bd + (bc + 9 - bd) = bc + 9 by omega] at e1 e2 e3
      refine ⟨m, e1, fun q hq => ?_, fun q x a b c1 c2 => e3 q x b c1⟩
      obtain ⟨g1, g2, g3⟩ := e2 q hq
      exact ⟨by omega, g1, g2, by omega, g3⟩
    · obtain ⟨f, rfl⟩ : ∃ f, F = f + 1 := ⟨F - 1, by omega⟩
      refine ⟨none, ?_, fun q hq => (by cases hq), fun q x a b c1 c2 => by omega⟩
      rw [fX4_meeting_L19, if_pos (nI_le (by omega) (by omega))]; rfl
  · rw [if_neg (show ¬ nI bc < nI bd from nI_nlt (by omega) (by omega))]
    have hmin : (if nI bd < nI bc then nI bd else nI bc) = nI bd := by
      by_cases e : bd < bc
      · rw [if_pos (nI_lt e (by omega))]
      · rw [if_neg (nI_nlt (by omega) (by omega)), show bc = bd by omega]
    rw [hmin, show nI bd + (9 : Int32) = nI (bd + 9) from nI_add bd 9]
    by_cases h9 : bc ≤ bd + 9
    · obtain ⟨m, e1, e2, e3⟩ := p_meeting_L (F := F) hcn hdn hn hxc hxd hbc hbd lc ld (bd + 9 - bc) bc F (by omega) (by omega) (by omega) (by omega) (by omega) (by omega)
      rw [show bc + (bd + 9 - bc) = bd + 9 by omega] at e1 e2 e3
      refine ⟨m, e1, fun q hq => ?_, fun q x a b c1 c2 => e3 q x a c2⟩
      obtain ⟨g1, g2, g3⟩ := e2 q hq
      exact ⟨g1, by omega, by omega, g2, g3⟩
    · obtain ⟨f, rfl⟩ : ∃ f, F = f + 1 := ⟨F - 1, by omega⟩
      refine ⟨none, ?_, fun q hq => (by cases hq), fun q x a b c1 c2 => by omega⟩
      rw [fX4_meeting_L19, if_pos (nI_le (by omega) (by omega))]; rfl
/-- from where two ways of one level meet they go on as one -/
theorem as_one {ly hc xc bc hd xd bd q : Nat} {Wd : Nat → Nat → Nat} (h1 : bc ≤ q) (h2 : bd ≤ q) (hlev : hc + (q - bc) = hd + (q - bd)) (he : wq ly Wd hc xc bc q = wq ly Wd hd xd bd q) : ∀ d, wq ly Wd hc xc bc (q + d) = wq ly Wd hd xd bd (q + d)
  | 0 => he
  | d + 1 => by
    have ih := as_one (ly := ly) (xc := xc) (xd := xd) (Wd := Wd) h1 h2 hlev he d
    unfold wq at ih ⊢
    rw [show q + (d + 1) - bc = (q + d - bc) + 1 by omega, show q + (d + 1) - bd = (q + d - bd) + 1 by omega]
    cases hA : wayX ly Wd hc xc bc (q + d - bc) with
    | none =>
      rw [hA] at ih
      rw [wayX_n hA, wayX_n ih.symm]
    | some x =>
      rw [hA] at ih
      rw [wayX_s hA, wayX_s ih.symm, show hc + (q + d - bc) = hd + (q + d - bd) by omega, show bc + (q + d - bc) + 1 = bd + (q + d - bd) + 1 by omega]
