/-! THE READERS: tokens. m the bytes, n how many -/
def rdB (n : Nat) (m : Nat → Int32) (p : Nat) : Int32 := if p < n then m p else -1
def bytB (n : Nat) (m : Nat → Int32) : Prop := ∀ j, j < n → ∃ y : Nat, y < 256 ∧ m j = nI y
theorem p_byteAt {F n p : Nat} {c m : Nat → Int32} (hn : n ≤ 900) (h : ∀ j, j < n → c j &&& 255 = m j) (hp : p < 2 ^ 30) : fX5_byteAt F (nI n) c (nI p) = some (rdB n m p) := by
  unfold fX5_byteAt rdB
  rw [if_neg (nI_pos (by omega))]
  by_cases e : p < n
  · rw [if_neg (nI_ge e (by omega)), if_pos e, vb_nI (show p < 900 by omega) (by decide), og_s, nI_clamp (by omega), h p e]
  · rw [if_pos (nI_le (by omega) (by omega)), if_neg e]
theorem p_see {F n p : Nat} {m : Nat → Int32} (hn : n ≤ 900) (hp : p < 2 ^ 30) : fX10_see F (nI n) m (nI p) = some (rdB n m p) := by
  unfold fX10_see rdB
  by_cases e : p < n
  · rw [if_neg (nI_ge e (by omega)), if_pos e, vb_nI (show p < 900 by omega) (by decide), og_s, nI_clamp (by omega)]
  · rw [if_pos (nI_le (by omega) (by omega)), if_neg e]
def ltB (x : Int32) : Bool := decide (¬ x < 97) && decide (¬ (122 : Int32) < x)
def dgB (x : Int32) : Bool := decide (¬ x < 48) && decide (¬ (57 : Int32) < x)
theorem p_lt10 {F : Nat} (x : Int32) : fX10_isSmall F x = some (bI (ltB x)) := by
  unfold fX10_isSmall ltB
  by_cases a : x < 97
  · simp [a, bI]
  · by_cases b : (122 : Int32) < x
    · simp [a, b, bI]
    · simp [a, b, bI]
theorem p_dg10 {F : Nat} (x : Int32) : fX10_isDigit F x = some (bI (dgB x)) := by
  unfold fX10_isDigit dgB
  by_cases a : x < 48
  · simp [a, bI]
  · by_cases b : (57 : Int32) < x
    · simp [a, b, bI]
    · simp [a, b, bI]
theorem rd_no {n : Nat} {m : Nat → Int32} {p : Nat} (h : ¬ p < n) : rdB n m p = -1 := by unfold rdB; rw [if_neg h]
theorem rd_in {n : Nat} {m : Nat → Int32} {p : Nat} (h : p < n) : rdB n m p = m p := by unfold rdB; rw [if_pos h]
theorem lt_m1 : ltB (-1) = false := by decide
theorem dg_m1 : dgB (-1) = false := by decide
theorem dg_of {x : Int32} (h : dgB x = true) : ∃ d : Nat, d ≤ 9 ∧ x = nI (48 + d) := by
  unfold dgB at h
  rw [Bool.and_eq_true] at h
  have h1 : ¬ x < 48 := of_decide_eq_true h.1
  have h2 : ¬ (57 : Int32) < x := of_decide_eq_true h.2
  have h0 : ¬ x < 0 := fun z => h1 (Int32.lt_trans z (by decide))
  obtain ⟨k, hk, rfl⟩ := nI_of h0
  have a1 : 48 ≤ k := by
    rcases Nat.lt_or_ge k 48 with q | q
    · exact absurd (show nI k < 48 from nI_lt (a := k) (b := 48) q (by decide)) h1
    · exact q
  have a2 : k ≤ 57 := by
    rcases Nat.lt_or_ge 57 k with q | q
    · exact absurd (show (57 : Int32) < nI k from nI_lt (a := 57) (b := k) q hk) h2
    · exact q
  exact ⟨k - 48, by omega, by rw [show 48 + (k - 48) = k by omega]⟩
/-- the sort of a sign in the class -/
def sO3 (x : Int32) : Int32 := if x = -1 then 0 else if x = 10 then 5 else if x = 32 then 5 else if x = 59 then 3 else 4
def sO2 (x : Int32) : Int32 := if dgB x = true then 2 else sO3 x
def sO (x : Int32) : Int32 := if ltB x = true then 1 else sO2 x
theorem p_so3 {F : Nat} (x : Int32) : fX5_sortOf_L28 F x = some (sO3 x) := by
  unfold fX5_sortOf_L28 sO3
  by_cases a : x = -1
  · rw [if_pos a, if_pos a]
  · rw [if_neg a, if_neg a]
    by_cases b : x = 10
    · rw [if_pos b, if_pos b]
    · rw [if_neg b, if_neg b]
      by_cases c : x = 32
      · rw [if_pos c, if_pos c]
      · rw [if_neg c, if_neg c]
        by_cases d : x = 59
        · rw [if_pos d, if_pos d]
        · rw [if_neg d, if_neg d]
theorem p_so2 {F : Nat} (x : Int32) : fX5_sortOf_L14 F x = some (sO2 x) := by
  unfold fX5_sortOf_L14 sO2
  by_cases a : x < 48
  · have h : ¬ dgB x = true := by unfold dgB; simp [a]
    rw [if_pos a, if_neg h, p_so3]
  · by_cases b : (57 : Int32) < x
    · have h : ¬ dgB x = true := by unfold dgB; simp [b]
      rw [if_neg a, if_pos b, if_neg h, p_so3]
    · have h : dgB x = true := by unfold dgB; simp [a, b]
      rw [if_neg a, if_neg b, if_pos h]
theorem p_so {F : Nat} (x : Int32) : fX5_sortOf F x = some (sO x) := by
  unfold fX5_sortOf sO
  by_cases a : x < 97
  · have h : ¬ ltB x = true := by unfold ltB; simp [a]
    rw [if_pos a, if_neg h, p_so2]
  · by_cases b : (122 : Int32) < x
    · have h : ¬ ltB x = true := by unfold ltB; simp [b]
      rw [if_neg a, if_pos b, if_neg h, p_so2]
    · have h : ltB x = true := by unfold ltB; simp [a, b]
      rw [if_neg a, if_neg b, if_pos h]
theorem dg_nlt {x : Int32} (h : dgB x = true) : ltB x = false := by
  obtain ⟨d, hd, rfl⟩ := dg_of h
  have tab : ∀ d, d < 10 → ltB (nI (48 + d)) = false := by decide
  exact tab d (by omega)
theorem so3_ne {x y : Int32} (h : sO3 x = y) : y = 0 ∨ y = 5 ∨ y = 3 ∨ y = 4 := by
  unfold sO3 at h
  by_cases a : x = -1
  · rw [if_pos a] at h; exact Or.inl h.symm
  · rw [if_neg a] at h
    by_cases b : x = 10
    · rw [if_pos b] at h; exact Or.inr (Or.inl h.symm)
    · rw [if_neg b] at h
      by_cases c : x = 32
      · rw [if_pos c] at h; exact Or.inr (Or.inl h.symm)
      · rw [if_neg c] at h
        by_cases d : x = 59
        · rw [if_pos d] at h; exact Or.inr (Or.inr (Or.inl h.symm))
        · rw [if_neg d] at h; exact Or.inr (Or.inr (Or.inr h.symm))
theorem so_w {x : Int32} (h : ltB x = true) : sO x = 1 := by unfold sO; rw [if_pos h]
theorem so_d {x : Int32} (h : dgB x = true) : sO x = 2 := by
  unfold sO sO2
  rw [dg_nlt h, if_neg (by decide), if_pos h]
theorem so_nw {x : Int32} (h : ltB x = false) : ¬ sO x = 1 := by
  unfold sO sO2
  rw [h, if_neg (by decide)]
  by_cases a : dgB x = true
  · rw [if_pos a]; decide
  · rw [if_neg a]
    intro z
    have := so3_ne z
    revert this; decide
theorem so_nd {x : Int32} (h : dgB x = false) : ¬ sO x = 2 := by
  unfold sO sO2
  rw [h]
  by_cases a : ltB x = true
  · rw [if_pos a]; decide
  · rw [if_neg a, if_neg (by decide)]
    intro z
    have := so3_ne z
    revert this; decide
theorem so_b {x : Int32} (h : x = 10 ∨ x = 32) : sO x = 5 := by
  rcases h with rfl | rfl <;> decide
theorem so_nb {x : Int32} (h : ¬ (x = 10 ∨ x = 32)) : ¬ sO x = 5 := by
  unfold sO sO2 sO3
  by_cases a : ltB x = true
  · rw [if_pos a]; decide
  · rw [if_neg a]
    by_cases b : dgB x = true
    · rw [if_pos b]; decide
    · rw [if_neg b, if_neg (fun z => h (Or.inl z)), if_neg (fun z => h (Or.inr z))]
      by_cases c : x = -1
      · rw [if_pos c]; decide
      · rw [if_neg c]
        by_cases d : x = 59
        · rw [if_pos d]; decide
        · rw [if_neg d]; decide
theorem so_o {x : Int32} (h1 : ltB x = false) (h2 : dgB x = false) (h3 : ¬ x = -1) (h4 : ¬ x = 10) (h5 : ¬ x = 32) (h6 : ¬ x = 59) : sO x = 4 := by
  unfold sO sO2 sO3
  rw [h1, h2, if_neg (by decide), if_neg (by decide), if_neg h3, if_neg h4, if_neg h5, if_neg h6]
theorem so_m1 : sO (-1) = 0 := by decide
theorem p_tok171 {F n p a : Nat} {c : Nat → Int32} {va : Int32} (ha : a ≤ p) (hp : p ≤ 900) : fX5_takeToken_L171 F (nI n) c (nI p) (nI a) 2 va = some (nI p, nI a, (if p - a ≤ 3 then 2 else 4), va) := by
  unfold fX5_takeToken_L171
  rw [if_pos rfl, pk_sub ha]
  by_cases q : p - a ≤ 3
  · rw [if_pos (show nI (p - a) ≤ 3 from nI_le (a := p - a) (b := 3) q (by decide)), if_pos q]
  · rw [if_neg (show ¬ nI (p - a) ≤ 3 from nI_ge (a := 3) (b := p - a) (by omega) (by omega)), if_neg q]
theorem p_tok171n {F : Nat} {c : Nat → Int32} {l nx st so va : Int32} (h : ¬ so = 2) : fX5_takeToken_L171 F l c nx st so va = some (nx, st, so, va) := by
  unfold fX5_takeToken_L171
  rw [if_neg h]
theorem p_tok94e {F n p fuel : Nat} {c : Nat → Int32} {st va : Int32} (hp : n ≤ p) (hp2 : p ≤ 900) (hf : 0 < fuel) : fX5_takeToken_L94 F (nI n) c fuel (nI p) st 0 va = some (nI p, st, 0, va) := by
  obtain ⟨f, rfl⟩ : ∃ f, fuel = f + 1 := ⟨fuel - 1, by omega⟩
  rw [fX5_takeToken_L94, if_pos (nI_le hp (by omega)), p_tok171n (by decide)]
/-- a word, or digits, from p on: both readers go to its end -/
theorem p_word {F n : Nat} {c m : Nat → Int32} (hn : n ≤ 900) (h : ∀ j, j < n → c j &&& 255 = m j) : ∀ (k p : Nat), p + k = n → ∃ b, p ≤ b ∧ b ≤ n ∧ (p < n → ltB (m p) = true → p < b) ∧ (∀ fuel st, k < fuel → fX5_takeToken_L94 F (nI n) c fuel (nI p) st 1 0 = some (nI b, st, 1, 0)) ∧ (∀ fuel at' ki nu, k < fuel → fX10_next_L89 F (nI n) m fuel at' (nI p) ki nu = ob (fX10_keyAt F at' (nI b) m) (fun o => some (at', nI b, o, nu)))
  | 0, p, hp => by
    refine ⟨p, Nat.le_refl _, by omega, fun z => by omega, fun fuel st hf => ?_, fun fuel at' ki nu hf => ?_⟩
    · obtain ⟨f, rfl⟩ : ∃ f, fuel = f + 1 := ⟨fuel - 1, by omega⟩
      rw [fX5_takeToken_L94, if_pos (nI_le (by omega) (by omega)), p_tok171n (by decide)]
    · obtain ⟨f, rfl⟩ : ∃ f, fuel = f + 1 := ⟨fuel - 1, by omega⟩
      rw [fX10_next_L89, p_see hn (by omega), ob_s, p_lt10, ob_s, rd_no (by omega), lt_m1, bI_0 rfl, if_pos rfl]
  | k + 1, p, hp => by
    have hpn : p < n := by omega
    cases hl : ltB (m p) with
    | false =>
      refine ⟨p, Nat.le_refl _, by omega, (fun _ z => by cases z), fun fuel st hf => ?_, fun fuel at' ki nu hf => ?_⟩
      · obtain ⟨f, rfl⟩ : ∃ f, fuel = f + 1 := ⟨fuel - 1, by omega⟩
        rw [fX5_takeToken_L94, if_neg (nI_ge (by omega) (by omega)), p_byteAt hn h (by omega), ob_s, p_so, ob_s, rd_in hpn, if_neg (so_nw hl), p_tok171n (by decide)]
      · obtain ⟨f, rfl⟩ : ∃ f, fuel = f + 1 := ⟨fuel - 1, by omega⟩
        rw [fX10_next_L89, p_see hn (by omega), ob_s, p_lt10, ob_s, rd_in hpn, hl, bI_0 rfl, if_pos rfl]
    | true =>
      obtain ⟨b, b1, b2, b3, b4, b5⟩ := p_word (F := F) hn h k (p + 1) (by omega)
      refine ⟨b, by omega, b2, fun _ _ => by omega, fun fuel st hf => ?_, fun fuel at' ki nu hf => ?_⟩
      · obtain ⟨f, rfl⟩ : ∃ f, fuel = f + 1 := ⟨fuel - 1, by omega⟩
        rw [fX5_takeToken_L94, if_neg (nI_ge (by omega) (by omega)), p_byteAt hn h (by omega), ob_s, p_so, ob_s, rd_in hpn, so_w hl, if_pos rfl, if_neg (show ¬ (1 : Int32) = 2 by decide), fX5_takeToken_L155, ol_s, show nI p + (1 : Int32) = nI (p + 1) from nI_1 p]
        exact b4 f st (by omega)
      · obtain ⟨f, rfl⟩ : ∃ f, fuel = f + 1 := ⟨fuel - 1, by omega⟩
        rw [fX10_next_L89, p_see hn (by omega), ob_s, p_lt10, ob_s, rd_in hpn, hl, bI_1 rfl, if_neg one0, ol_s, show nI p + (1 : Int32) = nI (p + 1) from nI_1 p]
        exact b5 f at' ki nu (by omega)
theorem dg_step (v d : Nat) : (10 : Int32) * nI v + nI (48 + d) - (48 : Int32) = nI (10 * v + d) := by
  rw [show (10 : Int32) = nI 10 from rfl, pk_mul, nI_add, show (48 : Int32) = nI 48 from rfl, pk_sub (by omega)]
  congr 1
  omega
theorem p_digits {F n a : Nat} {c m : Nat → Int32} (hn : n ≤ 900) (h : ∀ j, j < n → c j &&& 255 = m j) : ∀ (k p : Nat) (cv rv : Int32), p + k = n → a ≤ p → (p - a ≤ 3 → ∃ v, v < 10 ^ (p - a) ∧ cv = nI v ∧ rv = nI v) → ∃ b cv' rv' v, p ≤ b ∧ b ≤ n ∧ (p < n → dgB (m p) = true → p < b) ∧ (∀ fuel, k < fuel → fX5_takeToken_L94 F (nI n) c fuel (nI p) (nI a) 2 cv = some (nI b, nI a, (if b - a ≤ 3 then 2 else 4), cv')) ∧ (∀ fuel ki, k < fuel → fX10_next_L146 F (nI n) m fuel (nI a) (nI p) ki rv = some (nI a, nI b, (if b - a ≤ 3 then 8 else 11), rv')) ∧ v ≤ 999 ∧ (b - a ≤ 3 → cv' = nI v ∧ rv' = nI v)
  | 0, p, cv, rv, hp, ha, hv => by
    have fin : ∃ v, v ≤ 999 ∧ (p - a ≤ 3 → cv = nI v ∧ rv = nI v) := by
      by_cases q : p - a ≤ 3
      · obtain ⟨v, v1, v2, v3⟩ := hv q
        have : 10 ^ (p - a) ≤ 10 ^ 3 := Nat.pow_le_pow_right (by decide) q
        exact ⟨v, by omega, fun _ => ⟨v2, v3⟩⟩
      · exact ⟨0, by omega, fun z => absurd z q⟩
    obtain ⟨v, w1, w2⟩ := fin
    refine ⟨p, cv, rv, v, Nat.le_refl _, by omega, fun z => by omega, fun fuel hf => ?_, fun fuel ki hf => ?_, w1, w2⟩
    · obtain ⟨f, rfl⟩ : ∃ f, fuel = f + 1 := ⟨fuel - 1, by omega⟩
      rw [fX5_takeToken_L94, if_pos (nI_le (by omega) (by omega)), p_tok171 ha (by omega)]
    · obtain ⟨f, rfl⟩ : ∃ f, fuel = f + 1 := ⟨fuel - 1, by omega⟩
      rw [fX10_next_L146, p_see hn (by omega), ob_s, p_dg10, ob_s, rd_no (by omega), dg_m1, bI_0 rfl, if_pos rfl, pk_sub (by omega)]
      unfold fX10_next_L230
      by_cases q : p - a ≤ 3
      · rw [if_pos (show nI (p - a) ≤ 3 from nI_le (a := p - a) (b := 3) q (by decide)), if_pos q]
      · rw [if_neg (show ¬ nI (p - a) ≤ 3 from nI_ge (a := 3) (b := p - a) (by omega) (by omega)), if_neg q]
  | k + 1, p, cv, rv, hp, ha, hv => by
    have hpn : p < n := by omega
    cases hl : dgB (m p) with
    | false =>
      have fin : ∃ v, v ≤ 999 ∧ (p - a ≤ 3 → cv = nI v ∧ rv = nI v) := by
        by_cases q : p - a ≤ 3
        · obtain ⟨v, v1, v2, v3⟩ := hv q
          have : 10 ^ (p - a) ≤ 10 ^ 3 := Nat.pow_le_pow_right (by decide) q
          exact ⟨v, by omega, fun _ => ⟨v2, v3⟩⟩
        · exact ⟨0, by omega, fun z => absurd z q⟩
      obtain ⟨v, w1, w2⟩ := fin
      refine ⟨p, cv, rv, v, Nat.le_refl _, by omega, (fun _ z => by cases z), fun fuel hf => ?_, fun fuel ki hf => ?_, w1, w2⟩
      · obtain ⟨f, rfl⟩ : ∃ f, fuel = f + 1 := ⟨fuel - 1, by omega⟩
        rw [fX5_takeToken_L94, if_neg (nI_ge (by omega) (by omega)), p_byteAt hn h (by omega), ob_s, p_so, ob_s, rd_in hpn, if_neg (so_nd hl), p_tok171 ha (by omega)]
      · obtain ⟨f, rfl⟩ : ∃ f, fuel = f + 1 := ⟨fuel - 1, by omega⟩
        rw [fX10_next_L146, p_see hn (by omega), ob_s, p_dg10, ob_s, rd_in hpn, hl, bI_0 rfl, if_pos rfl, pk_sub (by omega)]
        unfold fX10_next_L230
        by_cases q : p - a ≤ 3
        · rw [if_pos (show nI (p - a) ≤ 3 from nI_le (a := p - a) (b := 3) q (by decide)), if_pos q]
        · rw [if_neg (show ¬ nI (p - a) ≤ 3 from nI_ge (a := 3) (b := p - a) (by omega) (by omega)), if_neg q]
    | true =>
      obtain ⟨d, hd, hx⟩ := dg_of hl
      obtain ⟨b, cv', rv', v, b1, b2, b3, b4, b5, b6, b7⟩ := p_digits (F := F) (a := a) hn h k (p + 1) ((10 : Int32) * cv + m p - (48 : Int32)) (if p - a < 3 then (10 : Int32) * rv + m p - (48 : Int32) else rv) (by omega) (by omega) (fun q => by
        obtain ⟨v, v1, v2, v3⟩ := hv (by omega)
        refine ⟨10 * v + d, ?_, ?_, ?_⟩
        · rw [show p + 1 - a = (p - a) + 1 by omega, Nat.pow_succ]; omega
        · rw [v2, hx, dg_step]
        · rw [if_pos (by omega), v3, hx, dg_step])
      refine ⟨b, cv', rv', v, by omega, b2, fun _ _ => by omega, fun fuel hf => ?_, fun fuel ki hf => ?_, b6, b7⟩
      · obtain ⟨f, rfl⟩ : ∃ f, fuel = f + 1 := ⟨fuel - 1, by omega⟩
        rw [fX5_takeToken_L94, if_neg (nI_ge (by omega) (by omega)), p_byteAt hn h (by omega), ob_s, p_so, ob_s, rd_in hpn, so_d hl, if_pos rfl, if_pos rfl, ob_s, fX5_takeToken_L155, ol_s, show nI p + (1 : Int32) = nI (p + 1) from nI_1 p]
        exact b4 f (by omega)
      · obtain ⟨f, rfl⟩ : ∃ f, fuel = f + 1 := ⟨fuel - 1, by omega⟩
        rw [fX10_next_L146, p_see hn (by omega), ob_s, p_dg10, ob_s, rd_in hpn, hl, bI_1 rfl, if_neg one0, pk_sub (by omega)]
        have b5' := b5 f ki (by omega)
        by_cases q : p - a < 3
        · rw [if_neg (show ¬ (3 : Int32) ≤ nI (p - a) from nI_ge (a := p - a) (b := 3) q (by decide)), ob_s, ol_s, fX10_next_L196, ol_s, show nI p + (1 : Int32) = nI (p + 1) from nI_1 p]
          rw [if_pos q] at b5'
          exact b5'
        · rw [if_pos (show (3 : Int32) ≤ nI (p - a) from nI_le (a := 3) (b := p - a) (by omega) (by omega)), fX10_next_L196, ol_s, show nI p + (1 : Int32) = nI (p + 1) from nI_1 p]
          rw [if_neg q] at b5'
          exact b5'
/-! keys -/
def isK (n : Nat) (m : Nat → Int32) (w a b : Nat) : Prop := b - a = sle w ∧ ∀ j, j < sle w → rdB n m (a + j) = sch w j
theorem p_spl_L {F n a b w : Nat} {c m : Nat → Int32} {so : Int32} (hn : n ≤ 900) (h : ∀ j, j < n → c j &&& 255 = m j) (ha : a ≤ 900) (hw : sle w ≤ 39) : ∀ (k j fuel : Nat), j + k = sle w → k < fuel → ∃ r : Bool, fX5_spells_L28 F (nI n) (nI b) (nI a) so c w fuel (nI j) = some (bI r) ∧ (r = true ↔ ∀ i, j ≤ i → i < sle w → rdB n m (a + i) = sch w i)
  | 0, j, fuel + 1, hj, _ => by
    refine ⟨true, ?_, fun _ i a b => by omega, fun _ => rfl⟩
    rw [fX5_spells_L28, if_pos (show (Int32.ofNat (sle w)) ≤ nI j from nI_le (a := sle w) (b := j) (by omega) (by omega))]; rfl
  | k + 1, j, fuel + 1, hj, hf => by
    obtain ⟨r, e1, e2⟩ := p_spl_L (F := F) (b := b) (so := so) hn h ha hw k (j + 1) fuel (by omega) (by omega)
    rw [fX5_spells_L28, if_neg (show ¬ (Int32.ofNat (sle w)) ≤ nI j from nI_ge (a := j) (b := sle w) (by omega) (by omega)), nI_add, p_byteAt hn h (by omega), ob_s, vb_nI (show j < sle w by omega) (by omega), og_s, nI_clamp (by omega)]
    by_cases q : rdB n m (a + j) = sch w j
    · refine ⟨r, ?_, e2.trans ⟨fun z i i1 i2 => ?_, fun z i i1 i2 => z i (by omega) i2⟩⟩
      · rw [if_pos q, ol_s, nI_1]; exact e1
      · by_cases e : i = j
        · subst e; exact q
        · exact z i (by omega) i2
    · refine ⟨false, ?_, (fun z => by cases z), fun z => absurd (z j (Nat.le_refl _) (by omega)) q⟩
      rw [if_neg q]; rfl
  | k, j, 0, _, hf => absurd hf (Nat.not_lt_zero k)
theorem sle_le : ∀ w, w < 7 → sle w ≤ 39 ∧ 1 ≤ sle w := by decide
theorem p_spells {F n a b w : Nat} {c m : Nat → Int32} (hn : n ≤ 900) (h : ∀ j, j < n → c j &&& 255 = m j) (hab : a ≤ b) (hb : b ≤ n) (hw : w < 7) (hF : 40 < F) : ∃ r : Bool, fX5_spells F (nI n) (nI b) (nI a) 1 c w = some (bI r) ∧ (r = true ↔ isK n m w a b) := by
  have hl := sle_le w hw
  unfold fX5_spells
  rw [if_pos rfl, pk_sub hab]
  by_cases e : b - a = sle w
  · obtain ⟨r, e1, e2⟩ := p_spl_L (F := F) (b := b) (so := 1) hn h (show a ≤ 900 by omega) hl.1 (sle w) 0 F (by omega) (by omega)
    refine ⟨r, ?_, e2.trans ⟨fun z => ⟨e, fun j hj => z j (Nat.zero_le _) hj⟩, fun z i _ hi => z.2 i hi⟩⟩
    rw [if_pos (show nI (b - a) = Int32.ofNat (sle w) by rw [e]; rfl)]; exact e1
  · refine ⟨false, ?_, (fun z => by cases z), fun z => absurd z.1 e⟩
    rw [if_neg (show ¬ nI (b - a) = Int32.ofNat (sle w) from nI_ne (a := b - a) (b := sle w) (by omega) (by omega) e)]; rfl
theorem p_spellsN {F n a b w : Nat} {c : Nat → Int32} {so : Int32} (hs : ¬ so = 1) : fX5_spells F (nI n) (nI b) (nI a) so c w = some 0 := by
  unfold fX5_spells
  rw [if_neg hs]
theorem isK_one {n a b : Nat} {m : Nat → Int32} {w w' : Nat} (hw : w < 7) (hw' : w' < 7) (h : isK n m w a b) (h' : isK n m w' a b) : w = w' := by
  have tab : ∀ w, w < 7 → ∀ w', w' < 7 → w ≠ w' → sle w = sle w' → ∃ j, j < sle w ∧ sch w j ≠ sch w' j := by decide +kernel
  apply Classical.byContradiction
  intro hne
  have hl : sle w = sle w' := by rw [← h.1, ← h'.1]
  obtain ⟨j, j1, j2⟩ := tab w hw w' hw' hne hl
  exact j2 (by rw [← h.2 j j1, ← h'.2 j (by omega)])
