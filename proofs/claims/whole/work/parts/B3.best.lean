/-! promises 35 and 37 -/
/-- days that are good by quarters: S a day's free quarters -/
def addG (G : Nat → Nat) (S : Int32) : Nat → Nat := fun q => G q + (if bt S q then 1 else 0)
def gEq (g : Nat → Int32) (G : Nat → Nat) : Prop := ∀ q, q < 24 → g q = nI (G q)
theorem p_aG {F : Nat} {S o : Int32} {G : Nat → Nat} : ∀ (k i fuel : Nat) (g : Nat → Int32), i + k = 24 → k < fuel → (∀ q, q < i → g q = nI (addG G S q)) → (∀ q, i ≤ q → q < 24 → g q = nI (G q)) → ∃ g', fX1_addGoodDay_L16 F S fuel (nI i) o g = some (o, g') ∧ gEq g' (addG G S)
  | 0, i, fuel + 1, g, h, _, h1, _ => ⟨g, by rw [fX1_addGoodDay_L16, show i = 24 by omega, if_pos (show (24 : Int32) ≤ nI 24 from nI_le (Nat.le_refl 24) (by decide))], fun q hq => h1 q (by omega)⟩
  | k + 1, i, fuel + 1, g, h, hf, h1, h2 => by
    rw [fX1_addGoodDay_L16, if_neg (show ¬ (24 : Int32) ≤ nI i from nI_ge (a := i) (b := 24) (by omega) (by decide)), vb_nI (by omega) (by decide), og_s, og_s, ol_s, ol_s, nI_1, nI_clamp (by omega), bitI (by omega), h2 i (by omega) (by omega)]
    have hb : nI (G i) + bI (bt S i) = nI (addG G S i) := by
      unfold addG
      cases bt S i with
      | true => exact nI_1 _
      | false => exact nI_add _ 0
    rw [hb]
    exact p_aG k (i + 1) fuel _ (by omega) (by omega) (fun q hq => by
      by_cases e : q = i
      · subst e; rw [pk_us]
      · rw [pk_un e]; exact h1 q (by omega)) (fun q hq hq2 => by rw [pk_un (by omega)]; exact h2 q (by omega) hq2)
  | k, i, 0, g, _, hf, _, _ => absurd hf (Nat.not_lt_zero k)
theorem p_addGood {F o : Nat} {S : Int32} {G : Nat → Nat} {g : Nat → Int32} (hg : gEq g G) (hF : 24 < F) : ∃ g', fX1_addGoodDay F (nI o) g S = some (nI (o + (if S = 0 then 0 else 1)), g') ∧ gEq g' (addG G S) := by
  unfold fX1_addGoodDay fX1_addGoodDay_L14
  by_cases h : S = 0
  · obtain ⟨g', e1, e2⟩ := p_aG (F := F) (S := S) (o := nI o) (G := G) 24 0 F g (by omega) (by omega) (fun q hq => by omega) (fun q _ hq => hg q hq)
    exact ⟨g', by rw [if_pos h, if_pos h]; exact e1, e2⟩
  · obtain ⟨g', e1, e2⟩ := p_aG (F := F) (S := S) (o := nI (o + 1)) (G := G) 24 0 F g (by omega) (by omega) (fun q hq => by omega) (fun q _ hq => hg q hq)
    exact ⟨g', by rw [if_neg h, if_neg h, ol_s, nI_1]; exact e1, e2⟩
theorem p_isIn {F q : Nat} (hq : q < 32) (S : Int32) : fX10_isIn F S (nI q) = some (bI (bt S q)) := by
  unfold fX10_isIn
  rw [bitI hq]
  cases bt S q <;> rfl
theorem p_aM {F o i0 : Nat} {S a1 a2 : Int32} {G : Nat → Nat} {all his los pm pf : Nat → Int32} {k28 : Int32 → Int32 → (Nat → Int32) → (Nat → Int32) → (Nat → Int32) → (Nat → Int32) → (Nat → Int32) → Option (Int32 × Int32 × (Nat → Int32) × (Nat → Int32) × (Nat → Int32) × (Nat → Int32) × (Nat → Int32))} : ∀ (k i fuel : Nat) (g : Nat → Int32), i + k = 24 → k < fuel → (∀ q, q < i → g q = nI (addG G S q)) → (∀ q, i ≤ q → q < 24 → g q = nI (G q)) → ∃ g', fX10_bestBy_L52 F all a1 a2 k28 fuel (nI i0) S (nI i) (nI o) g his los pm pf = k28 (nI (i0 + 1)) (nI (o + (if S = 0 then 0 else 1))) g' his los pm pf ∧ gEq g' (addG G S)
  | 0, i, fuel + 1, g, h, _, h1, _ => by
    refine ⟨g, ?_, fun q hq => h1 q (by omega)⟩
    rw [fX10_bestBy_L52, show i = 24 by omega, if_pos (show (24 : Int32) ≤ nI 24 from nI_le (Nat.le_refl 24) (by decide))]
    unfold fX10_bestBy_L105
    simp only [ol_s, nI_1]
    by_cases hS : S = 0
    · rw [if_pos hS, if_pos hS, show nI o + 0 = nI (o + 0) from nI_add o 0]
    · rw [if_neg hS, if_neg hS]
  | k + 1, i, fuel + 1, g, h, hf, h1, h2 => by
    rw [fX10_bestBy_L52, if_neg (show ¬ (24 : Int32) ≤ nI i from nI_ge (a := i) (b := 24) (by omega) (by decide)), vb_nI (by omega) (by decide), og_s, p_isIn (by omega), ob_s, nI_clamp (by omega), h2 i (by omega) (by omega)]
    unfold fX10_bestBy_L82
    simp only [vb_nI (show i < 24 by omega) (by decide), og_s, ol_s, nI_1, nI_clamp (show i < 2 ^ 31 by omega)]
    have go : ∃ g', fX10_bestBy_L52 F all a1 a2 k28 fuel (nI i0) S (nI (i + 1)) (nI o) (upd g i (nI (addG G S i))) his los pm pf = k28 (nI (i0 + 1)) (nI (o + (if S = 0 then 0 else 1))) g' his los pm pf ∧ gEq g' (addG G S) := p_aM k (i + 1) fuel _ (by omega) (by omega) (fun q hq => by
      by_cases e : q = i
      · subst e; rw [pk_us]
      · rw [pk_un e]; exact h1 q (by omega)) (fun q hq hq2 => by rw [pk_un (by omega)]; exact h2 q (by omega) hq2)
    have hG : addG G S i = G i + (if bt S i then 1 else 0) := rfl
    rw [hG] at go
    cases hb : bt S i with
    | true =>
      rw [hb] at go
      rw [bI_1 rfl, if_neg one0]
      exact go
    | false =>
      rw [hb] at go
      rw [bI_0 rfl, if_pos rfl, show nI (G i) + 0 = nI (G i + 0) from nI_add _ 0]
      exact go
  | k, i, 0, g, _, hf, _, _ => absurd hf (Nat.not_lt_zero k)
/-- the first of the greatest, from b over the next k quarters -/
def bqR (G : Nat → Nat) : Nat → Nat → Nat → Nat
  | 0, _, b => b
  | k + 1, q, b => bqR G k (q + 1) (if G q ≤ G b then b else q)
theorem bqR_zero {G : Nat → Nat} : ∀ (k q b : Nat), (∀ j, q ≤ j → j < q + k → G j = 0) → bqR G k q b = b
  | 0, _, _, _ => rfl
  | k + 1, q, b, h => by
    show bqR G k (q + 1) (if G q ≤ G b then b else q) = b
    rw [if_pos (by rw [h q (Nat.le_refl _) (by omega)]; omega)]
    exact bqR_zero k (q + 1) b (fun j a c => h j (by omega) (by omega))
theorem bqR_app {G : Nat → Nat} : ∀ (k m q b : Nat), bqR G (k + m) q b = bqR G m (q + k) (bqR G k q b)
  | 0, m, q, b => by rw [Nat.zero_add, Nat.add_zero]; rfl
  | k + 1, m, q, b => by
    rw [show k + 1 + m = (k + m) + 1 by omega]
    show bqR G (k + m) (q + 1) (if G q ≤ G b then b else q) = bqR G m (q + (k + 1)) (bqR G k (q + 1) (if G q ≤ G b then b else q))
    rw [bqR_app k m, show q + 1 + k = q + (k + 1) by omega]
theorem bqR_lt {G : Nat → Nat} : ∀ (k q b : Nat), b < q → bqR G k q b < q + k
  | 0, q, b, h => h
  | k + 1, q, b, h => by
    show bqR G k (q + 1) (if G q ≤ G b then b else q) < q + (k + 1)
    have := bqR_lt (G := G) k (q + 1) (if G q ≤ G b then b else q) (by split <;> omega)
    omega
theorem p_bqC {F : Nat} {ch la th a1 a2 : Int32} {fs hts lit sc sm ts xs g hs v whi wlo : Nat → Int32} {bd od : Int32} {G : Nat → Nat} (hg : gEq g G) (hb : ∀ q, G q < 2 ^ 20) : ∀ (k q fuel b : Nat), q + k = 24 → k < fuel → b < q → fX1_weigh_L96 F ch la th fs hts lit sc sm ts xs a1 a2 fuel (nI q) (nI b) bd od g hs v whi wlo = some (nI (bqR G k q b), nI (G (bqR G k q b)), od, g, hs, v, whi, wlo)
  | 0, q, fuel + 1, b, h, _, hbq => by
    rw [fX1_weigh_L96, show q = 24 by omega, if_pos (show (24 : Int32) ≤ nI 24 from nI_le (Nat.le_refl 24) (by decide)), vb_nI (show b < 24 by omega) (by decide), og_s, ol_s, nI_clamp (by omega), hg b (by omega)]; rfl
  | k + 1, q, fuel + 1, b, h, hf, hbq => by
    have b1 := hb q
    have b2 := hb b
    rw [fX1_weigh_L96, if_neg (show ¬ (24 : Int32) ≤ nI q from nI_ge (a := q) (b := 24) (by omega) (by decide)), vb_nI (show q < 24 by omega) (by decide), og_s, vb_nI (show b < 24 by omega) (by decide), og_s, nI_clamp (by omega), nI_clamp (by omega), hg q (by omega), hg b (by omega)]
    unfold fX1_weigh_L125
    simp only [ol_s, nI_1]
    show _ = some (nI (bqR G k (q + 1) (if G q ≤ G b then b else q)), nI (G (bqR G k (q + 1) (if G q ≤ G b then b else q))), od, g, hs, v, whi, wlo)
    by_cases hle : G q ≤ G b
    · rw [if_pos (nI_le hle (by omega)), if_pos hle]
      exact p_bqC hg hb k (q + 1) fuel b (by omega) (by omega) (by omega)
    · rw [if_neg (nI_ge (by omega) (by omega)), if_neg hle]
      exact p_bqC hg hb k (q + 1) fuel q (by omega) (by omega) (by omega)
  | k, q, 0, b, _, hf, _ => absurd hf (Nat.not_lt_zero k)
theorem p_bqM {F c e : Nat} {a2 go : Int32} {all g his los pm pf : Nat → Int32} {G : Nat → Nat} (hc : c < 10) (h36 : all (36 + c) = nI e) (he : e ≤ 23) (hg : gEq g G) (hb : ∀ q, G q < 2 ^ 20) : ∀ (k q fuel b : Nat), q + k = e + 1 → k < fuel → b < q → fX10_bestBy_L130 F all (nI c) a2 fuel (nI b) (nI q) go g his los pm pf = some (nI (bqR G k q b), go, g, his, los, pm, pf)
  | 0, q, fuel + 1, b, h, _, hbq => by
    have e36 : (36 : Int32) + nI c = nI (36 + c) := nI_add 36 c
    rw [fX10_bestBy_L130, e36, vb_nI (by omega) (by decide), og_s, nI_clamp (by omega), h36, if_pos (nI_lt (by omega) (by omega))]; rfl
  | k + 1, q, fuel + 1, b, h, hf, hbq => by
    have b1 := hb q
    have b2 := hb b
    have e36 : (36 : Int32) + nI c = nI (36 + c) := nI_add 36 c
    rw [fX10_bestBy_L130, e36, vb_nI (by omega) (by decide), og_s, nI_clamp (by omega), h36, if_neg (nI_nlt (by omega) (by omega)), vb_nI (show q < 24 by omega) (by decide), og_s, vb_nI (show b < 24 by omega) (by decide), og_s, nI_clamp (by omega), nI_clamp (by omega), hg q (by omega), hg b (by omega)]
    unfold fX10_bestBy_L163
    simp only [ol_s, nI_1]
    show _ = some (nI (bqR G k (q + 1) (if G q ≤ G b then b else q)), go, g, his, los, pm, pf)
    by_cases hle : G q ≤ G b
    · rw [if_pos (nI_le hle (by omega)), if_pos hle]
      exact p_bqM hc h36 he hg hb k (q + 1) fuel b (by omega) (by omega) (by omega)
    · rw [if_neg (nI_ge (by omega) (by omega)), if_neg hle]
      exact p_bqM hc h36 he hg hb k (q + 1) fuel q (by omega) (by omega) (by omega)
  | k, q, 0, b, _, hf, _ => absurd hf (Nat.not_lt_zero k)
