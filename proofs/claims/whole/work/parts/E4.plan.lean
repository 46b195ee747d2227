/-! promise 21: the soonest plan -/
def snr (p B : Nat × Nat × (Nat → Nat)) : Bool := decide (p.1 < B.1) || (decide (p.1 = B.1) && decide (p.2.1 < B.2.1))
def stp (B p : Nat × Nat × (Nat → Nat)) : Nat × Nat × (Nat → Nat) := if snr p B then p else B
theorem snr_iff {p B : Nat × Nat × (Nat → Nat)} : snr p B = true ↔ p.1 < B.1 ∨ (p.1 = B.1 ∧ p.2.1 < B.2.1) := by
  unfold snr; simp
theorem fold_no {B : Nat × Nat × (Nat → Nat)} : ∀ (l : List (Nat × Nat × (Nat → Nat))), (∀ p, p ∈ l → snr p B = false) → l.foldl stp B = B
  | [], _ => rfl
  | p :: l, h => by
    rw [List.foldl_cons]
    have : stp B p = B := by unfold stp; rw [h p (List.mem_cons_self ..)]; rfl
    rw [this]
    exact fold_no l (fun p hp => h p (List.mem_cons_of_mem _ hp))
theorem fold_lt : ∀ (l : List (Nat × Nat × (Nat → Nat))) (B : Nat × Nat × (Nat → Nat)), (∀ p, p ∈ l → p.1 ≤ 23) → B.1 ≤ 24 → (B.1 ≤ 23 ∨ l ≠ []) → (l.foldl stp B).1 ≤ 23
  | [], B, _, _, h => h.elim id (fun z => absurd rfl z)
  | p :: l, B, hp, h1, h => by
    rw [List.foldl_cons]
    have hp1 := hp p (List.mem_cons_self ..)
    have : (stp B p).1 ≤ 23 := by
      unfold stp
      cases hs : snr p B with
      | true => exact hp1
      | false =>
        have : ¬ (p.1 < B.1 ∨ (p.1 = B.1 ∧ p.2.1 < B.2.1)) := fun z => by rw [snr_iff.mpr z] at hs; cases hs
        show B.1 ≤ 23
        omega
    exact fold_lt l _ (fun q hq => hp q (List.mem_cons_of_mem _ hq)) (by omega) (Or.inl this)
def bC (U : Nat) (B : Nat × Nat × (Nat → Nat)) (sl ss : Int32) (so : Nat → Int32) : Prop := sl = nI B.1 ∧ ss = nI B.2.1 ∧ B.1 ≤ 24 ∧ B.2.1 ≤ 200 ∧ (B.1 < 24 → ∀ k, k < U → so k = nI (B.2.2 k))
theorem p_isSooner {F U la su : Nat} {g : Nat → Nat} {B : Nat × Nat × (Nat → Nat)} {sl ss : Int32} {so : Nat → Int32} (h : bC U B sl ss so) (h1 : la < 1000) (h2 : su < 1000) : fX6_isSooner F sl ss (nI la) (nI su) = some (bI (snr (la, su, g) B)) := by
  obtain ⟨rfl, rfl, b1, b2, -⟩ := h
  unfold fX6_isSooner fX6_isSooner_L24 snr
  dsimp only
  by_cases e1 : la < B.1
  · rw [if_pos (nI_lt e1 (by omega)), decide_eq_true e1]; rfl
  · rw [if_neg (nI_nlt (by omega) (by omega)), decide_eq_false e1]
    by_cases e2 : la = B.1
    · rw [if_pos (by rw [e2]), decide_eq_true e2]
      by_cases e3 : su < B.2.1
      · rw [if_neg (nI_ge e3 (by omega)), decide_eq_true e3]; rfl
      · rw [if_pos (nI_le (by omega) (by omega)), decide_eq_false e3]; rfl
    · rw [if_neg (nI_ne (by omega) (by omega) e2), decide_eq_false e2]; rfl
def cz (S : Int32) : Nat → Nat → Nat
  | 0, q => q
  | n + 1, q => if bt S q then q else cz S n (q + 1)
theorem ctz_0 {F : Nat} : fJ6_numberOfTrailingZeros_0f7a4 F 0 = some (nI 32) := rfl
theorem p_cz {F : Nat} {S : Int32} : ∀ (n q : Nat), q + n = 32 → (∀ j, j < q → bt S j = false) → fJ6_numberOfTrailingZeros_0f7a4 F S = some (nI (cz S n q)) ∧ cz S n q ≤ 32 ∧ ∀ b, b < 32 → bt S b = true → cz S n q ≤ b
  | 0, q, h, h0 => by
    have : S = 0 := bt_zero (fun b hb => h0 b (by omega))
    subst this
    rw [show cz 0 0 q = 32 by show q = 32; omega]
    exact ⟨ctz_0, Nat.le_refl _, fun b _ hb => by rw [b_0] at hb; cases hb⟩
  | n + 1, q, h, h0 => by
    rw [cz]
    cases hb : bt S q with
    | true =>
      rw [if_pos rfl]
      obtain ⟨N, hN, rfl⟩ := wb_of32 S
      refine ⟨p_ctz32 hN (by omega) (by rw [← bt_nI (by omega)]; exact hb) (fun j hj => by rw [← bt_nI (by omega)]; exact h0 j hj), by omega, fun b b1 b2 => ?_⟩
      rcases Nat.lt_or_ge b q with z | z
      · rw [h0 b z] at b2; cases b2
      · exact z
    | false =>
      rw [if_neg (by decide)]
      exact p_cz n (q + 1) (by omega) (fun j hj => by
        by_cases e : j = q
        · subst e; exact hb
        · exact h0 j (by omega))
def loO (op : Nat → Int32) (D : Nat) (j : Nat) : Nat := cz (op (5 * D + j)) 32 0
theorem p_may_L {F U D i m' : Nat} {g : Nat → Nat} {op : Nat → Int32} {B : Nat × Nat × (Nat → Nat)} {sl ss : Int32} {so : Nat → Int32} (hU : U ≤ 5) (hD : D ≤ 5) (hm' : ∀ j, j < U → m'.testBit j = decide (i ≤ j)) (hi : i ≤ U) (hB : bC U B sl ss so) :
    ∀ (n j fuel la su : Nat), j + n = U → n < fuel → la ≤ 32 → su + 32 * n ≤ 900 → fX6_maySooner_L3 F (nI U) sl ss op (nI D) (nI m') fuel (nI la) (nI su) (nI j) = some (bI (snr (mxl (loO op D) (U - max j i) (max j i) la, su + sumR (loO op D) (max j i) (U - max j i), g) B))
  | 0, j, fuel + 1, la, su, h, _, h1, h2 => by
    rw [fX6_maySooner_L3, if_pos (nI_le (by omega) (by omega)), p_isSooner (g := g) hB (by omega) (by omega), ob_s, bI_zb, og_s, show U - max j i = 0 by omega]
    rfl
  | n + 1, j, fuel + 1, la, su, h, hf, h1, h2 => by
    rw [fX6_maySooner_L3, if_neg (nI_ge (by omega) (by omega)), bitI (show j < 32 by omega), bt_nI (by omega), hm' j (by omega)]
    by_cases e : i ≤ j
    · obtain ⟨c1, c2, -⟩ := p_cz (F := F) (S := op (5 * D + j)) 32 0 (by omega) (fun k hk => by omega)
      have hlo : loO op D j = cz (op (5 * D + j)) 32 0 := rfl
      rw [decide_eq_true e, bI_1 rfl, if_neg one0, ix5, vb_nI (show 5 * D + j < 30 by omega) (by decide), og_s, nI_clamp (by omega), c1, ob_s, ol_s, ol_s, nI_add, fX6_maySooner_L51, ol_s, nI_1, ← hlo]
      rw [← hlo] at c2
      have hmx : (if nI la < nI (loO op D j) then nI (loO op D j) else nI la) = nI (max la (loO op D j)) := by
        by_cases q : la < loO op D j
        · rw [if_pos (nI_lt q (by omega)), show max la (loO op D j) = loO op D j by omega]
        · rw [if_neg (nI_nlt (by omega) (by omega)), show max la (loO op D j) = la by omega]
      rw [hmx, p_may_L hU hD hm' hi hB n (j + 1) fuel _ _ (by omega) (by omega) (by omega) (by omega)]
      have e1 : U - max j i = (U - max (j + 1) i) + 1 := by omega
      have e2 : max j i = j := by omega
      have e3 : max (j + 1) i = j + 1 := by omega
      rw [e1, e2, e3, sumR_s, Nat.add_assoc]
      rfl
    · rw [decide_eq_false e, bI_0 rfl, if_pos rfl, fX6_maySooner_L51, ol_s, nI_1, p_may_L hU hD hm' hi hB n (j + 1) fuel _ _ (by omega) (by omega) (by omega) (by omega)]
      have e3 : max (j + 1) i = i := by omega
      have e2 : max j i = i := by omega
      rw [e2, e3]
  | n, j, 0, la, su, _, hf, _, _ => absurd hf (Nat.not_lt_zero n)
/-- if no sooner one can come, none does -/
theorem p_may {F U D i m' la su : Nat} {g : Nat → Nat} {op : Nat → Int32} {B : Nat × Nat × (Nat → Nat)} {sl ss : Int32} {so : Nat → Int32} {f : Nat → Nat → Bool} {x : Nat → Nat → Nat → Nat → Bool} {s : Nat → Bool} (hU : U ≤ 5) (hD : D ≤ 5) (hm' : ∀ j, j < U → m'.testBit j = decide (i ≤ j)) (hi : i ≤ U) (hs : ∀ j, j < U → s j = true) (hB : bC U B sl ss so) (hop : opI f x s g U op D i) (h1 : la ≤ 23) (h2 : su ≤ 200) (hF : 6 < F) :
    ∃ b : Bool, fX6_maySooner F (nI U) sl ss op (nI D) (nI m') (nI la) (nI su) = some (bI b) ∧ (b = false → ∀ p, p ∈ PL f x s (U - i) i g la su → snr p B = false) := by
  have h := p_may_L (F := F) (g := g) (op := op) hU hD hm' hi hB U 0 F la su (by omega) (by omega) (by omega) (by omega)
  rw [show max 0 i = i by omega] at h
  refine ⟨_, h, fun hb p hp => ?_⟩
  have lb := PL_lb (lo := loO op D) (U - i) i g la su (fun j a b => ⟨hs j (by omega), fun q hq hg => by
    rw [← hop j a (by omega) (hs j (by omega)) q (by omega)] at hg
    exact (p_cz (F := F) (S := op (5 * D + j)) 32 0 (by omega) (fun k hk => by omega)).2.2 q (by omega) hg⟩) hp
  cases hs' : snr p B with
  | false => rfl
  | true =>
    have z1 := snr_iff.mp hs'
    have z2 : ¬ _ := fun z => by rw [snr_iff.mpr z] at hb; cases hb
    dsimp only at z2
    omega
theorem p_ss33 {F U D z m' la su : Nat} {a2 : Int32} {cl : Nat → Int32} {rM : Int32 → Int32 → (Nat → Int32) → (Nat → Int32) → (Nat → Int32) → Int32 → Int32 → Int32 → Int32 → Option (Int32 × Int32 × (Nat → Int32) × (Nat → Int32) × (Nat → Int32))} {f : Nat → Nat → Bool} {x : Nat → Nat → Nat → Nat → Bool} {s : Nat → Bool} {g : Nat → Nat} (hU : U ≤ 5) (hD : D ≤ z) (hz : z < U) (hs : ∀ j, j < U → s j = true) (hm : m' < 32) (hm' : ∀ j, j < 5 → m'.testBit j = (decide (z + 1 ≤ j) && s j)) (hcl : clI x U cl) (hla : la ≤ 23) (hsu : su ≤ 23 * z) (hF : 6 < F)
    (hR : ∀ (g1 : Nat → Nat) (la1 su1 : Nat) (B : Nat × Nat × (Nat → Nat)) (sl ss : Int32) (ch op1 so : Nat → Int32), la1 ≤ 23 → su1 ≤ 23 * (z + 1) → bC U B sl ss so → (∀ j, j < z + 1 → ch j = nI (g1 j)) → opI f x s g1 U op1 (D + 1) (z + 1) → ∃ sl' ss' ch' op2 so', rM sl ss ch op1 so (nI (D + 1)) (nI m') (nI la1) (nI su1) = some (sl', ss', ch', op2, so') ∧ bC U ((PL f x s (U - (z + 1)) (z + 1) g1 la1 su1).foldl stp B) sl' ss' so' ∧ (∀ j, j < z + 1 → ch' j = ch j) ∧ ∀ p, p < 5 * (D + 1 + 1) → op2 p = op1 p) :
    ∀ (n q fuel : Nat) (B : Nat × Nat × (Nat → Nat)) (sl ss : Int32) (ch op so : Nat → Int32), q + n = 24 → n < fuel → bC U B sl ss so → (∀ j, j < z → ch j = nI (g j)) → opI f x s g U op D z → ∃ sl' ss' ch' op' so', fX6_seekSoonest_L33 F (nI U) cl (nI D) a2 (nI la) (nI su) rM fuel (nI z) (nI m') (nI q) sl ss ch op so = some (sl', ss', ch', op', so') ∧ bC U ((fromQ (plH f x s (U - (z + 1)) z g la su) n q).foldl stp B) sl' ss' so' ∧ (∀ j, j < z → ch' j = ch j) ∧ ∀ p, p < 5 * (D + 1) → op' p = op p
  | 0, q, fuel + 1, B, sl, ss, ch, op, so, h, _, hB, hch, _ => by
    refine ⟨sl, ss, ch, op, so, ?_, hB, fun _ _ => rfl, fun _ _ => rfl⟩
    rw [fX6_seekSoonest_L33, if_pos (show (24 : Int32) ≤ nI q from nI_le (a := 24) (b := q) (by omega) (by omega))]
  | n + 1, q, fuel + 1, B, sl, ss, ch, op, so, h, hf, hB, hch, hop => by
    have hsz := hs z hz
    have IH := fun B0 sl0 ss0 ch0 op0 so0 => p_ss33 (F := F) (a2 := a2) (g := g) hU hD hz hs hm hm' hcl hla hsu hF hR n (q + 1) fuel B0 sl0 ss0 ch0 op0 so0 (by omega) (by omega)
    rw [fX6_seekSoonest_L33, if_neg (show ¬ (24 : Int32) ≤ nI q from nI_ge (a := q) (b := 24) (by omega) (by decide)), p_isOpen hU hD hz (by omega) hsz hop, ob_s, fromQ_s, List.foldl_append]
    cases hb : goB f x s g z z q with
    | false =>
      rw [bI_0 rfl, if_pos rfl, fX6_seekSoonest_L118, ol_s, nI_1, plH_no hb, List.foldl_nil]
      exact IH B sl ss ch op so hB hch hop
    | true =>
      obtain ⟨b, op1, e1, e2, e3, e4⟩ := p_narrow (F := F) (q := q) hU hD hz (by omega) hsz hm hm' hcl hF hop
      rw [bI_1 rfl, if_neg one0, e1, ob_s, plH_yes hb]
      dsimp only
      cases b with
      | false =>
        rw [bI_0 rfl, if_pos rfl, fX6_seekSoonest_L118, ol_s, nI_1, e4 rfl, List.foldl_nil]
        obtain ⟨sl', ss', ch', op', so', f1, f2, f3, f4⟩ := IH B sl ss ch op1 so hB hch (opI_congr hU hop e2)
        exact ⟨sl', ss', ch', op', so', f1, f2, f3, fun p hp => by rw [f4 p hp, e2 p hp]⟩
      | true =>
        have hmx : (if nI la < nI q then nI q else nI la) = nI (max la q) := by
          by_cases c : la < q
          · rw [if_pos (nI_lt c (by omega)), show max la q = q by omega]
          · rw [if_neg (nI_nlt (by omega) (by omega)), show max la q = la by omega]
        obtain ⟨b2, k1, k2⟩ := p_may (F := F) (D := D + 1) (i := z + 1) (la := max la q) (su := su + q) hU (by omega) (fun j hj => by rw [hm' j (by omega), hs j hj, Bool.and_true]) (by omega) hs hB (e3 rfl) (by omega) (by omega) hF
        rw [bI_1 rfl, if_neg one0, hmx, nI_add, show nI D + (1 : Int32) = nI (D + 1) from nI_1 D, k1, ob_s]
        cases b2 with
        | false =>
          rw [bI_0 rfl, if_pos rfl, fX6_seekSoonest_L118, ol_s, nI_1, fold_no _ (k2 rfl)]
          obtain ⟨sl', ss', ch', op', so', f1, f2, f3, f4⟩ := IH B sl ss ch op1 so hB hch (opI_congr hU hop e2)
          exact ⟨sl', ss', ch', op', so', f1, f2, f3, fun p hp => by rw [f4 p hp, e2 p hp]⟩
        | true =>
          obtain ⟨sl1, ss1, ch1, op2, so1, r1, r2, r3, r4⟩ := hR (va_up g z q) (max la q) (su + q) B sl ss (upd ch z (nI q)) op1 so (by omega) (by omega) hB (fun j hj => by
            by_cases e : j = z
            · subst e; rw [pk_us, va_up_self]
            · rw [pk_un e, va_up_ne _ _ e]; exact hch j (by omega)) (e3 rfl)
          have g4 : ∀ p, p < 5 * (D + 1) → op2 p = op p := fun p hp => by rw [r4 p (by omega), e2 p hp]
          have c4 : ∀ j, j < z → ch1 j = ch j := fun j hj => by rw [r3 j (by omega), pk_un (by omega)]
          obtain ⟨sl', ss', ch', op', so', f1, f2, f3, f4⟩ := IH _ sl1 ss1 ch1 op2 so1 r2 (fun j hj => by rw [c4 j hj]; exact hch j hj) (opI_congr hU hop g4)
          refine ⟨sl', ss', ch', op', so', ?_, f2, fun j hj => by rw [f3 j hj, c4 j hj], fun p hp => by rw [f4 p hp, g4 p hp]⟩
          rw [bI_1 rfl, if_neg one0, vb_nI (show z < 5 by omega) (by decide), og_s, ol_s, nI_clamp (by omega), r1, ob_s]
          dsimp only
          rw [fX6_seekSoonest_L118, ol_s, nI_1]
          exact f1
  | n, q, 0, B, sl, ss, ch, op, so, _, hf, _, _, _ => absurd hf (Nat.not_lt_zero n)
theorem p_seek {F U : Nat} {cl : Nat → Int32} {f : Nat → Nat → Bool} {x : Nat → Nat → Nat → Nat → Bool} {s : Nat → Bool} (hU : U ≤ 5) (hs : ∀ j, j < U → s j = true) (hsU : ∀ j, s j = true → j < U) (hcl : clI x U cl) (hF : 24 < F) :
    ∀ (d i D m : Nat) (g : Nat → Nat) (la su : Nat) (B : Nat × Nat × (Nat → Nat)) (sl ss : Int32) (ch op so : Nat → Int32), U - i < d → D ≤ i → i ≤ U → m < 32 → (∀ j, j < 5 → m.testBit j = (decide (i ≤ j) && s j)) → la ≤ 23 → su ≤ 23 * i → bC U B sl ss so → (∀ j, j < i → ch j = nI (g j)) → opI f x s g U op D i → ∃ sl' ss' ch' op' so', fX6_seekSoonest F (nI U) cl d sl ss ch op so (nI D) (nI m) (nI la) (nI su) = some (sl', ss', ch', op', so') ∧ bC U ((PL f x s (U - i) i g la su).foldl stp B) sl' ss' so' ∧ (∀ j, j < i → ch' j = ch j) ∧ ∀ p, p < 5 * (D + 1) → op' p = op p
  | 0, i, D, m, g, la, su, B, sl, ss, ch, op, so, h, _, _, _, _, _, _, _, _, _ => absurd h (Nat.not_lt_zero _)
  | d + 1, i, D, m, g, la, su, B, sl, ss, ch, op, so, h, hD, hi, hm, hmb, hla, hsu, hB, hch, hop => by
    rw [fX6_seekSoonest]
    by_cases e : i = U
    · have hm0 : m = 0 := by
        apply Nat.eq_of_testBit_eq
        intro j
        rw [Nat.zero_testBit]
        rcases Nat.lt_or_ge j 5 with q | q
        · rw [hmb j q]
          cases hsj : s j with
          | false => rw [Bool.and_false]
          | true => have := hsU j hsj; rw [decide_eq_false (by omega), Bool.false_and]
        · exact tb5' hm q
      have hPL : PL f x s (U - i) i g la su = [(la, su, g)] := by rw [e, Nat.sub_self]; rfl
      have hL9 : ∀ rM, ∃ sl' ss' ch' op' so', fX6_seekSoonest_L9 F (nI U) cl (nI D) (nI m) (nI la) (nI su) rM sl ss ch op so = some (sl', ss', ch', op', so') ∧ bC U ((PL f x s (U - i) i g la su).foldl stp B) sl' ss' so' ∧ (∀ j, j < i → ch' j = ch j) ∧ ∀ p, p < 5 * (D + 1) → op' p = op p := by
        intro rM
        unfold fX6_seekSoonest_L9 fX6_keepIfSooner
        rw [p_isSooner (g := g) hB (by omega) (by omega), ob_s, hPL]
        show ∃ sl' ss' ch' op' so', _ ∧ bC U (stp B (la, su, g)) sl' ss' so' ∧ _
        unfold stp
        cases hsn : snr (la, su, g) B with
        | false =>
          refine ⟨sl, ss, ch, op, so, ?_, hB, fun _ _ => rfl, fun _ _ => rfl⟩
          rw [bI_0 rfl, if_pos rfl, ob_s]
        | true =>
          refine ⟨nI la, nI su, ch, op, va_cpy ch so (0 : Int32).toNatClampNeg (0 : Int32).toNatClampNeg (5 : Int32).toNatClampNeg, ?_, ⟨rfl, rfl, by show la ≤ 24; omega, by show su ≤ 200; omega, fun _ k hk => ?_⟩, fun _ _ => rfl, fun _ _ => rfl⟩
          · rw [bI_1 rfl, if_neg one0, ol_s, ob_s]
          · show va_cpy ch so 0 0 5 k = nI (g k)
            rw [pk_cpy_in (by omega) (by omega), ← hch k (by omega)]
            congr 1
            omega
      by_cases h5 : (5 : Int32) ≤ nI D
      · rw [if_pos h5]; exact hL9 _
      · rw [if_neg h5, if_pos (by rw [hm0]; rfl)]; exact hL9 _
    · have hsi := hs i (by omega)
      have hmi : m.testBit i = true := by rw [hmb i (by omega), hsi, decide_eq_true (Nat.le_refl i)]; rfl
      have h0 : m ≠ 0 := fun z => by rw [z, Nat.zero_testBit] at hmi; cases hmi
      obtain ⟨z, hz, b1, b2, m', hm1, hm2, hm3⟩ := low5 m hm h0
      have hzi : z = i := by
        have hz1 := hmb z hz
        rw [b1] at hz1
        have : i ≤ z := of_decide_eq_true (Bool.and_eq_true_iff.mp hz1.symm).1
        rcases Nat.lt_or_ge i z with q | q
        · rw [b2 i q] at hmi; cases hmi
        · omega
      subst hzi
      have hmz : ∀ j, j < 5 → m'.testBit j = (decide (z + 1 ≤ j) && s j) := fun j hj => by
        rw [hm3 j hj, hmb j hj]
        by_cases e1 : j = z
        · subst e1
          have q1 : ¬ (j + 1 ≤ j) := by omega
          simp [q1]
        · by_cases e2 : z ≤ j
          · have a1 : z + 1 ≤ j := by omega
            simp [a1, e2, e1]
          · have a1 : ¬ z + 1 ≤ j := by omega
            simp [a1, e2]
      have hr : U - z = U - (z + 1) + 1 := by omega
      rw [if_neg (show ¬ (5 : Int32) ≤ nI D from nI_ge (a := D) (b := 5) (by omega) (by decide)), if_neg (nI_ne0 (by omega) (by omega)), p_firstOf hm hz b1 b2, ob_s, hm2, ol_s, hr, PL_in hsi]
      exact p_ss33 (F := F) (a2 := nI m) (g := g) hU hD (by omega) hs hm1 hmz hcl hla hsu (by omega) (fun g1 la1 su1 B1 sl1 ss1 ch1 op1 so1 q1 q2 q3 q4 q5 => p_seek hU hs hsU hcl hF d (z + 1) (D + 1) m' g1 la1 su1 B1 sl1 ss1 ch1 op1 so1 (by omega) (by omega) (by omega) hm1 hmz q1 q2 q3 q4 q5) 24 0 F B sl ss ch op so (by omega) (by omega) hB hch hop
