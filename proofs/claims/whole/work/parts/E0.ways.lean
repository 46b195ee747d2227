theorem fromQ_split {α : Type} {h : Nat → List α} : ∀ (a b q : Nat), fromQ h (a + b) q = fromQ h a q ++ fromQ h b (q + a)
  | 0, b, q => by rw [Nat.zero_add]; rfl
  | a + 1, b, q => by rw [show a + 1 + b = (a + b) + 1 by omega, fromQ_s, fromQ_s, fromQ_split a b (q + 1), List.append_assoc, show q + 1 + a = q + (a + 1) by omega]
theorem fromQ_cut {α : Type} {h : Nat → List α} {L : Nat} (hL : L ≤ 23) (hh : ∀ j, L < j → j < 24 → h j = []) : fromQ h 24 0 = fromQ h (L + 1) 0 := by
  rw [show (24 : Nat) = (L + 1) + (23 - L) by omega, fromQ_split, fromQ_nil (23 - L) _ (fun j a b => hh j (by omega) (by omega)), List.append_nil]
/-- the reference's tables of the few -/
def rfI (f : Nat → Nat → Bool) (x : Nat → Nat → Nat → Nat → Bool) (U L : Nat) (fo ap : Nat → Int32) : Prop := (∀ k, k < U → ∀ q, q ≤ L → bt (fo k) q = f k q) ∧ (∀ k, k < U → ∀ q, f k q = true → q ≤ L) ∧ ∀ j i a b, j < i → i < U → f j a = true → f i b = true → (ap (120 * (24 * i + b) + (24 * j + a)) = 0 ↔ x j a i b = true)
def chs (f : Nat → Nat → Bool) (s : Nat → Bool) (g : Nat → Nat) (i : Nat) (qo : Nat → Int32) : Prop := ∀ j, j < i → s j = true → f j (g j) = true ∧ qo j = nI (g j)
theorem p_gw_L {F U L i q m : Nat} {ap fo qo : Nat → Int32} {f : Nat → Nat → Bool} {x : Nat → Nat → Nat → Nat → Bool} {s : Nat → Bool} {g : Nat → Nat} (hU : U ≤ 5) (hL : L ≤ 23) (hi : i < U) (hmb : ∀ j, j < U → m.testBit j = s j) (hR : rfI f x U L fo ap) (hg : chs f s g i qo) (hf : f i q = true) :
    ∀ (n k fuel : Nat), k + n = i → n < fuel → ∃ b : Bool, fX10_goesWith_L18 F ap fo qo (nI i) (nI q) (nI m) fuel (nI k) = some (bI b) ∧ (b = true ↔ ∀ j, k ≤ j → j < i → s j = true → x j (g j) i q = false)
  | 0, k, fuel + 1, h, _ => by
    refine ⟨true, ?_, fun _ j a b => by omega, fun _ => rfl⟩
    rw [fX10_goesWith_L18, if_pos (nI_le (by omega) (by omega))]; rfl
  | n + 1, k, fuel + 1, h, hfu => by
    obtain ⟨b, e1, e2⟩ := p_gw_L (F := F) (qo := qo) hU hL hi hmb hR hg hf n (k + 1) fuel (by omega) (by omega)
    rw [fX10_goesWith_L18, if_neg (nI_ge (by omega) (by omega)), p_isIn (show k < 32 by omega), ob_s, bt_nI (by omega), hmb k (by omega)]
    cases hs : s k with
    | false =>
      refine ⟨b, ?_, e2.trans ⟨fun z j a c d => ?_, fun z j a c d => z j (by omega) c d⟩⟩
      · rw [bI_0 rfl, if_pos rfl, fX10_goesWith_L66, ol_s, nI_1]; exact e1
      · by_cases e : j = k
        · subst e; rw [hs] at d; cases d
        · exact z j (by omega) c d
    | true =>
      obtain ⟨g1, g2⟩ := hg k (by omega) hs
      have hgk := hR.2.1 k (by omega) _ g1
      have hq := hR.2.1 i hi _ hf
      have ei : (120 : Int32) * ((24 : Int32) * nI i + nI q) + (24 : Int32) * nI k + nI (g k) = nI (120 * (24 * i + q) + (24 * k + g k)) := by
        rw [show (120 : Int32) = nI 120 from rfl, show (24 : Int32) = nI 24 from rfl, pk_mul, nI_add, pk_mul, pk_mul, nI_add, nI_add, Nat.add_assoc]
      rw [bI_1 rfl, if_neg one0, vb_nI (show k < 5 by omega) (by decide), og_s, nI_clamp (by omega), g2, ei, vb_nI (show 120 * (24 * i + q) + (24 * k + g k) < 14400 by omega) (by decide), og_s, nI_clamp (by omega)]
      have hap := hR.2.2 k i (g k) q (by omega) hi g1 hf
      cases hx : x k (g k) i q with
      | true =>
        refine ⟨false, ?_, (fun z => by cases z), fun z => ?_⟩
        · rw [if_pos (hap.mpr hx)]; rfl
        · rw [z k (by omega) (by omega) hs] at hx; cases hx
      | false =>
        refine ⟨b, ?_, e2.trans ⟨fun z j a c d => ?_, fun z j a c d => z j (by omega) c d⟩⟩
        · rw [if_neg (fun z => by rw [hap.mp z] at hx; cases hx), fX10_goesWith_L66, ol_s, nI_1]; exact e1
        · by_cases e : j = k
          · subst e; exact hx
          · exact z j (by omega) c d
  | n, k, 0, _, hf => absurd hf (Nat.not_lt_zero n)
theorem p_goesWith {F U L i q m : Nat} {ap fo qo : Nat → Int32} {f : Nat → Nat → Bool} {x : Nat → Nat → Nat → Nat → Bool} {s : Nat → Bool} {g : Nat → Nat} (hU : U ≤ 5) (hL : L ≤ 23) (hi : i < U) (hmb : ∀ j, j < U → m.testBit j = s j) (hR : rfI f x U L fo ap) (hg : chs f s g i qo) (hq : q ≤ L) (hF : 6 < F) : fX10_goesWith F ap fo qo (nI i) (nI q) (nI m) = some (bI (goB f x s g i i q)) := by
  unfold fX10_goesWith
  rw [vb_nI (show i < 5 by omega) (by decide), og_s, nI_clamp (by omega), p_isIn (show q < 32 by omega), ob_s, hR.1 i hi q hq]
  cases hf : f i q with
  | false =>
    rw [bI_0 rfl, if_pos rfl]
    have : goB f x s g i i q = false := by unfold goB; rw [hf]; rfl
    rw [this]; rfl
  | true =>
    rw [bI_1 rfl, if_neg one0]
    obtain ⟨b, e1, e2⟩ := p_gw_L (F := F) (qo := qo) hU hL hi hmb hR hg hf i 0 F (by omega) (by omega)
    have : b = goB f x s g i i q := by
      rw [Bool.eq_iff_iff, e2, goB_iff]
      exact ⟨fun z => ⟨hf, fun k a b => z k (Nat.zero_le _) a b⟩, fun z j _ a b => z.2 j a b⟩
    rw [← this]; exact e1
theorem chs_up {f : Nat → Nat → Bool} {s : Nat → Bool} {g : Nat → Nat} {i q : Nat} {qo : Nat → Int32} (h : chs f s g i qo) (hf : f i q = true) : chs f s (va_up g i q) (i + 1) (upd qo i (nI q)) := fun j hj hs => by
  by_cases e : j = i
  · subst e; rw [va_up_self, pk_us]; exact ⟨hf, rfl⟩
  · rw [va_up_ne _ _ e, pk_un e]; exact h j (by omega) hs
theorem chs_congr {f : Nat → Nat → Bool} {s : Nat → Bool} {g : Nat → Nat} {i : Nat} {qo qo' : Nat → Int32} (h : chs f s g i qo) (he : ∀ j, j < i → qo' j = qo j) : chs f s g i qo' := fun j hj hs => by
  rw [he j hj]; exact h j hj hs
theorem p_w36 {F U L i m most : Nat} {ap fo : Nat → Int32} {rM : (Nat → Int32) → Int32 → Int32 → Int32 → Int32 → Option (Int32 × (Nat → Int32))} {f : Nat → Nat → Bool} {x : Nat → Nat → Nat → Nat → Bool} {s : Nat → Bool} {g : Nat → Nat} {la su : Nat} (hU : U ≤ 5) (hL : L ≤ 23) (hi : i < U) (hmb : ∀ j, j < U → m.testBit j = s j) (hR : rfI f x U L fo ap) (hmo : most ≤ 100000) (hF : 6 < F)
    (hM : ∀ (g1 : Nat → Nat) (la su most1 : Nat) (qo1 : Nat → Int32), 1 ≤ most1 → most1 ≤ 100000 → chs f s g1 (i + 1) qo1 → ∃ qo2, rM qo1 (nI (i + 1)) (nI m) (nI L) (nI most1) = some (nI (min most1 (PL f x s (U - (i + 1)) (i + 1) g1 la su).length), qo2) ∧ ∀ j, j < i + 1 → qo2 j = qo1 j) :
    ∀ (n q fuel n0 : Nat) (qo : Nat → Int32), q + n = L + 1 → n < fuel → n0 ≤ most → chs f s g i qo → ∃ qo', fX10_waysFrom_L36 F (nI U) ap fo (nI i) (nI m) (nI L) (nI most) rM fuel (nI n0) (nI q) qo = some (nI (min most (n0 + (fromQ (plH f x s (U - (i + 1)) i g la su) n q).length)), qo') ∧ ∀ j, j < i → qo' j = qo j
  | 0, q, fuel + 1, n0, qo, h, _, h0, _ => by
    refine ⟨qo, ?_, fun _ _ => rfl⟩
    rw [fX10_waysFrom_L36, if_pos (nI_lt (by omega) (by omega)), fX10_waysFrom_L96]
    show some (nI n0, qo) = some (nI (min most (n0 + 0)), qo)
    rw [show min most (n0 + 0) = n0 by omega]
  | n + 1, q, fuel + 1, n0, qo, h, hf, h0, hg => by
    have IH := fun n1 qo1 => p_w36 (F := F) (g := g) (la := la) (su := su) hU hL hi hmb hR hmo hF hM n (q + 1) fuel n1 qo1 (by omega) (by omega)
    rw [fX10_waysFrom_L36, if_neg (nI_nlt (by omega) (by omega))]
    by_cases hmx : most ≤ n0
    · refine ⟨qo, ?_, fun _ _ => rfl⟩
      rw [if_pos (nI_le hmx (by omega)), fX10_waysFrom_L96, show min most (n0 + (fromQ (plH f x s (U - (i + 1)) i g la su) (n + 1) q).length) = n0 by omega]
    · rw [if_neg (nI_ge (by omega) (by omega)), p_goesWith hU hL hi hmb hR hg (by omega) hF, ob_s, fromQ_s, List.length_append]
      cases hb : goB f x s g i i q with
      | false =>
        rw [bI_0 rfl, if_pos rfl, fX10_waysFrom_L90, ol_s, nI_1, plH_no hb, List.length_nil, Nat.zero_add]
        exact IH n0 qo h0 hg
      | true =>
        have hfq := (goB_iff.mp hb).1
        obtain ⟨qo2, e1, e2⟩ := hM (va_up g i q) (max la q) (su + q) (most - n0) (upd qo i (nI q)) (by omega) (by omega) (chs_up hg hfq)
        have e3 : ∀ j, j < i → qo2 j = qo j := fun j hj => by rw [e2 j (by omega), pk_un (by omega)]
        rw [bI_1 rfl, if_neg one0, vb_nI (show i < 5 by omega) (by decide), og_s, ol_s, nI_clamp (by omega), show nI i + (1 : Int32) = nI (i + 1) from nI_1 i, pk_sub (by omega), e1, ob_s, ol_s, plH_yes hb]
        dsimp only
        generalize hlen : (PL f x s (U - (i + 1)) (i + 1) (va_up g i q) (max la q) (su + q)).length = len
        obtain ⟨qo', f1, f2⟩ := IH (n0 + min (most - n0) len) qo2 (by omega) (chs_congr hg e3)
        refine ⟨qo', ?_, fun j hj => by rw [f2 j hj, e3 j hj]⟩
        rw [nI_add, fX10_waysFrom_L90, ol_s, nI_1, f1]
        congr 3
        omega
  | n, q, 0, n0, qo, _, hf, _, _ => absurd hf (Nat.not_lt_zero n)
/-- how many ways, at most so many -/
theorem p_waysFrom {F U L m : Nat} {ap fo : Nat → Int32} {f : Nat → Nat → Bool} {x : Nat → Nat → Nat → Nat → Bool} {s : Nat → Bool} (hU : U ≤ 5) (hL : L ≤ 23) (hmb : ∀ j, j < U → m.testBit j = s j) (hR : rfI f x U L fo ap) (hF : 24 < F) :
    ∀ (d i : Nat) (g : Nat → Nat) (la su most : Nat) (qo : Nat → Int32), U - i < d → i ≤ U → 1 ≤ most → most ≤ 100000 → chs f s g i qo → ∃ qo', fX10_waysFrom F (nI U) ap fo d qo (nI i) (nI m) (nI L) (nI most) = some (nI (min most (PL f x s (U - i) i g la su).length), qo') ∧ ∀ j, j < i → qo' j = qo j
  | 0, i, g, la, su, most, qo, h, _, _, _, _ => absurd h (Nat.not_lt_zero _)
  | d + 1, i, g, la, su, most, qo, h, hi, h1, h2, hg => by
    rw [fX10_waysFrom]
    by_cases e : i = U
    · refine ⟨qo, ?_, fun _ _ => rfl⟩
      rw [e, if_pos rfl, Nat.sub_self]
      show some (1, qo) = some (nI (min most 1), qo)
      rw [show min most 1 = 1 by omega]; rfl
    · rw [if_neg (nI_ne (by omega) (by omega) e), p_isIn (show i < 32 by omega), ob_s, bt_nI (by omega), hmb i (by omega)]
      have hr : U - i = U - (i + 1) + 1 := by omega
      cases hs : s i with
      | false =>
        have hg' : chs f s g (i + 1) qo := fun j hj hsj => by
          by_cases e : j = i
          · subst e; rw [hs] at hsj; cases hsj
          · exact hg j (by omega) hsj
        obtain ⟨qo', e1, e2⟩ := p_waysFrom (F := F) hU hL hmb hR hF d (i + 1) g la su most qo (by omega) (by omega) h1 h2 hg'
        refine ⟨qo', ?_, fun j hj => e2 j (by omega)⟩
        rw [bI_0 rfl, if_pos rfl, show nI i + (1 : Int32) = nI (i + 1) from nI_1 i, e1, ob_s, hr, PL_out hs]
      | true =>
        obtain ⟨qo', e1, e2⟩ := p_w36 (F := F) (g := g) (la := la) (su := su) hU hL (show i < U by omega) hmb hR h2 (by omega) (fun g1 la1 su1 most1 qo1 a1 a2 a3 => p_waysFrom (F := F) hU hL hmb hR hF d (i + 1) g1 la1 su1 most1 qo1 (by omega) (by omega) a1 a2 a3) (L + 1) 0 F 0 qo (by omega) (by omega) (by omega) hg
        refine ⟨qo', ?_, e2⟩
        rw [bI_1 rfl, if_neg one0, hr, PL_in hs, fromQ_cut hL (fun j a b => plH_no (by
          cases hb : goB f x s g i i j with
          | false => rfl
          | true => have := hR.2.1 i (by omega) j (goB_iff.mp hb).1; omega))]
        rw [Nat.zero_add] at e1
        exact e1
