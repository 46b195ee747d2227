theorem ix5 (D j : Nat) : nI D * (5 : Int32) + nI j = nI (5 * D + j) := by
  rw [show (5 : Int32) = nI 5 from rfl, pk_mul, nI_add, Nat.mul_comm]
theorem ix5s (D j : Nat) : (nI D + (1 : Int32)) * (5 : Int32) + nI j = nI (5 * (D + 1) + j) := by
  rw [show nI D + (1 : Int32) = nI (D + 1) from nI_1 D, ix5]
/-- what is open at a depth: of members from i on -/
def opI (f : Nat → Nat → Bool) (x : Nat → Nat → Nat → Nat → Bool) (s : Nat → Bool) (g : Nat → Nat) (U : Nat) (op : Nat → Int32) (D i : Nat) : Prop := ∀ j, i ≤ j → j < U → s j = true → ∀ b, b < 32 → bt (op (5 * D + j)) b = goB f x s g i j b
theorem opI_congr {f : Nat → Nat → Bool} {x : Nat → Nat → Nat → Nat → Bool} {s : Nat → Bool} {g : Nat → Nat} {U : Nat} {op op' : Nat → Int32} {D i : Nat} (hU : U ≤ 5) (h : opI f x s g U op D i) (he : ∀ p, p < 5 * (D + 1) → op' p = op p) : opI f x s g U op' D i := fun j a b c d e => by
  rw [he _ (by omega)]; exact h j a b c d e
def clI (x : Nat → Nat → Nat → Nat → Bool) (U : Nat) (cl : Nat → Int32) : Prop := ∀ k l, k < l → l < U → ∀ a, a < 24 → ∀ b, b < 32 → bt (cl (cp k l a)) b = x k a l b
theorem bI_is0 {b : Bool} (h : bI b = 0) : b = false := by
  cases b
  · rfl
  · exact absurd h (by decide)
theorem bt_nI {m j : Nat} (hj : j < 32) : bt (nI m) j = m.testBit j := nI_bit hj
theorem b_not {x : Int32} {i : Nat} (hi : i < 32) : bt (x ^^^ (-1 : Int32)) i = !bt x i := by
  rw [b_xor, b_m1 i hi]
  cases bt x i <;> rfl
theorem bt_zero {y : Int32} (h : ∀ b, b < 32 → bt y b = false) : y = 0 := b_ext (fun i hi => by rw [h i hi, b_0])
theorem p_nar_L {F U D z q m' : Nat} {cl : Nat → Int32} {f : Nat → Nat → Bool} {x : Nat → Nat → Nat → Nat → Bool} {s : Nat → Bool} {g : Nat → Nat} (hU : U ≤ 5) (hD : D ≤ z) (hz : z < U) (hq : q < 24) (hsz : s z = true) (hm : m' < 32) (hm' : ∀ j, j < 5 → m'.testBit j = (decide (z + 1 ≤ j) && s j)) (hcl : clI x U cl) :
    ∀ (n j fuel : Nat) (op : Nat → Int32), j + n = U → n < fuel → z < j → (∀ k, z < k → k < U → s k = true → ∀ b, b < 32 → bt (op (5 * D + k)) b = goB f x s g z k b) → (∀ k, z < k → k < j → s k = true → ∀ b, b < 32 → bt (op (5 * (D + 1) + k)) b = goB f x s (va_up g z q) (z + 1) k b) →
    ∃ (b : Bool) (op' : Nat → Int32), fX6_narrow_L5 F (nI U) cl (nI D) (nI z) (nI q) (nI m') fuel (nI j) op = some (bI b, op') ∧ (∀ p, p < 5 * (D + 1) → op' p = op p) ∧ (b = true → opI f x s (va_up g z q) U op' (D + 1) (z + 1)) ∧ (b = false → ∃ k, z < k ∧ k < U ∧ s k = true ∧ ∀ c, c < 24 → goB f x s (va_up g z q) (z + 1) k c = false)
  | 0, j, fuel + 1, op, h, _, hj, h1, h2 => by
    refine ⟨true, op, ?_, fun _ _ => rfl, fun _ k a b c d e => h2 k (by omega) (by omega) c d e, fun hb => by cases hb⟩
    rw [fX6_narrow_L5, if_pos (nI_le (by omega) (by omega))]; rfl
  | n + 1, j, fuel + 1, op, h, hf, hj, h1, h2 => by
    have IH := fun op0 => p_nar_L (F := F) (f := f) (g := g) (cl := cl) hU hD hz hq hsz hm hm' hcl n (j + 1) fuel op0 (by omega) (by omega) (by omega)
    rw [fX6_narrow_L5, if_neg (nI_ge (by omega) (by omega)), bitI (show j < 32 by omega), bt_nI (by omega), hm' j (by omega), decide_eq_true (show z + 1 ≤ j by omega), Bool.true_and]
    cases hs : s j with
    | false =>
      rw [bI_0 rfl, if_pos rfl, fX6_narrow_L74, ol_s, nI_1]
      exact IH op h1 (fun k a b c => by
        by_cases e : k = j
        · subst e; rw [hs] at c; cases c
        · exact h2 k a (by omega) c)
    | true =>
      have hp := cp_lt (m1 := z) (m2 := j) (a := q) (by omega) (by omega) hq
      rw [bI_1 rfl, if_neg one0, ix5, vb_nI (show 5 * D + j < 30 by omega) (by decide), og_s, fX6_clashPlace, cp_I, ob_s, vb_nI hp (by decide), og_s, nI_clamp (by omega), nI_clamp (by omega), ol_s]
      have hbit : ∀ b, b < 32 → bt (op (5 * D + j) &&& (cl (cp z j q) ^^^ (-1 : Int32))) b = goB f x s (va_up g z q) (z + 1) j b := fun b hb => by
        rw [b_and, b_not hb, h1 j hj (by omega) hs b hb, hcl z j hj (by omega) q hq b hb, goB_up hsz]
      by_cases h0 : op (5 * D + j) &&& (cl (cp z j q) ^^^ (-1 : Int32)) = 0
      · refine ⟨false, op, ?_, fun _ _ => rfl, (fun hb => by cases hb), fun _ => ⟨j, hj, by omega, hs, fun c hc => ?_⟩⟩
        · rw [if_pos h0]; rfl
        · rw [← hbit c (by omega), h0, b_0]
      · rw [if_neg h0, ix5s, vb_nI (show 5 * (D + 1) + j < 30 by omega) (by decide), og_s, ol_s, nI_clamp (by omega), fX6_narrow_L74, ol_s, nI_1]
        obtain ⟨b, op', e1, e2, e3, e4⟩ := IH (upd op (5 * (D + 1) + j) (op (5 * D + j) &&& (cl (cp z j q) ^^^ (-1 : Int32)))) (fun k a b c d e => by
          rw [pk_un (by omega)]; exact h1 k a b c d e) (fun k a b c d e => by
          by_cases e' : k = j
          · subst e'; rw [pk_us]; exact hbit d e
          · rw [pk_un (by omega)]; exact h2 k a (by omega) c d e)
        exact ⟨b, op', e1, fun p hp => by rw [e2 p hp, pk_un (by omega)], e3, e4⟩
  | n, j, 0, op, _, hf, _, _, _ => absurd hf (Nat.not_lt_zero n)
theorem p_narrow {F U D z q m' : Nat} {cl op : Nat → Int32} {f : Nat → Nat → Bool} {x : Nat → Nat → Nat → Nat → Bool} {s : Nat → Bool} {g : Nat → Nat} (hU : U ≤ 5) (hD : D ≤ z) (hz : z < U) (hq : q < 24) (hsz : s z = true) (hm : m' < 32) (hm' : ∀ j, j < 5 → m'.testBit j = (decide (z + 1 ≤ j) && s j)) (hcl : clI x U cl) (hF : 6 < F) (h : opI f x s g U op D z) :
    ∃ (b : Bool) (op' : Nat → Int32), fX6_narrow F (nI U) cl op (nI D) (nI z) (nI q) (nI m') = some (bI b, op') ∧ (∀ p, p < 5 * (D + 1) → op' p = op p) ∧ (b = true → opI f x s (va_up g z q) U op' (D + 1) (z + 1)) ∧ (b = false → ∀ la su, PL f x s (U - (z + 1)) (z + 1) (va_up g z q) la su = []) := by
  unfold fX6_narrow
  rw [ol_s, show nI z + (1 : Int32) = nI (z + 1) from nI_1 z]
  obtain ⟨b, op', e1, e2, e3, e4⟩ := p_nar_L (F := F) (f := f) (g := g) hU hD hz hq hsz hm hm' hcl (U - (z + 1)) (z + 1) F op (by omega) (by omega) (by omega) (fun k a b c d e => h k (by omega) b c d e) (fun k a b => by omega)
  refine ⟨b, op', e1, e2, e3, fun hb la su => ?_⟩
  obtain ⟨k, k1, k2, k3, k4⟩ := e4 hb
  exact PL_dead k3 _ _ _ _ _ (by omega) (by omega) k4
theorem p_isOpen {F U D z q : Nat} {op : Nat → Int32} {f : Nat → Nat → Bool} {x : Nat → Nat → Nat → Nat → Bool} {s : Nat → Bool} {g : Nat → Nat} (hU : U ≤ 5) (hD : D ≤ z) (hz : z < U) (hq : q < 24) (hsz : s z = true) (h : opI f x s g U op D z) : fX6_isOpen F op (nI D) (nI z) (nI q) = some (bI (goB f x s g z z q)) := by
  unfold fX6_isOpen
  rw [ix5, vb_nI (show 5 * D + z < 30 by omega) (by decide), og_s, nI_clamp (by omega), bitI (show q < 32 by omega), h z (Nat.le_refl _) hz hsz q (by omega)]
  cases goB f x s g z z q <;> rfl
theorem plH_no {f : Nat → Nat → Bool} {x : Nat → Nat → Nat → Nat → Bool} {s : Nat → Bool} {r i : Nat} {g : Nat → Nat} {la su q : Nat} (h : goB f x s g i i q = false) : plH f x s r i g la su q = [] := by
  unfold plH
  rw [h]; rfl
theorem plH_yes {f : Nat → Nat → Bool} {x : Nat → Nat → Nat → Nat → Bool} {s : Nat → Bool} {r i : Nat} {g : Nat → Nat} {la su q : Nat} (h : goB f x s g i i q = true) : plH f x s r i g la su q = PL f x s r (i + 1) (va_up g i q) (max la q) (su + q) := by
  unfold plH
  rw [h, if_pos rfl]
theorem p_cl26 {F U D z m' : Nat} {a2 : Int32} {cl : Nat → Int32} {rM : (Nat → Int32) → Int32 → Int32 → Option (Int32 × (Nat → Int32))} {f : Nat → Nat → Bool} {x : Nat → Nat → Nat → Nat → Bool} {s : Nat → Bool} {g : Nat → Nat} {la su : Nat} (hU : U ≤ 5) (hD : D ≤ z) (hz : z < U) (hsz : s z = true) (hm : m' < 32) (hm' : ∀ j, j < 5 → m'.testBit j = (decide (z + 1 ≤ j) && s j)) (hcl : clI x U cl) (hF : 6 < F)
    (hR : ∀ (g1 : Nat → Nat) (la su : Nat) (op1 : Nat → Int32), opI f x s g1 U op1 (D + 1) (z + 1) → ∃ op2, rM op1 (nI (D + 1)) (nI m') = some (bI (!(PL f x s (U - (z + 1)) (z + 1) g1 la su).isEmpty), op2) ∧ ∀ p, p < 5 * (D + 1 + 1) → op2 p = op1 p) :
    ∀ (n q fuel : Nat) (op : Nat → Int32), q + n = 24 → n < fuel → opI f x s g U op D z → ∃ op', fX6_canLight_L26 F (nI U) cl (nI D) a2 rM fuel (nI z) (nI m') (nI q) op = some (bI (!(fromQ (plH f x s (U - (z + 1)) z g la su) n q).isEmpty), op') ∧ ∀ p, p < 5 * (D + 1) → op' p = op p
  | 0, q, fuel + 1, op, h, _, _ => by
    refine ⟨op, ?_, fun _ _ => rfl⟩
    rw [fX6_canLight_L26, if_pos (show (24 : Int32) ≤ nI q from nI_le (a := 24) (b := q) (by omega) (by omega))]; rfl
  | n + 1, q, fuel + 1, op, h, hf, hop => by
    have IH := fun op0 => p_cl26 (F := F) (a2 := a2) (g := g) (la := la) (su := su) hU hD hz hsz hm hm' hcl hF hR n (q + 1) fuel op0 (by omega) (by omega)
    rw [fX6_canLight_L26, if_neg (show ¬ (24 : Int32) ≤ nI q from nI_ge (a := q) (b := 24) (by omega) (by decide)), p_isOpen hU hD hz (by omega) hsz hop, ob_s, fromQ_s]
    cases hb : goB f x s g z z q with
    | false =>
      rw [bI_0 rfl, if_pos rfl, fX6_canLight_L71, ol_s, nI_1, plH_no hb, List.nil_append]
      exact IH op hop
    | true =>
      obtain ⟨b, op1, e1, e2, e3, e4⟩ := p_narrow (F := F) (q := q) hU hD hz (by omega) hsz hm hm' hcl hF hop
      rw [bI_1 rfl, if_neg one0, e1, ob_s, plH_yes hb]
      dsimp only
      cases b with
      | false =>
        rw [bI_0 rfl, if_pos rfl, fX6_canLight_L71, ol_s, nI_1, e4 rfl, List.nil_append]
        obtain ⟨op', f1, f2⟩ := IH op1 (opI_congr hU hop e2)
        exact ⟨op', f1, fun p hp => by rw [f2 p hp, e2 p hp]⟩
      | true =>
        obtain ⟨op2, g1, g2⟩ := hR (va_up g z q) (max la q) (su + q) op1 (e3 rfl)
        rw [bI_1 rfl, if_neg one0, show nI D + (1 : Int32) = nI (D + 1) from nI_1 D, g1, ob_s]
        dsimp only
        have g3 : ∀ p, p < 5 * (D + 1) → op2 p = op p := fun p hp => by rw [g2 p (by omega), e2 p hp]
        cases hP : PL f x s (U - (z + 1)) (z + 1) (va_up g z q) (max la q) (su + q) with
        | nil =>
          obtain ⟨op', f1, f2⟩ := IH op2 (opI_congr hU hop g3)
          refine ⟨op', ?_, fun p hp => by rw [f2 p hp, g3 p hp]⟩
          rw [show bI (!List.isEmpty ([] : List (Nat × Nat × (Nat → Nat)))) = 0 from rfl, if_pos rfl, fX6_canLight_L71, ol_s, nI_1, List.nil_append]
          exact f1
        | cons a l =>
          refine ⟨op2, ?_, g3⟩
          rw [show bI (!(a :: l).isEmpty) = 1 from rfl, if_neg one0]
          rfl
  | n, q, 0, op, _, hf, _ => absurd hf (Nat.not_lt_zero n)
/-- may the rest of a set be lit? -/
theorem p_canLight {F U : Nat} {cl : Nat → Int32} {f : Nat → Nat → Bool} {x : Nat → Nat → Nat → Nat → Bool} {s : Nat → Bool} (hU : U ≤ 5) (hsU : ∀ j, s j = true → j < U) (hcl : clI x U cl) (hF : 24 < F) :
    ∀ (d i D m : Nat) (g : Nat → Nat) (la su : Nat) (op : Nat → Int32), U - i < d → D ≤ i → i ≤ U → m < 32 → (∀ j, j < 5 → m.testBit j = (decide (i ≤ j) && s j)) → opI f x s g U op D i → ∃ op', fX6_canLight F (nI U) cl d op (nI D) (nI m) = some (bI (!(PL f x s (U - i) i g la su).isEmpty), op') ∧ ∀ p, p < 5 * (D + 1) → op' p = op p
  | 0, i, D, m, g, la, su, op, h, _, _, _, _, _ => absurd h (Nat.not_lt_zero _)
  | d + 1, i, D, m, g, la, su, op, h, hD, hi, hm, hmb, hop => by
    rw [fX6_canLight]
    by_cases h0 : m = 0
    · refine ⟨op, ?_, fun _ _ => rfl⟩
      rw [h0, if_pos nI_0, PL_none (U - i) i (fun j a b => by
        have := hmb j (by omega)
        rw [h0, Nat.zero_testBit, decide_eq_true a, Bool.true_and] at this
        exact this.symm)]
      rfl
    · obtain ⟨z, hz, b1, b2, m', hm1, hm2, hm3⟩ := low5 m hm h0
      have hz1 := hmb z hz
      rw [b1] at hz1
      have hzi := Bool.and_eq_true_iff.mp hz1.symm
      have hiz : i ≤ z := of_decide_eq_true hzi.1
      have hsz : s z = true := hzi.2
      have hzU := hsU z hsz
      have hno : ∀ j, i ≤ j → j < z → s j = false := fun j a b => by
        have := hmb j (by omega)
        rw [b2 j b, decide_eq_true a, Bool.true_and] at this
        exact this.symm
      have hgo : ∀ k, k ≤ z - i → ∀ j q, goB f x s g (i + k) j q = goB f x s g i j q := by
        intro k
        induction k with
        | zero => intro _ j q; rfl
        | succ k ih => intro hk j q; rw [← Nat.add_assoc, goB_no (hno (i + k) (by omega) (by omega))]; exact ih (by omega) j q
      have hopz : opI f x s g U op D z := fun j a b c e he => by
        rw [hop j (by omega) b c e he, ← hgo (z - i) (Nat.le_refl _), show i + (z - i) = z by omega]
      have hPL : PL f x s (U - i) i g la su = fromQ (plH f x s (U - (z + 1)) z g la su) 24 0 := by
        rw [← PL_in hsz, show U - i = (U - (z + 1) + 1) + (z - i) by omega, PL_skip (z - i) i (fun j a b => hno j a (by omega)), show i + (z - i) = z by omega]
      have hmz : ∀ j, j < 5 → m'.testBit j = (decide (z + 1 ≤ j) && s j) := fun j hj => by
        rw [hm3 j hj, hmb j hj]
        by_cases e1 : j = z
        · subst e1
          have q1 : ¬ (j + 1 ≤ j) := by omega
          simp [q1]
        · by_cases e2 : j < z
          · have : ¬ (z + 1 ≤ j) := by omega
            by_cases e3 : i ≤ j
            · simp [hno j e3 e2]
            · simp [e3, this]
          · have a1 : z + 1 ≤ j := by omega
            have a2 : i ≤ j := by omega
            simp [a1, a2, e1]
      rw [if_neg (nI_ne0 (by omega) (by omega)), if_pos (show nI D < (5 : Int32) from nI_lt (a := D) (b := 5) (by omega) (by decide)), p_firstOf hm hz b1 b2, ob_s, hm2, ol_s, hPL]
      exact p_cl26 (F := F) (a2 := nI m) (g := g) (la := la) (su := su) hU (by omega) hzU hsz hm1 hmz hcl (by omega) (fun g1 la1 su1 op1 h1 => p_canLight hU hsU hcl hF d (z + 1) (D + 1) m' g1 la1 su1 op1 (by omega) (by omega) (by omega) hm1 hmz h1) 24 0 F op (by omega) (by omega) hopz
