theorem fst_of {α : Type} {o : Option (Int32 × α)} {x : Int32} (h : fstIs o x) : ∃ w, o = some (x, w) := by
  unfold fstIs at h
  cases o with
  | none => cases h
  | some p =>
    obtain ⟨a, w⟩ := p
    have : a = x := by simpa using h
    exact ⟨w, by rw [this]⟩
theorem fst_mk {α : Type} {x : Int32} {w : α} : fstIs (some (x, w)) x := rfl
/-- members of a set -/
def pc (m : Nat) : Nat := sumR (fun j => if m.testBit j then 1 else 0) 0 5
theorem pc_tab : ∀ m, m < 32 → sumR (fun j => if m.testBit j then 1 else 0) 0 32 = pc m ∧ pc m ≤ 5 ∧ (m ≠ 0 → 1 ≤ pc m) := by decide +kernel
theorem pc_le : ∀ U, U < 6 → ∀ m, m < 2 ^ U → pc m ≤ U := by decide +kernel
theorem pw_U : ∀ U, U < 6 → (1 : Int32) <<< (nI U &&& 31) = nI (2 ^ U) ∧ 1 ≤ 2 ^ U ∧ 2 ^ U ≤ 32 := by decide +kernel
theorem p_bc5 {F m : Nat} (hm : m < 32) : fJ6_bitCount_0f7a4 F (nI m) = some (nI (pc m)) := by
  rw [p_bitCountI (by omega), (pc_tab m hm).1]
theorem p_bo_L {F m : Nat} : ∀ (n k fuel a : Nat), k + n = 10 → n < fuel → fX10_bitsOf_L4 F (nI m) fuel (nI a) (nI k) = some (nI (a + sumR (fun j => if m.testBit j then 1 else 0) k n))
  | 0, k, fuel + 1, a, h, _ => by
    rw [fX10_bitsOf_L4, if_pos (show (10 : Int32) ≤ nI k from nI_le (a := 10) (b := k) (by omega) (by omega))]; rfl
  | n + 1, k, fuel + 1, a, h, hf => by
    rw [fX10_bitsOf_L4, if_neg (show ¬ (10 : Int32) ≤ nI k from nI_ge (a := k) (b := 10) (by omega) (by decide)), p_isIn (show k < 32 by omega), ob_s, bt_nI (by omega), sumR_s]
    cases hb : m.testBit k with
    | false =>
      rw [bI_0 rfl, if_pos rfl, fX10_bitsOf_L24, ol_s, ol_s, nI_1, show nI a + 0 = nI (a + 0) from nI_add a 0, p_bo_L n (k + 1) fuel (a + 0) (by omega) (by omega)]
      congr 2
      simp
    | true =>
      rw [bI_1 rfl, if_neg one0, fX10_bitsOf_L24, ol_s, ol_s, nI_1, nI_1, p_bo_L n (k + 1) fuel (a + 1) (by omega) (by omega)]
      congr 2
      simp
      omega
  | n, k, 0, a, _, hf => absurd hf (Nat.not_lt_zero n)
theorem pc_tab10 : ∀ m, m < 32 → sumR (fun j => if m.testBit j then 1 else 0) 0 10 = pc m := by decide +kernel
theorem p_bitsOf {F m : Nat} (hm : m < 32) (hF : 10 < F) : fX10_bitsOf F (nI m) = some (nI (pc m)) := by
  have h := p_bo_L (F := F) (m := m) 10 0 F 0 (by omega) hF
  rw [Nat.zero_add, pc_tab10 m hm] at h
  exact h
/-- a set's chimneys, as bits -/
def chW (W : Nat → Nat) (m : Nat) : Nat → Nat → Int32 → Int32
  | 0, _, a => a
  | n + 1, k, a => chW W m n (k + 1) (if m.testBit k then a ||| ((1 : Int32) <<< (nI (W k) &&& 31)) else a)
theorem p_cho_L {F U m : Nat} {W : Nat → Nat} {who : Nat → Int32} (hU : U ≤ 5) (hw : ∀ k, k < U → who k = nI (W k)) : ∀ (n k fuel : Nat) (a : Int32), k + n = U → n < fuel → fX6_chimneysOf_L4 F (nI U) who (nI m) fuel a (nI k) = some (chW W m n k a)
  | 0, k, fuel + 1, a, h, _ => by
    rw [fX6_chimneysOf_L4, if_pos (nI_le (by omega) (by omega))]; rfl
  | n + 1, k, fuel + 1, a, h, hf => by
    rw [fX6_chimneysOf_L4, if_neg (nI_ge (by omega) (by omega)), bitI (show k < 32 by omega), bt_nI (by omega), chW]
    cases hb : m.testBit k with
    | false =>
      rw [bI_0 rfl, if_pos rfl, fX6_chimneysOf_L31, ol_s, nI_1, p_cho_L hU hw n (k + 1) fuel a (by omega) (by omega)]
      simp
    | true =>
      rw [bI_1 rfl, if_neg one0, vb_nI (show k < 5 by omega) (by decide), og_s, ol_s, fX6_chimneysOf_L31, ol_s, nI_1, nI_clamp (by omega), hw k (by omega), p_cho_L hU hw n (k + 1) fuel _ (by omega) (by omega)]
      simp
  | n, k, 0, a, _, hf => absurd hf (Nat.not_lt_zero n)
theorem p_chimneysOf {F U m : Nat} {W : Nat → Nat} {who : Nat → Int32} (hU : U ≤ 5) (hw : ∀ k, k < U → who k = nI (W k)) (hF : 5 < F) : fX6_chimneysOf F (nI U) who (nI m) = some (chW W m U 0 0) := p_cho_L hU hw U 0 F 0 (by omega) (by omega)
theorem p_asc_L {F U m : Nat} {W : Nat → Nat} {few : Nat → Int32} (hU : U ≤ 5) (hw : ∀ k, k < U → few k = nI (W k)) : ∀ (n k fuel : Nat) (a : Int32), k + n = U → n < fuel → fX10_asChimneys_L4 F (nI U) few (nI m) fuel a (nI k) = some (chW W m n k a)
  | 0, k, fuel + 1, a, h, _ => by
    rw [fX10_asChimneys_L4, if_pos (nI_le (by omega) (by omega))]; rfl
  | n + 1, k, fuel + 1, a, h, hf => by
    rw [fX10_asChimneys_L4, if_neg (nI_ge (by omega) (by omega)), p_isIn (show k < 32 by omega), ob_s, bt_nI (by omega), chW]
    cases hb : m.testBit k with
    | false =>
      rw [bI_0 rfl, if_pos rfl, fX10_asChimneys_L33, ol_s, ol_s, nI_1, Int32.or_zero, p_asc_L hU hw n (k + 1) fuel a (by omega) (by omega)]
      simp
    | true =>
      rw [bI_1 rfl, if_neg one0, vb_nI (show k < 5 by omega) (by decide), og_s, fX10_asChimneys_L33, ol_s, ol_s, nI_1, nI_clamp (by omega), hw k (by omega), p_asc_L hU hw n (k + 1) fuel _ (by omega) (by omega)]
      simp
  | n, k, 0, a, _, hf => absurd hf (Nat.not_lt_zero n)
theorem p_asChimneys {F U m : Nat} {W : Nat → Nat} {few : Nat → Int32} (hU : U ≤ 5) (hw : ∀ k, k < U → few k = nI (W k)) (hF : 5 < F) : fX10_asChimneys F (nI U) few (nI m) = some (chW W m U 0 0) := p_asc_L hU hw U 0 F 0 (by omega) (by omega)
/-- has the set m a plan? -/
def hasP (f : Nat → Nat → Bool) (x : Nat → Nat → Nat → Nat → Bool) (U m : Nat) : Bool := !(PL f x (fun j => m.testBit j) U 0 (fun _ => 0) 0 0).isEmpty
def opF (f : Nat → Nat → Bool) (U : Nat) (op : Nat → Int32) : Prop := ∀ j, j < U → ∀ b, b < 32 → bt (op j) b = f j b
theorem lt_pow {U m j : Nat} (hm : m < 2 ^ U) (h : m.testBit j = true) : j < U := by
  rcases Nat.lt_or_ge j U with q | q
  · exact q
  · have : 2 ^ U ≤ 2 ^ j := Nat.pow_le_pow_right (by decide) q
    rw [Nat.testBit_lt_two_pow (by omega)] at h; cases h
theorem p_can0 {F U m : Nat} {cl op : Nat → Int32} {f : Nat → Nat → Bool} {x : Nat → Nat → Nat → Nat → Bool} (hU : U ≤ 5) (hcl : clI x U cl) (hF : 24 < F) (hm : m < 2 ^ U) (ho : opF f U op) : ∃ op', fX6_canLight F (nI U) cl 8 op 0 (nI m) = some (bI (hasP f x U m), op') ∧ opF f U op' := by
  have hp := pw_U U (by omega)
  obtain ⟨op', e1, e2⟩ := p_canLight (F := F) (f := f) (x := x) (s := fun j => m.testBit j) hU (fun j hj => lt_pow hm hj) hcl hF 8 0 0 m (fun _ => 0) 0 0 op (by omega) (Nat.le_refl _) (by omega) (by omega) (fun j hj => by simp) (fun j a b c d e => by
    rw [Nat.mul_zero, Nat.zero_add, ho j b d e]
    unfold goB noC
    simp)
  refine ⟨op', e1, fun j hj b hb => ?_⟩
  rw [e2 j (by omega)]; exact ho j hj b hb
theorem p_ways0 {F U L m most : Nat} {ap fo qo : Nat → Int32} {f : Nat → Nat → Bool} {x : Nat → Nat → Nat → Nat → Bool} (hU : U ≤ 5) (hL : L ≤ 23) (hR : rfI f x U L fo ap) (hF : 24 < F) (h1 : 1 ≤ most) (h2 : most ≤ 100000) : ∃ qo', fX10_waysFrom F (nI U) ap fo 8 qo 0 (nI m) (nI L) (nI most) = some (nI (min most (PL f x (fun j => m.testBit j) U 0 (fun _ => 0) 0 0).length), qo') := by
  obtain ⟨qo', e1, -⟩ := p_waysFrom (F := F) (f := f) (x := x) (s := fun j => m.testBit j) (m := m) hU hL (fun _ _ => rfl) hR hF 8 0 (fun _ => 0) 0 0 most qo (by omega) (by omega) h1 h2 (fun j hj => by omega)
  exact ⟨qo', e1⟩
theorem p_ways1 {F U L m : Nat} {ap fo qo : Nat → Int32} {f : Nat → Nat → Bool} {x : Nat → Nat → Nat → Nat → Bool} (hU : U ≤ 5) (hL : L ≤ 23) (hR : rfI f x U L fo ap) (hF : 24 < F) : ∃ qo', fX10_waysFrom F (nI U) ap fo 8 qo 0 (nI m) (nI L) 1 = some (bI (hasP f x U m), qo') := by
  obtain ⟨qo', e1⟩ := p_ways0 (F := F) (m := m) (most := 1) (qo := qo) hU hL hR hF (by omega) (by omega)
  refine ⟨qo', e1.trans ?_⟩
  unfold hasP
  cases PL f x (fun j => m.testBit j) U 0 (fun _ => 0) 0 0 with
  | nil => rfl
  | cons a l =>
    rw [List.length_cons, show min 1 (l.length + 1) = 1 by omega]
    rfl
/-- the least set without a plan: fewest members, then the least number -/
def isMin (Y : Nat → Bool) (N R : Nat) : Prop := (R = 0 ∧ ∀ m, 1 ≤ m → m < N → Y m = true) ∨ (1 ≤ R ∧ R < N ∧ Y R = false ∧ ∀ m, 1 ≤ m → m < N → Y m = false → pc R < pc m ∨ (pc R = pc m ∧ R ≤ m))
theorem isMin_eq {Y : Nat → Bool} {N R R' : Nat} (h : isMin Y N R) (h' : isMin Y N R') : R = R' := by
  rcases h with ⟨a1, a2⟩ | ⟨a1, a2, a3, a4⟩
  · rcases h' with ⟨b1, b2⟩ | ⟨b1, b2, b3, b4⟩
    · omega
    · rw [a2 R' b1 b2] at b3; cases b3
  · rcases h' with ⟨b1, b2⟩ | ⟨b1, b2, b3, b4⟩
    · rw [b2 R a1 a2] at a3; cases a3
    · have q1 := a4 R' b1 b2 b3
      have q2 := b4 R a1 a2 a3
      omega
theorem p_sh12 {F U z : Nat} {cl : Nat → Int32} {f : Nat → Nat → Bool} {x : Nat → Nat → Nat → Nat → Bool} {k2 : Int32 → (Nat → Int32) → Option (Int32 × (Nat → Int32))} (hU : U ≤ 5) (hz : z ≤ U) (hcl : clI x U cl) (hF : 32 < F)
    (hk : ∀ op1, opF f U op1 → (∀ m, 1 ≤ m → m < 2 ^ U → hasP f x U m = false → z + 1 ≤ pc m) → ∃ R op2, k2 (nI (z + 1)) op1 = some (nI R, op2) ∧ isMin (hasP f x U) (2 ^ U) R ∧ opF f U op2) :
    ∀ (n m fuel : Nat) (op : Nat → Int32), m + n = 2 ^ U → n < fuel → 1 ≤ m → opF f U op → (∀ m', 1 ≤ m' → m' < 2 ^ U → hasP f x U m' = false → z ≤ pc m' ∧ (pc m' = z → m ≤ m')) → ∃ R op2, fX6_shutSet_L12 F (nI U) cl k2 fuel (nI z) (nI m) op = some (nI R, op2) ∧ isMin (hasP f x U) (2 ^ U) R ∧ opF f U op2
  | 0, m, fuel + 1, op, h, _, h1, ho, hn => by
    have hp := pw_U U (by omega)
    rw [fX6_shutSet_L12, hp.1, if_pos (nI_le (by omega) (by omega)), ol_s, nI_1]
    refine hk op ho (fun m' a b c => ?_)
    have := hn m' a b c
    rcases Nat.lt_or_ge z (pc m') with q | q
    · exact q
    · have := this.2 (by omega); omega
  | n + 1, m, fuel + 1, op, h, hf, h1, ho, hn => by
    have hp := pw_U U (by omega)
    have hm32 : m < 32 := by omega
    have IH := fun op0 => p_sh12 (F := F) hU hz hcl hF hk n (m + 1) fuel op0 (by omega) (by omega) (by omega)
    rw [fX6_shutSet_L12, hp.1, if_neg (nI_ge (by omega) (by omega)), p_bc5 hm32, ob_s]
    by_cases e : pc m = z
    · obtain ⟨op1, e1, e2⟩ := p_can0 (F := F) (m := m) hU hcl (by omega) (by omega) ho
      rw [e, if_pos rfl, e1, ob_s]
      dsimp only
      cases hY : hasP f x U m with
      | false =>
        refine ⟨m, op1, ?_, Or.inr ⟨h1, by omega, hY, fun m' a b c => ?_⟩, e2⟩
        · rw [bI_0 rfl, if_pos rfl]
        · have := hn m' a b c
          rw [e]
          rcases Nat.lt_or_ge z (pc m') with q | q
          · exact Or.inl q
          · exact Or.inr ⟨by omega, this.2 (by omega)⟩
      | true =>
        rw [bI_1 rfl, if_neg one0, fX6_shutSet_L41, ol_s, nI_1]
        refine IH op1 e2 (fun m' a b c => ⟨(hn m' a b c).1, fun d => ?_⟩)
        have := (hn m' a b c).2 d
        rcases Nat.lt_or_ge m m' with q | q
        · exact q
        · rw [show m' = m by omega, hY] at c; cases c
    · rw [if_neg (nI_ne (by have := (pc_tab m hm32).2.1; omega) (by omega) e), fX6_shutSet_L41, ol_s, nI_1]
      refine IH op ho (fun m' a b c => ⟨(hn m' a b c).1, fun d => ?_⟩)
      have := (hn m' a b c).2 d
      rcases Nat.lt_or_ge m m' with q | q
      · exact q
      · rw [show m' = m by omega] at d; omega
  | n, m, 0, op, _, hf, _, _, _ => absurd hf (Nat.not_lt_zero n)
theorem p_sh2 {F U : Nat} {cl : Nat → Int32} {f : Nat → Nat → Bool} {x : Nat → Nat → Nat → Nat → Bool} (hU : U ≤ 5) (hcl : clI x U cl) (hF : 32 < F) :
    ∀ (n z fuel : Nat) (op : Nat → Int32), z + n = U + 1 → n < fuel → 1 ≤ z → opF f U op → (∀ m', 1 ≤ m' → m' < 2 ^ U → hasP f x U m' = false → z ≤ pc m') → ∃ R op2, fX6_shutSet_L2 F (nI U) cl fuel (nI z) op = some (nI R, op2) ∧ isMin (hasP f x U) (2 ^ U) R ∧ opF f U op2
  | 0, z, fuel + 1, op, h, _, h1, ho, hn => by
    refine ⟨0, op, ?_, Or.inl ⟨rfl, fun m a b => ?_⟩, ho⟩
    · rw [fX6_shutSet_L2, if_pos (nI_lt (by omega) (by omega))]; rfl
    · cases hY : hasP f x U m with
      | true => rfl
      | false =>
        have q1 := hn m a b hY
        have q2 := pc_le U (by omega) m b
        omega
  | n + 1, z, fuel + 1, op, h, hf, h1, ho, hn => by
    rw [fX6_shutSet_L2, if_neg (nI_nlt (by omega) (by omega))]
    exact p_sh12 (F := F) (z := z) (f := f) (x := x) hU (by omega) hcl hF (fun op1 o1 n1 => p_sh2 hU hcl hF n (z + 1) fuel op1 (by omega) (by omega) (by omega) o1 n1) (2 ^ U - 1) 1 F op (by have := pw_U U (by omega); omega) (by have := pw_U U (by omega); omega) (Nat.le_refl _) ho (fun m' a b c => ⟨hn m' a b c, fun _ => a⟩)
  | n, z, 0, op, _, hf, _, _, _ => absurd hf (Nat.not_lt_zero n)
theorem p_shutSet {F U : Nat} {cl op : Nat → Int32} {f : Nat → Nat → Bool} {x : Nat → Nat → Nat → Nat → Bool} (hU : U ≤ 5) (hcl : clI x U cl) (hF : 32 < F) (ho : opF f U op) : ∃ R op2, fX6_shutSet F (nI U) cl op = some (nI R, op2) ∧ isMin (hasP f x U) (2 ^ U) R ∧ opF f U op2 :=
  p_sh2 (F := F) hU hcl hF U 1 F op (by omega) (by omega) (Nat.le_refl _) ho (fun m' a b _ => (pc_tab m' (by have := pw_U U (by omega); omega)).2.2 (by omega))
/-- the reference: the best so far among those below m -/
theorem p_rs19 {F U : Nat} {W : Nat → Nat} {all ap few fo his los pm pf : Nat → Int32} {thr : Int32} {f : Nat → Nat → Bool} {x : Nat → Nat → Nat → Nat → Bool} (hU : U ≤ 5) (hR : rfI f x U 23 fo ap) (hw : ∀ k, k < U → few k = nI (W k)) (hF : 32 < F) :
    ∀ (n m fuel R0 : Nat) (qo : Nat → Int32), m + n = 2 ^ U → n < fuel → 1 ≤ m → isMin (hasP f x U) m R0 → ∃ R, isMin (hasP f x U) (2 ^ U) R ∧ fstIs (fX10_shut_L19 F all fuel (if R0 = 0 then -1 else nI R0) (nI m) thr (nI U) ap few fo his los pm pf qo) (if R = 0 then 0 else chW W R U 0 0)
  | 0, m, fuel + 1, R0, qo, h, _, h1, hm => by
    have hp := pw_U U (by omega)
    have hmN : m = 2 ^ U := by omega
    refine ⟨R0, hmN ▸ hm, ?_⟩
    rw [fX10_shut_L19, hp.1, if_pos (nI_le (by omega) (by omega))]
    by_cases e : R0 = 0
    · rw [if_pos e, if_pos rfl, if_pos e]; exact fst_mk
    · have : R0 < 2 ^ U := by
        rcases hm with ⟨a, -⟩ | ⟨-, a, -⟩
        · exact absurd a e
        · omega
      rw [if_neg e, if_neg (nI_nm1 (by omega)), p_asChimneys hU hw (by omega), ob_s, if_neg e]; exact fst_mk
  | n + 1, m, fuel + 1, R0, qo, h, hf, h1, hm => by
    have hp := pw_U U (by omega)
    have hm32 : m < 32 := by omega
    have IH := fun R1 qo1 => p_rs19 (F := F) (all := all) (his := his) (los := los) (pm := pm) (pf := pf) (thr := thr) hU hR hw hF n (m + 1) fuel R1 qo1 (by omega) (by omega) (by omega)
    obtain ⟨qo2, w1⟩ := p_ways1 (F := F) (m := m) (qo := qo) hU (Nat.le_refl 23) hR (by omega)
    have w1' : fX10_waysFrom F (nI U) ap fo 8 qo 0 (nI m) 23 1 = some (bI (hasP f x U m), qo2) := w1
    rw [fX10_shut_L19, hp.1, if_neg (nI_ge (by omega) (by omega))]
    by_cases e : R0 = 0
    · rw [if_pos e, if_pos rfl]
      unfold fX10_shut_L45 fX10_shut_L59
      rw [w1', ob_s]
      simp only [ol_s, nI_1]
      have hall : ∀ m', 1 ≤ m' → m' < m → hasP f x U m' = true := by
        rcases hm with ⟨-, a⟩ | ⟨a, -⟩
        · exact a
        · omega
      cases hY : hasP f x U m with
      | false =>
        have := IH m qo2 (Or.inr ⟨h1, by omega, hY, fun m' a b c => by
          by_cases q : m' = m
          · exact Or.inr ⟨by rw [q], by omega⟩
          · rw [hall m' a (by omega)] at c; cases c⟩)
        rw [if_neg (show ¬ m = 0 by omega)] at this
        rw [bI_0 rfl, if_pos rfl]
        exact this
      | true =>
        have := IH 0 qo2 (Or.inl ⟨rfl, fun m' a b => by
          by_cases q : m' = m
          · rw [q]; exact hY
          · exact hall m' a (by omega)⟩)
        rw [if_pos rfl] at this
        rw [bI_1 rfl, if_neg one0]
        exact this
    · obtain ⟨r1, r2, r3, r4⟩ : 1 ≤ R0 ∧ R0 < m ∧ hasP f x U R0 = false ∧ ∀ m', 1 ≤ m' → m' < m → hasP f x U m' = false → pc R0 < pc m' ∨ (pc R0 = pc m' ∧ R0 ≤ m') := by
        rcases hm with ⟨a, -⟩ | a
        · exact absurd a e
        · exact a
      have b1 := (pc_tab m hm32).2.1
      have b2 := (pc_tab R0 (by omega)).2.1
      rw [if_neg e, if_neg (nI_nm1 (by omega)), p_bitsOf hm32 (by omega), ob_s, p_bitsOf (by omega) (by omega), ob_s]
      by_cases hpc : pc R0 ≤ pc m
      · have := IH R0 qo (Or.inr ⟨r1, by omega, r3, fun m' a b c => by
          by_cases q : m' = m
          · rw [q]; omega
          · exact r4 m' a (by omega) c⟩)
        rw [if_neg e] at this
        rw [if_pos (nI_le hpc (by omega)), fX10_shut_L59, ol_s, nI_1]
        exact this
      · rw [if_neg (nI_ge (by omega) (by omega))]
        unfold fX10_shut_L45 fX10_shut_L59
        rw [w1', ob_s]
        simp only [ol_s, nI_1]
        cases hY : hasP f x U m with
        | false =>
          have := IH m qo2 (Or.inr ⟨h1, by omega, hY, fun m' a b c => by
            by_cases q : m' = m
            · exact Or.inr ⟨by rw [q], by omega⟩
            · have := r4 m' a (by omega) c; omega⟩)
          rw [if_neg (show ¬ m = 0 by omega)] at this
          rw [bI_0 rfl, if_pos rfl]
          exact this
        | true =>
          have := IH R0 qo2 (Or.inr ⟨r1, by omega, r3, fun m' a b c => by
            by_cases q : m' = m
            · rw [q, hY] at c; cases c
            · exact r4 m' a (by omega) c⟩)
          rw [if_neg e] at this
          rw [bI_1 rfl, if_neg one0]
          exact this
  | n, m, 0, R0, qo, _, hf, _, _ => absurd hf (Nat.not_lt_zero n)
