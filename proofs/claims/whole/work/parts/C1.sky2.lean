theorem sumR_end {f : Nat → Nat} (k i : Nat) : sumR f i (k + 1) = sumR f i k + f (i + k) := by
  rw [sumR_split k 1 i]; rfl
theorem sumR_blocks {f : Nat → Nat} (b : Nat) : ∀ m, sumR f 0 (b * m) = sumR (fun x => sumR f (b * x) b) 0 m
  | 0 => by rw [Nat.mul_zero]; rfl
  | m + 1 => by
    rw [sumR_end, ← sumR_blocks b m, Nat.mul_succ, sumR_split, Nat.zero_add, Nat.zero_add]
theorem sumR_swap {f : Nat → Nat → Nat} (n j : Nat) : ∀ (k i : Nat), sumR (fun x => sumR (fun h => f x h) j n) i k = sumR (fun h => sumR (fun x => f x h) i k) j n
  | 0, i => (sumR_zero n j (fun _ _ _ => rfl)).symm
  | k + 1, i => by
    rw [sumR_s, sumR_swap n j k (i + 1), ← sumR_add]
    rfl
theorem pc_mod {q x h th : Nat} (hx : x < 40) (hh : h < 25) (hth : th ≤ 9) : pcode q x h th / 10 % 1000 = 25 * x + h := by
  unfold pcode
  omega
theorem had_iff {t : Nat → Nat → Nat} {h x : Nat} (ht : Tok t) (hh : h < 25) (hx : x < 40) : hadB t 0 (t 0 0) (25 * x + h) = true ↔ ∃ c' k', 0 ≤ c' ∧ c' < t 0 0 ∧ k' < t 10 c' ∧ mkP t c' k' 0 h x := by
  unfold hadB
  rw [anyR_iff]
  constructor
  · rintro ⟨c, -, h2, h3⟩
    have hc : c < t 0 0 := by omega
    obtain ⟨g0, g1, -, -, g4, -, g6⟩ := ht.2.2.2.2.2.2.1 c hc
    simp only [List.any_eq_true, decide_eq_true_eq] at h3
    obtain ⟨p, hp, hpe⟩ := h3
    by_cases hl : t 11 c = 0
    · rw [lfL_un hl] at hp; cases hp
    · rw [lfL_lit hl] at hp
      obtain ⟨m, a, x', e1, e2, e3, rfl⟩ := mem_fireL.mp hp
      have s9 := g6 m e1
      have hx' := wayX_lt g0 _ e3
      have hh' := wayX_h (show t 7 c + 0 < 25 by omega) _ e3
      rw [pc_mod hx' hh' (by omega)] at hpe
      have : x' = x ∧ t 7 c + a = h := by omega
      refine ⟨c, m, by omega, hc, e1, t 11 c - 1, a, by omega, by omega, e2, ?_, this.2⟩
      rw [← this.1]; exact e3
  · rintro ⟨c, k, -, hc, hk, lc, a, e1, -, e2, e3, e4⟩
    obtain ⟨g0, g1, -, -, g4, -, g6⟩ := ht.2.2.2.2.2.2.1 c hc
    have s9 := g6 k hk
    refine ⟨c, by omega, by omega, ?_⟩
    simp only [List.any_eq_true, decide_eq_true_eq]
    rw [lfL_lit (by omega), e1, Nat.add_sub_cancel]
    have hx' := wayX_lt g0 _ e3
    refine ⟨_, mem_fireL.mpr ⟨k, a, x, hk, e2, e3, rfl⟩, ?_⟩
    rw [pc_mod hx' (by omega) (by omega)]
    omega
theorem cnt_row {F N : Nat} {p : Nat → Bool} (hN : N < 2 ^ 64) (h1 : ∀ x, x < 40 → N.testBit x = p x) (h2 : ∀ x, 40 ≤ x → x < 64 → N.testBit x = false) : fJ13_bitCount_95d88 F (lN N) = some (nI (sumR (fun x => if p x then 1 else 0) 0 40)) := by
  have e1 : sumR (fun j => if N.testBit j then 1 else 0) (0 + 40) 24 = 0 := sumR_zero 24 _ (fun x a b => by rw [h2 x (by omega) (by omega)]; rfl)
  have e2 : sumR (fun j => if N.testBit j then 1 else 0) 0 40 = sumR (fun x => if p x then 1 else 0) 0 40 := sumR_congr 40 0 (fun x _ hx => by rw [h1 x (by omega)])
  rw [p_bitCountL hN, sumR_split 40 24 0, e1, Nat.add_zero, e2]
def skyC (t : Nat → Nat → Nat) (h : Nat) : Nat := sumR (fun x => if hadB t 0 (t 0 0) (25 * x + h) then 1 else 0) 0 40
def skyN (t : Nat → Nat → Nat) : Nat := sumR (fun j => if hadB t 0 (t 0 0) j then 1 else 0) 0 (25 * 40)
theorem skyC_sum (t : Nat → Nat → Nat) : sumR (skyC t) 0 25 = skyN t := by
  unfold skyN
  rw [sumR_blocks 25 40]
  have w := sumR_swap (f := fun x h => if hadB t 0 (t 0 0) (25 * x + h) then 1 else 0) 25 0 40 0
  refine (show sumR (skyC t) 0 25 = sumR (fun h => sumR (fun x => if hadB t 0 (t 0 0) (25 * x + h) then 1 else 0) 0 40) 0 25 from rfl).trans ?_
  rw [← w]
  refine sumR_congr 40 0 (fun x _ _ => ?_)
  exact (sumR_shift (f := fun j => if hadB t 0 (t 0 0) j then 1 else 0) (25 * x) 25 0).symm
theorem p_skyM {F : Nat} {t : Nat → Nat → Nat} {all hd his los pm pf : Nat → Int32} {thr : Int32} (ht : Tok t) (hM : tM t all 0) (hF : 1001 < F) : ∃ hd' his' los' pm' pf', fX10_sky F thr all hd his los pm pf = some ((nI (skyN t) * (100 : Int32)) / (1000 : Int32), 0, hd', his', los', pm', pf') := by
  obtain ⟨his', los', pm', pf', f1, -, -, f4⟩ := p_laysNow (F := F) (his := his) (los := los) (pm := pm) (pf := pf) ht hM (by omega)
  obtain ⟨hd1, c1, c2⟩ := p_skM_clr (F := F) (all := all) (his := his') (los := los') (pm := pm') (pf := pf') (thr := 0) 1000 0 F hd (by omega) (by omega) (fun q hq => by omega)
  obtain ⟨hd', d1⟩ := p_skM_out (F := F) (his := his') (los := los') (thr := 0) ht hM f4 hF (t 0 0) 0 F hd1 (fun _ => false) (by have := ht.1; omega) (by have := ht.1; omega) (fun i hi => by rw [c2 i hi]; rfl)
  have e : sumR (fun j => if (false || hadB t 0 (t 0 0) j) then 1 else 0) 0 1000 = skyN t := by
    unfold skyN
    simp only [Bool.false_or]
  rw [e] at d1
  refine ⟨hd', his', los', pm', pf', ?_⟩
  unfold fX10_sky
  rw [f1, ob_s]
  exact c1.trans d1
theorem s_sky {F : Nat} {t : Nat → Nat → Nat} {hs v lit sc sm all hd his los pm pf : Nat → Int32} {cells : Nat → Int64} {thr : Int32} (ht : Tok t) (hP : plOk t hs v lit sc sm) (hM : tM t all 0) (hF : 1001 < F) :
    ∃ r cells' hd' his' los' pm' pf', fX9_sky F (nI (t 0 0)) cells lit sc sm hs v = some (r, cells') ∧ fX10_sky F thr all hd his los pm pf = some (r, 0, hd', his', los', pm', pf') := by
  have hn := ht.1
  obtain ⟨hd', his', los', pm', pf', d1⟩ := p_skyM (F := F) (hd := hd) (his := his) (los := los) (pm := pm) (pf := pf) (thr := thr) ht hM hF
  obtain ⟨cells', e1, e2⟩ := p_sk_out (F := F) ht hP (by omega) (t 0 0) 0 F (fillT cells 0 25 0) (fun _ _ => False) (by omega) (by omega) (fun h hh => by rw [fillT_in (by omega) hh]; exact bsL_0)
  have hC : ∀ h, h < 25 → fJ13_bitCount_95d88 F (cells' h) = some (nI (skyC t h)) := by
    intro h hh
    obtain ⟨N, n1, n2⟩ := wb_of (cells' h)
    have hb := e2 h hh
    rw [n2] at hb ⊢
    refine cnt_row n1 (fun x hx => ?_) (fun x x1 x2 => ?_)
    · rw [Bool.eq_iff_iff, had_iff ht hh hx, ← lN_bit (N := N) (j := x) (by omega), hb x (by omega)]
      exact ⟨fun z => z.elim False.elim id, Or.inr⟩
    · cases hbt : N.testBit x with
      | false => rfl
      | true =>
        have := (hb x (by omega)).mp (by rw [lN_bit (by omega)]; exact hbt)
        rcases this with q | ⟨c', k', -, q1, q2, lc, a, q3, q4, q5, q6, q7⟩
        · exact False.elim q
        · have := wayX_lt (ht.2.2.2.2.2.2.1 c' q1).1 _ q6
          omega
  have g1 := p_sk_cnt (F := F) (ch := nI (t 0 0)) (lit := lit) (sc := sc) (sm := sm) (hs := hs) (v := v) (C := skyC t) hC 25 0 F 0 (by omega) (by omega)
  rw [Nat.zero_add, skyC_sum] at g1
  refine ⟨(nI (skyN t) * (100 : Int32)) / (1000 : Int32), cells', hd', his', los', pm', pf', ?_, d1⟩
  unfold fX9_sky
  rw [p_fillJ (by omega) (by decide), ob_s]
  exact e1.trans g1
