theorem cut_lit0 : ∀ s, s < 4 → ∀ l, l < 25 → fX3_cut 0 (nI s) ((nI l - 1).toInt64) = some ((nI l - 1).toInt64) := by decide +kernel
theorem cut_lit {F s l : Nat} (hs : s ≤ 3) (hl : l ≤ 24) : fX3_cut F (nI s) ((nI l - 1).toInt64) = some ((nI l - 1).toInt64) := cut_lit0 s (by omega) l (by omega)
def cpT {α : Type} (v : Nat → α) (o i n : Nat) (g : Nat → α) : Nat → α := fun j => if o + i ≤ j ∧ j < o + n then g (j - o) else v j
theorem cpT_in {α : Type} {v g : Nat → α} {o i n j : Nat} (h1 : o + i ≤ j) (h2 : j < o + n) : cpT v o i n g j = g (j - o) := if_pos ⟨h1, h2⟩
theorem cpT_out {α : Type} {v g : Nat → α} {o i n j : Nat} (h : j < o + i ∨ o + n ≤ j) : cpT v o i n g j = v j := if_neg (by omega)
theorem cpT_nil {α : Type} {v g : Nat → α} {o n : Nat} : cpT v o n n g = v := by funext j; exact cpT_out (by omega)
theorem cpT_step {v g : Nat → Int64} {o i n : Nat} (h : i < n) : cpT (vp_updL v (o + i) (g i)) o (i + 1) n g = cpT v o i n g := by
  funext j
  by_cases h1 : o + (i + 1) ≤ j ∧ j < o + n
  · rw [cpT_in h1.1 h1.2, cpT_in (by omega) h1.2]
  · rw [cpT_out (by omega)]
    by_cases h2 : j = o + i
    · subst h2; rw [pk_uLs, cpT_in (Nat.le_refl _) (by omega), Nat.add_sub_cancel_left]
    · rw [pk_uLn h2, cpT_out (by omega)]
def litL (t : Nat → Nat → Nat) (c : Nat) : Int64 := (nI (t 11 c) - 1).toInt64
theorem p_copyC_L {F m s : Nat} {t : Nat → Nat → Nat} {lit : Nat → Int32} {a1 : Int32} (ht : Tok t) (hl : ∀ c, c < t 0 0 → lit c = nI (t 11 c) - 1) (hm : m ≤ 40) (hs : s ≤ 3) (hnm : t 0 0 ≤ m) : ∀ (k i fuel : Nat) (v : Nat → Int64), i + k = t 0 0 → k < fuel → fX9_copy_at0_L42 F (nI (t 0 0)) (nI s) (nI m) lit a1 fuel (nI i) v = some (nI (t 0 0), cpT v 0 i (t 0 0) (litL t))
  | 0, i, fuel + 1, v, h, _ => by
    have hn := ht.1
    rw [fX9_copy_at0_L42, show i = t 0 0 by omega, if_pos (nI_le (Nat.le_refl _) (by omega)), cpT_nil]
  | k + 1, i, fuel + 1, v, h, hf => by
    have hn := ht.1
    have hi : i < t 0 0 := by omega
    have hput : fX3_put F (nI s) (nI m) v (nI i) ((lit i).toInt64) = some (litL t i, vp_updL v (0 + i) (litL t i)) := by
      unfold fX3_put
      rw [p_hasPlace hm, vb_nI (by omega) (by omega), ob_s, bI_1 rfl, if_neg one0, hl i hi, cut_lit hs (ht.lit hi), ob_s, vb_nI (by omega) (by decide), og_s, ol_s, og_s, nI_clamp (by omega), pk_uLs, Nat.zero_add]
      rfl
    rw [fX9_copy_at0_L42, if_neg (nI_ge hi (by omega)), vb_nI (by omega) (by decide), og_s, nI_clamp (by omega), hput, ob_s, ol_s, nI_1, p_copyC_L ht hl hm hs hnm k (i + 1) fuel _ (by omega) (by omega), cpT_step hi]
  | k, i, 0, v, _, hf => absurd hf (Nat.not_lt_zero k)
theorem p_copyM_L {F r : Nat} {t : Nat → Nat → Nat} {all many srt : Nat → Int32} {thr : Int32} (ht : Tok t) (hM : tM t all 0) (hr : r < 4) : ∀ (k i fuel : Nat) (v : Nat → Int64), i + k = t 0 0 → k < fuel → fX10_copy_L53 F all many srt (nI r) fuel (nI i) thr v = some (nI (t 0 0), thr, cpT v (40 * r) i (t 0 0) (litL t))
  | 0, i, fuel + 1, v, h, _ => by
    have hn := ht.1
    have e : all (0 : Int32).toNatClampNeg = nI (t 0 0) := hM.1 0 (by decide)
    rw [fX10_copy_L53, e, show i = t 0 0 by omega, if_pos (nI_le (Nat.le_refl _) (by omega)), cpT_nil]
  | k + 1, i, fuel + 1, v, h, hf => by
    have hn := ht.1
    have hi : i < t 0 0 := by omega
    have e : all (0 : Int32).toNatClampNeg = nI (t 0 0) := hM.1 0 (by decide)
    have m5 := (hM.2.1 i hi).2.2.2.2.2.1
    rw [Nat.zero_add] at m5
    have ix : (40 : Int32) * nI r + nI i = nI (40 * r + i) := by
      rw [show (40 : Int32) = nI 40 from rfl, pk_mul, nI_add]
    rw [fX10_copy_L53, e, if_neg (nI_ge hi (by omega)), p_litAt (by omega), ob_s, m5, ix, vb_nI (by omega) (by decide), og_s, ol_s, ol_s, nI_1, nI_clamp (by omega)]
    have hst := cpT_step (v := v) (g := litL t) (o := 40 * r) (i := i) (n := t 0 0) hi
    rw [show (nI (t 11 i) - 1).toInt64 = litL t i from rfl, p_copyM_L ht hM hr k (i + 1) fuel _ (by omega) (by omega), hst]
  | k, i, 0, v, _, hf => absurd hf (Nat.not_lt_zero k)
/-- promise 41, a row that is -/
theorem s_copy {F k : Nat} {t : Nat → Nat → Nat} {sort size thr : Int32} {vals nums : Nat → Int64} {many srt lit all : Nat → Int32} (ht : Tok t) (hl : ∀ c, c < t 0 0 → lit c = nI (t 11 c) - 1) (hM : tM t all 0) (hF : 40 < F) (hk : k < 4) (h : rRel k sort size vals nums many srt) :
    ∃ (r : Int32) (vals' nums' : Nat → Int64), fX9_copy_at0 F (nI (t 0 0)) sort size lit vals (nI k) = some (r, vals') ∧ fX10_copy F thr all nums many srt (nI k) = some (r, 0, nums') ∧ rRel k sort size vals' nums' many srt ∧ ∀ j, (j < 40 * k ∨ 40 * k + 40 ≤ j) → nums' j = nums j := by
  have hn := ht.1
  have hv4 : vb (nI k) 4 = true := vb_nI hk (by decide)
  have e : all (0 : Int32).toNatClampNeg = nI (t 0 0) := hM.1 0 (by decide)
  unfold fX9_copy_at0 fX10_copy
  rw [p_w03, ob_s, hv4, bI_1 rfl, if_neg one0, og_s, og_s, nI_clamp (by omega), e]
  rcases h with ⟨h1, h2⟩ | ⟨m, s, hm, hs, h1, h2, h3, h4, h5⟩
  · refine ⟨-6, vals, nums, ?_, ?_, Or.inl ⟨h1, h2⟩, fun _ _ => rfl⟩
    · unfold fX3_isMissing
      rw [if_pos h1, ob_s, if_neg one0]
    · rw [if_pos h2]
  · have hmiss : fX3_isMissing F size = some 0 := by
      unfold fX3_isMissing
      rw [h1, if_neg (nI_nm1 (by omega))]
    rw [hmiss, ob_s, if_pos rfl, h1, h2, h3, h4, if_neg (nI_nm1 (by omega))]
    by_cases hc : t 0 0 ≤ m
    · rw [if_pos (nI_le hc (by omega)), if_pos (nI_le hc (by omega))]
      refine ⟨nI (t 0 0), cpT vals 0 0 (t 0 0) (litL t), cpT nums (40 * k) 0 (t 0 0) (litL t), ?_, ?_, Or.inr ⟨m, s, hm, hs, rfl, rfl, h3, h4, ?_⟩, ?_⟩
      · exact p_copyC_L ht hl hm hs hc (t 0 0) 0 F vals (by omega) (by omega)
      · exact p_copyM_L ht hM hk (t 0 0) 0 F nums (by omega) (by omega)
      · intro i hi
        by_cases q : i < t 0 0
        · rw [cpT_in (by omega) (by omega), cpT_in (by omega) (by omega)]
          congr 1; omega
        · rw [cpT_out (by omega), cpT_out (by omega)]; exact h5 i hi
      · intro j hj
        exact cpT_out (by omega)
    · rw [if_neg (nI_ge (by omega) (by omega)), if_neg (nI_ge (by omega) (by omega))]
      exact ⟨-7, vals, nums, rfl, rfl, Or.inr ⟨m, s, hm, hs, rfl, rfl, h3, h4, h5⟩, fun _ _ => rfl⟩
