/-! ===== Int32 by its bits: bt x i ===== -/
def bt (x : Int32) (i : Nat) : Bool := x.toBitVec.getLsbD i
theorem b_ext {x y : Int32} (h : ∀ i, i < 32 → bt x i = bt y i) : x = y := Int32.toBitVec_inj.mp (BitVec.eq_of_getLsbD_eq (fun i hi => h i hi))
theorem b_or (x y : Int32) (i : Nat) : bt (x ||| y) i = (bt x i || bt y i) := by unfold bt; rw [Int32.toBitVec_or, BitVec.getLsbD_or]
theorem b_and (x y : Int32) (i : Nat) : bt (x &&& y) i = (bt x i && bt y i) := by unfold bt; rw [Int32.toBitVec_and, BitVec.getLsbD_and]
theorem b_xor (x y : Int32) (i : Nat) : bt (x ^^^ y) i = (bt x i ^^ bt y i) := by unfold bt; rw [Int32.toBitVec_xor, BitVec.getLsbD_xor]
theorem b_big {x : Int32} {i : Nat} (h : 32 ≤ i) : bt x i = false := BitVec.getLsbD_of_ge _ _ h
theorem b_255 (i : Nat) : bt 255 i = decide (i < 8) := by
  rcases Nat.lt_or_ge i 32 with h | h
  · exact (by decide +kernel : ∀ i, i < 32 → bt 255 i = decide (i < 8)) i h
  · rw [b_big h, decide_eq_false (by omega)]
theorem b_65535 (i : Nat) : bt 65535 i = decide (i < 16) := by
  rcases Nat.lt_or_ge i 32 with h | h
  · exact (by decide +kernel : ∀ i, i < 32 → bt 65535 i = decide (i < 16)) i h
  · rw [b_big h, decide_eq_false (by omega)]
theorem b_m1 : ∀ i, i < 32 → bt (-1) i = true := by decide +kernel
theorem b_0 (i : Nat) : bt 0 i = false := BitVec.getLsbD_zero
theorem s_l : ∀ n, n < 32 → ((nI n &&& 31).toBitVec.smod 32).toNat = n := by decide +kernel
theorem s_u : ∀ n, n < 32 → (((nI n).toUInt32 &&& Int32.toUInt32 31).toBitVec % 32).toNat = n := by decide +kernel
theorem b_shl (n : Nat) (hn : n < 32) (x : Int32) {i : Nat} (hi : i < 32) : bt (x <<< (nI n &&& 31)) i = (decide (n ≤ i) && bt x (i - n)) := by
  unfold bt
  rw [Int32.toBitVec_shiftLeft]
  show (x.toBitVec <<< ((nI n &&& 31).toBitVec.smod 32).toNat).getLsbD i = _
  rw [s_l n hn, BitVec.getLsbD_shiftLeft]
  rcases Nat.lt_or_ge i n with h | h
  · simp [h, Nat.not_le.mpr h]
  · simp [hi, h, Nat.not_lt.mpr h]
theorem b_ushr (n : Nat) (hn : n < 32) (x : Int32) (i : Nat) : bt ((x.toUInt32 >>> ((nI n).toUInt32 &&& Int32.toUInt32 31)).toInt32) i = bt x (n + i) := by
  show (x.toUInt32 >>> ((nI n).toUInt32 &&& Int32.toUInt32 31)).toBitVec.getLsbD i = x.toUInt32.toBitVec.getLsbD (n + i)
  rw [UInt32.toBitVec_shiftRight]
  show (x.toUInt32.toBitVec >>> (((nI n).toUInt32 &&& Int32.toUInt32 31).toBitVec % 32).toNat).getLsbD i = _
  rw [s_u n hn, BitVec.getLsbD_ushiftRight]
theorem b_sshr (n : Nat) (hn : n < 32) (x : Int32) {i : Nat} (hi : i < 32) : bt (x >>> (nI n &&& 31)) i = if n + i < 32 then bt x (n + i) else bt x 31 := by
  unfold bt
  rw [Int32.toBitVec_shiftRight]
  show (x.toBitVec.sshiftRight ((nI n &&& 31).toBitVec.smod 32).toNat).getLsbD i = _
  rw [s_l n hn, BitVec.getLsbD_sshiftRight, BitVec.msb_eq_getLsbD_last]
  simp [hi]
theorem b_shl8 (x : Int32) {i : Nat} (hi : i < 32) : bt (x <<< ((8 : Int32) &&& 31)) i = (decide (8 ≤ i) && bt x (i - 8)) := b_shl 8 (by omega) x hi
theorem b_shl16 (x : Int32) {i : Nat} (hi : i < 32) : bt (x <<< ((16 : Int32) &&& 31)) i = (decide (16 ≤ i) && bt x (i - 16)) := b_shl 16 (by omega) x hi
theorem b_shl24 (x : Int32) {i : Nat} (hi : i < 32) : bt (x <<< ((24 : Int32) &&& 31)) i = (decide (24 ≤ i) && bt x (i - 24)) := b_shl 24 (by omega) x hi
theorem b_sshr8 (x : Int32) {i : Nat} (hi : i < 32) : bt (x >>> ((8 : Int32) &&& 31)) i = if 8 + i < 32 then bt x (8 + i) else bt x 31 := b_sshr 8 (by omega) x hi
theorem bt_1 : ∀ i, i < 32 → bt 1 i = decide (i = 0) := by decide +kernel
theorem bt_bI : ∀ b i, i < 32 → bt (bI b) i = (b && decide (i = 0)) := by decide +kernel
/-- one bit of a set -/
theorem bitI {q : Nat} (hq : q < 32) (S : Int32) : (S >>> (nI q &&& 31)) &&& (1 : Int32) = bI (bt S q) := by
  refine b_ext (fun i hi => ?_)
  rw [b_and, b_sshr q hq S hi, bt_1 i hi, bt_bI _ i hi]
  by_cases e : i = 0
  · subst e
    rw [if_pos (by omega)]; simp
  · simp [e]
theorem bsI_b {S : Int32} {P : Nat → Prop} (h : bsI S P) {j : Nat} (hj : j < 32) : bt S j = true ↔ P j := h j hj
/-! told lightings: a long is 32 * chimney + quarter -/
theorem shr5 (v : Int64) : (v >>> (((5 : Int32)).toInt64 &&& 63)).toInt = v.toInt / 32 := by
  have hD : ((((5 : Int32)).toInt64 &&& 63).toBitVec.smod 64).toNat = 5 := by decide +kernel
  have e : (v >>> (((5 : Int32)).toInt64 &&& 63)).toInt = v.toInt >>> 5 := by
    rw [← hD]
    exact BitVec.toInt_sshiftRight ..
  rw [e, Int.shiftRight_eq_div_pow]
  rfl
theorem shr5N {m : Nat} (h : m < 2 ^ 63) : lN m >>> (((5 : Int32)).toInt64 &&& 63) = lN (m / 32) := by
  apply Int64.toInt_inj.mp
  rw [shr5, pk_lT h, pk_lT (by omega)]
  omega
theorem and31 {m : Nat} (h : m < 2 ^ 63) : lN m &&& (31 : Int64) = lN (m % 32) := wb_mask (n := m) (k := 5) (by omega) (by decide)
theorem neg_of {v : Int64} (h : v < 0) : v >>> (((5 : Int32)).toInt64 &&& 63) < 0 := by
  rw [Int64.lt_iff_toInt_lt] at h ⊢
  have e0 : (0 : Int64).toInt = 0 := rfl
  rw [shr5]
  omega
theorem p_isLQ {F : Nat} {a : Int32} : fX9_isLightingQuarter F a = some (bI (vb a 24)) := by
  unfold fX9_isLightingQuarter
  rcases vb_cases (a := a) (n := 24) (by decide) with ⟨h1, q, hq, rfl⟩ | ⟨h1, h2⟩
  · rw [if_neg (nI_pos (by omega)), if_neg (show ¬ (24 : Int32) ≤ nI q from nI_ge (a := q) (b := 24) hq (by decide)), h1]; rfl
  · rw [h1]
    rcases h2 with q | q
    · rw [if_pos q]; rfl
    · rw [if_pos (show (24 : Int32) ≤ a from q)]
      split <;> rfl
theorem p_isChimL {F n k : Nat} {all : Nat → Int32} (h0 : all 0 = nI n) (hn : n ≤ 10) (hk : k < 2 ^ 63) : fX10_isChimney F all (lN k) = some (bI (decide (k < n))) := by
  unfold fX10_isChimney
  have e : all (0 : Int32).toNatClampNeg = nI n := h0
  rw [e, p_within, ob_s, bI_zb, og_s]
  congr 2
  have e1 : (0 : Int64) ≤ lN k := by
    rw [Int64.le_iff_toInt_le, pk_lT hk]
    have : (0 : Int64).toInt = 0 := rfl
    omega
  have e2 : (lN k ≤ (nI n - 1).toInt64) ↔ k < n := by
    rw [Int64.le_iff_toInt_le, pk_lT hk, Int32.toInt_toInt64, nI_m1 (by omega)]
    omega
  simp only [e1, e2, decide_true, Bool.true_and]
theorem lwI_lit (t : Nat → Nat → Nat) (l : Nat → Nat) (q : Nat) : ∀ n, lwI (tLit t l) q n = lwI t q n
  | 0 => rfl
  | n + 1 => by
    rw [lwI_s, lwI_s, lwI_lit t l q n]
    rfl
theorem tW_lit (t : Nat → Nat → Nat) (l : Nat → Nat) : tW (tLit t l) = tW t := by
  funext b q
  unfold tW windS
  have e : lwI (tLit t l) q (tLit t l 1 0) = lwI t q (t 1 0) := lwI_lit t l q (t 1 0)
  rw [e]
  cases lwI t q (t 1 0) <;> rfl
theorem pl_lit {t : Nat → Nat → Nat} {l : Nat → Nat} {hs v lit lit' sc sm : Nat → Int32} (h : plOk t hs v lit sc sm) (hl : ∀ c, c < t 0 0 → lit' c = nI (l c) - 1) : plOk (tLit t l) hs v lit' sc sm := fun c hc => by
  obtain ⟨h1, h2, h3, h4⟩ := h c hc
  rw [tW_lit]
  exact ⟨h1, hl c hc, h3, h4⟩
theorem lit_same {t : Nat → Nat → Nat} {all lit : Nat → Int32} (ht : Tok t) (hM : tM t all 0) (hl : ∀ c, c < t 0 0 → lit c = nI (t 11 c) - 1) : cntB (mlitB all) (t 0 0) = cntB (litB lit) (t 0 0) := cntB_congr _ (fun c hc => by
  have m1 := (hM.2.1 c hc).2.2.2.2.2.1
  rw [Nat.zero_add] at m1
  unfold mlitB litB
  rw [m1, hl c hc]
  congr 1
  exact decide_eq_decide.mpr ((litM_iff (ht.lit hc)).trans (litC_iff (ht.lit hc)).symm))
/-- why a told lighting is refused: both sides -/
theorem p_obst {F : Nat} {t : Nat → Nat → Nat} {hs v lit sc sm fs ts all his los pm pf : Nat → Int32} (x : Int64) (ht : Tok t) (hP : plOk t hs v lit sc sm) (h2 : ∀ c, c < t 0 0 → fs c = nI (t 8 c)) (h3 : ∀ c, c < t 0 0 → ts c = nI (t 9 c)) (hM : tM t all 0) (hF : 60 < F) :
    ∃ w his' los' pm' pf', w ≤ 4 ∧ fX2_obstacle F (nI (t 0 0)) (nI (t 3 0)) hs v fs lit sc sm ts x = some (nI w) ∧ fX10_refuses F all his los pm pf x = some (nI w, his', los', pm', pf') ∧ (w = 0 → ∃ c q, c < t 0 0 ∧ t 8 c ≤ q ∧ q ≤ t 9 c ∧ x = lN (32 * c + q)) := by
  have hn := ht.1
  unfold fX2_obstacle fX10_refuses
  by_cases hx : x < 0
  · refine ⟨1, his, los, pm, pf, by omega, ?_, ?_, fun z => by omega⟩
    · rw [ol_s, ol_s, if_pos ((lg_cmp_lt _ _).mpr (neg_of hx))]; rfl
    · rw [if_pos ((lg_cmp_lt _ _).mpr hx)]; rfl
  · obtain ⟨m, hm, rfl⟩ := pk_lOf hx
    have hd : lN m / (32 : Int64) = lN (m / 32) := pk_lDiv (a := m) (b := 32) hm (by decide) (by decide)
    have hr : lN m - lN m / (32 : Int64) * (32 : Int64) = lN (m % 32) := pk_lRem (a := m) (b := 32) hm (by decide) (by decide)
    have hpos : ¬ lN (m / 32) < 0 := by
      rw [Int64.lt_iff_toInt_lt, pk_lT (by omega)]
      have : (0 : Int64).toInt = 0 := rfl
      omega
    rw [ol_s, ol_s, shr5N hm, and31 hm, lN_i, if_neg (fun z => hpos ((lg_cmp_lt _ _).mp z)), if_neg (fun z => hx ((lg_cmp_lt _ _).mp z)), hr, hd, p_isChimL (hM.1 0 (by decide)) hn (by omega), ob_s, nI_l (by omega)]
    have hge : (0 ≤ lg_cmp (lN (m / 32)) (lN (t 0 0))) ↔ t 0 0 ≤ m / 32 := by
      rw [← Int32.not_lt, lg_cmp_lt, pk_lLT (by omega) (by omega)]
      omega
    by_cases hc : m / 32 < t 0 0
    · have hm32 : m < 320 := by omega
      rw [if_neg (fun z => by have := hge.mp z; omega), p_isLQ, ob_s]
      have hdec : decide (m / 32 < t 0 0) = true := by simp [hc]
      rw [hdec, bI_1 rfl, if_neg one0]
      by_cases hq : m % 32 < 24
      · have hle : lg_cmp (lN (m % 32)) 23 ≤ 0 := by
          rw [← Int32.not_lt, lg_cmp_gt, show (23 : Int64) = lN 23 from rfl, pk_lLT (by omega) (by omega)]
          omega
        have hd2 : nI m / (32 : Int32) = nI (m / 32) := pk_div (a := m) (d := 32) (by omega) (by decide) (by decide)
        have hr2 : nI m - nI m / (32 : Int32) * (32 : Int32) = nI (m % 32) := pk_rem (a := m) (d := 32) (by omega) (by decide) (by decide)
        rw [vb_nI hq (by decide), bI_1 rfl, if_neg one0, ol_s, lN_i, if_pos hle, ol_s, ol_s, lN_i, hr2, hd2, p_isLit hc hn, ob_s, (hP _ hc).2.1]
        generalize hce : m / 32 = c at hc
        generalize hqe : m % 32 = q at hq
        have hme : m = 32 * c + q := by omega
        have hlt := ht.lit hc
        have m5 := (hM.2.1 c hc).2.2.2.2.2.1
        have m2 := (hM.2.1 c hc).2.2.1
        have m3 := (hM.2.1 c hc).2.2.2.1
        rw [Nat.zero_add] at m5 m2 m3
        rw [p_mLit (by omega), ob_s, m5]
        by_cases hl : t 11 c = 0
        · rw [if_pos ((litC_iff hlt).mpr hl), if_pos rfl, if_pos ((litM_iff hlt).mpr hl), if_pos rfl, p_mayBeLit ht hc (h2 c hc) (h3 c hc), ob_s, p_isTime ht hc m2 m3, ob_s]
          cases hmay : mayB t c (nI q) with
          | false => exact ⟨3, his, los, pm, pf, by omega, by rw [bI_0 rfl, if_pos rfl]; rfl, by rw [bI_0 rfl, if_pos rfl]; rfl, fun z => by omega⟩
          | true =>
            obtain ⟨q', e0, q1, q2⟩ := q_of_may hmay
            obtain ⟨g0, g1, g2, g3, g4, g5, g6⟩ := ht.2.2.2.2.2.2.1 c hc
            have hqq : q = q' := (nI_eq (by omega) (by omega)).mp e0
            subst hqq
            obtain ⟨his', los', pm1, pf1, f1, f2, f3, f4⟩ := p_laysNow (F := F) (his := his) (los := los) (pm := pm) (pf := pf) ht hM (by omega)
            obtain ⟨S, s1, s2⟩ := p_freeQ (F := F) ht (li_of ht hP) (hP c hc).1 (h2 c hc) (h3 c hc) hc hF
            obtain ⟨pm', pf', t1, t2, -⟩ := p_try (F := F) (j := q) ht hM hc (by omega) (tW_le ht) f2 f3 f4 hF
            have e3 : all (3 : Int32).toNatClampNeg = nI (t 3 0) := hM.1 3 (by decide)
            have hbit : bt S q = !tlB t (tW t) c q := by
              rw [Bool.eq_iff_iff, bsI_b s2 (by omega)]
              unfold freeP
              rw [← tlB_iff ht hc]
              simp
              omega
            rw [bI_1 rfl, if_neg one0, if_neg one0, s1, ob_s, bitI (by omega), hbit, f1, ob_s]
            show ∃ w his' los' pm' pf', w ≤ 4 ∧ _ ∧ ob (fX10_laysFire F all _ _ _ _ 130 (nI c) (nI q) 0) _ = _ ∧ _
            simp only [t1, ob_s, e3, t2]
            cases htl : tlB t (tW t) c q with
            | false => exact ⟨0, his', los', pm', pf', by omega, rfl, rfl, fun _ => ⟨c, q, hc, q1, q2, by rw [hme]⟩⟩
            | true => exact ⟨4, his', los', pm', pf', by omega, rfl, rfl, fun z => by omega⟩
        · exact ⟨2, his, los, pm, pf, by omega, by rw [if_neg (fun z => hl ((litC_iff hlt).mp z)), if_neg one0]; rfl, by rw [if_neg (fun z => hl ((litM_iff hlt).mp z)), if_neg one0]; rfl, fun z => by omega⟩
      · have hle : ¬ lg_cmp (lN (m % 32)) 23 ≤ 0 := by
          rw [Int32.not_le, lg_cmp_gt, show (23 : Int64) = lN 23 from rfl, pk_lLT (by omega) (by omega)]
          omega
        have hvq : vb (nI (m % 32)) 24 = false := by
          cases hv : vb (nI (m % 32)) 24 with
          | false => rfl
          | true =>
            obtain ⟨i, hi, hie⟩ := vb_of (by decide) hv
            have := (nI_eq (by omega) (by omega)).mp hie
            omega
        exact ⟨1, his, los, pm, pf, by omega, by rw [hvq, bI_0 rfl, if_pos rfl]; rfl, by rw [if_neg hle]; rfl, fun z => by omega⟩
    · have hdec : decide (m / 32 < t 0 0) = false := by simp [hc]
      refine ⟨1, his, los, pm, pf, by omega, by rw [if_pos (hge.mpr (by omega))]; rfl, by rw [hdec, bI_0 rfl, if_pos rfl]; rfl, fun z => by omega⟩
