/-! who touches whom, both sides -/
theorem touB_nil {L : List Nat} {th : Nat} : touB L [] th = false := by
  unfold touB
  simp
theorem p_touchesLit_L {F r b th : Nat} {t : Nat → Nat → Nat} {Wd : Nat → Nat → Nat} {all pm pf : Nat → Int32} {L : List Nat} (ht : Tok t) (hM : tM t all 0) (hR : ∀ c, c < t 0 0 → frow pm pf c (lfL t Wd c)) (hr : r < 132) (hL : frow pm pf r L) (hb : bdL L) (hbn : b < 2 ^ 20) (hth : th ≤ 100) (hF : 60 < F) :
    ∀ (k c fuel : Nat), c + k = t 0 0 → k < fuel → fX10_touchesLit_L3 F all pm pf (nI r) (nI b) (nI th) fuel (nI c) = some (bI (anyR (fun c => decide (c ≠ b) && touB L (lfL t Wd c) th) c k))
  | 0, c, fuel + 1, h, _ => by
    have hn := ht.1
    have e : all (0 : Int32).toNatClampNeg = nI (t 0 0) := hM.1 0 (by decide)
    rw [fX10_touchesLit_L3, e, show c = t 0 0 by omega, if_pos (nI_le (Nat.le_refl _) (by omega))]; rfl
  | k + 1, c, fuel + 1, h, hf => by
    have hn := ht.1
    have hc : c < t 0 0 := by omega
    have e : all (0 : Int32).toNatClampNeg = nI (t 0 0) := hM.1 0 (by decide)
    have ih := p_touchesLit_L (F := F) ht hM hR hr hL hb hbn hth hF k (c + 1) fuel (by omega) (by omega)
    have m1 := (hM.2.1 c hc).2.2.2.2.2.1
    rw [Nat.zero_add] at m1
    have l1 := ht.lit hc
    rw [fX10_touchesLit_L3, e, if_neg (nI_ge hc (by omega)), anyR_s]
    unfold fX10_touchesLit_L42
    simp only [ol_s, nI_1]
    by_cases e1 : c = b
    · rw [if_pos (by rw [e1]), ih]; simp [e1]
    · rw [if_neg (nI_ne (by omega) (by omega) e1), p_mLit (by omega), ob_s, m1]
      have hd : decide (c ≠ b) = true := by simp [e1]
      rw [hd, Bool.true_and]
      by_cases h1 : t 11 c = 0
      · rw [if_pos ((litM_iff l1).mpr h1), if_pos rfl, ih, lfL_un h1, touB_nil, Bool.false_or]
      · rw [if_neg (fun z => h1 ((litM_iff l1).mp z)), if_neg one0, p_areTouching hr (by omega) hL (hR c hc) hb (lfL_bd ht hc) hth (by omega), ob_s]
        cases hto : touB L (lfL t Wd c) th with
        | false => rw [bI_0 rfl, if_pos rfl, ih, Bool.false_or]
        | true => rw [bI_1 rfl, if_neg one0, Bool.true_or]; rfl
  | k, c, 0, _, hf => absurd hf (Nat.not_lt_zero k)
theorem p_touchesLit {F r b th : Nat} {t : Nat → Nat → Nat} {Wd : Nat → Nat → Nat} {all pm pf : Nat → Int32} {L : List Nat} (ht : Tok t) (hM : tM t all 0) (hR : ∀ c, c < t 0 0 → frow pm pf c (lfL t Wd c)) (hr : r < 132) (hL : frow pm pf r L) (hb : bdL L) (hbn : b < 2 ^ 20) (hth : th ≤ 100) (hF : 60 < F) : fX10_touchesLit F all pm pf (nI r) (nI b) (nI th) = some (bI (anyR (fun c => decide (c ≠ b) && touB L (lfL t Wd c) th) 0 (t 0 0))) := by
  have hn := ht.1
  exact p_touchesLit_L ht hM hR hr hL hb hbn hth hF (t 0 0) 0 F (by omega) (by omega)
/-- some two touch at thickness th -/
def anyT (t : Nat → Nat → Nat) (Wd : Nat → Nat → Nat) (th c k : Nat) : Bool := anyR (fun c => anyR (fun d => decide (d ≠ c) && touL t Wd th c d) 0 (t 0 0)) c k
theorem p_anyTouch_L {F th : Nat} {t : Nat → Nat → Nat} {Wd : Nat → Nat → Nat} {all pm pf : Nat → Int32} (ht : Tok t) (hM : tM t all 0) (hR : ∀ c, c < t 0 0 → frow pm pf c (lfL t Wd c)) (hth : th ≤ 100) (hF : 60 < F) :
    ∀ (k c fuel : Nat), c + k = t 0 0 → k < fuel → fX10_anyTouch_L2 F all pm pf (nI th) fuel (nI c) = some (bI (anyT t Wd th c k))
  | 0, c, fuel + 1, h, _ => by
    have hn := ht.1
    have e : all (0 : Int32).toNatClampNeg = nI (t 0 0) := hM.1 0 (by decide)
    rw [fX10_anyTouch_L2, e, show c = t 0 0 by omega, if_pos (nI_le (Nat.le_refl _) (by omega))]; rfl
  | k + 1, c, fuel + 1, h, hf => by
    have hn := ht.1
    have hc : c < t 0 0 := by omega
    have e : all (0 : Int32).toNatClampNeg = nI (t 0 0) := hM.1 0 (by decide)
    have ih := p_anyTouch_L (F := F) ht hM hR hth hF k (c + 1) fuel (by omega) (by omega)
    have m1 := (hM.2.1 c hc).2.2.2.2.2.1
    rw [Nat.zero_add] at m1
    have l1 := ht.lit hc
    have hs : anyT t Wd th c (k + 1) = (anyR (fun d => decide (d ≠ c) && touL t Wd th c d) 0 (t 0 0) || anyT t Wd th (c + 1) k) := rfl
    rw [fX10_anyTouch_L2, e, if_neg (nI_ge hc (by omega)), hs]
    unfold fX10_anyTouch_L32
    simp only [ol_s, nI_1]
    rw [p_mLit (by omega), ob_s, m1]
    by_cases h1 : t 11 c = 0
    · have hz : anyR (fun d => decide (d ≠ c) && touL t Wd th c d) 0 (t 0 0) = false := by
        cases hb : anyR (fun d => decide (d ≠ c) && touL t Wd th c d) 0 (t 0 0) with
        | false => rfl
        | true =>
          obtain ⟨j, -, -, hj⟩ := (anyR_iff _ _).mp hb
          unfold touL at hj
          rw [lfL_un h1] at hj
          simp [touB] at hj
      rw [if_pos ((litM_iff l1).mpr h1), if_pos rfl, ih, hz, Bool.false_or]
    · rw [if_neg (fun z => h1 ((litM_iff l1).mp z)), if_neg one0, p_touchesLit ht hM hR (by omega) (hR c hc) (lfL_bd ht hc) (by omega) hth hF, ob_s]
      have hsame : anyR (fun d => decide (d ≠ c) && touB (lfL t Wd c) (lfL t Wd d) th) 0 (t 0 0) = anyR (fun d => decide (d ≠ c) && touL t Wd th c d) 0 (t 0 0) := rfl
      rw [hsame]
      cases hto : anyR (fun d => decide (d ≠ c) && touL t Wd th c d) 0 (t 0 0) with
      | false => rw [bI_0 rfl, if_pos rfl, ih, Bool.false_or]
      | true => rw [bI_1 rfl, if_neg one0, Bool.true_or]; rfl
  | k, c, 0, _, hf => absurd hf (Nat.not_lt_zero k)
theorem p_anyTouch {F th : Nat} {t : Nat → Nat → Nat} {Wd : Nat → Nat → Nat} {all pm pf : Nat → Int32} (ht : Tok t) (hM : tM t all 0) (hR : ∀ c, c < t 0 0 → frow pm pf c (lfL t Wd c)) (hth : th ≤ 100) (hF : 60 < F) : fX10_anyTouch F all pm pf (nI th) = some (bI (anyT t Wd th 0 (t 0 0))) := by
  have hn := ht.1
  exact p_anyTouch_L ht hM hR hth hF (t 0 0) 0 F (by omega) (by omega)
theorem touL_symm {t : Nat → Nat → Nat} {Wd : Nat → Nat → Nat} {th c d : Nat} (ht : Tok t) (hc : c < t 0 0) (hd : d < t 0 0) (hth : 1 ≤ th) (h : touL t Wd th c d = true) : touL t Wd th d c = true := by
  unfold touL at h ⊢
  by_cases h1 : t 11 c = 0
  · rw [lfL_un h1] at h; simp [touB] at h
  · by_cases h2 : t 11 d = 0
    · rw [lfL_un h2, touB_nil] at h; cases h
    · rw [lfL_lit h1, lfL_lit h2] at h
      rw [lfL_lit h1, lfL_lit h2]
      obtain ⟨q, hq⟩ := (touB_iff ht hc hd (by omega) (by omega) hth).mp h
      exact (touB_iff ht hd hc (by omega) (by omega) hth).mpr ⟨q, tch_symm hq⟩
/-- how close two chimneys' puffs come: the greatest thickness at which they touch -/
theorem p_closeU {F : Nat} {t : Nat → Nat → Nat} {Wd : Nat → Nat → Nat} {up : Nat → Nat} {hs v lit sc sm : Nat → Int32} {c d : Nat} (ht : Tok t) (H : liOk t Wd (fun c => t 7 c + up c) hs v lit sc sm) (hu : ∀ c, up c ≤ 12) (hc : c < t 0 0) (hd : d < t 0 0) (hF : 60 < F) : ∃ x, x ≤ 9 ∧ fX4_closeness F hs (nI (t 0 0)) v lit sc sm (nI c) (nI d) = some (nI x) ∧ ∀ th, 1 ≤ th → (th ≤ x ↔ (t 11 c ≠ 0 ∧ t 11 d ≠ 0 ∧ touB (fireL t Wd (up c) c (t 11 c - 1)) (fireL t Wd (up d) d (t 11 d - 1)) th = true)) := by
  by_cases lc : t 11 c = 0
  · exact ⟨0, by omega, p_close_un ht.1 hc hd (Or.inl (by rw [(H c hc).2.1, lc]; rfl)), fun th hth => ⟨fun h => by omega, fun h => absurd lc h.1⟩⟩
  · by_cases ld : t 11 d = 0
    · exact ⟨0, by omega, p_close_un ht.1 hc hd (Or.inr (by rw [(H d hd).2.1, ld]; rfl)), fun th hth => ⟨fun h => by omega, fun h => absurd ld h.2.1⟩⟩
    · obtain ⟨x, x9, e1, e2⟩ := p_closeness (F := F) (two_of ht H hc hd lc ld) hF
      refine ⟨x, x9, e1, fun th hth => (e2 th hth).trans ?_⟩
      rw [touB_iff ht hc hd (hu c) (hu d) hth]
      exact ⟨fun h => ⟨lc, ld, h⟩, fun h => h.2.2⟩
theorem p_close {F : Nat} {t : Nat → Nat → Nat} {Wd : Nat → Nat → Nat} {hs v lit sc sm : Nat → Int32} {c d : Nat} (ht : Tok t) (H : liOk t Wd (t 7) hs v lit sc sm) (hc : c < t 0 0) (hd : d < t 0 0) (hF : 60 < F) : ∃ x, x ≤ 9 ∧ fX4_closeness F hs (nI (t 0 0)) v lit sc sm (nI c) (nI d) = some (nI x) ∧ ∀ th, 1 ≤ th → (th ≤ x ↔ touL t Wd th c d = true) := by
  obtain ⟨x, x9, e1, e2⟩ := p_closeU (F := F) (up := fun _ => 0) ht H (fun _ => by omega) hc hd hF
  refine ⟨x, x9, e1, fun th hth => (e2 th hth).trans ?_⟩
  unfold touL
  by_cases lc : t 11 c = 0
  · rw [lfL_un lc]; exact ⟨fun h => absurd lc h.1, fun h => by simp [touB] at h⟩
  · by_cases ld : t 11 d = 0
    · rw [lfL_un ld, touB_nil]; exact ⟨fun h => absurd ld h.2.1, fun h => by cases h⟩
    · rw [lfL_lit lc, lfL_lit ld]
      exact ⟨fun h => h.2.2, fun h => ⟨lc, ld, h⟩⟩
/-- some two touch, each pair looked at once -/
def anyP (t : Nat → Nat → Nat) (Wd : Nat → Nat → Nat) (th c k : Nat) : Bool := anyR (fun c => anyR (fun d => touL t Wd th c d) (c + 1) (t 0 0 - 1 - c)) c k
theorem anyP_T {t : Nat → Nat → Nat} {Wd : Nat → Nat → Nat} {th : Nat} (ht : Tok t) (hth : 1 ≤ th) : anyP t Wd th 0 (t 0 0) = anyT t Wd th 0 (t 0 0) := by
  rw [Bool.eq_iff_iff]
  unfold anyP anyT
  rw [anyR_iff, anyR_iff]
  constructor
  · rintro ⟨c, -, h2, h3⟩
    obtain ⟨d, h4, h5, h6⟩ := (anyR_iff _ _).mp h3
    refine ⟨c, by omega, h2, (anyR_iff _ _).mpr ⟨d, by omega, by omega, ?_⟩⟩
    have : decide (d ≠ c) = true := by simp; omega
    show (decide (d ≠ c) && touL t Wd th c d) = true
    rw [this, h6]; rfl
  · rintro ⟨c, -, h2, h3⟩
    obtain ⟨d, h4, h5, h6⟩ := (anyR_iff _ _).mp h3
    have h7 : d ≠ c ∧ touL t Wd th c d = true := by simpa using h6
    by_cases hcd : c < d
    · exact ⟨c, by omega, h2, (anyR_iff _ _).mpr ⟨d, by omega, by omega, h7.2⟩⟩
    · exact ⟨d, by omega, by omega, (anyR_iff _ _).mpr ⟨c, by omega, by omega, touL_symm ht (by omega) (by omega) hth h7.2⟩⟩
