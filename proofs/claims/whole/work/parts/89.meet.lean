/-! touching by lists -/
def meetB (p p' th : Nat) : Bool := decide (p / 10 = p' / 10) && (decide (th ≤ p % 10) && decide (th ≤ p' % 10))
theorem p_meet {F p p' th : Nat} (hp : p < 2 ^ 30) (hp' : p' < 2 ^ 30) (hth : th ≤ 100) : fX10_meet F (nI p) (nI p') (nI th) = some (bI (meetB p p' th)) := by
  unfold fX10_meet
  rw [show (10 : Int32) = nI 10 from rfl, pk_rem (by omega) (by decide) (by decide), pk_rem (by omega) (by decide) (by decide), pk_div (by omega) (by decide) (by decide), pk_div (by omega) (by decide) (by decide)]
  by_cases h1 : p / 10 = p' / 10
  · rw [if_pos (by rw [h1])]
    by_cases h2 : th ≤ p % 10
    · rw [if_neg (nI_nlt h2 (by omega))]
      by_cases h3 : th ≤ p' % 10
      · rw [if_neg (nI_nlt h3 (by omega))]; simp [meetB, h1, h2, h3, bI]
      · rw [if_pos (nI_lt (by omega) (by omega))]; simp [meetB, h3, bI]
    · rw [if_pos (nI_lt (by omega) (by omega))]; simp [meetB, h2, bI]
  · rw [if_neg (nI_ne (by omega) (by omega) h1)]; simp [meetB, h1, bI]
theorem p_puffIn {F r i a : Nat} {pf : Nat → Int32} (hr : r < 132) (hi : i < 54) (h : pf (54 * r + i) = nI a) : fX10_puffIn F pf (nI r) (nI i) = some (nI a) := by
  have ix : (54 : Int32) * nI r + nI i = nI (54 * r + i) := by
    rw [show (54 : Int32) = nI 54 from rfl, pk_mul, nI_add]
  unfold fX10_puffIn
  rw [ix, vb_nI (by omega) (by decide), og_s, nI_clamp (by omega), h]
def bdL (L : List Nat) : Prop := L.length ≤ 54 ∧ ∀ p ∈ L, p < 480000
theorem p_aT_in {F r s n : Nat} {th : Nat} {pm pf : Nat → Int32} {k3 : Int32 → Option Int32} {i p : Nat} (hr : r < 132) (hs : s < 132) (hn : n ≤ 54) (hpm : pm s = nI n) (hi : i < 54) (hpi : pf (54 * r + i) = nI p) (hp : p < 480000) (hth : th ≤ 100) :
    ∀ (M : List Nat) (j fuel : Nat), j + M.length = n → M.length < fuel → rowAt pf (54 * s + j) M → (∀ q ∈ M, q < 480000) → fX10_areTouching_L17 F pm pf (nI r) (nI s) (nI th) k3 fuel (nI i) (nI j) = if M.any (fun q => meetB p q th) then some 1 else k3 (nI (i + 1))
  | [], j, fuel + 1, h, _, _, _ => by
    have hj : j = n := h
    rw [fX10_areTouching_L17, vb_nI hs (by decide), og_s, nI_clamp (by omega), hpm, if_pos (nI_le (by omega) (by omega)), ol_s, nI_1]
    rfl
  | q :: M, j, fuel + 1, h, hf, hR, hb => by
    rw [List.length_cons] at h hf
    have hq := hb q List.mem_cons_self
    have ih := p_aT_in (F := F) (k3 := k3) hr hs hn hpm hi hpi hp hth M (j + 1) fuel (by omega) (by omega) (by have := hR.2; rw [Nat.add_assoc] at this; exact this) (fun x hx => hb x (List.mem_cons_of_mem q hx))
    rw [fX10_areTouching_L17, vb_nI hs (by decide), og_s, nI_clamp (by omega), hpm, if_neg (nI_ge (by omega) (by omega)), p_puffIn hr hi hpi, ob_s, p_puffIn hs (by omega) hR.1, ob_s, p_meet (by omega) (by omega) hth, ob_s, List.any_cons]
    cases hm : meetB p q th with
    | true => rw [bI_1 rfl, if_neg one0]; simp
    | false => rw [bI_0 rfl, if_pos rfl, ol_s, nI_1, Bool.false_or]; exact ih
  | M, j, 0, _, hf, _, _ => absurd hf (Nat.not_lt_zero _)
theorem p_aT_out {F r s th : Nat} {pm pf : Nat → Int32} {L' : List Nat} {n : Nat} (hr : r < 132) (hs : s < 132) (hn : n ≤ 54) (hpm : pm r = nI n) (h' : frow pm pf s L') (hb' : bdL L') (hth : th ≤ 100) (hF : 54 < F) :
    ∀ (M : List Nat) (i fuel : Nat), i + M.length = n → M.length < fuel → rowAt pf (54 * r + i) M → (∀ q ∈ M, q < 480000) → fX10_areTouching_L3 F pm pf (nI r) (nI s) (nI th) fuel (nI i) = some (bI (M.any (fun p => L'.any (fun q => meetB p q th))))
  | [], i, fuel + 1, h, _, _, _ => by
    have hj : i = n := h
    rw [fX10_areTouching_L3, vb_nI hr (by decide), og_s, nI_clamp (by omega), hpm, if_pos (nI_le (by omega) (by omega))]
    rfl
  | p :: M, i, fuel + 1, h, hf, hR, hb => by
    rw [List.length_cons] at h hf
    have hp := hb p List.mem_cons_self
    have ih := p_aT_out (F := F) hr hs hn hpm h' hb' hth hF M (i + 1) fuel (by omega) (by omega) (by have := hR.2; rw [Nat.add_assoc] at this; exact this) (fun x hx => hb x (List.mem_cons_of_mem p hx))
    have hin := p_aT_in (F := F) (k3 := fun x4 => fX10_areTouching_L3 F pm pf (nI r) (nI s) (nI th) fuel x4) hr hs hb'.1 h'.1 (show i < 54 by omega) hR.1 hp hth L' 0 F (by omega) (by have := hb'.1; omega) h'.2 hb'.2
    rw [fX10_areTouching_L3, vb_nI hr (by decide), og_s, nI_clamp (by omega), hpm, if_neg (nI_ge (by omega) (by omega)), List.any_cons]
    refine hin.trans ?_
    cases hm : L'.any (fun q => meetB p q th) with
    | true => simp [bI]
    | false => rw [Bool.false_or]; exact ih
  | M, i, 0, _, hf, _, _ => absurd hf (Nat.not_lt_zero _)
def touB (L L' : List Nat) (th : Nat) : Bool := L.any (fun p => L'.any (fun q => meetB p q th))
theorem p_areTouching {F r s th : Nat} {pm pf : Nat → Int32} {L L' : List Nat} (hr : r < 132) (hs : s < 132) (h : frow pm pf r L) (h' : frow pm pf s L') (hb : bdL L) (hb' : bdL L') (hth : th ≤ 100) (hF : 54 < F) : fX10_areTouching F pm pf (nI r) (nI s) (nI th) = some (bI (touB L L' th)) := by
  unfold fX10_areTouching
  exact p_aT_out hr hs hb.1 h.1 h' hb' hth hF L 0 F (by omega) (by have := hb.1; omega) h.2 hb.2
