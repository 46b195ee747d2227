def tqB (L L' : List Nat) (th q : Nat) : Bool := L.any (fun p => L'.any (fun p' => meetB p p' th && decide (p / 10000 = q)))
theorem p_q_in {F r s n th : Nat} {all pm pf : Nat → Int32} {k23 : Int32 → (Nat → Int32) → Option (Int32 × (Nat → Int32))} {i p : Nat} (h3 : all 3 = nI th) (hr : r < 132) (hs : s < 132) (hn : n ≤ 54) (hpm : pm s = nI n) (hi : i < 54) (hpi : pf (54 * r + i) = nI p) (hp : p < 480000) (hth : th ≤ 100) :
    ∀ (M : List Nat) (j fuel : Nat) (tc : Nat → Int32) (S : Nat → Bool), j + M.length = n → M.length < fuel → rowAt pf (54 * s + j) M → (∀ q ∈ M, q < 480000) → (∀ q, q < 48 → tc q = bI (S q)) → ∃ tc', fX10_quarters_L36 F all pm pf (nI r) (nI s) k23 fuel (nI i) (nI j) tc = k23 (nI (i + 1)) tc' ∧ ∀ q, q < 48 → tc' q = bI (S q || M.any (fun p' => meetB p p' th && decide (p / 10000 = q)))
  | [], j, fuel + 1, tc, S, h, _, _, _, hS => by
    have hj : j = n := h
    refine ⟨tc, ?_, fun q hq => by rw [hS q hq]; simp⟩
    rw [fX10_quarters_L36, vb_nI hs (by decide), og_s, nI_clamp (by omega), hpm, if_pos (nI_le (by omega) (by omega)), ol_s, nI_1]
  | p' :: M, j, fuel + 1, tc, S, h, hf, hR, hb, hS => by
    rw [List.length_cons] at h hf
    have hq := hb p' List.mem_cons_self
    have e3 : all (3 : Int32).toNatClampNeg = nI th := h3
    have hR2 : rowAt pf (54 * s + (j + 1)) M := by have := hR.2; rw [Nat.add_assoc] at this; exact this
    have hb2 : ∀ q ∈ M, q < 480000 := fun x hx => hb x (List.mem_cons_of_mem p' hx)
    have start : fX10_quarters_L36 F all pm pf (nI r) (nI s) k23 (fuel + 1) (nI i) (nI j) tc = if bI (meetB p p' th) = 0 then (fX10_quarters_L88 F all pm pf (nI r) (nI s) k23 (fun x3 x4 v_touches => fX10_quarters_L36 F all pm pf (nI r) (nI s) k23 fuel x3 x4 v_touches) (nI i) (nI j) tc) else fX10_quarters_L88 F all pm pf (nI r) (nI s) k23 (fun x3 x4 v_touches => fX10_quarters_L36 F all pm pf (nI r) (nI s) k23 fuel x3 x4 v_touches) (nI i) (nI j) (upd tc (p / 10000) 1) := by
      rw [fX10_quarters_L36, vb_nI hs (by decide), og_s, nI_clamp (by omega), hpm, if_neg (nI_ge (by omega) (by omega)), p_puffIn hr hi hpi, ob_s, p_puffIn hs (by omega) hR.1, ob_s, e3, p_meet (by omega) (by omega) hth, ob_s, ob_s, show (10000 : Int32) = nI 10000 from rfl, pk_div (by omega) (by decide) (by decide), vb_nI (by omega) (by decide), og_s, ol_s, nI_clamp (by omega)]
      rfl
    rw [start]
    unfold fX10_quarters_L88
    simp only [ol_s, nI_1]
    cases hm : meetB p p' th with
    | false =>
      obtain ⟨tc', f1, f2⟩ := p_q_in (F := F) (k23 := k23) h3 hr hs hn hpm hi hpi hp hth M (j + 1) fuel tc S (by omega) (by omega) hR2 hb2 hS
      refine ⟨tc', by rw [bI_0 rfl, if_pos rfl]; exact f1, fun q hq => ?_⟩
      rw [f2 q hq, List.any_cons, hm, Bool.false_and, Bool.false_or]
    | true =>
      obtain ⟨tc', f1, f2⟩ := p_q_in (F := F) (k23 := k23) h3 hr hs hn hpm hi hpi hp hth M (j + 1) fuel (upd tc (p / 10000) 1) (fun q => S q || decide (p / 10000 = q)) (by omega) (by omega) hR2 hb2 (fun q hq => by
        by_cases e : q = p / 10000
        · subst e; rw [pk_us]; simp [bI]
        · rw [pk_un e, hS q hq]
          have : ¬ p / 10000 = q := fun z => e z.symm
          simp [this])
      refine ⟨tc', by rw [bI_1 rfl, if_neg one0]; exact f1, fun q hq => ?_⟩
      rw [f2 q hq, List.any_cons, hm, Bool.true_and, Bool.or_assoc]
  | M, j, 0, tc, S, _, hf, _, _, _ => absurd hf (Nat.not_lt_zero _)
theorem p_q_cnt {F : Nat} {a1 a2 : Int32} {all pm pf tc : Nat → Int32} {S : Nat → Bool} (hS : ∀ q, q < 48 → tc q = bI (S q)) : ∀ (k i fuel n : Nat), i + k = 48 → k < fuel → fX10_quarters_L105 F all pm pf a1 a2 fuel (nI n) (nI i) tc = some (nI (n + sumR (fun q => if S q then 1 else 0) i k), tc)
  | 0, i, fuel + 1, n, h, _ => by
    rw [fX10_quarters_L105, show i = 48 by omega, if_pos (show (48 : Int32) ≤ nI 48 from nI_le (Nat.le_refl 48) (by decide))]; rfl
  | k + 1, i, fuel + 1, n, h, hf => by
    rw [fX10_quarters_L105, if_neg (show ¬ (48 : Int32) ≤ nI i from nI_ge (a := i) (b := 48) (by omega) (by decide)), vb_nI (by omega) (by decide), og_s, nI_clamp (by omega), hS i (by omega)]
    unfold fX10_quarters_L128
    simp only [ol_s, nI_1]
    rw [sumR_s]
    cases hs : S i with
    | false =>
      rw [bI_0 rfl, if_pos rfl, show nI n + 0 = nI n from nI_add n 0, p_q_cnt hS k (i + 1) fuel n (by omega) (by omega)]
      simp
    | true =>
      rw [bI_1 rfl, if_neg one0, p_q_cnt hS k (i + 1) fuel (n + 1) (by omega) (by omega)]
      simp only [if_true]
      rw [Nat.add_assoc]
  | k, i, 0, n, _, hf => absurd hf (Nat.not_lt_zero k)
theorem p_q_out {F r s n th : Nat} {all pm pf : Nat → Int32} {L' : List Nat} (h3 : all 3 = nI th) (hr : r < 132) (hs : s < 132) (hn : n ≤ 54) (hpm : pm r = nI n) (h' : frow pm pf s L') (hb' : bdL L') (hth : th ≤ 100) (hF : 54 < F) :
    ∀ (M : List Nat) (i fuel : Nat) (tc : Nat → Int32) (S : Nat → Bool), i + M.length = n → M.length < fuel → rowAt pf (54 * r + i) M → (∀ q ∈ M, q < 480000) → (∀ q, q < 48 → tc q = bI (S q)) → ∃ tc', fX10_quarters_L23 F all pm pf (nI r) (nI s) fuel (nI i) tc = some (nI (sumR (fun q => if (S q || tqB M L' th q) then 1 else 0) 0 48), tc') ∧ ∀ q, q < 48 → tc' q = bI (S q || tqB M L' th q)
  | [], i, fuel + 1, tc, S, h, _, _, _, hS => by
    have hj : i = n := h
    have hS2 : ∀ q, q < 48 → tc q = bI (S q || tqB [] L' th q) := fun q hq => by rw [hS q hq]; simp [tqB]
    refine ⟨tc, ?_, hS2⟩
    have hc := p_q_cnt (F := F) (a1 := nI r) (a2 := nI s) (all := all) (pm := pm) (pf := pf) hS2 48 0 F 0 (by omega) (by omega)
    rw [fX10_quarters_L23, vb_nI hr (by decide), og_s, nI_clamp (by omega), hpm, if_pos (nI_le (by omega) (by omega)), show (0 : Int32) = nI 0 from rfl, hc, Nat.zero_add]
  | p :: M, i, fuel + 1, tc, S, h, hf, hR, hb, hS => by
    rw [List.length_cons] at h hf
    have hp := hb p List.mem_cons_self
    obtain ⟨tc1, e1, e2⟩ := p_q_in (F := F) (k23 := fun x3 v_touches => fX10_quarters_L23 F all pm pf (nI r) (nI s) fuel x3 v_touches) h3 hr hs hb'.1 h'.1 (show i < 54 by omega) hR.1 hp hth L' 0 F tc S (by omega) (by have := hb'.1; omega) h'.2 hb'.2 hS
    obtain ⟨tc', f1, f2⟩ := p_q_out (F := F) h3 hr hs hn hpm h' hb' hth hF M (i + 1) fuel tc1 _ (by omega) (by omega) (by have := hR.2; rw [Nat.add_assoc] at this; exact this) (fun x hx => hb x (List.mem_cons_of_mem p hx)) e2
    have hc : ∀ q, (S q || tqB (p :: M) L' th q) = (S q || L'.any (fun p' => meetB p p' th && decide (p / 10000 = q)) || tqB M L' th q) := fun q => by
      unfold tqB
      rw [List.any_cons, Bool.or_assoc]
    refine ⟨tc', ?_, fun q hq => by rw [f2 q hq, hc]⟩
    rw [fX10_quarters_L23, vb_nI hr (by decide), og_s, nI_clamp (by omega), hpm, if_neg (nI_ge (by omega) (by omega)), show (0 : Int32) = nI 0 from rfl]
    simp only [hc]
    exact e1.trans f1
  | M, i, 0, tc, S, _, hf, _, _, _ => absurd hf (Nat.not_lt_zero _)
theorem p_q_clr {F : Nat} {a1 a2 : Int32} {all pm pf : Nat → Int32} : ∀ (k i fuel : Nat) (tc : Nat → Int32), i + k = 48 → k < fuel → (∀ q, q < i → tc q = 0) → ∃ tc', fX10_quarters_L2 F all pm pf a1 a2 fuel (nI i) tc = fX10_quarters_L23 F all pm pf a1 a2 F 0 tc' ∧ ∀ q, q < 48 → tc' q = 0
  | 0, i, fuel + 1, tc, h, _, h0 => by
    refine ⟨tc, ?_, fun q hq => h0 q (by omega)⟩
    rw [fX10_quarters_L2, show i = 48 by omega, if_pos (show (48 : Int32) ≤ nI 48 from nI_le (Nat.le_refl 48) (by decide))]
  | k + 1, i, fuel + 1, tc, h, hf, h0 => by
    obtain ⟨tc', e1, e2⟩ := p_q_clr (F := F) (a1 := a1) (a2 := a2) (all := all) (pm := pm) (pf := pf) k (i + 1) fuel (upd tc i (vp_nar .boolean (0 : Int32))) (by omega) (by omega) (fun q hq => by
      by_cases e : q = i
      · subst e; rw [pk_us]; rfl
      · rw [pk_un e]; exact h0 q (by omega))
    refine ⟨tc', ?_, e2⟩
    rw [fX10_quarters_L2, if_neg (show ¬ (48 : Int32) ≤ nI i from nI_ge (a := i) (b := 48) (by omega) (by decide)), vb_nI (by omega) (by decide), og_s, ol_s, ol_s, nI_1, nI_clamp (by omega)]
    exact e1
  | k, i, 0, tc, _, hf, _ => absurd hf (Nat.not_lt_zero k)
theorem p_quarters {F r s th : Nat} {all pm pf tc : Nat → Int32} {L L' : List Nat} (h3 : all 3 = nI th) (hr : r < 132) (hs : s < 132) (h : frow pm pf r L) (h' : frow pm pf s L') (hb : bdL L) (hb' : bdL L') (hth : th ≤ 100) (hF : 54 < F) :
    ∃ tc', fX10_quarters F all pm pf tc (nI r) (nI s) = some (nI (sumR (fun q => if tqB L L' th q then 1 else 0) 0 48), tc') ∧ ∀ q, q < 48 → tc' q = bI (tqB L L' th q) := by
  obtain ⟨tc1, e1, e2⟩ := p_q_clr (F := F) (a1 := nI r) (a2 := nI s) (all := all) (pm := pm) (pf := pf) 48 0 F tc (by omega) (by omega) (fun q hq => by omega)
  obtain ⟨tc', f1, f2⟩ := p_q_out (F := F) h3 hr hs hb.1 h.1 h' hb' hth hF L 0 F tc1 (fun _ => false) (by omega) (by have := hb.1; omega) h.2 hb.2 (fun q hq => by rw [e2 q hq]; rfl)
  refine ⟨tc', ?_, fun q hq => by rw [f2 q hq, Bool.false_or]⟩
  unfold fX10_quarters
  simp only [Bool.false_or] at f1
  exact e1.trans f1
def fstR (p : Nat → Bool) : Nat → Nat → Option Nat
  | _, 0 => none
  | i, k + 1 => if p i then some i else fstR p (i + 1) k
theorem fstR_s (p : Nat → Bool) (i k : Nat) : fstR p i (k + 1) = if p i then some i else fstR p (i + 1) k := rfl
theorem fstR_congr {f g : Nat → Bool} : ∀ (k i : Nat), (∀ j, i ≤ j → j < i + k → f j = g j) → fstR f i k = fstR g i k
  | 0, _, _ => rfl
  | k + 1, i, h => by
    rw [fstR_s, fstR_s, h i (Nat.le_refl i) (by omega), fstR_congr k (i + 1) (fun j h1 h2 => h j (by omega) (by omega))]
theorem p_firstTouch_L {F : Nat} {tc : Nat → Int32} {S : Nat → Bool} (hS : ∀ q, q < 48 → tc q = bI (S q)) : ∀ (k i fuel : Nat), i + k = 48 → k < fuel → fX10_firstTouch_L2 F tc fuel (nI i) = some (encW (fstR S i k))
  | 0, i, fuel + 1, h, _ => by
    rw [fX10_firstTouch_L2, show i = 48 by omega, if_pos (show (48 : Int32) ≤ nI 48 from nI_le (Nat.le_refl 48) (by decide))]; rfl
  | k + 1, i, fuel + 1, h, hf => by
    rw [fX10_firstTouch_L2, if_neg (show ¬ (48 : Int32) ≤ nI i from nI_ge (a := i) (b := 48) (by omega) (by decide)), vb_nI (by omega) (by decide), og_s, nI_clamp (by omega), hS i (by omega), fstR_s]
    cases hs : S i with
    | false => rw [bI_0 rfl, if_pos rfl, ol_s, nI_1]; exact p_firstTouch_L hS k (i + 1) fuel (by omega) (by omega)
    | true => rw [bI_1 rfl, if_neg one0]; rfl
  | k, i, 0, _, hf => absurd hf (Nat.not_lt_zero k)
theorem p_firstTouch {F : Nat} {tc : Nat → Int32} {S : Nat → Bool} (hS : ∀ q, q < 48 → tc q = bI (S q)) (hF : 48 < F) : fX10_firstTouch F tc = some (encW (fstR S 0 48)) := p_firstTouch_L hS 48 0 F (by omega) hF
