/-! bits of longs and ints as sets -/
def bsL (S : Int64) (P : Nat → Prop) : Prop := ∀ j, j < 64 → (S.toBitVec.getLsbD j = true ↔ P j)
theorem bsL_0 : bsL 0 (fun _ => False) := fun j _ => by
  constructor
  · intro h
    have : (0 : Int64).toBitVec = 0#64 := rfl
    rw [this] at h
    simp at h
  · exact False.elim
theorem bsL_or {S S' : Int64} {P P' : Nat → Prop} (h : bsL S P) (h' : bsL S' P') : bsL (S ||| S') (fun j => P j ∨ P' j) := fun j hj => by
  rw [Int64.toBitVec_or, BitVec.getLsbD_or, Bool.or_eq_true, h j hj, h' j hj]
theorem bsL_bit0 : ∀ q, q < 64 → ∀ j, j < 64 → (((1 : Int64) <<< ((nI q).toInt64 &&& 63)).toBitVec.getLsbD j = decide (j = q)) := by decide +kernel
theorem bsL_bit {q : Nat} (hq : q < 64) : bsL ((1 : Int64) <<< ((nI q).toInt64 &&& 63)) (fun j => j = q) := fun j hj => by
  rw [bsL_bit0 q hq j hj, decide_eq_true_eq]
theorem bsL_iff {S : Int64} {P Q : Nat → Prop} (h : bsL S P) (hPQ : ∀ j, j < 64 → (P j ↔ Q j)) : bsL S Q := fun j hj => (h j hj).trans (hPQ j hj)
theorem p_qt_L {F n c ly hc xc bc E : Nat} {Wd : Nat → Nat → Nat} {v : Nat → Int32} {a3 a4 : Int32} (hcn : c < n) (hn : n ≤ 10) (hbc : bc < 29) (hxc : xc < 40) (lc : laid v ly Wd hc xc c bc) (hE : E ≤ bc + 9) (h4 : ∀ q, q < 64 → (a4 < nI q ↔ E ≤ q)) :
    ∀ (k q fuel : Nat) (S : Int64) (Q : Nat → Prop), E ≤ q + k → bc ≤ q → q < 60 → k < fuel → bsL S Q → ∃ S', fX4_quartersTogether_L6 F (nI n) v (nI c) (nI bc) a3 a4 fuel S (nI q) = some S' ∧ bsL S' (fun j => Q j ∨ (q ≤ j ∧ j < E ∧ wq ly Wd hc xc bc j ≠ none))
  | k, q, fuel + 1, S, Q, h, hq, hq60, hf, hS => by
    rw [fX4_quartersTogether_L6]
    unfold fX4_quartersTogether_L40
    by_cases hEq : E ≤ q
    · refine ⟨S, by rw [if_pos ((h4 q (by omega)).mpr hEq)], bsL_iff hS (fun j _ => ?_)⟩
      constructor
      · exact Or.inl
      · rintro (z | ⟨z1, z2, -⟩)
        · exact z
        · omega
    · rw [if_neg (fun z => hEq ((h4 q (by omega)).mp z)), p_xOnWay hcn hn hbc hq (by omega), lc _ (by omega), ob_s]
      cases hA : wayX ly Wd hc xc bc (q - bc) with
      | none =>
        refine ⟨S, by rw [encW_n, if_pos rfl], bsL_iff hS (fun j _ => ?_)⟩
        constructor
        · exact Or.inl
        · rintro (z | ⟨z1, z2, z3⟩)
          · exact z
          · have := wayX_n_le hA (j - q)
            rw [show q - bc + (j - q) = j - bc by omega] at this
            exact absurd this z3
      | some x =>
        have hx40 := wayX_lt hxc _ hA
        cases k with
        | zero => omega
        | succ k =>
          obtain ⟨S', e1, e2⟩ := p_qt_L (F := F) (a3 := a3) hcn hn hbc hxc lc hE h4 k (q + 1) fuel _ _ (by omega) (by omega) (by omega) (by omega) (bsL_or hS (bsL_bit (q := q) (by omega)))
          refine ⟨S', by rw [encW_s, if_neg (nI_nm1 (by omega)), ol_s, ol_s, nI_1]; exact e1, bsL_iff e2 (fun j _ => ?_)⟩
          constructor
          · rintro ((z | z) | ⟨z1, z2, z3⟩)
            · exact Or.inl z
            · subst z
              exact Or.inr ⟨Nat.le_refl _, by omega, by show wayX ly Wd hc xc bc (j - bc) ≠ none; rw [hA]; simp⟩
            · exact Or.inr ⟨by omega, z2, z3⟩
          · rintro (z | ⟨z1, z2, z3⟩)
            · exact Or.inl (Or.inl z)
            · by_cases e : j = q
              · exact Or.inl (Or.inr e)
              · exact Or.inr ⟨by omega, z2, z3⟩
  | k, q, 0, S, Q, _, _, _, hf, _ => absurd hf (Nat.not_lt_zero k)
/-- the k-th puff of c and one of d, as in tch -/
def tchk (t : Nat → Nat → Nat) (Wd : Nat → Nat → Nat) (hc c lc hd d ld th k q : Nat) : Prop := ∃ l x, l < t 10 d ∧ lc + k ≤ q ∧ ld + l ≤ q ∧ wayX (t 2 0) Wd hc (t 6 c) (lc + k) (q - (lc + k)) = some x ∧ wayX (t 2 0) Wd hd (t 6 d) (ld + l) (q - (ld + l)) = some x ∧ hc + (q - (lc + k)) = hd + (q - (ld + l)) ∧ q + th ≤ lc + k + t 12 (6 * c + k) ∧ q + th ≤ ld + l + t 12 (6 * d + l)
theorem tch_k {t : Nat → Nat → Nat} {Wd : Nat → Nat → Nat} {hc c lc hd d ld th q : Nat} : tch t Wd hc c lc hd d ld th q ↔ ∃ k, k < t 10 c ∧ tchk t Wd hc c lc hd d ld th k q := by
  constructor
  · rintro ⟨k, l, x, h1, h2, h3⟩; exact ⟨k, h1, l, x, h2, h3⟩
  · rintro ⟨k, h1, l, x, h2, h3⟩; exact ⟨k, l, x, h1, h2, h3⟩
theorem sub3 (a b c : Nat) : nI a - nI b - nI c = nI a - nI (b + c) := by
  rw [← nI_add, Int32.sub_eq_add_neg, Int32.sub_eq_add_neg, Int32.sub_eq_add_neg, Int32.neg_add, Int32.add_assoc, Int32.sub_eq_add_neg]
/-- what the class holds of two lit chimneys -/
def two (t : Nat → Nat → Nat) (Wd : Nat → Nat → Nat) (hs v lit sc sm : Nat → Int32) (hc c lc hd d ld : Nat) : Prop := Tok t ∧ c < t 0 0 ∧ d < t 0 0 ∧ t 11 c = lc + 1 ∧ t 11 d = ld + 1 ∧ lit c = nI lc ∧ lit d = nI ld ∧ sc c = nI (t 10 c) ∧ sc d = nI (t 10 d) ∧ (∀ k, k < t 10 c → sm (6 * c + k) = nI (t 12 (6 * c + k))) ∧ (∀ k, k < t 10 d → sm (6 * d + k) = nI (t 12 (6 * d + k))) ∧ litOk t Wd hc hs v c ∧ litOk t Wd hd hs v d ∧ (hc ≤ 24 ∧ hd ≤ 24)
theorem two.ht {t : Nat → Nat → Nat} {Wd : Nat → Nat → Nat} {hs v lit sc sm : Nat → Int32} {hc c lc hd d ld : Nat} (T : two t Wd hs v lit sc sm hc c lc hd d ld) : Tok t := T.1
theorem two.hcn {t : Nat → Nat → Nat} {Wd : Nat → Nat → Nat} {hs v lit sc sm : Nat → Int32} {hc c lc hd d ld : Nat} (T : two t Wd hs v lit sc sm hc c lc hd d ld) : c < t 0 0 := T.2.1
theorem two.hdn {t : Nat → Nat → Nat} {Wd : Nat → Nat → Nat} {hs v lit sc sm : Nat → Int32} {hc c lc hd d ld : Nat} (T : two t Wd hs v lit sc sm hc c lc hd d ld) : d < t 0 0 := T.2.2.1
theorem two.qc {t : Nat → Nat → Nat} {Wd : Nat → Nat → Nat} {hs v lit sc sm : Nat → Int32} {hc c lc hd d ld : Nat} (T : two t Wd hs v lit sc sm hc c lc hd d ld) : t 11 c = lc + 1 := T.2.2.2.1
theorem two.qd {t : Nat → Nat → Nat} {Wd : Nat → Nat → Nat} {hs v lit sc sm : Nat → Int32} {hc c lc hd d ld : Nat} (T : two t Wd hs v lit sc sm hc c lc hd d ld) : t 11 d = ld + 1 := T.2.2.2.2.1
theorem two.litc {t : Nat → Nat → Nat} {Wd : Nat → Nat → Nat} {hs v lit sc sm : Nat → Int32} {hc c lc hd d ld : Nat} (T : two t Wd hs v lit sc sm hc c lc hd d ld) : lit c = nI lc := T.2.2.2.2.2.1
theorem two.litd {t : Nat → Nat → Nat} {Wd : Nat → Nat → Nat} {hs v lit sc sm : Nat → Int32} {hc c lc hd d ld : Nat} (T : two t Wd hs v lit sc sm hc c lc hd d ld) : lit d = nI ld := T.2.2.2.2.2.2.1
theorem two.scc {t : Nat → Nat → Nat} {Wd : Nat → Nat → Nat} {hs v lit sc sm : Nat → Int32} {hc c lc hd d ld : Nat} (T : two t Wd hs v lit sc sm hc c lc hd d ld) : sc c = nI (t 10 c) := T.2.2.2.2.2.2.2.1
theorem two.scd {t : Nat → Nat → Nat} {Wd : Nat → Nat → Nat} {hs v lit sc sm : Nat → Int32} {hc c lc hd d ld : Nat} (T : two t Wd hs v lit sc sm hc c lc hd d ld) : sc d = nI (t 10 d) := T.2.2.2.2.2.2.2.2.1
theorem two.smc {t : Nat → Nat → Nat} {Wd : Nat → Nat → Nat} {hs v lit sc sm : Nat → Int32} {hc c lc hd d ld : Nat} (T : two t Wd hs v lit sc sm hc c lc hd d ld) : (∀ k, k < t 10 c → sm (6 * c + k) = nI (t 12 (6 * c + k))) := T.2.2.2.2.2.2.2.2.2.1
theorem two.smd {t : Nat → Nat → Nat} {Wd : Nat → Nat → Nat} {hs v lit sc sm : Nat → Int32} {hc c lc hd d ld : Nat} (T : two t Wd hs v lit sc sm hc c lc hd d ld) : (∀ k, k < t 10 d → sm (6 * d + k) = nI (t 12 (6 * d + k))) := T.2.2.2.2.2.2.2.2.2.2.1
theorem two.okc {t : Nat → Nat → Nat} {Wd : Nat → Nat → Nat} {hs v lit sc sm : Nat → Int32} {hc c lc hd d ld : Nat} (T : two t Wd hs v lit sc sm hc c lc hd d ld) : litOk t Wd hc hs v c := T.2.2.2.2.2.2.2.2.2.2.2.1
theorem two.okd {t : Nat → Nat → Nat} {Wd : Nat → Nat → Nat} {hs v lit sc sm : Nat → Int32} {hc c lc hd d ld : Nat} (T : two t Wd hs v lit sc sm hc c lc hd d ld) : litOk t Wd hd hs v d := T.2.2.2.2.2.2.2.2.2.2.2.2.1
theorem two.h24 {t : Nat → Nat → Nat} {Wd : Nat → Nat → Nat} {hs v lit sc sm : Nat → Int32} {hc c lc hd d ld : Nat} (T : two t Wd hs v lit sc sm hc c lc hd d ld) : (hc ≤ 24 ∧ hd ≤ 24) := T.2.2.2.2.2.2.2.2.2.2.2.2.2
theorem p_level {F c d b hc hd : Nat} {hs : Nat → Int32} (hc10 : c < 10) (hd10 : d < 10) (h1 : hs c = nI hc) (h2 : hs d = nI hd) : fX4_levelBeginning F hs (nI c) (nI b) (nI d) = some (nI (b + hd) - nI hc) := by
  unfold fX4_levelBeginning
  rw [vb_nI hd10 (by decide), og_s, vb_nI hc10 (by decide), og_s, nI_clamp (by omega), nI_clamp (by omega), h1, h2, nI_add]
theorem p_mop {F k : Nat} {t : Nat → Nat → Nat} {Wd : Nat → Nat → Nat} {hs v lit sc sm : Nat → Int32} {hc c lc hd d ld : Nat} (T : two t Wd hs v lit sc sm hc c lc hd d ld) (hk : k < t 10 c) (hF : 9 < F) :
    ∃ m, fX4_meetingOfPuff F hs (nI (t 0 0)) v lit sc sm (nI c) (nI k) (nI d) = some (encW m) ∧ (∀ q, m = some q → ∃ l, l < t 10 d ∧ hc + ld + l = lc + k + hd ∧ lc + k ≤ q ∧ ld + l ≤ q ∧ q < lc + k + 9 ∧ q < ld + l + 9 ∧ ∃ x, wq (t 2 0) Wd hc (t 6 c) (lc + k) q = some x ∧ wq (t 2 0) Wd hd (t 6 d) (ld + l) q = some x) ∧ ∀ l q x, l < t 10 d → hc + ld + l = lc + k + hd → lc + k ≤ q → ld + l ≤ q → q < lc + k + 9 → q < ld + l + 9 → wq (t 2 0) Wd hc (t 6 c) (lc + k) q = some x → wq (t 2 0) Wd hd (t 6 d) (ld + l) q = some x → ∃ m0, m = some m0 ∧ m0 ≤ q := by
  have hn := T.ht.1
  have hcn := T.hcn
  have hdn := T.hdn
  have hqc := T.qc
  have hqd := T.qd
  have h24 := T.h24
  obtain ⟨g0, g1, g2, g3, g4, g5, -⟩ := T.ht.2.2.2.2.2.2.1 c T.hcn
  obtain ⟨f0, f1, f2, f3, f4, f5, f6⟩ := T.ht.2.2.2.2.2.2.1 d T.hdn
  have start : fX4_meetingOfPuff F hs (nI (t 0 0)) v lit sc sm (nI c) (nI k) (nI d) = ob (fX7_smokeOf F (nI (t 0 0)) sc sm (nI d) (nI (lc + k + hd) - nI (hc + ld))) (fun o_5 => if o_5 = 0 then (some (-1 : Int32)) else (ob (fX4_meeting F (nI (t 0 0)) v (nI c) (nI (lc + k)) (nI d) (nI (lc + k + hd) - nI hc)) (fun o_7 => some o_7))) := by
    unfold fX4_meetingOfPuff
    rw [vb_nI (show c < 10 by omega) (by decide), og_s, ol_s, nI_clamp (by omega), T.litc, nI_add, p_level (by omega) (by omega) T.okc.1 T.okd.1, ob_s, vb_nI (show d < 10 by omega) (by decide), og_s, nI_clamp (by omega), T.litd, sub3]
  rw [start]
  by_cases hlev : hc + ld ≤ lc + k + hd
  · rw [pk_sub hlev]
    by_cases hl : lc + k + hd - (hc + ld) < t 10 d
    · have hs0 := f6 _ hl
      rw [p_smokeOf_in T.ht T.hdn T.scd hl, ob_s, T.smd _ hl, if_neg (nI_ne0 (by omega) (by omega)), pk_sub (by omega), show lc + k + hd - hc = ld + (lc + k + hd - (hc + ld)) by omega]
      obtain ⟨m, e1, e2, e3⟩ := p_meeting (F := F) hcn hdn hn g0 f0 (show lc + k < 29 by omega) (show ld + (lc + k + hd - (hc + ld)) < 29 by omega) (T.okc.2 (lc + k) (by omega) (by omega)) (T.okd.2 (ld + (lc + k + hd - (hc + ld))) (by omega) (by omega)) hF
      refine ⟨m, by rw [e1, ob_s], fun q hq => ?_, fun l q x h1 h2 h3 h4 h5 h6 h7 h8 => ?_⟩
      · obtain ⟨a1, a2, a3, a4, a5⟩ := e2 q hq
        exact ⟨_, hl, by omega, a1, a2, a3, a4, a5⟩
      · have : l = lc + k + hd - (hc + ld) := by omega
        subst this
        exact e3 q x h3 h4 h5 h6 h7 h8
    · rw [p_smokeOf_out T.ht T.hdn T.scd (Or.inr (nI_le (by omega) (by omega))), ob_s, if_pos rfl]
      exact ⟨none, rfl, fun q hq => (by cases hq), fun l q x h1 h2 => by omega⟩
  · rw [p_smokeOf_out T.ht T.hdn T.scd (Or.inl (pk_sneg (by omega) (by omega))), ob_s, if_pos rfl]
    exact ⟨none, rfl, fun q hq => (by cases hq), fun l q x h1 h2 => by omega⟩
theorem p_parting {F k l : Nat} {t : Nat → Nat → Nat} {Wd : Nat → Nat → Nat} {hs v lit sc sm : Nat → Int32} {hc c lc hd d ld : Nat} (T : two t Wd hs v lit sc sm hc c lc hd d ld) (hk : k < t 10 c) (hl : l < t 10 d) (hlev : hc + ld + l = lc + k + hd) :
    fX4_partingOfPuff F hs (nI (t 0 0)) lit sc sm (nI c) (nI k) (nI d) = some (nI (min (lc + k + t 12 (6 * c + k)) (ld + l + t 12 (6 * d + l)))) := by
  have hn := T.ht.1
  have hcn := T.hcn
  have hdn := T.hdn
  have hqc := T.qc
  have hqd := T.qd
  have h24 := T.h24
  obtain ⟨g0, g1, g2, g3, g4, g5, g6⟩ := T.ht.2.2.2.2.2.2.1 c T.hcn
  obtain ⟨f0, f1, f2, f3, f4, f5, f6⟩ := T.ht.2.2.2.2.2.2.1 d T.hdn
  have s1 := g6 k hk
  have s2 := f6 l hl
  unfold fX4_partingOfPuff
  rw [vb_nI (show c < 10 by omega) (by decide), og_s, ol_s, nI_clamp (by omega), T.litc, nI_add, p_level (by omega) (by omega) T.okc.1 T.okd.1, ob_s, p_smokeOf_in T.ht T.hcn T.scc hk, ob_s, T.smc _ hk, vb_nI (show d < 10 by omega) (by decide), og_s, nI_clamp (by omega), T.litd, sub3, pk_sub (by omega), show lc + k + hd - (hc + ld) = l by omega, p_smokeOf_in T.ht T.hdn T.scd hl, ob_s, T.smd _ hl, pk_sub (by omega), show lc + k + hd - hc = ld + l by omega, nI_add, nI_add]
  by_cases h : ld + l + t 12 (6 * d + l) < lc + k + t 12 (6 * c + k)
  · rw [if_pos (nI_lt h (by omega)), Nat.min_eq_right (by omega)]
  · rw [if_neg (nI_nlt (by omega) (by omega)), Nat.min_eq_left (by omega)]
/-- a meeting tells when the k-th puff touches -/
theorem tchk_of {t : Nat → Nat → Nat} {Wd : Nat → Nat → Nat} {hc c lc hd d ld k l m0 th q : Nat} {m : Option Nat} (ht : Tok t) (hcn : c < t 0 0) (hdn : d < t 0 0) (hk : k < t 10 c) (hth : 1 ≤ th) (hl : l < t 10 d) (hlev : hc + ld + l = lc + k + hd) (hm : m = some m0) (h1 : lc + k ≤ m0) (h2 : ld + l ≤ m0) (h3 : ∃ x, wq (t 2 0) Wd hc (t 6 c) (lc + k) m0 = some x ∧ wq (t 2 0) Wd hd (t 6 d) (ld + l) m0 = some x) (hmin : ∀ q x, lc + k ≤ q → ld + l ≤ q → q < lc + k + 9 → q < ld + l + 9 → wq (t 2 0) Wd hc (t 6 c) (lc + k) q = some x → wq (t 2 0) Wd hd (t 6 d) (ld + l) q = some x → ∃ m0, m = some m0 ∧ m0 ≤ q) : tchk t Wd hc c lc hd d ld th k q ↔ m0 ≤ q ∧ q + th ≤ min (lc + k + t 12 (6 * c + k)) (ld + l + t 12 (6 * d + l)) ∧ wq (t 2 0) Wd hc (t 6 c) (lc + k) q ≠ none := by
  obtain ⟨-, -, -, -, -, -, g6⟩ := ht.2.2.2.2.2.2.1 c hcn
  obtain ⟨-, -, -, -, -, -, f6⟩ := ht.2.2.2.2.2.2.1 d hdn
  have s1 := g6 k hk
  have s2 := f6 l hl
  constructor
  · rintro ⟨l', x, a1, a2, a3, a4, a5, a6, a7, a8⟩
    have : l' = l := by omega
    subst this
    obtain ⟨m1, b1, b2⟩ := hmin q x a2 a3 (by omega) (by omega) a4 a5
    rw [hm] at b1
    cases b1
    refine ⟨b2, by omega, ?_⟩
    show wayX (t 2 0) Wd hc (t 6 c) (lc + k) (q - (lc + k)) ≠ none
    rw [a4]; simp
  · rintro ⟨a1, a2, a3⟩
    obtain ⟨x0, b1, b2⟩ := h3
    have one := as_one (ly := t 2 0) (Wd := Wd) (xc := t 6 c) (xd := t 6 d) (hc := hc) (hd := hd) h1 h2 (by omega) (by rw [b1, b2]) (q - m0)
    rw [show m0 + (q - m0) = q by omega] at one
    cases hx : wq (t 2 0) Wd hc (t 6 c) (lc + k) q with
    | none => exact absurd hx a3
    | some x =>
      rw [hx] at one
      exact ⟨l, x, hl, by omega, by omega, hx, one.symm, by omega, by omega, by omega⟩
