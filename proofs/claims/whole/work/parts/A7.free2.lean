theorem p_clash_L {F c d ld : Nat} {t : Nat → Nat → Nat} {Wd : Nat → Nat → Nat} {hs v lit sc sm fs ts : Nat → Int32} (ht : Tok t) (H : liOk t Wd (t 7) hs v lit sc sm) (hw : wayOk t Wd hs v c) (h2 : fs c = nI (t 8 c)) (h3 : ts c = nI (t 9 c)) (hc : c < t 0 0) (hd : d < t 0 0) (hld : t 11 d = ld + 1) (hF : 60 < F) :
    ∀ (k i fuel : Nat) (S : Int32) (P : Nat → Prop), i + k = t 10 d → k < fuel → bsI S P → ∃ S', fX4_clashesWithLit_L5 F hs (nI (t 0 0)) (nI (t 3 0)) v fs lit sc sm ts (nI c) (nI d) fuel S (nI i) = some S' ∧ bsI S' (fun j => P j ∨ ∃ l, i ≤ l ∧ l < t 10 d ∧ t 8 c ≤ j ∧ j ≤ t 9 c ∧ tchl t Wd (t 7 c) c j (t 7 d) d (ld + l) (ld + l + t 12 (6 * d + l)) (t 3 0))
  | 0, i, fuel + 1, S, P, h, _, hS => by
    have hn := ht.1
    obtain ⟨-, -, -, -, g4, -, -⟩ := ht.2.2.2.2.2.2.1 d hd
    refine ⟨S, ?_, bsI_iff hS (fun j _ => ⟨Or.inl, fun z => z.elim id (fun ⟨k, a, b, _⟩ => by omega)⟩)⟩
    rw [fX4_clashesWithLit_L5, vb_nI (show d < 10 by omega) (by decide), og_s, nI_clamp (by omega), (H d hd).2.2.1, if_pos (nI_le (by omega) (by omega))]
  | k + 1, i, fuel + 1, S, P, h, hf, hS => by
    have hn := ht.1
    have hth := ht.thick
    obtain ⟨q0, q1, q2, q3, q4, q5, q6⟩ := ht.2.2.2.2.2.2.1 c hc
    obtain ⟨g0, g1, g2, g3, g4, g5, g6⟩ := ht.2.2.2.2.2.2.1 d hd
    obtain ⟨a1, a2, a3, a4⟩ := H d hd
    have hl0 : t 11 d ≠ 0 := by omega
    have hi : i < t 10 d := by omega
    have s9 := g6 i hi
    have hlit : lit d = nI ld := by rw [a2, hld, nI_pred]
    have hsc := (H c hc).2.2.1
    have hsm := (H c hc).2.2.2
    obtain ⟨okd, oh⟩ := a1 hl0
    have start : fX4_clashesWithLit_L5 F hs (nI (t 0 0)) (nI (t 3 0)) v fs lit sc sm ts (nI c) (nI d) (fuel + 1) S (nI i) = ob (fX4_meeting F (nI (t 0 0)) v (nI c) (nI (ld + i + t 7 c) - nI (t 7 d)) (nI d) (nI (ld + i))) (fun o_7 => if o_7 = (-1 : Int32) then fX4_clashesWithLit_L5 F hs (nI (t 0 0)) (nI (t 3 0)) v fs lit sc sm ts (nI c) (nI d) fuel S (nI (i + 1)) else (ob (fX4_lightingsThatTouch F (nI (t 0 0)) (nI (t 3 0)) fs sc sm ts (nI c) (nI (ld + i + t 7 c) - nI (t 7 d)) o_7 (nI (ld + i + t 12 (6 * d + i)))) (fun o_10 => fX4_clashesWithLit_L5 F hs (nI (t 0 0)) (nI (t 3 0)) v fs lit sc sm ts (nI c) (nI d) fuel (S ||| o_10) (nI (i + 1))))) := by
      rw [fX4_clashesWithLit_L5, vb_nI (show d < 10 by omega) (by decide), og_s, nI_clamp (by omega), a3, if_neg (nI_ge hi (by omega)), og_s, ol_s, hlit, nI_add, p_level (by omega) (by omega) okd.1 hw.1, ob_s]
      unfold fX4_clashesWithLit_L86
      simp only [ol_s, nI_1]
      simp only [p_smokeOf_in ht hd a3 hi, ob_s, a4 i hi, nI_add]
    rw [start]
    by_cases hex : ∃ κ, κ < t 10 c ∧ mayB t c (nI (ld + i + t 7 c) - nI (t 7 d) - nI κ) = true
    · obtain ⟨κ, k1, k2⟩ := hex
      obtain ⟨q, e1, e2, e3⟩ := q_of_may k2
      have hlev : t 7 d ≤ ld + i + t 7 c := by
        rcases Nat.lt_or_ge (ld + i + t 7 c) (t 7 d) with z | z
        · rw [sub3] at e1
          have := pk_sneg (a := ld + i + t 7 c) (b := t 7 d + κ) (by omega) (by omega)
          rw [e1] at this
          exact absurd this (nI_pos (by omega))
        · exact z
      rw [pk_sub hlev] at e1 ⊢
      have hbc : ld + i + t 7 c - t 7 d = q + κ := by
        rcases Nat.lt_or_ge (ld + i + t 7 c - t 7 d) κ with z | z
        · have := pk_sneg (a := ld + i + t 7 c - t 7 d) (b := κ) (by omega) z
          rw [e1] at this
          exact absurd this (nI_pos (by omega))
        · rw [pk_sub z] at e1
          have := (nI_eq (by omega) (by omega)).mp e1
          omega
      generalize hbce : ld + i + t 7 c - t 7 d = bc at hbc
      obtain ⟨m, m1, m2, m3⟩ := p_meeting (F := F) (bc := bc) hc hd hn q0 g0 (by omega) (show ld + i < 29 by omega) (hw.2 bc (by omega) (by omega)) (okd.2 (ld + i) (by omega) (by omega)) (by omega)
      have key := fun j => meet_l (Wd := Wd) (hc := t 7 c) (hd := t 7 d) (bc := bc) (bd := ld + i) (g := ld + i + t 12 (6 * d + i)) (th := t 3 0) (j := j) ht hc (by omega) (by omega) hth.1 m2 m3
      rw [m1, ob_s]
      cases hm : m with
      | none =>
        rw [encW_n, if_pos rfl]
        obtain ⟨S', f1, f2⟩ := p_clash_L (F := F) ht H hw h2 h3 hc hd hld hF k (i + 1) fuel S P (by omega) (by omega) hS
        refine ⟨S', f1, bsI_iff f2 (fun j _ => ?_)⟩
        constructor
        · rintro (z | ⟨l, b1, b2⟩)
          · exact Or.inl z
          · exact Or.inr ⟨l, by omega, b2⟩
        · rintro (z | ⟨l, b1, b2, b3⟩)
          · exact Or.inl z
          · by_cases e : l = i
            · subst e
              obtain ⟨m0, z, -⟩ := (key j).mpr b3
              rw [hm] at z; cases z
            · exact Or.inr ⟨l, by omega, b2, b3⟩
      | some m0 =>
        obtain ⟨n1, n2, n3, n4, n5⟩ := m2 m0 hm
        obtain ⟨S1, l1, l2⟩ := p_ltt (F := F) (th := t 3 0) (b := bc) (m := m0) (g := ld + i + t 12 (6 * d + i)) ht hc h2 h3 hsc hsm (by omega) (by omega) (by omega) hth.2 hF
        rw [encW_s, if_neg (nI_nm1 (by omega)), l1, ob_s]
        obtain ⟨S', f1, f2⟩ := p_clash_L (F := F) ht H hw h2 h3 hc hd hld hF k (i + 1) fuel (S ||| S1) _ (by omega) (by omega) (bsI_or hS l2)
        refine ⟨S', f1, bsI_iff f2 (fun j _ => ?_)⟩
        constructor
        · rintro ((z | z) | ⟨l, b1, b2⟩)
          · exact Or.inl z
          · exact Or.inr ⟨i, Nat.le_refl _, hi, (key j).mp ⟨m0, hm, z⟩⟩
          · exact Or.inr ⟨l, by omega, b2⟩
        · rintro (z | ⟨l, b1, b2, b3⟩)
          · exact Or.inl (Or.inl z)
          · by_cases e : l = i
            · subst e
              obtain ⟨m1', z, z2⟩ := (key j).mpr b3
              rw [hm] at z; cases z
              exact Or.inl (Or.inr z2)
            · exact Or.inr ⟨l, by omega, b2, b3⟩
    · have hno : ∀ κ, κ < t 10 c → mayB t c (nI (ld + i + t 7 c) - nI (t 7 d) - nI κ) = false := fun κ hκ => by
        cases hb : mayB t c (nI (ld + i + t 7 c) - nI (t 7 d) - nI κ) with
        | false => rfl
        | true => exact absurd ⟨κ, hκ, hb⟩ hex
      have nt : ∀ j, t 8 c ≤ j → j ≤ t 9 c → ¬ tchl t Wd (t 7 c) c j (t 7 d) d (ld + i) (ld + i + t 12 (6 * d + i)) (t 3 0) := by
        rintro j j1 j2 ⟨κ, x, q, c1, c2, c3, c4, c5, c6, c7, c8⟩
        have := hno κ c1
        rw [pk_sub (by omega), pk_sub (by omega), show ld + i + t 7 c - t 7 d - κ = j by omega] at this
        unfold mayB at this
        rw [nI_toInt (by omega)] at this
        simp at this
        omega
      obtain ⟨r, r1⟩ := p_meeting_tot (F := F) (v := v) hc hd hn (by omega) (nI (ld + i + t 7 c) - nI (t 7 d)) (nI (ld + i))
      have l1 := p_lttN (F := F) (th := t 3 0) (sm := sm) (a2 := nI (ld + i + t 7 c) - nI (t 7 d)) (a3 := r) (a4 := nI (ld + i + t 12 (6 * d + i))) ht hc h2 h3 hsc hno hF
      rw [r1, ob_s, l1, ob_s]
      have go : ∀ S0, bsI S0 P → ∃ S', fX4_clashesWithLit_L5 F hs (nI (t 0 0)) (nI (t 3 0)) v fs lit sc sm ts (nI c) (nI d) fuel S0 (nI (i + 1)) = some S' ∧ bsI S' (fun j => P j ∨ ∃ l, i ≤ l ∧ l < t 10 d ∧ t 8 c ≤ j ∧ j ≤ t 9 c ∧ tchl t Wd (t 7 c) c j (t 7 d) d (ld + l) (ld + l + t 12 (6 * d + l)) (t 3 0)) := by
        intro S0 hS0
        obtain ⟨S', f1, f2⟩ := p_clash_L (F := F) ht H hw h2 h3 hc hd hld hF k (i + 1) fuel S0 P (by omega) (by omega) hS0
        refine ⟨S', f1, bsI_iff f2 (fun j _ => ?_)⟩
        constructor
        · rintro (z | ⟨l, b1, b2⟩)
          · exact Or.inl z
          · exact Or.inr ⟨l, by omega, b2⟩
        · rintro (z | ⟨l, b1, b2, b3, b4, b5⟩)
          · exact Or.inl z
          · by_cases e : l = i
            · subst e; exact absurd b5 (nt j b3 b4)
            · exact Or.inr ⟨l, by omega, b2, b3, b4, b5⟩
      by_cases hr : r = -1
      · rw [if_pos hr]; exact go S hS
      · rw [if_neg hr]
        exact go (S ||| 0) (bsI_iff (bsI_or hS bsI_0) (fun j _ => ⟨fun z => z.elim id False.elim, Or.inl⟩))
  | k, i, 0, S, P, _, hf, _ => absurd hf (Nat.not_lt_zero k)
/-- c may be lit in j: its time, and it touches no lit one -/
def freeP (t : Nat → Nat → Nat) (Wd : Nat → Nat → Nat) (c j : Nat) : Prop := (t 8 c ≤ j ∧ j ≤ t 9 c) ∧ ¬ ∃ d, d < t 0 0 ∧ d ≠ c ∧ t 11 d ≠ 0 ∧ ∃ q, tch t Wd (t 7 c) c j (t 7 d) d (t 11 d - 1) (t 3 0) q
theorem p_fq_L {F c : Nat} {t : Nat → Nat → Nat} {Wd : Nat → Nat → Nat} {hs v lit sc sm fs ts : Nat → Int32} (ht : Tok t) (H : liOk t Wd (t 7) hs v lit sc sm) (hw : wayOk t Wd hs v c) (h2 : fs c = nI (t 8 c)) (h3 : ts c = nI (t 9 c)) (hc : c < t 0 0) (hF : 60 < F) :
    ∀ (k i fuel : Nat) (S : Int32), i + k = t 0 0 → k < fuel → bsI S (fun j => (t 8 c ≤ j ∧ j ≤ t 9 c) ∧ ¬ ∃ d, d < i ∧ d ≠ c ∧ t 11 d ≠ 0 ∧ ∃ q, tch t Wd (t 7 c) c j (t 7 d) d (t 11 d - 1) (t 3 0) q) → ∃ S', fX4_freeQuarters_L39 F hs (nI (t 0 0)) (nI (t 3 0)) v fs lit sc sm ts (nI c) fuel S (nI i) = some S' ∧ bsI S' (freeP t Wd c)
  | 0, i, fuel + 1, S, h, _, hS => by
    have hn := ht.1
    refine ⟨S, ?_, bsI_iff hS (fun j _ => by unfold freeP; rw [show i = t 0 0 by omega])⟩
    rw [fX4_freeQuarters_L39, if_pos (nI_le (by omega) (by omega))]
  | k + 1, i, fuel + 1, S, h, hf, hS => by
    have hn := ht.1
    have hi : i < t 0 0 := by omega
    have hlt := ht.lit hi
    rw [fX4_freeQuarters_L39, if_neg (nI_ge hi (by omega))]
    unfold fX4_freeQuarters_L77
    simp only [ol_s, nI_1]
    have go : ∀ S0 : Int32, bsI S0 (fun j => (t 8 c ≤ j ∧ j ≤ t 9 c) ∧ ¬ ∃ d, d < i + 1 ∧ d ≠ c ∧ t 11 d ≠ 0 ∧ ∃ q, tch t Wd (t 7 c) c j (t 7 d) d (t 11 d - 1) (t 3 0) q) → ∃ S', fX4_freeQuarters_L39 F hs (nI (t 0 0)) (nI (t 3 0)) v fs lit sc sm ts (nI c) fuel S0 (nI (i + 1)) = some S' ∧ bsI S' (freeP t Wd c) := fun S0 h0 => p_fq_L ht H hw h2 h3 hc hF k (i + 1) fuel S0 (by omega) (by omega) h0
    have same : (i = c ∨ t 11 i = 0) → bsI S (fun j => (t 8 c ≤ j ∧ j ≤ t 9 c) ∧ ¬ ∃ d, d < i + 1 ∧ d ≠ c ∧ t 11 d ≠ 0 ∧ ∃ q, tch t Wd (t 7 c) c j (t 7 d) d (t 11 d - 1) (t 3 0) q) := by
      intro hor
      refine bsI_iff hS (fun j _ => ?_)
      constructor
      · rintro ⟨z1, z2⟩
        refine ⟨z1, fun ⟨d, d1, d2, d3, d4⟩ => ?_⟩
        by_cases e : d = i
        · subst e
          rcases hor with y | y
          · exact d2 y
          · exact d3 y
        · exact z2 ⟨d, by omega, d2, d3, d4⟩
      · rintro ⟨z1, z2⟩
        exact ⟨z1, fun ⟨d, d1, d2, d3, d4⟩ => z2 ⟨d, by omega, d2, d3, d4⟩⟩
    by_cases e : i = c
    · rw [if_pos (by rw [e])]
      exact go S (same (Or.inl e))
    · rw [if_neg (nI_ne (by omega) (by omega) e), p_isLit hi hn, ob_s, (H i hi).2.1]
      by_cases hl : t 11 i = 0
      · rw [if_pos ((litC_iff hlt).mpr hl), if_pos rfl]
        exact go S (same (Or.inr hl))
      · obtain ⟨ld, hld⟩ : ∃ q, t 11 i = q + 1 := ⟨t 11 i - 1, by omega⟩
        obtain ⟨-, -, -, -, g4, -, -⟩ := ht.2.2.2.2.2.2.1 i hi
        obtain ⟨C, c1, c2⟩ := p_clash_L (F := F) ht H hw h2 h3 hc hi hld hF (t 10 i) 0 F 0 (fun _ => False) (by omega) (by omega) bsI_0
        rw [if_neg (fun z => hl ((litC_iff hlt).mp z)), if_neg one0]
        have c1' : fX4_clashesWithLit F hs (nI (t 0 0)) (nI (t 3 0)) v fs lit sc sm ts (nI c) (nI i) = some C := c1
        rw [c1', ob_s]
        refine go _ (bsI_iff (bsI_and hS (bsI_not c2)) (fun j _ => ?_))
        constructor
        · rintro ⟨⟨z1, z2⟩, z3⟩
          refine ⟨z1, fun ⟨d, d1, d2, d3, q, d4⟩ => ?_⟩
          by_cases e2 : d = i
          · subst e2
            rw [hld, Nat.add_sub_cancel] at d4
            obtain ⟨κ, l, x, y1, y2, y3, y4, y5, y6, y7, y8, y9⟩ := d4
            exact z3 (Or.inr ⟨l, Nat.zero_le _, y2, z1.1, z1.2, κ, x, q, y1, y3, y4, y5, y6, y7, y8, y9⟩)
          · exact z2 ⟨d, by omega, d2, d3, q, d4⟩
        · rintro ⟨z1, z2⟩
          refine ⟨⟨z1, fun ⟨d, d1, d2, d3, d4⟩ => z2 ⟨d, by omega, d2, d3, d4⟩⟩, fun z3 => ?_⟩
          rcases z3 with z3 | ⟨l, -, y2, -, -, κ, x, q, y1, y3, y4, y5, y6, y7, y8, y9⟩
          · exact z3
          · refine z2 ⟨i, by omega, e, hl, q, ?_⟩
            rw [hld, Nat.add_sub_cancel]
            exact ⟨κ, l, x, y1, y2, y3, y4, y5, y6, y7, y8, y9⟩
  | k, i, 0, S, _, hf, _ => absurd hf (Nat.not_lt_zero k)
theorem p_freeQ {F c : Nat} {t : Nat → Nat → Nat} {Wd : Nat → Nat → Nat} {hs v lit sc sm fs ts : Nat → Int32} (ht : Tok t) (H : liOk t Wd (t 7) hs v lit sc sm) (hw : wayOk t Wd hs v c) (h2 : fs c = nI (t 8 c)) (h3 : ts c = nI (t 9 c)) (hc : c < t 0 0) (hF : 60 < F) : ∃ S, fX4_freeQuarters F hs (nI (t 0 0)) (nI (t 3 0)) v fs lit sc sm ts (nI c) = some S ∧ bsI S (freeP t Wd c) := by
  have hn := ht.1
  obtain ⟨q0, q1, q2, q3, q4, q5, q6⟩ := ht.2.2.2.2.2.2.1 c hc
  unfold fX4_freeQuarters
  rw [p_has hc (by omega), ob_s, if_neg one0, vb_nI (show c < 10 by omega) (by decide), og_s, og_s, ol_s, nI_clamp (by omega), h2, h3]
  refine p_fq_L ht H hw h2 h3 hc hF (t 0 0) 0 F _ (by omega) (by omega) (bsI_iff (bsI_rng (a := t 8 c) (b := t 9 c) (by omega) q2) (fun j _ => ⟨fun z => ⟨z, fun ⟨d, d1, _⟩ => by omega⟩, fun z => z.1⟩))
