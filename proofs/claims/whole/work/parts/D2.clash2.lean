theorem cp_ne {m1 m2 a a' : Nat} (h : a ≠ a') : cp m1 m2 a ≠ cp m1 m2 a' := by unfold cp; omega
/-- what one beginning lays into the clashes of members m1 (d) and m2 (c) -/
theorem p_lc90 {F c d bd m1 m2 : Nat} {t : Nat → Nat → Nat} {Wd : Nat → Nat → Nat} {hs v sc sm fs ts who : Nat → Int32} {x5 r : Int32} {k50 : Int32 → Int32 → Int32 → Int32 → (Nat → Int32) → Option ((Nat → Int32))} (ht : Tok t) (h2 : fs d = nI (t 8 d)) (h3 : ts d = nI (t 9 d)) (hsc : sc d = nI (t 10 d)) (hsm : ∀ k, k < t 10 d → sm (6 * d + k) = nI (t 12 (6 * d + k))) (hd : d < t 0 0) (hm1 : m1 < 5) (hm2 : m2 < 5)
    (hb2 : bd < t 9 d + t 10 d) (hR : (r = -1 ∧ ∀ s j, s ≤ 9 → ¬ tcs t Wd c d bd (bd + s) j) ∨ (¬ r = -1 ∧ ∀ s, s ≤ 9 → ∃ S, fX4_lightingsThatTouch F (nI (t 0 0)) (nI (t 3 0)) fs sc sm ts (nI c) (nI (bd + t 7 c) - nI (t 7 d)) r (nI (bd + s)) = some S ∧ bsI S (tcs t Wd c d bd (bd + s)))) :
    ∀ (k i fuel : Nat) (cl : Nat → Int32) (P : Nat → Nat → Prop), i + k = t 10 d → k < fuel → (∀ a, a < 24 → bsI (cl (cp m1 m2 a)) (P a)) → ∃ cl' : Nat → Int32, fX6_layClashesOf_L90 F (nI (t 0 0)) (nI (t 3 0)) who hs v fs sc sm ts (nI m1) (nI m2) k50 fuel (nI c) (nI d) x5 (nI bd) (nI (bd + t 7 c) - nI (t 7 d)) r (nI i) cl = k50 (nI c) (nI d) x5 (nI (bd + 1)) cl' ∧ (∀ a, a < 24 → bsI (cl' (cp m1 m2 a)) (fun j => P a j ∨ ∃ l, i ≤ l ∧ l < t 10 d ∧ a + l = bd ∧ t 8 d ≤ a ∧ a ≤ t 9 d ∧ tcs t Wd c d bd (bd + t 12 (6 * d + l)) j)) ∧ ∀ p, (∀ a, a < 24 → p ≠ cp m1 m2 a) → cl' p = cl p
  | 0, i, fuel + 1, cl, P, h, _, hC => by
    have hn := ht.1
    obtain ⟨g0, g1, g2, g3, g4, g5, g6⟩ := ht.2.2.2.2.2.2.1 d hd
    refine ⟨cl, ?_, fun a ha => bsI_iff (hC a ha) (fun j _ => ⟨Or.inl, fun z => z.elim id (fun ⟨l, a1, a2, _⟩ => by omega)⟩), fun _ _ => rfl⟩
    rw [fX6_layClashesOf_L90, vb_nI (show d < 10 by omega) (by decide), og_s, nI_clamp (by omega), hsc, if_pos (nI_le (by omega) (by omega)), fX6_layClashesOf_L179, ol_s, nI_1]
  | k + 1, i, fuel + 1, cl, P, h, hf, hC => by
    have hn := ht.1
    obtain ⟨g0, g1, g2, g3, g4, g5, g6⟩ := ht.2.2.2.2.2.2.1 d hd
    have hi : i < t 10 d := by omega
    have s9 := g6 i hi
    rw [fX6_layClashesOf_L90, vb_nI (show d < 10 by omega) (by decide), og_s, nI_clamp (by omega), hsc, if_neg (nI_ge hi (by omega))]
    rcases hR with ⟨r1, r2⟩ | ⟨r1, r2⟩
    · refine ⟨cl, ?_, fun a ha => bsI_iff (hC a ha) (fun j _ => ⟨Or.inl, fun z => z.elim id (fun ⟨l, a1, a2, a3, a4, a5, a6⟩ => absurd a6 (r2 _ j (by have := g6 l a2; omega)))⟩), fun _ _ => rfl⟩
      rw [if_pos r1, fX6_layClashesOf_L179, ol_s, nI_1]
    · rw [if_neg r1, ol_s, p_mayBeLit ht hd h2 h3, ob_s]
      have IH := fun cl0 P0 h0 => p_lc90 (F := F) (Wd := Wd) (hs := hs) (v := v) (who := who) (x5 := x5) (k50 := k50) ht h2 h3 hsc hsm hd hm1 hm2 hb2 (Or.inr ⟨r1, r2⟩) k (i + 1) fuel cl0 P0 (by omega) (by omega) h0
      cases hb : mayB t d (nI bd - nI i) with
      | false =>
        rw [bI_0 rfl, if_pos rfl, fX6_layClashesOf_L173, ol_s, nI_1]
        obtain ⟨cl', e1, e2, e3⟩ := IH cl P hC
        refine ⟨cl', e1, fun a ha => bsI_iff (e2 a ha) (fun j _ => ?_), e3⟩
        constructor
        · rintro (z | ⟨l, b1, b2⟩)
          · exact Or.inl z
          · exact Or.inr ⟨l, by omega, b2⟩
        · rintro (z | ⟨l, b1, b2, b3, b4, b5, b6⟩)
          · exact Or.inl z
          · by_cases e : l = i
            · subst e
              exfalso
              rw [← b3, pk_sub (by omega), Nat.add_sub_cancel] at hb
              unfold mayB at hb
              rw [nI_toInt (by omega)] at hb
              simp at hb
              omega
            · exact Or.inr ⟨l, by omega, b2, b3, b4, b5, b6⟩
      | true =>
        obtain ⟨q, e1, e2, e3⟩ := q_of_may hb
        have hbq : bd = q + i := by
          rcases Nat.lt_or_ge bd i with z | z
          · have := pk_sneg (a := bd) (b := i) (by omega) z
            rw [e1] at this
            exact absurd this (nI_pos (by omega))
          · rw [pk_sub z] at e1
            have := (nI_eq (by omega) (by omega)).mp e1
            omega
        obtain ⟨S, l1, l2⟩ := r2 (t 12 (6 * d + i)) (by omega)
        have hq : q < 24 := by omega
        have hp := cp_lt hm1 hm2 hq
        rw [bI_1 rfl, if_neg one0, e1, fX6_clashPlace, cp_I, ob_s, vb_nI hp (by decide), og_s, p_smokeOf_in ht hd hsc hi, ob_s, hsm i hi, nI_add, l1, ob_s, og_s, ol_s, nI_clamp (by omega), fX6_layClashesOf_L173, ol_s, nI_1]
        obtain ⟨cl', f1, f2, f3⟩ := IH (upd cl (cp m1 m2 q) (cl (cp m1 m2 q) ||| S)) (fun a j => P a j ∨ (a = q ∧ tcs t Wd c d bd (bd + t 12 (6 * d + i)) j)) (fun a ha => by
          unfold upd
          by_cases e : a = q
          · rw [e, if_pos rfl]
            exact bsI_iff (bsI_or (hC q hq) l2) (fun j _ => ⟨fun z => z.elim Or.inl (fun y => Or.inr ⟨rfl, y⟩), fun z => z.elim Or.inl (fun y => Or.inr y.2)⟩)
          · rw [if_neg (cp_ne e)]
            exact bsI_iff (hC a ha) (fun j _ => ⟨Or.inl, fun z => z.elim id (fun y => absurd y.1 e)⟩))
        refine ⟨cl', f1, fun a ha => bsI_iff (f2 a ha) (fun j _ => ?_), fun p hpn => ?_⟩
        · constructor
          · rintro ((z | ⟨z1, z2⟩) | ⟨l, b1, b2⟩)
            · exact Or.inl z
            · subst z1
              exact Or.inr ⟨i, Nat.le_refl _, hi, by omega, e2, e3, z2⟩
            · exact Or.inr ⟨l, by omega, b2⟩
          · rintro (z | ⟨l, b1, b2, b3, b4, b5, b6⟩)
            · exact Or.inl (Or.inl z)
            · by_cases e : l = i
              · subst e
                exact Or.inl (Or.inr ⟨by omega, b6⟩)
              · exact Or.inr ⟨l, by omega, b2, b3, b4, b5, b6⟩
        · rw [f3 p hpn]
          unfold upd
          rw [if_neg (hpn q hq)]
  | k, i, 0, cl, P, _, hf, _ => absurd hf (Nat.not_lt_zero k)
theorem p_lc50 {F c d m1 m2 : Nat} {t : Nat → Nat → Nat} {Wd : Nat → Nat → Nat} {hs v sc sm fs ts who : Nat → Int32} (ht : Tok t) (hw : wayOk t Wd hs v c) (hwd : wayOk t Wd hs v d) (h2 : ∀ c, c < t 0 0 → fs c = nI (t 8 c)) (h3 : ∀ c, c < t 0 0 → ts c = nI (t 9 c)) (hsc : ∀ c, c < t 0 0 → sc c = nI (t 10 c)) (hsm : ∀ c, c < t 0 0 → ∀ k, k < t 10 c → sm (6 * c + k) = nI (t 12 (6 * c + k))) (hc : c < t 0 0) (hd : d < t 0 0) (hm1 : m1 < 5) (hm2 : m2 < 5) (hF : 60 < F) :
    ∀ (k bd fuel : Nat) (cl : Nat → Int32) (P : Nat → Nat → Prop), bd + k = t 9 d + t 10 d → k < fuel → t 8 d ≤ bd → (∀ a, a < 24 → bsI (cl (cp m1 m2 a)) (P a)) → ∃ cl' : Nat → Int32, fX6_layClashesOf_L50 F (nI (t 0 0)) (nI (t 3 0)) who hs v fs sc sm ts (nI m1) (nI m2) fuel (nI c) (nI d) (nI (t 9 d + t 10 d)) (nI bd) cl = some cl' ∧ (∀ a, a < 24 → bsI (cl' (cp m1 m2 a)) (fun j => P a j ∨ ∃ l, bd ≤ a + l ∧ l < t 10 d ∧ t 8 d ≤ a ∧ a ≤ t 9 d ∧ tcs t Wd c d (a + l) (a + l + t 12 (6 * d + l)) j)) ∧ ∀ p, (∀ a, a < 24 → p ≠ cp m1 m2 a) → cl' p = cl p
  | 0, bd, fuel + 1, cl, P, h, _, hb, hC => by
    obtain ⟨g0, g1, g2, g3, g4, g5, g6⟩ := ht.2.2.2.2.2.2.1 d hd
    refine ⟨cl, ?_, fun a ha => bsI_iff (hC a ha) (fun j _ => ⟨Or.inl, fun z => z.elim id (fun ⟨l, a1, a2, a3, a4, _⟩ => by omega)⟩), fun _ _ => rfl⟩
    rw [fX6_layClashesOf_L50, if_pos (nI_le (by omega) (by omega))]
  | k + 1, bd, fuel + 1, cl, P, h, hf, hb, hC => by
    have hn := ht.1
    obtain ⟨g0, g1, g2, g3, g4, g5, g6⟩ := ht.2.2.2.2.2.2.1 d hd
    obtain ⟨r, r1, r2⟩ := p_mtl (F := F) (bd := bd) ht hw hwd (h2 c hc) (h3 c hc) (hsc c hc) (hsm c hc) hc hd hb (by omega) hF
    rw [fX6_layClashesOf_L50, if_neg (nI_ge (by omega) (by omega)), p_level (by omega) (by omega) hwd.1 hw.1, ob_s, r1, ob_s]
    obtain ⟨cl1, e1, e2, e3⟩ := p_lc90 (F := F) (c := c) (Wd := Wd) (hs := hs) (v := v) (who := who) (x5 := nI (t 9 d + t 10 d)) (k50 := fun x3 x4 x5 x6 v_clashes => fX6_layClashesOf_L50 F (nI (t 0 0)) (nI (t 3 0)) who hs v fs sc sm ts (nI m1) (nI m2) fuel x3 x4 x5 x6 v_clashes) ht (h2 d hd) (h3 d hd) (hsc d hd) (hsm d hd) hd hm1 hm2 (by omega) r2 (t 10 d) 0 F cl P (by omega) (by omega) hC
    obtain ⟨cl', f1, f2, f3⟩ := p_lc50 (F := F) (who := who) ht hw hwd h2 h3 hsc hsm hc hd hm1 hm2 hF k (bd + 1) fuel cl1 _ (by omega) (by omega) (by omega) e2
    refine ⟨cl', ?_, fun a ha => bsI_iff (f2 a ha) (fun j _ => ?_), fun p hp => (f3 p hp).trans (e3 p hp)⟩
    · have e1' : fX6_layClashesOf_L90 F (nI (t 0 0)) (nI (t 3 0)) who hs v fs sc sm ts (nI m1) (nI m2) (fun x3 x4 x5 x6 v_clashes => fX6_layClashesOf_L50 F (nI (t 0 0)) (nI (t 3 0)) who hs v fs sc sm ts (nI m1) (nI m2) fuel x3 x4 x5 x6 v_clashes) F (nI c) (nI d) (nI (t 9 d + t 10 d)) (nI bd) (nI (bd + t 7 c) - nI (t 7 d)) r 0 cl = _ := e1
      rw [e1']
      exact f1
    · constructor
      · rintro ((z | ⟨l, a1, a2, a3, a4, a5, a6⟩) | ⟨l, b1, b2⟩)
        · exact Or.inl z
        · subst a3
          exact Or.inr ⟨l, Nat.le_refl _, a2, a4, a5, a6⟩
        · exact Or.inr ⟨l, by omega, b2⟩
      · rintro (z | ⟨l, b1, b2, b3, b4, b5⟩)
        · exact Or.inl (Or.inl z)
        · by_cases e : a + l = bd
          · subst e
            exact Or.inl (Or.inr ⟨l, Nat.zero_le _, b2, rfl, b3, b4, b5⟩)
          · exact Or.inr ⟨l, by omega, b2, b3, b4, b5⟩
  | k, bd, 0, cl, P, _, hf, _, _ => absurd hf (Nat.not_lt_zero k)
/-- fires of c and d, lit in j and in a, touch at some time -/
def clP (t : Nat → Nat → Nat) (Wd : Nat → Nat → Nat) (d c a j : Nat) : Prop := (t 8 d ≤ a ∧ a ≤ t 9 d) ∧ (t 8 c ≤ j ∧ j ≤ t 9 c) ∧ ∃ q, tch t Wd (t 7 c) c j (t 7 d) d a (t 3 0) q
theorem p_lcOf {F c d m1 m2 : Nat} {t : Nat → Nat → Nat} {Wd : Nat → Nat → Nat} {hs v sc sm fs ts who cl : Nat → Int32} (ht : Tok t) (hw : wayOk t Wd hs v c) (hwd : wayOk t Wd hs v d) (h2 : ∀ c, c < t 0 0 → fs c = nI (t 8 c)) (h3 : ∀ c, c < t 0 0 → ts c = nI (t 9 c)) (hsc : ∀ c, c < t 0 0 → sc c = nI (t 10 c)) (hsm : ∀ c, c < t 0 0 → ∀ k, k < t 10 c → sm (6 * c + k) = nI (t 12 (6 * c + k))) (hc : c < t 0 0) (hd : d < t 0 0) (hm1 : m1 < 5) (hm2 : m2 < 5) (hF : 60 < F) (hw1 : who m1 = nI d) (hw2 : who m2 = nI c) (h0 : ∀ a, a < 24 → cl (cp m1 m2 a) = 0) :
    ∃ cl' : Nat → Int32, fX6_layClashesOf F cl (nI (t 0 0)) (nI (t 3 0)) who hs v fs sc sm ts (nI m1) (nI m2) = some cl' ∧ (∀ a, a < 24 → bsI (cl' (cp m1 m2 a)) (clP t Wd d c a)) ∧ ∀ p, (∀ a, a < 24 → p ≠ cp m1 m2 a) → cl' p = cl p := by
  have hn := ht.1
  obtain ⟨g0, g1, g2, g3, g4, g5, g6⟩ := ht.2.2.2.2.2.2.1 d hd
  obtain ⟨cl', e1, e2, e3⟩ := p_lc50 (F := F) (who := who) ht hw hwd h2 h3 hsc hsm hc hd hm1 hm2 hF (t 9 d + t 10 d - t 8 d) (t 8 d) F cl (fun _ _ => False) (by omega) (by omega) (Nat.le_refl _) (fun a ha => by rw [h0 a ha]; exact bsI_0)
  refine ⟨cl', ?_, fun a ha => bsI_iff (e2 a ha) (fun j _ => ?_), e3⟩
  · unfold fX6_layClashesOf
    rw [vb_nI hm2 (by decide), og_s, ol_s, vb_nI hm1 (by decide), og_s, ol_s, nI_clamp (by omega), nI_clamp (by omega), hw1, hw2, vb_nI (show d < 10 by omega) (by decide), og_s, og_s, ol_s, og_s, ol_s, nI_clamp (by omega), h3 d hd, hsc d hd, h2 d hd, nI_add, e1]
  · unfold clP tcs tchl tch
    constructor
    · rintro (z | ⟨l, b1, b2, b3, b4, b5, b6, κ, x, q, c1, c2, c3, c4, c5, c6, c7, c8⟩)
      · exact False.elim z
      · exact ⟨⟨b3, b4⟩, ⟨b5, b6⟩, q, κ, l, x, c1, b2, c2, c3, c4, c5, c6, c7, c8⟩
    · rintro ⟨⟨b3, b4⟩, ⟨b5, b6⟩, q, κ, l, x, c1, b2, c2, c3, c4, c5, c6, c7, c8⟩
      exact Or.inr ⟨l, by omega, b2, b3, b4, b5, b6, κ, x, q, c1, c2, c3, c4, c5, c6, c7, c8⟩
