theorem min_sub_lt {P th q : Nat} (hP : P < 2 ^ 20) (hth : th < 2 ^ 20) (hq : q < 64) : (nI P - nI th < nI q) ↔ P + 1 - th ≤ q := by
  rw [Int32.lt_iff_toInt_lt, pk_sub_toInt (by omega) (by omega), nI_toInt (by omega)]
  omega
theorem p_tQ_L {F th : Nat} {t : Nat → Nat → Nat} {Wd : Nat → Nat → Nat} {hs v lit sc sm : Nat → Int32} {hc c lc hd d ld : Nat} (T : two t Wd hs v lit sc sm hc c lc hd d ld) (hth : 1 ≤ th) (hth9 : th ≤ 9) (hF : 60 < F) :
    ∀ (k i fuel : Nat) (S : Int64), i + k = t 10 c → k < fuel → bsL S (fun j => ∃ k', k' < i ∧ tchk t Wd hc c lc hd d ld th k' j) → ∃ S', fX4_touchQuarters_L29 F hs (nI (t 0 0)) (nI th) v lit sc sm (nI c) (nI d) fuel S (nI i) = some S' ∧ bsL S' (fun j => tch t Wd hc c lc hd d ld th j)
  | 0, i, fuel + 1, S, h, _, hS => by
    have hn := T.ht.1
    have hcn := T.hcn
    obtain ⟨g0, g1, g2, g3, g4, g5, g6⟩ := T.ht.2.2.2.2.2.2.1 c T.hcn
    refine ⟨S, ?_, bsL_iff hS (fun j _ => by rw [tch_k, show i = t 10 c by omega])⟩
    rw [fX4_touchQuarters_L29, vb_nI (show c < 10 by omega) (by decide), og_s, nI_clamp (by omega), T.scc, if_pos (nI_le (by omega) (by omega))]
  | k + 1, i, fuel + 1, S, h, hf, hS => by
    have hn := T.ht.1
    have hcn := T.hcn
    have hdn := T.hdn
    have hqc := T.qc
    have hqd := T.qd
    obtain ⟨g0, g1, g2, g3, g4, g5, g6⟩ := T.ht.2.2.2.2.2.2.1 c T.hcn
    obtain ⟨f0, f1, f2, f3, f4, f5, f6⟩ := T.ht.2.2.2.2.2.2.1 d T.hdn
    have hi : i < t 10 c := by omega
    have s1 := g6 i hi
    obtain ⟨m, e1, e2, e3⟩ := p_mop (F := F) T hi (by omega)
    rw [fX4_touchQuarters_L29, vb_nI (show c < 10 by omega) (by decide), og_s, nI_clamp (by omega), T.scc, if_neg (nI_ge hi (by omega)), e1, ob_s]
    unfold fX4_touchQuarters_L101
    cases hm : m with
    | none =>
      rw [encW_n, if_pos rfl, ol_s, nI_1]
      refine p_tQ_L T hth hth9 hF k (i + 1) fuel S (by omega) (by omega) (bsL_iff hS (fun j _ => ?_))
      constructor
      · rintro ⟨k', a1, a2⟩; exact ⟨k', by omega, a2⟩
      · rintro ⟨k', a1, a2⟩
        by_cases e : k' = i
        · subst e
          obtain ⟨l, x, b1, b2, b3, b4, b5, b6, b7, b8⟩ := a2
          have s2 := f6 l b1
          obtain ⟨m0, c1, -⟩ := e3 l j x b1 (by omega) b2 b3 (by omega) (by omega) b4 b5
          rw [hm] at c1; cases c1
        · exact ⟨k', by omega, a2⟩
    | some m0 =>
      obtain ⟨l, a1, a2, a3, a4, a5, a6, a7⟩ := e2 m0 hm
      have s2 := f6 l a1
      have key := fun j => tchk_of (Wd := Wd) (th := th) (q := j) T.ht T.hcn T.hdn hi hth a1 a2 hm a3 a4 a7 (fun q x => e3 l q x a1 a2)
      rw [encW_s, if_neg (nI_nm1 (by omega)), p_parting T hi a1 a2, ob_s, ol_s, og_s, T.litc, nI_add]
      have hmn : min (lc + i + t 12 (6 * c + i)) (ld + l + t 12 (6 * d + l)) ≤ lc + i + t 12 (6 * c + i) := Nat.min_le_left _ _
      generalize hP : min (lc + i + t 12 (6 * c + i)) (ld + l + t 12 (6 * d + l)) = P at key hmn
      obtain ⟨S1, b1, b2⟩ := p_qt_L (F := F) (a3 := nI m0) (a4 := nI P - nI th) (E := P + 1 - th) T.hcn hn (show lc + i < 29 by omega) g0 (T.okc.2 (lc + i) (by omega) (by omega)) (by omega) (fun q hq => min_sub_lt (by omega) (by omega) hq) 60 m0 F 0 (fun _ => False) (by omega) a3 (by omega) (by omega) bsL_0
      unfold fX4_quartersTogether
      rw [b1, ob_s, ol_s, ol_s, nI_1]
      refine p_tQ_L T hth hth9 hF k (i + 1) fuel (S ||| S1) (by omega) (by omega) (bsL_iff (bsL_or hS b2) (fun j _ => ?_))
      constructor
      · rintro (⟨k', c1, c2⟩ | (c1 | ⟨c1, c2, c3⟩))
        · exact ⟨k', by omega, c2⟩
        · exact False.elim c1
        · exact ⟨i, by omega, (key j).mpr ⟨c1, by omega, c3⟩⟩
      · rintro ⟨k', c1, c2⟩
        by_cases e : k' = i
        · subst e
          obtain ⟨d1, d2, d3⟩ := (key j).mp c2
          exact Or.inr (Or.inr ⟨d1, by omega, d3⟩)
        · exact Or.inl ⟨k', by omega, c2⟩
  | k, i, 0, S, _, hf, _ => absurd hf (Nat.not_lt_zero k)
theorem two_isLit {F : Nat} {t : Nat → Nat → Nat} {Wd : Nat → Nat → Nat} {hs v lit sc sm : Nat → Int32} {hc c lc hd d ld : Nat} (T : two t Wd hs v lit sc sm hc c lc hd d ld) : fX7_isLit F (nI (t 0 0)) lit (nI c) = some 1 ∧ fX7_isLit F (nI (t 0 0)) lit (nI d) = some 1 := by
  have hn := T.ht.1
  have h1 := T.ht.lit T.hcn
  have h2 := T.ht.lit T.hdn
  have hqc := T.qc
  have hqd := T.qd
  constructor
  · rw [p_isLit T.hcn hn, T.litc, if_neg (nI_nm1 (by omega))]
  · rw [p_isLit T.hdn hn, T.litd, if_neg (nI_nm1 (by omega))]
theorem p_touchQuarters {F th : Nat} {t : Nat → Nat → Nat} {Wd : Nat → Nat → Nat} {hs v lit sc sm : Nat → Int32} {hc c lc hd d ld : Nat} (T : two t Wd hs v lit sc sm hc c lc hd d ld) (hth : 1 ≤ th) (hth9 : th ≤ 9) (hF : 60 < F) : ∃ S, fX4_touchQuarters F hs (nI (t 0 0)) (nI th) v lit sc sm (nI c) (nI d) = some S ∧ bsL S (fun j => tch t Wd hc c lc hd d ld th j) := by
  obtain ⟨g0, g1, g2, g3, g4, g5, g6⟩ := T.ht.2.2.2.2.2.2.1 c T.hcn
  have hw := two_isLit (F := F) T
  unfold fX4_touchQuarters
  rw [hw.1, ob_s, if_neg one0, hw.2, ob_s, if_neg one0]
  refine p_tQ_L T hth hth9 hF (t 10 c) 0 F 0 (by omega) (by omega) (bsL_iff bsL_0 (fun j _ => ⟨False.elim, fun ⟨k', h, _⟩ => by omega⟩))
theorem p_touchQ_un {F : Nat} {n : Nat} {hs v lit sc sm : Nat → Int32} {th : Int32} {c d : Nat} (hn : n ≤ 10) (hc : c < n) (hd : d < n) (h : lit c = -1 ∨ lit d = -1) : fX4_touchQuarters F hs (nI n) th v lit sc sm (nI c) (nI d) = some 0 := by
  unfold fX4_touchQuarters
  rw [p_isLit hc hn, ob_s]
  by_cases h1 : lit c = -1
  · rw [if_pos h1, if_pos rfl]
  · rw [if_neg h1, if_neg one0, p_isLit hd hn, ob_s, if_pos (h.resolve_left h1), if_pos rfl]
theorem p_cl_L {F : Nat} {t : Nat → Nat → Nat} {Wd : Nat → Nat → Nat} {hs v lit sc sm : Nat → Int32} {hc c lc hd d ld : Nat} (T : two t Wd hs v lit sc sm hc c lc hd d ld) (hF : 60 < F) :
    ∀ (k i fuel x : Nat), i + k = t 10 c → k < fuel → x ≤ 9 → (∀ th, 1 ≤ th → (th ≤ x ↔ ∃ k', k' < i ∧ ∃ q, tchk t Wd hc c lc hd d ld th k' q)) → ∃ x', x' ≤ 9 ∧ fX4_closeness_L29 F hs (nI (t 0 0)) v lit sc sm (nI c) (nI d) fuel (nI x) (nI i) = some (nI x') ∧ ∀ th, 1 ≤ th → (th ≤ x' ↔ ∃ q, tch t Wd hc c lc hd d ld th q)
  | 0, i, fuel + 1, x, h, _, hx, hS => by
    have hn := T.ht.1
    have hcn := T.hcn
    obtain ⟨g0, g1, g2, g3, g4, g5, g6⟩ := T.ht.2.2.2.2.2.2.1 c T.hcn
    refine ⟨x, hx, ?_, fun th hth => (hS th hth).trans ?_⟩
    · rw [fX4_closeness_L29, vb_nI (show c < 10 by omega) (by decide), og_s, nI_clamp (by omega), T.scc, if_pos (nI_le (by omega) (by omega))]
    · constructor
      · rintro ⟨k', a1, q, a2⟩; exact ⟨q, tch_k.mpr ⟨k', by omega, a2⟩⟩
      · rintro ⟨q, a⟩
        obtain ⟨k', a1, a2⟩ := tch_k.mp a
        exact ⟨k', by omega, q, a2⟩
  | k + 1, i, fuel + 1, x, h, hf, hx, hS => by
    have hn := T.ht.1
    have hcn := T.hcn
    have hdn := T.hdn
    have hqc := T.qc
    have hqd := T.qd
    obtain ⟨g0, g1, g2, g3, g4, g5, g6⟩ := T.ht.2.2.2.2.2.2.1 c T.hcn
    obtain ⟨f0, f1, f2, f3, f4, f5, f6⟩ := T.ht.2.2.2.2.2.2.1 d T.hdn
    have hi : i < t 10 c := by omega
    have s1 := g6 i hi
    obtain ⟨m, e1, e2, e3⟩ := p_mop (F := F) T hi (by omega)
    rw [fX4_closeness_L29, vb_nI (show c < 10 by omega) (by decide), og_s, nI_clamp (by omega), T.scc, if_neg (nI_ge hi (by omega)), e1, ob_s]
    unfold fX4_closeness_L75
    cases hm : m with
    | none =>
      rw [encW_n, if_pos rfl, ol_s, nI_1]
      refine p_cl_L T hF k (i + 1) fuel x (by omega) (by omega) hx (fun th hth => (hS th hth).trans ?_)
      constructor
      · rintro ⟨k', a1, a2⟩; exact ⟨k', by omega, a2⟩
      · rintro ⟨k', a1, j, a2⟩
        by_cases e : k' = i
        · subst e
          obtain ⟨l, y, b1, b2, b3, b4, b5, b6, b7, b8⟩ := a2
          have s2 := f6 l b1
          obtain ⟨m0, c1, -⟩ := e3 l j y b1 (by omega) b2 b3 (by omega) (by omega) b4 b5
          rw [hm] at c1; cases c1
        · exact ⟨k', by omega, j, a2⟩
    | some m0 =>
      obtain ⟨l, a1, a2, a3, a4, a5, a6, a7⟩ := e2 m0 hm
      have s2 := f6 l a1
      have key := fun th hth j => tchk_of (Wd := Wd) (th := th) (q := j) T.ht T.hcn T.hdn hi hth a1 a2 hm a3 a4 a7 (fun q x => e3 l q x a1 a2)
      rw [encW_s, if_neg (nI_nm1 (by omega)), p_parting T hi a1 a2, ob_s, ol_s]
      have hmn : min (lc + i + t 12 (6 * c + i)) (ld + l + t 12 (6 * d + l)) ≤ lc + i + t 12 (6 * c + i) := Nat.min_le_left _ _
      generalize hP : min (lc + i + t 12 (6 * c + i)) (ld + l + t 12 (6 * d + l)) = P at key hmn
      have hmx : (if nI x < nI P - nI m0 then nI P - nI m0 else nI x) = nI (max x (P - m0)) := by
        by_cases hPm : m0 ≤ P
        · rw [pk_sub hPm]
          by_cases hlt : x < P - m0
          · rw [if_pos (nI_lt hlt (by omega)), Nat.max_eq_right (by omega)]
          · rw [if_neg (nI_nlt (by omega) (by omega)), Nat.max_eq_left (by omega)]
        · have : ¬ nI x < nI P - nI m0 := by
            rw [Int32.lt_iff_toInt_lt, pk_sub_toInt (by omega) (by omega), nI_toInt (by omega)]
            omega
          rw [if_neg this, Nat.max_eq_left (by omega)]
      rw [hmx, ol_s, nI_1]
      refine p_cl_L T hF k (i + 1) fuel (max x (P - m0)) (by omega) (by omega) (by omega) (fun th hth => ?_)
      constructor
      · intro hle
        by_cases hx1 : th ≤ x
        · obtain ⟨k', b1, b2⟩ := (hS th hth).mp hx1
          exact ⟨k', by omega, b2⟩
        · refine ⟨i, by omega, m0, (key th hth m0).mpr ⟨Nat.le_refl _, by omega, ?_⟩⟩
          obtain ⟨y, y1, -⟩ := a7
          rw [y1]; simp
      · rintro ⟨k', b1, j, b2⟩
        by_cases e : k' = i
        · subst e
          obtain ⟨d1, d2, -⟩ := (key th hth j).mp b2
          omega
        · have := (hS th hth).mpr ⟨k', by omega, j, b2⟩
          omega
  | k, i, 0, x, _, hf, _, _ => absurd hf (Nat.not_lt_zero k)
theorem p_closeness {F : Nat} {t : Nat → Nat → Nat} {Wd : Nat → Nat → Nat} {hs v lit sc sm : Nat → Int32} {hc c lc hd d ld : Nat} (T : two t Wd hs v lit sc sm hc c lc hd d ld) (hF : 60 < F) : ∃ x, x ≤ 9 ∧ fX4_closeness F hs (nI (t 0 0)) v lit sc sm (nI c) (nI d) = some (nI x) ∧ ∀ th, 1 ≤ th → (th ≤ x ↔ ∃ q, tch t Wd hc c lc hd d ld th q) := by
  obtain ⟨g0, g1, g2, g3, g4, g5, g6⟩ := T.ht.2.2.2.2.2.2.1 c T.hcn
  have hw := two_isLit (F := F) T
  unfold fX4_closeness
  rw [hw.1, ob_s, if_neg one0, hw.2, ob_s, if_neg one0]
  exact p_cl_L T hF (t 10 c) 0 F 0 (by omega) (by omega) (by omega) (fun th hth => ⟨fun h => by omega, fun ⟨k', h, _⟩ => by omega⟩)
theorem p_close_un {F : Nat} {n : Nat} {hs v lit sc sm : Nat → Int32} {c d : Nat} (hn : n ≤ 10) (hc : c < n) (hd : d < n) (h : lit c = -1 ∨ lit d = -1) : fX4_closeness F hs (nI n) v lit sc sm (nI c) (nI d) = some 0 := by
  unfold fX4_closeness
  rw [p_isLit hc hn, ob_s]
  by_cases h1 : lit c = -1
  · rw [if_pos h1, if_pos rfl]
  · rw [if_neg h1, if_neg one0, p_isLit hd hn, ob_s, if_pos (h.resolve_left h1), if_pos rfl]
