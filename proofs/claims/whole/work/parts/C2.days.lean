/-! promises 29 to 31: THE CLASS' TABLES. An option of chimney c is 0 (not lit) or its quarter + 1 -/
def optB (t : Nat → Nat → Nat) (c o : Nat) : Bool := decide (o = 0) || (decide (c < t 0 0) && (decide (t 8 c + 1 ≤ o) && decide (o ≤ t 9 c + 1)))
def shr (t : Nat → Nat → Nat) (c o x : Nat) : Nat := if o ≠ 0 ∧ optB t c o = true then sumL (soG x) (fireL t (tW t) 0 c (o - 1)) else 0
def plc (c o i : Nat) : Nat := (c * 25 + o) * 20 + i
theorem plc_I (c o i : Nat) : ((nI c * (25 : Int32)) + nI o) * (20 : Int32) + nI i = nI (plc c o i) := by
  unfold plc
  rw [show (25 : Int32) = nI 25 from rfl, pk_mul, nI_add, show (20 : Int32) = nI 20 from rfl, pk_mul, nI_add]
theorem p_ls70 {F c o T : Nat} {X : Nat → Nat} {R : Nat → Nat} {ch : Int32} {tX v fs sc sm ts op row : Nat → Int32} {k9 : Int32 → (Nat → Int32) → (Nat → Int32) → (Nat → Int32) → Option ((Nat → Int32) × (Nat → Int32) × (Nat → Int32))} (hc : c < 3) (ho : o < 25) (hT : T ≤ 20) (hX : ∀ i, i < T → X i < 40 ∧ tX i = nI (X i)) (hR : rEq row R) :
    ∀ (k i fuel : Nat) (sh : Nat → Int32), i + k = T → k < fuel → (∀ j, j < i → sh (plc c o j) = nI (R (X j))) → ∃ sh', fX0_layShares_L70 F (nI T) tX ch v fs sc sm ts (nI c) k9 fuel (nI o) (nI i) op row sh = k9 (nI (o + 1)) op row sh' ∧ (∀ j, j < T → sh' (plc c o j) = nI (R (X j))) ∧ ∀ j, (j < plc c o 0 ∨ plc c o 0 + 20 ≤ j) → sh' j = sh j
  | 0, i, fuel + 1, sh, e, _, h => ⟨sh, by rw [fX0_layShares_L70, if_pos (nI_le (by omega) (by omega)), ol_s, nI_1], fun j hj => h j (by omega), fun _ _ => rfl⟩
  | k + 1, i, fuel + 1, sh, e, hf, h => by
    obtain ⟨x1, x2⟩ := hX i (by omega)
    have hp : plc c o i < 1500 := by unfold plc; omega
    obtain ⟨sh', f1, f2, f3⟩ := p_ls70 (F := F) (ch := ch) (v := v) (fs := fs) (sc := sc) (sm := sm) (ts := ts) (op := op) (k9 := k9) hc ho hT hX hR k (i + 1) fuel (upd sh (plc c o i) (nI (R (X i)))) (by omega) (by omega) (fun j hj => by
      by_cases e1 : j = i
      · subst e1; rw [pk_us]
      · rw [pk_un (by unfold plc; omega)]; exact h j (by omega))
    refine ⟨sh', ?_, f2, fun j hj => ?_⟩
    · rw [fX0_layShares_L70, if_neg (nI_ge (by omega) (by omega)), fX0_sharePlace, plc_I, ob_s, vb_nI (by omega) (by decide), og_s, nI_clamp (by omega), x2, vb_nI x1 (by decide), og_s, vb_nI hp (by decide), og_s, ol_s, ol_s, nI_1, nI_clamp (by omega), nI_clamp (by omega), hR _ x1]
      exact f1
    · rw [f3 j hj, pk_un (by unfold plc at hj ⊢; omega)]
  | k, i, 0, sh, _, hf, _ => absurd hf (Nat.not_lt_zero k)
theorem p_ls9 {F c T : Nat} {t : Nat → Nat → Nat} {X : Nat → Nat} {tX hs v lit fs sc sm ts : Nat → Int32} (ht : Tok t) (hP : plOk t hs v lit sc sm) (h2 : ∀ c, c < t 0 0 → fs c = nI (t 8 c)) (h3 : ∀ c, c < t 0 0 → ts c = nI (t 9 c)) (hc : c < 3) (hT : T ≤ 20) (hX : ∀ i, i < T → X i < 40 ∧ tX i = nI (X i)) (hF : 60 < F) :
    ∀ (k o fuel : Nat) (op row sh : Nat → Int32), o + k = 25 → k < fuel → (∀ o', o' < o → ∀ i, i < T → sh (plc c o' i) = nI (shr t c o' (X i))) → bsI (op c) (fun j => j = 0 ∨ (j < o ∧ optB t c j = true)) → ∃ op' row' sh', fX0_layShares_L9 F (nI T) tX (nI (t 0 0)) v fs sc sm ts (nI c) fuel (nI o) op row sh = some (op', row', sh') ∧ (∀ o', o' < 25 → ∀ i, i < T → sh' (plc c o' i) = nI (shr t c o' (X i))) ∧ bsI (op' c) (fun j => j < 25 ∧ optB t c j = true) ∧ (∀ d, d ≠ c → op' d = op d) ∧ ∀ j, (j < plc c o 0 ∨ plc c 25 0 ≤ j) → sh' j = sh j
  | 0, o, fuel + 1, op, row, sh, e, _, h, hb => by
    refine ⟨op, row, sh, ?_, fun o' ho' => h o' (by omega), bsI_iff hb (fun j _ => ?_), fun _ _ => rfl, fun _ _ => rfl⟩
    · rw [fX0_layShares_L9, show o = 25 by omega, if_pos (show (25 : Int32) ≤ nI 25 from nI_le (Nat.le_refl 25) (by decide))]
    · constructor
      · rintro (z | z)
        · subst z; exact ⟨by omega, by simp [optB]⟩
        · exact ⟨by omega, z.2⟩
      · rintro z; exact Or.inr ⟨by omega, z.2⟩
  | k + 1, o, fuel + 1, op, row, sh, e, hf, h, hb => by
    have hn := ht.1
    have hfill : rEq (fillT row 0 40 0) (fun _ => 0) := fun j hj => fillT_in (by omega) hj
    -- going on with a row that holds R
    have go : ∀ (op1 row1 : Nat → Int32) (R : Nat → Nat), rEq row1 R → (∀ x, x < 40 → R x = shr t c o x) → bsI (op1 c) (fun j => j = 0 ∨ (j < o + 1 ∧ optB t c j = true)) → (∀ d, d ≠ c → op1 d = op d) → ∃ op' row' sh', fX0_layShares_L68 F (nI T) tX (nI (t 0 0)) v fs sc sm ts (nI c) (fun x2 v_options v_row v_shares => fX0_layShares_L9 F (nI T) tX (nI (t 0 0)) v fs sc sm ts (nI c) fuel x2 v_options v_row v_shares) (nI o) op1 row1 sh = some (op', row', sh') ∧ (∀ o', o' < 25 → ∀ i, i < T → sh' (plc c o' i) = nI (shr t c o' (X i))) ∧ bsI (op' c) (fun j => j < 25 ∧ optB t c j = true) ∧ (∀ d, d ≠ c → op' d = op d) ∧ ∀ j, (j < plc c o 0 ∨ plc c 25 0 ≤ j) → sh' j = sh j := by
      intro op1 row1 R hR hRs hb1 hd1
      obtain ⟨sh1, s1, s2, s3⟩ := p_ls70 (F := F) (ch := nI (t 0 0)) (v := v) (fs := fs) (sc := sc) (sm := sm) (ts := ts) (op := op1) (k9 := fun x2 v_options v_row v_shares => fX0_layShares_L9 F (nI T) tX (nI (t 0 0)) v fs sc sm ts (nI c) fuel x2 v_options v_row v_shares) hc (show o < 25 by omega) hT hX hR T 0 F sh (by omega) (by omega) (fun j hj => by omega)
      obtain ⟨op', row', sh', f1, f2, f3, f4, f5⟩ := p_ls9 (F := F) ht hP h2 h3 hc hT hX hF k (o + 1) fuel op1 row1 sh1 (by omega) (by omega) (fun o' ho' i hi => by
        by_cases e1 : o' = o
        · subst e1; rw [s2 i hi, hRs _ (hX i hi).1]
        · rw [s3 _ (by unfold plc; omega)]; exact h o' (by omega) i hi) hb1
      refine ⟨op', row', sh', s1.trans f1, f2, f3, fun d hd => (f4 d hd).trans (hd1 d hd), fun j hj => ?_⟩
      rw [f5 j (by unfold plc at hj ⊢; omega), s3 j (by unfold plc at hj ⊢; omega)]
    have none' : optB t c o = false → bsI (op c) (fun j => j = 0 ∨ (j < o + 1 ∧ optB t c j = true)) := fun hno => bsI_iff hb (fun j _ => ⟨fun z => z.elim Or.inl (fun y => Or.inr ⟨by omega, y.2⟩), fun z => z.elim Or.inl (fun y => by
      by_cases e1 : j = o
      · subst e1; rw [hno] at y; cases y.2
      · exact Or.inr ⟨by omega, y.2⟩)⟩)
    rw [fX0_layShares_L9, if_neg (show ¬ (25 : Int32) ≤ nI o from nI_ge (a := o) (b := 25) (by omega) (by decide)), p_fillI (by omega) (by decide), ob_s]
    cases o with
    | zero =>
      rw [if_pos (show nI 0 ≤ 0 from nI_le (Nat.le_refl 0) (by decide))]
      exact go op _ _ hfill (fun x _ => by unfold shr; rw [if_neg (fun z => z.1 rfl)]) (bsI_iff hb (fun j _ => ⟨fun z => z.elim Or.inl (fun y => by omega), fun z => z.elim Or.inl (fun y => Or.inl (by omega))⟩)) (fun _ _ => rfl)
    | succ q =>
      rw [if_neg (nI_nle (by omega) (by omega)), nI_pred]
      by_cases hcn : c < t 0 0
      · obtain ⟨g0, g1, g2, g3, g4, g5, g6⟩ := ht.2.2.2.2.2.2.1 c hcn
        obtain ⟨p1, p2, p3, p4⟩ := hP c hcn
        have hmay : mayB t c (nI q) = optB t c (q + 1) := by
          unfold mayB optB
          rw [nI_toInt (by omega)]
          rw [Bool.eq_iff_iff]
          simp
          omega
        rw [p_mayBeLit ht hcn (h2 c hcn) (h3 c hcn), ob_s, hmay]
        cases ho : optB t c (q + 1) with
        | false =>
          rw [bI_0 rfl, if_pos rfl]
          exact go op _ _ hfill (fun x _ => by unfold shr; rw [if_neg (fun z => by rw [ho] at z; cases z.2)]) (none' ho) (fun _ _ => rfl)
        | true =>
          have hq : t 8 c ≤ q ∧ q ≤ t 9 c := by
            unfold optB at ho
            simp at ho
            omega
          obtain ⟨row1, a1, a2⟩ := p_addSoot (F := F) (lit := q) (Wd := tW t) ht hcn (by omega) p3 p4 (fun k hk => p1.2 (q + k) (by omega) (by omega)) hfill hF
          rw [bI_1 rfl, if_neg one0, vb_nI hc (by decide), og_s, og_s, ol_s, nI_clamp (by omega), a1, ob_s]
          refine go _ row1 _ a2 (fun x hx => ?_) ?_ (fun d hd => pk_un hd)
          · unfold shr
            rw [if_pos ⟨by omega, ho⟩, Nat.zero_add]; rfl
          · rw [pk_us]
            refine bsI_iff (bsI_or hb (bsI_bit (q := q + 1) (by omega))) (fun j _ => ?_)
            constructor
            · rintro ((z | z) | z)
              · exact Or.inl z
              · exact Or.inr ⟨by omega, z.2⟩
              · subst z; exact Or.inr ⟨by omega, ho⟩
            · rintro (z | z)
              · exact Or.inl (Or.inl z)
              · by_cases e1 : j = q + 1
                · exact Or.inr e1
                · exact Or.inl (Or.inr ⟨by omega, z.2⟩)
      · have hno : optB t c (q + 1) = false := by unfold optB; simp [hcn]
        have hvb : vb (nI c) (t 0 0) = false := by
          cases hv : vb (nI c) (t 0 0) with
          | false => rfl
          | true =>
            obtain ⟨i, hi, hie⟩ := vb_of (by omega) hv
            have := (nI_eq (by omega) (by omega)).mp hie
            omega
        have hm : fX7_mayBeLit F (nI (t 0 0)) fs ts (nI c) (nI q) = some 0 := by
          unfold fX7_mayBeLit
          rw [p_hasN (by omega) hvb, ob_s, if_pos rfl]
        rw [hm, ob_s, if_pos rfl]
        exact go op _ _ hfill (fun x _ => by unfold shr; rw [if_neg (fun z => by rw [hno] at z; cases z.2)]) (none' hno) (fun _ _ => rfl)
  | k, o, 0, op, row, sh, _, hf, _, _ => absurd hf (Nat.not_lt_zero k)
theorem p_layShares {F c T : Nat} {t : Nat → Nat → Nat} {X : Nat → Nat} {tX hs v lit fs sc sm ts op row sh : Nat → Int32} (ht : Tok t) (hP : plOk t hs v lit sc sm) (h2 : ∀ c, c < t 0 0 → fs c = nI (t 8 c)) (h3 : ∀ c, c < t 0 0 → ts c = nI (t 9 c)) (hc : c < 3) (hT : T ≤ 20) (hX : ∀ i, i < T → X i < 40 ∧ tX i = nI (X i)) (hF : 60 < F) : ∃ op' row' sh', fX0_layShares F (nI T) op row sh tX (nI (t 0 0)) v fs sc sm ts (nI c) = some (op', row', sh') ∧ (∀ o', o' < 25 → ∀ i, i < T → sh' (plc c o' i) = nI (shr t c o' (X i))) ∧ bsI (op' c) (fun j => j < 25 ∧ optB t c j = true) ∧ (∀ d, d ≠ c → op' d = op d) ∧ ∀ j, (j < plc c 0 0 ∨ plc c 25 0 ≤ j) → sh' j = sh j := by
  have b0 : bsI ((1 : Int32) <<< (nI 0 &&& 31)) (fun j => j = 0) := bsI_bit (q := 0) (by decide)
  obtain ⟨op', row', sh', f1, f2, f3, f4, f5⟩ := p_ls9 (F := F) (c := c) (X := X) (tX := tX) ht hP h2 h3 hc hT hX hF 25 0 F (upd op c 1) row sh (by omega) (by omega) (fun o' ho' => by omega) (by
    rw [pk_us]
    exact bsI_iff b0 (fun j _ => ⟨Or.inl, fun z => z.elim id (fun y => by omega)⟩))
  refine ⟨op', row', sh', ?_, f2, f3, fun d hd => (f4 d hd).trans (pk_un hd), f5⟩
  unfold fX0_layShares
  rw [vb_nI hc (by decide), og_s, ol_s, nI_clamp (by omega)]
  exact f1
