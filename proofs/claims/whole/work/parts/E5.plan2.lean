/-- the reference's best so far -/
def bR (U : Nat) (B : Nat × Nat × (Nat → Nat)) (bl bs : Int32) (bo : Nat → Int32) : Prop := (B.1 = 24 ∧ B.2.1 = 0 ∧ bl = -1) ∨ (B.1 ≤ 23 ∧ bl = nI B.1 ∧ bs = nI B.2.1 ∧ B.2.1 ≤ 200 ∧ ∀ k, k < U → bo k = nI (B.2.2 k))
theorem p_pf84 {F U i la su : Nat} {ap fo : Nat → Int32} {rM : Int32 → Int32 → (Nat → Int32) → (Nat → Int32) → Int32 → Int32 → Int32 → Option (Int32 × Int32 × (Nat → Int32) × (Nat → Int32))} {f : Nat → Nat → Bool} {x : Nat → Nat → Nat → Nat → Bool} {s : Nat → Bool} {g : Nat → Nat} (hU : U ≤ 5) (hi : i < U) (hs : ∀ j, j < U → s j = true) (hT : rfI f x U 23 fo ap) (hla : la ≤ 23) (hsu : su ≤ 23 * i) (hF : 6 < F)
    (hR : ∀ (g1 : Nat → Nat) (la1 su1 : Nat) (B : Nat × Nat × (Nat → Nat)) (bl bs : Int32) (bo qo1 : Nat → Int32), la1 ≤ 23 → su1 ≤ 23 * (i + 1) → bR U B bl bs bo → chs f s g1 (i + 1) qo1 → ∃ bl' bs' bo' qo2, rM bl bs bo qo1 (nI (i + 1)) (nI la1) (nI su1) = some (bl', bs', bo', qo2) ∧ bR U ((PL f x s (U - (i + 1)) (i + 1) g1 la1 su1).foldl stp B) bl' bs' bo' ∧ ∀ j, j < i + 1 → qo2 j = qo1 j) :
    ∀ (n q fuel : Nat) (B : Nat × Nat × (Nat → Nat)) (bl bs : Int32) (bo qo : Nat → Int32), q + n = 24 → n < fuel → bR U B bl bs bo → chs f s g i qo → ∃ bl' bs' bo' qo', fX10_plansFrom_L84 F (nI U) ap fo (nI i) (nI la) (nI su) rM fuel (nI q) bl bs bo qo = some (bl', bs', bo', qo') ∧ bR U ((fromQ (plH f x s (U - (i + 1)) i g la su) n q).foldl stp B) bl' bs' bo' ∧ ∀ j, j < i → qo' j = qo j
  | 0, q, fuel + 1, B, bl, bs, bo, qo, h, _, hB, hg => by
    refine ⟨bl, bs, bo, qo, ?_, hB, fun _ _ => rfl⟩
    rw [fX10_plansFrom_L84, if_pos (show (24 : Int32) ≤ nI q from nI_le (a := 24) (b := q) (by omega) (by omega))]
  | n + 1, q, fuel + 1, B, bl, bs, bo, qo, h, hf, hB, hg => by
    have IH := fun B0 bl0 bs0 bo0 qo0 => p_pf84 (F := F) (g := g) hU hi hs hT hla hsu hF hR n (q + 1) fuel B0 bl0 bs0 bo0 qo0 (by omega) (by omega)
    have gw := p_goesWith (F := F) (m := 31) (q := q) hU (Nat.le_refl 23) hi (fun j hj => by rw [hs j hj]; exact (by decide : ∀ j, j < 5 → (31 : Nat).testBit j = true) j (by omega)) hT hg (by omega) hF
    have gw' : fX10_goesWith F ap fo qo (nI i) (nI q) 31 = _ := gw
    rw [fX10_plansFrom_L84, if_neg (show ¬ (24 : Int32) ≤ nI q from nI_ge (a := q) (b := 24) (by omega) (by decide)), gw', ob_s, fromQ_s, List.foldl_append]
    cases hb : goB f x s g i i q with
    | false =>
      rw [bI_0 rfl, if_pos rfl, fX10_plansFrom_L137, ol_s, nI_1, plH_no hb, List.foldl_nil]
      exact IH B bl bs bo qo hB hg
    | true =>
      obtain ⟨bl1, bs1, bo1, qo2, e1, e2, e3⟩ := hR (va_up g i q) (max la q) (su + q) B bl bs bo (upd qo i (nI q)) (by omega) (by omega) hB (chs_up hg (goB_iff.mp hb).1)
      have e4 : ∀ j, j < i → qo2 j = qo j := fun j hj => by rw [e3 j (by omega), pk_un (by omega)]
      obtain ⟨bl', bs', bo', qo', f1, f2, f3⟩ := IH _ bl1 bs1 bo1 qo2 e2 (chs_congr hg e4)
      refine ⟨bl', bs', bo', qo', ?_, by rw [plH_yes hb]; exact f2, fun j hj => by rw [f3 j hj, e4 j hj]⟩
      rw [bI_1 rfl, if_neg one0, vb_nI (show i < 5 by omega) (by decide), og_s, ol_s, nI_clamp (by omega)]
      have hmx : (if nI q ≤ nI la then nI la else nI q) = nI (max la q) := by
        by_cases c : q ≤ la
        · rw [if_pos (nI_le c (by omega)), show max la q = la by omega]
        · rw [if_neg (nI_ge (by omega) (by omega)), show max la q = q by omega]
      by_cases c : nI q ≤ nI la
      · rw [if_pos c] at hmx ⊢
        have hq : max la q = la := (nI_eq (by omega) (by omega)).mp hmx.symm
        rw [hq] at e1
        rw [fX10_plansFrom_L130, nI_add, show nI i + (1 : Int32) = nI (i + 1) from nI_1 i, e1, ob_s]
        dsimp only
        rw [fX10_plansFrom_L137, ol_s, nI_1]
        exact f1
      · rw [if_neg c] at hmx ⊢
        unfold fX10_plansFrom_L130
        rw [nI_add, show nI i + (1 : Int32) = nI (i + 1) from nI_1 i]
        have e1' : rM bl bs bo (upd qo i (nI q)) (nI (i + 1)) (nI q) (nI (su + q)) = some (bl1, bs1, bo1, qo2) := by
          have hq : nI q = nI (max la q) := hmx
          rw [show rM bl bs bo (upd qo i (nI q)) (nI (i + 1)) (nI q) (nI (su + q)) = rM bl bs bo (upd qo i (nI q)) (nI (i + 1)) (nI (max la q)) (nI (su + q)) by
            have : max la q = q := (nI_eq (by omega) (by omega)).mp hq.symm
            rw [this]]
          exact e1
        rw [e1', ob_s]
        dsimp only
        rw [fX10_plansFrom_L137, ol_s, nI_1]
        exact f1
  | n, q, 0, B, bl, bs, bo, qo, _, hf, _, _ => absurd hf (Nat.not_lt_zero n)
theorem p_pf54 {F U i : Nat} {la su bl bs : Int32} {ap fo qo : Nat → Int32} {rM : Int32 → Int32 → (Nat → Int32) → (Nat → Int32) → Int32 → Int32 → Int32 → Option (Int32 × Int32 × (Nat → Int32) × (Nat → Int32))} (hi : i ≤ 5) :
    ∀ (n k fuel : Nat) (bo : Nat → Int32), k + n = i → n < fuel → ∃ bo', fX10_plansFrom_L54 F (nI U) ap fo (nI i) la su rM fuel (nI k) bl bs bo qo = some (bl, bs, bo', qo) ∧ (∀ j, k ≤ j → j < i → bo' j = qo j) ∧ ∀ j, j < k → bo' j = bo j
  | 0, k, fuel + 1, bo, h, _ => by
    refine ⟨bo, ?_, fun j a b => by omega, fun _ _ => rfl⟩
    rw [fX10_plansFrom_L54, if_pos (nI_le (by omega) (by omega))]
  | n + 1, k, fuel + 1, bo, h, hf => by
    obtain ⟨bo', e1, e2, e3⟩ := p_pf54 (F := F) (U := U) (la := la) (su := su) (bl := bl) (bs := bs) (ap := ap) (fo := fo) (qo := qo) (rM := rM) hi n (k + 1) fuel (upd bo k (qo k)) (by omega) (by omega)
    refine ⟨bo', ?_, fun j a b => ?_, fun j hj => by rw [e3 j (by omega), pk_un (by omega)]⟩
    · rw [fX10_plansFrom_L54, if_neg (nI_ge (by omega) (by omega)), vb_nI (show k < 5 by omega) (by decide), og_s, og_s, ol_s, ol_s, nI_1, nI_clamp (by omega)]; exact e1
    · by_cases e : j = k
      · subst e; rw [e3 j (by omega), pk_us]
      · exact e2 j (by omega) b
  | n, k, 0, bo, _, hf => absurd hf (Nat.not_lt_zero n)
theorem p_plansFrom {F U : Nat} {ap fo : Nat → Int32} {f : Nat → Nat → Bool} {x : Nat → Nat → Nat → Nat → Bool} {s : Nat → Bool} (hU : U ≤ 5) (hs : ∀ j, j < U → s j = true) (hT : rfI f x U 23 fo ap) (hF : 24 < F) :
    ∀ (d i : Nat) (g : Nat → Nat) (la su : Nat) (B : Nat × Nat × (Nat → Nat)) (bl bs : Int32) (bo qo : Nat → Int32), U - i < d → i ≤ U → la ≤ 23 → su ≤ 23 * i → bR U B bl bs bo → chs f s g i qo → ∃ bl' bs' bo' qo', fX10_plansFrom F (nI U) ap fo d bl bs bo qo (nI i) (nI la) (nI su) = some (bl', bs', bo', qo') ∧ bR U ((PL f x s (U - i) i g la su).foldl stp B) bl' bs' bo' ∧ ∀ j, j < i → qo' j = qo j
  | 0, i, g, la, su, B, bl, bs, bo, qo, h, _, _, _, _, _ => absurd h (Nat.not_lt_zero _)
  | d + 1, i, g, la, su, B, bl, bs, bo, qo, h, hi, hla, hsu, hB, hg => by
    have go : (B.1 = 24 ∨ snr (la, su, g) B = true) → ∃ bl' bs' bo' qo', fX10_plansFrom_L33 F (nI U) ap fo (nI i) (nI la) (nI su) (fX10_plansFrom F (nI U) ap fo d) bl bs bo qo = some (bl', bs', bo', qo') ∧ bR U ((PL f x s (U - i) i g la su).foldl stp B) bl' bs' bo' ∧ ∀ j, j < i → qo' j = qo j := by
      intro hsn
      unfold fX10_plansFrom_L33
      by_cases e : i = U
      · obtain ⟨bo', e1, e2, -⟩ := p_pf54 (F := F) (U := U) (la := nI la) (su := nI su) (bl := nI la) (bs := nI su) (ap := ap) (fo := fo) (qo := qo) (rM := fX10_plansFrom F (nI U) ap fo d) (show i ≤ 5 by omega) i 0 F bo (by omega) (by omega)
        refine ⟨nI la, nI su, bo', qo, ?_, ?_, fun _ _ => rfl⟩
        · rw [if_pos (by rw [e])]; exact e1
        · have hPL : PL f x s (U - i) i g la su = [(la, su, g)] := by rw [e, Nat.sub_self]; rfl
          rw [hPL]
          show bR U (stp B (la, su, g)) _ _ _
          have hst : stp B (la, su, g) = (la, su, g) := by
            unfold stp
            have : snr (la, su, g) B = true := by
              rcases hsn with z | z
              · rw [snr_iff]; left; show la < B.1; omega
              · exact z
            rw [this]; rfl
          rw [hst]
          refine Or.inr ⟨hla, rfl, rfl, by show su ≤ 200; omega, fun k hk => ?_⟩
          rw [e2 k (Nat.zero_le _) (by omega)]
          exact (hg k (by omega) (hs k hk)).2
      · have hr : U - i = U - (i + 1) + 1 := by omega
        rw [if_neg (nI_ne (by omega) (by omega) e), hr, PL_in (hs i (by omega))]
        exact p_pf84 (F := F) (g := g) hU (by omega) hs hT hla hsu (by omega) (fun g1 la1 su1 B1 bl1 bs1 bo1 qo1 q1 q2 q3 q4 => p_plansFrom hU hs hT hF d (i + 1) g1 la1 su1 B1 bl1 bs1 bo1 qo1 (by omega) (by omega) q1 q2 q3 q4) 24 0 F B bl bs bo qo (by omega) (by omega) hB hg
    rw [fX10_plansFrom]
    rcases id hB with ⟨h1, h2, h3⟩ | ⟨h1, h2, h3, h4, h5⟩
    · rw [if_pos h3]; exact go (Or.inl h1)
    · have prune : (B.1 < la ∨ (la = B.1 ∧ B.2.1 ≤ su)) → (PL f x s (U - i) i g la su).foldl stp B = B := by
        intro hp
        refine fold_no _ (fun p hpm => ?_)
        have lb := PL_lb (lo := fun _ => 0) (U - i) i g la su (fun j a b => ⟨hs j (by omega), fun q _ _ => Nat.zero_le q⟩) hpm
        have m1 := mxl_ge (fun _ => 0) (U - i) i la
        cases hsn : snr p B with
        | false => rfl
        | true =>
          have := snr_iff.mp hsn
          omega
      rw [if_neg (by rw [h2]; exact nI_nm1 (by omega))]
      by_cases c1 : B.1 < la
      · rw [if_pos (by rw [h2]; exact nI_lt c1 (by omega))]
        exact ⟨bl, bs, bo, qo, rfl, by rw [prune (Or.inl c1)]; exact hB, fun _ _ => rfl⟩
      · rw [if_neg (by rw [h2]; exact nI_nlt (by omega) (by omega))]
        by_cases c2 : la = B.1
        · rw [if_pos (by rw [h2, c2])]
          by_cases c3 : su < B.2.1
          · rw [if_pos (by rw [h3]; exact nI_lt c3 (by omega))]
            exact go (Or.inr (snr_iff.mpr (Or.inr ⟨c2, c3⟩)))
          · rw [if_neg (by rw [h3]; exact nI_nlt (by omega) (by omega))]
            exact ⟨bl, bs, bo, qo, rfl, by rw [prune (Or.inr ⟨c2, by omega⟩)]; exact hB, fun _ _ => rfl⟩
        · rw [if_neg (by rw [h2]; exact nI_ne (by omega) (by omega) c2)]
          exact go (Or.inr (snr_iff.mpr (Or.inl (by show la < B.1; omega))))
/-- both sides find one plan, or none -/
theorem p_both {F U : Nat} {cl op ch so ap fo bo qo : Nat → Int32} {sl ss bs : Int32} {f : Nat → Nat → Bool} {x : Nat → Nat → Nat → Nat → Bool} (hU : U ≤ 5) (hcl : clI x U cl) (hT : rfI f x U 23 fo ap) (ho : opF f U op) (hF : 32 < F) :
    (fstIs (fX6_findSoonest F (nI U) sl ss ch cl op so) 0 ∧ fstIs (fX10_plansFrom F (nI U) ap fo 8 (-1) bs bo qo 0 0 0) (-1)) ∨ ∃ (la su : Nat) (g : Nat → Nat) (ch' op' so' bo' qo' : Nat → Int32), la ≤ 23 ∧ fX6_findSoonest F (nI U) sl ss ch cl op so = some (1, nI la, nI su, ch', op', so') ∧ fX10_plansFrom F (nI U) ap fo 8 (-1) bs bo qo 0 0 0 = some (nI la, nI su, bo', qo') ∧ ∀ k, k < U → so' k = nI (g k) ∧ bo' k = nI (g k) := by
  have hp := pw_U U (by omega)
  obtain ⟨R, op2, s1, s2, s3⟩ := p_shutSet (F := F) (f := f) hU hcl hF ho
  obtain ⟨bl', bs', bo', qo', m1, m2, -⟩ := p_plansFrom (F := F) (s := fun j => (2 ^ U - 1).testBit j) hU (fun j hj => by rw [full_tb]; exact decide_eq_true hj) hT (by omega) 8 0 (fun _ => 0) 0 0 (24, 0, fun _ => 0) (-1) bs bo qo (by omega) (by omega) (by omega) (by omega) (Or.inl ⟨rfl, rfl, rfl⟩) (fun j hj => by omega)
  have m1' : fX10_plansFrom F (nI U) ap fo 8 (-1) bs bo qo 0 0 0 = some (bl', bs', bo', qo') := m1
  rw [Nat.sub_zero] at m2
  have hop0 : opI f x (fun j => (2 ^ U - 1).testBit j) (fun _ => 0) U op2 0 0 := fun j a b c d e => by
    rw [Nat.mul_zero, Nat.zero_add, s3 j b d e]
    unfold goB noC
    simp
  unfold fX6_findSoonest
  rw [s1, ob_s, m1']
  dsimp only
  by_cases e : R = 0
  · rw [e, if_pos nI_0]
    by_cases hU0 : U = 0
    · subst hU0
      refine Or.inr ⟨0, 0, fun _ => 0, ch, op2, so, bo', qo', by omega, ?_, ?_, fun k hk => by omega⟩
      · obtain ⟨sl', ss', ch', op', so', c1, c2, c3, -⟩ := p_seek (F := F) (s := fun j => (2 ^ 0 - 1).testBit j) (Nat.zero_le 5) (fun j hj => by omega) (fun j hj => by rw [full_tb] at hj; exact of_decide_eq_true hj) hcl (by omega) 8 0 0 0 (fun _ => 0) 0 0 (0, 0, fun _ => 0) 0 0 ch op2 so (by omega) (by omega) (by omega) (by omega) (fun j hj => by simp) (by omega) (by omega) ⟨rfl, rfl, by decide, by decide, fun _ k hk => by omega⟩ (fun j hj => by omega) hop0
        rfl
      · rcases m2 with ⟨z, -⟩ | ⟨-, z1, z2, -⟩
        · exact absurd (show (0 : Nat) = 24 from z) (by decide)
        · rw [z1, z2]; rfl
    · have hp1 : 1 < 2 ^ U := by
        have : 2 ^ 1 ≤ 2 ^ U := Nat.pow_le_pow_right (by decide) (by omega)
        omega
      obtain ⟨sl', ss', ch', op', so', c1, c2, c3, -⟩ := p_seek (F := F) (s := fun j => (2 ^ U - 1).testBit j) hU (fun j hj => by rw [full_tb]; exact decide_eq_true hj) (fun j hj => by rw [full_tb] at hj; exact of_decide_eq_true hj) hcl (by omega) 8 0 0 (2 ^ U - 1) (fun _ => 0) 0 0 (24, 0, fun _ => 0) 24 0 ch op2 so (by omega) (by omega) (by omega) (by omega) (fun j hj => by simp) (by omega) (by omega) ⟨rfl, rfl, by decide, by decide, fun z => absurd z (by decide)⟩ (fun j hj => by omega) hop0
      have c1' : fX6_seekSoonest F (nI U) cl 8 24 0 ch op2 so 0 (nI (2 ^ U - 1)) 0 0 = some (sl', ss', ch', op', so') := c1
      rw [Nat.sub_zero] at c2
      have hne : PL f x (fun j => (2 ^ U - 1).testBit j) U 0 (fun _ => 0) 0 0 ≠ [] := by
        have : hasP f x U (2 ^ U - 1) = true := by
          rcases s2 with ⟨-, z⟩ | ⟨z, -⟩
          · exact z _ (by omega) (by omega)
          · omega
        unfold hasP at this
        intro z
        rw [z] at this; cases this
      have hlt := fold_lt _ (24, 0, fun _ => 0) (fun p hp => by have := (PL_keep _ _ _ _ _ hp).1; omega) (by decide) (Or.inr hne)
      generalize (PL f x (fun j => (2 ^ U - 1).testBit j) U 0 (fun _ => 0) 0 0).foldl stp (24, 0, fun _ => 0) = B at m2 c2 hlt
      obtain ⟨d1, d2, d3, d4, d5⟩ := c2
      rcases m2 with ⟨z, -⟩ | ⟨z0, z1, z2, z3, z4⟩
      · omega
      · refine Or.inr ⟨B.1, B.2.1, B.2.2, ch', op', so', bo', qo', hlt, ?_, by rw [z1, z2], fun k hk => ⟨d5 (by omega) k hk, z4 k hk⟩⟩
        rw [if_neg (nI_ne0 (by omega) (by omega)), fX6_findSoonest_L23, hp.1, show nI (2 ^ U) - (1 : Int32) = nI (2 ^ U - 1) from pk_sub (b := 1) hp.2.1, c1', ob_s, d1, d2]
  · obtain ⟨r1, r2, r3, -⟩ : 1 ≤ R ∧ R < 2 ^ U ∧ hasP f x U R = false ∧ _ := by
      rcases s2 with ⟨a, -⟩ | a
      · exact absurd a e
      · exact a
    left
    rw [if_neg (nI_ne0 (by omega) (by omega))]
    refine ⟨fst_mk, ?_⟩
    rw [full_no r2 r3] at m2
    rcases m2 with ⟨-, -, z⟩ | ⟨z, -⟩
    · rw [z]; exact fst_mk
    · exact absurd z (by decide)
