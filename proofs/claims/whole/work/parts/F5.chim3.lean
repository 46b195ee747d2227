theorem addSm {F C k : Nat} {sc sm : Nat → Int32} {x : Int32} (hC : C < 10) (hk : k < 6) (h : sc C = nI k) : fX7_addSmoke F (nI (C + 1)) sc sm x = some (upd sc C (nI (k + 1)), upd sm (6 * C + k) x) := by
  unfold fX7_addSmoke
  rw [ol_s, show nI (C + 1) - (1 : Int32) = nI C from nI_pred C, if_neg (nI_pos (by omega)), vb_nI hC (by decide), og_s, nI_clamp (by omega), h, if_neg (show ¬ (6 : Int32) ≤ nI k from nI_ge (a := k) (b := 6) hk (by decide)), og_s]
  have ei : nI C * (6 : Int32) + nI k = nI (6 * C + k) := by
    rw [show (6 : Int32) = nI 6 from rfl, pk_mul, nI_add, Nat.mul_comm]
  rw [ei, vb_nI (show 6 * C + k < 60 by omega) (by decide), og_s, ol_s, og_s, og_s, ol_s, nI_clamp (by omega), show nI k + (1 : Int32) = nI (k + 1) from nI_1 k]
/-- what a chimney's smokes leave: K of them, told as S -/
def smR (C k K : Nat) (S : Nat → Nat) (sc sm fr sc' sm' fr' : Nat → Int32) : Prop := k ≤ K ∧ K ≤ 6 ∧ sc' C = nI K ∧ (∀ j, j ≠ C → sc' j = sc j) ∧ (∀ i, k ≤ i → i < K → 1 ≤ S i ∧ S i ≤ 9 ∧ sm' (6 * C + i) = nI (S i) ∧ fr' (66 + 6 * C + i) = nI (S i)) ∧ (∀ j, (j < 6 * C + k ∨ 6 * C + 6 ≤ j) → sm' j = sm j) ∧ (∀ j, (j < 66 + 6 * C + k ∨ 66 + 6 * C + 6 ≤ j) → fr' j = fr j)
theorem rc63_L99 {F : Nat} {sz x1 x2 x3 at' bh ki nu w wa : Int32} {k : Nat} {m fr : Nat → Int32} {k49 : Int32 → Int32 → Int32 → Int32 → Int32 → Int32 → Int32 → Int32 → Int32 → Int32 → (Nat → Int32) → Option (Int32 × Int32 × Int32 × Int32 × Int32 × Int32 × (Nat → Int32))} (hk : k < 6) : fX10_readChimney_L63 F sz m k49 x1 x2 x3 (nI k) at' bh ki nu w wa fr = fX10_readChimney_L99 F sz m k49 x1 x2 x3 (nI k) at' bh ki nu w wa fr := by
  unfold fX10_readChimney_L63
  rw [p_within32, ob_s, if_neg (show ¬ nI k = 6 from nI_ne (a := k) (b := 6) (by omega) (by decide) (by omega))]
  have hi : ∃ r : Bool, fX10_is F ki w 8 = some (bI r) := by
    unfold fX10_is
    split
    · split
      · exact ⟨true, rfl⟩
      · exact ⟨false, rfl⟩
    · exact ⟨false, rfl⟩
  obtain ⟨r, hr⟩ := hi
  rw [hr, ob_s, ite_self]
  cases r <;> rfl
theorem p_smk2 {F n C X H : Nat} {c m fs hs lit ts xs : Nat → Int32} (hTok : ∀ q, q ≤ n → ∃ a b kd v, tokP F n c m q a b kd v) (hC : C < 10) :
    ∀ (r k lb fuel fuel' : Nat) (nx st so va at' bh ki nu wa : Int32) (sc sm fr : Nat → Int32), k + r = 6 → 1 ≤ k → r + 1 < fuel → r < fuel' → sc C = nI k → RC F n c m lb 0 (-1) nx st so va at' bh ki nu 0 wa →
    (∃ K S nx' st' so' va' at'' bh' ki' nu' wa' sc' sm' fr', fX5_readChimney_L63 F (nI n) c fuel (nI k) 0 (-1) nx st so va (nI (C + 1)) fs hs lit sc sm ts xs = fX5_readChimney_L95 F (nI n) c 0 (-1) nx' st' so' va' (nI (C + 1)) fs hs lit sc' sm' ts xs ∧ fX10_readChimney_L49 F (nI n) m fuel' (nI C) (nI X) (nI H) (nI k) at' bh ki nu 0 wa fr = rfF F (nI n) m (nI C) (nI X) (nI H) (nI K) at'' bh' ki' nu' 0 wa' fr' ∧ RC F n c m lb 0 (-1) nx' st' so' va' at'' bh' ki' nu' 0 wa' ∧ smR C k K S sc sm fr sc' sm' fr') ∨
    (∃ f' pl' nx' st' so' va' at'' bh' ki' nu' wa' sc' sm' fr', ¬ f' = 0 ∧ fX5_readChimney_L63 F (nI n) c fuel (nI k) 0 (-1) nx st so va (nI (C + 1)) fs hs lit sc sm ts xs = fX5_readChimney_L95 F (nI n) c f' pl' nx' st' so' va' (nI (C + 1)) fs hs lit sc' sm' ts xs ∧ fX10_readChimney_L49 F (nI n) m fuel' (nI C) (nI X) (nI H) (nI k) at' bh ki nu 0 wa fr = some (at'', bh', ki', nu', f', pl', fr') ∧ RC F n c m lb f' pl' nx' st' so' va' at'' bh' ki' nu' f' wa')
  | r, k, lb, fuel, fuel', nx, st, so, va, at', bh, ki, nu, wa, sc, sm, fr, hr, hk1, hf, hf', hsc, hRC => by
    obtain ⟨fu, rfl⟩ : ∃ fu, fuel = fu + 1 := ⟨fuel - 1, by omega⟩
    obtain ⟨fu', rfl⟩ : ∃ fu, fuel' = fu + 1 := ⟨fuel' - 1, by omega⟩
    have hRC0 := hRC
    obtain ⟨p, a, b, kd, v, hT, ⟨rfl, rfl, rfl, hva⟩, hx⟩ := hRC
    rcases hx with ⟨-, -, -, hlb, rfl, rfl, rfl, hnu⟩ | ⟨z, -⟩
    · obtain ⟨q1, q2, q3, q4, q5, q6⟩ := hT.1
      have hk6 : ¬ (6 : Int32) < nI k := nI_nlt (a := 6) (b := k) (by omega) (by decide)
      have hkz : ¬ nI k = 0 := nI_ne0 (by omega) (by omega)
      have his : fX10_is F (nI kd) 0 8 = some (bI (decide (kd = 8))) := is0 (j := 8) q4 (by decide)
      by_cases e : kd = 8
      · subst e
        have hva' := hva rfl
        have hnu' := hnu rfl
        subst hva'
        subst hnu'
        by_cases ok : 1 ≤ v ∧ v ≤ 9
        · by_cases hk5 : k < 6
          · -- one smoke more
            obtain ⟨a', b', kd', v', hT'⟩ := hTok b q3
            obtain ⟨y, y1, y2⟩ := takR_ok (a := a) (wa := wa) (lo := 1) (hi := 9) q5 (by decide) (by decide) hT' ok.1 ok.2
            have y1' : fX10_takes F (nI a) (nI b) (nI n) (nI 8) (nI v) 0 wa m 1 9 = _ := y1
            obtain ⟨x, x1, x2⟩ := hT'.2.1 (nI a) (nI (srt 8)) (nI v)
            have hRC' : RC F n c m lb 0 (-1) (nI b') (nI a') (nI (srt kd')) x (nI a') (nI b') (nI kd') y 0 wa := ⟨b, a', b', kd', v', hT', ⟨rfl, rfl, rfl, x2⟩, Or.inl ⟨rfl, rfl, rfl, by have := hT'.1.1; omega, rfl, rfl, rfl, y2⟩⟩
            have hsc' : upd sc C (nI (k + 1)) C = nI (k + 1) := pk_us
            have cstep : fX5_readChimney_L63 F (nI n) c (fu + 1) (nI k) 0 (-1) (nI b) (nI a) (nI (srt 8)) (nI v) (nI (C + 1)) fs hs lit sc sm ts xs = fX5_readChimney_L63 F (nI n) c fu (nI (k + 1)) 0 (-1) (nI b') (nI a') (nI (srt kd')) x (nI (C + 1)) fs hs lit (upd sc C (nI (k + 1))) (upd sm (6 * C + k) (nI v)) ts xs := by
              rw [fX5_readChimney_L63, if_neg hk6, if_pos ((srt2 q4).mpr rfl), if_pos rfl]
              have hfs : fX5_readFurtherSmoke F 0 (-1) (nI n) (nI b) (nI a) (nI (srt 8)) (nI v) (nI (C + 1)) c sc sm (nI k) = some (0, -1, nI b', nI a', nI (srt kd'), x, upd sc C (nI (k + 1)), upd sm (6 * C + k) (nI v)) := by
                unfold fX5_readFurtherSmoke
                rw [if_neg (show ¬ nI v < 1 from nI_nlt (a := v) (b := 1) ok.1 (by omega)), if_pos (show nI v ≤ 9 from nI_le (a := v) (b := 9) ok.2 (by decide)), if_neg (show ¬ nI k = 6 from nI_ne (a := k) (b := 6) (by omega) (by decide) (by omega)), addSm hC hk5 hsc, ob_s]
                dsimp only
                rw [x1, ob_s]
              rw [hfs, ob_s]
              dsimp only
              rw [ol_s, nI_1]
            have rstep : fX10_readChimney_L49 F (nI n) m (fu' + 1) (nI C) (nI X) (nI H) (nI k) (nI a) (nI b) (nI 8) (nI v) 0 wa fr = fX10_readChimney_L49 F (nI n) m fu' (nI C) (nI X) (nI H) (nI (k + 1)) (nI a') (nI b') (nI kd') y 0 wa (upd fr (66 + 6 * C + k) (nI v)) := by
              rw [fX10_readChimney_L49, if_neg hkz, his, ob_s, decide_eq_true rfl, bI_1 rfl, if_neg one0, rc63_L99 hk5, fX10_readChimney_L99, y1', ob_s]
              dsimp only
              have ei : (66 : Int32) + (6 : Int32) * nI C + nI k = nI (66 + 6 * C + k) := by
                rw [show (66 : Int32) = nI 66 from rfl, show (6 : Int32) = nI 6 from rfl, pk_mul, nI_add, nI_add]
              rw [if_pos rfl, ei, vb_nI (show 66 + 6 * C + k < 162 by omega) (by decide), og_s, ol_s, ol_s, nI_1, nI_clamp (by omega)]
            rw [cstep, rstep]
            obtain ⟨r', rfl⟩ : ∃ r', r = r' + 1 := ⟨r - 1, by omega⟩
            rcases p_smk2 (X := X) (H := H) (fs := fs) (hs := hs) (lit := lit) (ts := ts) (xs := xs) hTok hC r' (k + 1) lb fu fu' _ _ _ _ _ _ _ _ wa (upd sc C (nI (k + 1))) (upd sm (6 * C + k) (nI v)) (upd fr (66 + 6 * C + k) (nI v)) (by omega) (by omega) (by omega) (by omega) hsc' hRC' with ⟨K, S, nx', st', so', va', at'', bh', ki', nu', wa', sc', sm', fr', g1, g2, g3, g4⟩ | hbad
            · left
              obtain ⟨s1, s2, s3, s4, s5, s6, s7⟩ := g4
              refine ⟨K, fun i => if i = k then v else S i, nx', st', so', va', at'', bh', ki', nu', wa', sc', sm', fr', g1, g2, g3, by omega, s2, s3, fun j hj => by rw [s4 j hj, pk_un hj], fun i i1 i2 => ?_, fun j hj => by rw [s6 j (by omega), pk_un (by omega)], fun j hj => by rw [s7 j (by omega), pk_un (by omega)]⟩
              dsimp only
              by_cases e : i = k
              · subst e
                rw [if_pos rfl, s6 _ (by omega), s7 _ (by omega), pk_us, pk_us]
                exact ⟨ok.1, ok.2, rfl, rfl⟩
              · rw [if_neg e]
                exact s5 i (by omega) i2
            · right
              exact hbad
          · -- one too many
            have hk6' : k = 6 := by omega
            right
            refine ⟨4, nI a, nI b, nI a, nI (srt 8), nI v, nI a, nI b, nI 8, nI v, nI a, sc, sm, fr, by decide, ?_, ?_, ⟨p, a, b, 8, v, hT, ⟨rfl, rfl, rfl, hva⟩, Or.inr ⟨by decide, rfl, rfl⟩⟩⟩
            · rw [fX5_readChimney_L63, if_neg hk6, if_pos ((srt2 q4).mpr rfl), if_pos rfl]
              have hfs : fX5_readFurtherSmoke F 0 (-1) (nI n) (nI b) (nI a) (nI (srt 8)) (nI v) (nI (C + 1)) c sc sm (nI k) = some (4, nI a, nI b, nI a, nI (srt 8), nI v, sc, sm) := by
                unfold fX5_readFurtherSmoke
                rw [if_neg (show ¬ nI v < 1 from nI_nlt (a := v) (b := 1) ok.1 (by omega)), if_pos (show nI v ≤ 9 from nI_le (a := v) (b := 9) ok.2 (by decide)), if_pos (show nI k = 6 by rw [hk6']; rfl), blm0 q4, ob_s]
                rfl
              obtain ⟨fv, rfl⟩ : ∃ fv, fu = fv + 1 := ⟨fu - 1, by omega⟩
              rw [hfs, ob_s]
              dsimp only
              rw [ol_s, nI_1, fX5_readChimney_L63, if_pos (show (6 : Int32) < nI (k + 1) from nI_lt (a := 6) (b := k + 1) (by omega) (by omega))]
            · rw [fX10_readChimney_L49, if_neg hkz, his, ob_s, decide_eq_true rfl, bI_1 rfl, if_neg one0]
              unfold fX10_readChimney_L63 fX10_readChimney_L99
              have hw : fX10_within F (nI v).toInt64 1 9 = some (bI (decide (1 ≤ v ∧ v ≤ 9))) := w_in (v := v) (lo := 1) (hi := 9) (by omega) (by decide) (by decide)
              rw [his, ob_s, decide_eq_true rfl, bI_1 rfl, if_neg one0, hw, ob_s, decide_eq_true ok, bI_1 rfl, if_neg one0, if_pos (show nI k = 6 by rw [hk6']; rfl), fail0 q4, ob_s]
              dsimp only
              rw [if_neg (show ¬ (8 : Nat) = 11 by decide), takR_st (by decide), ob_s]
              rfl
        · -- out of bounds
          have hbad : ¬ ((8 : Nat) = 8 ∧ 1 ≤ v ∧ v ≤ 9) := fun z => ok z.2
          right
          refine ⟨3, nI a, nI b, nI a, nI (srt 8), nI v, nI a, nI b, nI 8, nI v, nI a, sc, sm, fr, by decide, ?_, ?_, ⟨p, a, b, 8, v, hT, ⟨rfl, rfl, rfl, hva⟩, Or.inr ⟨by decide, rfl, rfl⟩⟩⟩
          · rw [fX5_readChimney_L63, if_neg hk6, if_pos ((srt2 q4).mpr rfl), if_pos rfl]
            have hfs : fX5_readFurtherSmoke F 0 (-1) (nI n) (nI b) (nI a) (nI (srt 8)) (nI v) (nI (C + 1)) c sc sm (nI k) = some (3, nI a, nI b, nI a, nI (srt 8), nI v, sc, sm) := by
              unfold fX5_readFurtherSmoke fX5_readFurtherSmoke_L17
              rw [blm0 q4, ob_s]
              by_cases q : v < 1
              · rw [if_pos (show nI v < 1 from nI_lt (a := v) (b := 1) q (by decide))]; rfl
              · rw [if_neg (show ¬ nI v < 1 from nI_nlt (a := v) (b := 1) (by omega) (by omega)), if_neg (show ¬ nI v ≤ 9 from nI_ge (a := 9) (b := v) (by omega) (by omega))]; rfl
            obtain ⟨fv, rfl⟩ : ∃ fv, fu = fv + 1 := ⟨fu - 1, by omega⟩
            rw [hfs, ob_s]
            dsimp only
            rw [ol_s, nI_1, fX5_readChimney_L63]
            by_cases h7 : (6 : Int32) < nI (k + 1)
            · rw [if_pos h7]
            · rw [if_neg h7, if_pos ((srt2 q4).mpr rfl), if_neg (by decide)]
          · have tb := takR_bad (F := F) (n := n) (a := a) (kd := 8) (v := v) (lo := 1) (hi := 9) (at' := nI a) (bh := nI b) (nu := nI v) (wa := wa) (m := m) q4 q5 (by decide) (by decide) rfl (fun _ => rfl) hbad
            have tb' : fX10_takes F (nI a) (nI b) (nI n) (nI 8) (nI v) 0 wa m 1 9 = _ := tb
            rw [fX10_readChimney_L49, if_neg hkz, his, ob_s, decide_eq_true rfl, bI_1 rfl, if_neg one0]
            unfold fX10_readChimney_L63 fX10_readChimney_L99
            have hw : fX10_within F (nI v).toInt64 1 9 = some (bI (decide (1 ≤ v ∧ v ≤ 9))) := w_in (v := v) (lo := 1) (hi := 9) (by omega) (by decide) (by decide)
            rw [his, ob_s, decide_eq_true rfl, bI_1 rfl, if_neg one0, hw, ob_s, decide_eq_false ok, bI_0 rfl, if_pos rfl, tb', ob_s]
            rfl
      · -- no number: on to 'from'
        left
        refine ⟨k, fun _ => 0, nI b, nI a, nI (srt kd), va, nI a, nI b, nI kd, nu, wa, sc, sm, fr, ?_, ?_, hRC0, Nat.le_refl _, by omega, hsc, fun _ _ => rfl, fun i i1 i2 => by omega, fun _ _ => rfl, fun _ _ => rfl⟩
        · rw [fX5_readChimney_L63, if_neg hk6, if_neg (fun z => e ((srt2 q4).mp z))]
        · rw [fX10_readChimney_L49, if_neg hkz, his, ob_s, decide_eq_false e, bI_0 rfl, if_pos rfl]
          rfl
    · exact absurd rfl z
