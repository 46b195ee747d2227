def kOff (w : Nat) : Nat := [1, 9, 14, 17, 22, 28, 34, 39].getD w 0
theorem key_tab : ∀ w, w < 7 → kOff w + sle w < 39 ∧ sch 7 (kOff w + sle w) = 32 ∧ kOff (w + 1) = kOff w + sle w + 1 ∧ ∀ j, j < sle w → sch 7 (kOff w + j) = sch w j ∧ ¬ sch w j = 32 := by decide +kernel
theorem sle7 : sle 7 = 39 := rfl
theorem p_k97 {F w : Nat} {at' bh x1 : Int32} {m : Nat → Int32} {k4 : Int32 → Int32 → Option (Int32)} (hw : w < 7) : ∀ (k j fuel : Nat), j + k = sle w → k < fuel → fX10_keyAt_L97 F at' bh m k4 fuel x1 (nI (kOff w + j)) = k4 (x1 + 1) (nI (kOff (w + 1)))
  | 0, j, fuel + 1, h, _ => by
    obtain ⟨t1, t2, t3, t4⟩ := key_tab w hw
    rw [fX10_keyAt_L97, vb_nI (show kOff w + j < sle 7 by rw [sle7]; omega) (by decide), og_s, nI_clamp (by omega), show kOff w + j = kOff w + sle w by omega, if_pos t2, ol_s, ol_s, nI_1, t3]
  | k + 1, j, fuel + 1, h, hf => by
    obtain ⟨t1, t2, t3, t4⟩ := key_tab w hw
    have t5 := t4 j (by omega)
    rw [fX10_keyAt_L97, vb_nI (show kOff w + j < sle 7 by rw [sle7]; omega) (by decide), og_s, nI_clamp (by omega), if_neg (by rw [t5.1]; exact t5.2), ol_s, nI_1]
    exact p_k97 hw k (j + 1) fuel (by omega) (by omega)
  | k, j, 0, _, hf => absurd hf (Nat.not_lt_zero k)
theorem p_k15 {F n a b w : Nat} {m : Nat → Int32} {k4 : Int32 → Int32 → Option (Int32)} (hw : w < 7) (hn : n ≤ 900) (hab : a ≤ b) (hb : b ≤ n) (hF : 40 < F) : ∀ (k j fuel : Nat), j + k = sle w → k < fuel → a + j ≤ b → (∀ i, i < j → rdB n m (a + i) = sch w i) → (isK n m w a b ∧ fX10_keyAt_L15 F (nI a) (nI b) m k4 fuel (nI w) (nI (kOff w)) (nI j) = some (nI w)) ∨ (¬ isK n m w a b ∧ fX10_keyAt_L15 F (nI a) (nI b) m k4 fuel (nI w) (nI (kOff w)) (nI j) = k4 (nI (w + 1)) (nI (kOff (w + 1))))
  | 0, j, fuel + 1, h, _, hj, hi => by
    obtain ⟨t1, t2, t3, t4⟩ := key_tab w hw
    have ej : j = sle w := by omega
    have hv : vb (nI (kOff w + j)) (sle 7) = true := vb_nI (by rw [sle7]; omega) (by decide)
    have h32 : sch 7 (kOff w + j) = 32 := by rw [ej]; exact t2
    have h97 := p_k97 (F := F) (at' := nI a) (bh := nI b) (x1 := nI w) (m := m) (k4 := k4) hw (sle w) 0 F (by omega) (by omega)
    rw [Nat.add_zero, nI_1] at h97
    rw [fX10_keyAt_L15]
    unfold fX10_keyAt_L69
    simp only [nI_add]
    rw [hv, og_s, og_s, nI_clamp (by omega), if_pos h32, if_pos h32]
    by_cases e : a + j = b
    · left
      exact ⟨⟨by omega, fun i h' => hi i (by omega)⟩, by rw [if_pos (by rw [e])]⟩
    · right
      refine ⟨fun z => ?_, by rw [if_neg (nI_ne (by omega) (by omega) e)]; exact h97⟩
      have := z.1
      omega
  | k + 1, j, fuel + 1, h, hf, hj, hi => by
    obtain ⟨t1, t2, t3, t4⟩ := key_tab w hw
    have t5 := t4 j (by omega)
    have hv : vb (nI (kOff w + j)) (sle 7) = true := vb_nI (by rw [sle7]; omega) (by decide)
    have h32 : ¬ sch 7 (kOff w + j) = 32 := by rw [t5.1]; exact t5.2
    have h97 := p_k97 (F := F) (at' := nI a) (bh := nI b) (x1 := nI w) (m := m) (k4 := k4) hw (sle w) 0 F (by omega) (by omega)
    rw [Nat.add_zero, nI_1] at h97
    rw [fX10_keyAt_L15]
    unfold fX10_keyAt_L69
    simp only [nI_add]
    rw [hv, og_s, og_s, nI_clamp (by omega), if_neg h32, if_neg h32]
    by_cases e : b ≤ a + j
    · right
      refine ⟨fun z => ?_, by rw [if_pos (nI_le e (by omega))]; exact h97⟩
      have := z.1
      omega
    · rw [if_neg (nI_ge (by omega) (by omega)), vb_nI (show a + j < 900 by omega) (by decide), og_s, og_s, nI_clamp (by omega)]
      by_cases q : m (a + j) = sch 7 (kOff w + j)
      · rw [if_pos q, ol_s, nI_1]
        refine p_k15 (F := F) hw hn hab hb hF k (j + 1) fuel (by omega) (by omega) (by omega) (fun i h' => ?_)
        by_cases e' : i = j
        · subst e'; rw [rd_in (by omega), q, t5.1]
        · exact hi i (by omega)
      · right
        refine ⟨fun z => ?_, by rw [if_neg q]; exact h97⟩
        have := z.2 j (by omega)
        rw [rd_in (by omega)] at this
        exact q (by rw [this, t5.1])
  | k, j, 0, _, hf, _, _ => absurd hf (Nat.not_lt_zero k)
theorem p_k4 {F n a b : Nat} {m : Nat → Int32} (hn : n ≤ 900) (hab : a ≤ b) (hb : b ≤ n) (hF : 40 < F) : ∀ (k w fuel : Nat), w + k = 7 → k < fuel → (∀ w', w' < w → ¬ isK n m w' a b) → ∃ kd, kd ≤ 7 ∧ fX10_keyAt_L4 F (nI a) (nI b) m fuel (nI w) (nI (kOff w)) = some (nI kd) ∧ ∀ w', w' < 7 → (isK n m w' a b ↔ kd = w')
  | 0, w, fuel + 1, h, _, hno => by
    refine ⟨7, Nat.le_refl _, ?_, fun w' hw' => ⟨fun z => absurd z (hno w' (by omega)), fun z => by omega⟩⟩
    rw [fX10_keyAt_L4, show w = 7 by omega, if_pos (show Int32.ofNat (sle 7) ≤ nI (kOff 7) by decide)]; rfl
  | k + 1, w, fuel + 1, h, hf, hno => by
    obtain ⟨t1, t2, t3, t4⟩ := key_tab w (by omega)
    rw [fX10_keyAt_L4, if_neg (show ¬ Int32.ofNat (sle 7) ≤ nI (kOff w) from nI_ge (a := kOff w) (b := 39) (by omega) (by decide))]
    rcases p_k15 (F := F) (m := m) (k4 := fun x1 x2 => fX10_keyAt_L4 F (nI a) (nI b) m fuel x1 x2) (show w < 7 by omega) hn hab hb hF (sle w) 0 F (by omega) (by omega) (by omega) (fun i hi => by omega) with ⟨z1, z2⟩ | ⟨z1, z2⟩
    · refine ⟨w, by omega, z2, fun w' hw' => ⟨fun z => isK_one (by omega) hw' z1 z, fun z => by subst z; exact z1⟩⟩
    · obtain ⟨kd, e1, e2, e3⟩ := p_k4 (F := F) (m := m) hn hab hb hF k (w + 1) fuel (by omega) (by omega) (fun w' hw' => by
        by_cases e : w' = w
        · rw [e]; exact z1
        · exact hno w' (by omega))
      exact ⟨kd, e1, z2.trans e2, e3⟩
  | k, w, 0, _, hf, _ => absurd hf (Nat.not_lt_zero k)
theorem p_keyAt {F n a b : Nat} {m : Nat → Int32} (hn : n ≤ 900) (hab : a ≤ b) (hb : b ≤ n) (hF : 40 < F) : ∃ kd, kd ≤ 7 ∧ fX10_keyAt F (nI a) (nI b) m = some (nI kd) ∧ ∀ w', w' < 7 → (isK n m w' a b ↔ kd = w') :=
  p_k4 (F := F) hn hab hb hF 7 0 F (by omega) (by omega) (fun w' hw' => by omega)
/-- a token's sort in the class, by its kind in the reference -/
def srt (kd : Nat) : Nat := if kd < 8 then 1 else if kd = 8 then 2 else if kd = 9 then 3 else if kd = 10 then 0 else 4
theorem srt_tab : ∀ kd, kd < 12 → srt kd < 5 ∧ (srt kd = 1 ↔ kd < 8) ∧ (srt kd = 2 ↔ kd = 8) ∧ (srt kd = 3 ↔ kd = 9) ∧ (srt kd = 0 ↔ kd = 10) ∧ (srt kd = 4 ↔ kd = 11) := by decide
/-- the token from p on -/
def tokP (F n : Nat) (c m : Nat → Int32) (p a b kd v : Nat) : Prop := (p ≤ a ∧ a ≤ b ∧ b ≤ n ∧ kd ≤ 11 ∧ v ≤ 999 ∧ (kd ≠ 10 → a < b)) ∧ (∀ st so va, ∃ x, fX5_takeToken F (nI n) (nI p) st so va c = some (nI b, nI a, nI (srt kd), x) ∧ (kd = 8 → x = nI v)) ∧ (∀ at' ki nu, ∃ y, fX10_next F at' (nI p) (nI n) ki nu m = some (nI a, nI b, nI kd, y) ∧ (kd = 8 → y = nI v)) ∧ (∀ w, w < 7 → fX5_spells F (nI n) (nI b) (nI a) (nI (srt kd)) c w = some (bI (decide (kd = w))))
theorem byte_ne {n p : Nat} {m : Nat → Int32} (hm : bytB n m) (h : p < n) : ¬ m p = -1 := by
  obtain ⟨y, y1, y2⟩ := hm p h
  rw [y2]; exact nI_nm1 (by omega)
theorem p_tok_L {F n : Nat} {c m : Nat → Int32} (hn : n ≤ 900) (h : ∀ j, j < n → c j &&& 255 = m j) (hm : bytB n m) (hF : 1000 < F) : ∀ (k p : Nat), p + k = n → ∃ a b kd v, (p ≤ a ∧ a ≤ b ∧ b ≤ n ∧ kd ≤ 11 ∧ v ≤ 999 ∧ (kd ≠ 10 → a < b)) ∧ (∀ fuel st so va, k < fuel → ∃ x, fX5_takeToken_L0 F (nI n) c fuel (nI p) st so va = some (nI b, nI a, nI (srt kd), x) ∧ (kd = 8 → x = nI v)) ∧ (∀ fuel bh ki nu, k < fuel → ∃ y, fX10_next_L8 F (nI n) m fuel (nI p) bh ki nu = some (nI a, nI b, nI kd, y) ∧ (kd = 8 → y = nI v)) ∧ (∀ w, w < 7 → fX5_spells F (nI n) (nI b) (nI a) (nI (srt kd)) c w = some (bI (decide (kd = w))))
  | 0, p, hp => by
    refine ⟨p, p, 10, 0, ⟨Nat.le_refl _, Nat.le_refl _, by omega, by omega, by omega, fun z => absurd rfl z⟩, fun fuel st so va hf => ⟨0, ?_, fun z => by cases z⟩, fun fuel bh ki nu hf => ⟨nu, ?_, fun z => by cases z⟩, fun w hw => ?_⟩
    · obtain ⟨f, rfl⟩ : ∃ f, fuel = f + 1 := ⟨fuel - 1, by omega⟩
      rw [fX5_takeToken_L0, if_pos (nI_le (by omega) (by omega)), fX5_takeToken_L39, p_byteAt hn h (by omega), ob_s, p_so, ob_s, rd_no (by omega), so_m1, if_neg (show ¬ (0 : Int32) = 3 by decide), if_neg (show ¬ (0 : Int32) = 4 by decide), p_tok94e (by omega) (by omega) (by omega)]; rfl
    · obtain ⟨f, rfl⟩ : ∃ f, fuel = f + 1 := ⟨fuel - 1, by omega⟩
      rw [fX10_next_L8, p_see hn (by omega), ob_s, rd_no (by omega), if_neg (by decide), ob_s, if_neg (by decide), if_neg (nI_nlt (by omega) (by omega))]; rfl
    · rw [p_spellsN (by decide), decide_eq_false (by omega)]; rfl
  | k + 1, p, hp => by
    have hpn : p < n := by omega
    have hne := byte_ne hm hpn
    by_cases hb : m p = 10 ∨ m p = 32
    · obtain ⟨a, b, kd, v, q1, q2, q3, q4⟩ := p_tok_L (F := F) hn h hm hF k (p + 1) (by omega)
      refine ⟨a, b, kd, v, ⟨by omega, q1.2⟩, fun fuel st so va hf => ?_, fun fuel bh ki nu hf => ?_, q4⟩
      · obtain ⟨f, rfl⟩ : ∃ f, fuel = f + 1 := ⟨fuel - 1, by omega⟩
        rw [fX5_takeToken_L0, if_neg (nI_ge (by omega) (by omega)), p_byteAt hn h (by omega), ob_s, p_so, ob_s, rd_in hpn, so_b hb, if_pos rfl, ol_s, show nI p + (1 : Int32) = nI (p + 1) from nI_1 p]
        exact q2 f st so va (by omega)
      · obtain ⟨f, rfl⟩ : ∃ f, fuel = f + 1 := ⟨fuel - 1, by omega⟩
        have h34 : fX10_next_L34 F (nI n) m (fun v_at v_behind v_kind v_number => fX10_next_L8 F (nI n) m f v_at v_behind v_kind v_number) (nI p) bh ki nu = fX10_next_L8 F (nI n) m f (nI (p + 1)) bh ki nu := by
          rw [fX10_next_L34, ol_s, show nI p + (1 : Int32) = nI (p + 1) from nI_1 p]
        rw [fX10_next_L8, p_see hn (by omega), ob_s, rd_in hpn, h34, ob_s]
        rcases hb with z | z
        · rw [if_pos z]; exact q3 f bh ki nu (by omega)
        · rw [if_neg (by rw [z]; decide), if_pos z]; exact q3 f bh ki nu (by omega)
    · have n10 : ¬ m p = 10 := fun z => hb (Or.inl z)
      have n32 : ¬ m p = 32 := fun z => hb (Or.inr z)
      have C0 : ∀ fuel st so va, k + 1 < fuel → fX5_takeToken_L0 F (nI n) c fuel (nI p) st so va = fX5_takeToken_L39 F (nI n) c (nI p) st so va := fun fuel st so va hf => by
        obtain ⟨f, rfl⟩ : ∃ f, fuel = f + 1 := ⟨fuel - 1, by omega⟩
        rw [fX5_takeToken_L0, if_neg (nI_ge (by omega) (by omega)), p_byteAt hn h (by omega), ob_s, p_so, ob_s, rd_in hpn, if_neg (so_nb hb)]
      cases hl : ltB (m p) with
      | true =>
        obtain ⟨b, b1, b2, b3, b4, b5⟩ := p_word (F := F) hn h (k + 1) p hp
        have hpb := b3 hpn hl
        obtain ⟨kd, k1, k2, k3⟩ := p_keyAt (F := F) (m := m) hn b1 b2 (by omega)
        have hs : srt kd = 1 := (srt_tab kd (by omega)).2.1.mpr (by
          rcases Nat.lt_or_ge kd 8 with q | q
          · exact q
          · omega)
        refine ⟨p, b, kd, 0, ⟨Nat.le_refl _, by omega, b2, by omega, by omega, fun _ => hpb⟩, fun fuel st so va hf => ⟨0, ?_, fun z => by omega⟩, fun fuel bh ki nu hf => ⟨nu, ?_, fun z => by omega⟩, fun w hw => ?_⟩
        · rw [C0 fuel st so va hf, fX5_takeToken_L39, p_byteAt hn h (by omega), ob_s, p_so, ob_s, rd_in hpn, so_w hl, if_neg (show ¬ (1 : Int32) = 3 by decide), if_neg (show ¬ (1 : Int32) = 4 by decide), b4 F _ (by omega), hs]; rfl
        · obtain ⟨f, rfl⟩ : ∃ f, fuel = f + 1 := ⟨fuel - 1, by omega⟩
          rw [fX10_next_L8, p_see hn (by omega), ob_s, rd_in hpn, if_neg n10, ob_s, if_neg n32, if_pos (nI_lt hpn (by omega)), ob_s, p_lt10, ob_s, hl, bI_1 rfl, if_neg one0, b5 F _ _ _ (by omega), k2, ob_s]
        · obtain ⟨r, r1, r2⟩ := p_spells (F := F) hn h b1 b2 hw (by omega)
          rw [hs, show nI 1 = (1 : Int32) from rfl, r1]
          congr 2
          rw [Bool.eq_iff_iff, r2, k3 w hw, decide_eq_true_iff]
      | false =>
        cases hd : dgB (m p) with
        | true =>
          obtain ⟨b, cv, rv, v, b1, b2, b3, b4, b5, b6, b7⟩ := p_digits (F := F) (a := p) hn h (k + 1) p 0 0 hp (Nat.le_refl _) (fun _ => ⟨0, by rw [Nat.sub_self]; decide, rfl, rfl⟩)
          have hpb := b3 hpn hd
          by_cases q : b - p ≤ 3
          · refine ⟨p, b, 8, v, ⟨Nat.le_refl _, by omega, b2, by omega, b6, fun _ => hpb⟩, fun fuel st so va hf => ⟨cv, ?_, fun _ => (b7 q).1⟩, fun fuel bh ki nu hf => ⟨rv, ?_, fun _ => (b7 q).2⟩, fun w hw => ?_⟩
            · have b4' := b4 F (by omega)
              rw [if_pos q] at b4'
              rw [C0 fuel st so va hf, fX5_takeToken_L39, p_byteAt hn h (by omega), ob_s, p_so, ob_s, rd_in hpn, so_d hd, if_neg (show ¬ (2 : Int32) = 3 by decide), if_neg (show ¬ (2 : Int32) = 4 by decide), b4']; rfl
            · obtain ⟨f, rfl⟩ : ∃ f, fuel = f + 1 := ⟨fuel - 1, by omega⟩
              have b5' := b5 F ki (by omega)
              rw [if_pos q] at b5'
              rw [fX10_next_L8, p_see hn (by omega), ob_s, rd_in hpn, if_neg n10, ob_s, if_neg n32, if_pos (nI_lt hpn (by omega)), ob_s, p_lt10, ob_s, hl, bI_0 rfl, if_pos rfl, ob_s, p_dg10, ob_s, hd, bI_1 rfl, if_neg one0, b5']; rfl
            · rw [p_spellsN (by decide), decide_eq_false (by omega)]; rfl
          · refine ⟨p, b, 11, v, ⟨Nat.le_refl _, by omega, b2, by omega, b6, fun _ => hpb⟩, fun fuel st so va hf => ⟨cv, ?_, fun z => by cases z⟩, fun fuel bh ki nu hf => ⟨rv, ?_, fun z => by cases z⟩, fun w hw => ?_⟩
            · have b4' := b4 F (by omega)
              rw [if_neg q] at b4'
              rw [C0 fuel st so va hf, fX5_takeToken_L39, p_byteAt hn h (by omega), ob_s, p_so, ob_s, rd_in hpn, so_d hd, if_neg (show ¬ (2 : Int32) = 3 by decide), if_neg (show ¬ (2 : Int32) = 4 by decide), b4']; rfl
            · obtain ⟨f, rfl⟩ : ∃ f, fuel = f + 1 := ⟨fuel - 1, by omega⟩
              have b5' := b5 F ki (by omega)
              rw [if_neg q] at b5'
              rw [fX10_next_L8, p_see hn (by omega), ob_s, rd_in hpn, if_neg n10, ob_s, if_neg n32, if_pos (nI_lt hpn (by omega)), ob_s, p_lt10, ob_s, hl, bI_0 rfl, if_pos rfl, ob_s, p_dg10, ob_s, hd, bI_1 rfl, if_neg one0, b5']; rfl
            · rw [p_spellsN (by decide), decide_eq_false (by omega)]; rfl
        | false =>
          by_cases hsc : m p = 59
          · refine ⟨p, p + 1, 9, 0, ⟨Nat.le_refl _, by omega, by omega, by omega, by omega, fun _ => by omega⟩, fun fuel st so va hf => ⟨0, ?_, fun z => by cases z⟩, fun fuel bh ki nu hf => ⟨nu, ?_, fun z => by cases z⟩, fun w hw => ?_⟩
            · rw [C0 fuel st so va hf, fX5_takeToken_L39, p_byteAt hn h (by omega), ob_s, p_so, ob_s, rd_in hpn, show sO (m p) = 3 by rw [hsc]; decide, if_pos rfl, fX5_takeToken_L83, ol_s, show nI p + (1 : Int32) = nI (p + 1) from nI_1 p]; rfl
            · obtain ⟨f, rfl⟩ : ∃ f, fuel = f + 1 := ⟨fuel - 1, by omega⟩
              rw [fX10_next_L8, p_see hn (by omega), ob_s, rd_in hpn, if_neg n10, ob_s, if_neg n32, if_pos (nI_lt hpn (by omega)), ob_s, p_lt10, ob_s, hl, bI_0 rfl, if_pos rfl, ob_s, p_dg10, ob_s, hd, bI_0 rfl, if_pos rfl, ol_s, ob_s, if_pos hsc, fX10_next_L267, show nI p + (1 : Int32) = nI (p + 1) from nI_1 p]; rfl
            · rw [p_spellsN (by decide), decide_eq_false (by omega)]; rfl
          · refine ⟨p, p + 1, 11, 0, ⟨Nat.le_refl _, by omega, by omega, by omega, by omega, fun _ => by omega⟩, fun fuel st so va hf => ⟨0, ?_, fun z => by cases z⟩, fun fuel bh ki nu hf => ⟨nu, ?_, fun z => by cases z⟩, fun w hw => ?_⟩
            · rw [C0 fuel st so va hf, fX5_takeToken_L39, p_byteAt hn h (by omega), ob_s, p_so, ob_s, rd_in hpn, so_o hl hd hne n10 n32 hsc, if_neg (show ¬ (4 : Int32) = 3 by decide), if_pos rfl, fX5_takeToken_L83, ol_s, show nI p + (1 : Int32) = nI (p + 1) from nI_1 p]; rfl
            · obtain ⟨f, rfl⟩ : ∃ f, fuel = f + 1 := ⟨fuel - 1, by omega⟩
              rw [fX10_next_L8, p_see hn (by omega), ob_s, rd_in hpn, if_neg n10, ob_s, if_neg n32, if_pos (nI_lt hpn (by omega)), ob_s, p_lt10, ob_s, hl, bI_0 rfl, if_pos rfl, ob_s, p_dg10, ob_s, hd, bI_0 rfl, if_pos rfl, ol_s, ob_s, if_neg hsc, fX10_next_L267, show nI p + (1 : Int32) = nI (p + 1) from nI_1 p]; rfl
            · rw [p_spellsN (by decide), decide_eq_false (by omega)]; rfl
theorem p_tok {F n : Nat} {c m : Nat → Int32} (hn : n ≤ 900) (h : ∀ j, j < n → c j &&& 255 = m j) (hm : bytB n m) (hF : 1000 < F) (p : Nat) (hp : p ≤ n) : ∃ a b kd v, tokP F n c m p a b kd v := by
  obtain ⟨a, b, kd, v, q1, q2, q3, q4⟩ := p_tok_L (F := F) hn h hm hF (n - p) p (by omega)
  exact ⟨a, b, kd, v, q1, fun st so va => q2 F st so va (by omega), fun at' ki nu => q3 F (nI p) ki nu (by omega), q4⟩
