/-- a lit chimney's ways lie, its height being h -/
def litOk (t : Nat → Nat → Nat) (Wd : Nat → Nat → Nat) (h : Nat) (hs v : Nat → Int32) (c : Nat) : Prop := hs c = nI h ∧ ∀ b, t 11 c ≤ b + 1 → b + 1 < t 11 c + t 10 c → laid v (t 2 0) Wd h (t 6 c) c b
theorem litOk_of {t : Nat → Nat → Nat} {Wd : Nat → Nat → Nat} {hs v : Nat → Int32} {c : Nat} (ht : Tok t) (hc : c < t 0 0) (hl : t 11 c ≠ 0) (h : wayOk t Wd hs v c) : litOk t Wd (t 7 c) hs v c := by
  obtain ⟨-, -, g2, g3, g4, g5, -⟩ := ht.2.2.2.2.2.2.1 c hc
  exact ⟨h.1, fun b h1 h2 => h.2 b (by omega) (by omega)⟩
theorem p_layLit_L {F : Nat} {t : Nat → Nat → Nat} {Wd : Nat → Nat → Nat} {xs ths lit sc his los : Nat → Int32} (ht : Tok t) (hC : ∀ c, c < t 0 0 → xs c = nI (t 6 c) ∧ ths c = nI (t 7 c) ∧ sc c = nI (t 10 c) ∧ lit c = nI (t 11 c) - 1) (hWd : ∀ k q, Wd k q ≤ 6) (hlo : ∀ q, q < 48 → los q = nI (Wd 0 q)) (hhi : ∀ q, q < 48 → his q = nI (Wd 1 q)) (hF : 29 < F) :
    ∀ (k i fuel : Nat) (hs v : Nat → Int32), i + k = t 0 0 → k < fuel → (∀ c, c < i → t 11 c ≠ 0 → litOk t Wd (t 7 c) hs v c) → ∃ hs' v', fX4_layLit_L2 F (nI (t 0 0)) (nI (t 2 0)) ths lit sc xs his los fuel (nI i) hs v = some (hs', v') ∧ ∀ c, c < t 0 0 → t 11 c ≠ 0 → litOk t Wd (t 7 c) hs' v' c
  | 0, i, fuel + 1, hs, v, h, _, hk => by
    have hn := ht.1
    refine ⟨hs, v, ?_, fun c hc => hk c (by omega)⟩
    rw [fX4_layLit_L2, show i = t 0 0 by omega, if_pos (nI_le (Nat.le_refl _) (by omega))]
  | k + 1, i, fuel + 1, hs, v, h, hf, hk => by
    have hn := ht.1
    have hi : i < t 0 0 := by omega
    obtain ⟨c0, c1, c4, c5⟩ := hC i hi
    have hlt := ht.lit hi
    obtain ⟨-, -, gi2, gi3, gi4, gi5, -⟩ := ht.2.2.2.2.2.2.1 i hi
    by_cases h0 : t 11 i = 0
    · obtain ⟨hs', v', f1, f2⟩ := p_layLit_L ht hC hWd hlo hhi hF k (i + 1) fuel hs v (by omega) (by omega) (fun c hc hl => by
        by_cases hci : c = i
        · subst hci; exact absurd h0 hl
        · exact hk c (by omega) hl)
      refine ⟨hs', v', ?_, f2⟩
      rw [fX4_layLit_L2, if_neg (nI_ge hi (by omega)), p_isLit hi hn, ob_s, c5, if_pos ((litC_iff hlt).mpr h0), if_pos rfl, fX4_layLit_L30, ol_s, nI_1]
      exact f1
    · obtain ⟨q, hq⟩ : ∃ q, t 11 i = q + 1 := ⟨t 11 i - 1, by omega⟩
      obtain ⟨v1, e1, e2, e3⟩ := p_layRaised (F := F) (r := 0) (hs := hs) (v := v) ht hi hq (by omega) c0 c1 c4 c5 hWd hlo hhi hF
      obtain ⟨hs', v', f1, f2⟩ := p_layLit_L ht hC hWd hlo hhi hF k (i + 1) fuel (upd hs i (nI (t 7 i + 0))) v1 (by omega) (by omega) (fun c hc hl => by
        by_cases hci : c = i
        · subst hci
          exact ⟨pk_us, fun b h1 h2 => e2 b (by omega) (by omega)⟩
        · obtain ⟨w1, w2⟩ := hk c (by omega) hl
          obtain ⟨-, -, g2, g3, g4, g5, -⟩ := ht.2.2.2.2.2.2.1 c (by omega)
          refine ⟨by rw [pk_un hci]; exact w1, fun b hb1 hb2 a ha => ?_⟩
          rw [e3 _ (by omega)]
          exact w2 b hb1 hb2 a ha)
      refine ⟨hs', v', ?_, f2⟩
      rw [fX4_layLit_L2, if_neg (nI_ge hi (by omega)), p_isLit hi hn, ob_s, c5, if_neg (fun z => h0 ((litC_iff hlt).mp z)), if_neg one0, show (0 : Int32) = nI 0 from rfl, e1, ob_s, fX4_layLit_L30, ol_s, nI_1]
      exact f1
  | k, i, 0, hs, v, _, hf, _ => absurd hf (Nat.not_lt_zero k)
theorem p_layLit {F : Nat} {t : Nat → Nat → Nat} {Wd : Nat → Nat → Nat} {hs v xs ths lit sc his los : Nat → Int32} (ht : Tok t) (hC : ∀ c, c < t 0 0 → xs c = nI (t 6 c) ∧ ths c = nI (t 7 c) ∧ sc c = nI (t 10 c) ∧ lit c = nI (t 11 c) - 1) (hWd : ∀ k q, Wd k q ≤ 6) (hlo : ∀ q, q < 48 → los q = nI (Wd 0 q)) (hhi : ∀ q, q < 48 → his q = nI (Wd 1 q)) (hF : 29 < F) :
    ∃ hs' v', fX4_layLit F hs (nI (t 0 0)) (nI (t 2 0)) v ths lit sc xs his los = some (hs', v') ∧ ∀ c, c < t 0 0 → t 11 c ≠ 0 → litOk t Wd (t 7 c) hs' v' c := by
  have hn := ht.1
  exact p_layLit_L ht hC hWd hlo hhi hF (t 0 0) 0 F hs v (by omega) (by omega) (fun c hc => by omega)
