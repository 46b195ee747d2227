/-- chimney c's ways lie for all its lightings -/
def wayOk (t : Nat → Nat → Nat) (Wd : Nat → Nat → Nat) (hs v : Nat → Int32) (c : Nat) : Prop := hs c = nI (t 7 c) ∧ ∀ b, t 8 c ≤ b → b < t 9 c + t 10 c → laid v (t 2 0) Wd (t 7 c) (t 6 c) c b
theorem p_layAll_L {F : Nat} {t : Nat → Nat → Nat} {Wd : Nat → Nat → Nat} {xs ths fs ts sc his los : Nat → Int32} (ht : Tok t) (hC : ∀ c, c < t 0 0 → xs c = nI (t 6 c) ∧ ths c = nI (t 7 c) ∧ fs c = nI (t 8 c) ∧ ts c = nI (t 9 c) ∧ sc c = nI (t 10 c)) (hWd : ∀ k q, Wd k q ≤ 6) (hlo : ∀ q, q < 48 → los q = nI (Wd 0 q)) (hhi : ∀ q, q < 48 → his q = nI (Wd 1 q)) (hF : 29 < F) :
    ∀ (k i fuel : Nat) (hs v : Nat → Int32), i + k = t 0 0 → k < fuel → (∀ c, c < i → wayOk t Wd hs v c) → ∃ hs' v', fX4_layAll_L2 F (nI (t 0 0)) (nI (t 2 0)) fs ths sc ts xs his los fuel (nI i) hs v = some (hs', v') ∧ ∀ c, c < t 0 0 → wayOk t Wd hs' v' c
  | 0, i, fuel + 1, hs, v, h, _, hk => by
    have hn := ht.1
    refine ⟨hs, v, ?_, fun c hc => hk c (by omega)⟩
    rw [fX4_layAll_L2, show i = t 0 0 by omega, if_pos (nI_le (Nat.le_refl _) (by omega))]
  | k + 1, i, fuel + 1, hs, v, h, hf, hk => by
    have hn := ht.1
    have hi : i < t 0 0 := by omega
    obtain ⟨c0, c1, c2, c3, c4⟩ := hC i hi
    obtain ⟨-, -, gi2, gi3, gi4, -, -⟩ := ht.2.2.2.2.2.2.1 i hi
    obtain ⟨v1, e1, e2, e3⟩ := p_layWhole (F := F) (hs := hs) (v := v) ht hi c0 c1 c2 c3 c4 hWd hlo hhi hF
    obtain ⟨hs', v', f1, f2⟩ := p_layAll_L ht hC hWd hlo hhi hF k (i + 1) fuel (upd hs i (nI (t 7 i))) v1 (by omega) (by omega) (fun c hc => by
      by_cases hci : c = i
      · subst hci
        exact ⟨pk_us, e2⟩
      · obtain ⟨w1, w2⟩ := hk c (by omega)
        obtain ⟨-, -, g2, g3, g4, -, -⟩ := ht.2.2.2.2.2.2.1 c (by omega)
        refine ⟨by rw [pk_un hci]; exact w1, fun b hb1 hb2 a ha => ?_⟩
        rw [e3 _ (by omega)]
        exact w2 b hb1 hb2 a ha)
    refine ⟨hs', v', ?_, f2⟩
    rw [fX4_layAll_L2, if_neg (nI_ge hi (by omega)), e1, ob_s, ol_s, nI_1]
    exact f1
  | k, i, 0, hs, v, _, hf, _ => absurd hf (Nat.not_lt_zero k)
theorem p_layAll {F : Nat} {t : Nat → Nat → Nat} {Wd : Nat → Nat → Nat} {hs v xs ths fs ts sc his los : Nat → Int32} (ht : Tok t) (hC : ∀ c, c < t 0 0 → xs c = nI (t 6 c) ∧ ths c = nI (t 7 c) ∧ fs c = nI (t 8 c) ∧ ts c = nI (t 9 c) ∧ sc c = nI (t 10 c)) (hWd : ∀ k q, Wd k q ≤ 6) (hlo : ∀ q, q < 48 → los q = nI (Wd 0 q)) (hhi : ∀ q, q < 48 → his q = nI (Wd 1 q)) (hF : 29 < F) :
    ∃ hs' v', fX4_layAll F hs (nI (t 0 0)) (nI (t 2 0)) v fs ths sc ts xs his los = some (hs', v') ∧ ∀ c, c < t 0 0 → wayOk t Wd hs' v' c := by
  have hn := ht.1
  exact p_layAll_L ht hC hWd hlo hhi hF (t 0 0) 0 F hs v (by omega) (by omega) (fun c hc => by omega)
