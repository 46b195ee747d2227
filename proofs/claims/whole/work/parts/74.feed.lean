def cb (a s : Int32) : Int32 := ((a.toUInt32 >>> (s.toUInt32 &&& Int32.toUInt32 31)).toInt32).toInt8.toInt32
def mb (a : Int32) (k : Nat) : Int32 := (a >>> (((24 : Int32) - ((8 : Int32) * (nI k - nI k / (4 : Int32) * (4 : Int32)))) &&& 31)) &&& (255 : Int32)
def sel (a1 a2 a3 a4 a5 : Int32) (k : Nat) : Int32 := if k < 4 then a1 else if k < 8 then a2 else if k < 12 then a3 else if k < 16 then a4 else a5
def shI (k : Nat) : Int32 := nI (24 - 8 * (k % 4))
theorem cpT_push {v g : Nat → Int32} {o k : Nat} : upd (cpT v o 0 k g) (o + k) (g k) = cpT v o 0 (k + 1) g := by
  funext j
  by_cases h : j = o + k
  · subst h; rw [pk_us, cpT_in (by omega) (by omega), Nat.add_sub_cancel_left]
  · rw [pk_un h]
    by_cases h1 : o ≤ j ∧ j < o + k
    · rw [cpT_in (by omega) (by omega), cpT_in (by omega) (by omega)]
    · rw [cpT_out (by omega), cpT_out (by omega)]
theorem pot_s {F fuel p k : Nat} {s s' a : Int32} {v g : Nat → Int32} (hs : ¬ s < 0) (hs' : s + (-8) = s') (hp : p + k < 900) (hg : g k = cb a s) : fX9_putOnTape_L3 F a (fuel + 1) s (nI (p + k)) (cpT v p 0 k g) = fX9_putOnTape_L3 F a fuel s' (nI (p + (k + 1))) (cpT v p 0 (k + 1) g) := by
  rw [fX9_putOnTape_L3, if_neg hs, if_neg (show ¬ (900 : Int32) ≤ nI (p + k) from nI_ge (a := p + k) (b := 900) hp (by decide)), vb_nI hp (by decide), og_s, ol_s, ol_s, nI_1, nI_clamp (by omega), fX9_putOnTape_L40, ol_s, hs', pk_vb]
  rw [show (((a.toUInt32 >>> (s.toUInt32 &&& Int32.toUInt32 31)).toInt32).toInt8.toInt32) = g k from hg.symm, cpT_push]
  rfl
theorem pot_w {F p k : Nat} {a : Int32} {v g : Nat → Int32} (hF : 5 < F) (hp : p + k + 4 ≤ 900) (h0 : g k = cb a 24) (h1 : g (k + 1) = cb a 16) (h2 : g (k + 2) = cb a 8) (h3 : g (k + 3) = cb a 0) : fX9_putOnTape F (nI (p + k)) (cpT v p 0 k g) a = some (nI (p + (k + 4)), cpT v p 0 (k + 4) g) := by
  unfold fX9_putOnTape
  obtain ⟨n, hn⟩ : ∃ n, F = n + 1 + 1 + 1 + 1 + 1 := ⟨F - 5, by omega⟩
  have e : ∀ s v, fX9_putOnTape_L3 F a F s (nI (p + k)) v = fX9_putOnTape_L3 F a (n + 1 + 1 + 1 + 1 + 1) s (nI (p + k)) v := fun s v => by rw [← hn]
  rw [e, pot_s (by decide) (show (24 : Int32) + (-8) = 16 by decide) (by omega) h0, pot_s (by decide) (show (16 : Int32) + (-8) = 8 by decide) (by omega) h1, pot_s (by decide) (show (8 : Int32) + (-8) = 0 by decide) (by omega) h2, pot_s (by decide) (show (0 : Int32) + (-8) = -8 by decide) (by omega) h3, fX9_putOnTape_L3, if_pos (by decide)]
theorem feed_ms {F fuel p k : Nat} {a1 a2 a3 a4 a5 thr : Int32} {v g : Nat → Int32} (hk : k < 20) (hp : p + 20 ≤ 900) (hg : g k = mb (sel a1 a2 a3 a4 a5 k) k) : fX10_feed_L24 F a1 a2 a3 a4 a5 (fuel + 1) (nI k) thr (nI (p + k)) (cpT v p 0 k g) = fX10_feed_L24 F a1 a2 a3 a4 a5 fuel (nI (k + 1)) thr (nI (p + (k + 1))) (cpT v p 0 (k + 1) g) := by
  have key : ∀ x : Int32, g k = mb x k → fX10_feed_L77 F a1 a2 a3 a4 a5 (fun x6 v_thrown v_taped v_tape => fX10_feed_L24 F a1 a2 a3 a4 a5 fuel x6 v_thrown v_taped v_tape) (nI k) x thr (nI (p + k)) (cpT v p 0 k g) = fX10_feed_L24 F a1 a2 a3 a4 a5 fuel (nI (k + 1)) thr (nI (p + (k + 1))) (cpT v p 0 (k + 1) g) := by
    intro x hx
    unfold fX10_feed_L77
    rw [vb_nI (by omega) (by decide), og_s, ol_s, ol_s, ol_s, nI_1, nI_1, nI_clamp (by omega)]
    rw [show ((x >>> (((24 : Int32) - ((8 : Int32) * (nI k - nI k / (4 : Int32) * (4 : Int32)))) &&& 31)) &&& (255 : Int32)) = g k from hx.symm, cpT_push]
    rfl
  rw [fX10_feed_L24, if_neg (show ¬ (20 : Int32) ≤ nI k from nI_ge (a := k) (b := 20) hk (by decide))]
  by_cases h4 : k < 4
  · rw [if_neg (show ¬ (4 : Int32) ≤ nI k from nI_ge (a := k) (b := 4) h4 (by decide))]
    exact key a1 (by rw [hg, sel, if_pos h4])
  · rw [if_pos (show (4 : Int32) ≤ nI k from nI_le (a := 4) (b := k) (by omega) (by omega))]
    by_cases h8 : k < 8
    · rw [if_neg (show ¬ (8 : Int32) ≤ nI k from nI_ge (a := k) (b := 8) h8 (by decide))]
      exact key a2 (by rw [hg, sel, if_neg h4, if_pos h8])
    · rw [if_pos (show (8 : Int32) ≤ nI k from nI_le (a := 8) (b := k) (by omega) (by omega))]
      by_cases h12 : k < 12
      · rw [if_neg (show ¬ (12 : Int32) ≤ nI k from nI_ge (a := k) (b := 12) h12 (by decide))]
        exact key a3 (by rw [hg, sel, if_neg h4, if_neg h8, if_pos h12])
      · rw [if_pos (show (12 : Int32) ≤ nI k from nI_le (a := 12) (b := k) (by omega) (by omega))]
        by_cases h16 : k < 16
        · rw [if_neg (show ¬ (16 : Int32) ≤ nI k from nI_ge (a := k) (b := 16) h16 (by decide))]
          exact key a4 (by rw [hg, sel, if_neg h4, if_neg h8, if_neg h12, if_pos h16])
        · rw [if_pos (show (16 : Int32) ≤ nI k from nI_le (a := 16) (b := k) (by omega) (by omega))]
          exact key a5 (by rw [hg, sel, if_neg h4, if_neg h8, if_neg h12, if_neg h16])
theorem feed_mL {F p : Nat} {a1 a2 a3 a4 a5 thr : Int32} {v g : Nat → Int32} (hp : p + 20 ≤ 900) (hg : ∀ k, k < 20 → g k = mb (sel a1 a2 a3 a4 a5 k) k) : ∀ (j k fuel : Nat), k + j = 20 → j < fuel → fX10_feed_L24 F a1 a2 a3 a4 a5 fuel (nI k) thr (nI (p + k)) (cpT v p 0 k g) = some (nI (p + 20), thr, nI (p + 20), cpT v p 0 20 g)
  | 0, k, fuel + 1, h, _ => by
    rw [fX10_feed_L24, show k = 20 by omega, if_pos (show (20 : Int32) ≤ nI 20 from nI_le (Nat.le_refl 20) (by decide))]
  | j + 1, k, fuel + 1, h, hf => by
    rw [feed_ms (by omega) hp (hg k (by omega)), feed_mL hp hg j (k + 1) fuel (by omega) (by omega)]
  | j, k, 0, _, hf => absurd hf (Nat.not_lt_zero j)
