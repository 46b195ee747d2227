/-- the way that began at c in quarter b lies in the row -/
def laid (v : Nat → Int32) (ly : Nat) (Wd : Nat → Nat → Nat) (hg x0 c b : Nat) : Prop := ∀ a, a < 9 → v ((c * 29 + b) * 9 + a) = encW (wayX ly Wd hg x0 b a)
theorem p_layWays_L {F c ly hg x0 e : Nat} {a2 a3 : Int32} {Wd : Nat → Nat → Nat} {hs xs his los : Nat → Int32} (hly : ly ≤ 20) (hWd : ∀ k q, Wd k q ≤ 6) (hlo : ∀ q, q < 48 → los q = nI (Wd 0 q)) (hhi : ∀ q, q < 48 → his q = nI (Wd 1 q)) (hx0 : x0 < 40) (he : e ≤ 29) (hc : c < 10) (hhg : hg ≤ 24) (hxs : xs c = nI x0) (hhs : hs c = nI hg) (hF : 9 < F) :
    ∀ (k i fuel : Nat) (v : Nat → Int32), i + k = e → k < fuel → ∃ v', fX4_layWays_L14 F (nI ly) xs his los (nI c) a2 a3 (nI e) fuel (nI i) hs v = some (hs, v') ∧ (∀ b, i ≤ b → b < e → laid v' ly Wd hg x0 c b) ∧ ∀ j, (j < (c * 29 + i) * 9 ∨ (c * 29 + e) * 9 ≤ j) → v' j = v j
  | 0, i, fuel + 1, v, h, _ => by
    have hm : ¬ (29 : Int32) < nI e := nI_nlt (a := 29) (b := e) (by omega) (by decide)
    refine ⟨v, ?_, fun b h1 h2 => by omega, fun _ _ => rfl⟩
    rw [fX4_layWays_L14, if_neg hm, show i = e by omega, if_pos (nI_le (Nat.le_refl e) (by omega))]
  | k + 1, i, fuel + 1, v, h, hf => by
    have hm : ¬ (29 : Int32) < nI e := nI_nlt (a := 29) (b := e) (by omega) (by decide)
    obtain ⟨v', h1, h2, h3⟩ := p_layWays_L (a2 := a2) (a3 := a3) hly hWd hlo hhi hx0 he hc hhg hxs hhs hF k (i + 1) fuel (cpT v ((c * 29 + i) * 9) 0 9 (fun j => encW (wayX ly Wd hg x0 i j))) (by omega) (by omega)
    refine ⟨v', ?_, fun b hb1 hb2 => ?_, fun j hj => ?_⟩
    · rw [fX4_layWays_L14, if_neg hm, if_neg (nI_ge (by omega) (by omega)), p_layWay hly hWd hlo hhi hx0 (by omega) hc hhg hxs hhs hF, ob_s, ol_s, nI_1]
      exact h1
    · by_cases hbi : b = i
      · subst hbi
        intro a ha
        rw [h3 _ (by omega), cpT_in (by omega) (by omega), Nat.add_sub_cancel_left]
      · exact h2 b (by omega) hb2
    · rw [h3 j (by omega), cpT_out (by omega)]
  | k, i, 0, v, _, hf => absurd hf (Nat.not_lt_zero k)
theorem p_layWays {F c ly hg x0 f e : Nat} {Wd : Nat → Nat → Nat} {hs xs his los v : Nat → Int32} (hly : ly ≤ 20) (hWd : ∀ k q, Wd k q ≤ 6) (hlo : ∀ q, q < 48 → los q = nI (Wd 0 q)) (hhi : ∀ q, q < 48 → his q = nI (Wd 1 q)) (hx0 : x0 < 40) (hfe : f ≤ e) (he : e ≤ 29) (hc : c < 10) (hhg : hg ≤ 24) (hxs : xs c = nI x0) (hF : 29 < F) :
    ∃ v', fX4_layWays F hs (nI ly) v xs his los (nI c) (nI hg) (nI f) (nI e) = some (upd hs c (nI hg), v') ∧ (∀ b, f ≤ b → b < e → laid v' ly Wd hg x0 c b) ∧ ∀ j, (j < (c * 29 + f) * 9 ∨ (c * 29 + e) * 9 ≤ j) → v' j = v j := by
  obtain ⟨v', h1, h2, h3⟩ := p_layWays_L (F := F) (a2 := nI hg) (a3 := nI f) (hs := upd hs c (nI hg)) hly hWd hlo hhi hx0 he hc hhg hxs pk_us (by omega) (e - f) f F v (by omega) (by omega)
  refine ⟨v', ?_, h2, h3⟩
  unfold fX4_layWays
  rw [vb_nI hc (by decide), og_s, ol_s, ol_s, nI_clamp (by omega), if_neg (show ¬ nI f < (0 : Int32) from nI_pos (by omega))]
  exact h1
