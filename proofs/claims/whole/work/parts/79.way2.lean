theorem cpI_step {v g : Nat → Int32} {o i n : Nat} (h : i < n) : cpT (upd v (o + i) (g i)) o (i + 1) n g = cpT v o i n g := by
  funext j
  by_cases h1 : o + (i + 1) ≤ j ∧ j < o + n
  · rw [cpT_in h1.1 h1.2, cpT_in (by omega) h1.2]
  · rw [cpT_out (by omega)]
    by_cases h2 : j = o + i
    · subst h2; rw [pk_us, cpT_in (Nat.le_refl _) (by omega), Nat.add_sub_cancel_left]
    · rw [pk_un h2, cpT_out (by omega)]
theorem p_way_L {F b at_ ly hg x0 : Nat} {c : Int32} {Wd : Nat → Nat → Nat} {hs xs his los : Nat → Int32} (hly : ly ≤ 20) (hWd : ∀ k q, Wd k q ≤ 6) (hlo : ∀ q, q < 48 → los q = nI (Wd 0 q)) (hhi : ∀ q, q < 48 → his q = nI (Wd 1 q)) (hx0 : x0 < 40) (hb : b ≤ 28) (hat : at_ + 9 ≤ 2610) (hhg : hg ≤ 24) :
    ∀ (k a fuel : Nat) (h : Int32) (v : Nat → Int32), a + 1 + k = 9 → k < fuel → (∀ x, wayX ly Wd hg x0 b a = some x → h = nI (hg + a)) → fX4_layWay_L40 F hs (nI ly) xs his los c (nI b) fuel (nI at_) (encW (wayX ly Wd hg x0 b a)) h (nI (a + 1)) v = some (cpT v at_ (a + 1) 9 (fun j => encW (wayX ly Wd hg x0 b j)))
  | 0, a, fuel + 1, h, v, e, _, _ => by
    rw [fX4_layWay_L40, show a + 1 = 9 by omega, if_pos (show (9 : Int32) ≤ nI 9 from nI_le (Nat.le_refl 9) (by decide)), cpT_nil]
  | k + 1, a, fuel + 1, h, v, e, hf, hh => by
    have key : ∀ (y h' : Int32), y = encW (wayX ly Wd hg x0 b (a + 1)) → (∀ x, wayX ly Wd hg x0 b (a + 1) = some x → h' = nI (hg + (a + 1))) → fX4_layWay_L122 F hs (nI ly) xs his los c (nI b) (fun x3 x4 x5 x6 v_ways => fX4_layWay_L40 F hs (nI ly) xs his los c (nI b) fuel x3 x4 x5 x6 v_ways) (nI at_) y h' (nI (a + 1)) v = some (cpT v at_ (a + 1) 9 (fun j => encW (wayX ly Wd hg x0 b j))) := by
      intro y h' hy hh'
      unfold fX4_layWay_L122
      rw [nI_add, vb_nI (by omega) (by decide), og_s, ol_s, ol_s, nI_1, nI_clamp (by omega), hy]
      exact (p_way_L hly hWd hlo hhi hx0 hb hat hhg k (a + 1) fuel h' _ (by omega) (by omega) hh').trans (congrArg some (cpI_step (g := fun j => encW (wayX ly Wd hg x0 b j)) (by omega)))
    rw [fX4_layWay_L40, if_neg (show ¬ (9 : Int32) ≤ nI (a + 1) from nI_ge (a := a + 1) (b := 9) (by omega) (by decide))]
    cases hp : wayX ly Wd hg x0 b a with
    | none =>
      have hn := wayX_n hp
      rw [encW_n, if_pos rfl]
      exact key (-1) h (by rw [hn]; rfl) (fun x hx => by rw [hn] at hx; cases hx)
    | some x =>
      have hx40 := wayX_lt hx0 a hp
      have hs' := wayX_s hp
      have hq : b + (a + 1) < 48 := by omega
      have k119 : ∀ h', wayX ly Wd hg x0 b (a + 1) = none → fX4_layWay_L119 F hs (nI ly) xs his los c (nI b) (fun x3 x4 x5 x6 v_ways => fX4_layWay_L40 F hs (nI ly) xs his los c (nI b) fuel x3 x4 x5 x6 v_ways) (nI at_) h' (nI (a + 1)) v = some (cpT v at_ (a + 1) 9 (fun j => encW (wayX ly Wd hg x0 b j))) := by
        intro h' hn
        unfold fX4_layWay_L119
        exact key (-1) h' (by rw [hn]; rfl) (fun x hx => by rw [hn] at hx; cases hx)
      have go : ∀ w : Nat, w ≤ 6 → w = Wd (if hg + a < ly then 0 else 1) (b + a + 1) → fX4_layWay_L96 F hs (nI ly) xs his los c (nI b) (fun x3 x4 x5 x6 v_ways => fX4_layWay_L40 F hs (nI ly) xs his los c (nI b) fuel x3 x4 x5 x6 v_ways) (nI at_) (nI (hg + a)) (nI (a + 1)) (nI w) (nI x) v = some (cpT v at_ (a + 1) 9 (fun j => encW (wayX ly Wd hg x0 b j))) := by
        intro w hw hwe
        have hst : wayX ly Wd hg x0 b (a + 1) = if 3 ≤ x + w ∧ x + w < 43 ∧ hg + a + 1 < 25 then some (x + w - 3) else none := by rw [hs', wStep, ← hwe]
        have mv := x_move hx40 hw
        unfold fX4_layWay_L96
        rw [ol_s, ol_s, p_isX, ob_s, nI_1]
        by_cases h3 : 3 ≤ x + w
        · rw [mv.1 h3]
          by_cases h40 : x + w - 3 < 40
          · rw [vb_nI h40 (by decide), bI_1 rfl, if_neg one0]
            by_cases h25 : hg + a + 1 < 25
            · rw [if_pos (show nI (hg + a + 1) < (25 : Int32) from nI_lt (a := hg + a + 1) (b := 25) h25 (by decide))]
              have hw2 : wayX ly Wd hg x0 b (a + 1) = some (x + w - 3) := by rw [hst, if_pos ⟨h3, by omega, h25⟩]
              exact key _ _ (by rw [hw2]; rfl) (fun _ _ => rfl)
            · rw [if_neg (show ¬ nI (hg + a + 1) < (25 : Int32) from nI_nlt (a := hg + a + 1) (b := 25) (by omega) (by omega))]
              exact k119 _ (by rw [hst, if_neg (by omega)])
          · have hf0 : vb (nI (x + w - 3)) 40 = false := by
              cases hv : vb (nI (x + w - 3)) 40 with
              | false => rfl
              | true =>
                obtain ⟨i, hi, hie⟩ := vb_of (by decide) hv
                have := (nI_eq (by omega) (by omega)).mp hie
                omega
            rw [hf0, bI_0 rfl, if_pos rfl]
            exact k119 _ (by rw [hst, if_neg (by omega)])
        · rw [mv.2 (by omega), bI_0 rfl, if_pos rfl]
          exact k119 _ (by rw [hst, if_neg (by omega)])
      rw [encW_s, if_neg (nI_nm1 (by omega)), ol_s, hh x hp, nI_add, vb_nI hq (by decide), og_s, og_s, nI_clamp (by omega), hlo _ hq, hhi _ hq]
      by_cases hl : hg + a < ly
      · rw [if_neg (nI_ge hl (by omega))]
        exact go _ (hWd _ _) (by rw [if_pos hl]; rfl)
      · rw [if_pos (nI_le (by omega) (by omega))]
        exact go _ (hWd _ _) (by rw [if_neg hl]; rfl)
  | k, a, 0, h, v, _, hf, _ => absurd hf (Nat.not_lt_zero k)
