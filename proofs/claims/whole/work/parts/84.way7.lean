theorem p_layRaised {F c r q : Nat} {t : Nat → Nat → Nat} {Wd : Nat → Nat → Nat} {hs xs ths lit sc his los v : Nat → Int32} (ht : Tok t) (hc : c < t 0 0) (hq : t 11 c = q + 1) (hr : r ≤ 12) (h0 : xs c = nI (t 6 c)) (h1 : ths c = nI (t 7 c)) (h4 : sc c = nI (t 10 c)) (h5 : lit c = nI (t 11 c) - 1) (hWd : ∀ k q, Wd k q ≤ 6) (hlo : ∀ q, q < 48 → los q = nI (Wd 0 q)) (hhi : ∀ q, q < 48 → his q = nI (Wd 1 q)) (hF : 29 < F) :
    ∃ v', fX4_layRaised F hs (nI (t 0 0)) (nI (t 2 0)) v ths lit sc xs his los (nI c) (nI r) = some (upd hs c (nI (t 7 c + r)), v') ∧ (∀ b, q ≤ b → b < q + t 10 c → laid v' (t 2 0) Wd (t 7 c + r) (t 6 c) c b) ∧ ∀ j, (j < (c * 29 + q) * 9 ∨ (c * 29 + (q + t 10 c)) * 9 ≤ j) → v' j = v j := by
  have hn := ht.1
  obtain ⟨g0, g1, g2, g3, g4, g5, -⟩ := ht.2.2.2.2.2.2.1 c hc
  have hl : lit c = nI q := by rw [h5, hq, nI_pred]
  obtain ⟨v', e1, e2, e3⟩ := p_layWays (F := F) (c := c) (ly := t 2 0) (hg := t 7 c + r) (x0 := t 6 c) (f := q) (e := q + t 10 c) (hs := hs) (v := v) ht.2.2.1 hWd hlo hhi g0 (by omega) (by omega) (by omega) (by omega) h0 hF
  refine ⟨v', ?_, e2, e3⟩
  unfold fX4_layRaised
  rw [p_isLit hc hn, hl, ob_s, if_neg (nI_nm1 (by omega)), if_neg one0, vb_nI (by omega) (by decide), og_s, nI_clamp (by omega), ol_s, og_s, og_s, hl, h1, h4, nI_add, nI_add, e1, ob_s]
