theorem p_layWhole {F c : Nat} {t : Nat → Nat → Nat} {Wd : Nat → Nat → Nat} {hs xs ths fs ts sc his los v : Nat → Int32} (ht : Tok t) (hc : c < t 0 0) (h0 : xs c = nI (t 6 c)) (h1 : ths c = nI (t 7 c)) (h2 : fs c = nI (t 8 c)) (h3 : ts c = nI (t 9 c)) (h4 : sc c = nI (t 10 c)) (hWd : ∀ k q, Wd k q ≤ 6) (hlo : ∀ q, q < 48 → los q = nI (Wd 0 q)) (hhi : ∀ q, q < 48 → his q = nI (Wd 1 q)) (hF : 29 < F) :
    ∃ v', fX4_layWhole F hs (nI (t 0 0)) (nI (t 2 0)) v fs ths sc ts xs his los (nI c) = some (upd hs c (nI (t 7 c)), v') ∧ (∀ b, t 8 c ≤ b → b < t 9 c + t 10 c → laid v' (t 2 0) Wd (t 7 c) (t 6 c) c b) ∧ ∀ j, (j < (c * 29 + t 8 c) * 9 ∨ (c * 29 + (t 9 c + t 10 c)) * 9 ≤ j) → v' j = v j := by
  have hn := ht.1
  obtain ⟨g0, g1, g2, g3, g4, -, -⟩ := ht.2.2.2.2.2.2.1 c hc
  obtain ⟨v', e1, e2, e3⟩ := p_layWays (F := F) (c := c) (ly := t 2 0) (hg := t 7 c) (x0 := t 6 c) (f := t 8 c) (e := t 9 c + t 10 c) (hs := hs) (v := v) ht.2.2.1 hWd hlo hhi g0 (by omega) (by omega) (by omega) (by omega) h0 hF
  refine ⟨v', ?_, e2, e3⟩
  unfold fX4_layWhole
  rw [p_has hc (by omega), ob_s, if_neg one0, vb_nI (by omega) (by decide), og_s, og_s, og_s, og_s, nI_clamp (by omega), h1, h2, h3, h4, nI_add, e1, ob_s]
