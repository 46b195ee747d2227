/-! light, out: both sides -/
theorem tC_lit {t : Nat → Nat → Nat} {ch wc la th fi li : Int32} {xs hs fs ts sc sm lit wq wl wh : Nat → Int32} (h : tC t ch wc la th fi li xs hs fs ts sc sm lit wq wl wh) {l : Nat → Nat} {lit' : Nat → Int32} (hl : ∀ c, c < t 0 0 → lit' c = nI (l c) - 1) : tC (tLit t l) ch wc la th fi li xs hs fs ts sc sm lit' wq wl wh := by
  obtain ⟨h0, h1, h2, h3, h4, h5, h6, h7⟩ := h
  refine ⟨h0, h1, h2, h3, h4, h5, fun c hc => ?_, h7⟩
  obtain ⟨g0, g1, g2, g3, g4, -, g6⟩ := h6 c hc
  exact ⟨g0, g1, g2, g3, g4, hl c hc, g6⟩
theorem tM_lit {t : Nat → Nat → Nat} {all : Nat → Int32} {off : Nat} (h : tM t all off) {l : Nat → Nat} {all' : Nat → Int32} (hn : t 0 0 ≤ 10) (hw : t 1 0 ≤ 12) (hm : ∀ c, c < t 0 0 → t 10 c ≤ 6) (hl : ∀ c, c < t 0 0 → all' (off + (56 + c)) = nI (l c)) (ho : ∀ j, (j < 56 ∨ 66 ≤ j) → all' (off + j) = all (off + j)) : tM (tLit t l) all' off := by
  obtain ⟨h1, h2, h3⟩ := h
  refine ⟨fun k hk => ?_, fun c hc => ?_, fun w hw2 => ?_⟩
  · rw [ho k (by omega), h1 k hk]
    have : ¬ k = 11 := by omega
    simp [tLit, this]
  · have hc : c < t 0 0 := hc
    obtain ⟨g0, g1, g2, g3, g4, -, g6⟩ := h2 c hc
    refine ⟨?_, ?_, ?_, ?_, ?_, hl c hc, fun k hk => ?_⟩
    · rw [ho _ (by omega)]; exact g0
    · rw [ho _ (by omega)]; exact g1
    · rw [ho _ (by omega)]; exact g2
    · rw [ho _ (by omega)]; exact g3
    · rw [ho _ (by omega)]; exact g4
    · rw [ho _ (by omega)]; exact g6 k hk
  · obtain ⟨g0, g1, g2⟩ := h3 w hw2
    refine ⟨?_, ?_, ?_⟩
    · rw [ho _ (by omega)]; exact g0
    · rw [ho _ (by omega)]; exact g1
    · rw [ho _ (by omega)]; exact g2
theorem Tok_lit {t : Nat → Nat → Nat} (h : Tok t) {l : Nat → Nat} (hl : ∀ c, c < t 0 0 → l c = 0 ∨ (t 8 c + 1 ≤ l c ∧ l c ≤ t 9 c + 1)) : Tok (tLit t l) := by
  obtain ⟨h0, h1, h2, h3, h4, h5, h6, h7⟩ := h
  refine ⟨h0, h1, h2, h3, h4, h5, fun c hc => ?_, h7⟩
  obtain ⟨g0, g1, g2, g3, g4, -, g6⟩ := h6 c hc
  exact ⟨g0, g1, g2, g3, g4, hl c hc, g6⟩
theorem bI_0 {b : Bool} (h : b = false) : bI b = 0 := by subst h; rfl
theorem bI_1 {b : Bool} (h : b = true) : bI b = 1 := by subst h; rfl
theorem one0 : ¬ (1 : Int32) = 0 := by decide
/-- promise 7 -/
theorem s_light {F : Nat} {t : Nat → Nat → Nat} {ch wc la th fi li : Int32} {xs hs fs ts sc sm lit wq wl wh all : Nat → Int32} {thr : Int32} (a1 a2 : Int32) (ht : Tok t) (hC : tC t ch wc la th fi li xs hs fs ts sc sm lit wq wl wh) (hM : tM t all 0) :
    ∃ (r : Int32) (lit' all' : Nat → Int32) (l : Nat → Nat), fX9_light F ch fs lit ts a1 a2 = some (r, lit') ∧ fX10_light F thr all a1 a2 = some (r, 0, all') ∧ Tok (tLit t l) ∧ tC (tLit t l) ch wc la th fi li xs hs fs ts sc sm lit' wq wl wh ∧ tM (tLit t l) all' 0 ∧ ∀ j, (j < 56 ∨ 66 ≤ j) → all' j = all j := by
  have hn := ht.1
  have hall0 : all 0 = nI (t 0 0) := hM.1 0 (by decide)
  have same : tLit t (t 11) = t := by
    funext k
    by_cases h : k = 11
    · subst h; simp [tLit]
    · simp [tLit, h]
  unfold fX9_light fX10_light
  rw [hC.1, p_isChimney hall0 hn, ob_s]
  cases hv : vb a1 (t 0 0) with
  | false =>
    refine ⟨-2, lit, all, t 11, ?_, ?_, by rw [same]; exact ht, by rw [same]; exact hC.1 ▸ hC, by rw [same]; exact hM, fun _ _ => rfl⟩
    · rw [p_hasN (by omega) hv, ob_s, if_pos rfl]
    · rw [bI_0 rfl, if_pos rfl]
  | true =>
    obtain ⟨i, hi, rfl⟩ := vb_of (by omega) hv
    obtain ⟨-, -, c2, c3, -, c5, -⟩ := hC.2.2.2.2.2.2.1 i hi
    obtain ⟨-, -, m2, m3, -, m5, -⟩ := hM.2.1 i hi
    rw [Nat.zero_add] at m2 m3 m5
    have hlt := ht.lit hi
    rw [p_has hi (by omega), ob_s, if_neg one0, p_isLit hi hn, ob_s, bI_1 rfl, if_neg one0, p_mLit (by omega), ob_s, c5, m5]
    by_cases h0 : t 11 i = 0
    · rw [if_pos ((litC_iff hlt).mpr h0), if_pos rfl, if_pos ((litM_iff hlt).mpr h0), if_pos rfl, p_mayBeLit ht hi c2 c3, ob_s, p_isTime ht hi m2 m3, ob_s]
      cases hq : mayB t i a2 with
      | false =>
        refine ⟨-3, lit, all, t 11, ?_, ?_, by rw [same]; exact ht, by rw [same]; exact hC.1 ▸ hC, by rw [same]; exact hM, fun _ _ => rfl⟩
        · rw [bI_0 rfl, if_pos rfl]
        · rw [bI_0 rfl, if_pos rfl]
      | true =>
        obtain ⟨q, rfl, hq1, hq2⟩ := q_of_may hq
        have e56 : (56 : Int32) + nI i = nI (56 + i) := nI_add 56 i
        refine ⟨0, upd lit i (nI q), upd all (56 + i) (nI (q + 1)), va_up (t 11) i (q + 1), ?_, ?_, ?_, ?_, ?_, ?_⟩
        · rw [bI_1 rfl, if_neg one0, vb_nI (by omega) (by decide), og_s, ol_s, nI_clamp (by omega)]
        · rw [bI_1 rfl, if_neg one0, e56, vb_nI (by omega) (by decide), og_s, ol_s, nI_clamp (by omega), nI_1]
        · refine Tok_lit ht (fun c hc => ?_)
          by_cases e : c = i
          · subst e; rw [va_up_self]; omega
          · rw [va_up_ne _ _ e]
            obtain ⟨-, -, -, -, -, g, -⟩ := ht.2.2.2.2.2.2.1 c hc
            exact g
        · rw [← hC.1]
          refine tC_lit hC (fun c hc => ?_)
          by_cases e : c = i
          · subst e; rw [va_up_self, pk_us, nI_pred]
          · rw [va_up_ne _ _ e, pk_un e]
            exact (hC.2.2.2.2.2.2.1 c hc).2.2.2.2.2.1
        · refine tM_lit hM hn ht.2.1 (fun c hc => ((ht.2.2.2.2.2.2.1 c hc).2.2.2.2.1).2) (fun c hc => ?_) (fun j hj => ?_)
          · by_cases e : c = i
            · subst e; rw [va_up_self, Nat.zero_add, pk_us]
            · rw [va_up_ne _ _ e, Nat.zero_add, pk_un (by omega)]
              have := (hM.2.1 c hc).2.2.2.2.2.1
              rw [Nat.zero_add] at this; exact this
          · rw [Nat.zero_add, pk_un (by omega)]
        · intro j hj
          exact pk_un (by omega)
    · refine ⟨-5, lit, all, t 11, ?_, ?_, by rw [same]; exact ht, by rw [same]; exact hC.1 ▸ hC, by rw [same]; exact hM, fun _ _ => rfl⟩
      · rw [if_neg (fun z => h0 ((litC_iff hlt).mp z)), if_neg one0]
      · rw [if_neg (fun z => h0 ((litM_iff hlt).mp z)), if_neg one0]
