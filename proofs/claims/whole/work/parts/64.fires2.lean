theorem tLit_same (t : Nat → Nat → Nat) : tLit t (t 11) = t := by
  funext k
  by_cases h : k = 11
  · subst h; simp [tLit]
  · simp [tLit, h]
theorem p_litAt {F c : Nat} {all : Nat → Int32} (hc : c < 10) : fX10_litAt F all (nI c) = some (all (56 + c) - 1) := by
  unfold fX10_litAt
  have e : (56 : Int32) + nI c = nI (56 + c) := nI_add 56 c
  rw [e, vb_nI (by omega) (by decide), og_s, nI_clamp (by omega)]
/-- promise 8 -/
theorem s_out {F : Nat} {t : Nat → Nat → Nat} {ch wc la th fi li : Int32} {xs hs fs ts sc sm lit wq wl wh all : Nat → Int32} {thr : Int32} (a1 : Int32) (ht : Tok t) (hC : tC t ch wc la th fi li xs hs fs ts sc sm lit wq wl wh) (hM : tM t all 0) :
    ∃ (r : Int32) (lit' all' : Nat → Int32) (l : Nat → Nat), fX9_out F ch lit a1 = some (r, lit') ∧ fX10_out F thr all a1 = some (r, 0, all') ∧ Tok (tLit t l) ∧ tC (tLit t l) ch wc la th fi li xs hs fs ts sc sm lit' wq wl wh ∧ tM (tLit t l) all' 0 ∧ ∀ j, (j < 56 ∨ 66 ≤ j) → all' j = all j := by
  have hn := ht.1
  have hall0 : all 0 = nI (t 0 0) := hM.1 0 (by decide)
  have same := tLit_same t
  unfold fX9_out fX10_out
  rw [hC.1, p_isChimney hall0 hn, ob_s]
  cases hv : vb a1 (t 0 0) with
  | false =>
    refine ⟨-2, lit, all, t 11, ?_, ?_, by rw [same]; exact ht, by rw [same]; exact hC.1 ▸ hC, by rw [same]; exact hM, fun _ _ => rfl⟩
    · rw [p_hasN (by omega) hv, ob_s, if_pos rfl]
    · rw [bI_0 rfl, if_pos rfl]
  | true =>
    obtain ⟨i, hi, rfl⟩ := vb_of (by omega) hv
    obtain ⟨-, -, -, -, -, c5, -⟩ := hC.2.2.2.2.2.2.1 i hi
    obtain ⟨-, -, -, -, -, m5, -⟩ := hM.2.1 i hi
    rw [Nat.zero_add] at m5
    have hlt := ht.lit hi
    rw [p_has hi (by omega), ob_s, if_neg one0, p_isLit hi hn, ob_s, bI_1 rfl, if_neg one0, p_mLit (by omega), ob_s, c5, m5]
    by_cases h0 : t 11 i = 0
    · refine ⟨-5, lit, all, t 11, ?_, ?_, by rw [same]; exact ht, by rw [same]; exact hC.1 ▸ hC, by rw [same]; exact hM, fun _ _ => rfl⟩
      · rw [if_pos ((litC_iff hlt).mpr h0), if_pos rfl]
      · rw [if_pos ((litM_iff hlt).mpr h0), if_pos rfl]
    · have e56 : (56 : Int32) + nI i = nI (56 + i) := nI_add 56 i
      refine ⟨nI (t 11 i) - 1, upd lit i (-1), upd all (56 + i) 0, va_up (t 11) i 0, ?_, ?_, ?_, ?_, ?_, ?_⟩
      · rw [if_neg (fun z => h0 ((litC_iff hlt).mp z)), if_neg one0, vb_nI (by omega) (by decide), og_s, ol_s, og_s, ol_s, nI_clamp (by omega), c5]
      · rw [if_neg (fun z => h0 ((litM_iff hlt).mp z)), if_neg one0, p_litAt (by omega), ob_s, e56, vb_nI (by omega) (by decide), og_s, ol_s, nI_clamp (by omega), m5]
      · refine Tok_lit ht (fun c hc => ?_)
        by_cases e : c = i
        · subst e; rw [va_up_self]; exact Or.inl rfl
        · rw [va_up_ne _ _ e]
          obtain ⟨-, -, -, -, -, g, -⟩ := ht.2.2.2.2.2.2.1 c hc
          exact g
      · rw [← hC.1]
        refine tC_lit hC (fun c hc => ?_)
        by_cases e : c = i
        · subst e; rw [va_up_self, pk_us]; rfl
        · rw [va_up_ne _ _ e, pk_un e]
          exact (hC.2.2.2.2.2.2.1 c hc).2.2.2.2.2.1
      · refine tM_lit hM hn ht.2.1 (fun c hc => ((ht.2.2.2.2.2.2.1 c hc).2.2.2.2.1).2) (fun c hc => ?_) (fun j hj => ?_)
        · by_cases e : c = i
          · subst e; rw [va_up_self, Nat.zero_add, pk_us]; rfl
          · rw [va_up_ne _ _ e, Nat.zero_add, pk_un (by omega)]
            have := (hM.2.1 c hc).2.2.2.2.2.1
            rw [Nat.zero_add] at this; exact this
        · rw [Nat.zero_add, pk_un (by omega)]
      · intro j hj
        exact pk_un (by omega)
/-- promise 4 -/
theorem s_fault {F : Nat} {k pl thr : Int32} (a1 : Int32) : ∃ r, fX9_fault F k pl a1 = some r ∧ fX10_fault F thr k pl a1 = some (r, 0) := by
  unfold fX9_fault fX10_fault
  by_cases h0 : a1 = 0
  · exact ⟨k, by rw [if_pos h0], by rw [if_pos h0]⟩
  · by_cases h1 : a1 = 1
    · exact ⟨pl, by rw [if_neg h0, if_pos h1], by rw [if_neg h0, if_pos h1]⟩
    · exact ⟨-1, by rw [if_neg h0, if_neg h1], by rw [if_neg h0, if_neg h1]⟩
