/-- the k-th of those below D for which f -/
def nthU (f : Nat → Bool) : Nat → Nat → Nat
  | 0, _ => 0
  | D + 1, k => if f D = true ∧ fitN f D = k then D else nthU f D k
theorem nthU_at {f : Nat → Bool} {d : Nat} (hf : f d = true) : ∀ D, d < D → nthU f D (fitN f d) = d
  | 0, h => absurd h (Nat.not_lt_zero d)
  | D + 1, h => by
    unfold nthU
    by_cases e : d = D
    · subst e; rw [if_pos ⟨hf, rfl⟩]
    · have hs := fitN_mono f (a := d + 1) (b := D) (by omega)
      rw [fitN_s, hf] at hs
      simp at hs
      rw [if_neg (fun z => by have := z.2; omega)]
      exact nthU_at hf D (by omega)
def uB (t : Nat → Nat → Nat) (c : Nat) : Bool := decide (t 11 c = 0)
def uN (t : Nat → Nat → Nat) : Nat := fitN (uB t) (t 0 0)
def uW (t : Nat → Nat → Nat) (k : Nat) : Nat := nthU (uB t) (t 0 0) k
theorem uW_at {t : Nat → Nat → Nat} {k : Nat} (h : k < uN t) : uW t k < t 0 0 ∧ t 11 (uW t k) = 0 ∧ fitN (uB t) (uW t k) = k := by
  obtain ⟨d, d1, d2, d3⟩ := fitN_at (t 0 0) h
  have := nthU_at d2 (t 0 0) d1
  rw [d3] at this
  unfold uW
  rw [this]
  unfold uB at d2
  exact ⟨d1, of_decide_eq_true d2, d3⟩
theorem uW_of {t : Nat → Nat → Nat} {c : Nat} (hc : c < t 0 0) (h : t 11 c = 0) : uW t (fitN (uB t) c) = c := nthU_at (decide_eq_true h) (t 0 0) hc
theorem uN_lt {t : Nat → Nat → Nat} {c : Nat} (hc : c < t 0 0) (h : t 11 c = 0) : fitN (uB t) c < uN t := by
  have hs := fitN_mono (uB t) (a := c + 1) (b := t 0 0) (by omega)
  have hb : uB t c = true := decide_eq_true h
  rw [fitN_s, hb] at hs
  simp at hs
  unfold uN
  omega
theorem uN_mem {t : Nat → Nat → Nat} (h : uN t ≤ 5) : mem5 t (uW t) (uN t) := ⟨h, fun k hk => (uW_at hk).1⟩
theorem p_gu_L {F : Nat} {t : Nat → Nat → Nat} {Wd : Nat → Nat → Nat} {hs v lit sc sm fs ts : Nat → Int32} (ht : Tok t) (hw : ∀ c, c < t 0 0 → wayOk t Wd hs v c) (H : liOk t Wd (t 7) hs v lit sc sm) (h2 : ∀ c, c < t 0 0 → fs c = nI (t 8 c)) (h3 : ∀ c, c < t 0 0 → ts c = nI (t 9 c)) (hF : 600 < F) :
    ∀ (n i fuel : Nat) (cl op who : Nat → Int32), i + n = t 0 0 → n < fuel → fitN (uB t) i ≤ 5 → (∀ k, k < fitN (uB t) i → who k = nI (uW t k)) → (uN t ≤ 5 ∧ ∃ cl' op' who' : Nat → Int32, fX6_gatherUnlit_L7 F (nI (t 0 0)) (nI (t 3 0)) hs v fs lit sc sm ts fuel (nI i) (nI (fitN (uB t) i)) cl op who = some (1, nI (uN t), cl', op', who') ∧ skT t Wd (uW t) (uN t) cl' op' ∧ ∀ k, k < uN t → who' k = nI (uW t k)) ∨ (5 < uN t ∧ fstIs (fX6_gatherUnlit_L7 F (nI (t 0 0)) (nI (t 3 0)) hs v fs lit sc sm ts fuel (nI i) (nI (fitN (uB t) i)) cl op who) 0)
  | 0, i, fuel + 1, cl, op, who, h, _, h5, hW => by
    have hn := ht.1
    have hi : i = t 0 0 := by omega
    have hu : fitN (uB t) i = uN t := by rw [hi]; rfl
    rw [hu] at h5 hW ⊢
    obtain ⟨cl', op', e1, e2⟩ := p_lc (F := F) (cl := cl) (op := op) ht hw H h2 h3 hF (uN_mem h5) hW
    refine Or.inl ⟨h5, cl', op', who, ?_, e2, hW⟩
    rw [fX6_gatherUnlit_L7, if_pos (nI_le (by omega) (by omega)), e1, ob_s]
  | n + 1, i, fuel + 1, cl, op, who, h, hf, h5, hW => by
    have hn := ht.1
    have hi : i < t 0 0 := by omega
    have hlt := ht.lit hi
    rw [fX6_gatherUnlit_L7, if_neg (nI_ge hi (by omega)), p_isLit hi hn, ob_s, (H i hi).2.1]
    have IH := fun who0 => p_gu_L (F := F) ht hw H h2 h3 hF n (i + 1) fuel cl op who0 (by omega) (by omega)
    by_cases hl : t 11 i = 0
    · have hb : uB t i = true := decide_eq_true hl
      have hs := fitN_s (uB t) i
      rw [hb] at hs
      simp at hs
      have hlt' := uN_lt hi hl
      rw [if_pos ((litC_iff hlt).mpr hl), if_pos rfl]
      by_cases h6 : fitN (uB t) i = 5
      · refine Or.inr ⟨by omega, ?_⟩
        rw [h6, if_pos (show nI 5 = 5 from rfl)]
        rfl
      · rw [if_neg (show ¬ nI (fitN (uB t) i) = 5 from nI_ne (a := fitN (uB t) i) (b := 5) (by omega) (by decide) h6), vb_nI (show fitN (uB t) i < 5 by omega) (by decide), og_s, ol_s, ol_s, fX6_gatherUnlit_L59, ol_s, nI_1, nI_1, nI_clamp (by omega), ← hs]
        exact IH (upd who (fitN (uB t) i) (nI i)) (by omega) (fun k hk => by
          unfold upd
          by_cases e : k = fitN (uB t) i
          · rw [if_pos e, e, uW_of hi hl]
          · rw [if_neg e]; exact hW k (by omega))
    · have hb : uB t i = false := decide_eq_false hl
      have hs := fitN_s (uB t) i
      rw [hb] at hs
      simp at hs
      rw [if_neg (fun z => hl ((litC_iff hlt).mp z)), if_neg one0, fX6_gatherUnlit_L59, ol_s, nI_1, ← hs]
      exact IH who (by omega) (fun k hk => hW k (by omega))
  | n, i, 0, cl, op, who, _, hf, _, _ => absurd hf (Nat.not_lt_zero n)
theorem p_gu {F : Nat} {t : Nat → Nat → Nat} {hs v lit sc sm fs ts cl op who : Nat → Int32} {mem : Int32} (ht : Tok t) (hP : plOk t hs v lit sc sm) (h2 : ∀ c, c < t 0 0 → fs c = nI (t 8 c)) (h3 : ∀ c, c < t 0 0 → ts c = nI (t 9 c)) (hF : 600 < F) : (uN t ≤ 5 ∧ ∃ cl' op' who' : Nat → Int32, fX6_gatherUnlit F mem cl op (nI (t 0 0)) (nI (t 3 0)) who hs v fs lit sc sm ts = some (1, nI (uN t), cl', op', who') ∧ skT t (tW t) (uW t) (uN t) cl' op' ∧ ∀ k, k < uN t → who' k = nI (uW t k)) ∨ (5 < uN t ∧ fstIs (fX6_gatherUnlit F mem cl op (nI (t 0 0)) (nI (t 3 0)) who hs v fs lit sc sm ts) 0) :=
  p_gu_L (F := F) ht (fun c hc => (hP c hc).1) (li_of ht hP) h2 h3 hF (t 0 0) 0 F cl op who (by omega) (by have := ht.1; omega) (by have := fitN_le (uB t) 0; omega) (fun k hk => by have := fitN_le (uB t) 0; omega)
