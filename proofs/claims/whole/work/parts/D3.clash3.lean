theorem cp_inj {k l a k' l' a' : Nat} (h1 : l < 5) (h2 : l' < 5) (h3 : a < 24) (h4 : a' < 24) (h : cp k l a = cp k' l' a') : k = k' ∧ l = l' ∧ a = a' := by
  unfold cp at h; omega
/-- members of the seeker: W k is the k-th -/
def mem5 (t : Nat → Nat → Nat) (W : Nat → Nat) (U : Nat) : Prop := U ≤ 5 ∧ ∀ k, k < U → W k < t 0 0
theorem p_lc41 {F U k : Nat} {W : Nat → Nat} {t : Nat → Nat → Nat} {Wd : Nat → Nat → Nat} {hs v lit sc sm fs ts who op : Nat → Int32} {k10 : Int32 → (Nat → Int32) → (Nat → Int32) → Option ((Nat → Int32) × (Nat → Int32))} (ht : Tok t) (hw : ∀ c, c < t 0 0 → wayOk t Wd hs v c) (h2 : ∀ c, c < t 0 0 → fs c = nI (t 8 c)) (h3 : ∀ c, c < t 0 0 → ts c = nI (t 9 c)) (hsc : ∀ c, c < t 0 0 → sc c = nI (t 10 c)) (hsm : ∀ c, c < t 0 0 → ∀ k, k < t 10 c → sm (6 * c + k) = nI (t 12 (6 * c + k))) (hF : 60 < F) (hW : mem5 t W U) (hwho : ∀ k, k < U → who k = nI (W k)) (hk : k < U) :
    ∀ (n j fuel : Nat) (cl : Nat → Int32), j + n = U → n < fuel → (∀ l a, j ≤ l → l < 5 → a < 24 → cl (cp k l a) = 0) → ∃ cl' : Nat → Int32, fX6_layClashes_L41 F (nI U) (nI (t 0 0)) (nI (t 3 0)) who hs v fs lit sc sm ts k10 fuel (nI k) (nI j) cl op = k10 (nI (k + 1)) cl' op ∧ (∀ l, j ≤ l → l < U → ∀ a, a < 24 → bsI (cl' (cp k l a)) (clP t Wd (W k) (W l) a)) ∧ ∀ p, (∀ l, j ≤ l → l < U → ∀ a, a < 24 → p ≠ cp k l a) → cl' p = cl p
  | 0, j, fuel + 1, cl, h, _, h0 => by
    have hU := hW.1
    refine ⟨cl, ?_, fun l a1 a2 => by omega, fun _ _ => rfl⟩
    rw [fX6_layClashes_L41, if_pos (nI_le (by omega) (by omega)), ol_s, nI_1]
  | n + 1, j, fuel + 1, cl, h, hf, h0 => by
    have hU := hW.1
    obtain ⟨cl1, e1, e2, e3⟩ := p_lcOf (F := F) (m1 := k) (m2 := j) (c := W j) (d := W k) (who := who) (cl := cl) ht (hw _ (hW.2 j (by omega))) (hw _ (hW.2 k hk)) h2 h3 hsc hsm (hW.2 j (by omega)) (hW.2 k hk) (by omega) (by omega) hF (hwho k hk) (hwho j (by omega)) (fun a ha => h0 j a (Nat.le_refl _) (by omega) ha)
    obtain ⟨cl', f1, f2, f3⟩ := p_lc41 (F := F) (Wd := Wd) (lit := lit) (op := op) (k10 := k10) ht hw h2 h3 hsc hsm hF hW hwho hk n (j + 1) fuel cl1 (by omega) (by omega) (fun l a a1 a2 a3 => by
      rw [e3 _ (fun a' ha' e => by have := (cp_inj (by omega) (by omega) a3 ha' e).2.1; omega)]
      exact h0 l a (by omega) a2 a3)
    refine ⟨cl', ?_, fun l a1 a2 a ha => ?_, fun p hp => ?_⟩
    · rw [fX6_layClashes_L41, if_neg (nI_ge (by omega) (by omega)), e1, ob_s, ol_s, nI_1, f1]
    · by_cases e : l = j
      · subst e
        rw [f3 _ (fun l' b1 b2 a' ha' e => by have := (cp_inj (by omega) (by omega) ha ha' e).2.1; omega)]
        exact e2 a ha
      · exact f2 l (by omega) a2 a ha
    · rw [f3 p (fun l a1 a2 a ha => hp l (by omega) a2 a ha)]
      exact e3 p (fun a ha => hp j (Nat.le_refl _) (by omega) a ha)
  | n, j, 0, cl, _, hf, _ => absurd hf (Nat.not_lt_zero n)
/-- the seeker's tables -/
def skT (t : Nat → Nat → Nat) (Wd : Nat → Nat → Nat) (W : Nat → Nat) (U : Nat) (cl op : Nat → Int32) : Prop := (∀ k, k < U → bsI (op k) (freeP t Wd (W k))) ∧ ∀ k l, k < l → l < U → ∀ a, a < 24 → bsI (cl (cp k l a)) (clP t Wd (W k) (W l) a)
theorem p_lc10 {F U : Nat} {W : Nat → Nat} {t : Nat → Nat → Nat} {Wd : Nat → Nat → Nat} {hs v lit sc sm fs ts who : Nat → Int32} (ht : Tok t) (hw : ∀ c, c < t 0 0 → wayOk t Wd hs v c) (H : liOk t Wd (t 7) hs v lit sc sm) (h2 : ∀ c, c < t 0 0 → fs c = nI (t 8 c)) (h3 : ∀ c, c < t 0 0 → ts c = nI (t 9 c)) (hF : 60 < F) (hW : mem5 t W U) (hwho : ∀ k, k < U → who k = nI (W k)) :
    ∀ (n k fuel : Nat) (cl op : Nat → Int32), k + n = U → n < fuel → (∀ k' l a, k ≤ k' → k' < 5 → l < 5 → a < 24 → cl (cp k' l a) = 0) → (∀ k', k' < k → bsI (op k') (freeP t Wd (W k'))) → (∀ k' l, k' < k → k' < l → l < U → ∀ a, a < 24 → bsI (cl (cp k' l a)) (clP t Wd (W k') (W l) a)) → ∃ cl' op' : Nat → Int32, fX6_layClashes_L10 F (nI U) (nI (t 0 0)) (nI (t 3 0)) who hs v fs lit sc sm ts fuel (nI k) cl op = some (cl', op') ∧ skT t Wd W U cl' op'
  | 0, k, fuel + 1, cl, op, h, _, h0, i1, i2 => by
    have hU := hW.1
    refine ⟨cl, op, ?_, fun k' hk' => i1 k' (by omega), fun k' l a1 a2 => i2 k' l (by omega) a1 a2⟩
    rw [fX6_layClashes_L10, if_pos (nI_le (by omega) (by omega))]
  | n + 1, k, fuel + 1, cl, op, h, hf, h0, i1, i2 => by
    have hU := hW.1
    have hk : k < U := by omega
    obtain ⟨S, s1, s2⟩ := p_freeQ (F := F) ht H (hw _ (hW.2 k hk)) (h2 _ (hW.2 k hk)) (h3 _ (hW.2 k hk)) (hW.2 k hk) hF
    obtain ⟨cl1, e1, e2, e3⟩ := p_lc41 (F := F) (Wd := Wd) (lit := lit) (op := upd op k S) (k10 := fun x1 v_clashes v_open => fX6_layClashes_L10 F (nI U) (nI (t 0 0)) (nI (t 3 0)) who hs v fs lit sc sm ts fuel x1 v_clashes v_open) ht hw h2 h3 (fun c hc => (H c hc).2.2.1) (fun c hc => (H c hc).2.2.2) hF hW hwho hk n (k + 1) F cl (by omega) (by omega) (fun l a a1 a2 a3 => h0 k l a (Nat.le_refl _) (by omega) a2 a3)
    obtain ⟨cl', op', f1, f2⟩ := p_lc10 (F := F) ht hw H h2 h3 hF hW hwho n (k + 1) fuel cl1 (upd op k S) (by omega) (by omega) (fun k' l a a1 a2 a3 a4 => by
      rw [e3 _ (fun l' b1 b2 a' ha' e => by have := (cp_inj (by omega) (by omega) a4 ha' e).1; omega)]
      exact h0 k' l a (by omega) a2 a3 a4) (fun k' hk' => by
      unfold upd
      by_cases e : k' = k
      · rw [if_pos e, e]; exact s2
      · rw [if_neg e]; exact i1 k' (by omega)) (fun k' l a1 a2 a3 a ha => by
      by_cases e : k' = k
      · subst e; exact e2 l (by omega) a3 a ha
      · rw [e3 _ (fun l' b1 b2 a' ha' e' => by have := (cp_inj (by omega) (by omega) ha ha' e').1; omega)]
        exact i2 k' l (by omega) a2 a3 a ha)
    refine ⟨cl', op', ?_, f2⟩
    rw [fX6_layClashes_L10, if_neg (nI_ge (by omega) (by omega)), vb_nI (show k < 5 by omega) (by decide), og_s, nI_clamp (by omega), hwho k hk, s1, ob_s, vb_nI (show k < 30 by omega) (by decide), og_s, ol_s, ol_s, nI_1]
    exact e1.trans f1
  | n, k, 0, cl, op, _, hf, _, _, _ => absurd hf (Nat.not_lt_zero n)
theorem p_lc {F U : Nat} {W : Nat → Nat} {t : Nat → Nat → Nat} {Wd : Nat → Nat → Nat} {hs v lit sc sm fs ts who cl op : Nat → Int32} (ht : Tok t) (hw : ∀ c, c < t 0 0 → wayOk t Wd hs v c) (H : liOk t Wd (t 7) hs v lit sc sm) (h2 : ∀ c, c < t 0 0 → fs c = nI (t 8 c)) (h3 : ∀ c, c < t 0 0 → ts c = nI (t 9 c)) (hF : 600 < F) (hW : mem5 t W U) (hwho : ∀ k, k < U → who k = nI (W k)) :
    ∃ cl' op' : Nat → Int32, fX6_layClashes F (nI U) cl op (nI (t 0 0)) (nI (t 3 0)) who hs v fs lit sc sm ts = some (cl', op') ∧ skT t Wd W U cl' op' := by
  have hU := hW.1
  unfold fX6_layClashes
  rw [p_fillI hF (by decide), ob_s]
  exact p_lc10 (F := F) ht hw H h2 h3 (by omega) hW hwho U 0 F _ op (by omega) (by omega) (fun k' l a a1 a2 a3 a4 => by
    have := cp_lt a2 a3 a4
    unfold fillT
    rw [if_pos ⟨Nat.zero_le _, this⟩]) (fun k' hk' => by omega) (fun k' l a1 => by omega)
