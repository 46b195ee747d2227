/-- a chimney more -/
def tCh (t : Nat → Nat → Nat) (X H A B K : Nat) (S : Nat → Nat) : Nat → Nat → Nat := fun i j => if i = 0 ∧ j = 0 then t 0 0 + 1 else if i = 6 ∧ j = t 0 0 then X else if i = 7 ∧ j = t 0 0 then H else if i = 8 ∧ j = t 0 0 then A else if i = 9 ∧ j = t 0 0 then B else if i = 10 ∧ j = t 0 0 then K else if i = 11 ∧ j = t 0 0 then 0 else if i = 12 ∧ 6 * t 0 0 ≤ j ∧ j < 6 * t 0 0 + 6 then S (j - 6 * t 0 0) else t i j
theorem tCh_0 {t : Nat → Nat → Nat} {X H A B K : Nat} {S : Nat → Nat} : tCh t X H A B K S 0 0 = t 0 0 + 1 := by unfold tCh; rw [if_pos ⟨rfl, rfl⟩]
theorem tCh_o {t : Nat → Nat → Nat} {X H A B K : Nat} {S : Nat → Nat} {i j : Nat} (h : i ≠ 0) (h' : i < 6 ∨ 13 ≤ i) : tCh t X H A B K S i j = t i j := by
  unfold tCh
  rw [if_neg (fun z => h z.1), if_neg (fun z => by omega), if_neg (fun z => by omega), if_neg (fun z => by omega), if_neg (fun z => by omega), if_neg (fun z => by omega), if_neg (fun z => by omega), if_neg (fun z => by omega)]
theorem tCh_c {t : Nat → Nat → Nat} {X H A B K : Nat} {S : Nat → Nat} {i j : Nat} (h : 6 ≤ i) (h' : i < 12) (hj : j ≠ t 0 0) : tCh t X H A B K S i j = t i j := by
  unfold tCh
  rw [if_neg (fun z => by omega), if_neg (fun z => hj z.2), if_neg (fun z => hj z.2), if_neg (fun z => hj z.2), if_neg (fun z => hj z.2), if_neg (fun z => hj z.2), if_neg (fun z => hj z.2), if_neg (fun z => by omega)]
theorem tCh_12 {t : Nat → Nat → Nat} {X H A B K : Nat} {S : Nat → Nat} {j : Nat} (h : j < 6 * t 0 0) : tCh t X H A B K S 12 j = t 12 j := by
  unfold tCh
  rw [if_neg (fun z => by omega), if_neg (fun z => by omega), if_neg (fun z => by omega), if_neg (fun z => by omega), if_neg (fun z => by omega), if_neg (fun z => by omega), if_neg (fun z => by omega), if_neg (fun z => by omega)]
theorem tCh_12s {t : Nat → Nat → Nat} {X H A B K : Nat} {S : Nat → Nat} {k : Nat} (h : k < 6) : tCh t X H A B K S 12 (6 * t 0 0 + k) = S k := by
  unfold tCh
  rw [if_neg (fun z => by omega), if_neg (fun z => by omega), if_neg (fun z => by omega), if_neg (fun z => by omega), if_neg (fun z => by omega), if_neg (fun z => by omega), if_neg (fun z => by omega), if_pos ⟨rfl, by omega, by omega⟩, Nat.add_sub_cancel_left]
theorem tCh_s {t : Nat → Nat → Nat} {X H A B K : Nat} {S : Nat → Nat} : tCh t X H A B K S 6 (t 0 0) = X ∧ tCh t X H A B K S 7 (t 0 0) = H ∧ tCh t X H A B K S 8 (t 0 0) = A ∧ tCh t X H A B K S 9 (t 0 0) = B ∧ tCh t X H A B K S 10 (t 0 0) = K ∧ tCh t X H A B K S 11 (t 0 0) = 0 := by
  unfold tCh
  refine ⟨?_, ?_, ?_, ?_, ?_, ?_⟩ <;> simp
/-- draft and fresh tell one town -/
def drI (t : Nat → Nat → Nat) (fr : Nat → Int32) (ch wc la th fi li : Int32) (fs hs lit sc sm ts wh wl wq xs : Nat → Int32) : Prop := Tok t ∧ tC t ch wc la th fi li xs hs fs ts sc sm lit wq wl wh ∧ tM t fr 0 ∧ ∀ c, c < 10 → fr (56 + c) = 0
theorem dr_li {t : Nat → Nat → Nat} {fr : Nat → Int32} {ch wc la th fi li : Int32} {fs hs lit sc sm ts wh wl wq xs : Nat → Int32} (h : drI t fr ch wc la th fi li fs hs lit sc sm ts wh wl wq xs) (hl : t 5 0 + 1 ≤ 900) : drI (tSc t 5 (t 5 0 + 1)) (upd fr 5 (fr 5 + 1)) ch wc la th fi (li + 1) fs hs lit sc sm ts wh wl wq xs := by
  obtain ⟨h1, h2, h3, h4⟩ := h
  have e5 : fr 5 + 1 = nI (t 5 0 + 1) := by
    have := h3.1 5 (by decide)
    rw [Nat.zero_add] at this
    rw [this, nI_1]
  have z : ∀ i, i ≠ 5 → tSc t 5 (t 5 0 + 1) i 0 = t i 0 := fun i hi => tSc_ne hi
  refine ⟨Tok_sc h1 (by decide) (by decide) (fun z => by omega) (fun z => by omega) (fun z => by omega) (fun _ => hl), tC_rest h2 (z 0 (by decide)) (z 1 (by decide)) (fun i j hi => tSc_ne (by omega)) (by rw [z 2 (by decide)]; exact h2.2.2.1) (by rw [z 3 (by decide)]; exact h2.2.2.2.1) (by rw [z 4 (by decide)]; exact h2.2.2.2.2.1) (by rw [tSc_at, h2.2.2.2.2.2.1, nI_1]), by rw [e5]; exact tM_sc h3 (by decide) (by decide), fun c hc => by rw [pk_un (by omega)]; exact h4 c hc⟩
theorem dr_2 {t : Nat → Nat → Nat} {v : Nat} {fr : Nat → Int32} {ch wc la th fi li : Int32} {fs hs lit sc sm ts wh wl wq xs : Nat → Int32} (h : drI t fr ch wc la th fi li fs hs lit sc sm ts wh wl wq xs) (hv : v ≤ 20) : drI (tSc t 2 v) (upd fr 2 (nI v)) ch wc (nI v) th fi li fs hs lit sc sm ts wh wl wq xs := by
  obtain ⟨h1, h2, h3, h4⟩ := h
  have z : ∀ i, i ≠ 2 → tSc t 2 v i 0 = t i 0 := fun i hi => tSc_ne hi
  exact ⟨Tok_sc h1 (by decide) (by decide) (fun _ => hv) (fun z => by omega) (fun z => by omega) (fun z => by omega), tC_rest h2 (z 0 (by decide)) (z 1 (by decide)) (fun i j hi => tSc_ne (by omega)) (by rw [tSc_at]) (by rw [z 3 (by decide)]; exact h2.2.2.2.1) (by rw [z 4 (by decide)]; exact h2.2.2.2.2.1) (by rw [z 5 (by decide)]; exact h2.2.2.2.2.2.1), tM_sc h3 (by decide) (by decide), fun c hc => by rw [pk_un (by omega)]; exact h4 c hc⟩
theorem dr_3 {t : Nat → Nat → Nat} {v : Nat} {fr : Nat → Int32} {ch wc la th fi li : Int32} {fs hs lit sc sm ts wh wl wq xs : Nat → Int32} (h : drI t fr ch wc la th fi li fs hs lit sc sm ts wh wl wq xs) (hv : 1 ≤ v ∧ v ≤ 9) : drI (tSc t 3 v) (upd fr 3 (nI v)) ch wc la (nI v) fi li fs hs lit sc sm ts wh wl wq xs := by
  obtain ⟨h1, h2, h3, h4⟩ := h
  have z : ∀ i, i ≠ 3 → tSc t 3 v i 0 = t i 0 := fun i hi => tSc_ne hi
  exact ⟨Tok_sc h1 (by decide) (by decide) (fun z => by omega) (fun _ => hv) (fun z => by omega) (fun z => by omega), tC_rest h2 (z 0 (by decide)) (z 1 (by decide)) (fun i j hi => tSc_ne (by omega)) (by rw [z 2 (by decide)]; exact h2.2.2.1) (by rw [tSc_at]) (by rw [z 4 (by decide)]; exact h2.2.2.2.2.1) (by rw [z 5 (by decide)]; exact h2.2.2.2.2.2.1), tM_sc h3 (by decide) (by decide), fun c hc => by rw [pk_un (by omega)]; exact h4 c hc⟩
theorem dr_4 {t : Nat → Nat → Nat} {v : Nat} {fr : Nat → Int32} {ch wc la th fi li : Int32} {fs hs lit sc sm ts wh wl wq xs : Nat → Int32} (h : drI t fr ch wc la th fi li fs hs lit sc sm ts wh wl wq xs) (hv : v ≤ 99) : drI (tSc t 4 v) (upd fr 4 (nI v)) ch wc la th (nI v) li fs hs lit sc sm ts wh wl wq xs := by
  obtain ⟨h1, h2, h3, h4⟩ := h
  have z : ∀ i, i ≠ 4 → tSc t 4 v i 0 = t i 0 := fun i hi => tSc_ne hi
  exact ⟨Tok_sc h1 (by decide) (by decide) (fun z => by omega) (fun z => by omega) (fun _ => hv) (fun z => by omega), tC_rest h2 (z 0 (by decide)) (z 1 (by decide)) (fun i j hi => tSc_ne (by omega)) (by rw [z 2 (by decide)]; exact h2.2.2.1) (by rw [z 3 (by decide)]; exact h2.2.2.2.1) (by rw [tSc_at]) (by rw [z 5 (by decide)]; exact h2.2.2.2.2.2.1), tM_sc h3 (by decide) (by decide), fun c hc => by rw [pk_un (by omega)]; exact h4 c hc⟩
theorem dr_wn {t : Nat → Nat → Nat} {q l h : Nat} {fr : Nat → Int32} {ch wc la th fi li : Int32} {fs hs lit sc sm ts wh wl wq xs : Nat → Int32} (hd : drI t fr ch wc la th fi li fs hs lit sc sm ts wh wl wq xs) (hW : t 1 0 < 12) (hq : q ≤ 47) (hl : l ≤ 6) (hh : h ≤ 6) : drI (tWn t q l h) (upd (upd (upd (upd fr (126 + 3 * t 1 0) (nI q)) (126 + 3 * t 1 0 + 1) (nI l)) (126 + 3 * t 1 0 + 2) (nI h)) 1 (nI (t 1 0 + 1))) ch (nI (t 1 0 + 1)) la th fi li fs hs lit sc sm ts (upd wh (t 1 0) (nI h)) (upd wl (t 1 0) (nI l)) (upd wq (t 1 0) (nI q)) xs := by
  obtain ⟨h1, h2, h3, h4⟩ := hd
  exact ⟨Tok_wn h1 hW hq hl hh, tC_wn h2, tM_wn h3 h1.1 (fun c hc => ((h1.2.2.2.2.2.2.1 c hc).2.2.2.2.1).2), fun c hc => by rw [pk_un (by omega), pk_un (by omega), pk_un (by omega), pk_un (by omega)]; exact h4 c hc⟩
theorem dr_ch {t : Nat → Nat → Nat} {X H A B K : Nat} {S : Nat → Nat} {fr frm : Nat → Int32} {ch wc la th fi li : Int32} {fs hs lit sc sm ts wh wl wq xs sc' sm' : Nat → Int32} (hd : drI t fr ch wc la th fi li fs hs lit sc sm ts wh wl wq xs) (hC : t 0 0 < 10) (hX : X ≤ 39) (hH : H ≤ 12) (hAB : A ≤ B) (hB : B ≤ 23) (hK : 1 ≤ K) (hs' : smR (t 0 0) 0 K S sc sm fr sc' sm' frm) : drI (tCh t X H A B K S) (frC frm (t 0 0) X H A B K) (nI (t 0 0 + 1)) wc la th fi li (upd fs (t 0 0) (nI A)) (upd hs (t 0 0) (nI H)) (upd lit (t 0 0) (-1)) sc' sm' (upd ts (t 0 0) (nI B)) wh wl wq (upd xs (t 0 0) (nI X)) := by
  obtain ⟨⟨k0, k1, k2, k3, k4, k5, k6, k7⟩, ⟨a0, a1, a2, a3, a4, a5, a6, a7⟩, ⟨m1, m2, m3⟩, hz⟩ := hd
  obtain ⟨s1, s2, s3, s4, s5, s6, s7⟩ := hs'
  obtain ⟨t6, t7, t8, t9, t10, t11⟩ := tCh_s (t := t) (X := X) (H := H) (A := A) (B := B) (K := K) (S := S)
  have o : ∀ i j, i ≠ 0 → (i < 6 ∨ 13 ≤ i) → tCh t X H A B K S i j = t i j := fun i j h1 h2 => tCh_o h1 h2
  have u : ∀ j, j ≠ 0 → j ≠ 6 + t 0 0 → j ≠ 16 + t 0 0 → j ≠ 26 + t 0 0 → j ≠ 36 + t 0 0 → j ≠ 46 + t 0 0 → frC frm (t 0 0) X H A B K j = frm j := fun j h0 h1 h2 h3 h4 h5 => by
    unfold frC
    rw [pk_un h0, pk_un h5, pk_un h4, pk_un h3, pk_un h2, pk_un h1]
  refine ⟨⟨by rw [tCh_0]; omega, by rw [o 1 0 (by omega) (by omega)]; exact k1, by rw [o 2 0 (by omega) (by omega)]; exact k2, by rw [o 3 0 (by omega) (by omega)]; exact k3, by rw [o 4 0 (by omega) (by omega)]; exact k4, by rw [o 5 0 (by omega) (by omega)]; exact k5, fun c hc => ?_, fun w hw => ?_⟩, ⟨by rw [tCh_0], by rw [o 1 0 (by omega) (by omega)]; exact a1, by rw [o 2 0 (by omega) (by omega)]; exact a2, by rw [o 3 0 (by omega) (by omega)]; exact a3, by rw [o 4 0 (by omega) (by omega)]; exact a4, by rw [o 5 0 (by omega) (by omega)]; exact a5, fun c hc => ?_, fun w hw => ?_⟩, ⟨fun i hi => ?_, fun c hc => ?_, fun w hw => ?_⟩, fun c hc => ?_⟩
  · rw [tCh_0] at hc
    by_cases e : c = t 0 0
    · subst e
      rw [t6, t7, t8, t9, t10, t11]
      refine ⟨by omega, hH, hAB, hB, ⟨hK, s2⟩, Or.inl rfl, fun k hk => ?_⟩
      rw [tCh_12s (by omega)]
      have := s5 k (by omega) hk
      exact ⟨this.1, this.2.1⟩
    · obtain ⟨g0, g1, g2, g3, g4, g5, g6⟩ := k6 c (by omega)
      rw [tCh_c (by decide) (by decide) e, tCh_c (by decide) (by decide) e, tCh_c (by decide) (by decide) e, tCh_c (by decide) (by decide) e, tCh_c (by decide) (by decide) e, tCh_c (by decide) (by decide) e]
      exact ⟨g0, g1, g2, g3, g4, g5, fun k hk => by rw [tCh_12 (by omega)]; exact g6 k hk⟩
  · rw [o 1 0 (by omega) (by omega)] at hw
    rw [o 13 w (by omega) (by omega), o 14 w (by omega) (by omega), o 15 w (by omega) (by omega)]
    exact k7 w hw
  · rw [tCh_0] at hc
    by_cases e : c = t 0 0
    · subst e
      rw [t6, t7, t8, t9, t10, t11, pk_us, pk_us, pk_us, pk_us, pk_us, s3]
      refine ⟨rfl, rfl, rfl, rfl, rfl, rfl, fun k hk => ?_⟩
      rw [tCh_12s (by omega)]
      exact (s5 k (by omega) hk).2.2.1
    · obtain ⟨g0, g1, g2, g3, g4, g5, g6⟩ := a6 c (by omega)
      have hm6 := (k6 c (by omega)).2.2.2.2.1.2
      rw [tCh_c (by decide) (by decide) e, tCh_c (by decide) (by decide) e, tCh_c (by decide) (by decide) e, tCh_c (by decide) (by decide) e, tCh_c (by decide) (by decide) e, tCh_c (by decide) (by decide) e, pk_un e, pk_un e, pk_un e, pk_un e, pk_un e, s4 c e]
      exact ⟨g0, g1, g2, g3, g4, g5, fun k hk => by rw [tCh_12 (by omega), s6 _ (by omega)]; exact g6 k hk⟩
  · rw [o 1 0 (by omega) (by omega)] at hw
    rw [o 13 w (by omega) (by omega), o 14 w (by omega) (by omega), o 15 w (by omega) (by omega)]
    exact a7 w hw
  · rw [Nat.zero_add]
    by_cases e : i = 0
    · subst e
      rw [tCh_0]
      unfold frC
      rw [pk_us]
    · rw [u i e (by omega) (by omega) (by omega) (by omega) (by omega), s7 i (by omega), o i 0 e (by omega)]
      have := m1 i hi
      rw [Nat.zero_add] at this; exact this
  · rw [tCh_0] at hc
    rw [Nat.zero_add, Nat.zero_add, Nat.zero_add, Nat.zero_add, Nat.zero_add, Nat.zero_add]
    by_cases e : c = t 0 0
    · subst e
      rw [t6, t7, t8, t9, t10, t11]
      refine ⟨?_, ?_, ?_, ?_, ?_, ?_, fun k hk => ?_⟩
      · unfold frC; rw [pk_un (by omega), pk_un (by omega), pk_un (by omega), pk_un (by omega), pk_un (by omega), pk_us]
      · unfold frC; rw [pk_un (by omega), pk_un (by omega), pk_un (by omega), pk_un (by omega), pk_us]
      · unfold frC; rw [pk_un (by omega), pk_un (by omega), pk_un (by omega), pk_us]
      · unfold frC; rw [pk_un (by omega), pk_un (by omega), pk_us]
      · unfold frC; rw [pk_un (by omega), pk_us]
      · rw [u _ (by omega) (by omega) (by omega) (by omega) (by omega) (by omega), s7 _ (by omega), hz _ hC]; rfl
      · rw [tCh_12s (by omega), Nat.zero_add, u _ (by omega) (by omega) (by omega) (by omega) (by omega) (by omega)]
        have := (s5 k (by omega) hk).2.2.2
        rw [Nat.add_assoc] at this; exact this
    · obtain ⟨g0, g1, g2, g3, g4, g5, g6⟩ := m2 c (by omega)
      have hm6 := (k6 c (by omega)).2.2.2.2.1.2
      rw [Nat.zero_add] at g0 g1 g2 g3 g4 g5
      rw [tCh_c (by decide) (by decide) e, tCh_c (by decide) (by decide) e, tCh_c (by decide) (by decide) e, tCh_c (by decide) (by decide) e, tCh_c (by decide) (by decide) e, tCh_c (by decide) (by decide) e]
      rw [u _ (by omega) (by omega) (by omega) (by omega) (by omega) (by omega), u _ (by omega) (by omega) (by omega) (by omega) (by omega) (by omega), u _ (by omega) (by omega) (by omega) (by omega) (by omega) (by omega), u _ (by omega) (by omega) (by omega) (by omega) (by omega) (by omega), u _ (by omega) (by omega) (by omega) (by omega) (by omega) (by omega), u _ (by omega) (by omega) (by omega) (by omega) (by omega) (by omega), s7 _ (by omega), s7 _ (by omega), s7 _ (by omega), s7 _ (by omega), s7 _ (by omega), s7 _ (by omega)]
      refine ⟨g0, g1, g2, g3, g4, g5, fun k hk => ?_⟩
      have := g6 k hk
      rw [Nat.zero_add] at this ⊢
      rw [tCh_12 (by omega), u _ (by omega) (by omega) (by omega) (by omega) (by omega) (by omega), s7 _ (by omega)]; exact this
  · rw [o 1 0 (by omega) (by omega)] at hw
    obtain ⟨g0, g1, g2⟩ := m3 w hw
    rw [Nat.zero_add] at g0 g1 g2
    rw [o 13 w (by omega) (by omega), o 14 w (by omega) (by omega), o 15 w (by omega) (by omega), Nat.zero_add, Nat.zero_add, Nat.zero_add, u _ (by omega) (by omega) (by omega) (by omega) (by omega) (by omega), u _ (by omega) (by omega) (by omega) (by omega) (by omega) (by omega), u _ (by omega) (by omega) (by omega) (by omega) (by omega) (by omega), s7 _ (by omega), s7 _ (by omega), s7 _ (by omega)]
    exact ⟨g0, g1, g2⟩
  · rw [u _ (by omega) (by omega) (by omega) (by omega) (by omega) (by omega), s7 _ (by omega)]
    exact hz c hc
