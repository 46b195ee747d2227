theorem sh_c : ∀ k, k < 20 → (((shI k).toUInt32 &&& Int32.toUInt32 31).toBitVec % 32).toNat = 24 - 8 * (k % 4) := by decide +kernel
theorem sh_m : ∀ k, k < 20 → (((((24 : Int32) - ((8 : Int32) * (nI k - nI k / (4 : Int32) * (4 : Int32)))) &&& 31)).toBitVec.smod 32).toNat = 24 - 8 * (k % 4) := by decide +kernel
theorem feed_byte (x : Int32) {k : Nat} (hk : k < 20) : cb x (shI k) &&& 255 = mb x k :=
  byte_feed x (shI k) (((24 : Int32) - ((8 : Int32) * (nI k - nI k / (4 : Int32) * (4 : Int32)))) &&& 31) (24 - 8 * (k % 4)) (by omega) (sh_c k hk) (sh_m k hk)
/-- the tape: p bytes; the class' bytes and the reference's ints -/
def tpR (p : Nat) (c m : Nat → Int32) : Prop := p ≤ 900 ∧ ∀ j, j < p → c j &&& 255 = m j
/-- promise 2 -/
theorem s_feed {F p : Nat} {c m : Nat → Int32} {thr : Int32} (a1 a2 a3 a4 a5 : Int32) (hF : 20 < F) (h : tpR p c m) :
    ∃ (r : Int32) (p' : Nat) (c' m' : Nat → Int32), fX9_feed F (nI p) c a1 a2 a3 a4 a5 = some (r, nI p', c') ∧ fX10_feed F thr (nI p) m a1 a2 a3 a4 a5 = some (r, 0, nI p', m') ∧ tpR p' c' m' := by
  obtain ⟨hp, hb⟩ := h
  unfold fX9_feed fX10_feed
  have e20 : nI p + (20 : Int32) = nI (p + 20) := nI_add p 20
  rw [e20]
  by_cases hc : p + 20 ≤ 900
  · have hle : nI (p + 20) ≤ (900 : Int32) := nI_le (a := p + 20) (b := 900) hc (by decide)
    rw [if_pos hle, if_pos hle]
    let gC : Nat → Int32 := fun k => cb (sel a1 a2 a3 a4 a5 k) (shI k)
    let gM : Nat → Int32 := fun k => mb (sel a1 a2 a3 a4 a5 k) k
    refine ⟨nI (p + 20), p + 20, cpT c p 0 20 gC, cpT m p 0 20 gM, ?_, ?_, hc, ?_⟩
    · have s0 : fX9_putOnTape F (nI p) c a1 = some (nI (p + 4), cpT c p 0 4 gC) := by
        have := pot_w (F := F) (p := p) (k := 0) (a := a1) (v := c) (g := gC) (by omega) (by omega) rfl rfl rfl rfl
        rw [cpT_nil] at this
        exact this
      have s1 : fX9_putOnTape F (nI (p + 4)) (cpT c p 0 4 gC) a2 = some (nI (p + 8), cpT c p 0 8 gC) := pot_w (k := 4) (by omega) (by omega) rfl rfl rfl rfl
      have s2 : fX9_putOnTape F (nI (p + 8)) (cpT c p 0 8 gC) a3 = some (nI (p + 12), cpT c p 0 12 gC) := pot_w (k := 8) (by omega) (by omega) rfl rfl rfl rfl
      have s3 : fX9_putOnTape F (nI (p + 12)) (cpT c p 0 12 gC) a4 = some (nI (p + 16), cpT c p 0 16 gC) := pot_w (k := 12) (by omega) (by omega) rfl rfl rfl rfl
      have s4 : fX9_putOnTape F (nI (p + 16)) (cpT c p 0 16 gC) a5 = some (nI (p + 20), cpT c p 0 20 gC) := pot_w (k := 16) (by omega) (by omega) rfl rfl rfl rfl
      rw [s0, ob_s]
      show ob (fX9_putOnTape F (nI (p + 4)) (cpT c p 0 4 gC) a2) _ = _
      rw [s1, ob_s]
      show ob (fX9_putOnTape F (nI (p + 8)) (cpT c p 0 8 gC) a3) _ = _
      rw [s2, ob_s]
      show ob (fX9_putOnTape F (nI (p + 12)) (cpT c p 0 12 gC) a4) _ = _
      rw [s3, ob_s]
      show ob (fX9_putOnTape F (nI (p + 16)) (cpT c p 0 16 gC) a5) _ = _
      rw [s4, ob_s]
    · have := feed_mL (F := F) (p := p) (a1 := a1) (a2 := a2) (a3 := a3) (a4 := a4) (a5 := a5) (thr := 0) (v := m) (g := gM) hc (fun _ _ => rfl) 20 0 F (by omega) hF
      rw [cpT_nil] at this
      exact this
    · intro j hj
      by_cases q : j < p
      · rw [cpT_out (by omega), cpT_out (by omega)]; exact hb j q
      · rw [cpT_in (by omega) hj, cpT_in (by omega) hj]
        exact feed_byte _ (by omega)
  · have hle : ¬ nI (p + 20) ≤ (900 : Int32) := nI_ge (a := 900) (b := p + 20) (by omega) (by omega)
    rw [if_neg hle, if_neg hle]
    exact ⟨-5, p, c, m, rfl, rfl, hp, hb⟩
