/-- the fire of c lit in j touches the puff of d begun in bd that lasts to g -/
def tcs (t : Nat → Nat → Nat) (Wd : Nat → Nat → Nat) (c d bd g j : Nat) : Prop := t 8 c ≤ j ∧ j ≤ t 9 c ∧ tchl t Wd (t 7 c) c j (t 7 d) d bd g (t 3 0)
theorem p_mtl {F c d bd : Nat} {t : Nat → Nat → Nat} {Wd : Nat → Nat → Nat} {hs v sc sm fs ts : Nat → Int32} (ht : Tok t) (hw : wayOk t Wd hs v c) (hwd : wayOk t Wd hs v d) (h2 : fs c = nI (t 8 c)) (h3 : ts c = nI (t 9 c)) (hsc : sc c = nI (t 10 c)) (hsm : ∀ k, k < t 10 c → sm (6 * c + k) = nI (t 12 (6 * c + k))) (hc : c < t 0 0) (hd : d < t 0 0) (hb1 : t 8 d ≤ bd) (hb2 : bd < t 9 d + t 10 d) (hF : 60 < F) :
    ∃ r, fX4_meeting F (nI (t 0 0)) v (nI c) (nI (bd + t 7 c) - nI (t 7 d)) (nI d) (nI bd) = some r ∧ ((r = -1 ∧ ∀ s j, s ≤ 9 → ¬ tcs t Wd c d bd (bd + s) j) ∨ (¬ r = -1 ∧ ∀ s, s ≤ 9 → ∃ S, fX4_lightingsThatTouch F (nI (t 0 0)) (nI (t 3 0)) fs sc sm ts (nI c) (nI (bd + t 7 c) - nI (t 7 d)) r (nI (bd + s)) = some S ∧ bsI S (tcs t Wd c d bd (bd + s)))) := by
  have hn := ht.1
  have hth := ht.thick
  obtain ⟨q0, q1, q2, q3, q4, q5, q6⟩ := ht.2.2.2.2.2.2.1 c hc
  obtain ⟨g0, g1, g2, g3, g4, g5, g6⟩ := ht.2.2.2.2.2.2.1 d hd
  by_cases hex : ∃ κ, κ < t 10 c ∧ mayB t c (nI (bd + t 7 c) - nI (t 7 d) - nI κ) = true
  · obtain ⟨κ, k1, k2⟩ := hex
    obtain ⟨q, e1, e2, e3⟩ := q_of_may k2
    have hlev : t 7 d ≤ bd + t 7 c := by
      rcases Nat.lt_or_ge (bd + t 7 c) (t 7 d) with z | z
      · rw [sub3] at e1
        have := pk_sneg (a := bd + t 7 c) (b := t 7 d + κ) (by omega) (by omega)
        rw [e1] at this
        exact absurd this (nI_pos (by omega))
      · exact z
    rw [pk_sub hlev] at e1 ⊢
    have hbc : bd + t 7 c - t 7 d = q + κ := by
      rcases Nat.lt_or_ge (bd + t 7 c - t 7 d) κ with z | z
      · have := pk_sneg (a := bd + t 7 c - t 7 d) (b := κ) (by omega) z
        rw [e1] at this
        exact absurd this (nI_pos (by omega))
      · rw [pk_sub z] at e1
        have := (nI_eq (by omega) (by omega)).mp e1
        omega
    generalize hbce : bd + t 7 c - t 7 d = bc at hbc
    obtain ⟨m, m1, m2, m3⟩ := p_meeting (F := F) (bc := bc) hc hd hn q0 g0 (by omega) (show bd < 29 by omega) (hw.2 bc (by omega) (by omega)) (hwd.2 bd (by omega) (by omega)) (by omega)
    have key := fun s (hs9 : s ≤ 9) j => meet_l (Wd := Wd) (hc := t 7 c) (hd := t 7 d) (bc := bc) (bd := bd) (g := bd + s) (th := t 3 0) (j := j) ht hc (by omega) (by omega) hth.1 m2 m3
    cases hm : m with
    | none =>
      rw [hm] at m1
      refine ⟨-1, m1, Or.inl ⟨rfl, fun s j hs9 hz => ?_⟩⟩
      obtain ⟨m0, z, -⟩ := (key s hs9 j).mpr hz
      rw [hm] at z; cases z
    | some m0 =>
      rw [hm] at m1
      obtain ⟨n1, n2, n3, n4, n5⟩ := m2 m0 hm
      refine ⟨nI m0, m1, Or.inr ⟨nI_nm1 (by omega), fun s hs9 => ?_⟩⟩
      obtain ⟨S1, l1, l2⟩ := p_ltt (F := F) (th := t 3 0) (b := bc) (m := m0) (g := bd + s) ht hc h2 h3 hsc hsm (by omega) (by omega) (by omega) hth.2 hF
      refine ⟨S1, l1, bsI_iff l2 (fun j _ => ?_)⟩
      constructor
      · intro z
        exact (key s hs9 j).mp ⟨m0, hm, z⟩
      · intro z
        obtain ⟨m1', z1, z2⟩ := (key s hs9 j).mpr z
        rw [hm] at z1; cases z1
        exact z2
  · have hno : ∀ κ, κ < t 10 c → mayB t c (nI (bd + t 7 c) - nI (t 7 d) - nI κ) = false := fun κ hκ => by
      cases hb : mayB t c (nI (bd + t 7 c) - nI (t 7 d) - nI κ) with
      | false => rfl
      | true => exact absurd ⟨κ, hκ, hb⟩ hex
    have nt : ∀ s j, ¬ tcs t Wd c d bd (bd + s) j := by
      rintro s j ⟨j1, j2, κ, x, q, c1, c2, c3, c4, c5, c6, c7, c8⟩
      have := hno κ c1
      rw [pk_sub (by omega), pk_sub (by omega), show bd + t 7 c - t 7 d - κ = j by omega] at this
      unfold mayB at this
      rw [nI_toInt (by omega)] at this
      simp at this
      omega
    obtain ⟨r, r1⟩ := p_meeting_tot (F := F) (v := v) hc hd hn (by omega) (nI (bd + t 7 c) - nI (t 7 d)) (nI bd)
    refine ⟨r, r1, ?_⟩
    by_cases hr : r = -1
    · exact Or.inl ⟨hr, fun s j _ => nt s j⟩
    · exact Or.inr ⟨hr, fun s _ => ⟨0, p_lttN (F := F) (th := t 3 0) (sm := sm) ht hc h2 h3 hsc hno hF, bsI_iff bsI_0 (fun j _ => ⟨False.elim, fun z => nt s j z⟩)⟩⟩
def cp (m1 m2 a : Nat) : Nat := (m1 * 5 + m2) * 24 + a
theorem cp_I (m1 m2 a : Nat) : (nI m1 * (5 : Int32) + nI m2) * (24 : Int32) + nI a = nI (cp m1 m2 a) := by
  unfold cp
  rw [show (5 : Int32) = nI 5 from rfl, show (24 : Int32) = nI 24 from rfl, pk_mul, nI_add, pk_mul, nI_add]
theorem cp_lt {m1 m2 a : Nat} (h1 : m1 < 5) (h2 : m2 < 5) (h : a < 24) : cp m1 m2 a < 600 := by unfold cp; omega
