/-! sets of quarters in ints -/
def bsI (S : Int32) (P : Nat → Prop) : Prop := ∀ j, j < 32 → (S.toBitVec.getLsbD j = true ↔ P j)
theorem bsI_0 : bsI 0 (fun _ => False) := fun j _ => by
  constructor
  · intro h
    have : (0 : Int32).toBitVec = 0#32 := rfl
    rw [this] at h
    simp at h
  · exact False.elim
theorem bsI_or {S S' : Int32} {P P' : Nat → Prop} (h : bsI S P) (h' : bsI S' P') : bsI (S ||| S') (fun j => P j ∨ P' j) := fun j hj => by
  rw [Int32.toBitVec_or, BitVec.getLsbD_or, Bool.or_eq_true, h j hj, h' j hj]
theorem bsI_and {S S' : Int32} {P P' : Nat → Prop} (h : bsI S P) (h' : bsI S' P') : bsI (S &&& S') (fun j => P j ∧ P' j) := fun j hj => by
  rw [Int32.toBitVec_and, BitVec.getLsbD_and, Bool.and_eq_true, h j hj, h' j hj]
theorem bsI_not {S : Int32} {P : Nat → Prop} (h : bsI S P) : bsI (S ^^^ (-1 : Int32)) (fun j => ¬ P j) := fun j hj => by
  rw [Int32.toBitVec_xor, BitVec.getLsbD_xor, m1_bit j hj]
  have := h j hj
  cases hb : S.toBitVec.getLsbD j with
  | true => rw [hb] at this; simp [this.mp rfl]
  | false => rw [hb] at this; simp; exact fun z => by cases this.mpr z
theorem bsI_bit0 : ∀ q, q < 32 → ∀ j, j < 32 → (((1 : Int32) <<< (nI q &&& 31)).toBitVec.getLsbD j = decide (j = q)) := by decide +kernel
theorem bsI_bit {q : Nat} (hq : q < 32) : bsI ((1 : Int32) <<< (nI q &&& 31)) (fun j => j = q) := fun j hj => by
  rw [bsI_bit0 q hq j hj, decide_eq_true_eq]
theorem bsI_iff {S : Int32} {P Q : Nat → Prop} (h : bsI S P) (hPQ : ∀ j, j < 32 → (P j ↔ Q j)) : bsI S Q := fun j hj => (h j hj).trans (hPQ j hj)
theorem bsI_eq {S S' : Int32} {P : Nat → Prop} (h : bsI S P) (h' : bsI S' P) : S = S' := by
  apply Int32.toBitVec_inj.mp
  apply BitVec.eq_of_getLsbD_eq
  intro j hj
  rw [Bool.eq_iff_iff, h j hj, h' j hj]
theorem bsI_rng0 : ∀ b, b < 24 → ∀ a, a < 24 → a ≤ b → ∀ j, j < 32 → ((((2 : Int32) <<< (nI b &&& 31)) - ((1 : Int32) <<< (nI a &&& 31))).toBitVec.getLsbD j = (decide (a ≤ j) && decide (j ≤ b))) := by decide +kernel
theorem bsI_rng {a b : Nat} (hb : b < 24) (hab : a ≤ b) : bsI (((2 : Int32) <<< (nI b &&& 31)) - ((1 : Int32) <<< (nI a &&& 31))) (fun j => a ≤ j ∧ j ≤ b) := fun j hj => by
  rw [bsI_rng0 b hb a (by omega) hab j hj, Bool.and_eq_true, decide_eq_true_eq, decide_eq_true_eq]
/-! THE CLASS: lightings of c that touch -/
theorem p_ltt0 {F c th : Nat} {t : Nat → Nat → Nat} {fs ts sc sm : Nat → Int32} {a2 a3 a4 : Int32} (ht : Tok t) (hc : c < t 0 0) (h2 : fs c = nI (t 8 c)) (h3 : ts c = nI (t 9 c)) (h4 : sc c = nI (t 10 c)) (hno : ∀ k, k < t 10 c → mayB t c (a2 - nI k) = false) :
    ∀ (k i fuel : Nat), i + k = t 10 c → k < fuel → fX4_lightingsThatTouch_L22 F (nI (t 0 0)) (nI th) fs sc sm ts (nI c) a2 a3 a4 fuel 0 (nI i) = some 0
  | 0, i, fuel + 1, h, _ => by
    have hn := ht.1
    obtain ⟨-, -, -, -, g4, -, -⟩ := ht.2.2.2.2.2.2.1 c hc
    rw [fX4_lightingsThatTouch_L22, vb_nI (show c < 10 by omega) (by decide), og_s, nI_clamp (by omega), h4, if_pos (nI_le (by omega) (by omega))]
  | k + 1, i, fuel + 1, h, hf => by
    have hn := ht.1
    obtain ⟨-, -, -, -, g4, -, -⟩ := ht.2.2.2.2.2.2.1 c hc
    rw [fX4_lightingsThatTouch_L22, vb_nI (show c < 10 by omega) (by decide), og_s, nI_clamp (by omega), h4, if_neg (nI_ge (by omega) (by omega)), ol_s, p_mayBeLit ht hc h2 h3, ob_s, hno i (by omega), bI_0 rfl, if_pos rfl, fX4_lightingsThatTouch_L88, ol_s, nI_1]
    exact p_ltt0 ht hc h2 h3 h4 hno k (i + 1) fuel (by omega) (by omega)
  | k, i, 0, _, hf => absurd hf (Nat.not_lt_zero k)
theorem p_ltt1 {F c th b m : Nat} {t : Nat → Nat → Nat} {fs ts sc sm : Nat → Int32} {a4 : Int32} (ht : Tok t) (hc : c < t 0 0) (h2 : fs c = nI (t 8 c)) (h3 : ts c = nI (t 9 c)) (h4 : sc c = nI (t 10 c)) (h5 : ∀ k, k < t 10 c → sm (6 * c + k) = nI (t 12 (6 * c + k))) (hb : b < 1000) (hm : m < 1000) (hth : th ≤ 9) :
    ∀ (k i fuel : Nat) (S : Int32) (P : Nat → Prop), i + k = t 10 c → k < fuel → bsI S P → ∃ S', fX4_lightingsThatTouch_L22 F (nI (t 0 0)) (nI th) fs sc sm ts (nI c) (nI b) (nI m) a4 fuel S (nI i) = some S' ∧ bsI S' (fun j => P j ∨ ∃ k, i ≤ k ∧ k < t 10 c ∧ k ≤ b ∧ j = b - k ∧ t 8 c ≤ j ∧ j ≤ t 9 c ∧ m + th ≤ b + t 12 (6 * c + k))
  | 0, i, fuel + 1, S, P, h, _, hS => by
    have hn := ht.1
    obtain ⟨-, -, -, -, g4, -, -⟩ := ht.2.2.2.2.2.2.1 c hc
    refine ⟨S, ?_, bsI_iff hS (fun j _ => ⟨Or.inl, fun z => z.elim id (fun ⟨k, a, b, _⟩ => by omega)⟩)⟩
    rw [fX4_lightingsThatTouch_L22, vb_nI (show c < 10 by omega) (by decide), og_s, nI_clamp (by omega), h4, if_pos (nI_le (by omega) (by omega))]
  | k + 1, i, fuel + 1, S, P, h, hf, hS => by
    have hn := ht.1
    obtain ⟨-, -, g2, g3, g4, -, g6⟩ := ht.2.2.2.2.2.2.1 c hc
    have s9 := g6 i (by omega)
    rw [fX4_lightingsThatTouch_L22, vb_nI (show c < 10 by omega) (by decide), og_s, nI_clamp (by omega), h4, if_neg (nI_ge (by omega) (by omega)), ol_s, p_mayBeLit ht hc h2 h3, ob_s]
    unfold fX4_lightingsThatTouch_L88
    simp only [ol_s, nI_1]
    have skip : (¬ (i ≤ b ∧ t 8 c ≤ b - i ∧ b - i ≤ t 9 c ∧ m + th ≤ b + t 12 (6 * c + i))) → ∃ S', fX4_lightingsThatTouch_L22 F (nI (t 0 0)) (nI th) fs sc sm ts (nI c) (nI b) (nI m) a4 fuel S (nI (i + 1)) = some S' ∧ bsI S' (fun j => P j ∨ ∃ k, i ≤ k ∧ k < t 10 c ∧ k ≤ b ∧ j = b - k ∧ t 8 c ≤ j ∧ j ≤ t 9 c ∧ m + th ≤ b + t 12 (6 * c + k)) := by
      intro hno
      obtain ⟨S', e1, e2⟩ := p_ltt1 (F := F) (a4 := a4) ht hc h2 h3 h4 h5 hb hm hth k (i + 1) fuel S P (by omega) (by omega) hS
      refine ⟨S', e1, bsI_iff e2 (fun j _ => ?_)⟩
      constructor
      · rintro (z | ⟨k', a1, a2⟩)
        · exact Or.inl z
        · exact Or.inr ⟨k', by omega, a2⟩
      · rintro (z | ⟨k', a1, a2, a3, a4, a5, a6, a7⟩)
        · exact Or.inl z
        · by_cases e : k' = i
          · subst e; subst a4; exact absurd ⟨a3, a5, a6, a7⟩ hno
          · exact Or.inr ⟨k', by omega, a2, a3, a4, a5, a6, a7⟩
    cases hmay : mayB t c (nI b - nI i) with
    | false =>
      rw [bI_0 rfl, if_pos rfl]
      refine skip (fun ⟨z1, z2, z3, _⟩ => ?_)
      rw [pk_sub z1] at hmay
      unfold mayB at hmay
      rw [nI_toInt (by omega)] at hmay
      simp at hmay
      omega
    | true =>
      obtain ⟨q, hq, q1, q2⟩ := q_of_may hmay
      have hib : i ≤ b := by
        rcases Nat.lt_or_ge b i with z | z
        · have := pk_sneg (a := b) (b := i) (by omega) z
          rw [hq] at this
          exact absurd this (nI_pos (by omega))
        · exact z
      rw [pk_sub hib] at hq
      have hq' : b - i = q := (nI_eq (by omega) (by omega)).mp hq
      rw [bI_1 rfl, if_neg one0, p_smokeOf_in ht hc h4 (by omega), ob_s, h5 i (by omega), nI_add]
      have hcmp : (nI (b + t 12 (6 * c + i)) - nI m < nI th) ↔ ¬ (m + th ≤ b + t 12 (6 * c + i)) := by
        rw [Int32.lt_iff_toInt_lt, pk_sub_toInt (by omega) (by omega), nI_toInt (by omega)]
        omega
      by_cases hthk : m + th ≤ b + t 12 (6 * c + i)
      · rw [if_neg (fun z => (hcmp.mp z) hthk), pk_sub hib]
        obtain ⟨S', e1, e2⟩ := p_ltt1 (F := F) (a4 := a4) ht hc h2 h3 h4 h5 hb hm hth k (i + 1) fuel _ _ (by omega) (by omega) (bsI_or hS (bsI_bit (q := b - i) (by omega)))
        refine ⟨S', e1, bsI_iff e2 (fun j _ => ?_)⟩
        constructor
        · rintro ((z | z) | ⟨k', a1, a2⟩)
          · exact Or.inl z
          · exact Or.inr ⟨i, Nat.le_refl _, by omega, hib, z, by omega, by omega, hthk⟩
          · exact Or.inr ⟨k', by omega, a2⟩
        · rintro (z | ⟨k', a1, a2, a3, a4, a5⟩)
          · exact Or.inl (Or.inl z)
          · by_cases e : k' = i
            · subst e; exact Or.inl (Or.inr a4)
            · exact Or.inr ⟨k', by omega, a2, a3, a4, a5⟩
      · rw [if_pos (hcmp.mpr hthk)]
        exact skip (fun z => hthk z.2.2.2)
  | k, i, 0, S, P, _, hf, _ => absurd hf (Nat.not_lt_zero k)
theorem p_ltt {F c th b m g : Nat} {t : Nat → Nat → Nat} {fs ts sc sm : Nat → Int32} (ht : Tok t) (hc : c < t 0 0) (h2 : fs c = nI (t 8 c)) (h3 : ts c = nI (t 9 c)) (h4 : sc c = nI (t 10 c)) (h5 : ∀ k, k < t 10 c → sm (6 * c + k) = nI (t 12 (6 * c + k))) (hb : b < 1000) (hm : m < 1000) (hg : g < 1000) (hth : th ≤ 9) (hF : 60 < F) : ∃ S, fX4_lightingsThatTouch F (nI (t 0 0)) (nI th) fs sc sm ts (nI c) (nI b) (nI m) (nI g) = some S ∧ bsI S (fun j => m + th ≤ g ∧ ∃ k, k < t 10 c ∧ k ≤ b ∧ j = b - k ∧ t 8 c ≤ j ∧ j ≤ t 9 c ∧ m + th ≤ b + t 12 (6 * c + k)) := by
  obtain ⟨-, -, -, -, g4, -, -⟩ := ht.2.2.2.2.2.2.1 c hc
  have hcmp : (nI th ≤ nI g - nI m) ↔ m + th ≤ g := by
    rw [Int32.le_iff_toInt_le, pk_sub_toInt (by omega) (by omega), nI_toInt (by omega)]
    omega
  unfold fX4_lightingsThatTouch
  by_cases h : m + th ≤ g
  · rw [if_pos (hcmp.mpr h)]
    obtain ⟨S, e1, e2⟩ := p_ltt1 (F := F) (a4 := nI g) ht hc h2 h3 h4 h5 hb hm hth (t 10 c) 0 F 0 (fun _ => False) (by omega) (by omega) bsI_0
    refine ⟨S, e1, bsI_iff e2 (fun j _ => ?_)⟩
    constructor
    · rintro (z | ⟨k', a1, a2⟩)
      · exact False.elim z
      · exact ⟨h, k', a2⟩
    · rintro ⟨-, k', a2⟩; exact Or.inr ⟨k', by omega, a2⟩
  · rw [if_neg (fun z => h (hcmp.mp z))]
    exact ⟨0, rfl, bsI_iff bsI_0 (fun j _ => ⟨False.elim, fun z => h z.1⟩)⟩
theorem p_lttN {F c th : Nat} {t : Nat → Nat → Nat} {fs ts sc sm : Nat → Int32} {a2 a3 a4 : Int32} (ht : Tok t) (hc : c < t 0 0) (h2 : fs c = nI (t 8 c)) (h3 : ts c = nI (t 9 c)) (h4 : sc c = nI (t 10 c)) (hno : ∀ k, k < t 10 c → mayB t c (a2 - nI k) = false) (hF : 60 < F) : fX4_lightingsThatTouch F (nI (t 0 0)) (nI th) fs sc sm ts (nI c) a2 a3 a4 = some 0 := by
  obtain ⟨-, -, -, -, g4, -, -⟩ := ht.2.2.2.2.2.2.1 c hc
  unfold fX4_lightingsThatTouch
  split
  · exact p_ltt0 (F := F) ht hc h2 h3 h4 hno (t 10 c) 0 F (by omega) (by omega)
  · rfl
/-- the l-th puff of d, begun in ld + l, and a fire of c lit in j -/
def tchl (t : Nat → Nat → Nat) (Wd : Nat → Nat → Nat) (hc c lc hd d bd g th : Nat) : Prop := ∃ k x q, k < t 10 c ∧ lc + k ≤ q ∧ bd ≤ q ∧ wayX (t 2 0) Wd hc (t 6 c) (lc + k) (q - (lc + k)) = some x ∧ wayX (t 2 0) Wd hd (t 6 d) bd (q - bd) = some x ∧ hc + (q - (lc + k)) = hd + (q - bd) ∧ q + th ≤ lc + k + t 12 (6 * c + k) ∧ q + th ≤ g
/-- when a meeting of the way begun at bc tells of lightings: both sides of one step -/
theorem meet_l {t : Nat → Nat → Nat} {Wd : Nat → Nat → Nat} {hc c hd d bc bd g th j : Nat} {m : Option Nat} (ht : Tok t) (hcn : c < t 0 0) (hlev : hc + bd = hd + bc) (hg9 : g ≤ bd + 9) (hth : 1 ≤ th)
    (h1 : ∀ q, m = some q → bc ≤ q ∧ bd ≤ q ∧ q < bc + 9 ∧ q < bd + 9 ∧ ∃ x, wq (t 2 0) Wd hc (t 6 c) bc q = some x ∧ wq (t 2 0) Wd hd (t 6 d) bd q = some x)
    (h2 : ∀ q x, bc ≤ q → bd ≤ q → q < bc + 9 → q < bd + 9 → wq (t 2 0) Wd hc (t 6 c) bc q = some x → wq (t 2 0) Wd hd (t 6 d) bd q = some x → ∃ m0, m = some m0 ∧ m0 ≤ q) :
    (∃ m0, m = some m0 ∧ m0 + th ≤ g ∧ ∃ k, k < t 10 c ∧ k ≤ bc ∧ j = bc - k ∧ t 8 c ≤ j ∧ j ≤ t 9 c ∧ m0 + th ≤ bc + t 12 (6 * c + k)) ↔ (t 8 c ≤ j ∧ j ≤ t 9 c ∧ tchl t Wd hc c j hd d bd g th) := by
  obtain ⟨-, -, -, -, g4, -, g6⟩ := ht.2.2.2.2.2.2.1 c hcn
  constructor
  · rintro ⟨m0, e, a1, k, a2, a3, a4, a5, a6, a7⟩
    obtain ⟨b1, b2, b3, b4, x, b5, b6⟩ := h1 m0 e
    refine ⟨a5, a6, k, x, m0, a2, by omega, b2, ?_, b6, by omega, by omega, a1⟩
    rw [show j + k = bc by omega]; exact b5
  · rintro ⟨a1, a2, k, x, q, c1, c2, c3, c4, c5, c6, c7, c8⟩
    have s := g6 k c1
    have hb : j + k = bc := by omega
    rw [hb] at c2 c4 c7
    obtain ⟨m0, e, e1⟩ := h2 q x c2 c3 (by omega) (by omega) c4 c5
    exact ⟨m0, e, by omega, k, c1, by omega, by omega, a1, a2, by omega⟩
