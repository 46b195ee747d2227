/-! THE REFERENCE'S PUFFS: a list of codes a row -/
def pcode (q x h th : Nat) : Nat := 10 * (1000 * q + 25 * x + h) + th
/-- codes of one puff from age a on, n its thickness then -/
def pfL (ly : Nat) (Wd : Nat → Nat → Nat) (hg x0 b : Nat) : Nat → Nat → List Nat
  | 0, _ => []
  | n + 1, a => match wayX ly Wd hg x0 b a with
    | none => []
    | some x => pcode (b + a) x (hg + a) (n + 1) :: pfL ly Wd hg x0 b n (a + 1)
/-- codes of the puffs of a fire: k puffs from the i-th on -/
def prL (ly : Nat) (Wd : Nat → Nat → Nat) (hg x0 lit : Nat) (sm : Nat → Nat) : Nat → Nat → List Nat
  | 0, _ => []
  | k + 1, i => pfL ly Wd hg x0 (lit + i) (sm i) 0 ++ prL ly Wd hg x0 lit sm k (i + 1)
theorem pfL_none {ly : Nat} {Wd : Nat → Nat → Nat} {hg x0 b a : Nat} (h : wayX ly Wd hg x0 b a = none) : ∀ n, pfL ly Wd hg x0 b n a = []
  | 0 => rfl
  | n + 1 => by
    show (match wayX ly Wd hg x0 b a with | none => [] | some x => pcode (b + a) x (hg + a) (n + 1) :: pfL ly Wd hg x0 b n (a + 1)) = []
    rw [h]
theorem pfL_some {ly : Nat} {Wd : Nat → Nat → Nat} {hg x0 b a x n : Nat} (h : wayX ly Wd hg x0 b a = some x) : pfL ly Wd hg x0 b (n + 1) a = pcode (b + a) x (hg + a) (n + 1) :: pfL ly Wd hg x0 b n (a + 1) := by
  show (match wayX ly Wd hg x0 b a with | none => [] | some x => pcode (b + a) x (hg + a) (n + 1) :: pfL ly Wd hg x0 b n (a + 1)) = _
  rw [h]
theorem pfL_len {ly : Nat} {Wd : Nat → Nat → Nat} {hg x0 b : Nat} : ∀ (n a : Nat), (pfL ly Wd hg x0 b n a).length ≤ n
  | 0, _ => Nat.le_refl 0
  | n + 1, a => by
    cases h : wayX ly Wd hg x0 b a with
    | none => rw [pfL_none h]; exact Nat.zero_le _
    | some x =>
      rw [pfL_some h, List.length_cons]
      have := pfL_len (ly := ly) (Wd := Wd) (hg := hg) (x0 := x0) (b := b) n (a + 1)
      omega
theorem prL_len {ly : Nat} {Wd : Nat → Nat → Nat} {hg x0 lit : Nat} {sm : Nat → Nat} : ∀ (k i : Nat), (∀ j, i ≤ j → j < i + k → sm j ≤ 9) → (prL ly Wd hg x0 lit sm k i).length ≤ 9 * k
  | 0, _, _ => Nat.le_refl 0
  | k + 1, i, h => by
    have h1 := pfL_len (ly := ly) (Wd := Wd) (hg := hg) (x0 := x0) (b := lit + i) (sm i) 0
    have h2 := prL_len (ly := ly) (Wd := Wd) (hg := hg) (x0 := x0) (lit := lit) (sm := sm) k (i + 1) (fun j h1 h2 => h j (by omega) (by omega))
    have h3 := h i (Nat.le_refl i) (by omega)
    show (pfL ly Wd hg x0 (lit + i) (sm i) 0 ++ prL ly Wd hg x0 lit sm k (i + 1)).length ≤ _
    rw [List.length_append, Nat.mul_succ]; omega
theorem wayX_h {ly hg x0 b : Nat} {Wd : Nat → Nat → Nat} (h0 : hg < 25) : ∀ (a : Nat) {x : Nat}, wayX ly Wd hg x0 b a = some x → hg + a < 25
  | 0, x, _ => by omega
  | a + 1, x, h => by
    cases hp : wayX ly Wd hg x0 b a with
    | none => rw [wayX_n hp] at h; cases h
    | some y =>
      rw [wayX_s hp] at h
      unfold wStep at h
      generalize Wd (if hg + a < ly then 0 else 1) (b + a + 1) = w at h
      by_cases hc : 3 ≤ y + w ∧ y + w < 43 ∧ hg + a + 1 < 25
      · omega
      · rw [if_neg hc] at h; cases h
/-- what the reference holds of x and h when the way is at age a -/
def wSt (o : Option Nat) (hg a : Nat) (x9 x10 : Int32) : Prop := (∃ x, o = some x ∧ x < 40 ∧ hg + a < 25 ∧ x9 = nI x ∧ x10 = nI (hg + a)) ∨ (o = none ∧ (vb x9 40 = false ∨ (25 : Int32) ≤ x10))
theorem p_w039 {F : Nat} {a : Int32} : fX10_within F a.toInt64 0 39 = some (bI (vb a 40)) := by
  rw [p_within32]
  congr 2
  rw [Bool.eq_iff_iff, vb_iff]
  have e0 : (0 : Int64).toInt = 0 := rfl
  have e3 : (39 : Int64).toInt = 39 := rfl
  simp [e0, e3]
  omega
theorem wSt_next {ly hg x0 b a x : Nat} {Wd : Nat → Nat → Nat} (hWd : ∀ k q, Wd k q ≤ 6) (hw : wayX ly Wd hg x0 b a = some x) (hx : x < 40) (hh : hg + a < 25) : wSt (wayX ly Wd hg x0 b (a + 1)) hg (a + 1) (nI x + (nI (Wd (if hg + a < ly then 0 else 1) (b + a + 1)) - 3)) (nI (hg + (a + 1))) := by
  have hw6 := hWd (if hg + a < ly then 0 else 1) (b + a + 1)
  have hst := wayX_s hw
  unfold wStep at hst
  generalize Wd (if hg + a < ly then 0 else 1) (b + a + 1) = w at hst hw6
  have mv := x_move hx hw6
  by_cases h3 : 3 ≤ x + w
  · rw [mv.1 h3]
    by_cases h40 : x + w < 43
    · by_cases h25 : hg + a + 1 < 25
      · rw [if_pos ⟨h3, h40, h25⟩] at hst
        exact Or.inl ⟨_, hst, by omega, by omega, rfl, rfl⟩
      · rw [if_neg (by omega)] at hst
        exact Or.inr ⟨hst, Or.inr (nI_le (a := 25) (by omega) (by omega))⟩
    · rw [if_neg (by omega)] at hst
      refine Or.inr ⟨hst, Or.inl ?_⟩
      cases hv : vb (nI (x + w - 3)) 40 with
      | false => rfl
      | true =>
        obtain ⟨i, hi, hie⟩ := vb_of (by decide) hv
        have := (nI_eq (by omega) (by omega)).mp hie
        omega
  · rw [if_neg (by omega)] at hst
    exact Or.inr ⟨hst, Or.inl (mv.2 (by omega))⟩
theorem p_puff_L {F r ly hg x0 b k : Nat} {a2 a3 a4 a5 a6 : Int32} {Wd : Nat → Nat → Nat} {all his los pm : Nat → Int32} (k7 : Int32 → Int32 → (Nat → Int32) → (Nat → Int32) → Option ((Nat → Int32) × (Nat → Int32))) (hly : ly ≤ 20) (hal : all 2 = nI ly) (hWd : ∀ k q, Wd k q ≤ 6) (hlo : ∀ q, q < 48 → los q = nI (Wd 0 q)) (hhi : ∀ q, q < 48 → his q = nI (Wd 1 q)) (hr : r < 132) :
    ∀ (m a fuel n : Nat) (x9 x10 : Int32) (pf : Nat → Int32), m < fuel → n + m ≤ 54 → m ≤ 9 → b + a + m ≤ 47 → wSt (wayX ly Wd hg x0 b a) hg a x9 x10 →
      ∃ pf', fX10_laysPuffs_L62 F all his los (nI r) a2 a3 a4 a5 a6 k7 fuel (nI n) (nI k) x9 x10 (nI m) (nI (b + a)) pm pf = fX10_laysPuffs_L186 F all his los (nI r) a2 a3 a4 a5 a6 k7 (nI (n + (pfL ly Wd hg x0 b m a).length)) (nI k) pm pf' ∧ rowAt pf' (54 * r + n) (pfL ly Wd hg x0 b m a) ∧ ∀ j, (j < 54 * r + n ∨ 54 * r + n + (pfL ly Wd hg x0 b m a).length ≤ j) → pf' j = pf j
  | 0, a, fuel + 1, n, x9, x10, pf, _, _, _, _, _ => by
    refine ⟨pf, ?_, trivial, fun _ _ => rfl⟩
    rw [fX10_laysPuffs_L62, if_pos (show nI 0 ≤ 0 from nI_le (Nat.le_refl 0) (by decide))]
    rfl
  | m + 1, a, fuel + 1, n, x9, x10, pf, hf, hn, hm, hb, hw => by
    rw [fX10_laysPuffs_L62, if_neg (nI_nle (by omega) (by omega)), p_w039, ob_s]
    rcases hw with ⟨x, hw, hx, hh, rfl, rfl⟩ | ⟨hw, hv⟩
    · have ix : (54 : Int32) * nI r + nI n = nI (54 * r + n) := by
        rw [show (54 : Int32) = nI 54 from rfl, pk_mul, nI_add]
      have ec : (10 : Int32) * ((((1000 : Int32) * nI (b + a)) + ((25 : Int32) * nI x)) + nI (hg + a)) + nI (m + 1) = nI (pcode (b + a) x (hg + a) (m + 1)) := by
        rw [show (1000 : Int32) = nI 1000 from rfl, show (25 : Int32) = nI 25 from rfl, show (10 : Int32) = nI 10 from rfl, pk_mul, pk_mul, nI_add, nI_add, pk_mul, nI_add]; rfl
      have e2 : all (2 : Int32).toNatClampNeg = nI ly := hal
      have hq : b + a + 1 < 48 := by omega
      obtain ⟨pf', f1, f2, f3⟩ := p_puff_L (F := F) (r := r) (k := k) (a2 := a2) (a3 := a3) (a4 := a4) (a5 := a5) (a6 := a6) (pm := pm) k7 hly hal hWd hlo hhi hr m (a + 1) fuel (n + 1) _ _ (upd pf (54 * r + n) (nI (pcode (b + a) x (hg + a) (m + 1)))) (by omega) (by omega) (by omega) (by omega) (wSt_next hWd hw hx hh)
      have hlen : (pfL ly Wd hg x0 b (m + 1) a).length = (pfL ly Wd hg x0 b m (a + 1)).length + 1 := by rw [pfL_some hw, List.length_cons]
      refine ⟨pf', ?_, ?_, ?_⟩
      · rw [vb_nI hx (by decide), bI_1 rfl, if_neg one0, if_neg (show ¬ (25 : Int32) ≤ nI (hg + a) from nI_ge (a := hg + a) (b := 25) hh (by decide)), ix, vb_nI (by omega) (by decide), og_s, ol_s, ol_s, nI_1, nI_1, nI_clamp (by omega), ec, if_neg (show ¬ nI (b + a + 1) = 48 from nI_ne (a := b + a + 1) (b := 48) (by omega) (by decide) (by omega)), vb_nI hq (by decide), og_s, og_s, nI_clamp (by omega), hlo _ hq, hhi _ hq, e2]
        unfold fX10_laysPuffs_L169
        simp only [ol_s]
        rw [nI_1, nI_1, pk_m1, hlen, show n + ((pfL ly Wd hg x0 b m (a + 1)).length + 1) = n + 1 + (pfL ly Wd hg x0 b m (a + 1)).length by omega]
        by_cases hl : hg + a < ly
        · rw [if_neg (nI_ge hl (by omega))]
          rw [if_pos hl] at f1
          exact f1
        · rw [if_pos (nI_le (by omega) (by omega))]
          rw [if_neg hl] at f1
          exact f1
      · rw [pfL_some hw]
        refine ⟨?_, f2⟩
        rw [f3 _ (by omega), pk_us]
      · intro j hj
        rw [hlen] at hj
        rw [f3 j (by omega), pk_un (by omega)]
    · refine ⟨pf, ?_, by rw [pfL_none hw]; trivial, fun _ _ => rfl⟩
      rw [pfL_none hw]
      cases hvb : vb x9 40 with
      | false => rw [bI_0 rfl, if_pos rfl]; rfl
      | true =>
        rcases hv with q | q
        · rw [hvb] at q; cases q
        · rw [bI_1 rfl, if_neg one0, if_pos q]; rfl
  | m, a, 0, n, x9, x10, pf, hf, _, _, _, _ => absurd hf (Nat.not_lt_zero m)
