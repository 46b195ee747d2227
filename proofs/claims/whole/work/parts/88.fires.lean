theorem p_laysPuffs_L {F r c ly hg x0 lit e up : Nat} {a5 : Int32} {sm : Nat → Nat} {Wd : Nat → Nat → Nat} {all his los pm : Nat → Int32} (hly : ly ≤ 20) (hal : all 2 = nI ly) (hWd : ∀ k q, Wd k q ≤ 6) (hlo : ∀ q, q < 48 → los q = nI (Wd 0 q)) (hhi : ∀ q, q < 48 → his q = nI (Wd 1 q)) (hr : r < 132) (hc : c < 10) (hx0 : x0 < 40) (hhg : hg < 25) (he : e ≤ 6) (hlit : lit ≤ 23) (h6 : all (6 + c) = nI x0) (h16 : all (16 + c) + nI up = nI hg) (h66 : ∀ k, k < e → all (66 + (6 * c + k)) = nI (sm k)) (hsm : ∀ k, k < e → sm k ≤ 9) (hF : 9 < F) :
    ∀ (k i fuel n : Nat) (pf : Nat → Int32), i + k = e → k < fuel → n + 9 * k ≤ 54 →
      ∃ pf', fX10_laysPuffs_L7 F all his los (nI r) (nI c) (nI lit) (nI up) a5 (nI e) fuel (nI n) (nI i) pm pf = some (upd pm r (nI (n + (prL ly Wd hg x0 lit sm k i).length)), pf') ∧ rowAt pf' (54 * r + n) (prL ly Wd hg x0 lit sm k i) ∧ ∀ j, (j < 54 * r + n ∨ 54 * r + n + (prL ly Wd hg x0 lit sm k i).length ≤ j) → pf' j = pf j
  | 0, i, fuel + 1, n, pf, h, _, _ => by
    refine ⟨pf, ?_, trivial, fun _ _ => rfl⟩
    rw [fX10_laysPuffs_L7, show i = e by omega, if_pos (nI_le (Nat.le_refl e) (by omega)), vb_nI hr (by decide), og_s, ol_s, nI_clamp (by omega)]
    rfl
  | k + 1, i, fuel + 1, n, pf, h, hf, hn => by
    have hs9 := hsm i (by omega)
    obtain ⟨pf1, f1, f2, f3⟩ := p_puff_L (F := F) (r := r) (k := i) (b := lit + i) (x0 := x0) (hg := hg) (a2 := nI c) (a3 := nI lit) (a4 := nI up) (a5 := a5) (a6 := nI e) (pm := pm) (fun x7 x8 v_puffMany v_puffsOf => fX10_laysPuffs_L7 F all his los (nI r) (nI c) (nI lit) (nI up) a5 (nI e) fuel x7 x8 v_puffMany v_puffsOf) hly hal hWd hlo hhi hr (sm i) 0 F n (nI x0) (nI (hg + 0)) pf (by omega) (by omega) hs9 (by omega) (Or.inl ⟨x0, rfl, hx0, by omega, rfl, rfl⟩)
    have hl9 := pfL_len (ly := ly) (Wd := Wd) (hg := hg) (x0 := x0) (b := lit + i) (sm i) 0
    obtain ⟨pf', g1, g2, g3⟩ := p_laysPuffs_L (F := F) (a5 := a5) (pm := pm) hly hal hWd hlo hhi hr hc hx0 hhg he hlit h6 h16 h66 hsm hF k (i + 1) fuel (n + (pfL ly Wd hg x0 (lit + i) (sm i) 0).length) pf1 (by omega) (by omega) (by omega)
    have hpr : prL ly Wd hg x0 lit sm (k + 1) i = pfL ly Wd hg x0 (lit + i) (sm i) 0 ++ prL ly Wd hg x0 lit sm k (i + 1) := rfl
    refine ⟨pf', ?_, ?_, ?_⟩
    · have e6 : (6 : Int32) + nI c = nI (6 + c) := nI_add 6 c
      have e16 : (16 : Int32) + nI c = nI (16 + c) := nI_add 16 c
      have e66 : ((66 : Int32) + (6 : Int32) * nI c) + nI i = nI (66 + (6 * c + i)) := by
        rw [show (6 : Int32) = nI 6 from rfl, pk_mul, show (66 : Int32) = nI 66 from rfl, nI_add, nI_add]; congr 1; omega
      rw [fX10_laysPuffs_L7, if_neg (nI_ge (by omega) (by omega)), e6, vb_nI (by omega) (by decide), og_s, ol_s, nI_clamp (by omega), h6, e16, vb_nI (by omega) (by decide), og_s, ol_s, nI_clamp (by omega), h16, e66, vb_nI (by omega) (by decide), og_s, ol_s, nI_clamp (by omega), h66 i (by omega), ol_s, nI_add]
      refine f1.trans ?_
      unfold fX10_laysPuffs_L186
      rw [ol_s, nI_1]
      refine g1.trans ?_
      rw [hpr, List.length_append, Nat.add_assoc]
    · rw [hpr]
      refine rowAt_append _ _ _ (rowAt_congr _ _ (fun j h1 h2 => g3 j (by omega)) f2) ?_
      rw [Nat.add_assoc]; exact g2
    · intro j hj
      rw [hpr, List.length_append] at hj
      rw [g3 j (by omega), f3 j (by omega)]
  | k, i, 0, n, pf, _, hf, _ => absurd hf (Nat.not_lt_zero k)
/-- the list of a fire of chimney c, lit in quarter lit, up higher -/
def fireL (t : Nat → Nat → Nat) (Wd : Nat → Nat → Nat) (up c lit : Nat) : List Nat := prL (t 2 0) Wd (t 7 c + up) (t 6 c) lit (fun k => t 12 (6 * c + k)) (t 10 c) 0
def frow (pm pf : Nat → Int32) (r : Nat) (L : List Nat) : Prop := pm r = nI L.length ∧ rowAt pf (54 * r) L
theorem fireL_len {t : Nat → Nat → Nat} {Wd : Nat → Nat → Nat} {up c lit : Nat} (ht : Tok t) (hc : c < t 0 0) : (fireL t Wd up c lit).length ≤ 54 := by
  obtain ⟨-, -, -, -, g4, -, g6⟩ := ht.2.2.2.2.2.2.1 c hc
  have := prL_len (ly := t 2 0) (Wd := Wd) (hg := t 7 c + up) (x0 := t 6 c) (lit := lit) (sm := fun k => t 12 (6 * c + k)) (t 10 c) 0 (fun j _ h2 => (g6 j (by omega)).2)
  unfold fireL
  omega
/-- some puffs of a fire: e - f of them, from the f-th on -/
theorem p_laysPart {F r c lit up f e : Nat} {t : Nat → Nat → Nat} {Wd : Nat → Nat → Nat} {all his los pm pf : Nat → Int32} (ht : Tok t) (hM : tM t all 0) (hc : c < t 0 0) (hlit : lit ≤ 23) (hup : up ≤ 12) (hfe : f ≤ e) (he : e ≤ t 10 c) (hWd : ∀ k q, Wd k q ≤ 6) (hlo : ∀ q, q < 48 → los q = nI (Wd 0 q)) (hhi : ∀ q, q < 48 → his q = nI (Wd 1 q)) (hr : r < 132) (hF : 9 < F) :
    ∃ pf', fX10_laysPuffs F all his los pm pf (nI r) (nI c) (nI lit) (nI up) (nI f) (nI e) = some (upd pm r (nI (prL (t 2 0) Wd (t 7 c + up) (t 6 c) lit (fun k => t 12 (6 * c + k)) (e - f) f).length), pf') ∧ rowAt pf' (54 * r) (prL (t 2 0) Wd (t 7 c + up) (t 6 c) lit (fun k => t 12 (6 * c + k)) (e - f) f) ∧ ∀ j, (j < 54 * r ∨ 54 * r + 54 ≤ j) → pf' j = pf j := by
  have hn := ht.1
  obtain ⟨g0, g1, g2, g3, g4, -, g6⟩ := ht.2.2.2.2.2.2.1 c hc
  obtain ⟨m0, m1, m2, m3, m4, m5, m6⟩ := hM.2.1 c hc
  rw [Nat.zero_add] at m0 m1
  have hal : all 2 = nI (t 2 0) := hM.1 2 (by decide)
  obtain ⟨pf', e1, e2, e3⟩ := p_laysPuffs_L (F := F) (r := r) (c := c) (ly := t 2 0) (hg := t 7 c + up) (x0 := t 6 c) (lit := lit) (e := e) (up := up) (a5 := nI f) (sm := fun k => t 12 (6 * c + k)) (pm := pm) ht.2.2.1 hal hWd hlo hhi hr (by omega) g0 (by omega) (by omega) hlit m0 (by rw [m1, nI_add]) (fun k hk => by have := m6 k (by omega); rw [Nat.zero_add] at this; exact this) (fun k hk => (g6 k (by omega)).2) hF (e - f) f F 0 pf (by omega) (by omega) (by omega)
  have hlen := prL_len (ly := t 2 0) (Wd := Wd) (hg := t 7 c + up) (x0 := t 6 c) (lit := lit) (sm := fun k => t 12 (6 * c + k)) (e - f) f (fun j _ h2 => (g6 j (by omega)).2)
  rw [Nat.add_zero] at e2 e3
  rw [Nat.zero_add] at e1
  exact ⟨pf', e1, e2, fun j hj => e3 j (by omega)⟩
theorem p_laysFire {F r c lit up : Nat} {t : Nat → Nat → Nat} {Wd : Nat → Nat → Nat} {all his los pm pf : Nat → Int32} (ht : Tok t) (hM : tM t all 0) (hc : c < t 0 0) (hlit : lit ≤ 23) (hup : up ≤ 12) (hWd : ∀ k q, Wd k q ≤ 6) (hlo : ∀ q, q < 48 → los q = nI (Wd 0 q)) (hhi : ∀ q, q < 48 → his q = nI (Wd 1 q)) (hr : r < 132) (hF : 9 < F) :
    ∃ pm' pf', fX10_laysFire F all his los pm pf (nI r) (nI c) (nI lit) (nI up) = some (pm', pf') ∧ frow pm' pf' r (fireL t Wd up c lit) ∧ (∀ s, s ≠ r → pm' s = pm s) ∧ ∀ j, (j < 54 * r ∨ 54 * r + 54 ≤ j) → pf' j = pf j := by
  have hn := ht.1
  obtain ⟨m0, m1, m2, m3, m4, m5, m6⟩ := hM.2.1 c hc
  rw [Nat.zero_add] at m4
  obtain ⟨pf', e1, e2, e3⟩ := p_laysPart (F := F) (r := r) (f := 0) (e := t 10 c) (pm := pm) (pf := pf) ht hM hc hlit hup (Nat.zero_le _) (Nat.le_refl _) hWd hlo hhi hr hF
  refine ⟨_, pf', ?_, ⟨pk_us, e2⟩, fun s hs => pk_un hs, e3⟩
  have e46 : (46 : Int32) + nI c = nI (46 + c) := nI_add 46 c
  unfold fX10_laysFire
  rw [e46, vb_nI (by omega) (by decide), og_s, nI_clamp (by omega), m4, show (0 : Int32) = nI 0 from rfl, e1, ob_s]
  rfl
theorem frow_keep {pm pf pm' pf' : Nat → Int32} {r s : Nat} {L : List Nat} (hL : L.length ≤ 54) (hrs : s ≠ r) (h : frow pm pf s L) (h1 : ∀ s, s ≠ r → pm' s = pm s) (h2 : ∀ j, (j < 54 * r ∨ 54 * r + 54 ≤ j) → pf' j = pf j) : frow pm' pf' s L := by
  refine ⟨by rw [h1 s hrs]; exact h.1, rowAt_congr L _ (fun j j1 j2 => h2 j ?_) h.2⟩
  rcases Nat.lt_or_ge s r with q | q
  · left; have : 54 * s + 54 ≤ 54 * r := by omega
    omega
  · right; have : 54 * r + 54 ≤ 54 * s := by omega
    omega
/-- what a lit chimney gives, nothing where it is not lit -/
def lfL (t : Nat → Nat → Nat) (Wd : Nat → Nat → Nat) (c : Nat) : List Nat := if t 11 c = 0 then [] else fireL t Wd 0 c (t 11 c - 1)
theorem lfL_len {t : Nat → Nat → Nat} {Wd : Nat → Nat → Nat} {c : Nat} (ht : Tok t) (hc : c < t 0 0) : (lfL t Wd c).length ≤ 54 := by
  unfold lfL
  by_cases h : t 11 c = 0
  · rw [if_pos h]; exact Nat.zero_le _
  · rw [if_neg h]; exact fireL_len ht hc
theorem p_laysLit_L {F : Nat} {t : Nat → Nat → Nat} {Wd : Nat → Nat → Nat} {all his los : Nat → Int32} (ht : Tok t) (hM : tM t all 0) (hWd : ∀ k q, Wd k q ≤ 6) (hlo : ∀ q, q < 48 → los q = nI (Wd 0 q)) (hhi : ∀ q, q < 48 → his q = nI (Wd 1 q)) (hF : 9 < F) :
    ∀ (k i fuel : Nat) (pm pf : Nat → Int32), i + k = t 0 0 → k < fuel → (∀ c, c < i → frow pm pf c (lfL t Wd c)) → ∃ pm' pf', fX10_laysLit_L2 F all his los fuel (nI i) pm pf = some (pm', pf') ∧ (∀ c, c < t 0 0 → frow pm' pf' c (lfL t Wd c))
  | 0, i, fuel + 1, pm, pf, h, _, hk => by
    have hn := ht.1
    have e : all (0 : Int32).toNatClampNeg = nI (t 0 0) := hM.1 0 (by decide)
    refine ⟨pm, pf, ?_, fun c hc => hk c (by omega)⟩
    rw [fX10_laysLit_L2, e, show i = t 0 0 by omega, if_pos (nI_le (Nat.le_refl _) (by omega))]
  | k + 1, i, fuel + 1, pm, pf, h, hf, hk => by
    have hn := ht.1
    have hi : i < t 0 0 := by omega
    have e : all (0 : Int32).toNatClampNeg = nI (t 0 0) := hM.1 0 (by decide)
    have m5 := (hM.2.1 i hi).2.2.2.2.2.1
    rw [Nat.zero_add] at m5
    have hlt := ht.lit hi
    by_cases h0 : t 11 i = 0
    · have hl0 : lfL t Wd i = [] := if_pos h0
      obtain ⟨pm', pf', f1, f2⟩ := p_laysLit_L ht hM hWd hlo hhi hF k (i + 1) fuel (upd pm i 0) pf (by omega) (by omega) (fun c hc => by
        by_cases hci : c = i
        · subst hci; rw [hl0]; exact ⟨pk_us, trivial⟩
        · exact frow_keep (r := i) (lfL_len ht (by omega)) hci (hk c (by omega)) (fun s hs => pk_un hs) (fun _ _ => rfl))
      refine ⟨pm', pf', ?_, f2⟩
      rw [fX10_laysLit_L2, e, if_neg (nI_ge hi (by omega)), vb_nI (by omega) (by decide), og_s, ol_s, p_mLit (by omega), ob_s, m5, if_pos ((litM_iff hlt).mpr h0), if_pos rfl, nI_clamp (by omega), fX10_laysLit_L39, ol_s, nI_1]
      exact f1
    · obtain ⟨q, hq⟩ : ∃ q, t 11 i = q + 1 := ⟨t 11 i - 1, by omega⟩
      have hl1 : lfL t Wd i = fireL t Wd 0 i q := by unfold lfL; rw [if_neg h0, hq, Nat.add_sub_cancel]
      obtain ⟨pm1, pf1, e1, e2, e3, e4⟩ := p_laysFire (F := F) (r := i) (c := i) (lit := q) (up := 0) (pm := upd pm i 0) (pf := pf) ht hM hi (by omega) (by omega) hWd hlo hhi (by omega) hF
      obtain ⟨pm', pf', f1, f2⟩ := p_laysLit_L ht hM hWd hlo hhi hF k (i + 1) fuel pm1 pf1 (by omega) (by omega) (fun c hc => by
        by_cases hci : c = i
        · subst hci; rw [hl1]; exact e2
        · exact frow_keep (r := i) (lfL_len ht (by omega)) hci (frow_keep (r := i) (pf' := pf) (lfL_len ht (by omega)) hci (hk c (by omega)) (fun s hs => pk_un hs) (fun _ _ => rfl)) e3 e4)
      refine ⟨pm', pf', ?_, f2⟩
      rw [fX10_laysLit_L2, e, if_neg (nI_ge hi (by omega)), vb_nI (by omega) (by decide), og_s, ol_s, p_mLit (by omega), ob_s, m5, if_neg (fun z => h0 ((litM_iff hlt).mp z)), if_neg one0, nI_clamp (by omega), p_litAt (by omega), ob_s, m5, hq, nI_pred, show (0 : Int32) = nI 0 from rfl, show upd pm i (nI 0) = upd pm i 0 from rfl, e1, ob_s, fX10_laysLit_L39, ol_s, nI_1]
      exact f1
  | k, i, 0, pm, pf, _, hf, _ => absurd hf (Nat.not_lt_zero k)
theorem p_laysLit {F : Nat} {t : Nat → Nat → Nat} {Wd : Nat → Nat → Nat} {all his los pm pf : Nat → Int32} (ht : Tok t) (hM : tM t all 0) (hWd : ∀ k q, Wd k q ≤ 6) (hlo : ∀ q, q < 48 → los q = nI (Wd 0 q)) (hhi : ∀ q, q < 48 → his q = nI (Wd 1 q)) (hF : 10 < F) :
    ∃ pm' pf', fX10_laysLit F all his los pm pf = some (pm', pf') ∧ (∀ c, c < t 0 0 → frow pm' pf' c (lfL t Wd c)) := by
  have hn := ht.1
  exact p_laysLit_L ht hM hWd hlo hhi (by omega) (t 0 0) 0 F pm pf (by omega) (by omega) (fun c hc => by omega)
/-- the told winds, by height first -/
def tW (t : Nat → Nat → Nat) : Nat → Nat → Nat := fun b q => if b = 0 then windS t q 0 else windS t q 1
theorem tW_le {t : Nat → Nat → Nat} (ht : Tok t) (b q : Nat) : tW t b q ≤ 6 := by
  unfold tW
  split
  · exact windS_le ht (by decide)
  · exact windS_le ht (by decide)
theorem p_laysNow {F : Nat} {t : Nat → Nat → Nat} {all his los pm pf : Nat → Int32} (ht : Tok t) (hM : tM t all 0) (hF : 48 < F) :
    ∃ his' los' pm' pf', fX10_laysNow F all his los pm pf = some (his', los', pm', pf') ∧ (∀ q, q < 48 → los' q = nI (tW t 0 q)) ∧ (∀ q, q < 48 → his' q = nI (tW t 1 q)) ∧ (∀ c, c < t 0 0 → frow pm' pf' c (lfL t (tW t) c)) := by
  have h0 : ∀ q, q < 48 → wT los t 0 0 q = nI (tW t 0 q) := fun q hq => wT_in hq
  have h1 : ∀ q, q < 48 → wT his t 1 0 q = nI (tW t 1 q) := fun q hq => wT_in hq
  obtain ⟨pm', pf', e1, e2⟩ := p_laysLit (F := F) (pm := pm) (pf := pf) ht hM (tW_le ht) h0 h1 (by omega)
  refine ⟨_, _, pm', pf', ?_, h0, h1, e2⟩
  unfold fX10_laysNow
  rw [p_laysWinds ht hM hF, ob_s]
  show ob (fX10_laysLit F all (wT his t 1 0) (wT los t 0 0) pm pf) _ = _
  rw [e1, ob_s]
