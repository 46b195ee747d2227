def fOf (op : Nat → Int32) : Nat → Nat → Bool := fun k q => bt (op k) q
def xOfC (cl : Nat → Int32) : Nat → Nat → Nat → Nat → Bool := fun k a l b => bt (cl (cp k l a)) b
theorem fOf_le {t : Nat → Nat → Nat} {U : Nat} {cl op : Nat → Int32} (ht : Tok t) (h5 : uN t ≤ 5) (hU : U = uN t) (hS : skT t (tW t) (uW t) (uN t) cl op) {k q : Nat} (hk : k < U) (h : fOf op k q = true) : freeP t (tW t) (uW t k) q ∧ q ≤ 23 := by
  subst hU
  have hq : q < 32 := by
    rcases Nat.lt_or_ge q 32 with z | z
    · exact z
    · unfold fOf at h; rw [b_big z] at h; cases h
  have hf := (bsI_b (hS.1 k hk) hq).mp h
  have := (ht.2.2.2.2.2.2.1 _ (uW_at hk).1).2.2.2.1
  exact ⟨hf, by have := hf.1.2; omega⟩
theorem tab_link {t : Nat → Nat → Nat} {cl op few fo ap : Nat → Int32} (ht : Tok t) (h5 : uN t ≤ 5) (hS : skT t (tW t) (uW t) (uN t) cl op) (hW : fwT t (tW t) few fo ap) : rfI (fOf op) (xOfC cl) (uN t) 23 fo ap := by
  refine ⟨fun k hk q hq => ?_, fun k hk q h => (fOf_le ht h5 rfl hS hk h).2, fun j i a b hji hi fa fb => ?_⟩
  · rw [bsI_eq (hW.1 k hk).2 (hS.1 k hk)]; rfl
  · obtain ⟨pa, la⟩ := fOf_le ht h5 rfl hS (show j < uN t by omega) fa
    obtain ⟨pb, lb⟩ := fOf_le ht h5 rfl hS hi fb
    have hx := bsI_b (hS.2 j i hji hi a (by omega)) (j := b) (by omega)
    have ha := hW.2 (24 * i + b) (24 * j + a) (by omega) (by omega)
    unfold apOk at ha
    rw [show (24 * i + b) / 24 = i by omega, show (24 * i + b) % 24 = b by omega, show (24 * j + a) / 24 = j by omega, show (24 * j + a) % 24 = a by omega] at ha
    constructor
    · intro h0
      refine hx.mpr ⟨pa.1, pb.1, ?_⟩
      apply Classical.byContradiction
      intro hn
      exact ha.mpr ⟨by omega, pb, pa, hn⟩ h0
    · intro h1
      apply Classical.byContradiction
      intro hn
      exact (ha.mp hn).2.2.2 (hx.mp h1).2.2
theorem clI_of (cl : Nat → Int32) (U : Nat) : clI (xOfC cl) U cl := fun _ _ _ _ _ _ _ _ => rfl
theorem opF_of (op : Nat → Int32) (U : Nat) : opF (fOf op) U op := fun _ _ _ _ => rfl
/-- promise 23 -/
theorem s_shut {F : Nat} {t : Nat → Nat → Nat} {hs v lit sc sm fs ts cl op who all ap few fo his los pm pf qo : Nat → Int32} {mem thr fm : Int32} (ht : Tok t) (hP : plOk t hs v lit sc sm) (h2 : ∀ c, c < t 0 0 → fs c = nI (t 8 c)) (h3 : ∀ c, c < t 0 0 → ts c = nI (t 9 c)) (hM : tM t all 0) (hF : 600 < F) :
    ∃ r, fstIs (fX9_shut F (nI (t 0 0)) (nI (t 3 0)) mem fs lit sc sm ts hs v cl op who) r ∧ fstIs (fX10_shut F thr fm all ap few fo his los pm pf qo) r := by
  unfold fX9_shut fX10_shut
  rcases p_gu (F := F) (mem := mem) (cl := cl) (op := op) (who := who) ht hP h2 h3 hF with ⟨h5, cl', op', who', e1, e2, e3⟩ | ⟨h5, e1⟩
  · rcases p_lf (F := F) (fm := fm) (ap := ap) (few := few) (fo := fo) (his := his) (los := los) (pm := pm) (pf := pf) ht hM (by omega) with ⟨-, ap', few', fo', his', los', pm', pf', g1, g2⟩ | ⟨h6, -⟩
    · have hlink := tab_link ht h5 e2 g2
      obtain ⟨R, op2, s1, s2, -⟩ := p_shutSet (F := F) h5 (clI_of cl' (uN t)) (by omega) (opF_of op' (uN t))
      obtain ⟨R', q1, q2⟩ := p_rs19 (F := F) (W := uW t) (all := all) (his := his') (los := los') (pm := pm') (pf := pf') (thr := 0) h5 hlink (fun k hk => (g2.1 k hk).1) (by omega) (2 ^ uN t - 1) 1 F 0 qo (by have := pw_U (uN t) (by omega); omega) (by have := pw_U (uN t) (by omega); omega) (Nat.le_refl _) (Or.inl ⟨rfl, fun m a b => by omega⟩)
      have hRR := isMin_eq s2 q1
      subst hRR
      refine ⟨if R = 0 then 0 else chW (uW t) R (uN t) 0 0, ?_, ?_⟩
      · rw [e1, ob_s]
        dsimp only
        rw [if_neg one0, s1, ob_s]
        dsimp only
        rw [p_chimneysOf h5 e3 (by omega), ob_s]
        by_cases e : R = 0
        · rw [if_pos e, e]
          have : ∀ n k a, chW (uW t) 0 n k a = a := by
            intro n
            induction n with
            | zero => intro k a; rfl
            | succ n ih => intro k a; rw [chW, Nat.zero_testBit]; exact ih _ _
          rw [this]; exact fst_mk
        · rw [if_neg e]; exact fst_mk
      · rw [g1, ob_s]
        dsimp only
        rw [if_neg one0]
        exact q2
    · omega
  · rcases p_lf (F := F) (fm := fm) (ap := ap) (few := few) (fo := fo) (his := his) (los := los) (pm := pm) (pf := pf) ht hM (by omega) with ⟨h6, -⟩ | ⟨-, g1⟩
    · omega
    · obtain ⟨w1, e1'⟩ := fst_of e1
      obtain ⟨w2, g1'⟩ := fst_of g1
      refine ⟨-4, ?_, ?_⟩
      · rw [e1', ob_s]; exact fst_mk
      · rw [g1', ob_s]; exact fst_mk
/-! promise 24: the greatest set -/
def isMax (Y : Nat → Bool) (N R : Nat) : Prop := (R = 0 ∧ ∀ m, 1 ≤ m → m < N → Y m = false) ∨ (1 ≤ R ∧ R < N ∧ Y R = true ∧ ∀ m, 1 ≤ m → m < N → Y m = true → pc m < pc R ∨ (pc R = pc m ∧ R ≤ m))
theorem isMax_eq {Y : Nat → Bool} {N R R' : Nat} (h : isMax Y N R) (h' : isMax Y N R') : R = R' := by
  rcases h with ⟨a1, a2⟩ | ⟨a1, a2, a3, a4⟩
  · rcases h' with ⟨b1, b2⟩ | ⟨b1, b2, b3, b4⟩
    · omega
    · rw [a2 R' b1 b2] at b3; cases b3
  · rcases h' with ⟨b1, b2⟩ | ⟨b1, b2, b3, b4⟩
    · rw [b2 R a1 a2] at a3; cases a3
    · have q1 := a4 R' b1 b2 b3
      have q2 := b4 R a1 a2 a3
      omega
theorem p_gr41 {F U z : Nat} {a1 : Int32} {cl : Nat → Int32} {f : Nat → Nat → Bool} {x : Nat → Nat → Nat → Nat → Bool} {k35 : Int32 → (Nat → Int32) → Option (Int32 × (Nat → Int32))} (hU : U ≤ 5) (hz : z + 1 ≤ U) (hcl : clI x U cl) (hF : 32 < F)
    (hk : ∀ op1, opF f U op1 → (∀ m, 1 ≤ m → m < 2 ^ U → hasP f x U m = true → pc m ≤ z) → ∃ R op2, k35 (nI z) op1 = some (nI R, op2) ∧ isMax (hasP f x U) (2 ^ U) R) :
    ∀ (n m fuel : Nat) (op : Nat → Int32), m + n = 2 ^ U → n < fuel → 1 ≤ m → opF f U op → (∀ m', 1 ≤ m' → m' < 2 ^ U → hasP f x U m' = true → pc m' ≤ z + 1 ∧ (pc m' = z + 1 → m ≤ m')) → ∃ R op2, fX6_greatestSet_L41 F (nI U) cl a1 k35 fuel (nI (z + 1)) (nI m) op = some (nI R, op2) ∧ isMax (hasP f x U) (2 ^ U) R
  | 0, m, fuel + 1, op, h, _, h1, ho, hn => by
    have hp := pw_U U (by omega)
    rw [fX6_greatestSet_L41, hp.1, if_pos (nI_le (by omega) (by omega)), ol_s, pk_m1]
    refine hk op ho (fun m' a b c => ?_)
    have := hn m' a b c
    rcases Nat.lt_or_ge z (pc m') with q | q
    · have := this.2 (by omega); omega
    · exact q
  | n + 1, m, fuel + 1, op, h, hf, h1, ho, hn => by
    have hp := pw_U U (by omega)
    have hm32 : m < 32 := by omega
    have IH := fun op0 => p_gr41 (F := F) (a1 := a1) hU hz hcl hF hk n (m + 1) fuel op0 (by omega) (by omega) (by omega)
    rw [fX6_greatestSet_L41, hp.1, if_neg (nI_ge (by omega) (by omega)), p_bc5 hm32, ob_s]
    by_cases e : pc m = z + 1
    · obtain ⟨op1, e1, e2⟩ := p_can0 (F := F) (m := m) hU hcl (by omega) (by omega) ho
      rw [e, if_pos rfl, e1, ob_s]
      dsimp only
      cases hY : hasP f x U m with
      | true =>
        refine ⟨m, op1, ?_, Or.inr ⟨h1, by omega, hY, fun m' a b c => ?_⟩⟩
        · rw [bI_1 rfl, if_neg one0]
        · have := hn m' a b c
          rw [e]
          rcases Nat.lt_or_ge (pc m') (z + 1) with q | q
          · exact Or.inl q
          · exact Or.inr ⟨by omega, this.2 (by omega)⟩
      | false =>
        rw [bI_0 rfl, if_pos rfl, fX6_greatestSet_L70, ol_s, nI_1]
        refine IH op1 e2 (fun m' a b c => ⟨(hn m' a b c).1, fun d => ?_⟩)
        have := (hn m' a b c).2 d
        rcases Nat.lt_or_ge m m' with q | q
        · exact q
        · rw [show m' = m by omega, hY] at c; cases c
    · rw [if_neg (nI_ne (by have := (pc_tab m hm32).2.1; omega) (by omega) e), fX6_greatestSet_L70, ol_s, nI_1]
      refine IH op ho (fun m' a b c => ⟨(hn m' a b c).1, fun d => ?_⟩)
      have := (hn m' a b c).2 d
      rcases Nat.lt_or_ge m m' with q | q
      · exact q
      · rw [show m' = m by omega] at d; omega
  | n, m, 0, op, _, hf, _, _, _ => absurd hf (Nat.not_lt_zero n)
theorem p_gr35 {F U : Nat} {a1 : Int32} {cl : Nat → Int32} {f : Nat → Nat → Bool} {x : Nat → Nat → Nat → Nat → Bool} (hU : U ≤ 5) (hcl : clI x U cl) (hF : 32 < F) :
    ∀ (z fuel : Nat) (op : Nat → Int32), z < fuel → z ≤ U → opF f U op → (∀ m', 1 ≤ m' → m' < 2 ^ U → hasP f x U m' = true → pc m' ≤ z) → ∃ R op2, fX6_greatestSet_L35 F (nI U) cl a1 fuel (nI z) op = some (nI R, op2) ∧ isMax (hasP f x U) (2 ^ U) R
  | 0, fuel + 1, op, h, _, ho, hn => by
    refine ⟨0, op, ?_, Or.inl ⟨rfl, fun m a b => ?_⟩⟩
    · rw [fX6_greatestSet_L35, if_pos (show nI 0 ≤ 0 from Int32.le_refl 0)]; rfl
    · cases hY : hasP f x U m with
      | false => rfl
      | true =>
        have q1 := hn m a b hY
        have q2 := (pc_tab m (by have := pw_U U (by omega); omega)).2.2 (by omega)
        omega
  | z + 1, fuel + 1, op, h, hz, ho, hn => by
    rw [fX6_greatestSet_L35, if_neg (nI_nle (by omega) (by omega))]
    exact p_gr41 (F := F) (z := z) (a1 := a1) (f := f) (x := x) hU hz hcl hF (fun op1 o1 n1 => p_gr35 hU hcl hF z fuel op1 (by omega) (by omega) o1 n1) (2 ^ U - 1) 1 F op (by have := pw_U U (by omega); omega) (by have := pw_U U (by omega); omega) (Nat.le_refl _) ho (fun m' a b c => ⟨hn m' a b c, fun _ => a⟩)
  | z, 0, op, hf, _, _, _ => absurd hf (Nat.not_lt_zero z)
theorem mask0 : ∀ L, L < 24 → ∀ b, b < 32 → bt (((2 : Int32) <<< (nI L &&& 31)) - (1 : Int32)) b = decide (b ≤ L) := by decide +kernel
def fMx (f : Nat → Nat → Bool) (L : Nat) : Nat → Nat → Bool := fun k q => f k q && decide (q ≤ L)
theorem p_gr2 {F U L : Nat} {cl : Nat → Int32} {f : Nat → Nat → Bool} (hU : U ≤ 5) (hL : L < 24) :
    ∀ (n k fuel : Nat) (op : Nat → Int32), k + n = U → n < fuel → (∀ j, j < k → ∀ b, b < 32 → bt (op j) b = fMx f L j b) → (∀ j, k ≤ j → j < U → ∀ b, b < 32 → bt (op j) b = f j b) → ∃ op', fX6_greatestSet_L2 F (nI U) cl (nI L) fuel (nI k) op = fX6_greatestSet_L35 F (nI U) cl (nI L) F (nI U) op' ∧ opF (fMx f L) U op'
  | 0, k, fuel + 1, op, h, _, h1, _ => by
    refine ⟨op, ?_, fun j hj => h1 j (by omega)⟩
    rw [fX6_greatestSet_L2, if_pos (nI_le (by omega) (by omega))]
  | n + 1, k, fuel + 1, op, h, hf, h1, h2 => by
    rw [fX6_greatestSet_L2, if_neg (nI_ge (by omega) (by omega)), vb_nI (show k < 30 by omega) (by decide), og_s, og_s, ol_s, ol_s, nI_1, nI_clamp (by omega)]
    exact p_gr2 (F := F) hU hL n (k + 1) fuel _ (by omega) (by omega) (fun j hj b hb => by
      by_cases e : j = k
      · subst e; rw [pk_us, b_and, h2 j (Nat.le_refl _) (by omega) b hb, mask0 L hL b hb]; rfl
      · rw [pk_un e]; exact h1 j (by omega) b hb) (fun j a b c d => by rw [pk_un (by omega)]; exact h2 j (by omega) b c d)
  | n, k, 0, op, _, hf, _, _ => absurd hf (Nat.not_lt_zero n)
theorem p_greatest {F U L : Nat} {cl op : Nat → Int32} {f : Nat → Nat → Bool} {x : Nat → Nat → Nat → Nat → Bool} (hU : U ≤ 5) (hL : L < 24) (hcl : clI x U cl) (hF : 32 < F) (ho : opF f U op) : ∃ R op2, fX6_greatestSet F (nI U) cl op (nI L) = some (nI R, op2) ∧ isMax (hasP (fMx f L) x U) (2 ^ U) R := by
  obtain ⟨op', e1, e2⟩ := p_gr2 (F := F) (cl := cl) (f := f) hU hL U 0 F op (by omega) (by omega) (fun j hj => by omega) (fun j _ hj => ho j hj)
  obtain ⟨R, op2, f1, f2⟩ := p_gr35 (F := F) (a1 := nI L) (x := x) hU hcl hF U F op' (by omega) (Nat.le_refl _) e2 (fun m' a b _ => pc_le U (by omega) m' b)
  exact ⟨R, op2, e1.trans f1, f2⟩
theorem p_rm48 {F U L : Nat} {W : Nat → Nat} {all ap few fo his los pm pf : Nat → Int32} {thr a2 : Int32} {f : Nat → Nat → Bool} {x : Nat → Nat → Nat → Nat → Bool} (hU : U ≤ 5) (hL : L < 24) (hR : rfI f x U L fo ap) (hw : ∀ k, k < U → few k = nI (W k)) (hF : 32 < F) :
    ∀ (n m fuel R0 : Nat) (qo : Nat → Int32), m + n = 2 ^ U → n < fuel → 1 ≤ m → isMax (hasP f x U) m R0 → ∃ R, isMax (hasP f x U) (2 ^ U) R ∧ fstIs (fX10_most_L48 F all (nI L) a2 fuel (nI R0) (nI m) thr (nI U) ap few fo his los pm pf qo) (if a2 = 0 then nI (pc R) else chW W R U 0 0)
  | 0, m, fuel + 1, R0, qo, h, _, h1, hm => by
    have hp := pw_U U (by omega)
    have hmN : m = 2 ^ U := by omega
    have hR0 : R0 < 32 := by
      rcases hm with ⟨a, -⟩ | ⟨-, a, -⟩
      · omega
      · omega
    refine ⟨R0, hmN ▸ hm, ?_⟩
    rw [fX10_most_L48, hp.1, if_pos (nI_le (by omega) (by omega))]
    by_cases e : a2 = 0
    · rw [if_pos e, p_bitsOf hR0 (by omega), ob_s, if_pos e]; exact fst_mk
    · rw [if_neg e, p_asChimneys hU hw (by omega), ob_s, if_neg e]; exact fst_mk
  | n + 1, m, fuel + 1, R0, qo, h, hf, h1, hm => by
    have hp := pw_U U (by omega)
    have hm32 : m < 32 := by omega
    have hR0 : R0 < m := by
      rcases hm with ⟨a, -⟩ | ⟨-, a, -⟩
      · omega
      · omega
    have IH := fun R1 qo1 => p_rm48 (F := F) (all := all) (his := his) (los := los) (pm := pm) (pf := pf) (thr := thr) (a2 := a2) hU hL hR hw hF n (m + 1) fuel R1 qo1 (by omega) (by omega) (by omega)
    obtain ⟨qo2, w1⟩ := p_ways1 (F := F) (m := m) (qo := qo) hU (show L ≤ 23 by omega) hR (by omega)
    have b1 := (pc_tab m hm32).2
    have b2 := (pc_tab R0 (by omega)).2
    rw [fX10_most_L48, hp.1, if_neg (nI_ge (by omega) (by omega)), p_bitsOf hm32 (by omega), ob_s, p_bitsOf (by omega) (by omega), ob_s]
    by_cases hpc : pc m ≤ pc R0
    · rw [if_pos (nI_le hpc (by omega)), fX10_most_L86, ol_s, nI_1]
      refine IH R0 qo ?_
      rcases hm with ⟨a, b⟩ | ⟨a1, a2', a3, a4⟩
      · exfalso
        have : pc R0 = 0 := by rw [a]; rfl
        have := b1.2 (by omega)
        omega
      · exact Or.inr ⟨a1, by omega, a3, fun m' c d e => by
          by_cases q : m' = m
          · rw [q]; omega
          · exact a4 m' c (by omega) e⟩
    · rw [if_neg (nI_ge (by omega) (by omega)), w1, ob_s]
      dsimp only
      cases hY : hasP f x U m with
      | false =>
        rw [bI_0 rfl, if_pos (Int32.le_refl 0), fX10_most_L86, ol_s, nI_1]
        refine IH R0 qo2 ?_
        rcases hm with ⟨a, b⟩ | ⟨a1, a2', a3, a4⟩
        · exact Or.inl ⟨a, fun m' c d => by
            by_cases q : m' = m
            · rw [q]; exact hY
            · exact b m' c (by omega)⟩
        · exact Or.inr ⟨a1, by omega, a3, fun m' c d e => by
            by_cases q : m' = m
            · rw [q, hY] at e; cases e
            · exact a4 m' c (by omega) e⟩
      | true =>
        rw [bI_1 rfl, if_neg (show ¬ (1 : Int32) ≤ 0 by decide), fX10_most_L86, ol_s, nI_1]
        refine IH m qo2 (Or.inr ⟨h1, by omega, hY, fun m' c d e => ?_⟩)
        by_cases q : m' = m
        · exact Or.inr ⟨by rw [q], by omega⟩
        · rcases hm with ⟨a, b⟩ | ⟨a1, a2', a3, a4⟩
          · rw [b m' c (by omega)] at e; cases e
          · have := a4 m' c (by omega) e; omega
  | n, m, 0, R0, qo, _, hf, _, _ => absurd hf (Nat.not_lt_zero n)
