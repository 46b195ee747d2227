def apP (t : Nat → Nat → Nat) (Wd : Nat → Nat → Nat) (c a d b : Nat) : Prop := freeP t Wd c a ∧ freeP t Wd d b ∧ ¬ ∃ q, tch t Wd (t 7 c) c a (t 7 d) d b (t 3 0) q
def apOk (t : Nat → Nat → Nat) (Wd : Nat → Nat → Nat) (ap : Nat → Int32) (x y : Nat) : Prop := ¬ ap (120 * x + y) = 0 ↔ (x / 24 ≠ y / 24 ∧ apP t Wd (uW t (x / 24)) (x % 24) (uW t (y / 24)) (y % 24))
theorem p_lf227 {F x y U : Nat} {s0 : Int32} {all ap few fo his los pm pf : Nat → Int32} {k124 : Int32 → Int32 → (Nat → Int32) → (Nat → Int32) → (Nat → Int32) → (Nat → Int32) → (Nat → Int32) → (Nat → Int32) → (Nat → Int32) → Option (Int32 × Int32 × (Nat → Int32) × (Nat → Int32) × (Nat → Int32) × (Nat → Int32) × (Nat → Int32) × (Nat → Int32) × (Nat → Int32))} {k137 : Int32 → Int32 → Int32 → (Nat → Int32) → (Nat → Int32) → (Nat → Int32) → (Nat → Int32) → (Nat → Int32) → (Nat → Int32) → (Nat → Int32) → Option (Int32 × Int32 × (Nat → Int32) × (Nat → Int32) × (Nat → Int32) × (Nat → Int32) × (Nat → Int32) × (Nat → Int32) × (Nat → Int32))} (hx : x < 120) (hy : y < x) : fX10_laysFew_L227 F all k124 k137 (nI x) (nI y) s0 ((120 : Int32) * nI x + nI y) (nI U) ap few fo his los pm pf = k137 (nI x) (nI (y + 1)) (nI U) (upd ap (120 * x + y) (vp_nar .boolean s0)) few fo his los pm pf := by
  have e : (120 : Int32) * nI x + nI y = nI (120 * x + y) := by
    rw [show (120 : Int32) = nI 120 from rfl, pk_mul, nI_add]
  unfold fX10_laysFew_L227
  rw [e, vb_nI (by omega) (by decide), og_s, ol_s, ol_s, nI_1, nI_clamp (by omega)]
theorem p_lf137 {F U x : Nat} {t : Nat → Nat → Nat} {Wd : Nat → Nat → Nat} {all few fo his los pm pf : Nat → Int32} {k124 : Int32 → Int32 → (Nat → Int32) → (Nat → Int32) → (Nat → Int32) → (Nat → Int32) → (Nat → Int32) → (Nat → Int32) → (Nat → Int32) → Option (Int32 × Int32 × (Nat → Int32) × (Nat → Int32) × (Nat → Int32) × (Nat → Int32) × (Nat → Int32) × (Nat → Int32) × (Nat → Int32))} (ht : Tok t) (hM : tM t all 0) (hU : U = uN t) (hU5 : U ≤ 5) (hfo : ∀ k, k < U → bsI (fo k) (freeP t Wd (uW t k))) (hR : fewR t Wd pm pf U) (hx : x < 24 * U) (hF : 60 < F) :
    ∀ (n j fuel : Nat) (ap : Nat → Int32), j + n = x → n < fuel → ∃ ap' : Nat → Int32, fX10_laysFew_L137 F all k124 fuel (nI x) (nI j) (nI U) ap few fo his los pm pf = k124 (nI (x + 1)) (nI U) ap' few fo his los pm pf ∧ (∀ y, j ≤ y → y < x → apOk t Wd ap' x y) ∧ ∀ p, (∀ y, j ≤ y → y < x → p ≠ 120 * x + y) → ap' p = ap p
  | 0, j, fuel + 1, ap, h, _ => by
    refine ⟨ap, ?_, fun y a1 a2 => by omega, fun _ _ => rfl⟩
    rw [fX10_laysFew_L137, if_pos (nI_le (by omega) (by omega)), ol_s, nI_1]
  | n + 1, j, fuel + 1, ap, h, hf => by
    have hn := ht.1
    have hth := ht.thick
    have e3 : all (3 : Int32).toNatClampNeg = nI (t 3 0) := hM.1 3 (by decide)
    have hk : x / 24 < U := by omega
    have hl : j / 24 < U := by omega
    have dx : nI x / (24 : Int32) = nI (x / 24) := pk_div (a := x) (d := 24) (by omega) (by decide) (by decide)
    have dj : nI j / (24 : Int32) = nI (j / 24) := pk_div (a := j) (d := 24) (by omega) (by decide) (by decide)
    have rx : nI x - nI x / (24 : Int32) * (24 : Int32) = nI (x % 24) := pk_rem (a := x) (d := 24) (by omega) (by decide) (by decide)
    have rj : nI j - nI j / (24 : Int32) * (24 : Int32) = nI (j % 24) := pk_rem (a := j) (d := 24) (by omega) (by decide) (by decide)
    have IH := fun ap0 => p_lf137 (F := F) (few := few) (his := his) (los := los) (k124 := k124) ht hM hU hU5 hfo hR hx hF n (j + 1) fuel ap0 (by omega) (by omega)
    have fin : ∀ (s0 : Int32) (E : Option (Int32 × Int32 × (Nat → Int32) × (Nat → Int32) × (Nat → Int32) × (Nat → Int32) × (Nat → Int32) × (Nat → Int32) × (Nat → Int32))), E = fX10_laysFew_L137 F all k124 fuel (nI x) (nI (j + 1)) (nI U) (upd ap (120 * x + j) (vp_nar .boolean s0)) few fo his los pm pf → (¬ vp_nar .boolean s0 = 0 ↔ (x / 24 ≠ j / 24 ∧ apP t Wd (uW t (x / 24)) (x % 24) (uW t (j / 24)) (j % 24))) → ∃ ap' : Nat → Int32, E = k124 (nI (x + 1)) (nI U) ap' few fo his los pm pf ∧ (∀ y, j ≤ y → y < x → apOk t Wd ap' x y) ∧ ∀ p, (∀ y, j ≤ y → y < x → p ≠ 120 * x + y) → ap' p = ap p := by
      intro s0 E hE hs
      obtain ⟨ap', f1, f2, f3⟩ := IH (upd ap (120 * x + j) (vp_nar .boolean s0))
      refine ⟨ap', hE.trans f1, fun y a1 a2 => ?_, fun p hp => ?_⟩
      · by_cases e : y = j
        · subst e
          unfold apOk
          rw [f3 _ (fun y' b1 b2 => by omega), pk_us]
          exact hs
        · exact f2 y (by omega) a2
      · rw [f3 p (fun y b1 b2 => hp y (by omega) b2), pk_un (hp j (Nat.le_refl _) (by omega))]
    have hk' : x / 24 < uN t := by omega
    have hl' : j / 24 < uN t := by omega
    rw [fX10_laysFew_L137, if_neg (nI_ge (by omega) (by omega)), dx, dj]
    unfold fX10_laysFew_L226
    by_cases hsame : x / 24 = j / 24
    · rw [if_pos (by rw [hsame]), p_lf227 (by omega) (by omega)]
      exact fin 0 _ rfl ⟨fun z => absurd rfl z, fun z => absurd hsame z.1⟩
    · rw [dx] at rx
      rw [dj] at rj
      rw [if_neg (nI_ne (by omega) (by omega) hsame), vb_nI (show x / 24 < 5 by omega) (by decide), og_s, rx, p_isIn (by omega), ob_s, nI_clamp (by omega)]
      have fx := bsI_b (hfo _ hk) (j := x % 24) (by omega)
      have fj := bsI_b (hfo _ hl) (j := j % 24) (by omega)
      cases hb : bt (fo (x / 24)) (x % 24) with
      | false =>
        rw [bI_0 rfl, if_pos rfl, p_lf227 (by omega) (by omega)]
        exact fin 0 _ rfl ⟨fun z => absurd rfl z, fun z => by rw [fx.mpr z.2.1] at hb; cases hb⟩
      | true =>
        rw [bI_1 rfl, if_neg one0, vb_nI (show j / 24 < 5 by omega) (by decide), og_s, rj, p_isIn (by omega), ob_s, nI_clamp (by omega)]
        cases hb2 : bt (fo (j / 24)) (j % 24) with
        | false =>
          rw [bI_0 rfl, if_pos rfl, p_lf227 (by omega) (by omega)]
          exact fin 0 _ rfl ⟨fun z => absurd rfl z, fun z => by rw [fj.mpr z.2.2.1] at hb2; cases hb2⟩
        | true =>
          have r1 := hR.2 (x / 24) hk (x % 24) (by omega)
          have r2 := hR.2 (j / 24) hl (j % 24) (by omega)
          rw [show 10 + 24 * (x / 24) + x % 24 = 10 + x by omega] at r1
          rw [show 10 + 24 * (j / 24) + j % 24 = 10 + j by omega] at r2
          have ti := touB_iff (Wd := Wd) (up := 0) (up' := 0) (lc := x % 24) (ld := j % 24) ht (uW_at hk').1 (uW_at hl').1 (by omega) (by omega) hth.1
          have at' := p_areTouching (F := F) (th := t 3 0) (show 10 + x < 132 by omega) (show 10 + j < 132 by omega) r1 r2 (fireL_bd ht (uW_at hk').1 (by omega) (by omega)) (fireL_bd ht (uW_at hl').1 (by omega) (by omega)) (by omega) (by omega)
          have ex : (10 : Int32) + nI x = nI (10 + x) := nI_add 10 x
          have ej : (10 : Int32) + nI j = nI (10 + j) := nI_add 10 j
          rw [bI_1 rfl, if_neg one0, ex, ej, e3, at', ob_s]
          cases hb3 : touB (fireL t Wd 0 (uW t (x / 24)) (x % 24)) (fireL t Wd 0 (uW t (j / 24)) (j % 24)) (t 3 0) with
          | false =>
            rw [bI_0 rfl, if_pos rfl, p_lf227 (by omega) (by omega)]
            refine fin 1 _ rfl ⟨fun _ => ⟨hsame, fx.mp hb, fj.mp hb2, fun z => ?_⟩, fun _ z => absurd z (by decide)⟩
            rw [ti.mpr z] at hb3; cases hb3
          | true =>
            rw [bI_1 rfl, if_neg one0, p_lf227 (by omega) (by omega)]
            exact fin 0 _ rfl ⟨fun z => absurd rfl z, fun z => absurd (ti.mp hb3) z.2.2.2⟩
  | n, j, 0, ap, _, hf => absurd hf (Nat.not_lt_zero n)
