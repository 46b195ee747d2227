/-! promise 27 -/
def hiB (t : Nat → Nat → Nat) (c r : Nat) : Bool := !anyR (fun d => decide (d ≠ c) && touB (fireL t (tW t) r c (t 11 c - 1)) (lfL t (tW t) d) (t 3 0)) 0 (t 0 0)
theorem p_hiC {F c : Nat} {t : Nat → Nat → Nat} {wc : Int32} {xs hts lit sc sm wh wl wq ohi olo : Nat → Int32} (ht : Tok t) (hO : tcO t xs hts lit sc sm) (hc : c < t 0 0) (hl : t 11 c ≠ 0) (hlo : ∀ q, q < 48 → olo q = nI (tW t 0 q)) (hhi : ∀ q, q < 48 → ohi q = nI (tW t 1 q)) (hF : 60 < F) :
    ∀ (k r fuel : Nat) (hs v : Nat → Int32), r + k = 13 → k < fuel → (∀ d, d < t 0 0 → d ≠ c → t 11 d ≠ 0 → litOk t (tW t) (t 7 d) hs v d) → ∃ hs' v', fX9_higher_L48 F (nI (t 0 0)) wc (nI (t 2 0)) (nI (t 3 0)) hts lit sc sm wh wl wq xs (nI c) fuel (nI r) hs v ohi olo = some (encW (fstR (hiB t c) r k), hs', v', ohi, olo)
  | 0, r, fuel + 1, hs, v, h, _, _ => ⟨hs, v, by rw [fX9_higher_L48, show r = 13 by omega, if_pos (show (12 : Int32) < nI 13 from nI_lt (a := 12) (b := 13) (by decide) (by decide))]; rfl⟩
  | k + 1, r, fuel + 1, hs, v, h, hf, hJ => by
    have hn := ht.1
    obtain ⟨o0, o1, o2, o3, o4⟩ := hO c hc
    obtain ⟨g0, g1, g2, g3, g4, g5, -⟩ := ht.2.2.2.2.2.2.1 c hc
    obtain ⟨q, hq⟩ : ∃ q, t 11 c = q + 1 := ⟨t 11 c - 1, by omega⟩
    obtain ⟨v1, e1, e2, e3⟩ := p_layRaised (F := F) (r := r) (hs := hs) (v := v) ht hc hq (by omega) o0 o1 o2 o3 (tW_le ht) hlo hhi (by omega)
    have hJ1 : ∀ d, d < t 0 0 → d ≠ c → t 11 d ≠ 0 → litOk t (tW t) (t 7 d) (upd hs c (nI (t 7 c + r))) v1 d := fun d hd hne hld => by
      obtain ⟨w1, w2⟩ := hJ d hd hne hld
      obtain ⟨-, -, b2, b3, b4, b5, -⟩ := ht.2.2.2.2.2.2.1 d hd
      refine ⟨by rw [pk_un hne]; exact w1, fun b hb1 hb2 a ha => ?_⟩
      rw [e3 _ (by omega)]
      exact w2 b hb1 hb2 a ha
    have H : liOk t (tW t) (fun d => t 7 d + (if d = c then r else 0)) (upd hs c (nI (t 7 c + r))) v1 lit sc sm := fun d hd => by
      obtain ⟨-, -, p2, p3, p4⟩ := hO d hd
      have hh := (ht.2.2.2.2.2.2.1 d hd).2.1
      refine ⟨fun hld => ?_, p3, p2, p4⟩
      by_cases e : d = c
      · subst e
        simp only [if_true]
        exact ⟨⟨pk_us, fun b h1 h2 => e2 b (by omega) (by omega)⟩, by omega⟩
      · simp only [if_neg e, Nat.add_zero]
        exact ⟨hJ1 d hd e hld, by omega⟩
    have ts : fX4_touchesSome F (upd hs c (nI (t 7 c + r))) (nI (t 0 0)) (nI (t 3 0)) v1 lit sc sm (nI c) = some (bI (!hiB t c r)) := by
      have h1 := p_touchesSome_L (F := F) (up := fun d => if d = c then r else 0) ht H (fun d => by show (if d = c then r else 0) ≤ 12; split <;> omega) hc hl hF (t 0 0) 0 F (by omega) (by omega)
      refine h1.trans ?_
      unfold hiB
      rw [Bool.not_not]
      congr 2
      refine anyR_congr _ _ (fun d _ hd => ?_)
      by_cases e : d = c
      · simp [e]
      · have hde : decide (d ≠ c) = true := by simp [e]
        rw [hde, Bool.true_and, Bool.true_and, if_pos rfl, if_neg e]
        by_cases hld : t 11 d = 0
        · rw [lfL_un hld, touB_nil]; simp [hld]
        · rw [lfL_lit hld]; simp [hld]
    rw [fX9_higher_L48, if_neg (show ¬ (12 : Int32) < nI r from nI_nlt (a := 12) (b := r) (by omega) (by decide)), e1, ob_s]
    show ∃ hs' v', ob (fX4_touchesSome F (upd hs c (nI (t 7 c + r))) (nI (t 0 0)) (nI (t 3 0)) v1 lit sc sm (nI c)) _ = _
    rw [ts, ob_s, fstR_s]
    cases hb : hiB t c r with
    | true => exact ⟨_, _, rfl⟩
    | false =>
      obtain ⟨hs', v', i1⟩ := p_hiC (F := F) (wc := wc) (wh := wh) (wl := wl) (wq := wq) ht hO hc hl hlo hhi hF k (r + 1) fuel _ v1 (by omega) (by omega) hJ1
      refine ⟨hs', v', ?_⟩
      show (if (1 : Int32) = 0 then _ else _) = _
      rw [if_neg one0, ol_s, nI_1]
      exact i1
  | k, r, 0, hs, v, _, hf, _ => absurd hf (Nat.not_lt_zero k)
theorem p_hiM {F c : Nat} {t : Nat → Nat → Nat} {all his los : Nat → Int32} {thr : Int32} (ht : Tok t) (hM : tM t all 0) (hc : c < t 0 0) (hl : t 11 c ≠ 0) (hlo : ∀ q, q < 48 → los q = nI (tW t 0 q)) (hhi : ∀ q, q < 48 → his q = nI (tW t 1 q)) (hF : 60 < F) :
    ∀ (k r fuel : Nat) (pm pf : Nat → Int32), r + k = 13 → k < fuel → (∀ d, d < t 0 0 → frow pm pf d (lfL t (tW t) d)) → ∃ pm' pf', fX10_higher_L34 F all (nI c) fuel (nI r) thr his los pm pf = some (encW (fstR (hiB t c) r k), thr, his, los, pm', pf')
  | 0, r, fuel + 1, pm, pf, h, _, _ => ⟨pm, pf, by rw [fX10_higher_L34, show r = 13 by omega, if_pos (show (12 : Int32) < nI 13 from nI_lt (a := 12) (b := 13) (by decide) (by decide))]; rfl⟩
  | k + 1, r, fuel + 1, pm, pf, h, hf, hR => by
    have hn := ht.1
    have hth := ht.thick
    have hlt := ht.lit hc
    have m5 := (hM.2.1 c hc).2.2.2.2.2.1
    rw [Nat.zero_add] at m5
    obtain ⟨q, hq⟩ : ∃ q, t 11 c = q + 1 := ⟨t 11 c - 1, by omega⟩
    have e3 : all (3 : Int32).toNatClampNeg = nI (t 3 0) := hM.1 3 (by decide)
    obtain ⟨pm1, pf1, e1, e2, e4, e5⟩ := p_laysFire (F := F) (r := 130) (c := c) (lit := q) (up := r) (pm := pm) (pf := pf) ht hM hc (by omega) (by omega) (tW_le ht) hlo hhi (by omega) (by omega)
    have hR1 : ∀ d, d < t 0 0 → frow pm1 pf1 d (lfL t (tW t) d) := fun d hd => frow_keep (r := 130) (lfL_len ht hd) (by omega) (hR d hd) e4 e5
    have e1' : fX10_laysFire F all his los pm pf 130 (nI c) (nI q) (nI r) = some (pm1, pf1) := e1
    have tl := p_touchesLit (F := F) (r := 130) (b := c) (th := t 3 0) ht hM hR1 (by omega) e2 (fireL_bd ht hc (by omega) (by omega)) (by omega) (by omega) hF
    have tl' : fX10_touchesLit F all pm1 pf1 130 (nI c) (nI (t 3 0)) = some (bI (!hiB t c r)) := by
      refine (show fX10_touchesLit F all pm1 pf1 130 (nI c) (nI (t 3 0)) = _ from tl).trans ?_
      unfold hiB
      rw [Bool.not_not, hq, Nat.add_sub_cancel]
    rw [fX10_higher_L34, if_neg (show ¬ (12 : Int32) < nI r from nI_nlt (a := 12) (b := r) (by omega) (by decide)), p_litAt (by omega), ob_s, m5, hq, nI_pred, e1', ob_s, e3]
    show ∃ pm' pf', ob (fX10_touchesLit F all pm1 pf1 130 (nI c) (nI (t 3 0))) _ = _
    rw [tl', ob_s, fstR_s]
    cases hb : hiB t c r with
    | true => exact ⟨_, _, rfl⟩
    | false =>
      obtain ⟨pm', pf', i1⟩ := p_hiM (F := F) (thr := thr) ht hM hc hl hlo hhi hF k (r + 1) fuel pm1 pf1 (by omega) (by omega) hR1
      refine ⟨pm', pf', ?_⟩
      show (if (1 : Int32) = 0 then _ else _) = _
      rw [if_neg one0, ol_s, nI_1]
      exact i1
  | k, r, 0, pm, pf, _, hf, _ => absurd hf (Nat.not_lt_zero k)
theorem s_higher {F : Nat} {t : Nat → Nat → Nat} {ch wc la th fi li : Int32} {xs hts fs ts sc sm lit wq wl wh hs v ohi olo all his los pm pf : Nat → Int32} {thr : Int32} (a1 : Int32) (ht : Tok t) (hC : tC t ch wc la th fi li xs hts fs ts sc sm lit wq wl wh) (hM : tM t all 0) (hF : 60 < F) :
    ∃ r hs' v' ohi' olo' his' los' pm' pf', fX9_higher F (nI (t 0 0)) (nI (t 1 0)) (nI (t 2 0)) (nI (t 3 0)) hts lit sc sm wh wl wq xs hs v ohi olo a1 = some (r, hs', v', ohi', olo') ∧ fX10_higher F thr all his los pm pf a1 = some (r, 0, his', los', pm', pf') := by
  have hn := ht.1
  have hO := tcO_of hC
  unfold fX9_higher fX10_higher
  rw [p_isChimney (hM.1 0 (by decide)) hn, ob_s]
  cases h1 : vb a1 (t 0 0) with
  | false => exact ⟨-2, hs, v, ohi, olo, his, los, pm, pf, by rw [p_hasN (by omega) h1, ob_s, if_pos rfl], by rw [bI_0 rfl, if_pos rfl]⟩
  | true =>
    obtain ⟨c, hc, rfl⟩ := vb_of (by omega) h1
    have hlt := ht.lit hc
    have m5 := (hM.2.1 c hc).2.2.2.2.2.1
    rw [Nat.zero_add] at m5
    rw [p_has hc (by omega), ob_s, if_neg one0, p_isLit hc hn, ob_s, (hO c hc).2.2.2.1, bI_1 rfl, if_neg one0, p_mLit (by omega), ob_s, m5]
    by_cases hl : t 11 c = 0
    · exact ⟨-5, hs, v, ohi, olo, his, los, pm, pf, by rw [if_pos ((litC_iff hlt).mpr hl), if_pos rfl], by rw [if_pos ((litM_iff hlt).mpr hl), if_pos rfl]⟩
    · rw [if_neg (fun z => hl ((litC_iff hlt).mp z)), if_neg one0, if_neg (fun z => hl ((litM_iff hlt).mp z)), if_neg one0]
      have h0 : ∀ q, q < 48 → wT olo t 0 0 q = nI (tW t 0 q) := fun q hq => wT_in hq
      have h1 : ∀ q, q < 48 → wT ohi t 1 0 q = nI (tW t 1 q) := fun q hq => wT_in hq
      obtain ⟨hs1, v1, e1, e2⟩ := p_oth (F := F) (Wd := tW t) (hs := hs) (v := v) ht hO (tW_le ht) h0 h1 (by omega)
      obtain ⟨his', los', pm1, pf1, f1, f2, f3, f4⟩ := p_laysNow (F := F) (his := his) (los := los) (pm := pm) (pf := pf) ht hM (by omega)
      obtain ⟨hs', v', g1⟩ := p_hiC (F := F) (wc := nI (t 1 0)) (wh := wh) (wl := wl) (wq := wq) ht hO hc hl h0 h1 hF 13 0 F hs1 v1 (by omega) (by omega) (fun d hd _ hld => ((e2 d hd).1 hld).1)
      obtain ⟨pm', pf', g2⟩ := p_hiM (F := F) (thr := 0) ht hM hc hl f2 f3 hF 13 0 F pm1 pf1 (by omega) (by omega) f4
      refine ⟨encW (fstR (hiB t c) 0 13), hs', v', wT ohi t 1 0, wT olo t 0 0, his', los', pm', pf', ?_, ?_⟩
      · rw [p_followTold ht hC.2.2.2.2.2.2.2 (by omega), ob_s]
        show ob (fX4_layLit F hs (nI (t 0 0)) (nI (t 2 0)) v hts lit sc xs (wT ohi t 1 0) (wT olo t 0 0)) _ = _
        rw [e1, ob_s]
        exact g1
      · rw [f1, ob_s]
        exact g2
