theorem sw43 (x : Int32) : (x.toInt < 0 ∨ (42 : Int) < x.toInt) ∨ ∃ k : Nat, k < 43 ∧ x = nI k := by
  by_cases h : x.toInt < 0 ∨ (42 : Int) < x.toInt
  · exact Or.inl h
  · right
    have e0 : (0 : Int32).toInt = 0 := rfl
    have h0 : ¬ x < 0 := fun z => h (Or.inl (by rw [Int32.lt_iff_toInt_lt, e0] at z; exact z))
    obtain ⟨k, hk, rfl⟩ := nI_of h0
    rw [nI_toInt (by omega)] at h
    exact ⟨k, by omega, rfl⟩
theorem law_cmp {i L : Nat} (hi : i ≤ L) (hL : L ≤ 3072) (c : ¬ Int32.ofNat L - 6 < nI i) : i + 6 ≤ L := by
  have e := pk_sub_toInt (a := L) (b := 6) (by omega) (by omega)
  have e2 := nI_toInt (n := i) (by omega)
  have c' : ¬ nI L - nI 6 < nI i := c
  rw [Int32.lt_iff_toInt_lt, e, e2] at c'
  omega
theorem LV_room {s : State} {dC : Nat → ClassId} {dI : Nat → Nat → Nat} {xa ma cells slots : Nat} {H : Heap} (hV : LV s dC dI xa ma cells slots H) : cells ≤ 120 ∧ slots ≤ 40000 := by
  obtain ⟨h, q, v, a, bl, gt, rws, im, w0, w1, y0, y1, n0, n1, t, tp, hK, hK0, hK1, hP, hD, hI, hR, hrw, hi0, hi1, hcs⟩ := hV
  omega
set_option maxRecDepth 100000 in
set_option maxHeartbeats 8000000 in
theorem law_loop {p : Program} {e : Env} {s : State} {m : MethodId} {below : List Frame} {meth : Method} {c : Code} (l : Launch) {b L : Nat} {xs : Nat → Int32} {adK adV : Nat → Nat} {dC : Nat → ClassId} {dI : Nat → Nat → Nat} {F : Nat} (hF : 20000 < F) (hL : L ≤ 3072) (C0 : lw_At p s m meth c b L xs) (C1 : LC s adK adV) {xa ma : Nat} : ∀ (n i : Nat), i ≤ L → L + 1 ≤ i + n → ∀ (H : Heap) (locs : List Loc) (cells slots : Nat) (ls : Array Slot), LV s dC dI xa ma cells slots H → va_S (fun q : Nat => s.heap.size ≤ q) s.heap H locs → lv_has ls 4 [(0, .ref b), (1, .ref xa), (2, .ref ma), (3, .int (nI i))] → W p l e room_1 s m #[Value.ref b] below meth c H locs cells slots (lw_Z below #[Value.ref b] s) (F0 m 18 ls []) := by
  obtain ⟨hx, hb, hr, hml, hown, hts, hX, hbl, hlocks, hgv⟩ := id C0
  have hbA : ¬ (fun q : Nat => s.heap.size ≤ q) b := Nat.not_le.mpr hbl
  intro n
  induction n with
  | zero =>
    intro i h1 h2
    exact absurd h2 (by omega)
  | succ n ih =>
    intro i hi hin H locs cells slots ls hV hS hl
    refine lv_iload_n hx hb dL_law_18 rfl (lv_at hl 3 rfl) ?_
    refine lv_aload_n hx hb dL_law_19 rfl (lv_at hl 0 rfl) ?_
    refine va_slen hx hb hX hbl hbA hS dL_law_20 ?_
    refine lv_bipush (v := 6) hx hb dL_law_21 (by decide) ?_
    refine lv_isub hx hb dL_law_23 ?_
    refine lv_icmp_gt (tgt := 1478) hx hb dL_law_24 (by decide) (fun c1 => ?_) (fun c1 => ?_)
    · have hcs := LV_room hV
      refine lv_iconst (v := 1) hx hb dL_law_1478 (by decide) ?_
      refine va_forget (fun q hq => hS.2.2 q hq) ?_
      refine W.widen (k := 600000) (n := 7302250) (by omega) (by omega) ?_
      exact lw_ret hx hb hr hlocks dL_law_1479
    · have h6 : i + 6 ≤ L := law_cmp hi hL c1
      have hin0 : vp_in (nI i) L := vp_in_nI (by omega) (by omega)
      refine lv_aload_n hx hb dL_law_27 rfl (lv_at hl 0 rfl) ?_
      refine lv_iload_n hx hb dL_law_28 rfl (lv_at hl 3 rfl) ?_
      refine va_sld hx hb hX hbl hbA hS hin0 dL_law_29 ?_
      refine lv_bipush (v := 63) hx hb dL_law_30 (by decide) ?_
      refine lv_iand hx hb dL_law_32 ?_
      have kk : ∀ (H : Heap) (locs : List Loc) (cells slots : Nat), LV s dC dI xa ma cells slots H → va_S (fun q : Nat => s.heap.size ≤ q) s.heap H locs → W p l e room_1 s m #[Value.ref b] below meth c H locs cells slots (lw_Z below #[Value.ref b] s) (F0 m 1472 ls []) := by
        intro H locs cells slots hV hS
        refine lv_iinc (v := nI (i + 6)) (lv' := [(3, .int (nI (i + 6))), (0, .ref b), (1, .ref xa), (2, .ref ma)]) hx hb dL_law_1472 hl (k := 3) rfl (nI_add i 6) (by decide) rfl (fun ls hl => ?_)
        refine lv_goto (tgt := 18) hx hb dL_law_1475 (by decide) ?_
        exact ih (i + 6) h6 (by omega) H locs cells slots ls hV hS (lv_sub hl [1, 2, 3, 0] rfl)
      refine lv_topi (fun x ex => ?_)
      clear ex
      rcases sw43 x with h | ⟨k, hk, rfl⟩
      · refine lv_tableOut (tgt := 1472) hx hb dL_law_33 h (by decide) ?_
        exact kk H locs cells slots hV hS
      · rcases (show k = 0 ∨ k = 1 ∨ k = 2 ∨ k = 3 ∨ k = 4 ∨ k = 5 ∨ k = 6 ∨ k = 7 ∨ k = 8 ∨ k = 9 ∨ k = 10 ∨ k = 11 ∨ k = 12 ∨ k = 13 ∨ k = 14 ∨ k = 15 ∨ k = 16 ∨ k = 17 ∨ k = 18 ∨ k = 19 ∨ k = 20 ∨ k = 21 ∨ k = 22 ∨ k = 23 ∨ k = 24 ∨ k = 25 ∨ k = 26 ∨ k = 27 ∨ k = 28 ∨ k = 29 ∨ k = 30 ∨ k = 31 ∨ k = 32 ∨ k = 33 ∨ k = 34 ∨ k = 35 ∨ k = 36 ∨ k = 37 ∨ k = 38 ∨ k = 39 ∨ k = 40 ∨ k = 41 ∨ k = 42 by omega) with rfl | rfl | rfl | rfl | rfl | rfl | rfl | rfl | rfl | rfl | rfl | rfl | rfl | rfl | rfl | rfl | rfl | rfl | rfl | rfl | rfl | rfl | rfl | rfl | rfl | rfl | rfl | rfl | rfl | rfl | rfl | rfl | rfl | rfl | rfl | rfl | rfl | rfl | rfl | rfl | rfl | rfl | rfl
        · refine lv_tableIn (off := 187) (tgt := 220) hx hb dL_law_33 (by decide) (by decide) (by decide +kernel) (by decide) ?_
          exact lc_0 l hF hL C0 C1 h6 hV hS hl kk
        · refine lv_tableIn (off := 250) (tgt := 283) hx hb dL_law_33 (by decide) (by decide) (by decide +kernel) (by decide) ?_
          exact lc_1 l hF hL C0 C1 h6 hV hS hl kk
        · refine lv_tableIn (off := 273) (tgt := 306) hx hb dL_law_33 (by decide) (by decide) (by decide +kernel) (by decide) ?_
          exact lc_2 l hF hL C0 C1 h6 hV hS hl kk
        · refine lv_tableIn (off := 296) (tgt := 329) hx hb dL_law_33 (by decide) (by decide) (by decide +kernel) (by decide) ?_
          exact lc_3 l hF hL C0 C1 h6 hV hS hl kk
        · refine lv_tableIn (off := 329) (tgt := 362) hx hb dL_law_33 (by decide) (by decide) (by decide +kernel) (by decide) ?_
          exact lc_4 l hF hL C0 C1 h6 hV hS hl kk
        · refine lv_tableIn (off := 378) (tgt := 411) hx hb dL_law_33 (by decide) (by decide) (by decide +kernel) (by decide) ?_
          exact lc_5 l hF hL C0 C1 h6 hV hS hl kk
        · refine lv_tableIn (off := 411) (tgt := 444) hx hb dL_law_33 (by decide) (by decide) (by decide +kernel) (by decide) ?_
          exact lc_6 l hF hL C0 C1 h6 hV hS hl kk
        · refine lv_tableIn (off := 434) (tgt := 467) hx hb dL_law_33 (by decide) (by decide) (by decide +kernel) (by decide) ?_
          exact lc_7 l hF hL C0 C1 h6 hV hS hl kk
        · refine lv_tableIn (off := 467) (tgt := 500) hx hb dL_law_33 (by decide) (by decide) (by decide +kernel) (by decide) ?_
          exact lc_8 l hF hL C0 C1 h6 hV hS hl kk
        · refine lv_tableIn (off := 490) (tgt := 523) hx hb dL_law_33 (by decide) (by decide) (by decide +kernel) (by decide) ?_
          exact lc_9 l hF hL C0 C1 h6 hV hS hl kk
        · refine lv_tableIn (off := 533) (tgt := 566) hx hb dL_law_33 (by decide) (by decide) (by decide +kernel) (by decide) ?_
          exact lc_10 l hF hL C0 C1 h6 hV hS hl kk
        · refine lv_tableIn (off := 556) (tgt := 589) hx hb dL_law_33 (by decide) (by decide) (by decide +kernel) (by decide) ?_
          exact lc_11 l hF hL C0 C1 h6 hV hS hl kk
        · refine lv_tableIn (off := 625) (tgt := 658) hx hb dL_law_33 (by decide) (by decide) (by decide +kernel) (by decide) ?_
          exact lc_12 l hF hL C0 C1 h6 hV hS hl kk
        · refine lv_tableIn (off := 658) (tgt := 691) hx hb dL_law_33 (by decide) (by decide) (by decide +kernel) (by decide) ?_
          exact lc_13 l hF hL C0 C1 h6 hV hS hl kk
        · refine lv_tableIn (off := 691) (tgt := 724) hx hb dL_law_33 (by decide) (by decide) (by decide +kernel) (by decide) ?_
          exact lc_14 l hF hL C0 C1 h6 hV hS hl kk
        · refine lv_tableIn (off := 714) (tgt := 747) hx hb dL_law_33 (by decide) (by decide) (by decide +kernel) (by decide) ?_
          exact lc_15 l hF hL C0 C1 h6 hV hS hl kk
        · refine lv_tableIn (off := 737) (tgt := 770) hx hb dL_law_33 (by decide) (by decide) (by decide +kernel) (by decide) ?_
          exact lc_16 l hF hL C0 C1 h6 hV hS hl kk
        · refine lv_tableIn (off := 760) (tgt := 793) hx hb dL_law_33 (by decide) (by decide) (by decide +kernel) (by decide) ?_
          exact lc_17 l hF hL C0 C1 h6 hV hS hl kk
        · refine lv_tableIn (off := 773) (tgt := 806) hx hb dL_law_33 (by decide) (by decide) (by decide +kernel) (by decide) ?_
          exact lc_18 l hF hL C0 C1 h6 hV hS hl kk
        · refine lv_tableIn (off := 796) (tgt := 829) hx hb dL_law_33 (by decide) (by decide) (by decide +kernel) (by decide) ?_
          exact lc_19 l hF hL C0 C1 h6 hV hS hl kk
        · refine lv_tableIn (off := 819) (tgt := 852) hx hb dL_law_33 (by decide) (by decide) (by decide +kernel) (by decide) ?_
          exact lc_20 l hF hL C0 C1 h6 hV hS hl kk
        · refine lv_tableIn (off := 832) (tgt := 865) hx hb dL_law_33 (by decide) (by decide) (by decide +kernel) (by decide) ?_
          exact lc_21 l hF hL C0 C1 h6 hV hS hl kk
        · refine lv_tableIn (off := 845) (tgt := 878) hx hb dL_law_33 (by decide) (by decide) (by decide +kernel) (by decide) ?_
          exact lc_22 l hF hL C0 C1 h6 hV hS hl kk
        · refine lv_tableIn (off := 878) (tgt := 911) hx hb dL_law_33 (by decide) (by decide) (by decide +kernel) (by decide) ?_
          exact lc_23 l hF hL C0 C1 h6 hV hS hl kk
        · refine lv_tableIn (off := 911) (tgt := 944) hx hb dL_law_33 (by decide) (by decide) (by decide +kernel) (by decide) ?_
          exact lc_24 l hF hL C0 C1 h6 hV hS hl kk
        · refine lv_tableIn (off := 934) (tgt := 967) hx hb dL_law_33 (by decide) (by decide) (by decide +kernel) (by decide) ?_
          exact lc_25 l hF hL C0 C1 h6 hV hS hl kk
        · refine lv_tableIn (off := 957) (tgt := 990) hx hb dL_law_33 (by decide) (by decide) (by decide +kernel) (by decide) ?_
          exact lc_26 l hF hL C0 C1 h6 hV hS hl kk
        · refine lv_tableIn (off := 970) (tgt := 1003) hx hb dL_law_33 (by decide) (by decide) (by decide +kernel) (by decide) ?_
          exact lc_27 l hF hL C0 C1 h6 hV hS hl kk
        · refine lv_tableIn (off := 993) (tgt := 1026) hx hb dL_law_33 (by decide) (by decide) (by decide +kernel) (by decide) ?_
          exact lc_28 l hF hL C0 C1 h6 hV hS hl kk
        · refine lv_tableIn (off := 1036) (tgt := 1069) hx hb dL_law_33 (by decide) (by decide) (by decide +kernel) (by decide) ?_
          exact lc_29 l hF hL C0 C1 h6 hV hS hl kk
        · refine lv_tableIn (off := 1059) (tgt := 1092) hx hb dL_law_33 (by decide) (by decide) (by decide +kernel) (by decide) ?_
          exact lc_30 l hF hL C0 C1 h6 hV hS hl kk
        · refine lv_tableIn (off := 1082) (tgt := 1115) hx hb dL_law_33 (by decide) (by decide) (by decide +kernel) (by decide) ?_
          exact lc_31 l hF hL C0 C1 h6 hV hS hl kk
        · refine lv_tableIn (off := 1105) (tgt := 1138) hx hb dL_law_33 (by decide) (by decide) (by decide +kernel) (by decide) ?_
          exact lc_32 l hF hL C0 C1 h6 hV hS hl kk
        · refine lv_tableIn (off := 1128) (tgt := 1161) hx hb dL_law_33 (by decide) (by decide) (by decide +kernel) (by decide) ?_
          exact lc_33 l hF hL C0 C1 h6 hV hS hl kk
        · refine lv_tableIn (off := 1161) (tgt := 1194) hx hb dL_law_33 (by decide) (by decide) (by decide +kernel) (by decide) ?_
          exact lc_34 l hF hL C0 C1 h6 hV hS hl kk
        · refine lv_tableIn (off := 1184) (tgt := 1217) hx hb dL_law_33 (by decide) (by decide) (by decide +kernel) (by decide) ?_
          exact lc_35 l hF hL C0 C1 h6 hV hS hl kk
        · refine lv_tableIn (off := 1217) (tgt := 1250) hx hb dL_law_33 (by decide) (by decide) (by decide +kernel) (by decide) ?_
          exact lc_36 l hF hL C0 C1 h6 hV hS hl kk
        · refine lv_tableIn (off := 1230) (tgt := 1263) hx hb dL_law_33 (by decide) (by decide) (by decide +kernel) (by decide) ?_
          exact lc_37 l hF hL C0 C1 h6 hV hS hl kk
        · refine lv_tableIn (off := 1273) (tgt := 1306) hx hb dL_law_33 (by decide) (by decide) (by decide +kernel) (by decide) ?_
          exact lc_38 l hF hL C0 C1 h6 hV hS hl kk
        · refine lv_tableIn (off := 1347) (tgt := 1380) hx hb dL_law_33 (by decide) (by decide) (by decide +kernel) (by decide) ?_
          exact lc_39 l hF hL C0 C1 h6 hV hS hl kk
        · refine lv_tableIn (off := 1370) (tgt := 1403) hx hb dL_law_33 (by decide) (by decide) (by decide +kernel) (by decide) ?_
          exact lc_40 l hF hL C0 C1 h6 hV hS hl kk
        · refine lv_tableIn (off := 1393) (tgt := 1426) hx hb dL_law_33 (by decide) (by decide) (by decide +kernel) (by decide) ?_
          exact lc_41 l hF hL C0 C1 h6 hV hS hl kk
        · refine lv_tableIn (off := 1416) (tgt := 1449) hx hb dL_law_33 (by decide) (by decide) (by decide +kernel) (by decide) ?_
          exact lc_42 l hF hL C0 C1 h6 hV hS hl kk
