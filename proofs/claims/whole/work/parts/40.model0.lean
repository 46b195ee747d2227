def fX10_within (F : Nat)  (a0 : Int64) (a2 : Int64) (a4 : Int64) : Option (Int32) := if (lg_cmp a0 a2) < 0 then (some (0 : Int32)) else (if 0 < (lg_cmp a0 a4) then (some (0 : Int32)) else (some (1 : Int32)))
set_option maxRecDepth 100000 in
set_option maxHeartbeats 4000000 in
theorem ctX10_within (l : Launch) (dC : Nat → ClassId) (dI : Nat → Nat → Nat) (F sz : Nat)  (a0 : Int64) (a2 : Int64) (a4 : Int64) (out : Int32) (hf : fX10_within F a0 a2 a4 = some out) : cM l yX10_within cX10_within 6 (some .boolean) ({ frames := 0, cells := 0, slots := 0, locals := 0 } : Room) (dC, dI) [] [] [.long a0, .long a2, .long a4] sz (some (.int out)) [] := by
  refine cM_I RX10 ⟨by decide, rfl⟩ (Nat.le_of_ble_eq_true rfl) ?_
  intro p e s m below meth c A Q ls hx hb hml hown hts hK hN hA hP hD hS hl hRet
  have htb : ∀ w ∈ lw_g, w.before ([.long a0, .long a2, .long a4] : List Value).toArray s = true := fun w h => hts w (List.mem_cons_of_mem _ h)
  have hl : lv_has ls 6 [(0, .long a0), (2, .long a2), (4, .long a4)] := hl
  suffices K0 : ∀ (H : Heap) (locs : List Loc), va_P (dC, dI) vwCl [] H → va_D A [] → va_S A s.heap H locs → W p l e ({ frames := 0, cells := 0, slots := 0, locals := 0 } : Room) s m ([.long a0, .long a2, .long a4] : List Value).toArray below meth c H locs 0 0 Q (F0 m 0 ls []) from K0 s.heap [] hP hD hS
  clear hP hD hS
  intro H locs hP hD hS
  unfold fX10_within at hf
  refine lv_lload_n hx hb dX10_within_0 rfl (lv_at hl 0 rfl) ?_
  refine lv_lload_n hx hb dX10_within_1 rfl (lv_at hl 1 rfl) ?_
  refine W.lcmp hx hb dX10_within_2 ?_
  refine lv_if_lt (tgt := 17) hx hb dX10_within_3 (by decide) (fun c_1 => ?_) (fun c_1 => ?_)
  · have hf := oi_t hf c_1
    refine lv_iconst (v := 0) hx hb dX10_within_17 (by decide) ?_
    obtain rfl := Option.some.inj hf
    exact hRet H locs ls 18 hP hD hS nar0 dX10_within_18
  · have hf := oi_f hf c_1
    refine lv_lload_n hx hb dX10_within_6 rfl (lv_at hl 0 rfl) ?_
    refine lv_lload hx hb dX10_within_7 (lv_at hl 2 rfl) ?_
    refine W.lcmp hx hb dX10_within_9 ?_
    refine lv_if_gt (tgt := 17) hx hb dX10_within_10 (by decide) (fun c_2 => ?_) (fun c_2 => ?_)
    · have hf := oi_t hf c_2
      refine lv_iconst (v := 0) hx hb dX10_within_17 (by decide) ?_
      obtain rfl := Option.some.inj hf
      exact hRet H locs ls 18 hP hD hS nar0 dX10_within_18
    · have hf := oi_f hf c_2
      refine lv_iconst (v := 1) hx hb dX10_within_13 (by decide) ?_
      refine lv_goto (tgt := 18) hx hb dX10_within_14 (by decide) ?_
      obtain rfl := Option.some.inj hf
      exact hRet H locs ls 18 hP hD hS nar1 dX10_within_18
def fX10_plain_L2 (F : Nat) (n_p0 : Nat) : Nat → Int32 → (Nat → Int32) → Option ((Nat → Int32))
  | 0, _, _ => none
  | n + 1, x1, v_p0 => if (162 : Int32) ≤ x1 then (og (vb (2 : Int32) n_p0) (ol (upd v_p0 (2 : Int32).toNatClampNeg (6 : Int32)) (fun v_p0_3 => og (vb (3 : Int32) n_p0) (ol (upd v_p0_3 (3 : Int32).toNatClampNeg (2 : Int32)) (fun v_p0_5 => og (vb (4 : Int32) n_p0) (ol (upd v_p0_5 (4 : Int32).toNatClampNeg (5 : Int32)) (fun v_p0_7 => some v_p0_7))))))) else (og (vb x1 n_p0) (ol (upd v_p0 x1.toNatClampNeg (0 : Int32)) (fun v_p0_9 => ol (x1 + 1) (fun x1_10 => fX10_plain_L2 F n_p0 n x1_10 v_p0_9))))
def fX10_plain (F : Nat) (n_p0 : Nat) (v_p0 : Nat → Int32)  : Option ((Nat → Int32)) := fX10_plain_L2 F n_p0 F (0 : Int32) v_p0
set_option maxRecDepth 100000 in
set_option maxHeartbeats 4000000 in
theorem ctX10_plain (l : Launch) (dC : Nat → ClassId) (dI : Nat → Nat → Nat) (F sz : Nat) (h0 : Nat) (q0 : ClassId) (n_p0 : Nat) (v_p0 : Nat → Int32)  (out : (Nat → Int32)) (hf : fX10_plain F n_p0 v_p0 = some out) : cM l yX10_plain cX10_plain 2 none ({ frames := 0, cells := 0, slots := 0, locals := 0 } : Room) (dC, dI) [(q0, .int)] [(h0, .inl (q0, n_p0, .inl v_p0))] [.ref h0] sz none [(h0, .inl (q0, n_p0, .inl out))] := by
  refine cM_V RX10 ⟨by decide, rfl⟩ (Nat.le_of_ble_eq_true rfl) ?_
  intro p e s m below meth c A Q ls hx hb hml hown hts hK hN hA hP hD hS hl hRet
  have htb : ∀ w ∈ lw_g, w.before ([.ref h0] : List Value).toArray s = true := fun w h => hts w (List.mem_cons_of_mem _ h)
  have hl : lv_has ls 2 [(0, .ref h0)] := hl
  have L2 : ∀ (n : Nat), ∀ (H : Heap) (locs : List Loc) (ls : Array Slot) (x1 : Int32) (v_p0 : Nat → Int32), va_P (dC, dI) vwCl [(h0, .inl (q0, n_p0, .inl v_p0))] H → va_D A [(h0, .inl (q0, n_p0, .inl v_p0))] → va_S A s.heap H locs → lv_has ls 2 [(0, .ref h0), (1, .int x1)] → fX10_plain_L2 F n_p0 n x1 v_p0 = some out → W p l e ({ frames := 0, cells := 0, slots := 0, locals := 0 } : Room) s m ([.ref h0] : List Value).toArray below meth c H locs 0 0 Q (F0 m 2 ls []) := by
    intro n
    induction n with
    | zero =>
      intro H locs ls x1 v_p0 hP hD hS hl hf
      cases hf
    | succ n ih =>
      intro H locs ls x1 v_p0 hP hD hS hl hf
      rw [fX10_plain_L2] at hf
      refine lv_iload_n hx hb dX10_plain_2 rfl (lv_at hl 1 rfl) ?_
      refine lv_sipush (v := 162) hx hb dX10_plain_3 (by decide) ?_
      refine lv_icmp_ge (tgt := 19) hx hb dX10_plain_6 (by decide) (fun c_1 => ?_) (fun c_1 => ?_)
      · have hf := oi_t hf c_1
        refine lv_aload_n hx hb dX10_plain_19 rfl (lv_at hl 0 rfl) ?_
        refine lv_iconst (v := 2) hx hb dX10_plain_20 (by decide) ?_
        refine lv_bipush (v := 6) hx hb dX10_plain_21 (by decide) ?_
        obtain ⟨b_2, hf⟩ := og_some hf
        refine va_iast hx hb hK hP hD hS 0 0 rfl rfl (vb_ok b_2) dX10_plain_23 (fun H locs hP hD hS => ?_)
        generalize ev_p0_3 : upd v_p0 (2 : Int32).toNatClampNeg (6 : Int32) = v_p0_3 at hP hD
        have hf := ol_some hf ev_p0_3.symm
        have hP : va_P (dC, dI) vwCl [(h0, .inl (q0, n_p0, .inl v_p0_3))] H := hP
        have hD : va_D A [(h0, .inl (q0, n_p0, .inl v_p0_3))] := hD
        refine lv_aload_n hx hb dX10_plain_24 rfl (lv_at hl 0 rfl) ?_
        refine lv_iconst (v := 3) hx hb dX10_plain_25 (by decide) ?_
        refine lv_iconst (v := 2) hx hb dX10_plain_26 (by decide) ?_
        obtain ⟨b_4, hf⟩ := og_some hf
        refine va_iast hx hb hK hP hD hS 0 0 rfl rfl (vb_ok b_4) dX10_plain_27 (fun H locs hP hD hS => ?_)
        generalize ev_p0_5 : upd v_p0_3 (3 : Int32).toNatClampNeg (2 : Int32) = v_p0_5 at hP hD
        have hf := ol_some hf ev_p0_5.symm
        have hP : va_P (dC, dI) vwCl [(h0, .inl (q0, n_p0, .inl v_p0_5))] H := hP
        have hD : va_D A [(h0, .inl (q0, n_p0, .inl v_p0_5))] := hD
        refine lv_aload_n hx hb dX10_plain_28 rfl (lv_at hl 0 rfl) ?_
        refine lv_iconst (v := 4) hx hb dX10_plain_29 (by decide) ?_
        refine lv_iconst (v := 5) hx hb dX10_plain_30 (by decide) ?_
        obtain ⟨b_6, hf⟩ := og_some hf
        refine va_iast hx hb hK hP hD hS 0 0 rfl rfl (vb_ok b_6) dX10_plain_31 (fun H locs hP hD hS => ?_)
        generalize ev_p0_7 : upd v_p0_5 (4 : Int32).toNatClampNeg (5 : Int32) = v_p0_7 at hP hD
        have hf := ol_some hf ev_p0_7.symm
        have hP : va_P (dC, dI) vwCl [(h0, .inl (q0, n_p0, .inl v_p0_7))] H := hP
        have hD : va_D A [(h0, .inl (q0, n_p0, .inl v_p0_7))] := hD
        obtain rfl := Option.some.inj hf
        exact hRet H locs ls 32 hP hD hS dX10_plain_32
      · have hf := oi_f hf c_1
        refine lv_aload_n hx hb dX10_plain_9 rfl (lv_at hl 0 rfl) ?_
        refine lv_iload_n hx hb dX10_plain_10 rfl (lv_at hl 1 rfl) ?_
        refine lv_iconst (v := 0) hx hb dX10_plain_11 (by decide) ?_
        obtain ⟨b_8, hf⟩ := og_some hf
        refine va_iast hx hb hK hP hD hS 0 0 rfl rfl (vb_ok b_8) dX10_plain_12 (fun H locs hP hD hS => ?_)
        generalize ev_p0_9 : upd v_p0 x1.toNatClampNeg (0 : Int32) = v_p0_9 at hP hD
        have hf := ol_some hf ev_p0_9.symm
        have hP : va_P (dC, dI) vwCl [(h0, .inl (q0, n_p0, .inl v_p0_9))] H := hP
        have hD : va_D A [(h0, .inl (q0, n_p0, .inl v_p0_9))] := hD
        obtain ⟨x1_10, ex1_10⟩ : ∃ y : Int32, y = x1 + 1 := ⟨_, rfl⟩
        refine lv_iinc (v := x1_10) (lv' := [(1, .int x1_10), (0, .ref h0)]) hx hb dX10_plain_13 hl (k := 1) rfl (by rw [ex1_10]; rfl) (by decide) rfl (fun ls hl => ?_)
        have hf := ol_some hf ex1_10
        refine lv_goto (tgt := 2) hx hb dX10_plain_16 (by decide) ?_
        exact ih H locs ls x1_10 v_p0_9 hP hD hS (lv_sub hl [1, 0] rfl) hf
  suffices K0 : ∀ (H : Heap) (locs : List Loc), va_P (dC, dI) vwCl [(h0, .inl (q0, n_p0, .inl v_p0))] H → va_D A [(h0, .inl (q0, n_p0, .inl v_p0))] → va_S A s.heap H locs → W p l e ({ frames := 0, cells := 0, slots := 0, locals := 0 } : Room) s m ([.ref h0] : List Value).toArray below meth c H locs 0 0 Q (F0 m 0 ls []) from K0 s.heap [] hP hD hS
  clear hP hD hS
  intro H locs hP hD hS
  unfold fX10_plain at hf
  refine lv_iconst (v := 0) hx hb dX10_plain_0 (by decide) ?_
  refine lv_istore_n (lv' := [(1, .int (0 : Int32)), (0, .ref h0)]) hx hb dX10_plain_1 rfl hl (by decide) rfl (fun ls hl => ?_)
  exact L2 F H locs ls (0 : Int32) v_p0 hP hD hS (lv_sub hl [1, 0] rfl) hf
def fX10_feed_L77 (F : Nat) (a1 : Int32) (a2 : Int32) (a3 : Int32) (a4 : Int32) (a5 : Int32) (k24 : Int32 → Int32 → Int32 → (Nat → Int32) → Option (Int32 × Int32 × Int32 × (Nat → Int32))) (x6 : Int32) (s0 : Int32) (v_thrown : Int32) (v_taped : Int32) (v_tape : Nat → Int32) : Option (Int32 × Int32 × Int32 × (Nat → Int32)) := og (vb v_taped 900) (ol (upd v_tape v_taped.toNatClampNeg ((s0 >>> (((24 : Int32) - ((8 : Int32) * (x6 - x6 / (4 : Int32) * (4 : Int32)))) &&& 31)) &&& (255 : Int32))) (fun v_tape_2 => ol (v_taped + (1 : Int32)) (fun x_3 => ol (x6 + 1) (fun x6_4 => k24 x6_4 v_thrown x_3 v_tape_2))))
def fX10_feed_L24 (F : Nat) (a1 : Int32) (a2 : Int32) (a3 : Int32) (a4 : Int32) (a5 : Int32) : Nat → Int32 → Int32 → Int32 → (Nat → Int32) → Option (Int32 × Int32 × Int32 × (Nat → Int32))
  | 0, _, _, _, _ => none
  | n + 1, x6, v_thrown, v_taped, v_tape => if (20 : Int32) ≤ x6 then (some (v_taped, v_thrown, v_taped, v_tape)) else (if (4 : Int32) ≤ x6 then (if (8 : Int32) ≤ x6 then (if (12 : Int32) ≤ x6 then (if (16 : Int32) ≤ x6 then (fX10_feed_L77 F a1 a2 a3 a4 a5 (fun x6 v_thrown v_taped v_tape => fX10_feed_L24 F a1 a2 a3 a4 a5 n x6 v_thrown v_taped v_tape) x6 a5 v_thrown v_taped v_tape) else (fX10_feed_L77 F a1 a2 a3 a4 a5 (fun x6 v_thrown v_taped v_tape => fX10_feed_L24 F a1 a2 a3 a4 a5 n x6 v_thrown v_taped v_tape) x6 a4 v_thrown v_taped v_tape)) else (fX10_feed_L77 F a1 a2 a3 a4 a5 (fun x6 v_thrown v_taped v_tape => fX10_feed_L24 F a1 a2 a3 a4 a5 n x6 v_thrown v_taped v_tape) x6 a3 v_thrown v_taped v_tape)) else (fX10_feed_L77 F a1 a2 a3 a4 a5 (fun x6 v_thrown v_taped v_tape => fX10_feed_L24 F a1 a2 a3 a4 a5 n x6 v_thrown v_taped v_tape) x6 a2 v_thrown v_taped v_tape)) else (fX10_feed_L77 F a1 a2 a3 a4 a5 (fun x6 v_thrown v_taped v_tape => fX10_feed_L24 F a1 a2 a3 a4 a5 n x6 v_thrown v_taped v_tape) x6 a1 v_thrown v_taped v_tape))
def fX10_feed (F : Nat) (v_thrown : Int32) (v_taped : Int32) (v_tape : Nat → Int32) (a1 : Int32) (a2 : Int32) (a3 : Int32) (a4 : Int32) (a5 : Int32) : Option (Int32 × Int32 × Int32 × (Nat → Int32)) := if (v_taped + (20 : Int32)) ≤ (900 : Int32) then (fX10_feed_L24 F a1 a2 a3 a4 a5 F (0 : Int32) (0 : Int32) v_taped v_tape) else (some ((-5 : Int32), (0 : Int32), v_taped, v_tape))
set_option maxRecDepth 100000 in
set_option maxHeartbeats 4000000 in
theorem ctX10_feed (l : Launch) (dC : Nat → ClassId) (dI : Nat → Nat → Nat) (F sz : Nat) (h0 h1 : Nat) (q0 : ClassId) (v_thrown : Int32) (g_all : Value) (g_hasImage : Value) (g_fresh : Value) (v_taped : Int32) (v_at : Int32) (v_behind : Int32) (v_size : Int32) (v_kind : Int32) (v_number : Int32) (v_wrong : Int32) (v_wrongAt : Int32) (v_faultKind : Int32) (v_faultPlace : Int32) (g_lows : Value) (g_highs : Value) (g_puffsOf : Value) (g_puffMany : Value) (g_touches : Value) (g_kept : Value) (v_why : Int32) (g_pairs : Value) (g_few : Value) (g_freeOf : Value) (g_quarterOf : Value) (g_bestOf : Value) (g_areApart : Value) (v_fewMany : Int32) (v_bestLatest : Int32) (v_bestSum : Int32) (g_sootFor : Value) (v_alwaysLit : Int32) (v_theDay : Int32) (g_goodIn : Value) (v_goodSome : Int32) (g_hadSmoke : Value) (g_rowSort : Value) (g_rowMany : Value) (g_numbers : Value) (v_tape : Nat → Int32) (a1 : Int32) (a2 : Int32) (a3 : Int32) (a4 : Int32) (a5 : Int32) (out : Int32 × Int32 × Int32 × (Nat → Int32)) (hf : fX10_feed F v_thrown v_taped v_tape a1 a2 a3 a4 a5 = some out) : cM l yX10_feed cX10_feed 8 (some .int) ({ frames := 0, cells := 0, slots := 0, locals := 0 } : Room) (dC, dI) [(q0, .int)] [(h0, .inr (10, [.int v_thrown, g_all, g_hasImage, .ref h1, g_fresh, .int v_taped, .int v_at, .int v_behind, .int v_size, .int v_kind, .int v_number, .int v_wrong, .int v_wrongAt, .int v_faultKind, .int v_faultPlace, g_lows, g_highs, g_puffsOf, g_puffMany, g_touches, g_kept, .int v_why, g_pairs, g_few, g_freeOf, g_quarterOf, g_bestOf, g_areApart, .int v_fewMany, .int v_bestLatest, .int v_bestSum, g_sootFor, .int v_alwaysLit, .int v_theDay, g_goodIn, .int v_goodSome, g_hadSmoke, g_rowSort, g_rowMany, g_numbers])), (h1, .inl (q0, 900, .inl v_tape))] [.ref h0, .int a1, .int a2, .int a3, .int a4, .int a5] sz (some (.int out.1)) [(h0, .inr (10, [.int out.2.1, g_all, g_hasImage, .ref h1, g_fresh, .int out.2.2.1, .int v_at, .int v_behind, .int v_size, .int v_kind, .int v_number, .int v_wrong, .int v_wrongAt, .int v_faultKind, .int v_faultPlace, g_lows, g_highs, g_puffsOf, g_puffMany, g_touches, g_kept, .int v_why, g_pairs, g_few, g_freeOf, g_quarterOf, g_bestOf, g_areApart, .int v_fewMany, .int v_bestLatest, .int v_bestSum, g_sootFor, .int v_alwaysLit, .int v_theDay, g_goodIn, .int v_goodSome, g_hadSmoke, g_rowSort, g_rowMany, g_numbers])), (h1, .inl (q0, 900, .inl out.2.2.2))] := by
  refine cM_I RX10 ⟨by decide, rfl⟩ (Nat.le_of_ble_eq_true rfl) ?_
  intro p e s m below meth c A Q ls hx hb hml hown hts hK hN hA hP hD hS hl hRet
  have htb : ∀ w ∈ lw_g, w.before ([.ref h0, .int a1, .int a2, .int a3, .int a4, .int a5] : List Value).toArray s = true := fun w h => hts w (List.mem_cons_of_mem _ h)
  have hl : lv_has ls 8 [(0, .ref h0), (1, .int a1), (2, .int a2), (3, .int a3), (4, .int a4), (5, .int a5)] := hl
  have L77 : ∀ (k24 : Int32 → Int32 → Int32 → (Nat → Int32) → Option (Int32 × Int32 × Int32 × (Nat → Int32))) (hk24 : ∀ (H : Heap) (locs : List Loc) (ls : Array Slot) (x6 : Int32) (v_thrown : Int32) (v_taped : Int32) (v_tape : Nat → Int32), va_P (dC, dI) vwCl [(h0, .inr (10, [.int v_thrown, g_all, g_hasImage, .ref h1, g_fresh, .int v_taped, .int v_at, .int v_behind, .int v_size, .int v_kind, .int v_number, .int v_wrong, .int v_wrongAt, .int v_faultKind, .int v_faultPlace, g_lows, g_highs, g_puffsOf, g_puffMany, g_touches, g_kept, .int v_why, g_pairs, g_few, g_freeOf, g_quarterOf, g_bestOf, g_areApart, .int v_fewMany, .int v_bestLatest, .int v_bestSum, g_sootFor, .int v_alwaysLit, .int v_theDay, g_goodIn, .int v_goodSome, g_hadSmoke, g_rowSort, g_rowMany, g_numbers])), (h1, .inl (q0, 900, .inl v_tape))] H → va_D A [(h0, .inr (10, [.int v_thrown, g_all, g_hasImage, .ref h1, g_fresh, .int v_taped, .int v_at, .int v_behind, .int v_size, .int v_kind, .int v_number, .int v_wrong, .int v_wrongAt, .int v_faultKind, .int v_faultPlace, g_lows, g_highs, g_puffsOf, g_puffMany, g_touches, g_kept, .int v_why, g_pairs, g_few, g_freeOf, g_quarterOf, g_bestOf, g_areApart, .int v_fewMany, .int v_bestLatest, .int v_bestSum, g_sootFor, .int v_alwaysLit, .int v_theDay, g_goodIn, .int v_goodSome, g_hadSmoke, g_rowSort, g_rowMany, g_numbers])), (h1, .inl (q0, 900, .inl v_tape))] → va_S A s.heap H locs → lv_has ls 8 [(0, .ref h0), (1, .int a1), (2, .int a2), (3, .int a3), (4, .int a4), (5, .int a5), (6, .int x6)] → k24 x6 v_thrown v_taped v_tape = some out → W p l e ({ frames := 0, cells := 0, slots := 0, locals := 0 } : Room) s m ([.ref h0, .int a1, .int a2, .int a3, .int a4, .int a5] : List Value).toArray below meth c H locs 0 0 Q (F0 m 24 ls [])), ∀ (H : Heap) (locs : List Loc) (ls : Array Slot) (x6 : Int32) (s0 : Int32) (v_thrown : Int32) (v_taped : Int32) (v_tape : Nat → Int32), va_P (dC, dI) vwCl [(h0, .inr (10, [.int v_thrown, g_all, g_hasImage, .ref h1, g_fresh, .int v_taped, .int v_at, .int v_behind, .int v_size, .int v_kind, .int v_number, .int v_wrong, .int v_wrongAt, .int v_faultKind, .int v_faultPlace, g_lows, g_highs, g_puffsOf, g_puffMany, g_touches, g_kept, .int v_why, g_pairs, g_few, g_freeOf, g_quarterOf, g_bestOf, g_areApart, .int v_fewMany, .int v_bestLatest, .int v_bestSum, g_sootFor, .int v_alwaysLit, .int v_theDay, g_goodIn, .int v_goodSome, g_hadSmoke, g_rowSort, g_rowMany, g_numbers])), (h1, .inl (q0, 900, .inl v_tape))] H → va_D A [(h0, .inr (10, [.int v_thrown, g_all, g_hasImage, .ref h1, g_fresh, .int v_taped, .int v_at, .int v_behind, .int v_size, .int v_kind, .int v_number, .int v_wrong, .int v_wrongAt, .int v_faultKind, .int v_faultPlace, g_lows, g_highs, g_puffsOf, g_puffMany, g_touches, g_kept, .int v_why, g_pairs, g_few, g_freeOf, g_quarterOf, g_bestOf, g_areApart, .int v_fewMany, .int v_bestLatest, .int v_bestSum, g_sootFor, .int v_alwaysLit, .int v_theDay, g_goodIn, .int v_goodSome, g_hadSmoke, g_rowSort, g_rowMany, g_numbers])), (h1, .inl (q0, 900, .inl v_tape))] → va_S A s.heap H locs → lv_has ls 8 [(0, .ref h0), (1, .int a1), (2, .int a2), (3, .int a3), (4, .int a4), (5, .int a5), (6, .int x6)] → fX10_feed_L77 F a1 a2 a3 a4 a5 k24 x6 s0 v_thrown v_taped v_tape = some out → W p l e ({ frames := 0, cells := 0, slots := 0, locals := 0 } : Room) s m ([.ref h0, .int a1, .int a2, .int a3, .int a4, .int a5] : List Value).toArray below meth c H locs 0 0 Q (F0 m 77 ls [.int s0]) := by
    intro k24 hk24 H locs ls x6 s0 v_thrown v_taped v_tape hP hD hS hl hf
    unfold fX10_feed_L77 at hf
    refine lv_istore (lv' := [(7, .int s0), (0, .ref h0), (1, .int a1), (2, .int a2), (3, .int a3), (4, .int a4), (5, .int a5), (6, .int x6)]) hx hb dX10_feed_77 hl (by decide) rfl (fun ls hl => ?_)
    refine lv_aload_n hx hb dX10_feed_79 rfl (lv_at hl 1 rfl) ?_
    refine va_get (D := (dC, dI)) (ci := 10) (v := .ref h1) (C := RX10) (T := TX10) (N := 40) hx hb htb inG10 hown hK hP 0 rfl rfl 3 (by decide) (htb _ mF_X10_21) (fun _ h9 => h9) rfl dX10_feed_80 ?_
    refine lv_aload_n hx hb dX10_feed_83 rfl (lv_at hl 1 rfl) ?_
    refine va_get (D := (dC, dI)) (ci := 10) (v := .int v_taped) (C := RX10) (T := TX10) (N := 40) hx hb htb inG10 hown hK hP 0 rfl rfl 5 (by decide) (htb _ mF_X10_89) (fun _ h9 => h9) rfl dX10_feed_84 ?_
    refine lv_iload hx hb dX10_feed_87 (lv_at hl 0 rfl) ?_
    refine lv_bipush (v := 24) hx hb dX10_feed_89 (by decide) ?_
    refine lv_bipush (v := 8) hx hb dX10_feed_91 (by decide) ?_
    refine lv_iload hx hb dX10_feed_93 (lv_at hl 7 rfl) ?_
    refine lv_iconst (v := 4) hx hb dX10_feed_95 (by decide) ?_
    refine lv_irem hx hb dX10_feed_96 (by decide) ?_
    refine lv_imul hx hb dX10_feed_97 ?_
    refine lv_isub hx hb dX10_feed_98 ?_
    refine lv_ishr hx hb dX10_feed_99 ?_
    refine lv_sipush (v := 255) hx hb dX10_feed_100 (by decide) ?_
    refine lv_iand hx hb dX10_feed_103 ?_
    obtain ⟨b_1, hf⟩ := og_some hf
    refine va_iast hx hb hK hP hD hS 1 0 rfl rfl (vb_ok b_1) dX10_feed_104 (fun H locs hP hD hS => ?_)
    generalize ev_tape_2 : upd v_tape v_taped.toNatClampNeg ((s0 >>> (((24 : Int32) - ((8 : Int32) * (x6 - x6 / (4 : Int32) * (4 : Int32)))) &&& 31)) &&& (255 : Int32)) = v_tape_2 at hP hD
    have hf := ol_some hf ev_tape_2.symm
    have hP : va_P (dC, dI) vwCl [(h0, .inr (10, [.int v_thrown, g_all, g_hasImage, .ref h1, g_fresh, .int v_taped, .int v_at, .int v_behind, .int v_size, .int v_kind, .int v_number, .int v_wrong, .int v_wrongAt, .int v_faultKind, .int v_faultPlace, g_lows, g_highs, g_puffsOf, g_puffMany, g_touches, g_kept, .int v_why, g_pairs, g_few, g_freeOf, g_quarterOf, g_bestOf, g_areApart, .int v_fewMany, .int v_bestLatest, .int v_bestSum, g_sootFor, .int v_alwaysLit, .int v_theDay, g_goodIn, .int v_goodSome, g_hadSmoke, g_rowSort, g_rowMany, g_numbers])), (h1, .inl (q0, 900, .inl v_tape_2))] H := hP
    have hD : va_D A [(h0, .inr (10, [.int v_thrown, g_all, g_hasImage, .ref h1, g_fresh, .int v_taped, .int v_at, .int v_behind, .int v_size, .int v_kind, .int v_number, .int v_wrong, .int v_wrongAt, .int v_faultKind, .int v_faultPlace, g_lows, g_highs, g_puffsOf, g_puffMany, g_touches, g_kept, .int v_why, g_pairs, g_few, g_freeOf, g_quarterOf, g_bestOf, g_areApart, .int v_fewMany, .int v_bestLatest, .int v_bestSum, g_sootFor, .int v_alwaysLit, .int v_theDay, g_goodIn, .int v_goodSome, g_hadSmoke, g_rowSort, g_rowMany, g_numbers])), (h1, .inl (q0, 900, .inl v_tape_2))] := hD
    refine lv_aload_n hx hb dX10_feed_105 rfl (lv_at hl 1 rfl) ?_
    refine lv_dup hx hb dX10_feed_106 rfl ?_
    refine va_get (D := (dC, dI)) (ci := 10) (v := .int v_taped) (C := RX10) (T := TX10) (N := 40) hx hb htb inG10 hown hK hP 0 rfl rfl 5 (by decide) (htb _ mF_X10_89) (fun _ h9 => h9) rfl dX10_feed_107 ?_
    refine lv_iconst (v := 1) hx hb dX10_feed_110 (by decide) ?_
    refine lv_iadd hx hb dX10_feed_111 ?_
    refine lv_topi (fun x_3 ex_3 => ?_)
    have hf := ol_some hf ex_3
    refine va_put (D := (dC, dI)) (ci := 10) (v := .int x_3) (ty := .int) (C := RX10) (T := TX10) (N := 40) hx hb htb inG10 tyX10 tyX10_ok nmX10 hown hK hP hD hS 0 rfl rfl 5 (by decide) (htb _ mF_X10_89) (fun _ h9 => h9) rfl (by decide +kernel) rfl rfl (Nat.le_of_ble_eq_true rfl) dX10_feed_112 (fun H locs hP hD hS => ?_)
    have hP : va_P (dC, dI) vwCl [(h0, .inr (10, [.int v_thrown, g_all, g_hasImage, .ref h1, g_fresh, .int x_3, .int v_at, .int v_behind, .int v_size, .int v_kind, .int v_number, .int v_wrong, .int v_wrongAt, .int v_faultKind, .int v_faultPlace, g_lows, g_highs, g_puffsOf, g_puffMany, g_touches, g_kept, .int v_why, g_pairs, g_few, g_freeOf, g_quarterOf, g_bestOf, g_areApart, .int v_fewMany, .int v_bestLatest, .int v_bestSum, g_sootFor, .int v_alwaysLit, .int v_theDay, g_goodIn, .int v_goodSome, g_hadSmoke, g_rowSort, g_rowMany, g_numbers])), (h1, .inl (q0, 900, .inl v_tape_2))] H := hP
    have hD : va_D A [(h0, .inr (10, [.int v_thrown, g_all, g_hasImage, .ref h1, g_fresh, .int x_3, .int v_at, .int v_behind, .int v_size, .int v_kind, .int v_number, .int v_wrong, .int v_wrongAt, .int v_faultKind, .int v_faultPlace, g_lows, g_highs, g_puffsOf, g_puffMany, g_touches, g_kept, .int v_why, g_pairs, g_few, g_freeOf, g_quarterOf, g_bestOf, g_areApart, .int v_fewMany, .int v_bestLatest, .int v_bestSum, g_sootFor, .int v_alwaysLit, .int v_theDay, g_goodIn, .int v_goodSome, g_hadSmoke, g_rowSort, g_rowMany, g_numbers])), (h1, .inl (q0, 900, .inl v_tape_2))] := hD
    obtain ⟨x6_4, ex6_4⟩ : ∃ y : Int32, y = x6 + 1 := ⟨_, rfl⟩
    refine lv_iinc (v := x6_4) (lv' := [(6, .int x6_4), (7, .int s0), (0, .ref h0), (1, .int a1), (2, .int a2), (3, .int a3), (4, .int a4), (5, .int a5)]) hx hb dX10_feed_115 hl (k := 7) rfl (by rw [ex6_4]; rfl) (by decide) rfl (fun ls hl => ?_)
    have hf := ol_some hf ex6_4
    refine lv_goto (tgt := 24) hx hb dX10_feed_118 (by decide) ?_
    exact hk24 H locs ls x6_4 v_thrown x_3 v_tape_2 hP hD hS (lv_sub hl [2, 3, 4, 5, 6, 7, 0] rfl) hf
  have L24 : ∀ (n : Nat), ∀ (H : Heap) (locs : List Loc) (ls : Array Slot) (x6 : Int32) (v_thrown : Int32) (v_taped : Int32) (v_tape : Nat → Int32), va_P (dC, dI) vwCl [(h0, .inr (10, [.int v_thrown, g_all, g_hasImage, .ref h1, g_fresh, .int v_taped, .int v_at, .int v_behind, .int v_size, .int v_kind, .int v_number, .int v_wrong, .int v_wrongAt, .int v_faultKind, .int v_faultPlace, g_lows, g_highs, g_puffsOf, g_puffMany, g_touches, g_kept, .int v_why, g_pairs, g_few, g_freeOf, g_quarterOf, g_bestOf, g_areApart, .int v_fewMany, .int v_bestLatest, .int v_bestSum, g_sootFor, .int v_alwaysLit, .int v_theDay, g_goodIn, .int v_goodSome, g_hadSmoke, g_rowSort, g_rowMany, g_numbers])), (h1, .inl (q0, 900, .inl v_tape))] H → va_D A [(h0, .inr (10, [.int v_thrown, g_all, g_hasImage, .ref h1, g_fresh, .int v_taped, .int v_at, .int v_behind, .int v_size, .int v_kind, .int v_number, .int v_wrong, .int v_wrongAt, .int v_faultKind, .int v_faultPlace, g_lows, g_highs, g_puffsOf, g_puffMany, g_touches, g_kept, .int v_why, g_pairs, g_few, g_freeOf, g_quarterOf, g_bestOf, g_areApart, .int v_fewMany, .int v_bestLatest, .int v_bestSum, g_sootFor, .int v_alwaysLit, .int v_theDay, g_goodIn, .int v_goodSome, g_hadSmoke, g_rowSort, g_rowMany, g_numbers])), (h1, .inl (q0, 900, .inl v_tape))] → va_S A s.heap H locs → lv_has ls 8 [(0, .ref h0), (1, .int a1), (2, .int a2), (3, .int a3), (4, .int a4), (5, .int a5), (6, .int x6)] → fX10_feed_L24 F a1 a2 a3 a4 a5 n x6 v_thrown v_taped v_tape = some out → W p l e ({ frames := 0, cells := 0, slots := 0, locals := 0 } : Room) s m ([.ref h0, .int a1, .int a2, .int a3, .int a4, .int a5] : List Value).toArray below meth c H locs 0 0 Q (F0 m 24 ls []) := by
    intro n
    induction n with
    | zero =>
      intro H locs ls x6 v_thrown v_taped v_tape hP hD hS hl hf
      cases hf
    | succ n ih =>
      intro H locs ls x6 v_thrown v_taped v_tape hP hD hS hl hf
      rw [fX10_feed_L24] at hf
      refine lv_iload hx hb dX10_feed_24 (lv_at hl 6 rfl) ?_
      refine lv_bipush (v := 20) hx hb dX10_feed_26 (by decide) ?_
      refine lv_icmp_ge (tgt := 121) hx hb dX10_feed_28 (by decide) (fun c_5 => ?_) (fun c_5 => ?_)
      · have hf := oi_t hf c_5
        refine lv_aload_n hx hb dX10_feed_121 rfl (lv_at hl 0 rfl) ?_
        refine va_get (D := (dC, dI)) (ci := 10) (v := .int v_taped) (C := RX10) (T := TX10) (N := 40) hx hb htb inG10 hown hK hP 0 rfl rfl 5 (by decide) (htb _ mF_X10_89) (fun _ h9 => h9) rfl dX10_feed_122 ?_
        obtain rfl := Option.some.inj hf
        exact hRet H locs ls 125 hP hD hS rfl dX10_feed_125
      · have hf := oi_f hf c_5
        refine lv_iload hx hb dX10_feed_31 (lv_at hl 6 rfl) ?_
        refine lv_iconst (v := 4) hx hb dX10_feed_33 (by decide) ?_
        refine lv_icmp_ge (tgt := 41) hx hb dX10_feed_34 (by decide) (fun c_6 => ?_) (fun c_6 => ?_)
        · have hf := oi_t hf c_6
          refine lv_iload hx hb dX10_feed_41 (lv_at hl 6 rfl) ?_
          refine lv_bipush (v := 8) hx hb dX10_feed_43 (by decide) ?_
          refine lv_icmp_ge (tgt := 52) hx hb dX10_feed_45 (by decide) (fun c_7 => ?_) (fun c_7 => ?_)
          · have hf := oi_t hf c_7
            refine lv_iload hx hb dX10_feed_52 (lv_at hl 6 rfl) ?_
            refine lv_bipush (v := 12) hx hb dX10_feed_54 (by decide) ?_
            refine lv_icmp_ge (tgt := 63) hx hb dX10_feed_56 (by decide) (fun c_8 => ?_) (fun c_8 => ?_)
            · have hf := oi_t hf c_8
              refine lv_iload hx hb dX10_feed_63 (lv_at hl 6 rfl) ?_
              refine lv_bipush (v := 16) hx hb dX10_feed_65 (by decide) ?_
              refine lv_icmp_ge (tgt := 75) hx hb dX10_feed_67 (by decide) (fun c_9 => ?_) (fun c_9 => ?_)
              · have hf := oi_t hf c_9
                refine lv_iload hx hb dX10_feed_75 (lv_at hl 5 rfl) ?_
                exact L77 (fun x6 v_thrown v_taped v_tape => fX10_feed_L24 F a1 a2 a3 a4 a5 n x6 v_thrown v_taped v_tape) ih H locs ls x6 a5 v_thrown v_taped v_tape hP hD hS (lv_sub hl [0, 1, 2, 3, 4, 5, 6] rfl) hf
              · have hf := oi_f hf c_9
                refine lv_iload hx hb dX10_feed_70 (lv_at hl 4 rfl) ?_
                refine lv_goto (tgt := 77) hx hb dX10_feed_72 (by decide) ?_
                exact L77 (fun x6 v_thrown v_taped v_tape => fX10_feed_L24 F a1 a2 a3 a4 a5 n x6 v_thrown v_taped v_tape) ih H locs ls x6 a4 v_thrown v_taped v_tape hP hD hS (lv_sub hl [0, 1, 2, 3, 4, 5, 6] rfl) hf
            · have hf := oi_f hf c_8
              refine lv_iload_n hx hb dX10_feed_59 rfl (lv_at hl 3 rfl) ?_
              refine lv_goto (tgt := 77) hx hb dX10_feed_60 (by decide) ?_
              exact L77 (fun x6 v_thrown v_taped v_tape => fX10_feed_L24 F a1 a2 a3 a4 a5 n x6 v_thrown v_taped v_tape) ih H locs ls x6 a3 v_thrown v_taped v_tape hP hD hS (lv_sub hl [0, 1, 2, 3, 4, 5, 6] rfl) hf
          · have hf := oi_f hf c_7
            refine lv_iload_n hx hb dX10_feed_48 rfl (lv_at hl 2 rfl) ?_
            refine lv_goto (tgt := 77) hx hb dX10_feed_49 (by decide) ?_
            exact L77 (fun x6 v_thrown v_taped v_tape => fX10_feed_L24 F a1 a2 a3 a4 a5 n x6 v_thrown v_taped v_tape) ih H locs ls x6 a2 v_thrown v_taped v_tape hP hD hS (lv_sub hl [0, 1, 2, 3, 4, 5, 6] rfl) hf
        · have hf := oi_f hf c_6
          refine lv_iload_n hx hb dX10_feed_37 rfl (lv_at hl 1 rfl) ?_
          refine lv_goto (tgt := 77) hx hb dX10_feed_38 (by decide) ?_
          exact L77 (fun x6 v_thrown v_taped v_tape => fX10_feed_L24 F a1 a2 a3 a4 a5 n x6 v_thrown v_taped v_tape) ih H locs ls x6 a1 v_thrown v_taped v_tape hP hD hS (lv_sub hl [0, 1, 2, 3, 4, 5, 6] rfl) hf
  suffices K0 : ∀ (H : Heap) (locs : List Loc), va_P (dC, dI) vwCl [(h0, .inr (10, [.int v_thrown, g_all, g_hasImage, .ref h1, g_fresh, .int v_taped, .int v_at, .int v_behind, .int v_size, .int v_kind, .int v_number, .int v_wrong, .int v_wrongAt, .int v_faultKind, .int v_faultPlace, g_lows, g_highs, g_puffsOf, g_puffMany, g_touches, g_kept, .int v_why, g_pairs, g_few, g_freeOf, g_quarterOf, g_bestOf, g_areApart, .int v_fewMany, .int v_bestLatest, .int v_bestSum, g_sootFor, .int v_alwaysLit, .int v_theDay, g_goodIn, .int v_goodSome, g_hadSmoke, g_rowSort, g_rowMany, g_numbers])), (h1, .inl (q0, 900, .inl v_tape))] H → va_D A [(h0, .inr (10, [.int v_thrown, g_all, g_hasImage, .ref h1, g_fresh, .int v_taped, .int v_at, .int v_behind, .int v_size, .int v_kind, .int v_number, .int v_wrong, .int v_wrongAt, .int v_faultKind, .int v_faultPlace, g_lows, g_highs, g_puffsOf, g_puffMany, g_touches, g_kept, .int v_why, g_pairs, g_few, g_freeOf, g_quarterOf, g_bestOf, g_areApart, .int v_fewMany, .int v_bestLatest, .int v_bestSum, g_sootFor, .int v_alwaysLit, .int v_theDay, g_goodIn, .int v_goodSome, g_hadSmoke, g_rowSort, g_rowMany, g_numbers])), (h1, .inl (q0, 900, .inl v_tape))] → va_S A s.heap H locs → W p l e ({ frames := 0, cells := 0, slots := 0, locals := 0 } : Room) s m ([.ref h0, .int a1, .int a2, .int a3, .int a4, .int a5] : List Value).toArray below meth c H locs 0 0 Q (F0 m 0 ls []) from K0 s.heap [] hP hD hS
  clear hP hD hS
  intro H locs hP hD hS
  unfold fX10_feed at hf
  refine lv_aload_n hx hb dX10_feed_0 rfl (lv_at hl 0 rfl) ?_
  refine lv_iconst (v := 0) hx hb dX10_feed_1 (by decide) ?_
  refine va_put (D := (dC, dI)) (ci := 10) (v := .int (0 : Int32)) (ty := .int) (C := RX10) (T := TX10) (N := 40) hx hb htb inG10 tyX10 tyX10_ok nmX10 hown hK hP hD hS 0 rfl rfl 0 (by decide) (htb _ mF_X10_1) (fun _ h9 => h9) rfl (by decide +kernel) rfl rfl (Nat.le_of_ble_eq_true rfl) dX10_feed_2 (fun H locs hP hD hS => ?_)
  have hP : va_P (dC, dI) vwCl [(h0, .inr (10, [.int (0 : Int32), g_all, g_hasImage, .ref h1, g_fresh, .int v_taped, .int v_at, .int v_behind, .int v_size, .int v_kind, .int v_number, .int v_wrong, .int v_wrongAt, .int v_faultKind, .int v_faultPlace, g_lows, g_highs, g_puffsOf, g_puffMany, g_touches, g_kept, .int v_why, g_pairs, g_few, g_freeOf, g_quarterOf, g_bestOf, g_areApart, .int v_fewMany, .int v_bestLatest, .int v_bestSum, g_sootFor, .int v_alwaysLit, .int v_theDay, g_goodIn, .int v_goodSome, g_hadSmoke, g_rowSort, g_rowMany, g_numbers])), (h1, .inl (q0, 900, .inl v_tape))] H := hP
  have hD : va_D A [(h0, .inr (10, [.int (0 : Int32), g_all, g_hasImage, .ref h1, g_fresh, .int v_taped, .int v_at, .int v_behind, .int v_size, .int v_kind, .int v_number, .int v_wrong, .int v_wrongAt, .int v_faultKind, .int v_faultPlace, g_lows, g_highs, g_puffsOf, g_puffMany, g_touches, g_kept, .int v_why, g_pairs, g_few, g_freeOf, g_quarterOf, g_bestOf, g_areApart, .int v_fewMany, .int v_bestLatest, .int v_bestSum, g_sootFor, .int v_alwaysLit, .int v_theDay, g_goodIn, .int v_goodSome, g_hadSmoke, g_rowSort, g_rowMany, g_numbers])), (h1, .inl (q0, 900, .inl v_tape))] := hD
  refine lv_aload_n hx hb dX10_feed_5 rfl (lv_at hl 0 rfl) ?_
  refine va_get (D := (dC, dI)) (ci := 10) (v := .int v_taped) (C := RX10) (T := TX10) (N := 40) hx hb htb inG10 hown hK hP 0 rfl rfl 5 (by decide) (htb _ mF_X10_89) (fun _ h9 => h9) rfl dX10_feed_6 ?_
  refine lv_bipush (v := 20) hx hb dX10_feed_9 (by decide) ?_
  refine lv_iadd hx hb dX10_feed_11 ?_
  refine lv_sipush (v := 900) hx hb dX10_feed_12 (by decide) ?_
  refine lv_icmp_le (tgt := 21) hx hb dX10_feed_15 (by decide) (fun c_10 => ?_) (fun c_10 => ?_)
  · have hf := oi_t hf c_10
    refine lv_iconst (v := 0) hx hb dX10_feed_21 (by decide) ?_
    refine lv_istore (lv' := [(6, .int (0 : Int32)), (0, .ref h0), (1, .int a1), (2, .int a2), (3, .int a3), (4, .int a4), (5, .int a5)]) hx hb dX10_feed_22 hl (by decide) rfl (fun ls hl => ?_)
    exact L24 F H locs ls (0 : Int32) (0 : Int32) v_taped v_tape hP hD hS (lv_sub hl [1, 2, 3, 4, 5, 6, 0] rfl) hf
  · have hf := oi_f hf c_10
    refine lv_bipush (v := -5) hx hb dX10_feed_18 (by decide) ?_
    obtain rfl := Option.some.inj hf
    exact hRet H locs ls 20 hP hD hS rfl dX10_feed_20
def fX10_see (F : Nat) (v_size : Int32) (v_tape : Nat → Int32) (a1 : Int32) : Option (Int32) := if v_size ≤ a1 then (some (-1 : Int32)) else (og (vb a1 900) (some (v_tape a1.toNatClampNeg)))
set_option maxRecDepth 100000 in
set_option maxHeartbeats 4000000 in
theorem ctX10_see (l : Launch) (dC : Nat → ClassId) (dI : Nat → Nat → Nat) (F sz : Nat) (h0 h1 : Nat) (q0 : ClassId) (v_thrown : Int32) (g_all : Value) (g_hasImage : Value) (g_fresh : Value) (v_taped : Int32) (v_at : Int32) (v_behind : Int32) (v_size : Int32) (v_kind : Int32) (v_number : Int32) (v_wrong : Int32) (v_wrongAt : Int32) (v_faultKind : Int32) (v_faultPlace : Int32) (g_lows : Value) (g_highs : Value) (g_puffsOf : Value) (g_puffMany : Value) (g_touches : Value) (g_kept : Value) (v_why : Int32) (g_pairs : Value) (g_few : Value) (g_freeOf : Value) (g_quarterOf : Value) (g_bestOf : Value) (g_areApart : Value) (v_fewMany : Int32) (v_bestLatest : Int32) (v_bestSum : Int32) (g_sootFor : Value) (v_alwaysLit : Int32) (v_theDay : Int32) (g_goodIn : Value) (v_goodSome : Int32) (g_hadSmoke : Value) (g_rowSort : Value) (g_rowMany : Value) (g_numbers : Value) (v_tape : Nat → Int32) (a1 : Int32) (out : Int32) (hf : fX10_see F v_size v_tape a1 = some out) : cM l yX10_see cX10_see 2 (some .int) ({ frames := 0, cells := 0, slots := 0, locals := 0 } : Room) (dC, dI) [(q0, .int)] [(h0, .inr (10, [.int v_thrown, g_all, g_hasImage, .ref h1, g_fresh, .int v_taped, .int v_at, .int v_behind, .int v_size, .int v_kind, .int v_number, .int v_wrong, .int v_wrongAt, .int v_faultKind, .int v_faultPlace, g_lows, g_highs, g_puffsOf, g_puffMany, g_touches, g_kept, .int v_why, g_pairs, g_few, g_freeOf, g_quarterOf, g_bestOf, g_areApart, .int v_fewMany, .int v_bestLatest, .int v_bestSum, g_sootFor, .int v_alwaysLit, .int v_theDay, g_goodIn, .int v_goodSome, g_hadSmoke, g_rowSort, g_rowMany, g_numbers])), (h1, .inl (q0, 900, .inl v_tape))] [.ref h0, .int a1] sz (some (.int out)) [(h0, .inr (10, [.int v_thrown, g_all, g_hasImage, .ref h1, g_fresh, .int v_taped, .int v_at, .int v_behind, .int v_size, .int v_kind, .int v_number, .int v_wrong, .int v_wrongAt, .int v_faultKind, .int v_faultPlace, g_lows, g_highs, g_puffsOf, g_puffMany, g_touches, g_kept, .int v_why, g_pairs, g_few, g_freeOf, g_quarterOf, g_bestOf, g_areApart, .int v_fewMany, .int v_bestLatest, .int v_bestSum, g_sootFor, .int v_alwaysLit, .int v_theDay, g_goodIn, .int v_goodSome, g_hadSmoke, g_rowSort, g_rowMany, g_numbers])), (h1, .inl (q0, 900, .inl v_tape))] := by
  refine cM_I RX10 ⟨by decide, rfl⟩ (Nat.le_of_ble_eq_true rfl) ?_
  intro p e s m below meth c A Q ls hx hb hml hown hts hK hN hA hP hD hS hl hRet
  have htb : ∀ w ∈ lw_g, w.before ([.ref h0, .int a1] : List Value).toArray s = true := fun w h => hts w (List.mem_cons_of_mem _ h)
  have hl : lv_has ls 2 [(0, .ref h0), (1, .int a1)] := hl
  suffices K0 : ∀ (H : Heap) (locs : List Loc), va_P (dC, dI) vwCl [(h0, .inr (10, [.int v_thrown, g_all, g_hasImage, .ref h1, g_fresh, .int v_taped, .int v_at, .int v_behind, .int v_size, .int v_kind, .int v_number, .int v_wrong, .int v_wrongAt, .int v_faultKind, .int v_faultPlace, g_lows, g_highs, g_puffsOf, g_puffMany, g_touches, g_kept, .int v_why, g_pairs, g_few, g_freeOf, g_quarterOf, g_bestOf, g_areApart, .int v_fewMany, .int v_bestLatest, .int v_bestSum, g_sootFor, .int v_alwaysLit, .int v_theDay, g_goodIn, .int v_goodSome, g_hadSmoke, g_rowSort, g_rowMany, g_numbers])), (h1, .inl (q0, 900, .inl v_tape))] H → va_D A [(h0, .inr (10, [.int v_thrown, g_all, g_hasImage, .ref h1, g_fresh, .int v_taped, .int v_at, .int v_behind, .int v_size, .int v_kind, .int v_number, .int v_wrong, .int v_wrongAt, .int v_faultKind, .int v_faultPlace, g_lows, g_highs, g_puffsOf, g_puffMany, g_touches, g_kept, .int v_why, g_pairs, g_few, g_freeOf, g_quarterOf, g_bestOf, g_areApart, .int v_fewMany, .int v_bestLatest, .int v_bestSum, g_sootFor, .int v_alwaysLit, .int v_theDay, g_goodIn, .int v_goodSome, g_hadSmoke, g_rowSort, g_rowMany, g_numbers])), (h1, .inl (q0, 900, .inl v_tape))] → va_S A s.heap H locs → W p l e ({ frames := 0, cells := 0, slots := 0, locals := 0 } : Room) s m ([.ref h0, .int a1] : List Value).toArray below meth c H locs 0 0 Q (F0 m 0 ls []) from K0 s.heap [] hP hD hS
  clear hP hD hS
  intro H locs hP hD hS
  unfold fX10_see at hf
  refine lv_iload_n hx hb dX10_see_0 rfl (lv_at hl 1 rfl) ?_
  refine lv_aload_n hx hb dX10_see_1 rfl (lv_at hl 0 rfl) ?_
  refine va_get (D := (dC, dI)) (ci := 10) (v := .int v_size) (C := RX10) (T := TX10) (N := 40) hx hb htb inG10 hown hK hP 0 rfl rfl 8 (by decide) (htb _ mF_X10_92) (fun _ h9 => h9) rfl dX10_see_2 ?_
  refine lv_icmp_ge (tgt := 17) hx hb dX10_see_5 (by decide) (fun c_1 => ?_) (fun c_1 => ?_)
  · have hf := oi_t hf c_1
    refine lv_iconst (v := -1) hx hb dX10_see_17 (by decide) ?_
    obtain rfl := Option.some.inj hf
    exact hRet H locs ls 18 hP hD hS rfl dX10_see_18
  · have hf := oi_f hf c_1
    refine lv_aload_n hx hb dX10_see_8 rfl (lv_at hl 0 rfl) ?_
    refine va_get (D := (dC, dI)) (ci := 10) (v := .ref h1) (C := RX10) (T := TX10) (N := 40) hx hb htb inG10 hown hK hP 0 rfl rfl 3 (by decide) (htb _ mF_X10_21) (fun _ h9 => h9) rfl dX10_see_9 ?_
    refine lv_iload_n hx hb dX10_see_12 rfl (lv_at hl 1 rfl) ?_
    obtain ⟨b_2, hf⟩ := og_some hf
    refine va_iald hx hb hK hP 1 0 rfl rfl (vb_ok b_2) dX10_see_13 ?_
    refine lv_goto (tgt := 18) hx hb dX10_see_14 (by decide) ?_
    obtain rfl := Option.some.inj hf
    exact hRet H locs ls 18 hP hD hS rfl dX10_see_18
def fX10_isSmall (F : Nat)  (a0 : Int32) : Option (Int32) := if a0 < (97 : Int32) then (some (0 : Int32)) else (if (122 : Int32) < a0 then (some (0 : Int32)) else (some (1 : Int32)))
set_option maxRecDepth 100000 in
set_option maxHeartbeats 4000000 in
theorem ctX10_isSmall (l : Launch) (dC : Nat → ClassId) (dI : Nat → Nat → Nat) (F sz : Nat)  (a0 : Int32) (out : Int32) (hf : fX10_isSmall F a0 = some out) : cM l yX10_isSmall cX10_isSmall 1 (some .boolean) ({ frames := 0, cells := 0, slots := 0, locals := 0 } : Room) (dC, dI) [] [] [.int a0] sz (some (.int out)) [] := by
  refine cM_I RX10 ⟨by decide, rfl⟩ (Nat.le_of_ble_eq_true rfl) ?_
  intro p e s m below meth c A Q ls hx hb hml hown hts hK hN hA hP hD hS hl hRet
  have htb : ∀ w ∈ lw_g, w.before ([.int a0] : List Value).toArray s = true := fun w h => hts w (List.mem_cons_of_mem _ h)
  have hl : lv_has ls 1 [(0, .int a0)] := hl
  suffices K0 : ∀ (H : Heap) (locs : List Loc), va_P (dC, dI) vwCl [] H → va_D A [] → va_S A s.heap H locs → W p l e ({ frames := 0, cells := 0, slots := 0, locals := 0 } : Room) s m ([.int a0] : List Value).toArray below meth c H locs 0 0 Q (F0 m 0 ls []) from K0 s.heap [] hP hD hS
  clear hP hD hS
  intro H locs hP hD hS
  unfold fX10_isSmall at hf
  refine lv_iload_n hx hb dX10_isSmall_0 rfl (lv_at hl 0 rfl) ?_
  refine lv_bipush (v := 97) hx hb dX10_isSmall_1 (by decide) ?_
  refine lv_icmp_lt (tgt := 16) hx hb dX10_isSmall_3 (by decide) (fun c_1 => ?_) (fun c_1 => ?_)
  · have hf := oi_t hf c_1
    refine lv_iconst (v := 0) hx hb dX10_isSmall_16 (by decide) ?_
    obtain rfl := Option.some.inj hf
    exact hRet H locs ls 17 hP hD hS nar0 dX10_isSmall_17
  · have hf := oi_f hf c_1
    refine lv_iload_n hx hb dX10_isSmall_6 rfl (lv_at hl 0 rfl) ?_
    refine lv_bipush (v := 122) hx hb dX10_isSmall_7 (by decide) ?_
    refine lv_icmp_gt (tgt := 16) hx hb dX10_isSmall_9 (by decide) (fun c_2 => ?_) (fun c_2 => ?_)
    · have hf := oi_t hf c_2
      refine lv_iconst (v := 0) hx hb dX10_isSmall_16 (by decide) ?_
      obtain rfl := Option.some.inj hf
      exact hRet H locs ls 17 hP hD hS nar0 dX10_isSmall_17
    · have hf := oi_f hf c_2
      refine lv_iconst (v := 1) hx hb dX10_isSmall_12 (by decide) ?_
      refine lv_goto (tgt := 17) hx hb dX10_isSmall_13 (by decide) ?_
      obtain rfl := Option.some.inj hf
      exact hRet H locs ls 17 hP hD hS nar1 dX10_isSmall_17
def fX10_isDigit (F : Nat)  (a0 : Int32) : Option (Int32) := if a0 < (48 : Int32) then (some (0 : Int32)) else (if (57 : Int32) < a0 then (some (0 : Int32)) else (some (1 : Int32)))
set_option maxRecDepth 100000 in
set_option maxHeartbeats 4000000 in
theorem ctX10_isDigit (l : Launch) (dC : Nat → ClassId) (dI : Nat → Nat → Nat) (F sz : Nat)  (a0 : Int32) (out : Int32) (hf : fX10_isDigit F a0 = some out) : cM l yX10_isDigit cX10_isDigit 1 (some .boolean) ({ frames := 0, cells := 0, slots := 0, locals := 0 } : Room) (dC, dI) [] [] [.int a0] sz (some (.int out)) [] := by
  refine cM_I RX10 ⟨by decide, rfl⟩ (Nat.le_of_ble_eq_true rfl) ?_
  intro p e s m below meth c A Q ls hx hb hml hown hts hK hN hA hP hD hS hl hRet
  have htb : ∀ w ∈ lw_g, w.before ([.int a0] : List Value).toArray s = true := fun w h => hts w (List.mem_cons_of_mem _ h)
  have hl : lv_has ls 1 [(0, .int a0)] := hl
  suffices K0 : ∀ (H : Heap) (locs : List Loc), va_P (dC, dI) vwCl [] H → va_D A [] → va_S A s.heap H locs → W p l e ({ frames := 0, cells := 0, slots := 0, locals := 0 } : Room) s m ([.int a0] : List Value).toArray below meth c H locs 0 0 Q (F0 m 0 ls []) from K0 s.heap [] hP hD hS
  clear hP hD hS
  intro H locs hP hD hS
  unfold fX10_isDigit at hf
  refine lv_iload_n hx hb dX10_isDigit_0 rfl (lv_at hl 0 rfl) ?_
  refine lv_bipush (v := 48) hx hb dX10_isDigit_1 (by decide) ?_
  refine lv_icmp_lt (tgt := 16) hx hb dX10_isDigit_3 (by decide) (fun c_1 => ?_) (fun c_1 => ?_)
  · have hf := oi_t hf c_1
    refine lv_iconst (v := 0) hx hb dX10_isDigit_16 (by decide) ?_
    obtain rfl := Option.some.inj hf
    exact hRet H locs ls 17 hP hD hS nar0 dX10_isDigit_17
  · have hf := oi_f hf c_1
    refine lv_iload_n hx hb dX10_isDigit_6 rfl (lv_at hl 0 rfl) ?_
    refine lv_bipush (v := 57) hx hb dX10_isDigit_7 (by decide) ?_
    refine lv_icmp_gt (tgt := 16) hx hb dX10_isDigit_9 (by decide) (fun c_2 => ?_) (fun c_2 => ?_)
    · have hf := oi_t hf c_2
      refine lv_iconst (v := 0) hx hb dX10_isDigit_16 (by decide) ?_
      obtain rfl := Option.some.inj hf
      exact hRet H locs ls 17 hP hD hS nar0 dX10_isDigit_17
    · have hf := oi_f hf c_2
      refine lv_iconst (v := 1) hx hb dX10_isDigit_12 (by decide) ?_
      refine lv_goto (tgt := 17) hx hb dX10_isDigit_13 (by decide) ?_
      obtain rfl := Option.some.inj hf
      exact hRet H locs ls 17 hP hD hS nar1 dX10_isDigit_17
def fX10_fails_L23 (F : Nat) (v_at : Int32) (v_kind : Int32) (a1 : Int32) (s0 : Int32) (v_wrong : Int32) (v_wrongAt : Int32) : Option (Int32 × Int32) := some (s0, v_at)
def fX10_fails (F : Nat) (v_at : Int32) (v_kind : Int32) (v_wrong : Int32) (v_wrongAt : Int32) (a1 : Int32) : Option (Int32 × Int32) := if v_wrong = 0 then (if v_kind = (11 : Int32) then (fX10_fails_L23 F v_at v_kind a1 (1 : Int32) v_wrong v_wrongAt) else (fX10_fails_L23 F v_at v_kind a1 a1 v_wrong v_wrongAt)) else (some (v_wrong, v_wrongAt))
set_option maxRecDepth 100000 in
set_option maxHeartbeats 4000000 in
theorem ctX10_fails (l : Launch) (dC : Nat → ClassId) (dI : Nat → Nat → Nat) (F sz : Nat) (h0 : Nat) (v_thrown : Int32) (g_all : Value) (g_hasImage : Value) (g_tape : Value) (g_fresh : Value) (v_taped : Int32) (v_at : Int32) (v_behind : Int32) (v_size : Int32) (v_kind : Int32) (v_number : Int32) (v_wrong : Int32) (v_wrongAt : Int32) (v_faultKind : Int32) (v_faultPlace : Int32) (g_lows : Value) (g_highs : Value) (g_puffsOf : Value) (g_puffMany : Value) (g_touches : Value) (g_kept : Value) (v_why : Int32) (g_pairs : Value) (g_few : Value) (g_freeOf : Value) (g_quarterOf : Value) (g_bestOf : Value) (g_areApart : Value) (v_fewMany : Int32) (v_bestLatest : Int32) (v_bestSum : Int32) (g_sootFor : Value) (v_alwaysLit : Int32) (v_theDay : Int32) (g_goodIn : Value) (v_goodSome : Int32) (g_hadSmoke : Value) (g_rowSort : Value) (g_rowMany : Value) (g_numbers : Value) (a1 : Int32) (out : Int32 × Int32) (hf : fX10_fails F v_at v_kind v_wrong v_wrongAt a1 = some out) : cM l yX10_fails cX10_fails 2 none ({ frames := 0, cells := 0, slots := 0, locals := 0 } : Room) (dC, dI) [] [(h0, .inr (10, [.int v_thrown, g_all, g_hasImage, g_tape, g_fresh, .int v_taped, .int v_at, .int v_behind, .int v_size, .int v_kind, .int v_number, .int v_wrong, .int v_wrongAt, .int v_faultKind, .int v_faultPlace, g_lows, g_highs, g_puffsOf, g_puffMany, g_touches, g_kept, .int v_why, g_pairs, g_few, g_freeOf, g_quarterOf, g_bestOf, g_areApart, .int v_fewMany, .int v_bestLatest, .int v_bestSum, g_sootFor, .int v_alwaysLit, .int v_theDay, g_goodIn, .int v_goodSome, g_hadSmoke, g_rowSort, g_rowMany, g_numbers]))] [.ref h0, .int a1] sz none [(h0, .inr (10, [.int v_thrown, g_all, g_hasImage, g_tape, g_fresh, .int v_taped, .int v_at, .int v_behind, .int v_size, .int v_kind, .int v_number, .int out.1, .int out.2, .int v_faultKind, .int v_faultPlace, g_lows, g_highs, g_puffsOf, g_puffMany, g_touches, g_kept, .int v_why, g_pairs, g_few, g_freeOf, g_quarterOf, g_bestOf, g_areApart, .int v_fewMany, .int v_bestLatest, .int v_bestSum, g_sootFor, .int v_alwaysLit, .int v_theDay, g_goodIn, .int v_goodSome, g_hadSmoke, g_rowSort, g_rowMany, g_numbers]))] := by
  refine cM_V RX10 ⟨by decide, rfl⟩ (Nat.le_of_ble_eq_true rfl) ?_
  intro p e s m below meth c A Q ls hx hb hml hown hts hK hN hA hP hD hS hl hRet
  have htb : ∀ w ∈ lw_g, w.before ([.ref h0, .int a1] : List Value).toArray s = true := fun w h => hts w (List.mem_cons_of_mem _ h)
  have hl : lv_has ls 2 [(0, .ref h0), (1, .int a1)] := hl
  have L23 : ∀ (H : Heap) (locs : List Loc) (ls : Array Slot) (s0 : Int32) (v_wrong : Int32) (v_wrongAt : Int32), va_P (dC, dI) vwCl [(h0, .inr (10, [.int v_thrown, g_all, g_hasImage, g_tape, g_fresh, .int v_taped, .int v_at, .int v_behind, .int v_size, .int v_kind, .int v_number, .int v_wrong, .int v_wrongAt, .int v_faultKind, .int v_faultPlace, g_lows, g_highs, g_puffsOf, g_puffMany, g_touches, g_kept, .int v_why, g_pairs, g_few, g_freeOf, g_quarterOf, g_bestOf, g_areApart, .int v_fewMany, .int v_bestLatest, .int v_bestSum, g_sootFor, .int v_alwaysLit, .int v_theDay, g_goodIn, .int v_goodSome, g_hadSmoke, g_rowSort, g_rowMany, g_numbers]))] H → va_D A [(h0, .inr (10, [.int v_thrown, g_all, g_hasImage, g_tape, g_fresh, .int v_taped, .int v_at, .int v_behind, .int v_size, .int v_kind, .int v_number, .int v_wrong, .int v_wrongAt, .int v_faultKind, .int v_faultPlace, g_lows, g_highs, g_puffsOf, g_puffMany, g_touches, g_kept, .int v_why, g_pairs, g_few, g_freeOf, g_quarterOf, g_bestOf, g_areApart, .int v_fewMany, .int v_bestLatest, .int v_bestSum, g_sootFor, .int v_alwaysLit, .int v_theDay, g_goodIn, .int v_goodSome, g_hadSmoke, g_rowSort, g_rowMany, g_numbers]))] → va_S A s.heap H locs → lv_has ls 2 [(0, .ref h0)] → fX10_fails_L23 F v_at v_kind a1 s0 v_wrong v_wrongAt = some out → W p l e ({ frames := 0, cells := 0, slots := 0, locals := 0 } : Room) s m ([.ref h0, .int a1] : List Value).toArray below meth c H locs 0 0 Q (F0 m 23 ls [.int s0, .ref h0]) := by
    intro H locs ls s0 v_wrong v_wrongAt hP hD hS hl hf
    unfold fX10_fails_L23 at hf
    refine va_put (D := (dC, dI)) (ci := 10) (v := .int s0) (ty := .int) (C := RX10) (T := TX10) (N := 40) hx hb htb inG10 tyX10 tyX10_ok nmX10 hown hK hP hD hS 0 rfl rfl 11 (by decide) (htb _ mF_X10_133) (fun _ h9 => h9) rfl (by decide +kernel) rfl rfl (Nat.le_of_ble_eq_true rfl) dX10_fails_23 (fun H locs hP hD hS => ?_)
    have hP : va_P (dC, dI) vwCl [(h0, .inr (10, [.int v_thrown, g_all, g_hasImage, g_tape, g_fresh, .int v_taped, .int v_at, .int v_behind, .int v_size, .int v_kind, .int v_number, .int s0, .int v_wrongAt, .int v_faultKind, .int v_faultPlace, g_lows, g_highs, g_puffsOf, g_puffMany, g_touches, g_kept, .int v_why, g_pairs, g_few, g_freeOf, g_quarterOf, g_bestOf, g_areApart, .int v_fewMany, .int v_bestLatest, .int v_bestSum, g_sootFor, .int v_alwaysLit, .int v_theDay, g_goodIn, .int v_goodSome, g_hadSmoke, g_rowSort, g_rowMany, g_numbers]))] H := hP
    have hD : va_D A [(h0, .inr (10, [.int v_thrown, g_all, g_hasImage, g_tape, g_fresh, .int v_taped, .int v_at, .int v_behind, .int v_size, .int v_kind, .int v_number, .int s0, .int v_wrongAt, .int v_faultKind, .int v_faultPlace, g_lows, g_highs, g_puffsOf, g_puffMany, g_touches, g_kept, .int v_why, g_pairs, g_few, g_freeOf, g_quarterOf, g_bestOf, g_areApart, .int v_fewMany, .int v_bestLatest, .int v_bestSum, g_sootFor, .int v_alwaysLit, .int v_theDay, g_goodIn, .int v_goodSome, g_hadSmoke, g_rowSort, g_rowMany, g_numbers]))] := hD
    refine lv_aload_n hx hb dX10_fails_26 rfl (lv_at hl 0 rfl) ?_
    refine lv_aload_n hx hb dX10_fails_27 rfl (lv_at hl 0 rfl) ?_
    refine va_get (D := (dC, dI)) (ci := 10) (v := .int v_at) (C := RX10) (T := TX10) (N := 40) hx hb htb inG10 hown hK hP 0 rfl rfl 6 (by decide) (htb _ mF_X10_107) (fun _ h9 => h9) rfl dX10_fails_28 ?_
    refine va_put (D := (dC, dI)) (ci := 10) (v := .int v_at) (ty := .int) (C := RX10) (T := TX10) (N := 40) hx hb htb inG10 tyX10 tyX10_ok nmX10 hown hK hP hD hS 0 rfl rfl 12 (by decide) (htb _ mF_X10_136) (fun _ h9 => h9) rfl (by decide +kernel) rfl rfl (Nat.le_of_ble_eq_true rfl) dX10_fails_31 (fun H locs hP hD hS => ?_)
    have hP : va_P (dC, dI) vwCl [(h0, .inr (10, [.int v_thrown, g_all, g_hasImage, g_tape, g_fresh, .int v_taped, .int v_at, .int v_behind, .int v_size, .int v_kind, .int v_number, .int s0, .int v_at, .int v_faultKind, .int v_faultPlace, g_lows, g_highs, g_puffsOf, g_puffMany, g_touches, g_kept, .int v_why, g_pairs, g_few, g_freeOf, g_quarterOf, g_bestOf, g_areApart, .int v_fewMany, .int v_bestLatest, .int v_bestSum, g_sootFor, .int v_alwaysLit, .int v_theDay, g_goodIn, .int v_goodSome, g_hadSmoke, g_rowSort, g_rowMany, g_numbers]))] H := hP
    have hD : va_D A [(h0, .inr (10, [.int v_thrown, g_all, g_hasImage, g_tape, g_fresh, .int v_taped, .int v_at, .int v_behind, .int v_size, .int v_kind, .int v_number, .int s0, .int v_at, .int v_faultKind, .int v_faultPlace, g_lows, g_highs, g_puffsOf, g_puffMany, g_touches, g_kept, .int v_why, g_pairs, g_few, g_freeOf, g_quarterOf, g_bestOf, g_areApart, .int v_fewMany, .int v_bestLatest, .int v_bestSum, g_sootFor, .int v_alwaysLit, .int v_theDay, g_goodIn, .int v_goodSome, g_hadSmoke, g_rowSort, g_rowMany, g_numbers]))] := hD
    obtain rfl := Option.some.inj hf
    exact hRet H locs ls 34 hP hD hS dX10_fails_34
  suffices K0 : ∀ (H : Heap) (locs : List Loc), va_P (dC, dI) vwCl [(h0, .inr (10, [.int v_thrown, g_all, g_hasImage, g_tape, g_fresh, .int v_taped, .int v_at, .int v_behind, .int v_size, .int v_kind, .int v_number, .int v_wrong, .int v_wrongAt, .int v_faultKind, .int v_faultPlace, g_lows, g_highs, g_puffsOf, g_puffMany, g_touches, g_kept, .int v_why, g_pairs, g_few, g_freeOf, g_quarterOf, g_bestOf, g_areApart, .int v_fewMany, .int v_bestLatest, .int v_bestSum, g_sootFor, .int v_alwaysLit, .int v_theDay, g_goodIn, .int v_goodSome, g_hadSmoke, g_rowSort, g_rowMany, g_numbers]))] H → va_D A [(h0, .inr (10, [.int v_thrown, g_all, g_hasImage, g_tape, g_fresh, .int v_taped, .int v_at, .int v_behind, .int v_size, .int v_kind, .int v_number, .int v_wrong, .int v_wrongAt, .int v_faultKind, .int v_faultPlace, g_lows, g_highs, g_puffsOf, g_puffMany, g_touches, g_kept, .int v_why, g_pairs, g_few, g_freeOf, g_quarterOf, g_bestOf, g_areApart, .int v_fewMany, .int v_bestLatest, .int v_bestSum, g_sootFor, .int v_alwaysLit, .int v_theDay, g_goodIn, .int v_goodSome, g_hadSmoke, g_rowSort, g_rowMany, g_numbers]))] → va_S A s.heap H locs → W p l e ({ frames := 0, cells := 0, slots := 0, locals := 0 } : Room) s m ([.ref h0, .int a1] : List Value).toArray below meth c H locs 0 0 Q (F0 m 0 ls []) from K0 s.heap [] hP hD hS
  clear hP hD hS
  intro H locs hP hD hS
  unfold fX10_fails at hf
  refine lv_aload_n hx hb dX10_fails_0 rfl (lv_at hl 0 rfl) ?_
  refine va_get (D := (dC, dI)) (ci := 10) (v := .int v_wrong) (C := RX10) (T := TX10) (N := 40) hx hb htb inG10 hown hK hP 0 rfl rfl 11 (by decide) (htb _ mF_X10_133) (fun _ h9 => h9) rfl dX10_fails_1 ?_
  refine lv_if_eq (tgt := 8) hx hb dX10_fails_4 (by decide) (fun c_1 => ?_) (fun c_1 => ?_)
  · have hf := oi_t hf c_1
    refine lv_aload_n hx hb dX10_fails_8 rfl (lv_at hl 0 rfl) ?_
    refine lv_aload_n hx hb dX10_fails_9 rfl (lv_at hl 0 rfl) ?_
    refine va_get (D := (dC, dI)) (ci := 10) (v := .int v_kind) (C := RX10) (T := TX10) (N := 40) hx hb htb inG10 hown hK hP 0 rfl rfl 9 (by decide) (htb _ mF_X10_117) (fun _ h9 => h9) rfl dX10_fails_10 ?_
    refine lv_bipush (v := 11) hx hb dX10_fails_13 (by decide) ?_
    refine lv_icmp_ne (tgt := 22) hx hb dX10_fails_15 (by decide) (fun c_2 => ?_) (fun c_2 => ?_)
    · have hf := oi_f hf c_2
      refine lv_iload_n hx hb dX10_fails_22 rfl (lv_at hl 1 rfl) ?_
      exact L23 H locs ls a1 v_wrong v_wrongAt hP hD hS (lv_sub hl [0] rfl) hf
    · have hf := oi_t hf c_2
      refine lv_iconst (v := 1) hx hb dX10_fails_18 (by decide) ?_
      refine lv_goto (tgt := 23) hx hb dX10_fails_19 (by decide) ?_
      exact L23 H locs ls (1 : Int32) v_wrong v_wrongAt hP hD hS (lv_sub hl [0] rfl) hf
  · have hf := oi_f hf c_1
    obtain rfl := Option.some.inj hf
    exact hRet H locs ls 7 hP hD hS dX10_fails_7
def fX10_is (F : Nat) (v_kind : Int32) (v_wrong : Int32) (a1 : Int32) : Option (Int32) := if v_wrong = 0 then (if v_kind = a1 then (some (1 : Int32)) else (some (0 : Int32))) else (some (0 : Int32))
set_option maxRecDepth 100000 in
set_option maxHeartbeats 4000000 in
theorem ctX10_is (l : Launch) (dC : Nat → ClassId) (dI : Nat → Nat → Nat) (F sz : Nat) (h0 : Nat) (v_thrown : Int32) (g_all : Value) (g_hasImage : Value) (g_tape : Value) (g_fresh : Value) (v_taped : Int32) (v_at : Int32) (v_behind : Int32) (v_size : Int32) (v_kind : Int32) (v_number : Int32) (v_wrong : Int32) (v_wrongAt : Int32) (v_faultKind : Int32) (v_faultPlace : Int32) (g_lows : Value) (g_highs : Value) (g_puffsOf : Value) (g_puffMany : Value) (g_touches : Value) (g_kept : Value) (v_why : Int32) (g_pairs : Value) (g_few : Value) (g_freeOf : Value) (g_quarterOf : Value) (g_bestOf : Value) (g_areApart : Value) (v_fewMany : Int32) (v_bestLatest : Int32) (v_bestSum : Int32) (g_sootFor : Value) (v_alwaysLit : Int32) (v_theDay : Int32) (g_goodIn : Value) (v_goodSome : Int32) (g_hadSmoke : Value) (g_rowSort : Value) (g_rowMany : Value) (g_numbers : Value) (a1 : Int32) (out : Int32) (hf : fX10_is F v_kind v_wrong a1 = some out) : cM l yX10_is cX10_is 2 (some .boolean) ({ frames := 0, cells := 0, slots := 0, locals := 0 } : Room) (dC, dI) [] [(h0, .inr (10, [.int v_thrown, g_all, g_hasImage, g_tape, g_fresh, .int v_taped, .int v_at, .int v_behind, .int v_size, .int v_kind, .int v_number, .int v_wrong, .int v_wrongAt, .int v_faultKind, .int v_faultPlace, g_lows, g_highs, g_puffsOf, g_puffMany, g_touches, g_kept, .int v_why, g_pairs, g_few, g_freeOf, g_quarterOf, g_bestOf, g_areApart, .int v_fewMany, .int v_bestLatest, .int v_bestSum, g_sootFor, .int v_alwaysLit, .int v_theDay, g_goodIn, .int v_goodSome, g_hadSmoke, g_rowSort, g_rowMany, g_numbers]))] [.ref h0, .int a1] sz (some (.int out)) [(h0, .inr (10, [.int v_thrown, g_all, g_hasImage, g_tape, g_fresh, .int v_taped, .int v_at, .int v_behind, .int v_size, .int v_kind, .int v_number, .int v_wrong, .int v_wrongAt, .int v_faultKind, .int v_faultPlace, g_lows, g_highs, g_puffsOf, g_puffMany, g_touches, g_kept, .int v_why, g_pairs, g_few, g_freeOf, g_quarterOf, g_bestOf, g_areApart, .int v_fewMany, .int v_bestLatest, .int v_bestSum, g_sootFor, .int v_alwaysLit, .int v_theDay, g_goodIn, .int v_goodSome, g_hadSmoke, g_rowSort, g_rowMany, g_numbers]))] := by
  refine cM_I RX10 ⟨by decide, rfl⟩ (Nat.le_of_ble_eq_true rfl) ?_
  intro p e s m below meth c A Q ls hx hb hml hown hts hK hN hA hP hD hS hl hRet
  have htb : ∀ w ∈ lw_g, w.before ([.ref h0, .int a1] : List Value).toArray s = true := fun w h => hts w (List.mem_cons_of_mem _ h)
  have hl : lv_has ls 2 [(0, .ref h0), (1, .int a1)] := hl
  suffices K0 : ∀ (H : Heap) (locs : List Loc), va_P (dC, dI) vwCl [(h0, .inr (10, [.int v_thrown, g_all, g_hasImage, g_tape, g_fresh, .int v_taped, .int v_at, .int v_behind, .int v_size, .int v_kind, .int v_number, .int v_wrong, .int v_wrongAt, .int v_faultKind, .int v_faultPlace, g_lows, g_highs, g_puffsOf, g_puffMany, g_touches, g_kept, .int v_why, g_pairs, g_few, g_freeOf, g_quarterOf, g_bestOf, g_areApart, .int v_fewMany, .int v_bestLatest, .int v_bestSum, g_sootFor, .int v_alwaysLit, .int v_theDay, g_goodIn, .int v_goodSome, g_hadSmoke, g_rowSort, g_rowMany, g_numbers]))] H → va_D A [(h0, .inr (10, [.int v_thrown, g_all, g_hasImage, g_tape, g_fresh, .int v_taped, .int v_at, .int v_behind, .int v_size, .int v_kind, .int v_number, .int v_wrong, .int v_wrongAt, .int v_faultKind, .int v_faultPlace, g_lows, g_highs, g_puffsOf, g_puffMany, g_touches, g_kept, .int v_why, g_pairs, g_few, g_freeOf, g_quarterOf, g_bestOf, g_areApart, .int v_fewMany, .int v_bestLatest, .int v_bestSum, g_sootFor, .int v_alwaysLit, .int v_theDay, g_goodIn, .int v_goodSome, g_hadSmoke, g_rowSort, g_rowMany, g_numbers]))] → va_S A s.heap H locs → W p l e ({ frames := 0, cells := 0, slots := 0, locals := 0 } : Room) s m ([.ref h0, .int a1] : List Value).toArray below meth c H locs 0 0 Q (F0 m 0 ls []) from K0 s.heap [] hP hD hS
  clear hP hD hS
  intro H locs hP hD hS
  unfold fX10_is at hf
  refine lv_aload_n hx hb dX10_is_0 rfl (lv_at hl 0 rfl) ?_
  refine va_get (D := (dC, dI)) (ci := 10) (v := .int v_wrong) (C := RX10) (T := TX10) (N := 40) hx hb htb inG10 hown hK hP 0 rfl rfl 11 (by decide) (htb _ mF_X10_133) (fun _ h9 => h9) rfl dX10_is_1 ?_
  refine lv_if_ne (tgt := 19) hx hb dX10_is_4 (by decide) (fun c_1 => ?_) (fun c_1 => ?_)
  · have hf := oi_f hf c_1
    refine lv_iconst (v := 0) hx hb dX10_is_19 (by decide) ?_
    obtain rfl := Option.some.inj hf
    exact hRet H locs ls 20 hP hD hS nar0 dX10_is_20
  · have hf := oi_t hf c_1
    refine lv_aload_n hx hb dX10_is_7 rfl (lv_at hl 0 rfl) ?_
    refine va_get (D := (dC, dI)) (ci := 10) (v := .int v_kind) (C := RX10) (T := TX10) (N := 40) hx hb htb inG10 hown hK hP 0 rfl rfl 9 (by decide) (htb _ mF_X10_117) (fun _ h9 => h9) rfl dX10_is_8 ?_
    refine lv_iload_n hx hb dX10_is_11 rfl (lv_at hl 1 rfl) ?_
    refine lv_icmp_ne (tgt := 19) hx hb dX10_is_12 (by decide) (fun c_2 => ?_) (fun c_2 => ?_)
    · have hf := oi_f hf c_2
      refine lv_iconst (v := 0) hx hb dX10_is_19 (by decide) ?_
      obtain rfl := Option.some.inj hf
      exact hRet H locs ls 20 hP hD hS nar0 dX10_is_20
    · have hf := oi_t hf c_2
      refine lv_iconst (v := 1) hx hb dX10_is_15 (by decide) ?_
      refine lv_goto (tgt := 20) hx hb dX10_is_16 (by decide) ?_
      obtain rfl := Option.some.inj hf
      exact hRet H locs ls 20 hP hD hS nar1 dX10_is_20
def fX10_fault (F : Nat) (v_thrown : Int32) (v_faultKind : Int32) (v_faultPlace : Int32) (a1 : Int32) : Option (Int32 × Int32) := if a1 = 0 then (some (v_faultKind, (0 : Int32))) else (if a1 = (1 : Int32) then (some (v_faultPlace, (0 : Int32))) else (some ((-1 : Int32), (0 : Int32))))
set_option maxRecDepth 100000 in
set_option maxHeartbeats 4000000 in
theorem ctX10_fault (l : Launch) (dC : Nat → ClassId) (dI : Nat → Nat → Nat) (F sz : Nat) (h0 : Nat) (v_thrown : Int32) (g_all : Value) (g_hasImage : Value) (g_tape : Value) (g_fresh : Value) (v_taped : Int32) (v_at : Int32) (v_behind : Int32) (v_size : Int32) (v_kind : Int32) (v_number : Int32) (v_wrong : Int32) (v_wrongAt : Int32) (v_faultKind : Int32) (v_faultPlace : Int32) (g_lows : Value) (g_highs : Value) (g_puffsOf : Value) (g_puffMany : Value) (g_touches : Value) (g_kept : Value) (v_why : Int32) (g_pairs : Value) (g_few : Value) (g_freeOf : Value) (g_quarterOf : Value) (g_bestOf : Value) (g_areApart : Value) (v_fewMany : Int32) (v_bestLatest : Int32) (v_bestSum : Int32) (g_sootFor : Value) (v_alwaysLit : Int32) (v_theDay : Int32) (g_goodIn : Value) (v_goodSome : Int32) (g_hadSmoke : Value) (g_rowSort : Value) (g_rowMany : Value) (g_numbers : Value) (a1 : Int32) (out : Int32 × Int32) (hf : fX10_fault F v_thrown v_faultKind v_faultPlace a1 = some out) : cM l yX10_fault cX10_fault 2 (some .int) ({ frames := 0, cells := 0, slots := 0, locals := 0 } : Room) (dC, dI) [] [(h0, .inr (10, [.int v_thrown, g_all, g_hasImage, g_tape, g_fresh, .int v_taped, .int v_at, .int v_behind, .int v_size, .int v_kind, .int v_number, .int v_wrong, .int v_wrongAt, .int v_faultKind, .int v_faultPlace, g_lows, g_highs, g_puffsOf, g_puffMany, g_touches, g_kept, .int v_why, g_pairs, g_few, g_freeOf, g_quarterOf, g_bestOf, g_areApart, .int v_fewMany, .int v_bestLatest, .int v_bestSum, g_sootFor, .int v_alwaysLit, .int v_theDay, g_goodIn, .int v_goodSome, g_hadSmoke, g_rowSort, g_rowMany, g_numbers]))] [.ref h0, .int a1] sz (some (.int out.1)) [(h0, .inr (10, [.int out.2, g_all, g_hasImage, g_tape, g_fresh, .int v_taped, .int v_at, .int v_behind, .int v_size, .int v_kind, .int v_number, .int v_wrong, .int v_wrongAt, .int v_faultKind, .int v_faultPlace, g_lows, g_highs, g_puffsOf, g_puffMany, g_touches, g_kept, .int v_why, g_pairs, g_few, g_freeOf, g_quarterOf, g_bestOf, g_areApart, .int v_fewMany, .int v_bestLatest, .int v_bestSum, g_sootFor, .int v_alwaysLit, .int v_theDay, g_goodIn, .int v_goodSome, g_hadSmoke, g_rowSort, g_rowMany, g_numbers]))] := by
  refine cM_I RX10 ⟨by decide, rfl⟩ (Nat.le_of_ble_eq_true rfl) ?_
  intro p e s m below meth c A Q ls hx hb hml hown hts hK hN hA hP hD hS hl hRet
  have htb : ∀ w ∈ lw_g, w.before ([.ref h0, .int a1] : List Value).toArray s = true := fun w h => hts w (List.mem_cons_of_mem _ h)
  have hl : lv_has ls 2 [(0, .ref h0), (1, .int a1)] := hl
  suffices K0 : ∀ (H : Heap) (locs : List Loc), va_P (dC, dI) vwCl [(h0, .inr (10, [.int v_thrown, g_all, g_hasImage, g_tape, g_fresh, .int v_taped, .int v_at, .int v_behind, .int v_size, .int v_kind, .int v_number, .int v_wrong, .int v_wrongAt, .int v_faultKind, .int v_faultPlace, g_lows, g_highs, g_puffsOf, g_puffMany, g_touches, g_kept, .int v_why, g_pairs, g_few, g_freeOf, g_quarterOf, g_bestOf, g_areApart, .int v_fewMany, .int v_bestLatest, .int v_bestSum, g_sootFor, .int v_alwaysLit, .int v_theDay, g_goodIn, .int v_goodSome, g_hadSmoke, g_rowSort, g_rowMany, g_numbers]))] H → va_D A [(h0, .inr (10, [.int v_thrown, g_all, g_hasImage, g_tape, g_fresh, .int v_taped, .int v_at, .int v_behind, .int v_size, .int v_kind, .int v_number, .int v_wrong, .int v_wrongAt, .int v_faultKind, .int v_faultPlace, g_lows, g_highs, g_puffsOf, g_puffMany, g_touches, g_kept, .int v_why, g_pairs, g_few, g_freeOf, g_quarterOf, g_bestOf, g_areApart, .int v_fewMany, .int v_bestLatest, .int v_bestSum, g_sootFor, .int v_alwaysLit, .int v_theDay, g_goodIn, .int v_goodSome, g_hadSmoke, g_rowSort, g_rowMany, g_numbers]))] → va_S A s.heap H locs → W p l e ({ frames := 0, cells := 0, slots := 0, locals := 0 } : Room) s m ([.ref h0, .int a1] : List Value).toArray below meth c H locs 0 0 Q (F0 m 0 ls []) from K0 s.heap [] hP hD hS
  clear hP hD hS
  intro H locs hP hD hS
  unfold fX10_fault at hf
  refine lv_aload_n hx hb dX10_fault_0 rfl (lv_at hl 0 rfl) ?_
  refine lv_iconst (v := 0) hx hb dX10_fault_1 (by decide) ?_
  refine va_put (D := (dC, dI)) (ci := 10) (v := .int (0 : Int32)) (ty := .int) (C := RX10) (T := TX10) (N := 40) hx hb htb inG10 tyX10 tyX10_ok nmX10 hown hK hP hD hS 0 rfl rfl 0 (by decide) (htb _ mF_X10_1) (fun _ h9 => h9) rfl (by decide +kernel) rfl rfl (Nat.le_of_ble_eq_true rfl) dX10_fault_2 (fun H locs hP hD hS => ?_)
  have hP : va_P (dC, dI) vwCl [(h0, .inr (10, [.int (0 : Int32), g_all, g_hasImage, g_tape, g_fresh, .int v_taped, .int v_at, .int v_behind, .int v_size, .int v_kind, .int v_number, .int v_wrong, .int v_wrongAt, .int v_faultKind, .int v_faultPlace, g_lows, g_highs, g_puffsOf, g_puffMany, g_touches, g_kept, .int v_why, g_pairs, g_few, g_freeOf, g_quarterOf, g_bestOf, g_areApart, .int v_fewMany, .int v_bestLatest, .int v_bestSum, g_sootFor, .int v_alwaysLit, .int v_theDay, g_goodIn, .int v_goodSome, g_hadSmoke, g_rowSort, g_rowMany, g_numbers]))] H := hP
  have hD : va_D A [(h0, .inr (10, [.int (0 : Int32), g_all, g_hasImage, g_tape, g_fresh, .int v_taped, .int v_at, .int v_behind, .int v_size, .int v_kind, .int v_number, .int v_wrong, .int v_wrongAt, .int v_faultKind, .int v_faultPlace, g_lows, g_highs, g_puffsOf, g_puffMany, g_touches, g_kept, .int v_why, g_pairs, g_few, g_freeOf, g_quarterOf, g_bestOf, g_areApart, .int v_fewMany, .int v_bestLatest, .int v_bestSum, g_sootFor, .int v_alwaysLit, .int v_theDay, g_goodIn, .int v_goodSome, g_hadSmoke, g_rowSort, g_rowMany, g_numbers]))] := hD
  refine lv_iload_n hx hb dX10_fault_5 rfl (lv_at hl 1 rfl) ?_
  refine lv_if_ne (tgt := 16) hx hb dX10_fault_6 (by decide) (fun c_1 => ?_) (fun c_1 => ?_)
  · have hf := oi_f hf c_1
    refine lv_iload_n hx hb dX10_fault_16 rfl (lv_at hl 1 rfl) ?_
    refine lv_iconst (v := 1) hx hb dX10_fault_17 (by decide) ?_
    refine lv_icmp_ne (tgt := 28) hx hb dX10_fault_18 (by decide) (fun c_2 => ?_) (fun c_2 => ?_)
    · have hf := oi_f hf c_2
      refine lv_iconst (v := -1) hx hb dX10_fault_28 (by decide) ?_
      obtain rfl := Option.some.inj hf
      exact hRet H locs ls 29 hP hD hS rfl dX10_fault_29
    · have hf := oi_t hf c_2
      refine lv_aload_n hx hb dX10_fault_21 rfl (lv_at hl 0 rfl) ?_
      refine va_get (D := (dC, dI)) (ci := 10) (v := .int v_faultPlace) (C := RX10) (T := TX10) (N := 40) hx hb htb inG10 hown hK hP 0 rfl rfl 14 (by decide) (htb _ mF_X10_27) (fun _ h9 => h9) rfl dX10_fault_22 ?_
      refine lv_goto (tgt := 29) hx hb dX10_fault_25 (by decide) ?_
      obtain rfl := Option.some.inj hf
      exact hRet H locs ls 29 hP hD hS rfl dX10_fault_29
  · have hf := oi_t hf c_1
    refine lv_aload_n hx hb dX10_fault_9 rfl (lv_at hl 0 rfl) ?_
    refine va_get (D := (dC, dI)) (ci := 10) (v := .int v_faultKind) (C := RX10) (T := TX10) (N := 40) hx hb htb inG10 hown hK hP 0 rfl rfl 13 (by decide) (htb _ mF_X10_168) (fun _ h9 => h9) rfl dX10_fault_10 ?_
    refine lv_goto (tgt := 29) hx hb dX10_fault_13 (by decide) ?_
    obtain rfl := Option.some.inj hf
    exact hRet H locs ls 29 hP hD hS rfl dX10_fault_29
def fX10_isChimney (F : Nat) (v_all : Nat → Int32) (a1 : Int64) : Option (Int32) := ob (fX10_within F a1 (0 : Int64) ((((v_all (0 : Int32).toNatClampNeg) - (1 : Int32)) : Int32).toInt64)) (fun o_1 => og (zb o_1) (some o_1))
set_option maxRecDepth 100000 in
set_option maxHeartbeats 4000000 in
theorem ctX10_isChimney (l : Launch) (dC : Nat → ClassId) (dI : Nat → Nat → Nat) (F sz : Nat) (h0 h1 : Nat) (q0 : ClassId) (v_thrown : Int32) (g_hasImage : Value) (g_tape : Value) (g_fresh : Value) (v_taped : Int32) (v_at : Int32) (v_behind : Int32) (v_size : Int32) (v_kind : Int32) (v_number : Int32) (v_wrong : Int32) (v_wrongAt : Int32) (v_faultKind : Int32) (v_faultPlace : Int32) (g_lows : Value) (g_highs : Value) (g_puffsOf : Value) (g_puffMany : Value) (g_touches : Value) (g_kept : Value) (v_why : Int32) (g_pairs : Value) (g_few : Value) (g_freeOf : Value) (g_quarterOf : Value) (g_bestOf : Value) (g_areApart : Value) (v_fewMany : Int32) (v_bestLatest : Int32) (v_bestSum : Int32) (g_sootFor : Value) (v_alwaysLit : Int32) (v_theDay : Int32) (g_goodIn : Value) (v_goodSome : Int32) (g_hadSmoke : Value) (g_rowSort : Value) (g_rowMany : Value) (g_numbers : Value) (v_all : Nat → Int32) (a1 : Int64) (out : Int32) (hf : fX10_isChimney F v_all a1 = some out) : cM l yX10_isChimney cX10_isChimney 3 (some .boolean) ({ frames := 1, cells := 0, slots := 0, locals := 25 } : Room) (dC, dI) [(q0, .int)] [(h0, .inr (10, [.int v_thrown, .ref h1, g_hasImage, g_tape, g_fresh, .int v_taped, .int v_at, .int v_behind, .int v_size, .int v_kind, .int v_number, .int v_wrong, .int v_wrongAt, .int v_faultKind, .int v_faultPlace, g_lows, g_highs, g_puffsOf, g_puffMany, g_touches, g_kept, .int v_why, g_pairs, g_few, g_freeOf, g_quarterOf, g_bestOf, g_areApart, .int v_fewMany, .int v_bestLatest, .int v_bestSum, g_sootFor, .int v_alwaysLit, .int v_theDay, g_goodIn, .int v_goodSome, g_hadSmoke, g_rowSort, g_rowMany, g_numbers])), (h1, .inl (q0, 486, .inl v_all))] [.ref h0, .long a1] sz (some (.int out)) [(h0, .inr (10, [.int v_thrown, .ref h1, g_hasImage, g_tape, g_fresh, .int v_taped, .int v_at, .int v_behind, .int v_size, .int v_kind, .int v_number, .int v_wrong, .int v_wrongAt, .int v_faultKind, .int v_faultPlace, g_lows, g_highs, g_puffsOf, g_puffMany, g_touches, g_kept, .int v_why, g_pairs, g_few, g_freeOf, g_quarterOf, g_bestOf, g_areApart, .int v_fewMany, .int v_bestLatest, .int v_bestSum, g_sootFor, .int v_alwaysLit, .int v_theDay, g_goodIn, .int v_goodSome, g_hadSmoke, g_rowSort, g_rowMany, g_numbers])), (h1, .inl (q0, 486, .inl v_all))] := by
  refine cM_I RX10 ⟨by decide, rfl⟩ (Nat.le_of_ble_eq_true rfl) ?_
  intro p e s m below meth c A Q ls hx hb hml hown hts hK hN hA hP hD hS hl hRet
  have htb : ∀ w ∈ lw_g, w.before ([.ref h0, .long a1] : List Value).toArray s = true := fun w h => hts w (List.mem_cons_of_mem _ h)
  have hl : lv_has ls 3 [(0, .ref h0), (1, .long a1)] := hl
  suffices K0 : ∀ (H : Heap) (locs : List Loc), va_P (dC, dI) vwCl [(h0, .inr (10, [.int v_thrown, .ref h1, g_hasImage, g_tape, g_fresh, .int v_taped, .int v_at, .int v_behind, .int v_size, .int v_kind, .int v_number, .int v_wrong, .int v_wrongAt, .int v_faultKind, .int v_faultPlace, g_lows, g_highs, g_puffsOf, g_puffMany, g_touches, g_kept, .int v_why, g_pairs, g_few, g_freeOf, g_quarterOf, g_bestOf, g_areApart, .int v_fewMany, .int v_bestLatest, .int v_bestSum, g_sootFor, .int v_alwaysLit, .int v_theDay, g_goodIn, .int v_goodSome, g_hadSmoke, g_rowSort, g_rowMany, g_numbers])), (h1, .inl (q0, 486, .inl v_all))] H → va_D A [(h0, .inr (10, [.int v_thrown, .ref h1, g_hasImage, g_tape, g_fresh, .int v_taped, .int v_at, .int v_behind, .int v_size, .int v_kind, .int v_number, .int v_wrong, .int v_wrongAt, .int v_faultKind, .int v_faultPlace, g_lows, g_highs, g_puffsOf, g_puffMany, g_touches, g_kept, .int v_why, g_pairs, g_few, g_freeOf, g_quarterOf, g_bestOf, g_areApart, .int v_fewMany, .int v_bestLatest, .int v_bestSum, g_sootFor, .int v_alwaysLit, .int v_theDay, g_goodIn, .int v_goodSome, g_hadSmoke, g_rowSort, g_rowMany, g_numbers])), (h1, .inl (q0, 486, .inl v_all))] → va_S A s.heap H locs → W p l e ({ frames := 1, cells := 0, slots := 0, locals := 25 } : Room) s m ([.ref h0, .long a1] : List Value).toArray below meth c H locs 0 0 Q (F0 m 0 ls []) from K0 s.heap [] hP hD hS
  clear hP hD hS
  intro H locs hP hD hS
  unfold fX10_isChimney at hf
  refine lv_lload_n hx hb dX10_isChimney_0 rfl (lv_at hl 1 rfl) ?_
  refine lv_lconst (v := 0) hx hb dX10_isChimney_1 (by decide) ?_
  refine lv_aload_n hx hb dX10_isChimney_2 rfl (lv_at hl 0 rfl) ?_
  refine va_get (D := (dC, dI)) (ci := 10) (v := .ref h1) (C := RX10) (T := TX10) (N := 40) hx hb htb inG10 hown hK hP 0 rfl rfl 1 (by decide) (htb _ mF_X10_13) (fun _ h9 => h9) rfl dX10_isChimney_3 ?_
  refine lv_iconst (v := 0) hx hb dX10_isChimney_6 (by decide) ?_
  refine va_iald hx hb hK hP 1 0 rfl rfl (vb_ok (by decide)) dX10_isChimney_7 ?_
  refine lv_iconst (v := 1) hx hb dX10_isChimney_8 (by decide) ?_
  refine lv_isub hx hb dX10_isChimney_9 ?_
  refine lv_i2l hx hb dX10_isChimney_10 rfl ?_
  obtain ⟨o_1, ho_1, hf⟩ := ob_some hf
  refine ca_S (As := [.long a1, .long (0 : Int64), .long ((((v_all (0 : Int32).toNatClampNeg) - (1 : Int32)) : Int32).toInt64)]) (rest := []) (wr := [(h0, .inr (10, [.int v_thrown, .ref h1, g_hasImage, g_tape, g_fresh, .int v_taped, .int v_at, .int v_behind, .int v_size, .int v_kind, .int v_number, .int v_wrong, .int v_wrongAt, .int v_faultKind, .int v_faultPlace, g_lows, g_highs, g_puffsOf, g_puffMany, g_touches, g_kept, .int v_why, g_pairs, g_few, g_freeOf, g_quarterOf, g_bestOf, g_areApart, .int v_fewMany, .int v_bestLatest, .int v_bestSum, g_sootFor, .int v_alwaysLit, .int v_theDay, g_goodIn, .int v_goodSome, g_hadSmoke, g_rowSort, g_rowMany, g_numbers])), (h1, .inl (q0, 486, .inl v_all))]) (wn := [(h0, .inr (10, [.int v_thrown, .ref h1, g_hasImage, g_tape, g_fresh, .int v_taped, .int v_at, .int v_behind, .int v_size, .int v_kind, .int v_number, .int v_wrong, .int v_wrongAt, .int v_faultKind, .int v_faultPlace, g_lows, g_highs, g_puffsOf, g_puffMany, g_touches, g_kept, .int v_why, g_pairs, g_few, g_freeOf, g_quarterOf, g_bestOf, g_areApart, .int v_fewMany, .int v_bestLatest, .int v_bestSum, g_sootFor, .int v_alwaysLit, .int v_theDay, g_goodIn, .int v_goodSome, g_hadSmoke, g_rowSort, g_rowMany, g_numbers])), (h1, .inl (q0, 486, .inl v_all))]) ⟨hx, hb, hml, hown, hts⟩ (ctX10_within l dC dI F H.size a1 (0 : Int64) ((((v_all (0 : Int32).toNatClampNeg) - (1 : Int32)) : Int32).toInt64) o_1 ho_1) ⟨mC_X10_within, mN_X10, md_X10_within, ⟨rfl, rfl⟩, ⟨Nat.le_of_ble_eq_true rfl, Nat.le_of_ble_eq_true rfl⟩⟩ mM_X10_149 mT_X10_within hK hN hP hD hS hA [] [] [0, 1] [0, 1] rfl rfl rfl ⟨by decide, by decide, by decide, by decide⟩ rfl rfl hl.1 (Nat.le_of_ble_eq_true rfl) ⟨Nat.zero_le _, Nat.zero_le _⟩ dX10_isChimney_11 (fun H locs hP hD hS => ?_)
  obtain ⟨z_2, hf⟩ := og_some hf
  obtain rfl := Option.some.inj hf
  exact hRet H locs ls 14 hP hD hS (zb_ok z_2) dX10_isChimney_14
def fX10_isLit (F : Nat) (v_all : Nat → Int32) (a1 : Int32) : Option (Int32) := og (vb ((56 : Int32) + a1) 486) (if (v_all ((56 : Int32) + a1).toNatClampNeg) ≤ 0 then (some (0 : Int32)) else (some (1 : Int32)))
set_option maxRecDepth 100000 in
set_option maxHeartbeats 4000000 in
theorem ctX10_isLit (l : Launch) (dC : Nat → ClassId) (dI : Nat → Nat → Nat) (F sz : Nat) (h0 h1 : Nat) (q0 : ClassId) (v_thrown : Int32) (g_hasImage : Value) (g_tape : Value) (g_fresh : Value) (v_taped : Int32) (v_at : Int32) (v_behind : Int32) (v_size : Int32) (v_kind : Int32) (v_number : Int32) (v_wrong : Int32) (v_wrongAt : Int32) (v_faultKind : Int32) (v_faultPlace : Int32) (g_lows : Value) (g_highs : Value) (g_puffsOf : Value) (g_puffMany : Value) (g_touches : Value) (g_kept : Value) (v_why : Int32) (g_pairs : Value) (g_few : Value) (g_freeOf : Value) (g_quarterOf : Value) (g_bestOf : Value) (g_areApart : Value) (v_fewMany : Int32) (v_bestLatest : Int32) (v_bestSum : Int32) (g_sootFor : Value) (v_alwaysLit : Int32) (v_theDay : Int32) (g_goodIn : Value) (v_goodSome : Int32) (g_hadSmoke : Value) (g_rowSort : Value) (g_rowMany : Value) (g_numbers : Value) (v_all : Nat → Int32) (a1 : Int32) (out : Int32) (hf : fX10_isLit F v_all a1 = some out) : cM l yX10_isLit cX10_isLit 2 (some .boolean) ({ frames := 0, cells := 0, slots := 0, locals := 0 } : Room) (dC, dI) [(q0, .int)] [(h0, .inr (10, [.int v_thrown, .ref h1, g_hasImage, g_tape, g_fresh, .int v_taped, .int v_at, .int v_behind, .int v_size, .int v_kind, .int v_number, .int v_wrong, .int v_wrongAt, .int v_faultKind, .int v_faultPlace, g_lows, g_highs, g_puffsOf, g_puffMany, g_touches, g_kept, .int v_why, g_pairs, g_few, g_freeOf, g_quarterOf, g_bestOf, g_areApart, .int v_fewMany, .int v_bestLatest, .int v_bestSum, g_sootFor, .int v_alwaysLit, .int v_theDay, g_goodIn, .int v_goodSome, g_hadSmoke, g_rowSort, g_rowMany, g_numbers])), (h1, .inl (q0, 486, .inl v_all))] [.ref h0, .int a1] sz (some (.int out)) [(h0, .inr (10, [.int v_thrown, .ref h1, g_hasImage, g_tape, g_fresh, .int v_taped, .int v_at, .int v_behind, .int v_size, .int v_kind, .int v_number, .int v_wrong, .int v_wrongAt, .int v_faultKind, .int v_faultPlace, g_lows, g_highs, g_puffsOf, g_puffMany, g_touches, g_kept, .int v_why, g_pairs, g_few, g_freeOf, g_quarterOf, g_bestOf, g_areApart, .int v_fewMany, .int v_bestLatest, .int v_bestSum, g_sootFor, .int v_alwaysLit, .int v_theDay, g_goodIn, .int v_goodSome, g_hadSmoke, g_rowSort, g_rowMany, g_numbers])), (h1, .inl (q0, 486, .inl v_all))] := by
  refine cM_I RX10 ⟨by decide, rfl⟩ (Nat.le_of_ble_eq_true rfl) ?_
  intro p e s m below meth c A Q ls hx hb hml hown hts hK hN hA hP hD hS hl hRet
  have htb : ∀ w ∈ lw_g, w.before ([.ref h0, .int a1] : List Value).toArray s = true := fun w h => hts w (List.mem_cons_of_mem _ h)
  have hl : lv_has ls 2 [(0, .ref h0), (1, .int a1)] := hl
  suffices K0 : ∀ (H : Heap) (locs : List Loc), va_P (dC, dI) vwCl [(h0, .inr (10, [.int v_thrown, .ref h1, g_hasImage, g_tape, g_fresh, .int v_taped, .int v_at, .int v_behind, .int v_size, .int v_kind, .int v_number, .int v_wrong, .int v_wrongAt, .int v_faultKind, .int v_faultPlace, g_lows, g_highs, g_puffsOf, g_puffMany, g_touches, g_kept, .int v_why, g_pairs, g_few, g_freeOf, g_quarterOf, g_bestOf, g_areApart, .int v_fewMany, .int v_bestLatest, .int v_bestSum, g_sootFor, .int v_alwaysLit, .int v_theDay, g_goodIn, .int v_goodSome, g_hadSmoke, g_rowSort, g_rowMany, g_numbers])), (h1, .inl (q0, 486, .inl v_all))] H → va_D A [(h0, .inr (10, [.int v_thrown, .ref h1, g_hasImage, g_tape, g_fresh, .int v_taped, .int v_at, .int v_behind, .int v_size, .int v_kind, .int v_number, .int v_wrong, .int v_wrongAt, .int v_faultKind, .int v_faultPlace, g_lows, g_highs, g_puffsOf, g_puffMany, g_touches, g_kept, .int v_why, g_pairs, g_few, g_freeOf, g_quarterOf, g_bestOf, g_areApart, .int v_fewMany, .int v_bestLatest, .int v_bestSum, g_sootFor, .int v_alwaysLit, .int v_theDay, g_goodIn, .int v_goodSome, g_hadSmoke, g_rowSort, g_rowMany, g_numbers])), (h1, .inl (q0, 486, .inl v_all))] → va_S A s.heap H locs → W p l e ({ frames := 0, cells := 0, slots := 0, locals := 0 } : Room) s m ([.ref h0, .int a1] : List Value).toArray below meth c H locs 0 0 Q (F0 m 0 ls []) from K0 s.heap [] hP hD hS
  clear hP hD hS
  intro H locs hP hD hS
  unfold fX10_isLit at hf
  refine lv_aload_n hx hb dX10_isLit_0 rfl (lv_at hl 0 rfl) ?_
  refine va_get (D := (dC, dI)) (ci := 10) (v := .ref h1) (C := RX10) (T := TX10) (N := 40) hx hb htb inG10 hown hK hP 0 rfl rfl 1 (by decide) (htb _ mF_X10_13) (fun _ h9 => h9) rfl dX10_isLit_1 ?_
  refine lv_bipush (v := 56) hx hb dX10_isLit_4 (by decide) ?_
  refine lv_iload_n hx hb dX10_isLit_6 rfl (lv_at hl 1 rfl) ?_
  refine lv_iadd hx hb dX10_isLit_7 ?_
  obtain ⟨b_1, hf⟩ := og_some hf
  refine va_iald hx hb hK hP 1 0 rfl rfl (vb_ok b_1) dX10_isLit_8 ?_
  refine lv_if_le (tgt := 16) hx hb dX10_isLit_9 (by decide) (fun c_2 => ?_) (fun c_2 => ?_)
  · have hf := oi_t hf c_2
    refine lv_iconst (v := 0) hx hb dX10_isLit_16 (by decide) ?_
    obtain rfl := Option.some.inj hf
    exact hRet H locs ls 17 hP hD hS nar0 dX10_isLit_17
  · have hf := oi_f hf c_2
    refine lv_iconst (v := 1) hx hb dX10_isLit_12 (by decide) ?_
    refine lv_goto (tgt := 17) hx hb dX10_isLit_13 (by decide) ?_
    obtain rfl := Option.some.inj hf
    exact hRet H locs ls 17 hP hD hS nar1 dX10_isLit_17
def fX10_litAt (F : Nat) (v_all : Nat → Int32) (a1 : Int32) : Option (Int32) := og (vb ((56 : Int32) + a1) 486) (some ((v_all ((56 : Int32) + a1).toNatClampNeg) - (1 : Int32)))
set_option maxRecDepth 100000 in
set_option maxHeartbeats 4000000 in
theorem ctX10_litAt (l : Launch) (dC : Nat → ClassId) (dI : Nat → Nat → Nat) (F sz : Nat) (h0 h1 : Nat) (q0 : ClassId) (v_thrown : Int32) (g_hasImage : Value) (g_tape : Value) (g_fresh : Value) (v_taped : Int32) (v_at : Int32) (v_behind : Int32) (v_size : Int32) (v_kind : Int32) (v_number : Int32) (v_wrong : Int32) (v_wrongAt : Int32) (v_faultKind : Int32) (v_faultPlace : Int32) (g_lows : Value) (g_highs : Value) (g_puffsOf : Value) (g_puffMany : Value) (g_touches : Value) (g_kept : Value) (v_why : Int32) (g_pairs : Value) (g_few : Value) (g_freeOf : Value) (g_quarterOf : Value) (g_bestOf : Value) (g_areApart : Value) (v_fewMany : Int32) (v_bestLatest : Int32) (v_bestSum : Int32) (g_sootFor : Value) (v_alwaysLit : Int32) (v_theDay : Int32) (g_goodIn : Value) (v_goodSome : Int32) (g_hadSmoke : Value) (g_rowSort : Value) (g_rowMany : Value) (g_numbers : Value) (v_all : Nat → Int32) (a1 : Int32) (out : Int32) (hf : fX10_litAt F v_all a1 = some out) : cM l yX10_litAt cX10_litAt 2 (some .int) ({ frames := 0, cells := 0, slots := 0, locals := 0 } : Room) (dC, dI) [(q0, .int)] [(h0, .inr (10, [.int v_thrown, .ref h1, g_hasImage, g_tape, g_fresh, .int v_taped, .int v_at, .int v_behind, .int v_size, .int v_kind, .int v_number, .int v_wrong, .int v_wrongAt, .int v_faultKind, .int v_faultPlace, g_lows, g_highs, g_puffsOf, g_puffMany, g_touches, g_kept, .int v_why, g_pairs, g_few, g_freeOf, g_quarterOf, g_bestOf, g_areApart, .int v_fewMany, .int v_bestLatest, .int v_bestSum, g_sootFor, .int v_alwaysLit, .int v_theDay, g_goodIn, .int v_goodSome, g_hadSmoke, g_rowSort, g_rowMany, g_numbers])), (h1, .inl (q0, 486, .inl v_all))] [.ref h0, .int a1] sz (some (.int out)) [(h0, .inr (10, [.int v_thrown, .ref h1, g_hasImage, g_tape, g_fresh, .int v_taped, .int v_at, .int v_behind, .int v_size, .int v_kind, .int v_number, .int v_wrong, .int v_wrongAt, .int v_faultKind, .int v_faultPlace, g_lows, g_highs, g_puffsOf, g_puffMany, g_touches, g_kept, .int v_why, g_pairs, g_few, g_freeOf, g_quarterOf, g_bestOf, g_areApart, .int v_fewMany, .int v_bestLatest, .int v_bestSum, g_sootFor, .int v_alwaysLit, .int v_theDay, g_goodIn, .int v_goodSome, g_hadSmoke, g_rowSort, g_rowMany, g_numbers])), (h1, .inl (q0, 486, .inl v_all))] := by
  refine cM_I RX10 ⟨by decide, rfl⟩ (Nat.le_of_ble_eq_true rfl) ?_
  intro p e s m below meth c A Q ls hx hb hml hown hts hK hN hA hP hD hS hl hRet
  have htb : ∀ w ∈ lw_g, w.before ([.ref h0, .int a1] : List Value).toArray s = true := fun w h => hts w (List.mem_cons_of_mem _ h)
  have hl : lv_has ls 2 [(0, .ref h0), (1, .int a1)] := hl
  suffices K0 : ∀ (H : Heap) (locs : List Loc), va_P (dC, dI) vwCl [(h0, .inr (10, [.int v_thrown, .ref h1, g_hasImage, g_tape, g_fresh, .int v_taped, .int v_at, .int v_behind, .int v_size, .int v_kind, .int v_number, .int v_wrong, .int v_wrongAt, .int v_faultKind, .int v_faultPlace, g_lows, g_highs, g_puffsOf, g_puffMany, g_touches, g_kept, .int v_why, g_pairs, g_few, g_freeOf, g_quarterOf, g_bestOf, g_areApart, .int v_fewMany, .int v_bestLatest, .int v_bestSum, g_sootFor, .int v_alwaysLit, .int v_theDay, g_goodIn, .int v_goodSome, g_hadSmoke, g_rowSort, g_rowMany, g_numbers])), (h1, .inl (q0, 486, .inl v_all))] H → va_D A [(h0, .inr (10, [.int v_thrown, .ref h1, g_hasImage, g_tape, g_fresh, .int v_taped, .int v_at, .int v_behind, .int v_size, .int v_kind, .int v_number, .int v_wrong, .int v_wrongAt, .int v_faultKind, .int v_faultPlace, g_lows, g_highs, g_puffsOf, g_puffMany, g_touches, g_kept, .int v_why, g_pairs, g_few, g_freeOf, g_quarterOf, g_bestOf, g_areApart, .int v_fewMany, .int v_bestLatest, .int v_bestSum, g_sootFor, .int v_alwaysLit, .int v_theDay, g_goodIn, .int v_goodSome, g_hadSmoke, g_rowSort, g_rowMany, g_numbers])), (h1, .inl (q0, 486, .inl v_all))] → va_S A s.heap H locs → W p l e ({ frames := 0, cells := 0, slots := 0, locals := 0 } : Room) s m ([.ref h0, .int a1] : List Value).toArray below meth c H locs 0 0 Q (F0 m 0 ls []) from K0 s.heap [] hP hD hS
  clear hP hD hS
  intro H locs hP hD hS
  unfold fX10_litAt at hf
  refine lv_aload_n hx hb dX10_litAt_0 rfl (lv_at hl 0 rfl) ?_
  refine va_get (D := (dC, dI)) (ci := 10) (v := .ref h1) (C := RX10) (T := TX10) (N := 40) hx hb htb inG10 hown hK hP 0 rfl rfl 1 (by decide) (htb _ mF_X10_13) (fun _ h9 => h9) rfl dX10_litAt_1 ?_
  refine lv_bipush (v := 56) hx hb dX10_litAt_4 (by decide) ?_
  refine lv_iload_n hx hb dX10_litAt_6 rfl (lv_at hl 1 rfl) ?_
  refine lv_iadd hx hb dX10_litAt_7 ?_
  obtain ⟨b_1, hf⟩ := og_some hf
  refine va_iald hx hb hK hP 1 0 rfl rfl (vb_ok b_1) dX10_litAt_8 ?_
  refine lv_iconst (v := 1) hx hb dX10_litAt_9 (by decide) ?_
  refine lv_isub hx hb dX10_litAt_10 ?_
  obtain rfl := Option.some.inj hf
  exact hRet H locs ls 11 hP hD hS rfl dX10_litAt_11
def fX10_isHour (F : Nat)  (a1 : Int32) : Option (Int32) := ob (fX10_within F ((a1 : Int32).toInt64) (0 : Int64) (47 : Int64)) (fun o_1 => og (zb o_1) (some o_1))
set_option maxRecDepth 100000 in
set_option maxHeartbeats 4000000 in
theorem ctX10_isHour (l : Launch) (dC : Nat → ClassId) (dI : Nat → Nat → Nat) (F sz : Nat) (h0 : Nat) (v_thrown : Int32) (g_all : Value) (g_hasImage : Value) (g_tape : Value) (g_fresh : Value) (v_taped : Int32) (v_at : Int32) (v_behind : Int32) (v_size : Int32) (v_kind : Int32) (v_number : Int32) (v_wrong : Int32) (v_wrongAt : Int32) (v_faultKind : Int32) (v_faultPlace : Int32) (g_lows : Value) (g_highs : Value) (g_puffsOf : Value) (g_puffMany : Value) (g_touches : Value) (g_kept : Value) (v_why : Int32) (g_pairs : Value) (g_few : Value) (g_freeOf : Value) (g_quarterOf : Value) (g_bestOf : Value) (g_areApart : Value) (v_fewMany : Int32) (v_bestLatest : Int32) (v_bestSum : Int32) (g_sootFor : Value) (v_alwaysLit : Int32) (v_theDay : Int32) (g_goodIn : Value) (v_goodSome : Int32) (g_hadSmoke : Value) (g_rowSort : Value) (g_rowMany : Value) (g_numbers : Value) (a1 : Int32) (out : Int32) (hf : fX10_isHour F a1 = some out) : cM l yX10_isHour cX10_isHour 2 (some .boolean) ({ frames := 1, cells := 0, slots := 0, locals := 25 } : Room) (dC, dI) [] [(h0, .inr (10, [.int v_thrown, g_all, g_hasImage, g_tape, g_fresh, .int v_taped, .int v_at, .int v_behind, .int v_size, .int v_kind, .int v_number, .int v_wrong, .int v_wrongAt, .int v_faultKind, .int v_faultPlace, g_lows, g_highs, g_puffsOf, g_puffMany, g_touches, g_kept, .int v_why, g_pairs, g_few, g_freeOf, g_quarterOf, g_bestOf, g_areApart, .int v_fewMany, .int v_bestLatest, .int v_bestSum, g_sootFor, .int v_alwaysLit, .int v_theDay, g_goodIn, .int v_goodSome, g_hadSmoke, g_rowSort, g_rowMany, g_numbers]))] [.ref h0, .int a1] sz (some (.int out)) [(h0, .inr (10, [.int v_thrown, g_all, g_hasImage, g_tape, g_fresh, .int v_taped, .int v_at, .int v_behind, .int v_size, .int v_kind, .int v_number, .int v_wrong, .int v_wrongAt, .int v_faultKind, .int v_faultPlace, g_lows, g_highs, g_puffsOf, g_puffMany, g_touches, g_kept, .int v_why, g_pairs, g_few, g_freeOf, g_quarterOf, g_bestOf, g_areApart, .int v_fewMany, .int v_bestLatest, .int v_bestSum, g_sootFor, .int v_alwaysLit, .int v_theDay, g_goodIn, .int v_goodSome, g_hadSmoke, g_rowSort, g_rowMany, g_numbers]))] := by
  refine cM_I RX10 ⟨by decide, rfl⟩ (Nat.le_of_ble_eq_true rfl) ?_
  intro p e s m below meth c A Q ls hx hb hml hown hts hK hN hA hP hD hS hl hRet
  have htb : ∀ w ∈ lw_g, w.before ([.ref h0, .int a1] : List Value).toArray s = true := fun w h => hts w (List.mem_cons_of_mem _ h)
  have hl : lv_has ls 2 [(0, .ref h0), (1, .int a1)] := hl
  suffices K0 : ∀ (H : Heap) (locs : List Loc), va_P (dC, dI) vwCl [(h0, .inr (10, [.int v_thrown, g_all, g_hasImage, g_tape, g_fresh, .int v_taped, .int v_at, .int v_behind, .int v_size, .int v_kind, .int v_number, .int v_wrong, .int v_wrongAt, .int v_faultKind, .int v_faultPlace, g_lows, g_highs, g_puffsOf, g_puffMany, g_touches, g_kept, .int v_why, g_pairs, g_few, g_freeOf, g_quarterOf, g_bestOf, g_areApart, .int v_fewMany, .int v_bestLatest, .int v_bestSum, g_sootFor, .int v_alwaysLit, .int v_theDay, g_goodIn, .int v_goodSome, g_hadSmoke, g_rowSort, g_rowMany, g_numbers]))] H → va_D A [(h0, .inr (10, [.int v_thrown, g_all, g_hasImage, g_tape, g_fresh, .int v_taped, .int v_at, .int v_behind, .int v_size, .int v_kind, .int v_number, .int v_wrong, .int v_wrongAt, .int v_faultKind, .int v_faultPlace, g_lows, g_highs, g_puffsOf, g_puffMany, g_touches, g_kept, .int v_why, g_pairs, g_few, g_freeOf, g_quarterOf, g_bestOf, g_areApart, .int v_fewMany, .int v_bestLatest, .int v_bestSum, g_sootFor, .int v_alwaysLit, .int v_theDay, g_goodIn, .int v_goodSome, g_hadSmoke, g_rowSort, g_rowMany, g_numbers]))] → va_S A s.heap H locs → W p l e ({ frames := 1, cells := 0, slots := 0, locals := 25 } : Room) s m ([.ref h0, .int a1] : List Value).toArray below meth c H locs 0 0 Q (F0 m 0 ls []) from K0 s.heap [] hP hD hS
  clear hP hD hS
  intro H locs hP hD hS
  unfold fX10_isHour at hf
  refine lv_iload_n hx hb dX10_isHour_0 rfl (lv_at hl 1 rfl) ?_
  refine lv_i2l hx hb dX10_isHour_1 rfl ?_
  refine lv_lconst (v := 0) hx hb dX10_isHour_2 (by decide) ?_
  refine lv_ldc2 (v := 47) hx hb hown (htb _ mK_X10_171) dX10_isHour_3 ?_
  obtain ⟨o_1, ho_1, hf⟩ := ob_some hf
  refine ca_S (As := [.long ((a1 : Int32).toInt64), .long (0 : Int64), .long (47 : Int64)]) (rest := []) (wr := [(h0, .inr (10, [.int v_thrown, g_all, g_hasImage, g_tape, g_fresh, .int v_taped, .int v_at, .int v_behind, .int v_size, .int v_kind, .int v_number, .int v_wrong, .int v_wrongAt, .int v_faultKind, .int v_faultPlace, g_lows, g_highs, g_puffsOf, g_puffMany, g_touches, g_kept, .int v_why, g_pairs, g_few, g_freeOf, g_quarterOf, g_bestOf, g_areApart, .int v_fewMany, .int v_bestLatest, .int v_bestSum, g_sootFor, .int v_alwaysLit, .int v_theDay, g_goodIn, .int v_goodSome, g_hadSmoke, g_rowSort, g_rowMany, g_numbers]))]) (wn := [(h0, .inr (10, [.int v_thrown, g_all, g_hasImage, g_tape, g_fresh, .int v_taped, .int v_at, .int v_behind, .int v_size, .int v_kind, .int v_number, .int v_wrong, .int v_wrongAt, .int v_faultKind, .int v_faultPlace, g_lows, g_highs, g_puffsOf, g_puffMany, g_touches, g_kept, .int v_why, g_pairs, g_few, g_freeOf, g_quarterOf, g_bestOf, g_areApart, .int v_fewMany, .int v_bestLatest, .int v_bestSum, g_sootFor, .int v_alwaysLit, .int v_theDay, g_goodIn, .int v_goodSome, g_hadSmoke, g_rowSort, g_rowMany, g_numbers]))]) ⟨hx, hb, hml, hown, hts⟩ (ctX10_within l dC dI F H.size ((a1 : Int32).toInt64) (0 : Int64) (47 : Int64) o_1 ho_1) ⟨mC_X10_within, mN_X10, md_X10_within, ⟨rfl, rfl⟩, ⟨Nat.le_of_ble_eq_true rfl, Nat.le_of_ble_eq_true rfl⟩⟩ mM_X10_149 mT_X10_within hK hN hP hD hS hA [] [] [0] [0] rfl rfl rfl ⟨by decide, by decide, by decide, by decide⟩ rfl rfl hl.1 (Nat.le_of_ble_eq_true rfl) ⟨Nat.zero_le _, Nat.zero_le _⟩ dX10_isHour_6 (fun H locs hP hD hS => ?_)
  obtain ⟨z_2, hf⟩ := og_some hf
  obtain rfl := Option.some.inj hf
  exact hRet H locs ls 9 hP hD hS (zb_ok z_2) dX10_isHour_9
def fX10_chimney (F : Nat) (v_thrown : Int32) (v_all : Nat → Int32) (a1 : Int32) (a2 : Int32) : Option (Int32 × Int32) := ob (fX10_isChimney F v_all ((a1 : Int32).toInt64)) (fun o_1 => if o_1 = 0 then (some ((-2 : Int32), (0 : Int32))) else (if a2 < 0 then (some ((-2 : Int32), (0 : Int32))) else (ob (fX10_within F ((a2 : Int32).toInt64) (6 : Int64) (9 : Int64)) (fun o_4 => if o_4 = 0 then (if a2 = (5 : Int32) then (ob (fX10_litAt F v_all a1) (fun o_12 => some (o_12, (0 : Int32)))) else (if (5 : Int32) ≤ a2 then (og (vb ((46 : Int32) + a1) 486) (if (v_all ((46 : Int32) + a1).toNatClampNeg) ≤ (a2 - (10 : Int32)) then (some ((-7 : Int32), (0 : Int32))) else (og (vb ((((66 : Int32) + ((6 : Int32) * a1)) + a2) - (10 : Int32)) 486) (some ((v_all ((((66 : Int32) + ((6 : Int32) * a1)) + a2) - (10 : Int32)).toNatClampNeg), (0 : Int32)))))) else (og (vb (((6 : Int32) + ((10 : Int32) * a2)) + a1) 486) (some ((v_all (((6 : Int32) + ((10 : Int32) * a2)) + a1).toNatClampNeg), (0 : Int32)))))) else (some ((-2 : Int32), (0 : Int32)))))))
set_option maxRecDepth 100000 in
set_option maxHeartbeats 4000000 in
theorem ctX10_chimney (l : Launch) (dC : Nat → ClassId) (dI : Nat → Nat → Nat) (F sz : Nat) (h0 h1 : Nat) (q0 : ClassId) (v_thrown : Int32) (g_hasImage : Value) (g_tape : Value) (g_fresh : Value) (v_taped : Int32) (v_at : Int32) (v_behind : Int32) (v_size : Int32) (v_kind : Int32) (v_number : Int32) (v_wrong : Int32) (v_wrongAt : Int32) (v_faultKind : Int32) (v_faultPlace : Int32) (g_lows : Value) (g_highs : Value) (g_puffsOf : Value) (g_puffMany : Value) (g_touches : Value) (g_kept : Value) (v_why : Int32) (g_pairs : Value) (g_few : Value) (g_freeOf : Value) (g_quarterOf : Value) (g_bestOf : Value) (g_areApart : Value) (v_fewMany : Int32) (v_bestLatest : Int32) (v_bestSum : Int32) (g_sootFor : Value) (v_alwaysLit : Int32) (v_theDay : Int32) (g_goodIn : Value) (v_goodSome : Int32) (g_hadSmoke : Value) (g_rowSort : Value) (g_rowMany : Value) (g_numbers : Value) (v_all : Nat → Int32) (a1 : Int32) (a2 : Int32) (out : Int32 × Int32) (hf : fX10_chimney F v_thrown v_all a1 a2 = some out) : cM l yX10_chimney cX10_chimney 3 (some .int) ({ frames := 2, cells := 0, slots := 0, locals := 47 } : Room) (dC, dI) [(q0, .int)] [(h0, .inr (10, [.int v_thrown, .ref h1, g_hasImage, g_tape, g_fresh, .int v_taped, .int v_at, .int v_behind, .int v_size, .int v_kind, .int v_number, .int v_wrong, .int v_wrongAt, .int v_faultKind, .int v_faultPlace, g_lows, g_highs, g_puffsOf, g_puffMany, g_touches, g_kept, .int v_why, g_pairs, g_few, g_freeOf, g_quarterOf, g_bestOf, g_areApart, .int v_fewMany, .int v_bestLatest, .int v_bestSum, g_sootFor, .int v_alwaysLit, .int v_theDay, g_goodIn, .int v_goodSome, g_hadSmoke, g_rowSort, g_rowMany, g_numbers])), (h1, .inl (q0, 486, .inl v_all))] [.ref h0, .int a1, .int a2] sz (some (.int out.1)) [(h0, .inr (10, [.int out.2, .ref h1, g_hasImage, g_tape, g_fresh, .int v_taped, .int v_at, .int v_behind, .int v_size, .int v_kind, .int v_number, .int v_wrong, .int v_wrongAt, .int v_faultKind, .int v_faultPlace, g_lows, g_highs, g_puffsOf, g_puffMany, g_touches, g_kept, .int v_why, g_pairs, g_few, g_freeOf, g_quarterOf, g_bestOf, g_areApart, .int v_fewMany, .int v_bestLatest, .int v_bestSum, g_sootFor, .int v_alwaysLit, .int v_theDay, g_goodIn, .int v_goodSome, g_hadSmoke, g_rowSort, g_rowMany, g_numbers])), (h1, .inl (q0, 486, .inl v_all))] := by
  refine cM_I RX10 ⟨by decide, rfl⟩ (Nat.le_of_ble_eq_true rfl) ?_
  intro p e s m below meth c A Q ls hx hb hml hown hts hK hN hA hP hD hS hl hRet
  have htb : ∀ w ∈ lw_g, w.before ([.ref h0, .int a1, .int a2] : List Value).toArray s = true := fun w h => hts w (List.mem_cons_of_mem _ h)
  have hl : lv_has ls 3 [(0, .ref h0), (1, .int a1), (2, .int a2)] := hl
  suffices K0 : ∀ (H : Heap) (locs : List Loc), va_P (dC, dI) vwCl [(h0, .inr (10, [.int v_thrown, .ref h1, g_hasImage, g_tape, g_fresh, .int v_taped, .int v_at, .int v_behind, .int v_size, .int v_kind, .int v_number, .int v_wrong, .int v_wrongAt, .int v_faultKind, .int v_faultPlace, g_lows, g_highs, g_puffsOf, g_puffMany, g_touches, g_kept, .int v_why, g_pairs, g_few, g_freeOf, g_quarterOf, g_bestOf, g_areApart, .int v_fewMany, .int v_bestLatest, .int v_bestSum, g_sootFor, .int v_alwaysLit, .int v_theDay, g_goodIn, .int v_goodSome, g_hadSmoke, g_rowSort, g_rowMany, g_numbers])), (h1, .inl (q0, 486, .inl v_all))] H → va_D A [(h0, .inr (10, [.int v_thrown, .ref h1, g_hasImage, g_tape, g_fresh, .int v_taped, .int v_at, .int v_behind, .int v_size, .int v_kind, .int v_number, .int v_wrong, .int v_wrongAt, .int v_faultKind, .int v_faultPlace, g_lows, g_highs, g_puffsOf, g_puffMany, g_touches, g_kept, .int v_why, g_pairs, g_few, g_freeOf, g_quarterOf, g_bestOf, g_areApart, .int v_fewMany, .int v_bestLatest, .int v_bestSum, g_sootFor, .int v_alwaysLit, .int v_theDay, g_goodIn, .int v_goodSome, g_hadSmoke, g_rowSort, g_rowMany, g_numbers])), (h1, .inl (q0, 486, .inl v_all))] → va_S A s.heap H locs → W p l e ({ frames := 2, cells := 0, slots := 0, locals := 47 } : Room) s m ([.ref h0, .int a1, .int a2] : List Value).toArray below meth c H locs 0 0 Q (F0 m 0 ls []) from K0 s.heap [] hP hD hS
  clear hP hD hS
  intro H locs hP hD hS
  unfold fX10_chimney at hf
  refine lv_aload_n hx hb dX10_chimney_0 rfl (lv_at hl 0 rfl) ?_
  refine lv_iconst (v := 0) hx hb dX10_chimney_1 (by decide) ?_
  refine va_put (D := (dC, dI)) (ci := 10) (v := .int (0 : Int32)) (ty := .int) (C := RX10) (T := TX10) (N := 40) hx hb htb inG10 tyX10 tyX10_ok nmX10 hown hK hP hD hS 0 rfl rfl 0 (by decide) (htb _ mF_X10_1) (fun _ h9 => h9) rfl (by decide +kernel) rfl rfl (Nat.le_of_ble_eq_true rfl) dX10_chimney_2 (fun H locs hP hD hS => ?_)
  have hP : va_P (dC, dI) vwCl [(h0, .inr (10, [.int (0 : Int32), .ref h1, g_hasImage, g_tape, g_fresh, .int v_taped, .int v_at, .int v_behind, .int v_size, .int v_kind, .int v_number, .int v_wrong, .int v_wrongAt, .int v_faultKind, .int v_faultPlace, g_lows, g_highs, g_puffsOf, g_puffMany, g_touches, g_kept, .int v_why, g_pairs, g_few, g_freeOf, g_quarterOf, g_bestOf, g_areApart, .int v_fewMany, .int v_bestLatest, .int v_bestSum, g_sootFor, .int v_alwaysLit, .int v_theDay, g_goodIn, .int v_goodSome, g_hadSmoke, g_rowSort, g_rowMany, g_numbers])), (h1, .inl (q0, 486, .inl v_all))] H := hP
  have hD : va_D A [(h0, .inr (10, [.int (0 : Int32), .ref h1, g_hasImage, g_tape, g_fresh, .int v_taped, .int v_at, .int v_behind, .int v_size, .int v_kind, .int v_number, .int v_wrong, .int v_wrongAt, .int v_faultKind, .int v_faultPlace, g_lows, g_highs, g_puffsOf, g_puffMany, g_touches, g_kept, .int v_why, g_pairs, g_few, g_freeOf, g_quarterOf, g_bestOf, g_areApart, .int v_fewMany, .int v_bestLatest, .int v_bestSum, g_sootFor, .int v_alwaysLit, .int v_theDay, g_goodIn, .int v_goodSome, g_hadSmoke, g_rowSort, g_rowMany, g_numbers])), (h1, .inl (q0, 486, .inl v_all))] := hD
  refine lv_aload_n hx hb dX10_chimney_5 rfl (lv_at hl 0 rfl) ?_
  refine lv_iload_n hx hb dX10_chimney_6 rfl (lv_at hl 1 rfl) ?_
  refine lv_i2l hx hb dX10_chimney_7 rfl ?_
  obtain ⟨o_1, ho_1, hf⟩ := ob_some hf
  refine ca_V (As := [.long ((a1 : Int32).toInt64)]) (rest := []) (wr := []) (wn := [(h0, .inr (10, [.int (0 : Int32), .ref h1, g_hasImage, g_tape, g_fresh, .int v_taped, .int v_at, .int v_behind, .int v_size, .int v_kind, .int v_number, .int v_wrong, .int v_wrongAt, .int v_faultKind, .int v_faultPlace, g_lows, g_highs, g_puffsOf, g_puffMany, g_touches, g_kept, .int v_why, g_pairs, g_few, g_freeOf, g_quarterOf, g_bestOf, g_areApart, .int v_fewMany, .int v_bestLatest, .int v_bestSum, g_sootFor, .int v_alwaysLit, .int v_theDay, g_goodIn, .int v_goodSome, g_hadSmoke, g_rowSort, g_rowMany, g_numbers])), (h1, .inl (q0, 486, .inl v_all))]) ⟨hx, hb, hml, hown, hts⟩ (ctX10_isChimney l dC dI F H.size h0 h1 q0 (0 : Int32) (g_hasImage) (g_tape) (g_fresh) v_taped v_at v_behind v_size v_kind v_number v_wrong v_wrongAt v_faultKind v_faultPlace (g_lows) (g_highs) (g_puffsOf) (g_puffMany) (g_touches) (g_kept) v_why (g_pairs) (g_few) (g_freeOf) (g_quarterOf) (g_bestOf) (g_areApart) v_fewMany v_bestLatest v_bestSum (g_sootFor) v_alwaysLit v_theDay (g_goodIn) v_goodSome (g_hadSmoke) (g_rowSort) (g_rowMany) (g_numbers) v_all ((a1 : Int32).toInt64) o_1 ho_1) ⟨mC_X10_isChimney, mN_X10, md_X10_isChimney, ⟨rfl, rfl⟩, ⟨Nat.le_of_ble_eq_true rfl, Nat.le_of_ble_eq_true rfl⟩⟩ mM_X10_173 mI_X10_isChimney mS_X10_isChimney hK hN hP hD hS hA [0] [0, 1] [] [0, 1] rfl rfl rfl ⟨by decide, by decide, by decide, by decide⟩ rfl 0 10 rfl rfl rfl hl.1 (Nat.le_of_ble_eq_true rfl) ⟨Nat.zero_le _, Nat.zero_le _⟩ dX10_chimney_8 (fun H locs hP hD hS => ?_)
  refine lv_if_eq (tgt := 32) hx hb dX10_chimney_11 (by decide) (fun c_2 => ?_) (fun c_2 => ?_)
  · have hf := oi_t hf c_2
    refine lv_bipush (v := -2) hx hb dX10_chimney_32 (by decide) ?_
    obtain rfl := Option.some.inj hf
    exact hRet H locs ls 34 hP hD hS rfl dX10_chimney_34
  · have hf := oi_f hf c_2
    refine lv_iload_n hx hb dX10_chimney_14 rfl (lv_at hl 2 rfl) ?_
    refine lv_if_lt (tgt := 32) hx hb dX10_chimney_15 (by decide) (fun c_3 => ?_) (fun c_3 => ?_)
    · have hf := oi_t hf c_3
      refine lv_bipush (v := -2) hx hb dX10_chimney_32 (by decide) ?_
      obtain rfl := Option.some.inj hf
      exact hRet H locs ls 34 hP hD hS rfl dX10_chimney_34
    · have hf := oi_f hf c_3
      refine lv_iload_n hx hb dX10_chimney_18 rfl (lv_at hl 2 rfl) ?_
      refine lv_i2l hx hb dX10_chimney_19 rfl ?_
      refine lv_ldc2 (v := 6) hx hb hown (htb _ mK_X10_177) dX10_chimney_20 ?_
      refine lv_ldc2 (v := 9) hx hb hown (htb _ mK_X10_157) dX10_chimney_23 ?_
      obtain ⟨o_4, ho_4, hf⟩ := ob_some hf
      refine ca_S (As := [.long ((a2 : Int32).toInt64), .long (6 : Int64), .long (9 : Int64)]) (rest := []) (wr := [(h0, .inr (10, [.int (0 : Int32), .ref h1, g_hasImage, g_tape, g_fresh, .int v_taped, .int v_at, .int v_behind, .int v_size, .int v_kind, .int v_number, .int v_wrong, .int v_wrongAt, .int v_faultKind, .int v_faultPlace, g_lows, g_highs, g_puffsOf, g_puffMany, g_touches, g_kept, .int v_why, g_pairs, g_few, g_freeOf, g_quarterOf, g_bestOf, g_areApart, .int v_fewMany, .int v_bestLatest, .int v_bestSum, g_sootFor, .int v_alwaysLit, .int v_theDay, g_goodIn, .int v_goodSome, g_hadSmoke, g_rowSort, g_rowMany, g_numbers])), (h1, .inl (q0, 486, .inl v_all))]) (wn := [(h0, .inr (10, [.int (0 : Int32), .ref h1, g_hasImage, g_tape, g_fresh, .int v_taped, .int v_at, .int v_behind, .int v_size, .int v_kind, .int v_number, .int v_wrong, .int v_wrongAt, .int v_faultKind, .int v_faultPlace, g_lows, g_highs, g_puffsOf, g_puffMany, g_touches, g_kept, .int v_why, g_pairs, g_few, g_freeOf, g_quarterOf, g_bestOf, g_areApart, .int v_fewMany, .int v_bestLatest, .int v_bestSum, g_sootFor, .int v_alwaysLit, .int v_theDay, g_goodIn, .int v_goodSome, g_hadSmoke, g_rowSort, g_rowMany, g_numbers])), (h1, .inl (q0, 486, .inl v_all))]) ⟨hx, hb, hml, hown, hts⟩ (ctX10_within l dC dI F H.size ((a2 : Int32).toInt64) (6 : Int64) (9 : Int64) o_4 ho_4) ⟨mC_X10_within, mN_X10, md_X10_within, ⟨rfl, rfl⟩, ⟨Nat.le_of_ble_eq_true rfl, Nat.le_of_ble_eq_true rfl⟩⟩ mM_X10_149 mT_X10_within hK hN hP hD hS hA [] [] [0, 1] [0, 1] rfl rfl rfl ⟨by decide, by decide, by decide, by decide⟩ rfl rfl hl.1 (Nat.le_of_ble_eq_true rfl) ⟨Nat.zero_le _, Nat.zero_le _⟩ dX10_chimney_26 (fun H locs hP hD hS => ?_)
      refine lv_if_eq (tgt := 35) hx hb dX10_chimney_29 (by decide) (fun c_5 => ?_) (fun c_5 => ?_)
      · have hf := oi_t hf c_5
        refine lv_iload_n hx hb dX10_chimney_35 rfl (lv_at hl 2 rfl) ?_
        refine lv_iconst (v := 5) hx hb dX10_chimney_36 (by decide) ?_
        refine lv_icmp_ne (tgt := 46) hx hb dX10_chimney_37 (by decide) (fun c_6 => ?_) (fun c_6 => ?_)
        · have hf := oi_f hf c_6
          refine lv_iload_n hx hb dX10_chimney_46 rfl (lv_at hl 2 rfl) ?_
          refine lv_iconst (v := 5) hx hb dX10_chimney_47 (by decide) ?_
          refine lv_icmp_ge (tgt := 66) hx hb dX10_chimney_48 (by decide) (fun c_7 => ?_) (fun c_7 => ?_)
          · have hf := oi_t hf c_7
            refine lv_iload_n hx hb dX10_chimney_66 rfl (lv_at hl 2 rfl) ?_
            refine lv_bipush (v := 10) hx hb dX10_chimney_67 (by decide) ?_
            refine lv_isub hx hb dX10_chimney_69 ?_
            refine lv_aload_n hx hb dX10_chimney_70 rfl (lv_at hl 0 rfl) ?_
            refine va_get (D := (dC, dI)) (ci := 10) (v := .ref h1) (C := RX10) (T := TX10) (N := 40) hx hb htb inG10 hown hK hP 0 rfl rfl 1 (by decide) (htb _ mF_X10_13) (fun _ h9 => h9) rfl dX10_chimney_71 ?_
            refine lv_bipush (v := 46) hx hb dX10_chimney_74 (by decide) ?_
            refine lv_iload_n hx hb dX10_chimney_76 rfl (lv_at hl 1 rfl) ?_
            refine lv_iadd hx hb dX10_chimney_77 ?_
            obtain ⟨b_8, hf⟩ := og_some hf
            refine va_iald hx hb hK hP 1 0 rfl rfl (vb_ok b_8) dX10_chimney_78 ?_
            refine lv_icmp_ge (tgt := 102) hx hb dX10_chimney_79 (by decide) (fun c_9 => ?_) (fun c_9 => ?_)
            · have hf := oi_t hf c_9
              refine lv_bipush (v := -7) hx hb dX10_chimney_102 (by decide) ?_
              obtain rfl := Option.some.inj hf
              exact hRet H locs ls 104 hP hD hS rfl dX10_chimney_104
            · have hf := oi_f hf c_9
              refine lv_aload_n hx hb dX10_chimney_82 rfl (lv_at hl 0 rfl) ?_
              refine va_get (D := (dC, dI)) (ci := 10) (v := .ref h1) (C := RX10) (T := TX10) (N := 40) hx hb htb inG10 hown hK hP 0 rfl rfl 1 (by decide) (htb _ mF_X10_13) (fun _ h9 => h9) rfl dX10_chimney_83 ?_
              refine lv_bipush (v := 66) hx hb dX10_chimney_86 (by decide) ?_
              refine lv_bipush (v := 6) hx hb dX10_chimney_88 (by decide) ?_
              refine lv_iload_n hx hb dX10_chimney_90 rfl (lv_at hl 1 rfl) ?_
              refine lv_imul hx hb dX10_chimney_91 ?_
              refine lv_iadd hx hb dX10_chimney_92 ?_
              refine lv_iload_n hx hb dX10_chimney_93 rfl (lv_at hl 2 rfl) ?_
              refine lv_iadd hx hb dX10_chimney_94 ?_
              refine lv_bipush (v := 10) hx hb dX10_chimney_95 (by decide) ?_
              refine lv_isub hx hb dX10_chimney_97 ?_
              obtain ⟨b_10, hf⟩ := og_some hf
              refine va_iald hx hb hK hP 1 0 rfl rfl (vb_ok b_10) dX10_chimney_98 ?_
              refine lv_goto (tgt := 104) hx hb dX10_chimney_99 (by decide) ?_
              obtain rfl := Option.some.inj hf
              exact hRet H locs ls 104 hP hD hS rfl dX10_chimney_104
          · have hf := oi_f hf c_7
            refine lv_aload_n hx hb dX10_chimney_51 rfl (lv_at hl 0 rfl) ?_
            refine va_get (D := (dC, dI)) (ci := 10) (v := .ref h1) (C := RX10) (T := TX10) (N := 40) hx hb htb inG10 hown hK hP 0 rfl rfl 1 (by decide) (htb _ mF_X10_13) (fun _ h9 => h9) rfl dX10_chimney_52 ?_
            refine lv_bipush (v := 6) hx hb dX10_chimney_55 (by decide) ?_
            refine lv_bipush (v := 10) hx hb dX10_chimney_57 (by decide) ?_
            refine lv_iload_n hx hb dX10_chimney_59 rfl (lv_at hl 2 rfl) ?_
            refine lv_imul hx hb dX10_chimney_60 ?_
            refine lv_iadd hx hb dX10_chimney_61 ?_
            refine lv_iload_n hx hb dX10_chimney_62 rfl (lv_at hl 1 rfl) ?_
            refine lv_iadd hx hb dX10_chimney_63 ?_
            obtain ⟨b_11, hf⟩ := og_some hf
            refine va_iald hx hb hK hP 1 0 rfl rfl (vb_ok b_11) dX10_chimney_64 ?_
            obtain rfl := Option.some.inj hf
            exact hRet H locs ls 65 hP hD hS rfl dX10_chimney_65
        · have hf := oi_t hf c_6
          refine lv_aload_n hx hb dX10_chimney_40 rfl (lv_at hl 0 rfl) ?_
          refine lv_iload_n hx hb dX10_chimney_41 rfl (lv_at hl 1 rfl) ?_
          obtain ⟨o_12, ho_12, hf⟩ := ob_some hf
          refine ca_V (As := [.int a1]) (rest := []) (wr := []) (wn := [(h0, .inr (10, [.int (0 : Int32), .ref h1, g_hasImage, g_tape, g_fresh, .int v_taped, .int v_at, .int v_behind, .int v_size, .int v_kind, .int v_number, .int v_wrong, .int v_wrongAt, .int v_faultKind, .int v_faultPlace, g_lows, g_highs, g_puffsOf, g_puffMany, g_touches, g_kept, .int v_why, g_pairs, g_few, g_freeOf, g_quarterOf, g_bestOf, g_areApart, .int v_fewMany, .int v_bestLatest, .int v_bestSum, g_sootFor, .int v_alwaysLit, .int v_theDay, g_goodIn, .int v_goodSome, g_hadSmoke, g_rowSort, g_rowMany, g_numbers])), (h1, .inl (q0, 486, .inl v_all))]) ⟨hx, hb, hml, hown, hts⟩ (ctX10_litAt l dC dI F H.size h0 h1 q0 (0 : Int32) (g_hasImage) (g_tape) (g_fresh) v_taped v_at v_behind v_size v_kind v_number v_wrong v_wrongAt v_faultKind v_faultPlace (g_lows) (g_highs) (g_puffsOf) (g_puffMany) (g_touches) (g_kept) v_why (g_pairs) (g_few) (g_freeOf) (g_quarterOf) (g_bestOf) (g_areApart) v_fewMany v_bestLatest v_bestSum (g_sootFor) v_alwaysLit v_theDay (g_goodIn) v_goodSome (g_hadSmoke) (g_rowSort) (g_rowMany) (g_numbers) v_all a1 o_12 ho_12) ⟨mC_X10_litAt, mN_X10, md_X10_litAt, ⟨rfl, rfl⟩, ⟨Nat.le_of_ble_eq_true rfl, Nat.le_of_ble_eq_true rfl⟩⟩ mM_X10_179 mI_X10_litAt mS_X10_litAt hK hN hP hD hS hA [0] [0, 1] [] [0, 1] rfl rfl rfl ⟨by decide, by decide, by decide, by decide⟩ rfl 0 10 rfl rfl rfl hl.1 (Nat.le_of_ble_eq_true rfl) ⟨Nat.zero_le _, Nat.zero_le _⟩ dX10_chimney_42 (fun H locs hP hD hS => ?_)
          obtain rfl := Option.some.inj hf
          exact hRet H locs ls 45 hP hD hS rfl dX10_chimney_45
      · have hf := oi_f hf c_5
        refine lv_bipush (v := -2) hx hb dX10_chimney_32 (by decide) ?_
        obtain rfl := Option.some.inj hf
        exact hRet H locs ls 34 hP hD hS rfl dX10_chimney_34
def fX10_windOf_L60 (F : Nat) (v_all : Nat → Int32) (a1 : Int32) (a2 : Int32) (k5 : Int32 → Int32 → Option (Int32)) (x3 : Int32) (x4 : Int32) : Option (Int32) := ol (x4 + 1) (fun x4_1 => k5 x3 x4_1)
def fX10_windOf_L57 (F : Nat) (v_all : Nat → Int32) (a1 : Int32) (a2 : Int32) (k5 : Int32 → Int32 → Option (Int32)) (x4 : Int32) : Option (Int32) := fX10_windOf_L60 F v_all a1 a2 k5 x4 x4
def fX10_windOf_L5 (F : Nat) (v_all : Nat → Int32) (a1 : Int32) (a2 : Int32) : Nat → Int32 → Int32 → Option (Int32)
  | 0, _, _ => none
  | n + 1, x3, x4 => if (v_all (1 : Int32).toNatClampNeg) ≤ x4 then (if x3 = (-1 : Int32) then (some (3 : Int32)) else (og (vb ((((126 : Int32) + ((3 : Int32) * x3)) + (1 : Int32)) + a2) 486) (some (v_all ((((126 : Int32) + ((3 : Int32) * x3)) + (1 : Int32)) + a2).toNatClampNeg)))) else (og (vb ((126 : Int32) + ((3 : Int32) * x4)) 486) (ol (v_all ((126 : Int32) + ((3 : Int32) * x4)).toNatClampNeg) (fun x_6 => if a1 < x_6 then (fX10_windOf_L60 F v_all a1 a2 (fun x3 x4 => fX10_windOf_L5 F v_all a1 a2 n x3 x4) x3 x4) else (if x3 = (-1 : Int32) then (fX10_windOf_L57 F v_all a1 a2 (fun x3 x4 => fX10_windOf_L5 F v_all a1 a2 n x3 x4) x4) else (og (vb ((126 : Int32) + ((3 : Int32) * x3)) 486) (if x_6 < (v_all ((126 : Int32) + ((3 : Int32) * x3)).toNatClampNeg) then (fX10_windOf_L60 F v_all a1 a2 (fun x3 x4 => fX10_windOf_L5 F v_all a1 a2 n x3 x4) x3 x4) else (fX10_windOf_L57 F v_all a1 a2 (fun x3 x4 => fX10_windOf_L5 F v_all a1 a2 n x3 x4) x4)))))))
def fX10_windOf (F : Nat) (v_all : Nat → Int32) (a1 : Int32) (a2 : Int32) : Option (Int32) := fX10_windOf_L5 F v_all a1 a2 F (-1 : Int32) (0 : Int32)
set_option maxRecDepth 100000 in
set_option maxHeartbeats 4000000 in
theorem ctX10_windOf (l : Launch) (dC : Nat → ClassId) (dI : Nat → Nat → Nat) (F sz : Nat) (h0 h1 : Nat) (q0 : ClassId) (v_thrown : Int32) (g_hasImage : Value) (g_tape : Value) (g_fresh : Value) (v_taped : Int32) (v_at : Int32) (v_behind : Int32) (v_size : Int32) (v_kind : Int32) (v_number : Int32) (v_wrong : Int32) (v_wrongAt : Int32) (v_faultKind : Int32) (v_faultPlace : Int32) (g_lows : Value) (g_highs : Value) (g_puffsOf : Value) (g_puffMany : Value) (g_touches : Value) (g_kept : Value) (v_why : Int32) (g_pairs : Value) (g_few : Value) (g_freeOf : Value) (g_quarterOf : Value) (g_bestOf : Value) (g_areApart : Value) (v_fewMany : Int32) (v_bestLatest : Int32) (v_bestSum : Int32) (g_sootFor : Value) (v_alwaysLit : Int32) (v_theDay : Int32) (g_goodIn : Value) (v_goodSome : Int32) (g_hadSmoke : Value) (g_rowSort : Value) (g_rowMany : Value) (g_numbers : Value) (v_all : Nat → Int32) (a1 : Int32) (a2 : Int32) (out : Int32) (hf : fX10_windOf F v_all a1 a2 = some out) : cM l yX10_windOf cX10_windOf 6 (some .int) ({ frames := 0, cells := 0, slots := 0, locals := 0 } : Room) (dC, dI) [(q0, .int)] [(h0, .inr (10, [.int v_thrown, .ref h1, g_hasImage, g_tape, g_fresh, .int v_taped, .int v_at, .int v_behind, .int v_size, .int v_kind, .int v_number, .int v_wrong, .int v_wrongAt, .int v_faultKind, .int v_faultPlace, g_lows, g_highs, g_puffsOf, g_puffMany, g_touches, g_kept, .int v_why, g_pairs, g_few, g_freeOf, g_quarterOf, g_bestOf, g_areApart, .int v_fewMany, .int v_bestLatest, .int v_bestSum, g_sootFor, .int v_alwaysLit, .int v_theDay, g_goodIn, .int v_goodSome, g_hadSmoke, g_rowSort, g_rowMany, g_numbers])), (h1, .inl (q0, 486, .inl v_all))] [.ref h0, .int a1, .int a2] sz (some (.int out)) [(h0, .inr (10, [.int v_thrown, .ref h1, g_hasImage, g_tape, g_fresh, .int v_taped, .int v_at, .int v_behind, .int v_size, .int v_kind, .int v_number, .int v_wrong, .int v_wrongAt, .int v_faultKind, .int v_faultPlace, g_lows, g_highs, g_puffsOf, g_puffMany, g_touches, g_kept, .int v_why, g_pairs, g_few, g_freeOf, g_quarterOf, g_bestOf, g_areApart, .int v_fewMany, .int v_bestLatest, .int v_bestSum, g_sootFor, .int v_alwaysLit, .int v_theDay, g_goodIn, .int v_goodSome, g_hadSmoke, g_rowSort, g_rowMany, g_numbers])), (h1, .inl (q0, 486, .inl v_all))] := by
  refine cM_I RX10 ⟨by decide, rfl⟩ (Nat.le_of_ble_eq_true rfl) ?_
  intro p e s m below meth c A Q ls hx hb hml hown hts hK hN hA hP hD hS hl hRet
  have htb : ∀ w ∈ lw_g, w.before ([.ref h0, .int a1, .int a2] : List Value).toArray s = true := fun w h => hts w (List.mem_cons_of_mem _ h)
  have hl : lv_has ls 6 [(0, .ref h0), (1, .int a1), (2, .int a2)] := hl
  have L60 : ∀ (k5 : Int32 → Int32 → Option (Int32)) (hk5 : ∀ (H : Heap) (locs : List Loc) (ls : Array Slot) (x3 : Int32) (x4 : Int32), va_P (dC, dI) vwCl [(h0, .inr (10, [.int v_thrown, .ref h1, g_hasImage, g_tape, g_fresh, .int v_taped, .int v_at, .int v_behind, .int v_size, .int v_kind, .int v_number, .int v_wrong, .int v_wrongAt, .int v_faultKind, .int v_faultPlace, g_lows, g_highs, g_puffsOf, g_puffMany, g_touches, g_kept, .int v_why, g_pairs, g_few, g_freeOf, g_quarterOf, g_bestOf, g_areApart, .int v_fewMany, .int v_bestLatest, .int v_bestSum, g_sootFor, .int v_alwaysLit, .int v_theDay, g_goodIn, .int v_goodSome, g_hadSmoke, g_rowSort, g_rowMany, g_numbers])), (h1, .inl (q0, 486, .inl v_all))] H → va_D A [(h0, .inr (10, [.int v_thrown, .ref h1, g_hasImage, g_tape, g_fresh, .int v_taped, .int v_at, .int v_behind, .int v_size, .int v_kind, .int v_number, .int v_wrong, .int v_wrongAt, .int v_faultKind, .int v_faultPlace, g_lows, g_highs, g_puffsOf, g_puffMany, g_touches, g_kept, .int v_why, g_pairs, g_few, g_freeOf, g_quarterOf, g_bestOf, g_areApart, .int v_fewMany, .int v_bestLatest, .int v_bestSum, g_sootFor, .int v_alwaysLit, .int v_theDay, g_goodIn, .int v_goodSome, g_hadSmoke, g_rowSort, g_rowMany, g_numbers])), (h1, .inl (q0, 486, .inl v_all))] → va_S A s.heap H locs → lv_has ls 6 [(0, .ref h0), (1, .int a1), (2, .int a2), (3, .int x3), (4, .int x4)] → k5 x3 x4 = some out → W p l e ({ frames := 0, cells := 0, slots := 0, locals := 0 } : Room) s m ([.ref h0, .int a1, .int a2] : List Value).toArray below meth c H locs 0 0 Q (F0 m 5 ls [])), ∀ (H : Heap) (locs : List Loc) (ls : Array Slot) (x3 : Int32) (x4 : Int32), va_P (dC, dI) vwCl [(h0, .inr (10, [.int v_thrown, .ref h1, g_hasImage, g_tape, g_fresh, .int v_taped, .int v_at, .int v_behind, .int v_size, .int v_kind, .int v_number, .int v_wrong, .int v_wrongAt, .int v_faultKind, .int v_faultPlace, g_lows, g_highs, g_puffsOf, g_puffMany, g_touches, g_kept, .int v_why, g_pairs, g_few, g_freeOf, g_quarterOf, g_bestOf, g_areApart, .int v_fewMany, .int v_bestLatest, .int v_bestSum, g_sootFor, .int v_alwaysLit, .int v_theDay, g_goodIn, .int v_goodSome, g_hadSmoke, g_rowSort, g_rowMany, g_numbers])), (h1, .inl (q0, 486, .inl v_all))] H → va_D A [(h0, .inr (10, [.int v_thrown, .ref h1, g_hasImage, g_tape, g_fresh, .int v_taped, .int v_at, .int v_behind, .int v_size, .int v_kind, .int v_number, .int v_wrong, .int v_wrongAt, .int v_faultKind, .int v_faultPlace, g_lows, g_highs, g_puffsOf, g_puffMany, g_touches, g_kept, .int v_why, g_pairs, g_few, g_freeOf, g_quarterOf, g_bestOf, g_areApart, .int v_fewMany, .int v_bestLatest, .int v_bestSum, g_sootFor, .int v_alwaysLit, .int v_theDay, g_goodIn, .int v_goodSome, g_hadSmoke, g_rowSort, g_rowMany, g_numbers])), (h1, .inl (q0, 486, .inl v_all))] → va_S A s.heap H locs → lv_has ls 6 [(0, .ref h0), (1, .int a1), (2, .int a2), (3, .int x3), (4, .int x4)] → fX10_windOf_L60 F v_all a1 a2 k5 x3 x4 = some out → W p l e ({ frames := 0, cells := 0, slots := 0, locals := 0 } : Room) s m ([.ref h0, .int a1, .int a2] : List Value).toArray below meth c H locs 0 0 Q (F0 m 60 ls []) := by
    intro k5 hk5 H locs ls x3 x4 hP hD hS hl hf
    unfold fX10_windOf_L60 at hf
    obtain ⟨x4_1, ex4_1⟩ : ∃ y : Int32, y = x4 + 1 := ⟨_, rfl⟩
    refine lv_iinc (v := x4_1) (lv' := [(4, .int x4_1), (0, .ref h0), (1, .int a1), (2, .int a2), (3, .int x3)]) hx hb dX10_windOf_60 hl (k := 4) rfl (by rw [ex4_1]; rfl) (by decide) rfl (fun ls hl => ?_)
    have hf := ol_some hf ex4_1
    refine lv_goto (tgt := 5) hx hb dX10_windOf_63 (by decide) ?_
    exact hk5 H locs ls x3 x4_1 hP hD hS (lv_sub hl [1, 2, 3, 4, 0] rfl) hf
  have L57 : ∀ (k5 : Int32 → Int32 → Option (Int32)) (hk5 : ∀ (H : Heap) (locs : List Loc) (ls : Array Slot) (x3 : Int32) (x4 : Int32), va_P (dC, dI) vwCl [(h0, .inr (10, [.int v_thrown, .ref h1, g_hasImage, g_tape, g_fresh, .int v_taped, .int v_at, .int v_behind, .int v_size, .int v_kind, .int v_number, .int v_wrong, .int v_wrongAt, .int v_faultKind, .int v_faultPlace, g_lows, g_highs, g_puffsOf, g_puffMany, g_touches, g_kept, .int v_why, g_pairs, g_few, g_freeOf, g_quarterOf, g_bestOf, g_areApart, .int v_fewMany, .int v_bestLatest, .int v_bestSum, g_sootFor, .int v_alwaysLit, .int v_theDay, g_goodIn, .int v_goodSome, g_hadSmoke, g_rowSort, g_rowMany, g_numbers])), (h1, .inl (q0, 486, .inl v_all))] H → va_D A [(h0, .inr (10, [.int v_thrown, .ref h1, g_hasImage, g_tape, g_fresh, .int v_taped, .int v_at, .int v_behind, .int v_size, .int v_kind, .int v_number, .int v_wrong, .int v_wrongAt, .int v_faultKind, .int v_faultPlace, g_lows, g_highs, g_puffsOf, g_puffMany, g_touches, g_kept, .int v_why, g_pairs, g_few, g_freeOf, g_quarterOf, g_bestOf, g_areApart, .int v_fewMany, .int v_bestLatest, .int v_bestSum, g_sootFor, .int v_alwaysLit, .int v_theDay, g_goodIn, .int v_goodSome, g_hadSmoke, g_rowSort, g_rowMany, g_numbers])), (h1, .inl (q0, 486, .inl v_all))] → va_S A s.heap H locs → lv_has ls 6 [(0, .ref h0), (1, .int a1), (2, .int a2), (3, .int x3), (4, .int x4)] → k5 x3 x4 = some out → W p l e ({ frames := 0, cells := 0, slots := 0, locals := 0 } : Room) s m ([.ref h0, .int a1, .int a2] : List Value).toArray below meth c H locs 0 0 Q (F0 m 5 ls [])), ∀ (H : Heap) (locs : List Loc) (ls : Array Slot) (x4 : Int32), va_P (dC, dI) vwCl [(h0, .inr (10, [.int v_thrown, .ref h1, g_hasImage, g_tape, g_fresh, .int v_taped, .int v_at, .int v_behind, .int v_size, .int v_kind, .int v_number, .int v_wrong, .int v_wrongAt, .int v_faultKind, .int v_faultPlace, g_lows, g_highs, g_puffsOf, g_puffMany, g_touches, g_kept, .int v_why, g_pairs, g_few, g_freeOf, g_quarterOf, g_bestOf, g_areApart, .int v_fewMany, .int v_bestLatest, .int v_bestSum, g_sootFor, .int v_alwaysLit, .int v_theDay, g_goodIn, .int v_goodSome, g_hadSmoke, g_rowSort, g_rowMany, g_numbers])), (h1, .inl (q0, 486, .inl v_all))] H → va_D A [(h0, .inr (10, [.int v_thrown, .ref h1, g_hasImage, g_tape, g_fresh, .int v_taped, .int v_at, .int v_behind, .int v_size, .int v_kind, .int v_number, .int v_wrong, .int v_wrongAt, .int v_faultKind, .int v_faultPlace, g_lows, g_highs, g_puffsOf, g_puffMany, g_touches, g_kept, .int v_why, g_pairs, g_few, g_freeOf, g_quarterOf, g_bestOf, g_areApart, .int v_fewMany, .int v_bestLatest, .int v_bestSum, g_sootFor, .int v_alwaysLit, .int v_theDay, g_goodIn, .int v_goodSome, g_hadSmoke, g_rowSort, g_rowMany, g_numbers])), (h1, .inl (q0, 486, .inl v_all))] → va_S A s.heap H locs → lv_has ls 6 [(0, .ref h0), (1, .int a1), (2, .int a2), (4, .int x4)] → fX10_windOf_L57 F v_all a1 a2 k5 x4 = some out → W p l e ({ frames := 0, cells := 0, slots := 0, locals := 0 } : Room) s m ([.ref h0, .int a1, .int a2] : List Value).toArray below meth c H locs 0 0 Q (F0 m 57 ls []) := by
    intro k5 hk5 H locs ls x4 hP hD hS hl hf
    unfold fX10_windOf_L57 at hf
    refine lv_iload hx hb dX10_windOf_57 (lv_at hl 3 rfl) ?_
    refine lv_istore_n (lv' := [(3, .int x4), (0, .ref h0), (1, .int a1), (2, .int a2), (4, .int x4)]) hx hb dX10_windOf_59 rfl hl (by decide) rfl (fun ls hl => ?_)
    exact L60 k5 hk5 H locs ls x4 x4 hP hD hS (lv_sub hl [1, 2, 3, 0, 4] rfl) hf
  have L5 : ∀ (n : Nat), ∀ (H : Heap) (locs : List Loc) (ls : Array Slot) (x3 : Int32) (x4 : Int32), va_P (dC, dI) vwCl [(h0, .inr (10, [.int v_thrown, .ref h1, g_hasImage, g_tape, g_fresh, .int v_taped, .int v_at, .int v_behind, .int v_size, .int v_kind, .int v_number, .int v_wrong, .int v_wrongAt, .int v_faultKind, .int v_faultPlace, g_lows, g_highs, g_puffsOf, g_puffMany, g_touches, g_kept, .int v_why, g_pairs, g_few, g_freeOf, g_quarterOf, g_bestOf, g_areApart, .int v_fewMany, .int v_bestLatest, .int v_bestSum, g_sootFor, .int v_alwaysLit, .int v_theDay, g_goodIn, .int v_goodSome, g_hadSmoke, g_rowSort, g_rowMany, g_numbers])), (h1, .inl (q0, 486, .inl v_all))] H → va_D A [(h0, .inr (10, [.int v_thrown, .ref h1, g_hasImage, g_tape, g_fresh, .int v_taped, .int v_at, .int v_behind, .int v_size, .int v_kind, .int v_number, .int v_wrong, .int v_wrongAt, .int v_faultKind, .int v_faultPlace, g_lows, g_highs, g_puffsOf, g_puffMany, g_touches, g_kept, .int v_why, g_pairs, g_few, g_freeOf, g_quarterOf, g_bestOf, g_areApart, .int v_fewMany, .int v_bestLatest, .int v_bestSum, g_sootFor, .int v_alwaysLit, .int v_theDay, g_goodIn, .int v_goodSome, g_hadSmoke, g_rowSort, g_rowMany, g_numbers])), (h1, .inl (q0, 486, .inl v_all))] → va_S A s.heap H locs → lv_has ls 6 [(0, .ref h0), (1, .int a1), (2, .int a2), (3, .int x3), (4, .int x4)] → fX10_windOf_L5 F v_all a1 a2 n x3 x4 = some out → W p l e ({ frames := 0, cells := 0, slots := 0, locals := 0 } : Room) s m ([.ref h0, .int a1, .int a2] : List Value).toArray below meth c H locs 0 0 Q (F0 m 5 ls []) := by
    intro n
    induction n with
    | zero =>
      intro H locs ls x3 x4 hP hD hS hl hf
      cases hf
    | succ n ih =>
      intro H locs ls x3 x4 hP hD hS hl hf
      rw [fX10_windOf_L5] at hf
      refine lv_iload hx hb dX10_windOf_5 (lv_at hl 4 rfl) ?_
      refine lv_aload_n hx hb dX10_windOf_7 rfl (lv_at hl 0 rfl) ?_
      refine va_get (D := (dC, dI)) (ci := 10) (v := .ref h1) (C := RX10) (T := TX10) (N := 40) hx hb htb inG10 hown hK hP 0 rfl rfl 1 (by decide) (htb _ mF_X10_13) (fun _ h9 => h9) rfl dX10_windOf_8 ?_
      refine lv_iconst (v := 1) hx hb dX10_windOf_11 (by decide) ?_
      refine va_iald hx hb hK hP 1 0 rfl rfl (vb_ok (by decide)) dX10_windOf_12 ?_
      refine lv_icmp_ge (tgt := 66) hx hb dX10_windOf_13 (by decide) (fun c_2 => ?_) (fun c_2 => ?_)
      · have hf := oi_t hf c_2
        refine lv_iload_n hx hb dX10_windOf_66 rfl (lv_at hl 3 rfl) ?_
        refine lv_iconst (v := -1) hx hb dX10_windOf_67 (by decide) ?_
        refine lv_icmp_ne (tgt := 75) hx hb dX10_windOf_68 (by decide) (fun c_3 => ?_) (fun c_3 => ?_)
        · have hf := oi_f hf c_3
          refine lv_aload_n hx hb dX10_windOf_75 rfl (lv_at hl 0 rfl) ?_
          refine va_get (D := (dC, dI)) (ci := 10) (v := .ref h1) (C := RX10) (T := TX10) (N := 40) hx hb htb inG10 hown hK hP 0 rfl rfl 1 (by decide) (htb _ mF_X10_13) (fun _ h9 => h9) rfl dX10_windOf_76 ?_
          refine lv_bipush (v := 126) hx hb dX10_windOf_79 (by decide) ?_
          refine lv_iconst (v := 3) hx hb dX10_windOf_81 (by decide) ?_
          refine lv_iload_n hx hb dX10_windOf_82 rfl (lv_at hl 3 rfl) ?_
          refine lv_imul hx hb dX10_windOf_83 ?_
          refine lv_iadd hx hb dX10_windOf_84 ?_
          refine lv_iconst (v := 1) hx hb dX10_windOf_85 (by decide) ?_
          refine lv_iadd hx hb dX10_windOf_86 ?_
          refine lv_iload_n hx hb dX10_windOf_87 rfl (lv_at hl 2 rfl) ?_
          refine lv_iadd hx hb dX10_windOf_88 ?_
          obtain ⟨b_4, hf⟩ := og_some hf
          refine va_iald hx hb hK hP 1 0 rfl rfl (vb_ok b_4) dX10_windOf_89 ?_
          obtain rfl := Option.some.inj hf
          exact hRet H locs ls 90 hP hD hS rfl dX10_windOf_90
        · have hf := oi_t hf c_3
          refine lv_iconst (v := 3) hx hb dX10_windOf_71 (by decide) ?_
          refine lv_goto (tgt := 90) hx hb dX10_windOf_72 (by decide) ?_
          obtain rfl := Option.some.inj hf
          exact hRet H locs ls 90 hP hD hS rfl dX10_windOf_90
      · have hf := oi_f hf c_2
        refine lv_aload_n hx hb dX10_windOf_16 rfl (lv_at hl 0 rfl) ?_
        refine va_get (D := (dC, dI)) (ci := 10) (v := .ref h1) (C := RX10) (T := TX10) (N := 40) hx hb htb inG10 hown hK hP 0 rfl rfl 1 (by decide) (htb _ mF_X10_13) (fun _ h9 => h9) rfl dX10_windOf_17 ?_
        refine lv_bipush (v := 126) hx hb dX10_windOf_20 (by decide) ?_
        refine lv_iconst (v := 3) hx hb dX10_windOf_22 (by decide) ?_
        refine lv_iload hx hb dX10_windOf_23 (lv_at hl 4 rfl) ?_
        refine lv_imul hx hb dX10_windOf_25 ?_
        refine lv_iadd hx hb dX10_windOf_26 ?_
        obtain ⟨b_5, hf⟩ := og_some hf
        refine va_iald hx hb hK hP 1 0 rfl rfl (vb_ok b_5) dX10_windOf_27 ?_
        refine lv_topi (fun x_6 ex_6 => ?_)
        have hf := ol_some hf ex_6
        refine lv_istore (lv' := [(5, .int x_6), (0, .ref h0), (1, .int a1), (2, .int a2), (3, .int x3), (4, .int x4)]) hx hb dX10_windOf_28 hl (by decide) rfl (fun ls hl => ?_)
        refine lv_iload hx hb dX10_windOf_30 (lv_at hl 0 rfl) ?_
        refine lv_iload_n hx hb dX10_windOf_32 rfl (lv_at hl 2 rfl) ?_
        refine lv_icmp_gt (tgt := 60) hx hb dX10_windOf_33 (by decide) (fun c_7 => ?_) (fun c_7 => ?_)
        · have hf := oi_t hf c_7
          exact L60 (fun x3 x4 => fX10_windOf_L5 F v_all a1 a2 n x3 x4) ih H locs ls x3 x4 hP hD hS (lv_sub hl [1, 2, 3, 4, 5] rfl) hf
        · have hf := oi_f hf c_7
          refine lv_iload_n hx hb dX10_windOf_36 rfl (lv_at hl 4 rfl) ?_
          refine lv_iconst (v := -1) hx hb dX10_windOf_37 (by decide) ?_
          refine lv_icmp_eq (tgt := 57) hx hb dX10_windOf_38 (by decide) (fun c_8 => ?_) (fun c_8 => ?_)
          · have hf := oi_t hf c_8
            exact L57 (fun x3 x4 => fX10_windOf_L5 F v_all a1 a2 n x3 x4) ih H locs ls x4 hP hD hS (lv_sub hl [1, 2, 3, 5] rfl) hf
          · have hf := oi_f hf c_8
            refine lv_iload hx hb dX10_windOf_41 (lv_at hl 0 rfl) ?_
            refine lv_aload_n hx hb dX10_windOf_43 rfl (lv_at hl 1 rfl) ?_
            refine va_get (D := (dC, dI)) (ci := 10) (v := .ref h1) (C := RX10) (T := TX10) (N := 40) hx hb htb inG10 hown hK hP 0 rfl rfl 1 (by decide) (htb _ mF_X10_13) (fun _ h9 => h9) rfl dX10_windOf_44 ?_
            refine lv_bipush (v := 126) hx hb dX10_windOf_47 (by decide) ?_
            refine lv_iconst (v := 3) hx hb dX10_windOf_49 (by decide) ?_
            refine lv_iload_n hx hb dX10_windOf_50 rfl (lv_at hl 4 rfl) ?_
            refine lv_imul hx hb dX10_windOf_51 ?_
            refine lv_iadd hx hb dX10_windOf_52 ?_
            obtain ⟨b_9, hf⟩ := og_some hf
            refine va_iald hx hb hK hP 1 0 rfl rfl (vb_ok b_9) dX10_windOf_53 ?_
            refine lv_icmp_lt (tgt := 60) hx hb dX10_windOf_54 (by decide) (fun c_10 => ?_) (fun c_10 => ?_)
            · have hf := oi_t hf c_10
              exact L60 (fun x3 x4 => fX10_windOf_L5 F v_all a1 a2 n x3 x4) ih H locs ls x3 x4 hP hD hS (lv_sub hl [1, 2, 3, 4, 5] rfl) hf
            · have hf := oi_f hf c_10
              exact L57 (fun x3 x4 => fX10_windOf_L5 F v_all a1 a2 n x3 x4) ih H locs ls x4 hP hD hS (lv_sub hl [1, 2, 3, 5] rfl) hf
  suffices K0 : ∀ (H : Heap) (locs : List Loc), va_P (dC, dI) vwCl [(h0, .inr (10, [.int v_thrown, .ref h1, g_hasImage, g_tape, g_fresh, .int v_taped, .int v_at, .int v_behind, .int v_size, .int v_kind, .int v_number, .int v_wrong, .int v_wrongAt, .int v_faultKind, .int v_faultPlace, g_lows, g_highs, g_puffsOf, g_puffMany, g_touches, g_kept, .int v_why, g_pairs, g_few, g_freeOf, g_quarterOf, g_bestOf, g_areApart, .int v_fewMany, .int v_bestLatest, .int v_bestSum, g_sootFor, .int v_alwaysLit, .int v_theDay, g_goodIn, .int v_goodSome, g_hadSmoke, g_rowSort, g_rowMany, g_numbers])), (h1, .inl (q0, 486, .inl v_all))] H → va_D A [(h0, .inr (10, [.int v_thrown, .ref h1, g_hasImage, g_tape, g_fresh, .int v_taped, .int v_at, .int v_behind, .int v_size, .int v_kind, .int v_number, .int v_wrong, .int v_wrongAt, .int v_faultKind, .int v_faultPlace, g_lows, g_highs, g_puffsOf, g_puffMany, g_touches, g_kept, .int v_why, g_pairs, g_few, g_freeOf, g_quarterOf, g_bestOf, g_areApart, .int v_fewMany, .int v_bestLatest, .int v_bestSum, g_sootFor, .int v_alwaysLit, .int v_theDay, g_goodIn, .int v_goodSome, g_hadSmoke, g_rowSort, g_rowMany, g_numbers])), (h1, .inl (q0, 486, .inl v_all))] → va_S A s.heap H locs → W p l e ({ frames := 0, cells := 0, slots := 0, locals := 0 } : Room) s m ([.ref h0, .int a1, .int a2] : List Value).toArray below meth c H locs 0 0 Q (F0 m 0 ls []) from K0 s.heap [] hP hD hS
  clear hP hD hS
  intro H locs hP hD hS
  unfold fX10_windOf at hf
  refine lv_iconst (v := -1) hx hb dX10_windOf_0 (by decide) ?_
  refine lv_istore_n (lv' := [(3, .int (-1 : Int32)), (0, .ref h0), (1, .int a1), (2, .int a2)]) hx hb dX10_windOf_1 rfl hl (by decide) rfl (fun ls hl => ?_)
  refine lv_iconst (v := 0) hx hb dX10_windOf_2 (by decide) ?_
  refine lv_istore (lv' := [(4, .int (0 : Int32)), (3, .int (-1 : Int32)), (0, .ref h0), (1, .int a1), (2, .int a2)]) hx hb dX10_windOf_3 hl (by decide) rfl (fun ls hl => ?_)
  exact L5 F H locs ls (-1 : Int32) (0 : Int32) hP hD hS (lv_sub hl [2, 3, 4, 1, 0] rfl) hf
def fX10_wind_L24 (F : Nat) (v_all : Nat → Int32) (a1 : Int32) (a2 : Int32) (s0 : Int32) (s1 : Int32) (v_thrown : Int32) : Option (Int32 × Int32) := ob (fX10_windOf F v_all s1 s0) (fun o_1 => some (o_1, v_thrown))
def fX10_wind (F : Nat) (v_thrown : Int32) (v_all : Nat → Int32) (a1 : Int32) (a2 : Int32) : Option (Int32 × Int32) := ob (fX10_isHour F a1) (fun o_2 => if o_2 = 0 then (some ((-3 : Int32), (0 : Int32))) else (if a2 = 0 then (fX10_wind_L24 F v_all a1 a2 (0 : Int32) a1 (0 : Int32)) else (fX10_wind_L24 F v_all a1 a2 (1 : Int32) a1 (0 : Int32))))
set_option maxRecDepth 100000 in
set_option maxHeartbeats 4000000 in
theorem ctX10_wind (l : Launch) (dC : Nat → ClassId) (dI : Nat → Nat → Nat) (F sz : Nat) (h0 h1 : Nat) (q0 : ClassId) (v_thrown : Int32) (g_hasImage : Value) (g_tape : Value) (g_fresh : Value) (v_taped : Int32) (v_at : Int32) (v_behind : Int32) (v_size : Int32) (v_kind : Int32) (v_number : Int32) (v_wrong : Int32) (v_wrongAt : Int32) (v_faultKind : Int32) (v_faultPlace : Int32) (g_lows : Value) (g_highs : Value) (g_puffsOf : Value) (g_puffMany : Value) (g_touches : Value) (g_kept : Value) (v_why : Int32) (g_pairs : Value) (g_few : Value) (g_freeOf : Value) (g_quarterOf : Value) (g_bestOf : Value) (g_areApart : Value) (v_fewMany : Int32) (v_bestLatest : Int32) (v_bestSum : Int32) (g_sootFor : Value) (v_alwaysLit : Int32) (v_theDay : Int32) (g_goodIn : Value) (v_goodSome : Int32) (g_hadSmoke : Value) (g_rowSort : Value) (g_rowMany : Value) (g_numbers : Value) (v_all : Nat → Int32) (a1 : Int32) (a2 : Int32) (out : Int32 × Int32) (hf : fX10_wind F v_thrown v_all a1 a2 = some out) : cM l yX10_wind cX10_wind 3 (some .int) ({ frames := 2, cells := 0, slots := 0, locals := 46 } : Room) (dC, dI) [(q0, .int)] [(h0, .inr (10, [.int v_thrown, .ref h1, g_hasImage, g_tape, g_fresh, .int v_taped, .int v_at, .int v_behind, .int v_size, .int v_kind, .int v_number, .int v_wrong, .int v_wrongAt, .int v_faultKind, .int v_faultPlace, g_lows, g_highs, g_puffsOf, g_puffMany, g_touches, g_kept, .int v_why, g_pairs, g_few, g_freeOf, g_quarterOf, g_bestOf, g_areApart, .int v_fewMany, .int v_bestLatest, .int v_bestSum, g_sootFor, .int v_alwaysLit, .int v_theDay, g_goodIn, .int v_goodSome, g_hadSmoke, g_rowSort, g_rowMany, g_numbers])), (h1, .inl (q0, 486, .inl v_all))] [.ref h0, .int a1, .int a2] sz (some (.int out.1)) [(h0, .inr (10, [.int out.2, .ref h1, g_hasImage, g_tape, g_fresh, .int v_taped, .int v_at, .int v_behind, .int v_size, .int v_kind, .int v_number, .int v_wrong, .int v_wrongAt, .int v_faultKind, .int v_faultPlace, g_lows, g_highs, g_puffsOf, g_puffMany, g_touches, g_kept, .int v_why, g_pairs, g_few, g_freeOf, g_quarterOf, g_bestOf, g_areApart, .int v_fewMany, .int v_bestLatest, .int v_bestSum, g_sootFor, .int v_alwaysLit, .int v_theDay, g_goodIn, .int v_goodSome, g_hadSmoke, g_rowSort, g_rowMany, g_numbers])), (h1, .inl (q0, 486, .inl v_all))] := by
  refine cM_I RX10 ⟨by decide, rfl⟩ (Nat.le_of_ble_eq_true rfl) ?_
  intro p e s m below meth c A Q ls hx hb hml hown hts hK hN hA hP hD hS hl hRet
  have htb : ∀ w ∈ lw_g, w.before ([.ref h0, .int a1, .int a2] : List Value).toArray s = true := fun w h => hts w (List.mem_cons_of_mem _ h)
  have hl : lv_has ls 3 [(0, .ref h0), (1, .int a1), (2, .int a2)] := hl
  have L24 : ∀ (H : Heap) (locs : List Loc) (ls : Array Slot) (s0 : Int32) (s1 : Int32) (v_thrown : Int32), va_P (dC, dI) vwCl [(h0, .inr (10, [.int v_thrown, .ref h1, g_hasImage, g_tape, g_fresh, .int v_taped, .int v_at, .int v_behind, .int v_size, .int v_kind, .int v_number, .int v_wrong, .int v_wrongAt, .int v_faultKind, .int v_faultPlace, g_lows, g_highs, g_puffsOf, g_puffMany, g_touches, g_kept, .int v_why, g_pairs, g_few, g_freeOf, g_quarterOf, g_bestOf, g_areApart, .int v_fewMany, .int v_bestLatest, .int v_bestSum, g_sootFor, .int v_alwaysLit, .int v_theDay, g_goodIn, .int v_goodSome, g_hadSmoke, g_rowSort, g_rowMany, g_numbers])), (h1, .inl (q0, 486, .inl v_all))] H → va_D A [(h0, .inr (10, [.int v_thrown, .ref h1, g_hasImage, g_tape, g_fresh, .int v_taped, .int v_at, .int v_behind, .int v_size, .int v_kind, .int v_number, .int v_wrong, .int v_wrongAt, .int v_faultKind, .int v_faultPlace, g_lows, g_highs, g_puffsOf, g_puffMany, g_touches, g_kept, .int v_why, g_pairs, g_few, g_freeOf, g_quarterOf, g_bestOf, g_areApart, .int v_fewMany, .int v_bestLatest, .int v_bestSum, g_sootFor, .int v_alwaysLit, .int v_theDay, g_goodIn, .int v_goodSome, g_hadSmoke, g_rowSort, g_rowMany, g_numbers])), (h1, .inl (q0, 486, .inl v_all))] → va_S A s.heap H locs → lv_has ls 3 [] → fX10_wind_L24 F v_all a1 a2 s0 s1 v_thrown = some out → W p l e ({ frames := 2, cells := 0, slots := 0, locals := 46 } : Room) s m ([.ref h0, .int a1, .int a2] : List Value).toArray below meth c H locs 0 0 Q (F0 m 24 ls [.int s0, .int s1, .ref h0]) := by
    intro H locs ls s0 s1 v_thrown hP hD hS hl hf
    unfold fX10_wind_L24 at hf
    obtain ⟨o_1, ho_1, hf⟩ := ob_some hf
    refine ca_V (As := [.int s1, .int s0]) (rest := []) (wr := []) (wn := [(h0, .inr (10, [.int v_thrown, .ref h1, g_hasImage, g_tape, g_fresh, .int v_taped, .int v_at, .int v_behind, .int v_size, .int v_kind, .int v_number, .int v_wrong, .int v_wrongAt, .int v_faultKind, .int v_faultPlace, g_lows, g_highs, g_puffsOf, g_puffMany, g_touches, g_kept, .int v_why, g_pairs, g_few, g_freeOf, g_quarterOf, g_bestOf, g_areApart, .int v_fewMany, .int v_bestLatest, .int v_bestSum, g_sootFor, .int v_alwaysLit, .int v_theDay, g_goodIn, .int v_goodSome, g_hadSmoke, g_rowSort, g_rowMany, g_numbers])), (h1, .inl (q0, 486, .inl v_all))]) ⟨hx, hb, hml, hown, hts⟩ (ctX10_windOf l dC dI F H.size h0 h1 q0 v_thrown (g_hasImage) (g_tape) (g_fresh) v_taped v_at v_behind v_size v_kind v_number v_wrong v_wrongAt v_faultKind v_faultPlace (g_lows) (g_highs) (g_puffsOf) (g_puffMany) (g_touches) (g_kept) v_why (g_pairs) (g_few) (g_freeOf) (g_quarterOf) (g_bestOf) (g_areApart) v_fewMany v_bestLatest v_bestSum (g_sootFor) v_alwaysLit v_theDay (g_goodIn) v_goodSome (g_hadSmoke) (g_rowSort) (g_rowMany) (g_numbers) v_all s1 s0 o_1 ho_1) ⟨mC_X10_windOf, mN_X10, md_X10_windOf, ⟨rfl, rfl⟩, ⟨Nat.le_of_ble_eq_true rfl, Nat.le_of_ble_eq_true rfl⟩⟩ mM_X10_185 mI_X10_windOf mS_X10_windOf hK hN hP hD hS hA [0] [0, 1] [] [0, 1] rfl rfl rfl ⟨by decide, by decide, by decide, by decide⟩ rfl 0 10 rfl rfl rfl hl.1 (Nat.le_of_ble_eq_true rfl) ⟨Nat.zero_le _, Nat.zero_le _⟩ dX10_wind_24 (fun H locs hP hD hS => ?_)
    refine lv_goto (tgt := 32) hx hb dX10_wind_27 (by decide) ?_
    obtain rfl := Option.some.inj hf
    exact hRet H locs ls 32 hP hD hS rfl dX10_wind_32
  suffices K0 : ∀ (H : Heap) (locs : List Loc), va_P (dC, dI) vwCl [(h0, .inr (10, [.int v_thrown, .ref h1, g_hasImage, g_tape, g_fresh, .int v_taped, .int v_at, .int v_behind, .int v_size, .int v_kind, .int v_number, .int v_wrong, .int v_wrongAt, .int v_faultKind, .int v_faultPlace, g_lows, g_highs, g_puffsOf, g_puffMany, g_touches, g_kept, .int v_why, g_pairs, g_few, g_freeOf, g_quarterOf, g_bestOf, g_areApart, .int v_fewMany, .int v_bestLatest, .int v_bestSum, g_sootFor, .int v_alwaysLit, .int v_theDay, g_goodIn, .int v_goodSome, g_hadSmoke, g_rowSort, g_rowMany, g_numbers])), (h1, .inl (q0, 486, .inl v_all))] H → va_D A [(h0, .inr (10, [.int v_thrown, .ref h1, g_hasImage, g_tape, g_fresh, .int v_taped, .int v_at, .int v_behind, .int v_size, .int v_kind, .int v_number, .int v_wrong, .int v_wrongAt, .int v_faultKind, .int v_faultPlace, g_lows, g_highs, g_puffsOf, g_puffMany, g_touches, g_kept, .int v_why, g_pairs, g_few, g_freeOf, g_quarterOf, g_bestOf, g_areApart, .int v_fewMany, .int v_bestLatest, .int v_bestSum, g_sootFor, .int v_alwaysLit, .int v_theDay, g_goodIn, .int v_goodSome, g_hadSmoke, g_rowSort, g_rowMany, g_numbers])), (h1, .inl (q0, 486, .inl v_all))] → va_S A s.heap H locs → W p l e ({ frames := 2, cells := 0, slots := 0, locals := 46 } : Room) s m ([.ref h0, .int a1, .int a2] : List Value).toArray below meth c H locs 0 0 Q (F0 m 0 ls []) from K0 s.heap [] hP hD hS
  clear hP hD hS
  intro H locs hP hD hS
  unfold fX10_wind at hf
  refine lv_aload_n hx hb dX10_wind_0 rfl (lv_at hl 0 rfl) ?_
  refine lv_iconst (v := 0) hx hb dX10_wind_1 (by decide) ?_
  refine va_put (D := (dC, dI)) (ci := 10) (v := .int (0 : Int32)) (ty := .int) (C := RX10) (T := TX10) (N := 40) hx hb htb inG10 tyX10 tyX10_ok nmX10 hown hK hP hD hS 0 rfl rfl 0 (by decide) (htb _ mF_X10_1) (fun _ h9 => h9) rfl (by decide +kernel) rfl rfl (Nat.le_of_ble_eq_true rfl) dX10_wind_2 (fun H locs hP hD hS => ?_)
  have hP : va_P (dC, dI) vwCl [(h0, .inr (10, [.int (0 : Int32), .ref h1, g_hasImage, g_tape, g_fresh, .int v_taped, .int v_at, .int v_behind, .int v_size, .int v_kind, .int v_number, .int v_wrong, .int v_wrongAt, .int v_faultKind, .int v_faultPlace, g_lows, g_highs, g_puffsOf, g_puffMany, g_touches, g_kept, .int v_why, g_pairs, g_few, g_freeOf, g_quarterOf, g_bestOf, g_areApart, .int v_fewMany, .int v_bestLatest, .int v_bestSum, g_sootFor, .int v_alwaysLit, .int v_theDay, g_goodIn, .int v_goodSome, g_hadSmoke, g_rowSort, g_rowMany, g_numbers])), (h1, .inl (q0, 486, .inl v_all))] H := hP
  have hD : va_D A [(h0, .inr (10, [.int (0 : Int32), .ref h1, g_hasImage, g_tape, g_fresh, .int v_taped, .int v_at, .int v_behind, .int v_size, .int v_kind, .int v_number, .int v_wrong, .int v_wrongAt, .int v_faultKind, .int v_faultPlace, g_lows, g_highs, g_puffsOf, g_puffMany, g_touches, g_kept, .int v_why, g_pairs, g_few, g_freeOf, g_quarterOf, g_bestOf, g_areApart, .int v_fewMany, .int v_bestLatest, .int v_bestSum, g_sootFor, .int v_alwaysLit, .int v_theDay, g_goodIn, .int v_goodSome, g_hadSmoke, g_rowSort, g_rowMany, g_numbers])), (h1, .inl (q0, 486, .inl v_all))] := hD
  refine lv_aload_n hx hb dX10_wind_5 rfl (lv_at hl 0 rfl) ?_
  refine lv_iload_n hx hb dX10_wind_6 rfl (lv_at hl 1 rfl) ?_
  obtain ⟨o_2, ho_2, hf⟩ := ob_some hf
  refine ca_V (As := [.int a1]) (rest := []) (wr := [(h1, .inl (q0, 486, .inl v_all))]) (wn := [(h0, .inr (10, [.int (0 : Int32), .ref h1, g_hasImage, g_tape, g_fresh, .int v_taped, .int v_at, .int v_behind, .int v_size, .int v_kind, .int v_number, .int v_wrong, .int v_wrongAt, .int v_faultKind, .int v_faultPlace, g_lows, g_highs, g_puffsOf, g_puffMany, g_touches, g_kept, .int v_why, g_pairs, g_few, g_freeOf, g_quarterOf, g_bestOf, g_areApart, .int v_fewMany, .int v_bestLatest, .int v_bestSum, g_sootFor, .int v_alwaysLit, .int v_theDay, g_goodIn, .int v_goodSome, g_hadSmoke, g_rowSort, g_rowMany, g_numbers])), (h1, .inl (q0, 486, .inl v_all))]) ⟨hx, hb, hml, hown, hts⟩ (ctX10_isHour l dC dI F H.size h0 (0 : Int32) (.ref h1) (g_hasImage) (g_tape) (g_fresh) v_taped v_at v_behind v_size v_kind v_number v_wrong v_wrongAt v_faultKind v_faultPlace (g_lows) (g_highs) (g_puffsOf) (g_puffMany) (g_touches) (g_kept) v_why (g_pairs) (g_few) (g_freeOf) (g_quarterOf) (g_bestOf) (g_areApart) v_fewMany v_bestLatest v_bestSum (g_sootFor) v_alwaysLit v_theDay (g_goodIn) v_goodSome (g_hadSmoke) (g_rowSort) (g_rowMany) (g_numbers) a1 o_2 ho_2) ⟨mC_X10_isHour, mN_X10, md_X10_isHour, ⟨rfl, rfl⟩, ⟨Nat.le_of_ble_eq_true rfl, Nat.le_of_ble_eq_true rfl⟩⟩ mM_X10_182 mI_X10_isHour mS_X10_isHour hK hN hP hD hS hA [] [0] [1] [1, 0] rfl rfl rfl ⟨by decide, by decide, by decide, by decide⟩ rfl 0 10 rfl rfl rfl hl.1 (Nat.le_of_ble_eq_true rfl) ⟨Nat.zero_le _, Nat.zero_le _⟩ dX10_wind_7 (fun H locs hP hD hS => ?_)
  refine lv_if_eq (tgt := 30) hx hb dX10_wind_10 (by decide) (fun c_3 => ?_) (fun c_3 => ?_)
  · have hf := oi_t hf c_3
    refine lv_bipush (v := -3) hx hb dX10_wind_30 (by decide) ?_
    obtain rfl := Option.some.inj hf
    exact hRet H locs ls 32 hP hD hS rfl dX10_wind_32
  · have hf := oi_f hf c_3
    refine lv_aload_n hx hb dX10_wind_13 rfl (lv_at hl 0 rfl) ?_
    refine lv_iload_n hx hb dX10_wind_14 rfl (lv_at hl 1 rfl) ?_
    refine lv_iload_n hx hb dX10_wind_15 rfl (lv_at hl 2 rfl) ?_
    refine lv_if_eq (tgt := 23) hx hb dX10_wind_16 (by decide) (fun c_4 => ?_) (fun c_4 => ?_)
    · have hf := oi_t hf c_4
      refine lv_iconst (v := 0) hx hb dX10_wind_23 (by decide) ?_
      exact L24 H locs ls (0 : Int32) a1 (0 : Int32) hP hD hS (lv_sub hl [] rfl) hf
    · have hf := oi_f hf c_4
      refine lv_iconst (v := 1) hx hb dX10_wind_19 (by decide) ?_
      refine lv_goto (tgt := 24) hx hb dX10_wind_20 (by decide) ?_
      exact L24 H locs ls (1 : Int32) a1 (0 : Int32) hP hD hS (lv_sub hl [] rfl) hf
def fX10_laysWinds_L2 (F : Nat) (v_all : Nat → Int32) : Nat → Int32 → (Nat → Int32) → (Nat → Int32) → Option ((Nat → Int32) × (Nat → Int32))
  | 0, _, _, _ => none
  | n + 1, x1, v_highs, v_lows => if (48 : Int32) ≤ x1 then (some (v_highs, v_lows)) else (ob (fX10_windOf F v_all x1 (0 : Int32)) (fun o_2 => og (vb x1 48) (ol (upd v_lows x1.toNatClampNeg o_2) (fun v_lows_4 => ob (fX10_windOf F v_all x1 (1 : Int32)) (fun o_5 => og (vb x1 48) (ol (upd v_highs x1.toNatClampNeg o_5) (fun v_highs_7 => ol (x1 + 1) (fun x1_8 => fX10_laysWinds_L2 F v_all n x1_8 v_highs_7 v_lows_4))))))))
def fX10_laysWinds (F : Nat) (v_all : Nat → Int32) (v_highs : Nat → Int32) (v_lows : Nat → Int32)  : Option ((Nat → Int32) × (Nat → Int32)) := fX10_laysWinds_L2 F v_all F (0 : Int32) v_highs v_lows
set_option maxRecDepth 100000 in
set_option maxHeartbeats 4000000 in
theorem ctX10_laysWinds (l : Launch) (dC : Nat → ClassId) (dI : Nat → Nat → Nat) (F sz : Nat) (h0 h1 h2 h3 : Nat) (q0 q1 q2 : ClassId) (v_thrown : Int32) (g_hasImage : Value) (g_tape : Value) (g_fresh : Value) (v_taped : Int32) (v_at : Int32) (v_behind : Int32) (v_size : Int32) (v_kind : Int32) (v_number : Int32) (v_wrong : Int32) (v_wrongAt : Int32) (v_faultKind : Int32) (v_faultPlace : Int32) (g_puffsOf : Value) (g_puffMany : Value) (g_touches : Value) (g_kept : Value) (v_why : Int32) (g_pairs : Value) (g_few : Value) (g_freeOf : Value) (g_quarterOf : Value) (g_bestOf : Value) (g_areApart : Value) (v_fewMany : Int32) (v_bestLatest : Int32) (v_bestSum : Int32) (g_sootFor : Value) (v_alwaysLit : Int32) (v_theDay : Int32) (g_goodIn : Value) (v_goodSome : Int32) (g_hadSmoke : Value) (g_rowSort : Value) (g_rowMany : Value) (g_numbers : Value) (v_all : Nat → Int32) (v_highs : Nat → Int32) (v_lows : Nat → Int32)  (out : (Nat → Int32) × (Nat → Int32)) (hf : fX10_laysWinds F v_all v_highs v_lows = some out) : cM l yX10_laysWinds cX10_laysWinds 2 none ({ frames := 1, cells := 0, slots := 0, locals := 25 } : Room) (dC, dI) [(q0, .int), (q1, .int), (q2, .int)] [(h0, .inr (10, [.int v_thrown, .ref h1, g_hasImage, g_tape, g_fresh, .int v_taped, .int v_at, .int v_behind, .int v_size, .int v_kind, .int v_number, .int v_wrong, .int v_wrongAt, .int v_faultKind, .int v_faultPlace, .ref h3, .ref h2, g_puffsOf, g_puffMany, g_touches, g_kept, .int v_why, g_pairs, g_few, g_freeOf, g_quarterOf, g_bestOf, g_areApart, .int v_fewMany, .int v_bestLatest, .int v_bestSum, g_sootFor, .int v_alwaysLit, .int v_theDay, g_goodIn, .int v_goodSome, g_hadSmoke, g_rowSort, g_rowMany, g_numbers])), (h1, .inl (q0, 486, .inl v_all)), (h2, .inl (q1, 48, .inl v_highs)), (h3, .inl (q2, 48, .inl v_lows))] [.ref h0] sz none [(h0, .inr (10, [.int v_thrown, .ref h1, g_hasImage, g_tape, g_fresh, .int v_taped, .int v_at, .int v_behind, .int v_size, .int v_kind, .int v_number, .int v_wrong, .int v_wrongAt, .int v_faultKind, .int v_faultPlace, .ref h3, .ref h2, g_puffsOf, g_puffMany, g_touches, g_kept, .int v_why, g_pairs, g_few, g_freeOf, g_quarterOf, g_bestOf, g_areApart, .int v_fewMany, .int v_bestLatest, .int v_bestSum, g_sootFor, .int v_alwaysLit, .int v_theDay, g_goodIn, .int v_goodSome, g_hadSmoke, g_rowSort, g_rowMany, g_numbers])), (h1, .inl (q0, 486, .inl v_all)), (h2, .inl (q1, 48, .inl out.1)), (h3, .inl (q2, 48, .inl out.2))] := by
  refine cM_V RX10 ⟨by decide, rfl⟩ (Nat.le_of_ble_eq_true rfl) ?_
  intro p e s m below meth c A Q ls hx hb hml hown hts hK hN hA hP hD hS hl hRet
  have htb : ∀ w ∈ lw_g, w.before ([.ref h0] : List Value).toArray s = true := fun w h => hts w (List.mem_cons_of_mem _ h)
  have hl : lv_has ls 2 [(0, .ref h0)] := hl
  have L2 : ∀ (n : Nat), ∀ (H : Heap) (locs : List Loc) (ls : Array Slot) (x1 : Int32) (v_highs : Nat → Int32) (v_lows : Nat → Int32), va_P (dC, dI) vwCl [(h0, .inr (10, [.int v_thrown, .ref h1, g_hasImage, g_tape, g_fresh, .int v_taped, .int v_at, .int v_behind, .int v_size, .int v_kind, .int v_number, .int v_wrong, .int v_wrongAt, .int v_faultKind, .int v_faultPlace, .ref h3, .ref h2, g_puffsOf, g_puffMany, g_touches, g_kept, .int v_why, g_pairs, g_few, g_freeOf, g_quarterOf, g_bestOf, g_areApart, .int v_fewMany, .int v_bestLatest, .int v_bestSum, g_sootFor, .int v_alwaysLit, .int v_theDay, g_goodIn, .int v_goodSome, g_hadSmoke, g_rowSort, g_rowMany, g_numbers])), (h1, .inl (q0, 486, .inl v_all)), (h2, .inl (q1, 48, .inl v_highs)), (h3, .inl (q2, 48, .inl v_lows))] H → va_D A [(h0, .inr (10, [.int v_thrown, .ref h1, g_hasImage, g_tape, g_fresh, .int v_taped, .int v_at, .int v_behind, .int v_size, .int v_kind, .int v_number, .int v_wrong, .int v_wrongAt, .int v_faultKind, .int v_faultPlace, .ref h3, .ref h2, g_puffsOf, g_puffMany, g_touches, g_kept, .int v_why, g_pairs, g_few, g_freeOf, g_quarterOf, g_bestOf, g_areApart, .int v_fewMany, .int v_bestLatest, .int v_bestSum, g_sootFor, .int v_alwaysLit, .int v_theDay, g_goodIn, .int v_goodSome, g_hadSmoke, g_rowSort, g_rowMany, g_numbers])), (h1, .inl (q0, 486, .inl v_all)), (h2, .inl (q1, 48, .inl v_highs)), (h3, .inl (q2, 48, .inl v_lows))] → va_S A s.heap H locs → lv_has ls 2 [(0, .ref h0), (1, .int x1)] → fX10_laysWinds_L2 F v_all n x1 v_highs v_lows = some out → W p l e ({ frames := 1, cells := 0, slots := 0, locals := 25 } : Room) s m ([.ref h0] : List Value).toArray below meth c H locs 0 0 Q (F0 m 2 ls []) := by
    intro n
    induction n with
    | zero =>
      intro H locs ls x1 v_highs v_lows hP hD hS hl hf
      cases hf
    | succ n ih =>
      intro H locs ls x1 v_highs v_lows hP hD hS hl hf
      rw [fX10_laysWinds_L2] at hf
      refine lv_iload_n hx hb dX10_laysWinds_2 rfl (lv_at hl 1 rfl) ?_
      refine lv_bipush (v := 48) hx hb dX10_laysWinds_3 (by decide) ?_
      refine lv_icmp_ge (tgt := 38) hx hb dX10_laysWinds_5 (by decide) (fun c_1 => ?_) (fun c_1 => ?_)
      · have hf := oi_t hf c_1
        obtain rfl := Option.some.inj hf
        exact hRet H locs ls 38 hP hD hS dX10_laysWinds_38
      · have hf := oi_f hf c_1
        refine lv_aload_n hx hb dX10_laysWinds_8 rfl (lv_at hl 0 rfl) ?_
        refine va_get (D := (dC, dI)) (ci := 10) (v := .ref h3) (C := RX10) (T := TX10) (N := 40) hx hb htb inG10 hown hK hP 0 rfl rfl 15 (by decide) (htb _ mF_X10_30) (fun _ h9 => h9) rfl dX10_laysWinds_9 ?_
        refine lv_iload_n hx hb dX10_laysWinds_12 rfl (lv_at hl 1 rfl) ?_
        refine lv_aload_n hx hb dX10_laysWinds_13 rfl (lv_at hl 0 rfl) ?_
        refine lv_iload_n hx hb dX10_laysWinds_14 rfl (lv_at hl 1 rfl) ?_
        refine lv_iconst (v := 0) hx hb dX10_laysWinds_15 (by decide) ?_
        obtain ⟨o_2, ho_2, hf⟩ := ob_some hf
        refine ca_V (As := [.int x1, .int (0 : Int32)]) (rest := [.int x1, .ref h3]) (wr := [(h2, .inl (q1, 48, .inl v_highs)), (h3, .inl (q2, 48, .inl v_lows))]) (wn := [(h0, .inr (10, [.int v_thrown, .ref h1, g_hasImage, g_tape, g_fresh, .int v_taped, .int v_at, .int v_behind, .int v_size, .int v_kind, .int v_number, .int v_wrong, .int v_wrongAt, .int v_faultKind, .int v_faultPlace, .ref h3, .ref h2, g_puffsOf, g_puffMany, g_touches, g_kept, .int v_why, g_pairs, g_few, g_freeOf, g_quarterOf, g_bestOf, g_areApart, .int v_fewMany, .int v_bestLatest, .int v_bestSum, g_sootFor, .int v_alwaysLit, .int v_theDay, g_goodIn, .int v_goodSome, g_hadSmoke, g_rowSort, g_rowMany, g_numbers])), (h1, .inl (q0, 486, .inl v_all)), (h2, .inl (q1, 48, .inl v_highs)), (h3, .inl (q2, 48, .inl v_lows))]) ⟨hx, hb, hml, hown, hts⟩ (ctX10_windOf l dC dI F H.size h0 h1 q0 v_thrown (g_hasImage) (g_tape) (g_fresh) v_taped v_at v_behind v_size v_kind v_number v_wrong v_wrongAt v_faultKind v_faultPlace (.ref h3) (.ref h2) (g_puffsOf) (g_puffMany) (g_touches) (g_kept) v_why (g_pairs) (g_few) (g_freeOf) (g_quarterOf) (g_bestOf) (g_areApart) v_fewMany v_bestLatest v_bestSum (g_sootFor) v_alwaysLit v_theDay (g_goodIn) v_goodSome (g_hadSmoke) (g_rowSort) (g_rowMany) (g_numbers) v_all x1 (0 : Int32) o_2 ho_2) ⟨mC_X10_windOf, mN_X10, md_X10_windOf, ⟨rfl, rfl⟩, ⟨Nat.le_of_ble_eq_true rfl, Nat.le_of_ble_eq_true rfl⟩⟩ mM_X10_185 mI_X10_windOf mS_X10_windOf hK hN hP hD hS hA [0] [0, 1] [2, 3] [2, 3, 0, 1] rfl rfl rfl ⟨by decide, by decide, by decide, by decide⟩ rfl 0 10 rfl rfl rfl hl.1 (Nat.le_of_ble_eq_true rfl) ⟨Nat.zero_le _, Nat.zero_le _⟩ dX10_laysWinds_16 (fun H locs hP hD hS => ?_)
        obtain ⟨b_3, hf⟩ := og_some hf
        refine va_iast hx hb hK hP hD hS 3 2 rfl rfl (vb_ok b_3) dX10_laysWinds_19 (fun H locs hP hD hS => ?_)
        generalize ev_lows_4 : upd v_lows x1.toNatClampNeg o_2 = v_lows_4 at hP hD
        have hf := ol_some hf ev_lows_4.symm
        have hP : va_P (dC, dI) vwCl [(h0, .inr (10, [.int v_thrown, .ref h1, g_hasImage, g_tape, g_fresh, .int v_taped, .int v_at, .int v_behind, .int v_size, .int v_kind, .int v_number, .int v_wrong, .int v_wrongAt, .int v_faultKind, .int v_faultPlace, .ref h3, .ref h2, g_puffsOf, g_puffMany, g_touches, g_kept, .int v_why, g_pairs, g_few, g_freeOf, g_quarterOf, g_bestOf, g_areApart, .int v_fewMany, .int v_bestLatest, .int v_bestSum, g_sootFor, .int v_alwaysLit, .int v_theDay, g_goodIn, .int v_goodSome, g_hadSmoke, g_rowSort, g_rowMany, g_numbers])), (h1, .inl (q0, 486, .inl v_all)), (h2, .inl (q1, 48, .inl v_highs)), (h3, .inl (q2, 48, .inl v_lows_4))] H := hP
        have hD : va_D A [(h0, .inr (10, [.int v_thrown, .ref h1, g_hasImage, g_tape, g_fresh, .int v_taped, .int v_at, .int v_behind, .int v_size, .int v_kind, .int v_number, .int v_wrong, .int v_wrongAt, .int v_faultKind, .int v_faultPlace, .ref h3, .ref h2, g_puffsOf, g_puffMany, g_touches, g_kept, .int v_why, g_pairs, g_few, g_freeOf, g_quarterOf, g_bestOf, g_areApart, .int v_fewMany, .int v_bestLatest, .int v_bestSum, g_sootFor, .int v_alwaysLit, .int v_theDay, g_goodIn, .int v_goodSome, g_hadSmoke, g_rowSort, g_rowMany, g_numbers])), (h1, .inl (q0, 486, .inl v_all)), (h2, .inl (q1, 48, .inl v_highs)), (h3, .inl (q2, 48, .inl v_lows_4))] := hD
        refine lv_aload_n hx hb dX10_laysWinds_20 rfl (lv_at hl 0 rfl) ?_
        refine va_get (D := (dC, dI)) (ci := 10) (v := .ref h2) (C := RX10) (T := TX10) (N := 40) hx hb htb inG10 hown hK hP 0 rfl rfl 16 (by decide) (htb _ mF_X10_33) (fun _ h9 => h9) rfl dX10_laysWinds_21 ?_
        refine lv_iload_n hx hb dX10_laysWinds_24 rfl (lv_at hl 1 rfl) ?_
        refine lv_aload_n hx hb dX10_laysWinds_25 rfl (lv_at hl 0 rfl) ?_
        refine lv_iload_n hx hb dX10_laysWinds_26 rfl (lv_at hl 1 rfl) ?_
        refine lv_iconst (v := 1) hx hb dX10_laysWinds_27 (by decide) ?_
        obtain ⟨o_5, ho_5, hf⟩ := ob_some hf
        refine ca_V (As := [.int x1, .int (1 : Int32)]) (rest := [.int x1, .ref h2]) (wr := [(h2, .inl (q1, 48, .inl v_highs)), (h3, .inl (q2, 48, .inl v_lows_4))]) (wn := [(h0, .inr (10, [.int v_thrown, .ref h1, g_hasImage, g_tape, g_fresh, .int v_taped, .int v_at, .int v_behind, .int v_size, .int v_kind, .int v_number, .int v_wrong, .int v_wrongAt, .int v_faultKind, .int v_faultPlace, .ref h3, .ref h2, g_puffsOf, g_puffMany, g_touches, g_kept, .int v_why, g_pairs, g_few, g_freeOf, g_quarterOf, g_bestOf, g_areApart, .int v_fewMany, .int v_bestLatest, .int v_bestSum, g_sootFor, .int v_alwaysLit, .int v_theDay, g_goodIn, .int v_goodSome, g_hadSmoke, g_rowSort, g_rowMany, g_numbers])), (h1, .inl (q0, 486, .inl v_all)), (h2, .inl (q1, 48, .inl v_highs)), (h3, .inl (q2, 48, .inl v_lows_4))]) ⟨hx, hb, hml, hown, hts⟩ (ctX10_windOf l dC dI F H.size h0 h1 q0 v_thrown (g_hasImage) (g_tape) (g_fresh) v_taped v_at v_behind v_size v_kind v_number v_wrong v_wrongAt v_faultKind v_faultPlace (.ref h3) (.ref h2) (g_puffsOf) (g_puffMany) (g_touches) (g_kept) v_why (g_pairs) (g_few) (g_freeOf) (g_quarterOf) (g_bestOf) (g_areApart) v_fewMany v_bestLatest v_bestSum (g_sootFor) v_alwaysLit v_theDay (g_goodIn) v_goodSome (g_hadSmoke) (g_rowSort) (g_rowMany) (g_numbers) v_all x1 (1 : Int32) o_5 ho_5) ⟨mC_X10_windOf, mN_X10, md_X10_windOf, ⟨rfl, rfl⟩, ⟨Nat.le_of_ble_eq_true rfl, Nat.le_of_ble_eq_true rfl⟩⟩ mM_X10_185 mI_X10_windOf mS_X10_windOf hK hN hP hD hS hA [0] [0, 1] [2, 3] [2, 3, 0, 1] rfl rfl rfl ⟨by decide, by decide, by decide, by decide⟩ rfl 0 10 rfl rfl rfl hl.1 (Nat.le_of_ble_eq_true rfl) ⟨Nat.zero_le _, Nat.zero_le _⟩ dX10_laysWinds_28 (fun H locs hP hD hS => ?_)
        obtain ⟨b_6, hf⟩ := og_some hf
        refine va_iast hx hb hK hP hD hS 2 1 rfl rfl (vb_ok b_6) dX10_laysWinds_31 (fun H locs hP hD hS => ?_)
        generalize ev_highs_7 : upd v_highs x1.toNatClampNeg o_5 = v_highs_7 at hP hD
        have hf := ol_some hf ev_highs_7.symm
        have hP : va_P (dC, dI) vwCl [(h0, .inr (10, [.int v_thrown, .ref h1, g_hasImage, g_tape, g_fresh, .int v_taped, .int v_at, .int v_behind, .int v_size, .int v_kind, .int v_number, .int v_wrong, .int v_wrongAt, .int v_faultKind, .int v_faultPlace, .ref h3, .ref h2, g_puffsOf, g_puffMany, g_touches, g_kept, .int v_why, g_pairs, g_few, g_freeOf, g_quarterOf, g_bestOf, g_areApart, .int v_fewMany, .int v_bestLatest, .int v_bestSum, g_sootFor, .int v_alwaysLit, .int v_theDay, g_goodIn, .int v_goodSome, g_hadSmoke, g_rowSort, g_rowMany, g_numbers])), (h1, .inl (q0, 486, .inl v_all)), (h2, .inl (q1, 48, .inl v_highs_7)), (h3, .inl (q2, 48, .inl v_lows_4))] H := hP
        have hD : va_D A [(h0, .inr (10, [.int v_thrown, .ref h1, g_hasImage, g_tape, g_fresh, .int v_taped, .int v_at, .int v_behind, .int v_size, .int v_kind, .int v_number, .int v_wrong, .int v_wrongAt, .int v_faultKind, .int v_faultPlace, .ref h3, .ref h2, g_puffsOf, g_puffMany, g_touches, g_kept, .int v_why, g_pairs, g_few, g_freeOf, g_quarterOf, g_bestOf, g_areApart, .int v_fewMany, .int v_bestLatest, .int v_bestSum, g_sootFor, .int v_alwaysLit, .int v_theDay, g_goodIn, .int v_goodSome, g_hadSmoke, g_rowSort, g_rowMany, g_numbers])), (h1, .inl (q0, 486, .inl v_all)), (h2, .inl (q1, 48, .inl v_highs_7)), (h3, .inl (q2, 48, .inl v_lows_4))] := hD
        obtain ⟨x1_8, ex1_8⟩ : ∃ y : Int32, y = x1 + 1 := ⟨_, rfl⟩
        refine lv_iinc (v := x1_8) (lv' := [(1, .int x1_8), (0, .ref h0)]) hx hb dX10_laysWinds_32 hl (k := 1) rfl (by rw [ex1_8]; rfl) (by decide) rfl (fun ls hl => ?_)
        have hf := ol_some hf ex1_8
        refine lv_goto (tgt := 2) hx hb dX10_laysWinds_35 (by decide) ?_
        exact ih H locs ls x1_8 v_highs_7 v_lows_4 hP hD hS (lv_sub hl [1, 0] rfl) hf
  suffices K0 : ∀ (H : Heap) (locs : List Loc), va_P (dC, dI) vwCl [(h0, .inr (10, [.int v_thrown, .ref h1, g_hasImage, g_tape, g_fresh, .int v_taped, .int v_at, .int v_behind, .int v_size, .int v_kind, .int v_number, .int v_wrong, .int v_wrongAt, .int v_faultKind, .int v_faultPlace, .ref h3, .ref h2, g_puffsOf, g_puffMany, g_touches, g_kept, .int v_why, g_pairs, g_few, g_freeOf, g_quarterOf, g_bestOf, g_areApart, .int v_fewMany, .int v_bestLatest, .int v_bestSum, g_sootFor, .int v_alwaysLit, .int v_theDay, g_goodIn, .int v_goodSome, g_hadSmoke, g_rowSort, g_rowMany, g_numbers])), (h1, .inl (q0, 486, .inl v_all)), (h2, .inl (q1, 48, .inl v_highs)), (h3, .inl (q2, 48, .inl v_lows))] H → va_D A [(h0, .inr (10, [.int v_thrown, .ref h1, g_hasImage, g_tape, g_fresh, .int v_taped, .int v_at, .int v_behind, .int v_size, .int v_kind, .int v_number, .int v_wrong, .int v_wrongAt, .int v_faultKind, .int v_faultPlace, .ref h3, .ref h2, g_puffsOf, g_puffMany, g_touches, g_kept, .int v_why, g_pairs, g_few, g_freeOf, g_quarterOf, g_bestOf, g_areApart, .int v_fewMany, .int v_bestLatest, .int v_bestSum, g_sootFor, .int v_alwaysLit, .int v_theDay, g_goodIn, .int v_goodSome, g_hadSmoke, g_rowSort, g_rowMany, g_numbers])), (h1, .inl (q0, 486, .inl v_all)), (h2, .inl (q1, 48, .inl v_highs)), (h3, .inl (q2, 48, .inl v_lows))] → va_S A s.heap H locs → W p l e ({ frames := 1, cells := 0, slots := 0, locals := 25 } : Room) s m ([.ref h0] : List Value).toArray below meth c H locs 0 0 Q (F0 m 0 ls []) from K0 s.heap [] hP hD hS
  clear hP hD hS
  intro H locs hP hD hS
  unfold fX10_laysWinds at hf
  refine lv_iconst (v := 0) hx hb dX10_laysWinds_0 (by decide) ?_
  refine lv_istore_n (lv' := [(1, .int (0 : Int32)), (0, .ref h0)]) hx hb dX10_laysWinds_1 rfl hl (by decide) rfl (fun ls hl => ?_)
  exact L2 F H locs ls (0 : Int32) v_highs v_lows hP hD hS (lv_sub hl [1, 0] rfl) hf
def fX10_laysOther_L4 (F : Nat) (a1 : Int32) : Nat → Int32 → Int32 → (Nat → Int32) → (Nat → Int32) → Option ((Nat → Int32) × (Nat → Int32))
  | 0, _, _, _, _ => none
  | n + 1, x2, x3, v_highs, v_lows => if (48 : Int32) ≤ x3 then (some (v_highs, v_lows)) else (ol (((1103515245 : Int32) * x2) + (12345 : Int32)) (fun x_2 => og (vb x3 48) (ol (upd v_lows x3.toNatClampNeg ((((x_2).toUInt32 >>> (((16 : Int32) : Int32).toUInt32 &&& Int32.toUInt32 31)).toInt32) - (((x_2).toUInt32 >>> (((16 : Int32) : Int32).toUInt32 &&& Int32.toUInt32 31)).toInt32) / (7 : Int32) * (7 : Int32))) (fun v_lows_4 => ol (((1103515245 : Int32) * x_2) + (12345 : Int32)) (fun x_5 => og (vb x3 48) (ol (upd v_highs x3.toNatClampNeg ((((x_5).toUInt32 >>> (((16 : Int32) : Int32).toUInt32 &&& Int32.toUInt32 31)).toInt32) - (((x_5).toUInt32 >>> (((16 : Int32) : Int32).toUInt32 &&& Int32.toUInt32 31)).toInt32) / (7 : Int32) * (7 : Int32))) (fun v_highs_7 => ol (x3 + 1) (fun x3_8 => fX10_laysOther_L4 F a1 n x_5 x3_8 v_highs_7 v_lows_4))))))))
def fX10_laysOther (F : Nat) (v_highs : Nat → Int32) (v_lows : Nat → Int32) (a1 : Int32) : Option ((Nat → Int32) × (Nat → Int32)) := fX10_laysOther_L4 F a1 F a1 (0 : Int32) v_highs v_lows
set_option maxRecDepth 100000 in
set_option maxHeartbeats 4000000 in
theorem ctX10_laysOther (l : Launch) (dC : Nat → ClassId) (dI : Nat → Nat → Nat) (F sz : Nat) (h0 h1 h2 : Nat) (q0 q1 : ClassId) (v_thrown : Int32) (g_all : Value) (g_hasImage : Value) (g_tape : Value) (g_fresh : Value) (v_taped : Int32) (v_at : Int32) (v_behind : Int32) (v_size : Int32) (v_kind : Int32) (v_number : Int32) (v_wrong : Int32) (v_wrongAt : Int32) (v_faultKind : Int32) (v_faultPlace : Int32) (g_puffsOf : Value) (g_puffMany : Value) (g_touches : Value) (g_kept : Value) (v_why : Int32) (g_pairs : Value) (g_few : Value) (g_freeOf : Value) (g_quarterOf : Value) (g_bestOf : Value) (g_areApart : Value) (v_fewMany : Int32) (v_bestLatest : Int32) (v_bestSum : Int32) (g_sootFor : Value) (v_alwaysLit : Int32) (v_theDay : Int32) (g_goodIn : Value) (v_goodSome : Int32) (g_hadSmoke : Value) (g_rowSort : Value) (g_rowMany : Value) (g_numbers : Value) (v_highs : Nat → Int32) (v_lows : Nat → Int32) (a1 : Int32) (out : (Nat → Int32) × (Nat → Int32)) (hf : fX10_laysOther F v_highs v_lows a1 = some out) : cM l yX10_laysOther cX10_laysOther 4 none ({ frames := 0, cells := 0, slots := 0, locals := 0 } : Room) (dC, dI) [(q0, .int), (q1, .int)] [(h0, .inr (10, [.int v_thrown, g_all, g_hasImage, g_tape, g_fresh, .int v_taped, .int v_at, .int v_behind, .int v_size, .int v_kind, .int v_number, .int v_wrong, .int v_wrongAt, .int v_faultKind, .int v_faultPlace, .ref h2, .ref h1, g_puffsOf, g_puffMany, g_touches, g_kept, .int v_why, g_pairs, g_few, g_freeOf, g_quarterOf, g_bestOf, g_areApart, .int v_fewMany, .int v_bestLatest, .int v_bestSum, g_sootFor, .int v_alwaysLit, .int v_theDay, g_goodIn, .int v_goodSome, g_hadSmoke, g_rowSort, g_rowMany, g_numbers])), (h1, .inl (q0, 48, .inl v_highs)), (h2, .inl (q1, 48, .inl v_lows))] [.ref h0, .int a1] sz none [(h0, .inr (10, [.int v_thrown, g_all, g_hasImage, g_tape, g_fresh, .int v_taped, .int v_at, .int v_behind, .int v_size, .int v_kind, .int v_number, .int v_wrong, .int v_wrongAt, .int v_faultKind, .int v_faultPlace, .ref h2, .ref h1, g_puffsOf, g_puffMany, g_touches, g_kept, .int v_why, g_pairs, g_few, g_freeOf, g_quarterOf, g_bestOf, g_areApart, .int v_fewMany, .int v_bestLatest, .int v_bestSum, g_sootFor, .int v_alwaysLit, .int v_theDay, g_goodIn, .int v_goodSome, g_hadSmoke, g_rowSort, g_rowMany, g_numbers])), (h1, .inl (q0, 48, .inl out.1)), (h2, .inl (q1, 48, .inl out.2))] := by
  refine cM_V RX10 ⟨by decide, rfl⟩ (Nat.le_of_ble_eq_true rfl) ?_
  intro p e s m below meth c A Q ls hx hb hml hown hts hK hN hA hP hD hS hl hRet
  have htb : ∀ w ∈ lw_g, w.before ([.ref h0, .int a1] : List Value).toArray s = true := fun w h => hts w (List.mem_cons_of_mem _ h)
  have hl : lv_has ls 4 [(0, .ref h0), (1, .int a1)] := hl
  have L4 : ∀ (n : Nat), ∀ (H : Heap) (locs : List Loc) (ls : Array Slot) (x2 : Int32) (x3 : Int32) (v_highs : Nat → Int32) (v_lows : Nat → Int32), va_P (dC, dI) vwCl [(h0, .inr (10, [.int v_thrown, g_all, g_hasImage, g_tape, g_fresh, .int v_taped, .int v_at, .int v_behind, .int v_size, .int v_kind, .int v_number, .int v_wrong, .int v_wrongAt, .int v_faultKind, .int v_faultPlace, .ref h2, .ref h1, g_puffsOf, g_puffMany, g_touches, g_kept, .int v_why, g_pairs, g_few, g_freeOf, g_quarterOf, g_bestOf, g_areApart, .int v_fewMany, .int v_bestLatest, .int v_bestSum, g_sootFor, .int v_alwaysLit, .int v_theDay, g_goodIn, .int v_goodSome, g_hadSmoke, g_rowSort, g_rowMany, g_numbers])), (h1, .inl (q0, 48, .inl v_highs)), (h2, .inl (q1, 48, .inl v_lows))] H → va_D A [(h0, .inr (10, [.int v_thrown, g_all, g_hasImage, g_tape, g_fresh, .int v_taped, .int v_at, .int v_behind, .int v_size, .int v_kind, .int v_number, .int v_wrong, .int v_wrongAt, .int v_faultKind, .int v_faultPlace, .ref h2, .ref h1, g_puffsOf, g_puffMany, g_touches, g_kept, .int v_why, g_pairs, g_few, g_freeOf, g_quarterOf, g_bestOf, g_areApart, .int v_fewMany, .int v_bestLatest, .int v_bestSum, g_sootFor, .int v_alwaysLit, .int v_theDay, g_goodIn, .int v_goodSome, g_hadSmoke, g_rowSort, g_rowMany, g_numbers])), (h1, .inl (q0, 48, .inl v_highs)), (h2, .inl (q1, 48, .inl v_lows))] → va_S A s.heap H locs → lv_has ls 4 [(0, .ref h0), (2, .int x2), (3, .int x3)] → fX10_laysOther_L4 F a1 n x2 x3 v_highs v_lows = some out → W p l e ({ frames := 0, cells := 0, slots := 0, locals := 0 } : Room) s m ([.ref h0, .int a1] : List Value).toArray below meth c H locs 0 0 Q (F0 m 4 ls []) := by
    intro n
    induction n with
    | zero =>
      intro H locs ls x2 x3 v_highs v_lows hP hD hS hl hf
      cases hf
    | succ n ih =>
      intro H locs ls x2 x3 v_highs v_lows hP hD hS hl hf
      rw [fX10_laysOther_L4] at hf
      refine lv_iload_n hx hb dX10_laysOther_4 rfl (lv_at hl 2 rfl) ?_
      refine lv_bipush (v := 48) hx hb dX10_laysOther_5 (by decide) ?_
      refine lv_icmp_ge (tgt := 60) hx hb dX10_laysOther_7 (by decide) (fun c_1 => ?_) (fun c_1 => ?_)
      · have hf := oi_t hf c_1
        obtain rfl := Option.some.inj hf
        exact hRet H locs ls 60 hP hD hS dX10_laysOther_60
      · have hf := oi_f hf c_1
        refine lv_ldc (v := 1103515245) hx hb hown (htb _ mK_X10_188) dX10_laysOther_10 ?_
        refine lv_iload_n hx hb dX10_laysOther_12 rfl (lv_at hl 1 rfl) ?_
        refine lv_imul hx hb dX10_laysOther_13 ?_
        refine lv_sipush (v := 12345) hx hb dX10_laysOther_14 (by decide) ?_
        refine lv_iadd hx hb dX10_laysOther_17 ?_
        refine lv_topi (fun x_2 ex_2 => ?_)
        have hf := ol_some hf ex_2
        refine lv_istore_n (lv' := [(2, .int x_2), (0, .ref h0), (3, .int x3)]) hx hb dX10_laysOther_18 rfl hl (by decide) rfl (fun ls hl => ?_)
        refine lv_aload_n hx hb dX10_laysOther_19 rfl (lv_at hl 1 rfl) ?_
        refine va_get (D := (dC, dI)) (ci := 10) (v := .ref h2) (C := RX10) (T := TX10) (N := 40) hx hb htb inG10 hown hK hP 0 rfl rfl 15 (by decide) (htb _ mF_X10_30) (fun _ h9 => h9) rfl dX10_laysOther_20 ?_
        refine lv_iload_n hx hb dX10_laysOther_23 rfl (lv_at hl 2 rfl) ?_
        refine lv_iload_n hx hb dX10_laysOther_24 rfl (lv_at hl 0 rfl) ?_
        refine lv_bipush (v := 16) hx hb dX10_laysOther_25 (by decide) ?_
        refine lv_iushr hx hb dX10_laysOther_27 rfl ?_
        refine lv_bipush (v := 7) hx hb dX10_laysOther_28 (by decide) ?_
        refine lv_irem hx hb dX10_laysOther_30 (by decide) ?_
        obtain ⟨b_3, hf⟩ := og_some hf
        refine va_iast hx hb hK hP hD hS 2 1 rfl rfl (vb_ok b_3) dX10_laysOther_31 (fun H locs hP hD hS => ?_)
        generalize ev_lows_4 : upd v_lows x3.toNatClampNeg ((((x_2).toUInt32 >>> (((16 : Int32) : Int32).toUInt32 &&& Int32.toUInt32 31)).toInt32) - (((x_2).toUInt32 >>> (((16 : Int32) : Int32).toUInt32 &&& Int32.toUInt32 31)).toInt32) / (7 : Int32) * (7 : Int32)) = v_lows_4 at hP hD
        have hf := ol_some hf ev_lows_4.symm
        have hP : va_P (dC, dI) vwCl [(h0, .inr (10, [.int v_thrown, g_all, g_hasImage, g_tape, g_fresh, .int v_taped, .int v_at, .int v_behind, .int v_size, .int v_kind, .int v_number, .int v_wrong, .int v_wrongAt, .int v_faultKind, .int v_faultPlace, .ref h2, .ref h1, g_puffsOf, g_puffMany, g_touches, g_kept, .int v_why, g_pairs, g_few, g_freeOf, g_quarterOf, g_bestOf, g_areApart, .int v_fewMany, .int v_bestLatest, .int v_bestSum, g_sootFor, .int v_alwaysLit, .int v_theDay, g_goodIn, .int v_goodSome, g_hadSmoke, g_rowSort, g_rowMany, g_numbers])), (h1, .inl (q0, 48, .inl v_highs)), (h2, .inl (q1, 48, .inl v_lows_4))] H := hP
        have hD : va_D A [(h0, .inr (10, [.int v_thrown, g_all, g_hasImage, g_tape, g_fresh, .int v_taped, .int v_at, .int v_behind, .int v_size, .int v_kind, .int v_number, .int v_wrong, .int v_wrongAt, .int v_faultKind, .int v_faultPlace, .ref h2, .ref h1, g_puffsOf, g_puffMany, g_touches, g_kept, .int v_why, g_pairs, g_few, g_freeOf, g_quarterOf, g_bestOf, g_areApart, .int v_fewMany, .int v_bestLatest, .int v_bestSum, g_sootFor, .int v_alwaysLit, .int v_theDay, g_goodIn, .int v_goodSome, g_hadSmoke, g_rowSort, g_rowMany, g_numbers])), (h1, .inl (q0, 48, .inl v_highs)), (h2, .inl (q1, 48, .inl v_lows_4))] := hD
        refine lv_ldc (v := 1103515245) hx hb hown (htb _ mK_X10_188) dX10_laysOther_32 ?_
        refine lv_iload_n hx hb dX10_laysOther_34 rfl (lv_at hl 0 rfl) ?_
        refine lv_imul hx hb dX10_laysOther_35 ?_
        refine lv_sipush (v := 12345) hx hb dX10_laysOther_36 (by decide) ?_
        refine lv_iadd hx hb dX10_laysOther_39 ?_
        refine lv_topi (fun x_5 ex_5 => ?_)
        have hf := ol_some hf ex_5
        refine lv_istore_n (lv' := [(2, .int x_5), (0, .ref h0), (3, .int x3)]) hx hb dX10_laysOther_40 rfl hl (by decide) rfl (fun ls hl => ?_)
        refine lv_aload_n hx hb dX10_laysOther_41 rfl (lv_at hl 1 rfl) ?_
        refine va_get (D := (dC, dI)) (ci := 10) (v := .ref h1) (C := RX10) (T := TX10) (N := 40) hx hb htb inG10 hown hK hP 0 rfl rfl 16 (by decide) (htb _ mF_X10_33) (fun _ h9 => h9) rfl dX10_laysOther_42 ?_
        refine lv_iload_n hx hb dX10_laysOther_45 rfl (lv_at hl 2 rfl) ?_
        refine lv_iload_n hx hb dX10_laysOther_46 rfl (lv_at hl 0 rfl) ?_
        refine lv_bipush (v := 16) hx hb dX10_laysOther_47 (by decide) ?_
        refine lv_iushr hx hb dX10_laysOther_49 rfl ?_
        refine lv_bipush (v := 7) hx hb dX10_laysOther_50 (by decide) ?_
        refine lv_irem hx hb dX10_laysOther_52 (by decide) ?_
        obtain ⟨b_6, hf⟩ := og_some hf
        refine va_iast hx hb hK hP hD hS 1 0 rfl rfl (vb_ok b_6) dX10_laysOther_53 (fun H locs hP hD hS => ?_)
        generalize ev_highs_7 : upd v_highs x3.toNatClampNeg ((((x_5).toUInt32 >>> (((16 : Int32) : Int32).toUInt32 &&& Int32.toUInt32 31)).toInt32) - (((x_5).toUInt32 >>> (((16 : Int32) : Int32).toUInt32 &&& Int32.toUInt32 31)).toInt32) / (7 : Int32) * (7 : Int32)) = v_highs_7 at hP hD
        have hf := ol_some hf ev_highs_7.symm
        have hP : va_P (dC, dI) vwCl [(h0, .inr (10, [.int v_thrown, g_all, g_hasImage, g_tape, g_fresh, .int v_taped, .int v_at, .int v_behind, .int v_size, .int v_kind, .int v_number, .int v_wrong, .int v_wrongAt, .int v_faultKind, .int v_faultPlace, .ref h2, .ref h1, g_puffsOf, g_puffMany, g_touches, g_kept, .int v_why, g_pairs, g_few, g_freeOf, g_quarterOf, g_bestOf, g_areApart, .int v_fewMany, .int v_bestLatest, .int v_bestSum, g_sootFor, .int v_alwaysLit, .int v_theDay, g_goodIn, .int v_goodSome, g_hadSmoke, g_rowSort, g_rowMany, g_numbers])), (h1, .inl (q0, 48, .inl v_highs_7)), (h2, .inl (q1, 48, .inl v_lows_4))] H := hP
        have hD : va_D A [(h0, .inr (10, [.int v_thrown, g_all, g_hasImage, g_tape, g_fresh, .int v_taped, .int v_at, .int v_behind, .int v_size, .int v_kind, .int v_number, .int v_wrong, .int v_wrongAt, .int v_faultKind, .int v_faultPlace, .ref h2, .ref h1, g_puffsOf, g_puffMany, g_touches, g_kept, .int v_why, g_pairs, g_few, g_freeOf, g_quarterOf, g_bestOf, g_areApart, .int v_fewMany, .int v_bestLatest, .int v_bestSum, g_sootFor, .int v_alwaysLit, .int v_theDay, g_goodIn, .int v_goodSome, g_hadSmoke, g_rowSort, g_rowMany, g_numbers])), (h1, .inl (q0, 48, .inl v_highs_7)), (h2, .inl (q1, 48, .inl v_lows_4))] := hD
        obtain ⟨x3_8, ex3_8⟩ : ∃ y : Int32, y = x3 + 1 := ⟨_, rfl⟩
        refine lv_iinc (v := x3_8) (lv' := [(3, .int x3_8), (2, .int x_5), (0, .ref h0)]) hx hb dX10_laysOther_54 hl (k := 2) rfl (by rw [ex3_8]; rfl) (by decide) rfl (fun ls hl => ?_)
        have hf := ol_some hf ex3_8
        refine lv_goto (tgt := 4) hx hb dX10_laysOther_57 (by decide) ?_
        exact ih H locs ls x_5 x3_8 v_highs_7 v_lows_4 hP hD hS (lv_sub hl [2, 1, 0] rfl) hf
  suffices K0 : ∀ (H : Heap) (locs : List Loc), va_P (dC, dI) vwCl [(h0, .inr (10, [.int v_thrown, g_all, g_hasImage, g_tape, g_fresh, .int v_taped, .int v_at, .int v_behind, .int v_size, .int v_kind, .int v_number, .int v_wrong, .int v_wrongAt, .int v_faultKind, .int v_faultPlace, .ref h2, .ref h1, g_puffsOf, g_puffMany, g_touches, g_kept, .int v_why, g_pairs, g_few, g_freeOf, g_quarterOf, g_bestOf, g_areApart, .int v_fewMany, .int v_bestLatest, .int v_bestSum, g_sootFor, .int v_alwaysLit, .int v_theDay, g_goodIn, .int v_goodSome, g_hadSmoke, g_rowSort, g_rowMany, g_numbers])), (h1, .inl (q0, 48, .inl v_highs)), (h2, .inl (q1, 48, .inl v_lows))] H → va_D A [(h0, .inr (10, [.int v_thrown, g_all, g_hasImage, g_tape, g_fresh, .int v_taped, .int v_at, .int v_behind, .int v_size, .int v_kind, .int v_number, .int v_wrong, .int v_wrongAt, .int v_faultKind, .int v_faultPlace, .ref h2, .ref h1, g_puffsOf, g_puffMany, g_touches, g_kept, .int v_why, g_pairs, g_few, g_freeOf, g_quarterOf, g_bestOf, g_areApart, .int v_fewMany, .int v_bestLatest, .int v_bestSum, g_sootFor, .int v_alwaysLit, .int v_theDay, g_goodIn, .int v_goodSome, g_hadSmoke, g_rowSort, g_rowMany, g_numbers])), (h1, .inl (q0, 48, .inl v_highs)), (h2, .inl (q1, 48, .inl v_lows))] → va_S A s.heap H locs → W p l e ({ frames := 0, cells := 0, slots := 0, locals := 0 } : Room) s m ([.ref h0, .int a1] : List Value).toArray below meth c H locs 0 0 Q (F0 m 0 ls []) from K0 s.heap [] hP hD hS
  clear hP hD hS
  intro H locs hP hD hS
  unfold fX10_laysOther at hf
  refine lv_iload_n hx hb dX10_laysOther_0 rfl (lv_at hl 1 rfl) ?_
  refine lv_istore_n (lv' := [(2, .int a1), (0, .ref h0), (1, .int a1)]) hx hb dX10_laysOther_1 rfl hl (by decide) rfl (fun ls hl => ?_)
  refine lv_iconst (v := 0) hx hb dX10_laysOther_2 (by decide) ?_
  refine lv_istore_n (lv' := [(3, .int (0 : Int32)), (2, .int a1), (0, .ref h0), (1, .int a1)]) hx hb dX10_laysOther_3 rfl hl (by decide) rfl (fun ls hl => ?_)
  exact L4 F H locs ls a1 (0 : Int32) v_highs v_lows hP hD hS (lv_sub hl [2, 1, 0] rfl) hf
def fX10_laysPuffs_L186 (F : Nat) (v_all : Nat → Int32) (v_highs : Nat → Int32) (v_lows : Nat → Int32) (a1 : Int32) (a2 : Int32) (a3 : Int32) (a4 : Int32) (a5 : Int32) (a6 : Int32) (k7 : Int32 → Int32 → (Nat → Int32) → (Nat → Int32) → Option ((Nat → Int32) × (Nat → Int32))) (x7 : Int32) (x8 : Int32) (v_puffMany : Nat → Int32) (v_puffsOf : Nat → Int32) : Option ((Nat → Int32) × (Nat → Int32)) := ol (x8 + 1) (fun x8_1 => k7 x7 x8_1 v_puffMany v_puffsOf)
def fX10_laysPuffs_L169 (F : Nat) (v_all : Nat → Int32) (v_highs : Nat → Int32) (v_lows : Nat → Int32) (a1 : Int32) (a2 : Int32) (a3 : Int32) (a4 : Int32) (a5 : Int32) (a6 : Int32) (k7 : Int32 → Int32 → (Nat → Int32) → (Nat → Int32) → Option ((Nat → Int32) × (Nat → Int32))) (k62 : Int32 → Int32 → Int32 → Int32 → Int32 → Int32 → (Nat → Int32) → (Nat → Int32) → Option ((Nat → Int32) × (Nat → Int32))) (x7 : Int32) (x8 : Int32) (x10 : Int32) (x11 : Int32) (x12 : Int32) (s0 : Int32) (s1 : Int32) (v_puffMany : Nat → Int32) (v_puffsOf : Nat → Int32) : Option ((Nat → Int32) × (Nat → Int32)) := ol (s1 + (s0 - (3 : Int32))) (fun x_2 => ol (x10 + 1) (fun x10_3 => ol (x11 + (-1)) (fun x11_4 => ol (x12 + 1) (fun x12_5 => k62 x7 x8 x_2 x10_3 x11_4 x12_5 v_puffMany v_puffsOf))))
def fX10_laysPuffs_L62 (F : Nat) (v_all : Nat → Int32) (v_highs : Nat → Int32) (v_lows : Nat → Int32) (a1 : Int32) (a2 : Int32) (a3 : Int32) (a4 : Int32) (a5 : Int32) (a6 : Int32) (k7 : Int32 → Int32 → (Nat → Int32) → (Nat → Int32) → Option ((Nat → Int32) × (Nat → Int32))) : Nat → Int32 → Int32 → Int32 → Int32 → Int32 → Int32 → (Nat → Int32) → (Nat → Int32) → Option ((Nat → Int32) × (Nat → Int32))
  | 0, _, _, _, _, _, _, _, _ => none
  | n + 1, x7, x8, x9, x10, x11, x12, v_puffMany, v_puffsOf => if x11 ≤ 0 then (fX10_laysPuffs_L186 F v_all v_highs v_lows a1 a2 a3 a4 a5 a6 k7 x7 x8 v_puffMany v_puffsOf) else (ob (fX10_within F ((x9 : Int32).toInt64) (0 : Int64) (39 : Int64)) (fun o_7 => if o_7 = 0 then (fX10_laysPuffs_L186 F v_all v_highs v_lows a1 a2 a3 a4 a5 a6 k7 x7 x8 v_puffMany v_puffsOf) else (if (25 : Int32) ≤ x10 then (fX10_laysPuffs_L186 F v_all v_highs v_lows a1 a2 a3 a4 a5 a6 k7 x7 x8 v_puffMany v_puffsOf) else (og (vb (((54 : Int32) * a1) + x7) 7128) (ol (upd v_puffsOf (((54 : Int32) * a1) + x7).toNatClampNeg (((10 : Int32) * ((((1000 : Int32) * x12) + ((25 : Int32) * x9)) + x10)) + x11)) (fun v_puffsOf_11 => ol (x7 + 1) (fun x7_12 => if (x12 + (1 : Int32)) = (48 : Int32) then (fX10_laysPuffs_L186 F v_all v_highs v_lows a1 a2 a3 a4 a5 a6 k7 x7_12 x8 v_puffMany v_puffsOf_11) else (if (v_all (2 : Int32).toNatClampNeg) ≤ x10 then (og (vb (x12 + (1 : Int32)) 48) (fX10_laysPuffs_L169 F v_all v_highs v_lows a1 a2 a3 a4 a5 a6 k7 (fun x7 x8 x9 x10 x11 x12 v_puffMany v_puffsOf => fX10_laysPuffs_L62 F v_all v_highs v_lows a1 a2 a3 a4 a5 a6 k7 n x7 x8 x9 x10 x11 x12 v_puffMany v_puffsOf) x7_12 x8 x10 x11 x12 (v_highs (x12 + (1 : Int32)).toNatClampNeg) x9 v_puffMany v_puffsOf_11)) else (og (vb (x12 + (1 : Int32)) 48) (fX10_laysPuffs_L169 F v_all v_highs v_lows a1 a2 a3 a4 a5 a6 k7 (fun x7 x8 x9 x10 x11 x12 v_puffMany v_puffsOf => fX10_laysPuffs_L62 F v_all v_highs v_lows a1 a2 a3 a4 a5 a6 k7 n x7 x8 x9 x10 x11 x12 v_puffMany v_puffsOf) x7_12 x8 x10 x11 x12 (v_lows (x12 + (1 : Int32)).toNatClampNeg) x9 v_puffMany v_puffsOf_11))))))))))
def fX10_laysPuffs_L7 (F : Nat) (v_all : Nat → Int32) (v_highs : Nat → Int32) (v_lows : Nat → Int32) (a1 : Int32) (a2 : Int32) (a3 : Int32) (a4 : Int32) (a5 : Int32) (a6 : Int32) : Nat → Int32 → Int32 → (Nat → Int32) → (Nat → Int32) → Option ((Nat → Int32) × (Nat → Int32))
  | 0, _, _, _, _ => none
  | n + 1, x7, x8, v_puffMany, v_puffsOf => if a6 ≤ x8 then (og (vb a1 132) (ol (upd v_puffMany a1.toNatClampNeg x7) (fun v_puffMany_19 => some (v_puffMany_19, v_puffsOf)))) else (og (vb ((6 : Int32) + a2) 486) (ol (v_all ((6 : Int32) + a2).toNatClampNeg) (fun x_21 => og (vb ((16 : Int32) + a2) 486) (ol ((v_all ((16 : Int32) + a2).toNatClampNeg) + a4) (fun x_23 => og (vb (((66 : Int32) + ((6 : Int32) * a2)) + x8) 486) (ol (v_all (((66 : Int32) + ((6 : Int32) * a2)) + x8).toNatClampNeg) (fun x_25 => ol (a3 + x8) (fun x_26 => fX10_laysPuffs_L62 F v_all v_highs v_lows a1 a2 a3 a4 a5 a6 (fun x7 x8 v_puffMany v_puffsOf => fX10_laysPuffs_L7 F v_all v_highs v_lows a1 a2 a3 a4 a5 a6 n x7 x8 v_puffMany v_puffsOf) F x7 x8 x_21 x_23 x_25 x_26 v_puffMany v_puffsOf))))))))
def fX10_laysPuffs (F : Nat) (v_all : Nat → Int32) (v_highs : Nat → Int32) (v_lows : Nat → Int32) (v_puffMany : Nat → Int32) (v_puffsOf : Nat → Int32) (a1 : Int32) (a2 : Int32) (a3 : Int32) (a4 : Int32) (a5 : Int32) (a6 : Int32) : Option ((Nat → Int32) × (Nat → Int32)) := fX10_laysPuffs_L7 F v_all v_highs v_lows a1 a2 a3 a4 a5 a6 F (0 : Int32) a5 v_puffMany v_puffsOf
set_option maxRecDepth 100000 in
set_option maxHeartbeats 4000000 in
theorem ctX10_laysPuffs (l : Launch) (dC : Nat → ClassId) (dI : Nat → Nat → Nat) (F sz : Nat) (h0 h1 h2 h3 h4 h5 : Nat) (q0 q1 q2 q3 q4 : ClassId) (v_thrown : Int32) (g_hasImage : Value) (g_tape : Value) (g_fresh : Value) (v_taped : Int32) (v_at : Int32) (v_behind : Int32) (v_size : Int32) (v_kind : Int32) (v_number : Int32) (v_wrong : Int32) (v_wrongAt : Int32) (v_faultKind : Int32) (v_faultPlace : Int32) (g_touches : Value) (g_kept : Value) (v_why : Int32) (g_pairs : Value) (g_few : Value) (g_freeOf : Value) (g_quarterOf : Value) (g_bestOf : Value) (g_areApart : Value) (v_fewMany : Int32) (v_bestLatest : Int32) (v_bestSum : Int32) (g_sootFor : Value) (v_alwaysLit : Int32) (v_theDay : Int32) (g_goodIn : Value) (v_goodSome : Int32) (g_hadSmoke : Value) (g_rowSort : Value) (g_rowMany : Value) (g_numbers : Value) (v_all : Nat → Int32) (v_highs : Nat → Int32) (v_lows : Nat → Int32) (v_puffMany : Nat → Int32) (v_puffsOf : Nat → Int32) (a1 : Int32) (a2 : Int32) (a3 : Int32) (a4 : Int32) (a5 : Int32) (a6 : Int32) (out : (Nat → Int32) × (Nat → Int32)) (hf : fX10_laysPuffs F v_all v_highs v_lows v_puffMany v_puffsOf a1 a2 a3 a4 a5 a6 = some out) : cM l yX10_laysPuffs cX10_laysPuffs 13 none ({ frames := 1, cells := 0, slots := 0, locals := 25 } : Room) (dC, dI) [(q0, .int), (q1, .int), (q2, .int), (q3, .int), (q4, .int)] [(h0, .inr (10, [.int v_thrown, .ref h1, g_hasImage, g_tape, g_fresh, .int v_taped, .int v_at, .int v_behind, .int v_size, .int v_kind, .int v_number, .int v_wrong, .int v_wrongAt, .int v_faultKind, .int v_faultPlace, .ref h3, .ref h2, .ref h5, .ref h4, g_touches, g_kept, .int v_why, g_pairs, g_few, g_freeOf, g_quarterOf, g_bestOf, g_areApart, .int v_fewMany, .int v_bestLatest, .int v_bestSum, g_sootFor, .int v_alwaysLit, .int v_theDay, g_goodIn, .int v_goodSome, g_hadSmoke, g_rowSort, g_rowMany, g_numbers])), (h1, .inl (q0, 486, .inl v_all)), (h2, .inl (q1, 48, .inl v_highs)), (h3, .inl (q2, 48, .inl v_lows)), (h4, .inl (q3, 132, .inl v_puffMany)), (h5, .inl (q4, 7128, .inl v_puffsOf))] [.ref h0, .int a1, .int a2, .int a3, .int a4, .int a5, .int a6] sz none [(h0, .inr (10, [.int v_thrown, .ref h1, g_hasImage, g_tape, g_fresh, .int v_taped, .int v_at, .int v_behind, .int v_size, .int v_kind, .int v_number, .int v_wrong, .int v_wrongAt, .int v_faultKind, .int v_faultPlace, .ref h3, .ref h2, .ref h5, .ref h4, g_touches, g_kept, .int v_why, g_pairs, g_few, g_freeOf, g_quarterOf, g_bestOf, g_areApart, .int v_fewMany, .int v_bestLatest, .int v_bestSum, g_sootFor, .int v_alwaysLit, .int v_theDay, g_goodIn, .int v_goodSome, g_hadSmoke, g_rowSort, g_rowMany, g_numbers])), (h1, .inl (q0, 486, .inl v_all)), (h2, .inl (q1, 48, .inl v_highs)), (h3, .inl (q2, 48, .inl v_lows)), (h4, .inl (q3, 132, .inl out.1)), (h5, .inl (q4, 7128, .inl out.2))] := by
  refine cM_V RX10 ⟨by decide, rfl⟩ (Nat.le_of_ble_eq_true rfl) ?_
  intro p e s m below meth c A Q ls hx hb hml hown hts hK hN hA hP hD hS hl hRet
  have htb : ∀ w ∈ lw_g, w.before ([.ref h0, .int a1, .int a2, .int a3, .int a4, .int a5, .int a6] : List Value).toArray s = true := fun w h => hts w (List.mem_cons_of_mem _ h)
  have hl : lv_has ls 13 [(0, .ref h0), (1, .int a1), (2, .int a2), (3, .int a3), (4, .int a4), (5, .int a5), (6, .int a6)] := hl
  have L186 : ∀ (k7 : Int32 → Int32 → (Nat → Int32) → (Nat → Int32) → Option ((Nat → Int32) × (Nat → Int32))) (hk7 : ∀ (H : Heap) (locs : List Loc) (ls : Array Slot) (x7 : Int32) (x8 : Int32) (v_puffMany : Nat → Int32) (v_puffsOf : Nat → Int32), va_P (dC, dI) vwCl [(h0, .inr (10, [.int v_thrown, .ref h1, g_hasImage, g_tape, g_fresh, .int v_taped, .int v_at, .int v_behind, .int v_size, .int v_kind, .int v_number, .int v_wrong, .int v_wrongAt, .int v_faultKind, .int v_faultPlace, .ref h3, .ref h2, .ref h5, .ref h4, g_touches, g_kept, .int v_why, g_pairs, g_few, g_freeOf, g_quarterOf, g_bestOf, g_areApart, .int v_fewMany, .int v_bestLatest, .int v_bestSum, g_sootFor, .int v_alwaysLit, .int v_theDay, g_goodIn, .int v_goodSome, g_hadSmoke, g_rowSort, g_rowMany, g_numbers])), (h1, .inl (q0, 486, .inl v_all)), (h2, .inl (q1, 48, .inl v_highs)), (h3, .inl (q2, 48, .inl v_lows)), (h4, .inl (q3, 132, .inl v_puffMany)), (h5, .inl (q4, 7128, .inl v_puffsOf))] H → va_D A [(h0, .inr (10, [.int v_thrown, .ref h1, g_hasImage, g_tape, g_fresh, .int v_taped, .int v_at, .int v_behind, .int v_size, .int v_kind, .int v_number, .int v_wrong, .int v_wrongAt, .int v_faultKind, .int v_faultPlace, .ref h3, .ref h2, .ref h5, .ref h4, g_touches, g_kept, .int v_why, g_pairs, g_few, g_freeOf, g_quarterOf, g_bestOf, g_areApart, .int v_fewMany, .int v_bestLatest, .int v_bestSum, g_sootFor, .int v_alwaysLit, .int v_theDay, g_goodIn, .int v_goodSome, g_hadSmoke, g_rowSort, g_rowMany, g_numbers])), (h1, .inl (q0, 486, .inl v_all)), (h2, .inl (q1, 48, .inl v_highs)), (h3, .inl (q2, 48, .inl v_lows)), (h4, .inl (q3, 132, .inl v_puffMany)), (h5, .inl (q4, 7128, .inl v_puffsOf))] → va_S A s.heap H locs → lv_has ls 13 [(0, .ref h0), (1, .int a1), (2, .int a2), (3, .int a3), (4, .int a4), (6, .int a6), (7, .int x7), (8, .int x8)] → k7 x7 x8 v_puffMany v_puffsOf = some out → W p l e ({ frames := 1, cells := 0, slots := 0, locals := 25 } : Room) s m ([.ref h0, .int a1, .int a2, .int a3, .int a4, .int a5, .int a6] : List Value).toArray below meth c H locs 0 0 Q (F0 m 7 ls [])), ∀ (H : Heap) (locs : List Loc) (ls : Array Slot) (x7 : Int32) (x8 : Int32) (v_puffMany : Nat → Int32) (v_puffsOf : Nat → Int32), va_P (dC, dI) vwCl [(h0, .inr (10, [.int v_thrown, .ref h1, g_hasImage, g_tape, g_fresh, .int v_taped, .int v_at, .int v_behind, .int v_size, .int v_kind, .int v_number, .int v_wrong, .int v_wrongAt, .int v_faultKind, .int v_faultPlace, .ref h3, .ref h2, .ref h5, .ref h4, g_touches, g_kept, .int v_why, g_pairs, g_few, g_freeOf, g_quarterOf, g_bestOf, g_areApart, .int v_fewMany, .int v_bestLatest, .int v_bestSum, g_sootFor, .int v_alwaysLit, .int v_theDay, g_goodIn, .int v_goodSome, g_hadSmoke, g_rowSort, g_rowMany, g_numbers])), (h1, .inl (q0, 486, .inl v_all)), (h2, .inl (q1, 48, .inl v_highs)), (h3, .inl (q2, 48, .inl v_lows)), (h4, .inl (q3, 132, .inl v_puffMany)), (h5, .inl (q4, 7128, .inl v_puffsOf))] H → va_D A [(h0, .inr (10, [.int v_thrown, .ref h1, g_hasImage, g_tape, g_fresh, .int v_taped, .int v_at, .int v_behind, .int v_size, .int v_kind, .int v_number, .int v_wrong, .int v_wrongAt, .int v_faultKind, .int v_faultPlace, .ref h3, .ref h2, .ref h5, .ref h4, g_touches, g_kept, .int v_why, g_pairs, g_few, g_freeOf, g_quarterOf, g_bestOf, g_areApart, .int v_fewMany, .int v_bestLatest, .int v_bestSum, g_sootFor, .int v_alwaysLit, .int v_theDay, g_goodIn, .int v_goodSome, g_hadSmoke, g_rowSort, g_rowMany, g_numbers])), (h1, .inl (q0, 486, .inl v_all)), (h2, .inl (q1, 48, .inl v_highs)), (h3, .inl (q2, 48, .inl v_lows)), (h4, .inl (q3, 132, .inl v_puffMany)), (h5, .inl (q4, 7128, .inl v_puffsOf))] → va_S A s.heap H locs → lv_has ls 13 [(0, .ref h0), (1, .int a1), (2, .int a2), (3, .int a3), (4, .int a4), (6, .int a6), (7, .int x7), (8, .int x8)] → fX10_laysPuffs_L186 F v_all v_highs v_lows a1 a2 a3 a4 a5 a6 k7 x7 x8 v_puffMany v_puffsOf = some out → W p l e ({ frames := 1, cells := 0, slots := 0, locals := 25 } : Room) s m ([.ref h0, .int a1, .int a2, .int a3, .int a4, .int a5, .int a6] : List Value).toArray below meth c H locs 0 0 Q (F0 m 186 ls []) := by
    intro k7 hk7 H locs ls x7 x8 v_puffMany v_puffsOf hP hD hS hl hf
    unfold fX10_laysPuffs_L186 at hf
    obtain ⟨x8_1, ex8_1⟩ : ∃ y : Int32, y = x8 + 1 := ⟨_, rfl⟩
    refine lv_iinc (v := x8_1) (lv' := [(8, .int x8_1), (0, .ref h0), (1, .int a1), (2, .int a2), (3, .int a3), (4, .int a4), (6, .int a6), (7, .int x7)]) hx hb dX10_laysPuffs_186 hl (k := 7) rfl (by rw [ex8_1]; rfl) (by decide) rfl (fun ls hl => ?_)
    have hf := ol_some hf ex8_1
    refine lv_goto (tgt := 7) hx hb dX10_laysPuffs_189 (by decide) ?_
    exact hk7 H locs ls x7 x8_1 v_puffMany v_puffsOf hP hD hS (lv_sub hl [1, 2, 3, 4, 5, 6, 7, 0] rfl) hf
  have L169 : ∀ (k7 : Int32 → Int32 → (Nat → Int32) → (Nat → Int32) → Option ((Nat → Int32) × (Nat → Int32))) (hk7 : ∀ (H : Heap) (locs : List Loc) (ls : Array Slot) (x7 : Int32) (x8 : Int32) (v_puffMany : Nat → Int32) (v_puffsOf : Nat → Int32), va_P (dC, dI) vwCl [(h0, .inr (10, [.int v_thrown, .ref h1, g_hasImage, g_tape, g_fresh, .int v_taped, .int v_at, .int v_behind, .int v_size, .int v_kind, .int v_number, .int v_wrong, .int v_wrongAt, .int v_faultKind, .int v_faultPlace, .ref h3, .ref h2, .ref h5, .ref h4, g_touches, g_kept, .int v_why, g_pairs, g_few, g_freeOf, g_quarterOf, g_bestOf, g_areApart, .int v_fewMany, .int v_bestLatest, .int v_bestSum, g_sootFor, .int v_alwaysLit, .int v_theDay, g_goodIn, .int v_goodSome, g_hadSmoke, g_rowSort, g_rowMany, g_numbers])), (h1, .inl (q0, 486, .inl v_all)), (h2, .inl (q1, 48, .inl v_highs)), (h3, .inl (q2, 48, .inl v_lows)), (h4, .inl (q3, 132, .inl v_puffMany)), (h5, .inl (q4, 7128, .inl v_puffsOf))] H → va_D A [(h0, .inr (10, [.int v_thrown, .ref h1, g_hasImage, g_tape, g_fresh, .int v_taped, .int v_at, .int v_behind, .int v_size, .int v_kind, .int v_number, .int v_wrong, .int v_wrongAt, .int v_faultKind, .int v_faultPlace, .ref h3, .ref h2, .ref h5, .ref h4, g_touches, g_kept, .int v_why, g_pairs, g_few, g_freeOf, g_quarterOf, g_bestOf, g_areApart, .int v_fewMany, .int v_bestLatest, .int v_bestSum, g_sootFor, .int v_alwaysLit, .int v_theDay, g_goodIn, .int v_goodSome, g_hadSmoke, g_rowSort, g_rowMany, g_numbers])), (h1, .inl (q0, 486, .inl v_all)), (h2, .inl (q1, 48, .inl v_highs)), (h3, .inl (q2, 48, .inl v_lows)), (h4, .inl (q3, 132, .inl v_puffMany)), (h5, .inl (q4, 7128, .inl v_puffsOf))] → va_S A s.heap H locs → lv_has ls 13 [(0, .ref h0), (1, .int a1), (2, .int a2), (3, .int a3), (4, .int a4), (6, .int a6), (7, .int x7), (8, .int x8)] → k7 x7 x8 v_puffMany v_puffsOf = some out → W p l e ({ frames := 1, cells := 0, slots := 0, locals := 25 } : Room) s m ([.ref h0, .int a1, .int a2, .int a3, .int a4, .int a5, .int a6] : List Value).toArray below meth c H locs 0 0 Q (F0 m 7 ls [])), ∀ (k62 : Int32 → Int32 → Int32 → Int32 → Int32 → Int32 → (Nat → Int32) → (Nat → Int32) → Option ((Nat → Int32) × (Nat → Int32))) (hk62 : ∀ (H : Heap) (locs : List Loc) (ls : Array Slot) (x7 : Int32) (x8 : Int32) (x9 : Int32) (x10 : Int32) (x11 : Int32) (x12 : Int32) (v_puffMany : Nat → Int32) (v_puffsOf : Nat → Int32), va_P (dC, dI) vwCl [(h0, .inr (10, [.int v_thrown, .ref h1, g_hasImage, g_tape, g_fresh, .int v_taped, .int v_at, .int v_behind, .int v_size, .int v_kind, .int v_number, .int v_wrong, .int v_wrongAt, .int v_faultKind, .int v_faultPlace, .ref h3, .ref h2, .ref h5, .ref h4, g_touches, g_kept, .int v_why, g_pairs, g_few, g_freeOf, g_quarterOf, g_bestOf, g_areApart, .int v_fewMany, .int v_bestLatest, .int v_bestSum, g_sootFor, .int v_alwaysLit, .int v_theDay, g_goodIn, .int v_goodSome, g_hadSmoke, g_rowSort, g_rowMany, g_numbers])), (h1, .inl (q0, 486, .inl v_all)), (h2, .inl (q1, 48, .inl v_highs)), (h3, .inl (q2, 48, .inl v_lows)), (h4, .inl (q3, 132, .inl v_puffMany)), (h5, .inl (q4, 7128, .inl v_puffsOf))] H → va_D A [(h0, .inr (10, [.int v_thrown, .ref h1, g_hasImage, g_tape, g_fresh, .int v_taped, .int v_at, .int v_behind, .int v_size, .int v_kind, .int v_number, .int v_wrong, .int v_wrongAt, .int v_faultKind, .int v_faultPlace, .ref h3, .ref h2, .ref h5, .ref h4, g_touches, g_kept, .int v_why, g_pairs, g_few, g_freeOf, g_quarterOf, g_bestOf, g_areApart, .int v_fewMany, .int v_bestLatest, .int v_bestSum, g_sootFor, .int v_alwaysLit, .int v_theDay, g_goodIn, .int v_goodSome, g_hadSmoke, g_rowSort, g_rowMany, g_numbers])), (h1, .inl (q0, 486, .inl v_all)), (h2, .inl (q1, 48, .inl v_highs)), (h3, .inl (q2, 48, .inl v_lows)), (h4, .inl (q3, 132, .inl v_puffMany)), (h5, .inl (q4, 7128, .inl v_puffsOf))] → va_S A s.heap H locs → lv_has ls 13 [(0, .ref h0), (1, .int a1), (2, .int a2), (3, .int a3), (4, .int a4), (6, .int a6), (7, .int x7), (8, .int x8), (9, .int x9), (10, .int x10), (11, .int x11), (12, .int x12)] → k62 x7 x8 x9 x10 x11 x12 v_puffMany v_puffsOf = some out → W p l e ({ frames := 1, cells := 0, slots := 0, locals := 25 } : Room) s m ([.ref h0, .int a1, .int a2, .int a3, .int a4, .int a5, .int a6] : List Value).toArray below meth c H locs 0 0 Q (F0 m 62 ls [])), ∀ (H : Heap) (locs : List Loc) (ls : Array Slot) (x7 : Int32) (x8 : Int32) (x10 : Int32) (x11 : Int32) (x12 : Int32) (s0 : Int32) (s1 : Int32) (v_puffMany : Nat → Int32) (v_puffsOf : Nat → Int32), va_P (dC, dI) vwCl [(h0, .inr (10, [.int v_thrown, .ref h1, g_hasImage, g_tape, g_fresh, .int v_taped, .int v_at, .int v_behind, .int v_size, .int v_kind, .int v_number, .int v_wrong, .int v_wrongAt, .int v_faultKind, .int v_faultPlace, .ref h3, .ref h2, .ref h5, .ref h4, g_touches, g_kept, .int v_why, g_pairs, g_few, g_freeOf, g_quarterOf, g_bestOf, g_areApart, .int v_fewMany, .int v_bestLatest, .int v_bestSum, g_sootFor, .int v_alwaysLit, .int v_theDay, g_goodIn, .int v_goodSome, g_hadSmoke, g_rowSort, g_rowMany, g_numbers])), (h1, .inl (q0, 486, .inl v_all)), (h2, .inl (q1, 48, .inl v_highs)), (h3, .inl (q2, 48, .inl v_lows)), (h4, .inl (q3, 132, .inl v_puffMany)), (h5, .inl (q4, 7128, .inl v_puffsOf))] H → va_D A [(h0, .inr (10, [.int v_thrown, .ref h1, g_hasImage, g_tape, g_fresh, .int v_taped, .int v_at, .int v_behind, .int v_size, .int v_kind, .int v_number, .int v_wrong, .int v_wrongAt, .int v_faultKind, .int v_faultPlace, .ref h3, .ref h2, .ref h5, .ref h4, g_touches, g_kept, .int v_why, g_pairs, g_few, g_freeOf, g_quarterOf, g_bestOf, g_areApart, .int v_fewMany, .int v_bestLatest, .int v_bestSum, g_sootFor, .int v_alwaysLit, .int v_theDay, g_goodIn, .int v_goodSome, g_hadSmoke, g_rowSort, g_rowMany, g_numbers])), (h1, .inl (q0, 486, .inl v_all)), (h2, .inl (q1, 48, .inl v_highs)), (h3, .inl (q2, 48, .inl v_lows)), (h4, .inl (q3, 132, .inl v_puffMany)), (h5, .inl (q4, 7128, .inl v_puffsOf))] → va_S A s.heap H locs → lv_has ls 13 [(0, .ref h0), (1, .int a1), (2, .int a2), (3, .int a3), (4, .int a4), (6, .int a6), (7, .int x7), (8, .int x8), (10, .int x10), (11, .int x11), (12, .int x12)] → fX10_laysPuffs_L169 F v_all v_highs v_lows a1 a2 a3 a4 a5 a6 k7 k62 x7 x8 x10 x11 x12 s0 s1 v_puffMany v_puffsOf = some out → W p l e ({ frames := 1, cells := 0, slots := 0, locals := 25 } : Room) s m ([.ref h0, .int a1, .int a2, .int a3, .int a4, .int a5, .int a6] : List Value).toArray below meth c H locs 0 0 Q (F0 m 169 ls [.int s0, .int s1]) := by
    intro k7 hk7 k62 hk62 H locs ls x7 x8 x10 x11 x12 s0 s1 v_puffMany v_puffsOf hP hD hS hl hf
    unfold fX10_laysPuffs_L169 at hf
    refine lv_iconst (v := 3) hx hb dX10_laysPuffs_169 (by decide) ?_
    refine lv_isub hx hb dX10_laysPuffs_170 ?_
    refine lv_iadd hx hb dX10_laysPuffs_171 ?_
    refine lv_topi (fun x_2 ex_2 => ?_)
    have hf := ol_some hf ex_2
    refine lv_istore (lv' := [(9, .int x_2), (0, .ref h0), (1, .int a1), (2, .int a2), (3, .int a3), (4, .int a4), (6, .int a6), (7, .int x7), (8, .int x8), (10, .int x10), (11, .int x11), (12, .int x12)]) hx hb dX10_laysPuffs_172 hl (by decide) rfl (fun ls hl => ?_)
    obtain ⟨x10_3, ex10_3⟩ : ∃ y : Int32, y = x10 + 1 := ⟨_, rfl⟩
    refine lv_iinc (v := x10_3) (lv' := [(10, .int x10_3), (9, .int x_2), (0, .ref h0), (1, .int a1), (2, .int a2), (3, .int a3), (4, .int a4), (6, .int a6), (7, .int x7), (8, .int x8), (11, .int x11), (12, .int x12)]) hx hb dX10_laysPuffs_174 hl (k := 9) rfl (by rw [ex10_3]; rfl) (by decide) rfl (fun ls hl => ?_)
    have hf := ol_some hf ex10_3
    obtain ⟨x11_4, ex11_4⟩ : ∃ y : Int32, y = x11 + (-1) := ⟨_, rfl⟩
    refine lv_iinc (v := x11_4) (lv' := [(11, .int x11_4), (10, .int x10_3), (9, .int x_2), (0, .ref h0), (1, .int a1), (2, .int a2), (3, .int a3), (4, .int a4), (6, .int a6), (7, .int x7), (8, .int x8), (12, .int x12)]) hx hb dX10_laysPuffs_177 hl (k := 10) rfl (by rw [ex11_4]; rfl) (by decide) rfl (fun ls hl => ?_)
    have hf := ol_some hf ex11_4
    obtain ⟨x12_5, ex12_5⟩ : ∃ y : Int32, y = x12 + 1 := ⟨_, rfl⟩
    refine lv_iinc (v := x12_5) (lv' := [(12, .int x12_5), (11, .int x11_4), (10, .int x10_3), (9, .int x_2), (0, .ref h0), (1, .int a1), (2, .int a2), (3, .int a3), (4, .int a4), (6, .int a6), (7, .int x7), (8, .int x8)]) hx hb dX10_laysPuffs_180 hl (k := 11) rfl (by rw [ex12_5]; rfl) (by decide) rfl (fun ls hl => ?_)
    have hf := ol_some hf ex12_5
    refine lv_goto (tgt := 62) hx hb dX10_laysPuffs_183 (by decide) ?_
    exact hk62 H locs ls x7 x8 x_2 x10_3 x11_4 x12_5 v_puffMany v_puffsOf hP hD hS (lv_sub hl [4, 5, 6, 7, 8, 9, 10, 11, 3, 2, 1, 0] rfl) hf
  have L62 : ∀ (k7 : Int32 → Int32 → (Nat → Int32) → (Nat → Int32) → Option ((Nat → Int32) × (Nat → Int32))) (hk7 : ∀ (H : Heap) (locs : List Loc) (ls : Array Slot) (x7 : Int32) (x8 : Int32) (v_puffMany : Nat → Int32) (v_puffsOf : Nat → Int32), va_P (dC, dI) vwCl [(h0, .inr (10, [.int v_thrown, .ref h1, g_hasImage, g_tape, g_fresh, .int v_taped, .int v_at, .int v_behind, .int v_size, .int v_kind, .int v_number, .int v_wrong, .int v_wrongAt, .int v_faultKind, .int v_faultPlace, .ref h3, .ref h2, .ref h5, .ref h4, g_touches, g_kept, .int v_why, g_pairs, g_few, g_freeOf, g_quarterOf, g_bestOf, g_areApart, .int v_fewMany, .int v_bestLatest, .int v_bestSum, g_sootFor, .int v_alwaysLit, .int v_theDay, g_goodIn, .int v_goodSome, g_hadSmoke, g_rowSort, g_rowMany, g_numbers])), (h1, .inl (q0, 486, .inl v_all)), (h2, .inl (q1, 48, .inl v_highs)), (h3, .inl (q2, 48, .inl v_lows)), (h4, .inl (q3, 132, .inl v_puffMany)), (h5, .inl (q4, 7128, .inl v_puffsOf))] H → va_D A [(h0, .inr (10, [.int v_thrown, .ref h1, g_hasImage, g_tape, g_fresh, .int v_taped, .int v_at, .int v_behind, .int v_size, .int v_kind, .int v_number, .int v_wrong, .int v_wrongAt, .int v_faultKind, .int v_faultPlace, .ref h3, .ref h2, .ref h5, .ref h4, g_touches, g_kept, .int v_why, g_pairs, g_few, g_freeOf, g_quarterOf, g_bestOf, g_areApart, .int v_fewMany, .int v_bestLatest, .int v_bestSum, g_sootFor, .int v_alwaysLit, .int v_theDay, g_goodIn, .int v_goodSome, g_hadSmoke, g_rowSort, g_rowMany, g_numbers])), (h1, .inl (q0, 486, .inl v_all)), (h2, .inl (q1, 48, .inl v_highs)), (h3, .inl (q2, 48, .inl v_lows)), (h4, .inl (q3, 132, .inl v_puffMany)), (h5, .inl (q4, 7128, .inl v_puffsOf))] → va_S A s.heap H locs → lv_has ls 13 [(0, .ref h0), (1, .int a1), (2, .int a2), (3, .int a3), (4, .int a4), (6, .int a6), (7, .int x7), (8, .int x8)] → k7 x7 x8 v_puffMany v_puffsOf = some out → W p l e ({ frames := 1, cells := 0, slots := 0, locals := 25 } : Room) s m ([.ref h0, .int a1, .int a2, .int a3, .int a4, .int a5, .int a6] : List Value).toArray below meth c H locs 0 0 Q (F0 m 7 ls [])), ∀ (n : Nat), ∀ (H : Heap) (locs : List Loc) (ls : Array Slot) (x7 : Int32) (x8 : Int32) (x9 : Int32) (x10 : Int32) (x11 : Int32) (x12 : Int32) (v_puffMany : Nat → Int32) (v_puffsOf : Nat → Int32), va_P (dC, dI) vwCl [(h0, .inr (10, [.int v_thrown, .ref h1, g_hasImage, g_tape, g_fresh, .int v_taped, .int v_at, .int v_behind, .int v_size, .int v_kind, .int v_number, .int v_wrong, .int v_wrongAt, .int v_faultKind, .int v_faultPlace, .ref h3, .ref h2, .ref h5, .ref h4, g_touches, g_kept, .int v_why, g_pairs, g_few, g_freeOf, g_quarterOf, g_bestOf, g_areApart, .int v_fewMany, .int v_bestLatest, .int v_bestSum, g_sootFor, .int v_alwaysLit, .int v_theDay, g_goodIn, .int v_goodSome, g_hadSmoke, g_rowSort, g_rowMany, g_numbers])), (h1, .inl (q0, 486, .inl v_all)), (h2, .inl (q1, 48, .inl v_highs)), (h3, .inl (q2, 48, .inl v_lows)), (h4, .inl (q3, 132, .inl v_puffMany)), (h5, .inl (q4, 7128, .inl v_puffsOf))] H → va_D A [(h0, .inr (10, [.int v_thrown, .ref h1, g_hasImage, g_tape, g_fresh, .int v_taped, .int v_at, .int v_behind, .int v_size, .int v_kind, .int v_number, .int v_wrong, .int v_wrongAt, .int v_faultKind, .int v_faultPlace, .ref h3, .ref h2, .ref h5, .ref h4, g_touches, g_kept, .int v_why, g_pairs, g_few, g_freeOf, g_quarterOf, g_bestOf, g_areApart, .int v_fewMany, .int v_bestLatest, .int v_bestSum, g_sootFor, .int v_alwaysLit, .int v_theDay, g_goodIn, .int v_goodSome, g_hadSmoke, g_rowSort, g_rowMany, g_numbers])), (h1, .inl (q0, 486, .inl v_all)), (h2, .inl (q1, 48, .inl v_highs)), (h3, .inl (q2, 48, .inl v_lows)), (h4, .inl (q3, 132, .inl v_puffMany)), (h5, .inl (q4, 7128, .inl v_puffsOf))] → va_S A s.heap H locs → lv_has ls 13 [(0, .ref h0), (1, .int a1), (2, .int a2), (3, .int a3), (4, .int a4), (6, .int a6), (7, .int x7), (8, .int x8), (9, .int x9), (10, .int x10), (11, .int x11), (12, .int x12)] → fX10_laysPuffs_L62 F v_all v_highs v_lows a1 a2 a3 a4 a5 a6 k7 n x7 x8 x9 x10 x11 x12 v_puffMany v_puffsOf = some out → W p l e ({ frames := 1, cells := 0, slots := 0, locals := 25 } : Room) s m ([.ref h0, .int a1, .int a2, .int a3, .int a4, .int a5, .int a6] : List Value).toArray below meth c H locs 0 0 Q (F0 m 62 ls []) := by
    intro k7 hk7
    intro n
    induction n with
    | zero =>
      intro H locs ls x7 x8 x9 x10 x11 x12 v_puffMany v_puffsOf hP hD hS hl hf
      cases hf
    | succ n ih =>
      intro H locs ls x7 x8 x9 x10 x11 x12 v_puffMany v_puffsOf hP hD hS hl hf
      rw [fX10_laysPuffs_L62] at hf
      refine lv_iload hx hb dX10_laysPuffs_62 (lv_at hl 10 rfl) ?_
      refine lv_if_le (tgt := 186) hx hb dX10_laysPuffs_64 (by decide) (fun c_6 => ?_) (fun c_6 => ?_)
      · have hf := oi_t hf c_6
        exact L186 k7 hk7 H locs ls x7 x8 v_puffMany v_puffsOf hP hD hS (lv_sub hl [0, 1, 2, 3, 4, 5, 6, 7] rfl) hf
      · have hf := oi_f hf c_6
        refine lv_iload hx hb dX10_laysPuffs_67 (lv_at hl 8 rfl) ?_
        refine lv_i2l hx hb dX10_laysPuffs_69 rfl ?_
        refine lv_lconst (v := 0) hx hb dX10_laysPuffs_70 (by decide) ?_
        refine lv_ldc2 (v := 39) hx hb hown (htb _ mK_X10_193) dX10_laysPuffs_71 ?_
        obtain ⟨o_7, ho_7, hf⟩ := ob_some hf
        refine ca_S (As := [.long ((x9 : Int32).toInt64), .long (0 : Int64), .long (39 : Int64)]) (rest := []) (wr := [(h0, .inr (10, [.int v_thrown, .ref h1, g_hasImage, g_tape, g_fresh, .int v_taped, .int v_at, .int v_behind, .int v_size, .int v_kind, .int v_number, .int v_wrong, .int v_wrongAt, .int v_faultKind, .int v_faultPlace, .ref h3, .ref h2, .ref h5, .ref h4, g_touches, g_kept, .int v_why, g_pairs, g_few, g_freeOf, g_quarterOf, g_bestOf, g_areApart, .int v_fewMany, .int v_bestLatest, .int v_bestSum, g_sootFor, .int v_alwaysLit, .int v_theDay, g_goodIn, .int v_goodSome, g_hadSmoke, g_rowSort, g_rowMany, g_numbers])), (h1, .inl (q0, 486, .inl v_all)), (h2, .inl (q1, 48, .inl v_highs)), (h3, .inl (q2, 48, .inl v_lows)), (h4, .inl (q3, 132, .inl v_puffMany)), (h5, .inl (q4, 7128, .inl v_puffsOf))]) (wn := [(h0, .inr (10, [.int v_thrown, .ref h1, g_hasImage, g_tape, g_fresh, .int v_taped, .int v_at, .int v_behind, .int v_size, .int v_kind, .int v_number, .int v_wrong, .int v_wrongAt, .int v_faultKind, .int v_faultPlace, .ref h3, .ref h2, .ref h5, .ref h4, g_touches, g_kept, .int v_why, g_pairs, g_few, g_freeOf, g_quarterOf, g_bestOf, g_areApart, .int v_fewMany, .int v_bestLatest, .int v_bestSum, g_sootFor, .int v_alwaysLit, .int v_theDay, g_goodIn, .int v_goodSome, g_hadSmoke, g_rowSort, g_rowMany, g_numbers])), (h1, .inl (q0, 486, .inl v_all)), (h2, .inl (q1, 48, .inl v_highs)), (h3, .inl (q2, 48, .inl v_lows)), (h4, .inl (q3, 132, .inl v_puffMany)), (h5, .inl (q4, 7128, .inl v_puffsOf))]) ⟨hx, hb, hml, hown, hts⟩ (ctX10_within l dC dI F H.size ((x9 : Int32).toInt64) (0 : Int64) (39 : Int64) o_7 ho_7) ⟨mC_X10_within, mN_X10, md_X10_within, ⟨rfl, rfl⟩, ⟨Nat.le_of_ble_eq_true rfl, Nat.le_of_ble_eq_true rfl⟩⟩ mM_X10_149 mT_X10_within hK hN hP hD hS hA [] [] [0, 1, 2, 3, 4, 5] [0, 1, 2, 3, 4, 5] rfl rfl rfl ⟨by decide, by decide, by decide, by decide⟩ rfl rfl hl.1 (Nat.le_of_ble_eq_true rfl) ⟨Nat.zero_le _, Nat.zero_le _⟩ dX10_laysPuffs_74 (fun H locs hP hD hS => ?_)
        refine lv_if_eq (tgt := 186) hx hb dX10_laysPuffs_77 (by decide) (fun c_8 => ?_) (fun c_8 => ?_)
        · have hf := oi_t hf c_8
          exact L186 k7 hk7 H locs ls x7 x8 v_puffMany v_puffsOf hP hD hS (lv_sub hl [0, 1, 2, 3, 4, 5, 6, 7] rfl) hf
        · have hf := oi_f hf c_8
          refine lv_iload hx hb dX10_laysPuffs_80 (lv_at hl 9 rfl) ?_
          refine lv_bipush (v := 25) hx hb dX10_laysPuffs_82 (by decide) ?_
          refine lv_icmp_ge (tgt := 186) hx hb dX10_laysPuffs_84 (by decide) (fun c_9 => ?_) (fun c_9 => ?_)
          · have hf := oi_t hf c_9
            exact L186 k7 hk7 H locs ls x7 x8 v_puffMany v_puffsOf hP hD hS (lv_sub hl [0, 1, 2, 3, 4, 5, 6, 7] rfl) hf
          · have hf := oi_f hf c_9
            refine lv_aload_n hx hb dX10_laysPuffs_87 rfl (lv_at hl 0 rfl) ?_
            refine va_get (D := (dC, dI)) (ci := 10) (v := .ref h5) (C := RX10) (T := TX10) (N := 40) hx hb htb inG10 hown hK hP 0 rfl rfl 17 (by decide) (htb _ mF_X10_36) (fun _ h9 => h9) rfl dX10_laysPuffs_88 ?_
            refine lv_bipush (v := 54) hx hb dX10_laysPuffs_91 (by decide) ?_
            refine lv_iload_n hx hb dX10_laysPuffs_93 rfl (lv_at hl 1 rfl) ?_
            refine lv_imul hx hb dX10_laysPuffs_94 ?_
            refine lv_iload hx hb dX10_laysPuffs_95 (lv_at hl 6 rfl) ?_
            refine lv_iadd hx hb dX10_laysPuffs_97 ?_
            refine lv_bipush (v := 10) hx hb dX10_laysPuffs_98 (by decide) ?_
            refine lv_sipush (v := 1000) hx hb dX10_laysPuffs_100 (by decide) ?_
            refine lv_iload hx hb dX10_laysPuffs_103 (lv_at hl 11 rfl) ?_
            refine lv_imul hx hb dX10_laysPuffs_105 ?_
            refine lv_bipush (v := 25) hx hb dX10_laysPuffs_106 (by decide) ?_
            refine lv_iload hx hb dX10_laysPuffs_108 (lv_at hl 8 rfl) ?_
            refine lv_imul hx hb dX10_laysPuffs_110 ?_
            refine lv_iadd hx hb dX10_laysPuffs_111 ?_
            refine lv_iload hx hb dX10_laysPuffs_112 (lv_at hl 9 rfl) ?_
            refine lv_iadd hx hb dX10_laysPuffs_114 ?_
            refine lv_imul hx hb dX10_laysPuffs_115 ?_
            refine lv_iload hx hb dX10_laysPuffs_116 (lv_at hl 10 rfl) ?_
            refine lv_iadd hx hb dX10_laysPuffs_118 ?_
            obtain ⟨b_10, hf⟩ := og_some hf
            refine va_iast hx hb hK hP hD hS 5 4 rfl rfl (vb_ok b_10) dX10_laysPuffs_119 (fun H locs hP hD hS => ?_)
            generalize ev_puffsOf_11 : upd v_puffsOf (((54 : Int32) * a1) + x7).toNatClampNeg (((10 : Int32) * ((((1000 : Int32) * x12) + ((25 : Int32) * x9)) + x10)) + x11) = v_puffsOf_11 at hP hD
            have hf := ol_some hf ev_puffsOf_11.symm
            have hP : va_P (dC, dI) vwCl [(h0, .inr (10, [.int v_thrown, .ref h1, g_hasImage, g_tape, g_fresh, .int v_taped, .int v_at, .int v_behind, .int v_size, .int v_kind, .int v_number, .int v_wrong, .int v_wrongAt, .int v_faultKind, .int v_faultPlace, .ref h3, .ref h2, .ref h5, .ref h4, g_touches, g_kept, .int v_why, g_pairs, g_few, g_freeOf, g_quarterOf, g_bestOf, g_areApart, .int v_fewMany, .int v_bestLatest, .int v_bestSum, g_sootFor, .int v_alwaysLit, .int v_theDay, g_goodIn, .int v_goodSome, g_hadSmoke, g_rowSort, g_rowMany, g_numbers])), (h1, .inl (q0, 486, .inl v_all)), (h2, .inl (q1, 48, .inl v_highs)), (h3, .inl (q2, 48, .inl v_lows)), (h4, .inl (q3, 132, .inl v_puffMany)), (h5, .inl (q4, 7128, .inl v_puffsOf_11))] H := hP
            have hD : va_D A [(h0, .inr (10, [.int v_thrown, .ref h1, g_hasImage, g_tape, g_fresh, .int v_taped, .int v_at, .int v_behind, .int v_size, .int v_kind, .int v_number, .int v_wrong, .int v_wrongAt, .int v_faultKind, .int v_faultPlace, .ref h3, .ref h2, .ref h5, .ref h4, g_touches, g_kept, .int v_why, g_pairs, g_few, g_freeOf, g_quarterOf, g_bestOf, g_areApart, .int v_fewMany, .int v_bestLatest, .int v_bestSum, g_sootFor, .int v_alwaysLit, .int v_theDay, g_goodIn, .int v_goodSome, g_hadSmoke, g_rowSort, g_rowMany, g_numbers])), (h1, .inl (q0, 486, .inl v_all)), (h2, .inl (q1, 48, .inl v_highs)), (h3, .inl (q2, 48, .inl v_lows)), (h4, .inl (q3, 132, .inl v_puffMany)), (h5, .inl (q4, 7128, .inl v_puffsOf_11))] := hD
            obtain ⟨x7_12, ex7_12⟩ : ∃ y : Int32, y = x7 + 1 := ⟨_, rfl⟩
            refine lv_iinc (v := x7_12) (lv' := [(7, .int x7_12), (0, .ref h0), (1, .int a1), (2, .int a2), (3, .int a3), (4, .int a4), (6, .int a6), (8, .int x8), (9, .int x9), (10, .int x10), (11, .int x11), (12, .int x12)]) hx hb dX10_laysPuffs_120 hl (k := 6) rfl (by rw [ex7_12]; rfl) (by decide) rfl (fun ls hl => ?_)
            have hf := ol_some hf ex7_12
            refine lv_iload hx hb dX10_laysPuffs_123 (lv_at hl 11 rfl) ?_
            refine lv_iconst (v := 1) hx hb dX10_laysPuffs_125 (by decide) ?_
            refine lv_iadd hx hb dX10_laysPuffs_126 ?_
            refine lv_bipush (v := 48) hx hb dX10_laysPuffs_127 (by decide) ?_
            refine lv_icmp_ne (tgt := 135) hx hb dX10_laysPuffs_129 (by decide) (fun c_13 => ?_) (fun c_13 => ?_)
            · have hf := oi_f hf c_13
              refine lv_iload hx hb dX10_laysPuffs_135 (lv_at hl 8 rfl) ?_
              refine lv_iload hx hb dX10_laysPuffs_137 (lv_at hl 9 rfl) ?_
              refine lv_aload_n hx hb dX10_laysPuffs_139 rfl (lv_at hl 1 rfl) ?_
              refine va_get (D := (dC, dI)) (ci := 10) (v := .ref h1) (C := RX10) (T := TX10) (N := 40) hx hb htb inG10 hown hK hP 0 rfl rfl 1 (by decide) (htb _ mF_X10_13) (fun _ h9 => h9) rfl dX10_laysPuffs_140 ?_
              refine lv_iconst (v := 2) hx hb dX10_laysPuffs_143 (by decide) ?_
              refine va_iald hx hb hK hP 1 0 rfl rfl (vb_ok (by decide)) dX10_laysPuffs_144 ?_
              refine lv_icmp_ge (tgt := 160) hx hb dX10_laysPuffs_145 (by decide) (fun c_14 => ?_) (fun c_14 => ?_)
              · have hf := oi_t hf c_14
                refine lv_aload_n hx hb dX10_laysPuffs_160 rfl (lv_at hl 1 rfl) ?_
                refine va_get (D := (dC, dI)) (ci := 10) (v := .ref h2) (C := RX10) (T := TX10) (N := 40) hx hb htb inG10 hown hK hP 0 rfl rfl 16 (by decide) (htb _ mF_X10_33) (fun _ h9 => h9) rfl dX10_laysPuffs_161 ?_
                refine lv_iload hx hb dX10_laysPuffs_164 (lv_at hl 11 rfl) ?_
                refine lv_iconst (v := 1) hx hb dX10_laysPuffs_166 (by decide) ?_
                refine lv_iadd hx hb dX10_laysPuffs_167 ?_
                obtain ⟨b_15, hf⟩ := og_some hf
                refine va_iald hx hb hK hP 2 1 rfl rfl (vb_ok b_15) dX10_laysPuffs_168 ?_
                exact L169 k7 hk7 (fun x7 x8 x9 x10 x11 x12 v_puffMany v_puffsOf => fX10_laysPuffs_L62 F v_all v_highs v_lows a1 a2 a3 a4 a5 a6 k7 n x7 x8 x9 x10 x11 x12 v_puffMany v_puffsOf) ih H locs ls x7_12 x8 x10 x11 x12 (v_highs (x12 + (1 : Int32)).toNatClampNeg) x9 v_puffMany v_puffsOf_11 hP hD hS (lv_sub hl [1, 2, 3, 4, 5, 6, 0, 7, 9, 10, 11] rfl) hf
              · have hf := oi_f hf c_14
                refine lv_aload_n hx hb dX10_laysPuffs_148 rfl (lv_at hl 1 rfl) ?_
                refine va_get (D := (dC, dI)) (ci := 10) (v := .ref h3) (C := RX10) (T := TX10) (N := 40) hx hb htb inG10 hown hK hP 0 rfl rfl 15 (by decide) (htb _ mF_X10_30) (fun _ h9 => h9) rfl dX10_laysPuffs_149 ?_
                refine lv_iload hx hb dX10_laysPuffs_152 (lv_at hl 11 rfl) ?_
                refine lv_iconst (v := 1) hx hb dX10_laysPuffs_154 (by decide) ?_
                refine lv_iadd hx hb dX10_laysPuffs_155 ?_
                obtain ⟨b_16, hf⟩ := og_some hf
                refine va_iald hx hb hK hP 3 2 rfl rfl (vb_ok b_16) dX10_laysPuffs_156 ?_
                refine lv_goto (tgt := 169) hx hb dX10_laysPuffs_157 (by decide) ?_
                exact L169 k7 hk7 (fun x7 x8 x9 x10 x11 x12 v_puffMany v_puffsOf => fX10_laysPuffs_L62 F v_all v_highs v_lows a1 a2 a3 a4 a5 a6 k7 n x7 x8 x9 x10 x11 x12 v_puffMany v_puffsOf) ih H locs ls x7_12 x8 x10 x11 x12 (v_lows (x12 + (1 : Int32)).toNatClampNeg) x9 v_puffMany v_puffsOf_11 hP hD hS (lv_sub hl [1, 2, 3, 4, 5, 6, 0, 7, 9, 10, 11] rfl) hf
            · have hf := oi_t hf c_13
              refine lv_goto (tgt := 186) hx hb dX10_laysPuffs_132 (by decide) ?_
              exact L186 k7 hk7 H locs ls x7_12 x8 v_puffMany v_puffsOf_11 hP hD hS (lv_sub hl [1, 2, 3, 4, 5, 6, 0, 7] rfl) hf
  have L7 : ∀ (n : Nat), ∀ (H : Heap) (locs : List Loc) (ls : Array Slot) (x7 : Int32) (x8 : Int32) (v_puffMany : Nat → Int32) (v_puffsOf : Nat → Int32), va_P (dC, dI) vwCl [(h0, .inr (10, [.int v_thrown, .ref h1, g_hasImage, g_tape, g_fresh, .int v_taped, .int v_at, .int v_behind, .int v_size, .int v_kind, .int v_number, .int v_wrong, .int v_wrongAt, .int v_faultKind, .int v_faultPlace, .ref h3, .ref h2, .ref h5, .ref h4, g_touches, g_kept, .int v_why, g_pairs, g_few, g_freeOf, g_quarterOf, g_bestOf, g_areApart, .int v_fewMany, .int v_bestLatest, .int v_bestSum, g_sootFor, .int v_alwaysLit, .int v_theDay, g_goodIn, .int v_goodSome, g_hadSmoke, g_rowSort, g_rowMany, g_numbers])), (h1, .inl (q0, 486, .inl v_all)), (h2, .inl (q1, 48, .inl v_highs)), (h3, .inl (q2, 48, .inl v_lows)), (h4, .inl (q3, 132, .inl v_puffMany)), (h5, .inl (q4, 7128, .inl v_puffsOf))] H → va_D A [(h0, .inr (10, [.int v_thrown, .ref h1, g_hasImage, g_tape, g_fresh, .int v_taped, .int v_at, .int v_behind, .int v_size, .int v_kind, .int v_number, .int v_wrong, .int v_wrongAt, .int v_faultKind, .int v_faultPlace, .ref h3, .ref h2, .ref h5, .ref h4, g_touches, g_kept, .int v_why, g_pairs, g_few, g_freeOf, g_quarterOf, g_bestOf, g_areApart, .int v_fewMany, .int v_bestLatest, .int v_bestSum, g_sootFor, .int v_alwaysLit, .int v_theDay, g_goodIn, .int v_goodSome, g_hadSmoke, g_rowSort, g_rowMany, g_numbers])), (h1, .inl (q0, 486, .inl v_all)), (h2, .inl (q1, 48, .inl v_highs)), (h3, .inl (q2, 48, .inl v_lows)), (h4, .inl (q3, 132, .inl v_puffMany)), (h5, .inl (q4, 7128, .inl v_puffsOf))] → va_S A s.heap H locs → lv_has ls 13 [(0, .ref h0), (1, .int a1), (2, .int a2), (3, .int a3), (4, .int a4), (6, .int a6), (7, .int x7), (8, .int x8)] → fX10_laysPuffs_L7 F v_all v_highs v_lows a1 a2 a3 a4 a5 a6 n x7 x8 v_puffMany v_puffsOf = some out → W p l e ({ frames := 1, cells := 0, slots := 0, locals := 25 } : Room) s m ([.ref h0, .int a1, .int a2, .int a3, .int a4, .int a5, .int a6] : List Value).toArray below meth c H locs 0 0 Q (F0 m 7 ls []) := by
    intro n
    induction n with
    | zero =>
      intro H locs ls x7 x8 v_puffMany v_puffsOf hP hD hS hl hf
      cases hf
    | succ n ih =>
      intro H locs ls x7 x8 v_puffMany v_puffsOf hP hD hS hl hf
      rw [fX10_laysPuffs_L7] at hf
      refine lv_iload hx hb dX10_laysPuffs_7 (lv_at hl 7 rfl) ?_
      refine lv_iload hx hb dX10_laysPuffs_9 (lv_at hl 5 rfl) ?_
      refine lv_icmp_ge (tgt := 192) hx hb dX10_laysPuffs_11 (by decide) (fun c_17 => ?_) (fun c_17 => ?_)
      · have hf := oi_t hf c_17
        refine lv_aload_n hx hb dX10_laysPuffs_192 rfl (lv_at hl 0 rfl) ?_
        refine va_get (D := (dC, dI)) (ci := 10) (v := .ref h4) (C := RX10) (T := TX10) (N := 40) hx hb htb inG10 hown hK hP 0 rfl rfl 18 (by decide) (htb _ mF_X10_39) (fun _ h9 => h9) rfl dX10_laysPuffs_193 ?_
        refine lv_iload_n hx hb dX10_laysPuffs_196 rfl (lv_at hl 1 rfl) ?_
        refine lv_iload hx hb dX10_laysPuffs_197 (lv_at hl 6 rfl) ?_
        obtain ⟨b_18, hf⟩ := og_some hf
        refine va_iast hx hb hK hP hD hS 4 3 rfl rfl (vb_ok b_18) dX10_laysPuffs_199 (fun H locs hP hD hS => ?_)
        generalize ev_puffMany_19 : upd v_puffMany a1.toNatClampNeg x7 = v_puffMany_19 at hP hD
        have hf := ol_some hf ev_puffMany_19.symm
        have hP : va_P (dC, dI) vwCl [(h0, .inr (10, [.int v_thrown, .ref h1, g_hasImage, g_tape, g_fresh, .int v_taped, .int v_at, .int v_behind, .int v_size, .int v_kind, .int v_number, .int v_wrong, .int v_wrongAt, .int v_faultKind, .int v_faultPlace, .ref h3, .ref h2, .ref h5, .ref h4, g_touches, g_kept, .int v_why, g_pairs, g_few, g_freeOf, g_quarterOf, g_bestOf, g_areApart, .int v_fewMany, .int v_bestLatest, .int v_bestSum, g_sootFor, .int v_alwaysLit, .int v_theDay, g_goodIn, .int v_goodSome, g_hadSmoke, g_rowSort, g_rowMany, g_numbers])), (h1, .inl (q0, 486, .inl v_all)), (h2, .inl (q1, 48, .inl v_highs)), (h3, .inl (q2, 48, .inl v_lows)), (h4, .inl (q3, 132, .inl v_puffMany_19)), (h5, .inl (q4, 7128, .inl v_puffsOf))] H := hP
        have hD : va_D A [(h0, .inr (10, [.int v_thrown, .ref h1, g_hasImage, g_tape, g_fresh, .int v_taped, .int v_at, .int v_behind, .int v_size, .int v_kind, .int v_number, .int v_wrong, .int v_wrongAt, .int v_faultKind, .int v_faultPlace, .ref h3, .ref h2, .ref h5, .ref h4, g_touches, g_kept, .int v_why, g_pairs, g_few, g_freeOf, g_quarterOf, g_bestOf, g_areApart, .int v_fewMany, .int v_bestLatest, .int v_bestSum, g_sootFor, .int v_alwaysLit, .int v_theDay, g_goodIn, .int v_goodSome, g_hadSmoke, g_rowSort, g_rowMany, g_numbers])), (h1, .inl (q0, 486, .inl v_all)), (h2, .inl (q1, 48, .inl v_highs)), (h3, .inl (q2, 48, .inl v_lows)), (h4, .inl (q3, 132, .inl v_puffMany_19)), (h5, .inl (q4, 7128, .inl v_puffsOf))] := hD
        obtain rfl := Option.some.inj hf
        exact hRet H locs ls 200 hP hD hS dX10_laysPuffs_200
      · have hf := oi_f hf c_17
        refine lv_aload_n hx hb dX10_laysPuffs_14 rfl (lv_at hl 0 rfl) ?_
        refine va_get (D := (dC, dI)) (ci := 10) (v := .ref h1) (C := RX10) (T := TX10) (N := 40) hx hb htb inG10 hown hK hP 0 rfl rfl 1 (by decide) (htb _ mF_X10_13) (fun _ h9 => h9) rfl dX10_laysPuffs_15 ?_
        refine lv_bipush (v := 6) hx hb dX10_laysPuffs_18 (by decide) ?_
        refine lv_iload_n hx hb dX10_laysPuffs_20 rfl (lv_at hl 2 rfl) ?_
        refine lv_iadd hx hb dX10_laysPuffs_21 ?_
        obtain ⟨b_20, hf⟩ := og_some hf
        refine va_iald hx hb hK hP 1 0 rfl rfl (vb_ok b_20) dX10_laysPuffs_22 ?_
        refine lv_topi (fun x_21 ex_21 => ?_)
        have hf := ol_some hf ex_21
        refine lv_istore (lv' := [(9, .int x_21), (0, .ref h0), (1, .int a1), (2, .int a2), (3, .int a3), (4, .int a4), (6, .int a6), (7, .int x7), (8, .int x8)]) hx hb dX10_laysPuffs_23 hl (by decide) rfl (fun ls hl => ?_)
        refine lv_aload_n hx hb dX10_laysPuffs_25 rfl (lv_at hl 1 rfl) ?_
        refine va_get (D := (dC, dI)) (ci := 10) (v := .ref h1) (C := RX10) (T := TX10) (N := 40) hx hb htb inG10 hown hK hP 0 rfl rfl 1 (by decide) (htb _ mF_X10_13) (fun _ h9 => h9) rfl dX10_laysPuffs_26 ?_
        refine lv_bipush (v := 16) hx hb dX10_laysPuffs_29 (by decide) ?_
        refine lv_iload_n hx hb dX10_laysPuffs_31 rfl (lv_at hl 3 rfl) ?_
        refine lv_iadd hx hb dX10_laysPuffs_32 ?_
        obtain ⟨b_22, hf⟩ := og_some hf
        refine va_iald hx hb hK hP 1 0 rfl rfl (vb_ok b_22) dX10_laysPuffs_33 ?_
        refine lv_iload hx hb dX10_laysPuffs_34 (lv_at hl 5 rfl) ?_
        refine lv_iadd hx hb dX10_laysPuffs_36 ?_
        refine lv_topi (fun x_23 ex_23 => ?_)
        have hf := ol_some hf ex_23
        refine lv_istore (lv' := [(10, .int x_23), (9, .int x_21), (0, .ref h0), (1, .int a1), (2, .int a2), (3, .int a3), (4, .int a4), (6, .int a6), (7, .int x7), (8, .int x8)]) hx hb dX10_laysPuffs_37 hl (by decide) rfl (fun ls hl => ?_)
        refine lv_aload_n hx hb dX10_laysPuffs_39 rfl (lv_at hl 2 rfl) ?_
        refine va_get (D := (dC, dI)) (ci := 10) (v := .ref h1) (C := RX10) (T := TX10) (N := 40) hx hb htb inG10 hown hK hP 0 rfl rfl 1 (by decide) (htb _ mF_X10_13) (fun _ h9 => h9) rfl dX10_laysPuffs_40 ?_
        refine lv_bipush (v := 66) hx hb dX10_laysPuffs_43 (by decide) ?_
        refine lv_bipush (v := 6) hx hb dX10_laysPuffs_45 (by decide) ?_
        refine lv_iload_n hx hb dX10_laysPuffs_47 rfl (lv_at hl 4 rfl) ?_
        refine lv_imul hx hb dX10_laysPuffs_48 ?_
        refine lv_iadd hx hb dX10_laysPuffs_49 ?_
        refine lv_iload hx hb dX10_laysPuffs_50 (lv_at hl 9 rfl) ?_
        refine lv_iadd hx hb dX10_laysPuffs_52 ?_
        obtain ⟨b_24, hf⟩ := og_some hf
        refine va_iald hx hb hK hP 1 0 rfl rfl (vb_ok b_24) dX10_laysPuffs_53 ?_
        refine lv_topi (fun x_25 ex_25 => ?_)
        have hf := ol_some hf ex_25
        refine lv_istore (lv' := [(11, .int x_25), (10, .int x_23), (9, .int x_21), (0, .ref h0), (1, .int a1), (2, .int a2), (3, .int a3), (4, .int a4), (6, .int a6), (7, .int x7), (8, .int x8)]) hx hb dX10_laysPuffs_54 hl (by decide) rfl (fun ls hl => ?_)
        refine lv_iload_n hx hb dX10_laysPuffs_56 rfl (lv_at hl 6 rfl) ?_
        refine lv_iload hx hb dX10_laysPuffs_57 (lv_at hl 10 rfl) ?_
        refine lv_iadd hx hb dX10_laysPuffs_59 ?_
        refine lv_topi (fun x_26 ex_26 => ?_)
        have hf := ol_some hf ex_26
        refine lv_istore (lv' := [(12, .int x_26), (11, .int x_25), (10, .int x_23), (9, .int x_21), (0, .ref h0), (1, .int a1), (2, .int a2), (3, .int a3), (4, .int a4), (6, .int a6), (7, .int x7), (8, .int x8)]) hx hb dX10_laysPuffs_60 hl (by decide) rfl (fun ls hl => ?_)
        exact L62 (fun x7 x8 v_puffMany v_puffsOf => fX10_laysPuffs_L7 F v_all v_highs v_lows a1 a2 a3 a4 a5 a6 n x7 x8 v_puffMany v_puffsOf) ih F H locs ls x7 x8 x_21 x_23 x_25 x_26 v_puffMany v_puffsOf hP hD hS (lv_sub hl [4, 5, 6, 7, 8, 9, 10, 11, 3, 2, 1, 0] rfl) hf
  suffices K0 : ∀ (H : Heap) (locs : List Loc), va_P (dC, dI) vwCl [(h0, .inr (10, [.int v_thrown, .ref h1, g_hasImage, g_tape, g_fresh, .int v_taped, .int v_at, .int v_behind, .int v_size, .int v_kind, .int v_number, .int v_wrong, .int v_wrongAt, .int v_faultKind, .int v_faultPlace, .ref h3, .ref h2, .ref h5, .ref h4, g_touches, g_kept, .int v_why, g_pairs, g_few, g_freeOf, g_quarterOf, g_bestOf, g_areApart, .int v_fewMany, .int v_bestLatest, .int v_bestSum, g_sootFor, .int v_alwaysLit, .int v_theDay, g_goodIn, .int v_goodSome, g_hadSmoke, g_rowSort, g_rowMany, g_numbers])), (h1, .inl (q0, 486, .inl v_all)), (h2, .inl (q1, 48, .inl v_highs)), (h3, .inl (q2, 48, .inl v_lows)), (h4, .inl (q3, 132, .inl v_puffMany)), (h5, .inl (q4, 7128, .inl v_puffsOf))] H → va_D A [(h0, .inr (10, [.int v_thrown, .ref h1, g_hasImage, g_tape, g_fresh, .int v_taped, .int v_at, .int v_behind, .int v_size, .int v_kind, .int v_number, .int v_wrong, .int v_wrongAt, .int v_faultKind, .int v_faultPlace, .ref h3, .ref h2, .ref h5, .ref h4, g_touches, g_kept, .int v_why, g_pairs, g_few, g_freeOf, g_quarterOf, g_bestOf, g_areApart, .int v_fewMany, .int v_bestLatest, .int v_bestSum, g_sootFor, .int v_alwaysLit, .int v_theDay, g_goodIn, .int v_goodSome, g_hadSmoke, g_rowSort, g_rowMany, g_numbers])), (h1, .inl (q0, 486, .inl v_all)), (h2, .inl (q1, 48, .inl v_highs)), (h3, .inl (q2, 48, .inl v_lows)), (h4, .inl (q3, 132, .inl v_puffMany)), (h5, .inl (q4, 7128, .inl v_puffsOf))] → va_S A s.heap H locs → W p l e ({ frames := 1, cells := 0, slots := 0, locals := 25 } : Room) s m ([.ref h0, .int a1, .int a2, .int a3, .int a4, .int a5, .int a6] : List Value).toArray below meth c H locs 0 0 Q (F0 m 0 ls []) from K0 s.heap [] hP hD hS
  clear hP hD hS
  intro H locs hP hD hS
  unfold fX10_laysPuffs at hf
  refine lv_iconst (v := 0) hx hb dX10_laysPuffs_0 (by decide) ?_
  refine lv_istore (lv' := [(7, .int (0 : Int32)), (0, .ref h0), (1, .int a1), (2, .int a2), (3, .int a3), (4, .int a4), (5, .int a5), (6, .int a6)]) hx hb dX10_laysPuffs_1 hl (by decide) rfl (fun ls hl => ?_)
  refine lv_iload hx hb dX10_laysPuffs_3 (lv_at hl 6 rfl) ?_
  refine lv_istore (lv' := [(8, .int a5), (7, .int (0 : Int32)), (0, .ref h0), (1, .int a1), (2, .int a2), (3, .int a3), (4, .int a4), (5, .int a5), (6, .int a6)]) hx hb dX10_laysPuffs_5 hl (by decide) rfl (fun ls hl => ?_)
  exact L7 F H locs ls (0 : Int32) a5 v_puffMany v_puffsOf hP hD hS (lv_sub hl [2, 3, 4, 5, 6, 8, 1, 0] rfl) hf
def fX10_laysFire (F : Nat) (v_all : Nat → Int32) (v_highs : Nat → Int32) (v_lows : Nat → Int32) (v_puffMany : Nat → Int32) (v_puffsOf : Nat → Int32) (a1 : Int32) (a2 : Int32) (a3 : Int32) (a4 : Int32) : Option ((Nat → Int32) × (Nat → Int32)) := og (vb ((46 : Int32) + a2) 486) (ob (fX10_laysPuffs F v_all v_highs v_lows v_puffMany v_puffsOf a1 a2 a3 a4 (0 : Int32) (v_all ((46 : Int32) + a2).toNatClampNeg)) (fun o_2 => some (o_2.1, o_2.2)))
set_option maxRecDepth 100000 in
set_option maxHeartbeats 4000000 in
theorem ctX10_laysFire (l : Launch) (dC : Nat → ClassId) (dI : Nat → Nat → Nat) (F sz : Nat) (h0 h1 h2 h3 h4 h5 : Nat) (q0 q1 q2 q3 q4 : ClassId) (v_thrown : Int32) (g_hasImage : Value) (g_tape : Value) (g_fresh : Value) (v_taped : Int32) (v_at : Int32) (v_behind : Int32) (v_size : Int32) (v_kind : Int32) (v_number : Int32) (v_wrong : Int32) (v_wrongAt : Int32) (v_faultKind : Int32) (v_faultPlace : Int32) (g_touches : Value) (g_kept : Value) (v_why : Int32) (g_pairs : Value) (g_few : Value) (g_freeOf : Value) (g_quarterOf : Value) (g_bestOf : Value) (g_areApart : Value) (v_fewMany : Int32) (v_bestLatest : Int32) (v_bestSum : Int32) (g_sootFor : Value) (v_alwaysLit : Int32) (v_theDay : Int32) (g_goodIn : Value) (v_goodSome : Int32) (g_hadSmoke : Value) (g_rowSort : Value) (g_rowMany : Value) (g_numbers : Value) (v_all : Nat → Int32) (v_highs : Nat → Int32) (v_lows : Nat → Int32) (v_puffMany : Nat → Int32) (v_puffsOf : Nat → Int32) (a1 : Int32) (a2 : Int32) (a3 : Int32) (a4 : Int32) (out : (Nat → Int32) × (Nat → Int32)) (hf : fX10_laysFire F v_all v_highs v_lows v_puffMany v_puffsOf a1 a2 a3 a4 = some out) : cM l yX10_laysFire cX10_laysFire 5 none ({ frames := 2, cells := 0, slots := 0, locals := 57 } : Room) (dC, dI) [(q0, .int), (q1, .int), (q2, .int), (q3, .int), (q4, .int)] [(h0, .inr (10, [.int v_thrown, .ref h1, g_hasImage, g_tape, g_fresh, .int v_taped, .int v_at, .int v_behind, .int v_size, .int v_kind, .int v_number, .int v_wrong, .int v_wrongAt, .int v_faultKind, .int v_faultPlace, .ref h3, .ref h2, .ref h5, .ref h4, g_touches, g_kept, .int v_why, g_pairs, g_few, g_freeOf, g_quarterOf, g_bestOf, g_areApart, .int v_fewMany, .int v_bestLatest, .int v_bestSum, g_sootFor, .int v_alwaysLit, .int v_theDay, g_goodIn, .int v_goodSome, g_hadSmoke, g_rowSort, g_rowMany, g_numbers])), (h1, .inl (q0, 486, .inl v_all)), (h2, .inl (q1, 48, .inl v_highs)), (h3, .inl (q2, 48, .inl v_lows)), (h4, .inl (q3, 132, .inl v_puffMany)), (h5, .inl (q4, 7128, .inl v_puffsOf))] [.ref h0, .int a1, .int a2, .int a3, .int a4] sz none [(h0, .inr (10, [.int v_thrown, .ref h1, g_hasImage, g_tape, g_fresh, .int v_taped, .int v_at, .int v_behind, .int v_size, .int v_kind, .int v_number, .int v_wrong, .int v_wrongAt, .int v_faultKind, .int v_faultPlace, .ref h3, .ref h2, .ref h5, .ref h4, g_touches, g_kept, .int v_why, g_pairs, g_few, g_freeOf, g_quarterOf, g_bestOf, g_areApart, .int v_fewMany, .int v_bestLatest, .int v_bestSum, g_sootFor, .int v_alwaysLit, .int v_theDay, g_goodIn, .int v_goodSome, g_hadSmoke, g_rowSort, g_rowMany, g_numbers])), (h1, .inl (q0, 486, .inl v_all)), (h2, .inl (q1, 48, .inl v_highs)), (h3, .inl (q2, 48, .inl v_lows)), (h4, .inl (q3, 132, .inl out.1)), (h5, .inl (q4, 7128, .inl out.2))] := by
  refine cM_V RX10 ⟨by decide, rfl⟩ (Nat.le_of_ble_eq_true rfl) ?_
  intro p e s m below meth c A Q ls hx hb hml hown hts hK hN hA hP hD hS hl hRet
  have htb : ∀ w ∈ lw_g, w.before ([.ref h0, .int a1, .int a2, .int a3, .int a4] : List Value).toArray s = true := fun w h => hts w (List.mem_cons_of_mem _ h)
  have hl : lv_has ls 5 [(0, .ref h0), (1, .int a1), (2, .int a2), (3, .int a3), (4, .int a4)] := hl
  suffices K0 : ∀ (H : Heap) (locs : List Loc), va_P (dC, dI) vwCl [(h0, .inr (10, [.int v_thrown, .ref h1, g_hasImage, g_tape, g_fresh, .int v_taped, .int v_at, .int v_behind, .int v_size, .int v_kind, .int v_number, .int v_wrong, .int v_wrongAt, .int v_faultKind, .int v_faultPlace, .ref h3, .ref h2, .ref h5, .ref h4, g_touches, g_kept, .int v_why, g_pairs, g_few, g_freeOf, g_quarterOf, g_bestOf, g_areApart, .int v_fewMany, .int v_bestLatest, .int v_bestSum, g_sootFor, .int v_alwaysLit, .int v_theDay, g_goodIn, .int v_goodSome, g_hadSmoke, g_rowSort, g_rowMany, g_numbers])), (h1, .inl (q0, 486, .inl v_all)), (h2, .inl (q1, 48, .inl v_highs)), (h3, .inl (q2, 48, .inl v_lows)), (h4, .inl (q3, 132, .inl v_puffMany)), (h5, .inl (q4, 7128, .inl v_puffsOf))] H → va_D A [(h0, .inr (10, [.int v_thrown, .ref h1, g_hasImage, g_tape, g_fresh, .int v_taped, .int v_at, .int v_behind, .int v_size, .int v_kind, .int v_number, .int v_wrong, .int v_wrongAt, .int v_faultKind, .int v_faultPlace, .ref h3, .ref h2, .ref h5, .ref h4, g_touches, g_kept, .int v_why, g_pairs, g_few, g_freeOf, g_quarterOf, g_bestOf, g_areApart, .int v_fewMany, .int v_bestLatest, .int v_bestSum, g_sootFor, .int v_alwaysLit, .int v_theDay, g_goodIn, .int v_goodSome, g_hadSmoke, g_rowSort, g_rowMany, g_numbers])), (h1, .inl (q0, 486, .inl v_all)), (h2, .inl (q1, 48, .inl v_highs)), (h3, .inl (q2, 48, .inl v_lows)), (h4, .inl (q3, 132, .inl v_puffMany)), (h5, .inl (q4, 7128, .inl v_puffsOf))] → va_S A s.heap H locs → W p l e ({ frames := 2, cells := 0, slots := 0, locals := 57 } : Room) s m ([.ref h0, .int a1, .int a2, .int a3, .int a4] : List Value).toArray below meth c H locs 0 0 Q (F0 m 0 ls []) from K0 s.heap [] hP hD hS
  clear hP hD hS
  intro H locs hP hD hS
  unfold fX10_laysFire at hf
  refine lv_aload_n hx hb dX10_laysFire_0 rfl (lv_at hl 0 rfl) ?_
  refine lv_iload_n hx hb dX10_laysFire_1 rfl (lv_at hl 1 rfl) ?_
  refine lv_iload_n hx hb dX10_laysFire_2 rfl (lv_at hl 2 rfl) ?_
  refine lv_iload_n hx hb dX10_laysFire_3 rfl (lv_at hl 3 rfl) ?_
  refine lv_iload hx hb dX10_laysFire_4 (lv_at hl 4 rfl) ?_
  refine lv_iconst (v := 0) hx hb dX10_laysFire_6 (by decide) ?_
  refine lv_aload_n hx hb dX10_laysFire_7 rfl (lv_at hl 0 rfl) ?_
  refine va_get (D := (dC, dI)) (ci := 10) (v := .ref h1) (C := RX10) (T := TX10) (N := 40) hx hb htb inG10 hown hK hP 0 rfl rfl 1 (by decide) (htb _ mF_X10_13) (fun _ h9 => h9) rfl dX10_laysFire_8 ?_
  refine lv_bipush (v := 46) hx hb dX10_laysFire_11 (by decide) ?_
  refine lv_iload_n hx hb dX10_laysFire_13 rfl (lv_at hl 2 rfl) ?_
  refine lv_iadd hx hb dX10_laysFire_14 ?_
  obtain ⟨b_1, hf⟩ := og_some hf
  refine va_iald hx hb hK hP 1 0 rfl rfl (vb_ok b_1) dX10_laysFire_15 ?_
  obtain ⟨o_2, ho_2, hf⟩ := ob_some hf
  refine ca_V (As := [.int a1, .int a2, .int a3, .int a4, .int (0 : Int32), .int (v_all ((46 : Int32) + a2).toNatClampNeg)]) (rest := []) (wr := []) (wn := [(h0, .inr (10, [.int v_thrown, .ref h1, g_hasImage, g_tape, g_fresh, .int v_taped, .int v_at, .int v_behind, .int v_size, .int v_kind, .int v_number, .int v_wrong, .int v_wrongAt, .int v_faultKind, .int v_faultPlace, .ref h3, .ref h2, .ref h5, .ref h4, g_touches, g_kept, .int v_why, g_pairs, g_few, g_freeOf, g_quarterOf, g_bestOf, g_areApart, .int v_fewMany, .int v_bestLatest, .int v_bestSum, g_sootFor, .int v_alwaysLit, .int v_theDay, g_goodIn, .int v_goodSome, g_hadSmoke, g_rowSort, g_rowMany, g_numbers])), (h1, .inl (q0, 486, .inl v_all)), (h2, .inl (q1, 48, .inl v_highs)), (h3, .inl (q2, 48, .inl v_lows)), (h4, .inl (q3, 132, .inl o_2.1)), (h5, .inl (q4, 7128, .inl o_2.2))]) ⟨hx, hb, hml, hown, hts⟩ (ctX10_laysPuffs l dC dI F H.size h0 h1 h2 h3 h4 h5 q0 q1 q2 q3 q4 v_thrown (g_hasImage) (g_tape) (g_fresh) v_taped v_at v_behind v_size v_kind v_number v_wrong v_wrongAt v_faultKind v_faultPlace (g_touches) (g_kept) v_why (g_pairs) (g_few) (g_freeOf) (g_quarterOf) (g_bestOf) (g_areApart) v_fewMany v_bestLatest v_bestSum (g_sootFor) v_alwaysLit v_theDay (g_goodIn) v_goodSome (g_hadSmoke) (g_rowSort) (g_rowMany) (g_numbers) v_all v_highs v_lows v_puffMany v_puffsOf a1 a2 a3 a4 (0 : Int32) (v_all ((46 : Int32) + a2).toNatClampNeg) o_2 ho_2) ⟨mC_X10_laysPuffs, mN_X10, md_X10_laysPuffs, ⟨rfl, rfl⟩, ⟨Nat.le_of_ble_eq_true rfl, Nat.le_of_ble_eq_true rfl⟩⟩ mM_X10_189 mI_X10_laysPuffs mS_X10_laysPuffs hK hN hP hD hS hA [0, 1, 2, 3, 4] [0, 1, 2, 3, 4, 5] [] [0, 1, 2, 3, 4, 5] rfl rfl rfl ⟨by decide, by decide, by decide, by decide⟩ rfl 0 10 rfl rfl rfl hl.1 (Nat.le_of_ble_eq_true rfl) ⟨Nat.zero_le _, Nat.zero_le _⟩ dX10_laysFire_16 (fun H locs hP hD hS => ?_)
  obtain rfl := Option.some.inj hf
  exact hRet H locs ls 19 hP hD hS dX10_laysFire_19
def fX10_puffIn (F : Nat) (v_puffsOf : Nat → Int32) (a1 : Int32) (a2 : Int32) : Option (Int32) := og (vb (((54 : Int32) * a1) + a2) 7128) (some (v_puffsOf (((54 : Int32) * a1) + a2).toNatClampNeg))
set_option maxRecDepth 100000 in
set_option maxHeartbeats 4000000 in
theorem ctX10_puffIn (l : Launch) (dC : Nat → ClassId) (dI : Nat → Nat → Nat) (F sz : Nat) (h0 h1 : Nat) (q0 : ClassId) (v_thrown : Int32) (g_all : Value) (g_hasImage : Value) (g_tape : Value) (g_fresh : Value) (v_taped : Int32) (v_at : Int32) (v_behind : Int32) (v_size : Int32) (v_kind : Int32) (v_number : Int32) (v_wrong : Int32) (v_wrongAt : Int32) (v_faultKind : Int32) (v_faultPlace : Int32) (g_lows : Value) (g_highs : Value) (g_puffMany : Value) (g_touches : Value) (g_kept : Value) (v_why : Int32) (g_pairs : Value) (g_few : Value) (g_freeOf : Value) (g_quarterOf : Value) (g_bestOf : Value) (g_areApart : Value) (v_fewMany : Int32) (v_bestLatest : Int32) (v_bestSum : Int32) (g_sootFor : Value) (v_alwaysLit : Int32) (v_theDay : Int32) (g_goodIn : Value) (v_goodSome : Int32) (g_hadSmoke : Value) (g_rowSort : Value) (g_rowMany : Value) (g_numbers : Value) (v_puffsOf : Nat → Int32) (a1 : Int32) (a2 : Int32) (out : Int32) (hf : fX10_puffIn F v_puffsOf a1 a2 = some out) : cM l yX10_puffIn cX10_puffIn 3 (some .int) ({ frames := 0, cells := 0, slots := 0, locals := 0 } : Room) (dC, dI) [(q0, .int)] [(h0, .inr (10, [.int v_thrown, g_all, g_hasImage, g_tape, g_fresh, .int v_taped, .int v_at, .int v_behind, .int v_size, .int v_kind, .int v_number, .int v_wrong, .int v_wrongAt, .int v_faultKind, .int v_faultPlace, g_lows, g_highs, .ref h1, g_puffMany, g_touches, g_kept, .int v_why, g_pairs, g_few, g_freeOf, g_quarterOf, g_bestOf, g_areApart, .int v_fewMany, .int v_bestLatest, .int v_bestSum, g_sootFor, .int v_alwaysLit, .int v_theDay, g_goodIn, .int v_goodSome, g_hadSmoke, g_rowSort, g_rowMany, g_numbers])), (h1, .inl (q0, 7128, .inl v_puffsOf))] [.ref h0, .int a1, .int a2] sz (some (.int out)) [(h0, .inr (10, [.int v_thrown, g_all, g_hasImage, g_tape, g_fresh, .int v_taped, .int v_at, .int v_behind, .int v_size, .int v_kind, .int v_number, .int v_wrong, .int v_wrongAt, .int v_faultKind, .int v_faultPlace, g_lows, g_highs, .ref h1, g_puffMany, g_touches, g_kept, .int v_why, g_pairs, g_few, g_freeOf, g_quarterOf, g_bestOf, g_areApart, .int v_fewMany, .int v_bestLatest, .int v_bestSum, g_sootFor, .int v_alwaysLit, .int v_theDay, g_goodIn, .int v_goodSome, g_hadSmoke, g_rowSort, g_rowMany, g_numbers])), (h1, .inl (q0, 7128, .inl v_puffsOf))] := by
  refine cM_I RX10 ⟨by decide, rfl⟩ (Nat.le_of_ble_eq_true rfl) ?_
  intro p e s m below meth c A Q ls hx hb hml hown hts hK hN hA hP hD hS hl hRet
  have htb : ∀ w ∈ lw_g, w.before ([.ref h0, .int a1, .int a2] : List Value).toArray s = true := fun w h => hts w (List.mem_cons_of_mem _ h)
  have hl : lv_has ls 3 [(0, .ref h0), (1, .int a1), (2, .int a2)] := hl
  suffices K0 : ∀ (H : Heap) (locs : List Loc), va_P (dC, dI) vwCl [(h0, .inr (10, [.int v_thrown, g_all, g_hasImage, g_tape, g_fresh, .int v_taped, .int v_at, .int v_behind, .int v_size, .int v_kind, .int v_number, .int v_wrong, .int v_wrongAt, .int v_faultKind, .int v_faultPlace, g_lows, g_highs, .ref h1, g_puffMany, g_touches, g_kept, .int v_why, g_pairs, g_few, g_freeOf, g_quarterOf, g_bestOf, g_areApart, .int v_fewMany, .int v_bestLatest, .int v_bestSum, g_sootFor, .int v_alwaysLit, .int v_theDay, g_goodIn, .int v_goodSome, g_hadSmoke, g_rowSort, g_rowMany, g_numbers])), (h1, .inl (q0, 7128, .inl v_puffsOf))] H → va_D A [(h0, .inr (10, [.int v_thrown, g_all, g_hasImage, g_tape, g_fresh, .int v_taped, .int v_at, .int v_behind, .int v_size, .int v_kind, .int v_number, .int v_wrong, .int v_wrongAt, .int v_faultKind, .int v_faultPlace, g_lows, g_highs, .ref h1, g_puffMany, g_touches, g_kept, .int v_why, g_pairs, g_few, g_freeOf, g_quarterOf, g_bestOf, g_areApart, .int v_fewMany, .int v_bestLatest, .int v_bestSum, g_sootFor, .int v_alwaysLit, .int v_theDay, g_goodIn, .int v_goodSome, g_hadSmoke, g_rowSort, g_rowMany, g_numbers])), (h1, .inl (q0, 7128, .inl v_puffsOf))] → va_S A s.heap H locs → W p l e ({ frames := 0, cells := 0, slots := 0, locals := 0 } : Room) s m ([.ref h0, .int a1, .int a2] : List Value).toArray below meth c H locs 0 0 Q (F0 m 0 ls []) from K0 s.heap [] hP hD hS
  clear hP hD hS
  intro H locs hP hD hS
  unfold fX10_puffIn at hf
  refine lv_aload_n hx hb dX10_puffIn_0 rfl (lv_at hl 0 rfl) ?_
  refine va_get (D := (dC, dI)) (ci := 10) (v := .ref h1) (C := RX10) (T := TX10) (N := 40) hx hb htb inG10 hown hK hP 0 rfl rfl 17 (by decide) (htb _ mF_X10_36) (fun _ h9 => h9) rfl dX10_puffIn_1 ?_
  refine lv_bipush (v := 54) hx hb dX10_puffIn_4 (by decide) ?_
  refine lv_iload_n hx hb dX10_puffIn_6 rfl (lv_at hl 1 rfl) ?_
  refine lv_imul hx hb dX10_puffIn_7 ?_
  refine lv_iload_n hx hb dX10_puffIn_8 rfl (lv_at hl 2 rfl) ?_
  refine lv_iadd hx hb dX10_puffIn_9 ?_
  obtain ⟨b_1, hf⟩ := og_some hf
  refine va_iald hx hb hK hP 1 0 rfl rfl (vb_ok b_1) dX10_puffIn_10 ?_
  obtain rfl := Option.some.inj hf
  exact hRet H locs ls 11 hP hD hS rfl dX10_puffIn_11
def fX10_meet (F : Nat)  (a0 : Int32) (a1 : Int32) (a2 : Int32) : Option (Int32) := if (a0 / (10 : Int32)) = (a1 / (10 : Int32)) then (if (a0 - a0 / (10 : Int32) * (10 : Int32)) < a2 then (some (0 : Int32)) else (if (a1 - a1 / (10 : Int32) * (10 : Int32)) < a2 then (some (0 : Int32)) else (some (1 : Int32)))) else (some (0 : Int32))
set_option maxRecDepth 100000 in
set_option maxHeartbeats 4000000 in
theorem ctX10_meet (l : Launch) (dC : Nat → ClassId) (dI : Nat → Nat → Nat) (F sz : Nat)  (a0 : Int32) (a1 : Int32) (a2 : Int32) (out : Int32) (hf : fX10_meet F a0 a1 a2 = some out) : cM l yX10_meet cX10_meet 3 (some .boolean) ({ frames := 0, cells := 0, slots := 0, locals := 0 } : Room) (dC, dI) [] [] [.int a0, .int a1, .int a2] sz (some (.int out)) [] := by
  refine cM_I RX10 ⟨by decide, rfl⟩ (Nat.le_of_ble_eq_true rfl) ?_
  intro p e s m below meth c A Q ls hx hb hml hown hts hK hN hA hP hD hS hl hRet
  have htb : ∀ w ∈ lw_g, w.before ([.int a0, .int a1, .int a2] : List Value).toArray s = true := fun w h => hts w (List.mem_cons_of_mem _ h)
  have hl : lv_has ls 3 [(0, .int a0), (1, .int a1), (2, .int a2)] := hl
  suffices K0 : ∀ (H : Heap) (locs : List Loc), va_P (dC, dI) vwCl [] H → va_D A [] → va_S A s.heap H locs → W p l e ({ frames := 0, cells := 0, slots := 0, locals := 0 } : Room) s m ([.int a0, .int a1, .int a2] : List Value).toArray below meth c H locs 0 0 Q (F0 m 0 ls []) from K0 s.heap [] hP hD hS
  clear hP hD hS
  intro H locs hP hD hS
  unfold fX10_meet at hf
  refine lv_iload_n hx hb dX10_meet_0 rfl (lv_at hl 0 rfl) ?_
  refine lv_bipush (v := 10) hx hb dX10_meet_1 (by decide) ?_
  refine lv_idiv hx hb dX10_meet_3 (by decide) ?_
  refine lv_iload_n hx hb dX10_meet_4 rfl (lv_at hl 1 rfl) ?_
  refine lv_bipush (v := 10) hx hb dX10_meet_5 (by decide) ?_
  refine lv_idiv hx hb dX10_meet_7 (by decide) ?_
  refine lv_icmp_ne (tgt := 31) hx hb dX10_meet_8 (by decide) (fun c_1 => ?_) (fun c_1 => ?_)
  · have hf := oi_f hf c_1
    refine lv_iconst (v := 0) hx hb dX10_meet_31 (by decide) ?_
    obtain rfl := Option.some.inj hf
    exact hRet H locs ls 32 hP hD hS nar0 dX10_meet_32
  · have hf := oi_t hf c_1
    refine lv_iload_n hx hb dX10_meet_11 rfl (lv_at hl 0 rfl) ?_
    refine lv_bipush (v := 10) hx hb dX10_meet_12 (by decide) ?_
    refine lv_irem hx hb dX10_meet_14 (by decide) ?_
    refine lv_iload_n hx hb dX10_meet_15 rfl (lv_at hl 2 rfl) ?_
    refine lv_icmp_lt (tgt := 31) hx hb dX10_meet_16 (by decide) (fun c_2 => ?_) (fun c_2 => ?_)
    · have hf := oi_t hf c_2
      refine lv_iconst (v := 0) hx hb dX10_meet_31 (by decide) ?_
      obtain rfl := Option.some.inj hf
      exact hRet H locs ls 32 hP hD hS nar0 dX10_meet_32
    · have hf := oi_f hf c_2
      refine lv_iload_n hx hb dX10_meet_19 rfl (lv_at hl 1 rfl) ?_
      refine lv_bipush (v := 10) hx hb dX10_meet_20 (by decide) ?_
      refine lv_irem hx hb dX10_meet_22 (by decide) ?_
      refine lv_iload_n hx hb dX10_meet_23 rfl (lv_at hl 2 rfl) ?_
      refine lv_icmp_lt (tgt := 31) hx hb dX10_meet_24 (by decide) (fun c_3 => ?_) (fun c_3 => ?_)
      · have hf := oi_t hf c_3
        refine lv_iconst (v := 0) hx hb dX10_meet_31 (by decide) ?_
        obtain rfl := Option.some.inj hf
        exact hRet H locs ls 32 hP hD hS nar0 dX10_meet_32
      · have hf := oi_f hf c_3
        refine lv_iconst (v := 1) hx hb dX10_meet_27 (by decide) ?_
        refine lv_goto (tgt := 32) hx hb dX10_meet_28 (by decide) ?_
        obtain rfl := Option.some.inj hf
        exact hRet H locs ls 32 hP hD hS nar1 dX10_meet_32
def fX10_areTouching_L17 (F : Nat) (v_puffMany : Nat → Int32) (v_puffsOf : Nat → Int32) (a1 : Int32) (a2 : Int32) (a3 : Int32) (k3 : Int32 → Option (Int32)) : Nat → Int32 → Int32 → Option (Int32)
  | 0, _, _ => none
  | n + 1, x4, x5 => og (vb a2 132) (if (v_puffMany a2.toNatClampNeg) ≤ x5 then (ol (x4 + 1) (fun x4_3 => k3 x4_3)) else (ob (fX10_puffIn F v_puffsOf a1 x4) (fun o_4 => ob (fX10_puffIn F v_puffsOf a2 x5) (fun o_5 => ob (fX10_meet F o_4 o_5 a3) (fun o_6 => if o_6 = 0 then (ol (x5 + 1) (fun x5_8 => fX10_areTouching_L17 F v_puffMany v_puffsOf a1 a2 a3 k3 n x4 x5_8)) else (some (1 : Int32)))))))
def fX10_areTouching_L3 (F : Nat) (v_puffMany : Nat → Int32) (v_puffsOf : Nat → Int32) (a1 : Int32) (a2 : Int32) (a3 : Int32) : Nat → Int32 → Option (Int32)
  | 0, _ => none
  | n + 1, x4 => og (vb a1 132) (if (v_puffMany a1.toNatClampNeg) ≤ x4 then (some (0 : Int32)) else (fX10_areTouching_L17 F v_puffMany v_puffsOf a1 a2 a3 (fun x4 => fX10_areTouching_L3 F v_puffMany v_puffsOf a1 a2 a3 n x4) F x4 (0 : Int32)))
def fX10_areTouching (F : Nat) (v_puffMany : Nat → Int32) (v_puffsOf : Nat → Int32) (a1 : Int32) (a2 : Int32) (a3 : Int32) : Option (Int32) := fX10_areTouching_L3 F v_puffMany v_puffsOf a1 a2 a3 F (0 : Int32)
set_option maxRecDepth 100000 in
set_option maxHeartbeats 4000000 in
theorem ctX10_areTouching (l : Launch) (dC : Nat → ClassId) (dI : Nat → Nat → Nat) (F sz : Nat) (h0 h1 h2 : Nat) (q0 q1 : ClassId) (v_thrown : Int32) (g_all : Value) (g_hasImage : Value) (g_tape : Value) (g_fresh : Value) (v_taped : Int32) (v_at : Int32) (v_behind : Int32) (v_size : Int32) (v_kind : Int32) (v_number : Int32) (v_wrong : Int32) (v_wrongAt : Int32) (v_faultKind : Int32) (v_faultPlace : Int32) (g_lows : Value) (g_highs : Value) (g_touches : Value) (g_kept : Value) (v_why : Int32) (g_pairs : Value) (g_few : Value) (g_freeOf : Value) (g_quarterOf : Value) (g_bestOf : Value) (g_areApart : Value) (v_fewMany : Int32) (v_bestLatest : Int32) (v_bestSum : Int32) (g_sootFor : Value) (v_alwaysLit : Int32) (v_theDay : Int32) (g_goodIn : Value) (v_goodSome : Int32) (g_hadSmoke : Value) (g_rowSort : Value) (g_rowMany : Value) (g_numbers : Value) (v_puffMany : Nat → Int32) (v_puffsOf : Nat → Int32) (a1 : Int32) (a2 : Int32) (a3 : Int32) (out : Int32) (hf : fX10_areTouching F v_puffMany v_puffsOf a1 a2 a3 = some out) : cM l yX10_areTouching cX10_areTouching 6 (some .boolean) ({ frames := 1, cells := 0, slots := 0, locals := 22 } : Room) (dC, dI) [(q0, .int), (q1, .int)] [(h0, .inr (10, [.int v_thrown, g_all, g_hasImage, g_tape, g_fresh, .int v_taped, .int v_at, .int v_behind, .int v_size, .int v_kind, .int v_number, .int v_wrong, .int v_wrongAt, .int v_faultKind, .int v_faultPlace, g_lows, g_highs, .ref h2, .ref h1, g_touches, g_kept, .int v_why, g_pairs, g_few, g_freeOf, g_quarterOf, g_bestOf, g_areApart, .int v_fewMany, .int v_bestLatest, .int v_bestSum, g_sootFor, .int v_alwaysLit, .int v_theDay, g_goodIn, .int v_goodSome, g_hadSmoke, g_rowSort, g_rowMany, g_numbers])), (h1, .inl (q0, 132, .inl v_puffMany)), (h2, .inl (q1, 7128, .inl v_puffsOf))] [.ref h0, .int a1, .int a2, .int a3] sz (some (.int out)) [(h0, .inr (10, [.int v_thrown, g_all, g_hasImage, g_tape, g_fresh, .int v_taped, .int v_at, .int v_behind, .int v_size, .int v_kind, .int v_number, .int v_wrong, .int v_wrongAt, .int v_faultKind, .int v_faultPlace, g_lows, g_highs, .ref h2, .ref h1, g_touches, g_kept, .int v_why, g_pairs, g_few, g_freeOf, g_quarterOf, g_bestOf, g_areApart, .int v_fewMany, .int v_bestLatest, .int v_bestSum, g_sootFor, .int v_alwaysLit, .int v_theDay, g_goodIn, .int v_goodSome, g_hadSmoke, g_rowSort, g_rowMany, g_numbers])), (h1, .inl (q0, 132, .inl v_puffMany)), (h2, .inl (q1, 7128, .inl v_puffsOf))] := by
  refine cM_I RX10 ⟨by decide, rfl⟩ (Nat.le_of_ble_eq_true rfl) ?_
  intro p e s m below meth c A Q ls hx hb hml hown hts hK hN hA hP hD hS hl hRet
  have htb : ∀ w ∈ lw_g, w.before ([.ref h0, .int a1, .int a2, .int a3] : List Value).toArray s = true := fun w h => hts w (List.mem_cons_of_mem _ h)
  have hl : lv_has ls 6 [(0, .ref h0), (1, .int a1), (2, .int a2), (3, .int a3)] := hl
  have L17 : ∀ (k3 : Int32 → Option (Int32)) (hk3 : ∀ (H : Heap) (locs : List Loc) (ls : Array Slot) (x4 : Int32), va_P (dC, dI) vwCl [(h0, .inr (10, [.int v_thrown, g_all, g_hasImage, g_tape, g_fresh, .int v_taped, .int v_at, .int v_behind, .int v_size, .int v_kind, .int v_number, .int v_wrong, .int v_wrongAt, .int v_faultKind, .int v_faultPlace, g_lows, g_highs, .ref h2, .ref h1, g_touches, g_kept, .int v_why, g_pairs, g_few, g_freeOf, g_quarterOf, g_bestOf, g_areApart, .int v_fewMany, .int v_bestLatest, .int v_bestSum, g_sootFor, .int v_alwaysLit, .int v_theDay, g_goodIn, .int v_goodSome, g_hadSmoke, g_rowSort, g_rowMany, g_numbers])), (h1, .inl (q0, 132, .inl v_puffMany)), (h2, .inl (q1, 7128, .inl v_puffsOf))] H → va_D A [(h0, .inr (10, [.int v_thrown, g_all, g_hasImage, g_tape, g_fresh, .int v_taped, .int v_at, .int v_behind, .int v_size, .int v_kind, .int v_number, .int v_wrong, .int v_wrongAt, .int v_faultKind, .int v_faultPlace, g_lows, g_highs, .ref h2, .ref h1, g_touches, g_kept, .int v_why, g_pairs, g_few, g_freeOf, g_quarterOf, g_bestOf, g_areApart, .int v_fewMany, .int v_bestLatest, .int v_bestSum, g_sootFor, .int v_alwaysLit, .int v_theDay, g_goodIn, .int v_goodSome, g_hadSmoke, g_rowSort, g_rowMany, g_numbers])), (h1, .inl (q0, 132, .inl v_puffMany)), (h2, .inl (q1, 7128, .inl v_puffsOf))] → va_S A s.heap H locs → lv_has ls 6 [(0, .ref h0), (1, .int a1), (2, .int a2), (3, .int a3), (4, .int x4)] → k3 x4 = some out → W p l e ({ frames := 1, cells := 0, slots := 0, locals := 22 } : Room) s m ([.ref h0, .int a1, .int a2, .int a3] : List Value).toArray below meth c H locs 0 0 Q (F0 m 3 ls [])), ∀ (n : Nat), ∀ (H : Heap) (locs : List Loc) (ls : Array Slot) (x4 : Int32) (x5 : Int32), va_P (dC, dI) vwCl [(h0, .inr (10, [.int v_thrown, g_all, g_hasImage, g_tape, g_fresh, .int v_taped, .int v_at, .int v_behind, .int v_size, .int v_kind, .int v_number, .int v_wrong, .int v_wrongAt, .int v_faultKind, .int v_faultPlace, g_lows, g_highs, .ref h2, .ref h1, g_touches, g_kept, .int v_why, g_pairs, g_few, g_freeOf, g_quarterOf, g_bestOf, g_areApart, .int v_fewMany, .int v_bestLatest, .int v_bestSum, g_sootFor, .int v_alwaysLit, .int v_theDay, g_goodIn, .int v_goodSome, g_hadSmoke, g_rowSort, g_rowMany, g_numbers])), (h1, .inl (q0, 132, .inl v_puffMany)), (h2, .inl (q1, 7128, .inl v_puffsOf))] H → va_D A [(h0, .inr (10, [.int v_thrown, g_all, g_hasImage, g_tape, g_fresh, .int v_taped, .int v_at, .int v_behind, .int v_size, .int v_kind, .int v_number, .int v_wrong, .int v_wrongAt, .int v_faultKind, .int v_faultPlace, g_lows, g_highs, .ref h2, .ref h1, g_touches, g_kept, .int v_why, g_pairs, g_few, g_freeOf, g_quarterOf, g_bestOf, g_areApart, .int v_fewMany, .int v_bestLatest, .int v_bestSum, g_sootFor, .int v_alwaysLit, .int v_theDay, g_goodIn, .int v_goodSome, g_hadSmoke, g_rowSort, g_rowMany, g_numbers])), (h1, .inl (q0, 132, .inl v_puffMany)), (h2, .inl (q1, 7128, .inl v_puffsOf))] → va_S A s.heap H locs → lv_has ls 6 [(0, .ref h0), (1, .int a1), (2, .int a2), (3, .int a3), (4, .int x4), (5, .int x5)] → fX10_areTouching_L17 F v_puffMany v_puffsOf a1 a2 a3 k3 n x4 x5 = some out → W p l e ({ frames := 1, cells := 0, slots := 0, locals := 22 } : Room) s m ([.ref h0, .int a1, .int a2, .int a3] : List Value).toArray below meth c H locs 0 0 Q (F0 m 17 ls []) := by
    intro k3 hk3
    intro n
    induction n with
    | zero =>
      intro H locs ls x4 x5 hP hD hS hl hf
      cases hf
    | succ n ih =>
      intro H locs ls x4 x5 hP hD hS hl hf
      rw [fX10_areTouching_L17] at hf
      refine lv_iload hx hb dX10_areTouching_17 (lv_at hl 5 rfl) ?_
      refine lv_aload_n hx hb dX10_areTouching_19 rfl (lv_at hl 0 rfl) ?_
      refine va_get (D := (dC, dI)) (ci := 10) (v := .ref h1) (C := RX10) (T := TX10) (N := 40) hx hb htb inG10 hown hK hP 0 rfl rfl 18 (by decide) (htb _ mF_X10_39) (fun _ h9 => h9) rfl dX10_areTouching_20 ?_
      refine lv_iload_n hx hb dX10_areTouching_23 rfl (lv_at hl 2 rfl) ?_
      obtain ⟨b_1, hf⟩ := og_some hf
      refine va_iald hx hb hK hP 1 0 rfl rfl (vb_ok b_1) dX10_areTouching_24 ?_
      refine lv_icmp_ge (tgt := 57) hx hb dX10_areTouching_25 (by decide) (fun c_2 => ?_) (fun c_2 => ?_)
      · have hf := oi_t hf c_2
        obtain ⟨x4_3, ex4_3⟩ : ∃ y : Int32, y = x4 + 1 := ⟨_, rfl⟩
        refine lv_iinc (v := x4_3) (lv' := [(4, .int x4_3), (0, .ref h0), (1, .int a1), (2, .int a2), (3, .int a3), (5, .int x5)]) hx hb dX10_areTouching_57 hl (k := 4) rfl (by rw [ex4_3]; rfl) (by decide) rfl (fun ls hl => ?_)
        have hf := ol_some hf ex4_3
        refine lv_goto (tgt := 3) hx hb dX10_areTouching_60 (by decide) ?_
        exact hk3 H locs ls x4_3 hP hD hS (lv_sub hl [1, 2, 3, 4, 0] rfl) hf
      · have hf := oi_f hf c_2
        refine lv_aload_n hx hb dX10_areTouching_28 rfl (lv_at hl 0 rfl) ?_
        refine lv_iload_n hx hb dX10_areTouching_29 rfl (lv_at hl 1 rfl) ?_
        refine lv_iload hx hb dX10_areTouching_30 (lv_at hl 4 rfl) ?_
        obtain ⟨o_4, ho_4, hf⟩ := ob_some hf
        refine ca_V (As := [.int a1, .int x4]) (rest := []) (wr := [(h1, .inl (q0, 132, .inl v_puffMany))]) (wn := [(h0, .inr (10, [.int v_thrown, g_all, g_hasImage, g_tape, g_fresh, .int v_taped, .int v_at, .int v_behind, .int v_size, .int v_kind, .int v_number, .int v_wrong, .int v_wrongAt, .int v_faultKind, .int v_faultPlace, g_lows, g_highs, .ref h2, .ref h1, g_touches, g_kept, .int v_why, g_pairs, g_few, g_freeOf, g_quarterOf, g_bestOf, g_areApart, .int v_fewMany, .int v_bestLatest, .int v_bestSum, g_sootFor, .int v_alwaysLit, .int v_theDay, g_goodIn, .int v_goodSome, g_hadSmoke, g_rowSort, g_rowMany, g_numbers])), (h1, .inl (q0, 132, .inl v_puffMany)), (h2, .inl (q1, 7128, .inl v_puffsOf))]) ⟨hx, hb, hml, hown, hts⟩ (ctX10_puffIn l dC dI F H.size h0 h2 q1 v_thrown (g_all) (g_hasImage) (g_tape) (g_fresh) v_taped v_at v_behind v_size v_kind v_number v_wrong v_wrongAt v_faultKind v_faultPlace (g_lows) (g_highs) (.ref h1) (g_touches) (g_kept) v_why (g_pairs) (g_few) (g_freeOf) (g_quarterOf) (g_bestOf) (g_areApart) v_fewMany v_bestLatest v_bestSum (g_sootFor) v_alwaysLit v_theDay (g_goodIn) v_goodSome (g_hadSmoke) (g_rowSort) (g_rowMany) (g_numbers) v_puffsOf a1 x4 o_4 ho_4) ⟨mC_X10_puffIn, mN_X10, md_X10_puffIn, ⟨rfl, rfl⟩, ⟨Nat.le_of_ble_eq_true rfl, Nat.le_of_ble_eq_true rfl⟩⟩ mM_X10_195 mI_X10_puffIn mS_X10_puffIn hK hN hP hD hS hA [1] [0, 2] [1] [1, 0, 2] rfl rfl rfl ⟨by decide, by decide, by decide, by decide⟩ rfl 0 10 rfl rfl rfl hl.1 (Nat.le_of_ble_eq_true rfl) ⟨Nat.zero_le _, Nat.zero_le _⟩ dX10_areTouching_32 (fun H locs hP hD hS => ?_)
        refine lv_aload_n hx hb dX10_areTouching_35 rfl (lv_at hl 0 rfl) ?_
        refine lv_iload_n hx hb dX10_areTouching_36 rfl (lv_at hl 2 rfl) ?_
        refine lv_iload hx hb dX10_areTouching_37 (lv_at hl 5 rfl) ?_
        obtain ⟨o_5, ho_5, hf⟩ := ob_some hf
        refine ca_V (As := [.int a2, .int x5]) (rest := [.int o_4]) (wr := [(h1, .inl (q0, 132, .inl v_puffMany))]) (wn := [(h0, .inr (10, [.int v_thrown, g_all, g_hasImage, g_tape, g_fresh, .int v_taped, .int v_at, .int v_behind, .int v_size, .int v_kind, .int v_number, .int v_wrong, .int v_wrongAt, .int v_faultKind, .int v_faultPlace, g_lows, g_highs, .ref h2, .ref h1, g_touches, g_kept, .int v_why, g_pairs, g_few, g_freeOf, g_quarterOf, g_bestOf, g_areApart, .int v_fewMany, .int v_bestLatest, .int v_bestSum, g_sootFor, .int v_alwaysLit, .int v_theDay, g_goodIn, .int v_goodSome, g_hadSmoke, g_rowSort, g_rowMany, g_numbers])), (h1, .inl (q0, 132, .inl v_puffMany)), (h2, .inl (q1, 7128, .inl v_puffsOf))]) ⟨hx, hb, hml, hown, hts⟩ (ctX10_puffIn l dC dI F H.size h0 h2 q1 v_thrown (g_all) (g_hasImage) (g_tape) (g_fresh) v_taped v_at v_behind v_size v_kind v_number v_wrong v_wrongAt v_faultKind v_faultPlace (g_lows) (g_highs) (.ref h1) (g_touches) (g_kept) v_why (g_pairs) (g_few) (g_freeOf) (g_quarterOf) (g_bestOf) (g_areApart) v_fewMany v_bestLatest v_bestSum (g_sootFor) v_alwaysLit v_theDay (g_goodIn) v_goodSome (g_hadSmoke) (g_rowSort) (g_rowMany) (g_numbers) v_puffsOf a2 x5 o_5 ho_5) ⟨mC_X10_puffIn, mN_X10, md_X10_puffIn, ⟨rfl, rfl⟩, ⟨Nat.le_of_ble_eq_true rfl, Nat.le_of_ble_eq_true rfl⟩⟩ mM_X10_195 mI_X10_puffIn mS_X10_puffIn hK hN hP hD hS hA [1] [0, 2] [1] [1, 0, 2] rfl rfl rfl ⟨by decide, by decide, by decide, by decide⟩ rfl 0 10 rfl rfl rfl hl.1 (Nat.le_of_ble_eq_true rfl) ⟨Nat.zero_le _, Nat.zero_le _⟩ dX10_areTouching_39 (fun H locs hP hD hS => ?_)
        refine lv_iload_n hx hb dX10_areTouching_42 rfl (lv_at hl 3 rfl) ?_
        obtain ⟨o_6, ho_6, hf⟩ := ob_some hf
        refine ca_S (As := [.int o_4, .int o_5, .int a3]) (rest := []) (wr := [(h0, .inr (10, [.int v_thrown, g_all, g_hasImage, g_tape, g_fresh, .int v_taped, .int v_at, .int v_behind, .int v_size, .int v_kind, .int v_number, .int v_wrong, .int v_wrongAt, .int v_faultKind, .int v_faultPlace, g_lows, g_highs, .ref h2, .ref h1, g_touches, g_kept, .int v_why, g_pairs, g_few, g_freeOf, g_quarterOf, g_bestOf, g_areApart, .int v_fewMany, .int v_bestLatest, .int v_bestSum, g_sootFor, .int v_alwaysLit, .int v_theDay, g_goodIn, .int v_goodSome, g_hadSmoke, g_rowSort, g_rowMany, g_numbers])), (h1, .inl (q0, 132, .inl v_puffMany)), (h2, .inl (q1, 7128, .inl v_puffsOf))]) (wn := [(h0, .inr (10, [.int v_thrown, g_all, g_hasImage, g_tape, g_fresh, .int v_taped, .int v_at, .int v_behind, .int v_size, .int v_kind, .int v_number, .int v_wrong, .int v_wrongAt, .int v_faultKind, .int v_faultPlace, g_lows, g_highs, .ref h2, .ref h1, g_touches, g_kept, .int v_why, g_pairs, g_few, g_freeOf, g_quarterOf, g_bestOf, g_areApart, .int v_fewMany, .int v_bestLatest, .int v_bestSum, g_sootFor, .int v_alwaysLit, .int v_theDay, g_goodIn, .int v_goodSome, g_hadSmoke, g_rowSort, g_rowMany, g_numbers])), (h1, .inl (q0, 132, .inl v_puffMany)), (h2, .inl (q1, 7128, .inl v_puffsOf))]) ⟨hx, hb, hml, hown, hts⟩ (ctX10_meet l dC dI F H.size o_4 o_5 a3 o_6 ho_6) ⟨mC_X10_meet, mN_X10, md_X10_meet, ⟨rfl, rfl⟩, ⟨Nat.le_of_ble_eq_true rfl, Nat.le_of_ble_eq_true rfl⟩⟩ mM_X10_198 mT_X10_meet hK hN hP hD hS hA [] [] [0, 1, 2] [0, 1, 2] rfl rfl rfl ⟨by decide, by decide, by decide, by decide⟩ rfl rfl hl.1 (Nat.le_of_ble_eq_true rfl) ⟨Nat.zero_le _, Nat.zero_le _⟩ dX10_areTouching_43 (fun H locs hP hD hS => ?_)
        refine lv_if_eq (tgt := 51) hx hb dX10_areTouching_46 (by decide) (fun c_7 => ?_) (fun c_7 => ?_)
        · have hf := oi_t hf c_7
          obtain ⟨x5_8, ex5_8⟩ : ∃ y : Int32, y = x5 + 1 := ⟨_, rfl⟩
          refine lv_iinc (v := x5_8) (lv' := [(5, .int x5_8), (0, .ref h0), (1, .int a1), (2, .int a2), (3, .int a3), (4, .int x4)]) hx hb dX10_areTouching_51 hl (k := 5) rfl (by rw [ex5_8]; rfl) (by decide) rfl (fun ls hl => ?_)
          have hf := ol_some hf ex5_8
          refine lv_goto (tgt := 17) hx hb dX10_areTouching_54 (by decide) ?_
          exact ih H locs ls x4 x5_8 hP hD hS (lv_sub hl [1, 2, 3, 4, 5, 0] rfl) hf
        · have hf := oi_f hf c_7
          refine lv_iconst (v := 1) hx hb dX10_areTouching_49 (by decide) ?_
          obtain rfl := Option.some.inj hf
          exact hRet H locs ls 50 hP hD hS nar1 dX10_areTouching_50
  have L3 : ∀ (n : Nat), ∀ (H : Heap) (locs : List Loc) (ls : Array Slot) (x4 : Int32), va_P (dC, dI) vwCl [(h0, .inr (10, [.int v_thrown, g_all, g_hasImage, g_tape, g_fresh, .int v_taped, .int v_at, .int v_behind, .int v_size, .int v_kind, .int v_number, .int v_wrong, .int v_wrongAt, .int v_faultKind, .int v_faultPlace, g_lows, g_highs, .ref h2, .ref h1, g_touches, g_kept, .int v_why, g_pairs, g_few, g_freeOf, g_quarterOf, g_bestOf, g_areApart, .int v_fewMany, .int v_bestLatest, .int v_bestSum, g_sootFor, .int v_alwaysLit, .int v_theDay, g_goodIn, .int v_goodSome, g_hadSmoke, g_rowSort, g_rowMany, g_numbers])), (h1, .inl (q0, 132, .inl v_puffMany)), (h2, .inl (q1, 7128, .inl v_puffsOf))] H → va_D A [(h0, .inr (10, [.int v_thrown, g_all, g_hasImage, g_tape, g_fresh, .int v_taped, .int v_at, .int v_behind, .int v_size, .int v_kind, .int v_number, .int v_wrong, .int v_wrongAt, .int v_faultKind, .int v_faultPlace, g_lows, g_highs, .ref h2, .ref h1, g_touches, g_kept, .int v_why, g_pairs, g_few, g_freeOf, g_quarterOf, g_bestOf, g_areApart, .int v_fewMany, .int v_bestLatest, .int v_bestSum, g_sootFor, .int v_alwaysLit, .int v_theDay, g_goodIn, .int v_goodSome, g_hadSmoke, g_rowSort, g_rowMany, g_numbers])), (h1, .inl (q0, 132, .inl v_puffMany)), (h2, .inl (q1, 7128, .inl v_puffsOf))] → va_S A s.heap H locs → lv_has ls 6 [(0, .ref h0), (1, .int a1), (2, .int a2), (3, .int a3), (4, .int x4)] → fX10_areTouching_L3 F v_puffMany v_puffsOf a1 a2 a3 n x4 = some out → W p l e ({ frames := 1, cells := 0, slots := 0, locals := 22 } : Room) s m ([.ref h0, .int a1, .int a2, .int a3] : List Value).toArray below meth c H locs 0 0 Q (F0 m 3 ls []) := by
    intro n
    induction n with
    | zero =>
      intro H locs ls x4 hP hD hS hl hf
      cases hf
    | succ n ih =>
      intro H locs ls x4 hP hD hS hl hf
      rw [fX10_areTouching_L3] at hf
      refine lv_iload hx hb dX10_areTouching_3 (lv_at hl 4 rfl) ?_
      refine lv_aload_n hx hb dX10_areTouching_5 rfl (lv_at hl 0 rfl) ?_
      refine va_get (D := (dC, dI)) (ci := 10) (v := .ref h1) (C := RX10) (T := TX10) (N := 40) hx hb htb inG10 hown hK hP 0 rfl rfl 18 (by decide) (htb _ mF_X10_39) (fun _ h9 => h9) rfl dX10_areTouching_6 ?_
      refine lv_iload_n hx hb dX10_areTouching_9 rfl (lv_at hl 1 rfl) ?_
      obtain ⟨b_9, hf⟩ := og_some hf
      refine va_iald hx hb hK hP 1 0 rfl rfl (vb_ok b_9) dX10_areTouching_10 ?_
      refine lv_icmp_ge (tgt := 63) hx hb dX10_areTouching_11 (by decide) (fun c_10 => ?_) (fun c_10 => ?_)
      · have hf := oi_t hf c_10
        refine lv_iconst (v := 0) hx hb dX10_areTouching_63 (by decide) ?_
        obtain rfl := Option.some.inj hf
        exact hRet H locs ls 64 hP hD hS nar0 dX10_areTouching_64
      · have hf := oi_f hf c_10
        refine lv_iconst (v := 0) hx hb dX10_areTouching_14 (by decide) ?_
        refine lv_istore (lv' := [(5, .int (0 : Int32)), (0, .ref h0), (1, .int a1), (2, .int a2), (3, .int a3), (4, .int x4)]) hx hb dX10_areTouching_15 hl (by decide) rfl (fun ls hl => ?_)
        exact L17 (fun x4 => fX10_areTouching_L3 F v_puffMany v_puffsOf a1 a2 a3 n x4) ih F H locs ls x4 (0 : Int32) hP hD hS (lv_sub hl [1, 2, 3, 4, 5, 0] rfl) hf
  suffices K0 : ∀ (H : Heap) (locs : List Loc), va_P (dC, dI) vwCl [(h0, .inr (10, [.int v_thrown, g_all, g_hasImage, g_tape, g_fresh, .int v_taped, .int v_at, .int v_behind, .int v_size, .int v_kind, .int v_number, .int v_wrong, .int v_wrongAt, .int v_faultKind, .int v_faultPlace, g_lows, g_highs, .ref h2, .ref h1, g_touches, g_kept, .int v_why, g_pairs, g_few, g_freeOf, g_quarterOf, g_bestOf, g_areApart, .int v_fewMany, .int v_bestLatest, .int v_bestSum, g_sootFor, .int v_alwaysLit, .int v_theDay, g_goodIn, .int v_goodSome, g_hadSmoke, g_rowSort, g_rowMany, g_numbers])), (h1, .inl (q0, 132, .inl v_puffMany)), (h2, .inl (q1, 7128, .inl v_puffsOf))] H → va_D A [(h0, .inr (10, [.int v_thrown, g_all, g_hasImage, g_tape, g_fresh, .int v_taped, .int v_at, .int v_behind, .int v_size, .int v_kind, .int v_number, .int v_wrong, .int v_wrongAt, .int v_faultKind, .int v_faultPlace, g_lows, g_highs, .ref h2, .ref h1, g_touches, g_kept, .int v_why, g_pairs, g_few, g_freeOf, g_quarterOf, g_bestOf, g_areApart, .int v_fewMany, .int v_bestLatest, .int v_bestSum, g_sootFor, .int v_alwaysLit, .int v_theDay, g_goodIn, .int v_goodSome, g_hadSmoke, g_rowSort, g_rowMany, g_numbers])), (h1, .inl (q0, 132, .inl v_puffMany)), (h2, .inl (q1, 7128, .inl v_puffsOf))] → va_S A s.heap H locs → W p l e ({ frames := 1, cells := 0, slots := 0, locals := 22 } : Room) s m ([.ref h0, .int a1, .int a2, .int a3] : List Value).toArray below meth c H locs 0 0 Q (F0 m 0 ls []) from K0 s.heap [] hP hD hS
  clear hP hD hS
  intro H locs hP hD hS
  unfold fX10_areTouching at hf
  refine lv_iconst (v := 0) hx hb dX10_areTouching_0 (by decide) ?_
  refine lv_istore (lv' := [(4, .int (0 : Int32)), (0, .ref h0), (1, .int a1), (2, .int a2), (3, .int a3)]) hx hb dX10_areTouching_1 hl (by decide) rfl (fun ls hl => ?_)
  exact L3 F H locs ls (0 : Int32) hP hD hS (lv_sub hl [1, 2, 3, 4, 0] rfl) hf
