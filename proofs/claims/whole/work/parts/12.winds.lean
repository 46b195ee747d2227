def fX8_drawFrom_L4 (F : Nat) (a1 : Int32) : Nat → Int32 → Int32 → (Nat → Int32) → (Nat → Int32) → Option ((Nat → Int32) × (Nat → Int32))
  | 0, _, _, _, _ => none
  | n + 1, x2, x3, v_highs, v_lows => if (48 : Int32) ≤ x3 then (some (v_highs, v_lows)) else (ol (((1103515245 : Int32) * x2) + (12345 : Int32)) (fun x_2 => og (vb x3 48) (ol (upd v_lows x3.toNatClampNeg ((((x_2).toUInt32 >>> (((16 : Int32) : Int32).toUInt32 &&& Int32.toUInt32 31)).toInt32) - (((x_2).toUInt32 >>> (((16 : Int32) : Int32).toUInt32 &&& Int32.toUInt32 31)).toInt32) / (7 : Int32) * (7 : Int32))) (fun v_lows_4 => ol (((1103515245 : Int32) * x_2) + (12345 : Int32)) (fun x_5 => og (vb x3 48) (ol (upd v_highs x3.toNatClampNeg ((((x_5).toUInt32 >>> (((16 : Int32) : Int32).toUInt32 &&& Int32.toUInt32 31)).toInt32) - (((x_5).toUInt32 >>> (((16 : Int32) : Int32).toUInt32 &&& Int32.toUInt32 31)).toInt32) / (7 : Int32) * (7 : Int32))) (fun v_highs_7 => ol (x3 + 1) (fun x3_8 => fX8_drawFrom_L4 F a1 n x_5 x3_8 v_highs_7 v_lows_4))))))))
def fX8_drawFrom (F : Nat) (v_highs : Nat → Int32) (v_lows : Nat → Int32) (a1 : Int32) : Option ((Nat → Int32) × (Nat → Int32)) := fX8_drawFrom_L4 F a1 F a1 (0 : Int32) v_highs v_lows
set_option maxRecDepth 100000 in
set_option maxHeartbeats 4000000 in
theorem ctX8_drawFrom (l : Launch) (dC : Nat → ClassId) (dI : Nat → Nat → Nat) (F sz : Nat) (h0 h1 h2 : Nat) (q0 q1 : ClassId) (v_highs : Nat → Int32) (v_lows : Nat → Int32) (a1 : Int32) (out : (Nat → Int32) × (Nat → Int32)) (hf : fX8_drawFrom F v_highs v_lows a1 = some out)  : cM l yX8_drawFrom cX8_drawFrom 4 none ({ frames := 0, cells := 0, slots := 0, locals := 0 } : Room) (dC, dI) [(q0, .int), (q1, .int)] [(h0, .inr (8, [.ref h2, .ref h1])), (h1, .inl (q0, 48, .inl v_highs)), (h2, .inl (q1, 48, .inl v_lows))] [.ref h0, .int a1] sz none [(h0, .inr (8, [.ref h2, .ref h1])), (h1, .inl (q0, 48, .inl out.1)), (h2, .inl (q1, 48, .inl out.2))] := by
  refine cM_V RX8 ⟨by decide, rfl⟩ (Nat.le_of_ble_eq_true rfl) ?_
  intro p e s m below meth c A Q ls hx hb hml hown hts hK hN hA hP hD hS hl hRet
  have htb : ∀ w ∈ lw_g, w.before ([.ref h0, .int a1] : List Value).toArray s = true := fun w h => hts w (List.mem_cons_of_mem _ h)
  have hl : lv_has ls 4 [(0, .ref h0), (1, .int a1)] := hl
  have hRet : ∀ (o : (Nat → Int32) × (Nat → Int32)) (H : Heap) (locs : List Loc) (ls : Array Slot) (pc : Nat), o = out → va_P (dC, dI) vwCl [(h0, .inr (8, [.ref h2, .ref h1])), (h1, .inl (q0, 48, .inl o.1)), (h2, .inl (q1, 48, .inl o.2))] H → va_D A [(h0, .inr (8, [.ref h2, .ref h1])), (h1, .inl (q0, 48, .inl o.1)), (h2, .inl (q1, 48, .inl o.2))] → va_S A s.heap H locs → decode cX8_drawFrom pc = .ok (.return_, 1) → W p l e ({ frames := 0, cells := 0, slots := 0, locals := 0 } : Room) s m ([.ref h0, .int a1] : List Value).toArray below meth c H locs 0 0 Q (F0 m pc ls []) := fun o H locs ls pc ho => by subst ho; exact hRet H locs ls pc
  have L4 : ∀ (n : Nat), ∀ (H : Heap) (locs : List Loc) (ls : Array Slot) (x2 : Int32) (x3 : Int32) (v_highs : Nat → Int32) (v_lows : Nat → Int32), va_P (dC, dI) vwCl [(h0, .inr (8, [.ref h2, .ref h1])), (h1, .inl (q0, 48, .inl v_highs)), (h2, .inl (q1, 48, .inl v_lows))] H → va_D A [(h0, .inr (8, [.ref h2, .ref h1])), (h1, .inl (q0, 48, .inl v_highs)), (h2, .inl (q1, 48, .inl v_lows))] → va_S A s.heap H locs → lv_has ls 4 [(0, .ref h0), (2, .int x2), (3, .int x3)] → fX8_drawFrom_L4 F a1 n x2 x3 v_highs v_lows = some out → W p l e ({ frames := 0, cells := 0, slots := 0, locals := 0 } : Room) s m ([.ref h0, .int a1] : List Value).toArray below meth c H locs 0 0 Q (F0 m 4 ls []) := by
    intro n
    induction n with
    | zero =>
      intro H locs ls x2 x3 v_highs v_lows hP hD hS hl hf
      cases hf
    | succ n ih =>
      intro H locs ls x2 x3 v_highs v_lows hP hD hS hl hf
      rw [fX8_drawFrom_L4] at hf
      refine lv_iload_n hx hb dX8_drawFrom_4 rfl (lv_at hl 2 rfl) ?_
      refine lv_bipush (v := 48) hx hb dX8_drawFrom_5 (by decide) ?_
      refine lv_icmp_ge (tgt := 60) hx hb dX8_drawFrom_7 (by decide) (fun c_1 => ?_) (fun c_1 => ?_)
      · have hf := oi_t hf c_1
        exact hRet (v_highs, v_lows) H locs ls 60 (Option.some.inj hf) hP hD hS dX8_drawFrom_60
      · have hf := oi_f hf c_1
        refine lv_ldc (v := 1103515245) hx hb hown (htb _ mK_X8_37) dX8_drawFrom_10 ?_
        refine lv_iload_n hx hb dX8_drawFrom_12 rfl (lv_at hl 1 rfl) ?_
        refine lv_imul hx hb dX8_drawFrom_13 ?_
        refine lv_sipush (v := 12345) hx hb dX8_drawFrom_14 (by decide) ?_
        refine lv_iadd hx hb dX8_drawFrom_17 ?_
        refine lv_topi (fun x_2 ex_2 => ?_)
        have hf := ol_some hf ex_2
        refine lv_istore_n (lv' := [(2, .int x_2), (0, .ref h0), (3, .int x3)]) hx hb dX8_drawFrom_18 rfl hl (by decide) rfl (fun ls hl => ?_)
        refine lv_aload_n hx hb dX8_drawFrom_19 rfl (lv_at hl 1 rfl) ?_
        refine va_get (D := (dC, dI)) (ci := 8) (v := .ref h2) (C := RX8) (T := TX8) (N := 2) hx hb htb inG8 hown hK hP 0 rfl rfl 0 (by decide) (htb _ mF_X8_9) (fun _ h9 => h9) rfl dX8_drawFrom_20 ?_
        refine lv_iload_n hx hb dX8_drawFrom_23 rfl (lv_at hl 2 rfl) ?_
        refine lv_iload_n hx hb dX8_drawFrom_24 rfl (lv_at hl 0 rfl) ?_
        refine lv_bipush (v := 16) hx hb dX8_drawFrom_25 (by decide) ?_
        refine lv_iushr hx hb dX8_drawFrom_27 rfl ?_
        refine lv_bipush (v := 7) hx hb dX8_drawFrom_28 (by decide) ?_
        refine lv_irem hx hb dX8_drawFrom_30 (by decide) ?_
        obtain ⟨b_3, hf⟩ := og_some hf
        refine va_iast hx hb hK hP hD hS 2 1 rfl rfl (vb_ok b_3) dX8_drawFrom_31 (fun H locs hP hD hS => ?_)
        generalize ev_lows_4 : upd v_lows x3.toNatClampNeg ((((x_2).toUInt32 >>> (((16 : Int32) : Int32).toUInt32 &&& Int32.toUInt32 31)).toInt32) - (((x_2).toUInt32 >>> (((16 : Int32) : Int32).toUInt32 &&& Int32.toUInt32 31)).toInt32) / (7 : Int32) * (7 : Int32)) = v_lows_4 at hP hD
        have hf := ol_some hf ev_lows_4.symm
        have hP : va_P (dC, dI) vwCl [(h0, .inr (8, [.ref h2, .ref h1])), (h1, .inl (q0, 48, .inl v_highs)), (h2, .inl (q1, 48, .inl v_lows_4))] H := hP
        have hD : va_D A [(h0, .inr (8, [.ref h2, .ref h1])), (h1, .inl (q0, 48, .inl v_highs)), (h2, .inl (q1, 48, .inl v_lows_4))] := hD
        refine lv_ldc (v := 1103515245) hx hb hown (htb _ mK_X8_37) dX8_drawFrom_32 ?_
        refine lv_iload_n hx hb dX8_drawFrom_34 rfl (lv_at hl 0 rfl) ?_
        refine lv_imul hx hb dX8_drawFrom_35 ?_
        refine lv_sipush (v := 12345) hx hb dX8_drawFrom_36 (by decide) ?_
        refine lv_iadd hx hb dX8_drawFrom_39 ?_
        refine lv_topi (fun x_5 ex_5 => ?_)
        have hf := ol_some hf ex_5
        refine lv_istore_n (lv' := [(2, .int x_5), (0, .ref h0), (3, .int x3)]) hx hb dX8_drawFrom_40 rfl hl (by decide) rfl (fun ls hl => ?_)
        refine lv_aload_n hx hb dX8_drawFrom_41 rfl (lv_at hl 1 rfl) ?_
        refine va_get (D := (dC, dI)) (ci := 8) (v := .ref h1) (C := RX8) (T := TX8) (N := 2) hx hb htb inG8 hown hK hP 0 rfl rfl 1 (by decide) (htb _ mF_X8_15) (fun _ h9 => h9) rfl dX8_drawFrom_42 ?_
        refine lv_iload_n hx hb dX8_drawFrom_45 rfl (lv_at hl 2 rfl) ?_
        refine lv_iload_n hx hb dX8_drawFrom_46 rfl (lv_at hl 0 rfl) ?_
        refine lv_bipush (v := 16) hx hb dX8_drawFrom_47 (by decide) ?_
        refine lv_iushr hx hb dX8_drawFrom_49 rfl ?_
        refine lv_bipush (v := 7) hx hb dX8_drawFrom_50 (by decide) ?_
        refine lv_irem hx hb dX8_drawFrom_52 (by decide) ?_
        obtain ⟨b_6, hf⟩ := og_some hf
        refine va_iast hx hb hK hP hD hS 1 0 rfl rfl (vb_ok b_6) dX8_drawFrom_53 (fun H locs hP hD hS => ?_)
        generalize ev_highs_7 : upd v_highs x3.toNatClampNeg ((((x_5).toUInt32 >>> (((16 : Int32) : Int32).toUInt32 &&& Int32.toUInt32 31)).toInt32) - (((x_5).toUInt32 >>> (((16 : Int32) : Int32).toUInt32 &&& Int32.toUInt32 31)).toInt32) / (7 : Int32) * (7 : Int32)) = v_highs_7 at hP hD
        have hf := ol_some hf ev_highs_7.symm
        have hP : va_P (dC, dI) vwCl [(h0, .inr (8, [.ref h2, .ref h1])), (h1, .inl (q0, 48, .inl v_highs_7)), (h2, .inl (q1, 48, .inl v_lows_4))] H := hP
        have hD : va_D A [(h0, .inr (8, [.ref h2, .ref h1])), (h1, .inl (q0, 48, .inl v_highs_7)), (h2, .inl (q1, 48, .inl v_lows_4))] := hD
        obtain ⟨x3_8, ex3_8⟩ : ∃ y : Int32, y = x3 + 1 := ⟨_, rfl⟩
        refine lv_iinc (v := x3_8) (lv' := [(3, .int x3_8), (2, .int x_5), (0, .ref h0)]) hx hb dX8_drawFrom_54 hl (k := 2) rfl (by rw [ex3_8]; rfl) (by decide) rfl (fun ls hl => ?_)
        have hf := ol_some hf ex3_8
        refine lv_goto (tgt := 4) hx hb dX8_drawFrom_57 (by decide) ?_
        exact ih H locs ls x_5 x3_8 v_highs_7 v_lows_4 hP hD hS (lv_sub hl [2, 1, 0] rfl) hf
  suffices K0 : ∀ (H : Heap) (locs : List Loc), va_P (dC, dI) vwCl [(h0, .inr (8, [.ref h2, .ref h1])), (h1, .inl (q0, 48, .inl v_highs)), (h2, .inl (q1, 48, .inl v_lows))] H → va_D A [(h0, .inr (8, [.ref h2, .ref h1])), (h1, .inl (q0, 48, .inl v_highs)), (h2, .inl (q1, 48, .inl v_lows))] → va_S A s.heap H locs → W p l e ({ frames := 0, cells := 0, slots := 0, locals := 0 } : Room) s m ([.ref h0, .int a1] : List Value).toArray below meth c H locs 0 0 Q (F0 m 0 ls []) from K0 s.heap [] hP hD hS
  clear hP hD hS
  intro H locs hP hD hS
  unfold fX8_drawFrom at hf
  refine lv_iload_n hx hb dX8_drawFrom_0 rfl (lv_at hl 1 rfl) ?_
  refine lv_istore_n (lv' := [(2, .int a1), (0, .ref h0), (1, .int a1)]) hx hb dX8_drawFrom_1 rfl hl (by decide) rfl (fun ls hl => ?_)
  refine lv_iconst (v := 0) hx hb dX8_drawFrom_2 (by decide) ?_
  refine lv_istore_n (lv' := [(3, .int (0 : Int32)), (2, .int a1), (0, .ref h0), (1, .int a1)]) hx hb dX8_drawFrom_3 rfl hl (by decide) rfl (fun ls hl => ?_)
  exact L4 F H locs ls a1 (0 : Int32) v_highs v_lows hP hD hS (lv_sub hl [2, 1, 0] rfl) hf
def fX8_blowSteadily (F : Nat) (v_highs : Nat → Int32) (v_lows : Nat → Int32) (a1 : Int32) (a2 : Int32) : Option ((Nat → Int32) × (Nat → Int32)) := ob (fJ7_fill_53178 F 48 v_lows a1) (fun o_1 => ob (fJ7_fill_53178 F 48 v_highs a2) (fun o_2 => some (o_2, o_1)))
set_option maxRecDepth 100000 in
set_option maxHeartbeats 4000000 in
theorem ctX8_blowSteadily (l : Launch) (dC : Nat → ClassId) (dI : Nat → Nat → Nat) (F sz : Nat) (h0 h1 h2 : Nat) (q0 q1 : ClassId) (v_highs : Nat → Int32) (v_lows : Nat → Int32) (a1 : Int32) (a2 : Int32) (out : (Nat → Int32) × (Nat → Int32)) (hf : fX8_blowSteadily F v_highs v_lows a1 a2 = some out)  : cM l yX8_blowSteadily cX8_blowSteadily 3 none ({ frames := 1, cells := 0, slots := 0, locals := 23 } : Room) (dC, dI) [(q0, .int), (q1, .int)] [(h0, .inr (8, [.ref h2, .ref h1])), (h1, .inl (q0, 48, .inl v_highs)), (h2, .inl (q1, 48, .inl v_lows))] [.ref h0, .int a1, .int a2] sz none [(h0, .inr (8, [.ref h2, .ref h1])), (h1, .inl (q0, 48, .inl out.1)), (h2, .inl (q1, 48, .inl out.2))] := by
  refine cM_V RX8 ⟨by decide, rfl⟩ (Nat.le_of_ble_eq_true rfl) ?_
  intro p e s m below meth c A Q ls hx hb hml hown hts hK hN hA hP hD hS hl hRet
  have htb : ∀ w ∈ lw_g, w.before ([.ref h0, .int a1, .int a2] : List Value).toArray s = true := fun w h => hts w (List.mem_cons_of_mem _ h)
  have hl : lv_has ls 3 [(0, .ref h0), (1, .int a1), (2, .int a2)] := hl
  have hRet : ∀ (o : (Nat → Int32) × (Nat → Int32)) (H : Heap) (locs : List Loc) (ls : Array Slot) (pc : Nat), o = out → va_P (dC, dI) vwCl [(h0, .inr (8, [.ref h2, .ref h1])), (h1, .inl (q0, 48, .inl o.1)), (h2, .inl (q1, 48, .inl o.2))] H → va_D A [(h0, .inr (8, [.ref h2, .ref h1])), (h1, .inl (q0, 48, .inl o.1)), (h2, .inl (q1, 48, .inl o.2))] → va_S A s.heap H locs → decode cX8_blowSteadily pc = .ok (.return_, 1) → W p l e ({ frames := 1, cells := 0, slots := 0, locals := 23 } : Room) s m ([.ref h0, .int a1, .int a2] : List Value).toArray below meth c H locs 0 0 Q (F0 m pc ls []) := fun o H locs ls pc ho => by subst ho; exact hRet H locs ls pc
  suffices K0 : ∀ (H : Heap) (locs : List Loc), va_P (dC, dI) vwCl [(h0, .inr (8, [.ref h2, .ref h1])), (h1, .inl (q0, 48, .inl v_highs)), (h2, .inl (q1, 48, .inl v_lows))] H → va_D A [(h0, .inr (8, [.ref h2, .ref h1])), (h1, .inl (q0, 48, .inl v_highs)), (h2, .inl (q1, 48, .inl v_lows))] → va_S A s.heap H locs → W p l e ({ frames := 1, cells := 0, slots := 0, locals := 23 } : Room) s m ([.ref h0, .int a1, .int a2] : List Value).toArray below meth c H locs 0 0 Q (F0 m 0 ls []) from K0 s.heap [] hP hD hS
  clear hP hD hS
  intro H locs hP hD hS
  unfold fX8_blowSteadily at hf
  refine lv_aload_n hx hb dX8_blowSteadily_0 rfl (lv_at hl 0 rfl) ?_
  refine va_get (D := (dC, dI)) (ci := 8) (v := .ref h2) (C := RX8) (T := TX8) (N := 2) hx hb htb inG8 hown hK hP 0 rfl rfl 0 (by decide) (htb _ mF_X8_9) (fun _ h9 => h9) rfl dX8_blowSteadily_1 ?_
  refine lv_iload_n hx hb dX8_blowSteadily_4 rfl (lv_at hl 1 rfl) ?_
  obtain ⟨o_1, ho_1, hf⟩ := ob_some hf
  refine ca_S (As := [.ref h2, .int a1]) (rest := []) (wr := [(h0, .inr (8, [.ref h2, .ref h1])), (h1, .inl (q0, 48, .inl v_highs))]) (wn := [(h0, .inr (8, [.ref h2, .ref h1])), (h1, .inl (q0, 48, .inl v_highs)), (h2, .inl (q1, 48, .inl o_1))]) ⟨hx, hb, hml, hown, hts⟩ (ctJ7_fill_53178 l dC dI F H.size h2 q1 48 v_lows a1 o_1 ho_1) ⟨mC_J7_fill_53178, mN_J7, md_J7_fill_53178, ⟨rfl, rfl⟩, ⟨Nat.le_of_ble_eq_true rfl, Nat.le_of_ble_eq_true rfl⟩⟩ mM_X8_38 mT_J7_fill_53178 hK hN hP hD hS hA [1] [2] [0, 1] [0, 1, 2] rfl rfl rfl ⟨by decide, by decide, by decide, by decide⟩ rfl rfl hl.1 (Nat.le_of_ble_eq_true rfl) ⟨Nat.zero_le _, Nat.zero_le _⟩ dX8_blowSteadily_5 (fun H locs hP hD hS => ?_)
  refine lv_aload_n hx hb dX8_blowSteadily_8 rfl (lv_at hl 0 rfl) ?_
  refine va_get (D := (dC, dI)) (ci := 8) (v := .ref h1) (C := RX8) (T := TX8) (N := 2) hx hb htb inG8 hown hK hP 0 rfl rfl 1 (by decide) (htb _ mF_X8_15) (fun _ h9 => h9) rfl dX8_blowSteadily_9 ?_
  refine lv_iload_n hx hb dX8_blowSteadily_12 rfl (lv_at hl 2 rfl) ?_
  obtain ⟨o_2, ho_2, hf⟩ := ob_some hf
  refine ca_S (As := [.ref h1, .int a2]) (rest := []) (wr := [(h0, .inr (8, [.ref h2, .ref h1])), (h2, .inl (q1, 48, .inl o_1))]) (wn := [(h0, .inr (8, [.ref h2, .ref h1])), (h1, .inl (q0, 48, .inl o_2)), (h2, .inl (q1, 48, .inl o_1))]) ⟨hx, hb, hml, hown, hts⟩ (ctJ7_fill_53178 l dC dI F H.size h1 q0 48 v_highs a2 o_2 ho_2) ⟨mC_J7_fill_53178, mN_J7, md_J7_fill_53178, ⟨rfl, rfl⟩, ⟨Nat.le_of_ble_eq_true rfl, Nat.le_of_ble_eq_true rfl⟩⟩ mM_X8_38 mT_J7_fill_53178 hK hN hP hD hS hA [0] [1] [0, 2] [0, 2, 1] rfl rfl rfl ⟨by decide, by decide, by decide, by decide⟩ rfl rfl hl.1 (Nat.le_of_ble_eq_true rfl) ⟨Nat.zero_le _, Nat.zero_le _⟩ dX8_blowSteadily_13 (fun H locs hP hD hS => ?_)
  exact hRet (o_2, o_1) H locs ls 16 (Option.some.inj hf) hP hD hS dX8_blowSteadily_16
def fX8_latestTold_L43 (F : Nat) (v_p0_windCount : Int32) (v_p0_windQuarters : Nat → Int32) (a1 : Int32) (k7 : Int32 → Int32 → Int32 → Option (Int32)) (x2 : Int32) (x3 : Int32) (x4 : Int32) : Option (Int32) := ol (x4 + 1) (fun x4_1 => k7 x2 x3 x4_1)
def fX8_latestTold_L7 (F : Nat) (v_p0_windCount : Int32) (v_p0_windQuarters : Nat → Int32) (a1 : Int32) : Nat → Int32 → Int32 → Int32 → Option (Int32)
  | 0, _, _, _ => none
  | n + 1, x2, x3, x4 => if v_p0_windCount ≤ x4 then (some x2) else (og (vb x4 12) (ol (v_p0_windQuarters x4.toNatClampNeg) (fun x_4 => if a1 < x_4 then (fX8_latestTold_L43 F v_p0_windCount v_p0_windQuarters a1 (fun x2 x3 x4 => fX8_latestTold_L7 F v_p0_windCount v_p0_windQuarters a1 n x2 x3 x4) x2 x3 x4) else (if x_4 < x3 then (fX8_latestTold_L43 F v_p0_windCount v_p0_windQuarters a1 (fun x2 x3 x4 => fX8_latestTold_L7 F v_p0_windCount v_p0_windQuarters a1 n x2 x3 x4) x2 x3 x4) else (fX8_latestTold_L43 F v_p0_windCount v_p0_windQuarters a1 (fun x2 x3 x4 => fX8_latestTold_L7 F v_p0_windCount v_p0_windQuarters a1 n x2 x3 x4) x4 x_4 x4)))))
def fX8_latestTold (F : Nat) (v_p0_windCount : Int32) (v_p0_windQuarters : Nat → Int32) (a1 : Int32) : Option (Int32) := fX8_latestTold_L7 F v_p0_windCount v_p0_windQuarters a1 F (-1 : Int32) (-1 : Int32) (0 : Int32)
set_option maxRecDepth 100000 in
set_option maxHeartbeats 4000000 in
theorem ctX8_latestTold (l : Launch) (dC : Nat → ClassId) (dI : Nat → Nat → Nat) (F sz : Nat) (h0 h1 : Nat) (q0 : ClassId) (g_p0_xs : Value) (g_p0_heights : Value) (g_p0_froms : Value) (g_p0_tos : Value) (g_p0_smokeCounts : Value) (g_p0_smokes : Value) (g_p0_litIn : Value) (g_p0_windLows : Value) (g_p0_windHighs : Value) (v_p0_chimneys : Int32) (v_p0_windCount : Int32) (v_p0_layer : Int32) (v_p0_thick : Int32) (v_p0_fine : Int32) (v_p0_lines : Int32) (v_p0_windQuarters : Nat → Int32) (a1 : Int32) (out : Int32) (hf : fX8_latestTold F v_p0_windCount v_p0_windQuarters a1 = some out)  : cM l yX8_latestTold cX8_latestTold 6 (some .int) ({ frames := 0, cells := 0, slots := 0, locals := 0 } : Room) (dC, dI) [(q0, .int)] [(h0, .inr (7, [g_p0_xs, g_p0_heights, g_p0_froms, g_p0_tos, g_p0_smokeCounts, g_p0_smokes, g_p0_litIn, .ref h1, g_p0_windLows, g_p0_windHighs, .int v_p0_chimneys, .int v_p0_windCount, .int v_p0_layer, .int v_p0_thick, .int v_p0_fine, .int v_p0_lines])), (h1, .inl (q0, 12, .inl v_p0_windQuarters))] [.ref h0, .int a1] sz (some (.int out)) [(h0, .inr (7, [g_p0_xs, g_p0_heights, g_p0_froms, g_p0_tos, g_p0_smokeCounts, g_p0_smokes, g_p0_litIn, .ref h1, g_p0_windLows, g_p0_windHighs, .int v_p0_chimneys, .int v_p0_windCount, .int v_p0_layer, .int v_p0_thick, .int v_p0_fine, .int v_p0_lines])), (h1, .inl (q0, 12, .inl v_p0_windQuarters))] := by
  refine cM_I RX8 ⟨by decide, rfl⟩ (Nat.le_of_ble_eq_true rfl) ?_
  intro p e s m below meth c A Q ls hx hb hml hown hts hK hN hA hP hD hS hl hRet
  have htb : ∀ w ∈ lw_g, w.before ([.ref h0, .int a1] : List Value).toArray s = true := fun w h => hts w (List.mem_cons_of_mem _ h)
  have hl : lv_has ls 6 [(0, .ref h0), (1, .int a1)] := hl
  have hRet : ∀ (o : Int32) (H : Heap) (locs : List Loc) (ls : Array Slot) (pc : Nat), o = out → va_P (dC, dI) vwCl [(h0, .inr (7, [g_p0_xs, g_p0_heights, g_p0_froms, g_p0_tos, g_p0_smokeCounts, g_p0_smokes, g_p0_litIn, .ref h1, g_p0_windLows, g_p0_windHighs, .int v_p0_chimneys, .int v_p0_windCount, .int v_p0_layer, .int v_p0_thick, .int v_p0_fine, .int v_p0_lines])), (h1, .inl (q0, 12, .inl v_p0_windQuarters))] H → va_D A [(h0, .inr (7, [g_p0_xs, g_p0_heights, g_p0_froms, g_p0_tos, g_p0_smokeCounts, g_p0_smokes, g_p0_litIn, .ref h1, g_p0_windLows, g_p0_windHighs, .int v_p0_chimneys, .int v_p0_windCount, .int v_p0_layer, .int v_p0_thick, .int v_p0_fine, .int v_p0_lines])), (h1, .inl (q0, 12, .inl v_p0_windQuarters))] → va_S A s.heap H locs → narrow .int (.int o) = .int o → decode cX8_latestTold pc = .ok (.ireturn, 1) → W p l e ({ frames := 0, cells := 0, slots := 0, locals := 0 } : Room) s m ([.ref h0, .int a1] : List Value).toArray below meth c H locs 0 0 Q (F0 m pc ls [.int o]) := fun o H locs ls pc ho => by subst ho; exact hRet H locs ls pc
  have L43 : ∀ (k7 : Int32 → Int32 → Int32 → Option (Int32)) (hk7 : ∀ (H : Heap) (locs : List Loc) (ls : Array Slot) (x2 : Int32) (x3 : Int32) (x4 : Int32), va_P (dC, dI) vwCl [(h0, .inr (7, [g_p0_xs, g_p0_heights, g_p0_froms, g_p0_tos, g_p0_smokeCounts, g_p0_smokes, g_p0_litIn, .ref h1, g_p0_windLows, g_p0_windHighs, .int v_p0_chimneys, .int v_p0_windCount, .int v_p0_layer, .int v_p0_thick, .int v_p0_fine, .int v_p0_lines])), (h1, .inl (q0, 12, .inl v_p0_windQuarters))] H → va_D A [(h0, .inr (7, [g_p0_xs, g_p0_heights, g_p0_froms, g_p0_tos, g_p0_smokeCounts, g_p0_smokes, g_p0_litIn, .ref h1, g_p0_windLows, g_p0_windHighs, .int v_p0_chimneys, .int v_p0_windCount, .int v_p0_layer, .int v_p0_thick, .int v_p0_fine, .int v_p0_lines])), (h1, .inl (q0, 12, .inl v_p0_windQuarters))] → va_S A s.heap H locs → lv_has ls 6 [(0, .ref h0), (1, .int a1), (2, .int x2), (3, .int x3), (4, .int x4)] → k7 x2 x3 x4 = some out → W p l e ({ frames := 0, cells := 0, slots := 0, locals := 0 } : Room) s m ([.ref h0, .int a1] : List Value).toArray below meth c H locs 0 0 Q (F0 m 7 ls [])), ∀ (H : Heap) (locs : List Loc) (ls : Array Slot) (x2 : Int32) (x3 : Int32) (x4 : Int32), va_P (dC, dI) vwCl [(h0, .inr (7, [g_p0_xs, g_p0_heights, g_p0_froms, g_p0_tos, g_p0_smokeCounts, g_p0_smokes, g_p0_litIn, .ref h1, g_p0_windLows, g_p0_windHighs, .int v_p0_chimneys, .int v_p0_windCount, .int v_p0_layer, .int v_p0_thick, .int v_p0_fine, .int v_p0_lines])), (h1, .inl (q0, 12, .inl v_p0_windQuarters))] H → va_D A [(h0, .inr (7, [g_p0_xs, g_p0_heights, g_p0_froms, g_p0_tos, g_p0_smokeCounts, g_p0_smokes, g_p0_litIn, .ref h1, g_p0_windLows, g_p0_windHighs, .int v_p0_chimneys, .int v_p0_windCount, .int v_p0_layer, .int v_p0_thick, .int v_p0_fine, .int v_p0_lines])), (h1, .inl (q0, 12, .inl v_p0_windQuarters))] → va_S A s.heap H locs → lv_has ls 6 [(0, .ref h0), (1, .int a1), (2, .int x2), (3, .int x3), (4, .int x4)] → fX8_latestTold_L43 F v_p0_windCount v_p0_windQuarters a1 k7 x2 x3 x4 = some out → W p l e ({ frames := 0, cells := 0, slots := 0, locals := 0 } : Room) s m ([.ref h0, .int a1] : List Value).toArray below meth c H locs 0 0 Q (F0 m 43 ls []) := by
    intro k7 hk7 H locs ls x2 x3 x4 hP hD hS hl hf
    unfold fX8_latestTold_L43 at hf
    obtain ⟨x4_1, ex4_1⟩ : ∃ y : Int32, y = x4 + 1 := ⟨_, rfl⟩
    refine lv_iinc (v := x4_1) (lv' := [(4, .int x4_1), (0, .ref h0), (1, .int a1), (2, .int x2), (3, .int x3)]) hx hb dX8_latestTold_43 hl (k := 4) rfl (by rw [ex4_1]; rfl) (by decide) rfl (fun ls hl => ?_)
    have hf := ol_some hf ex4_1
    refine lv_goto (tgt := 7) hx hb dX8_latestTold_46 (by decide) ?_
    exact hk7 H locs ls x2 x3 x4_1 hP hD hS (lv_sub hl [1, 2, 3, 4, 0] rfl) hf
  have L7 : ∀ (n : Nat), ∀ (H : Heap) (locs : List Loc) (ls : Array Slot) (x2 : Int32) (x3 : Int32) (x4 : Int32), va_P (dC, dI) vwCl [(h0, .inr (7, [g_p0_xs, g_p0_heights, g_p0_froms, g_p0_tos, g_p0_smokeCounts, g_p0_smokes, g_p0_litIn, .ref h1, g_p0_windLows, g_p0_windHighs, .int v_p0_chimneys, .int v_p0_windCount, .int v_p0_layer, .int v_p0_thick, .int v_p0_fine, .int v_p0_lines])), (h1, .inl (q0, 12, .inl v_p0_windQuarters))] H → va_D A [(h0, .inr (7, [g_p0_xs, g_p0_heights, g_p0_froms, g_p0_tos, g_p0_smokeCounts, g_p0_smokes, g_p0_litIn, .ref h1, g_p0_windLows, g_p0_windHighs, .int v_p0_chimneys, .int v_p0_windCount, .int v_p0_layer, .int v_p0_thick, .int v_p0_fine, .int v_p0_lines])), (h1, .inl (q0, 12, .inl v_p0_windQuarters))] → va_S A s.heap H locs → lv_has ls 6 [(0, .ref h0), (1, .int a1), (2, .int x2), (3, .int x3), (4, .int x4)] → fX8_latestTold_L7 F v_p0_windCount v_p0_windQuarters a1 n x2 x3 x4 = some out → W p l e ({ frames := 0, cells := 0, slots := 0, locals := 0 } : Room) s m ([.ref h0, .int a1] : List Value).toArray below meth c H locs 0 0 Q (F0 m 7 ls []) := by
    intro n
    induction n with
    | zero =>
      intro H locs ls x2 x3 x4 hP hD hS hl hf
      cases hf
    | succ n ih =>
      intro H locs ls x2 x3 x4 hP hD hS hl hf
      rw [fX8_latestTold_L7] at hf
      refine lv_iload hx hb dX8_latestTold_7 (lv_at hl 4 rfl) ?_
      refine lv_aload_n hx hb dX8_latestTold_9 rfl (lv_at hl 0 rfl) ?_
      refine va_get (D := (dC, dI)) (ci := 7) (v := .int v_p0_windCount) (C := RX7) (T := TX7) (N := 16) hx hb htb inG7 hown hK hP 0 rfl rfl 11 (by decide) (htb _ mF_X8_30) (fun _ h9 => h9) rfl dX8_latestTold_10 ?_
      refine lv_icmp_ge (tgt := 49) hx hb dX8_latestTold_13 (by decide) (fun c_2 => ?_) (fun c_2 => ?_)
      · have hf := oi_t hf c_2
        refine lv_iload_n hx hb dX8_latestTold_49 rfl (lv_at hl 2 rfl) ?_
        exact hRet x2 H locs ls 50 (Option.some.inj hf) hP hD hS rfl dX8_latestTold_50
      · have hf := oi_f hf c_2
        refine lv_aload_n hx hb dX8_latestTold_16 rfl (lv_at hl 0 rfl) ?_
        refine va_get (D := (dC, dI)) (ci := 7) (v := .ref h1) (C := RX7) (T := TX7) (N := 16) hx hb htb inG7 hown hK hP 0 rfl rfl 7 (by decide) (htb _ mF_X8_34) (fun _ h9 => h9) rfl dX8_latestTold_17 ?_
        refine lv_iload hx hb dX8_latestTold_20 (lv_at hl 4 rfl) ?_
        obtain ⟨b_3, hf⟩ := og_some hf
        refine va_iald hx hb hK hP 1 0 rfl rfl (vb_ok b_3) dX8_latestTold_22 ?_
        refine lv_topi (fun x_4 ex_4 => ?_)
        have hf := ol_some hf ex_4
        refine lv_istore (lv' := [(5, .int x_4), (0, .ref h0), (1, .int a1), (2, .int x2), (3, .int x3), (4, .int x4)]) hx hb dX8_latestTold_23 hl (by decide) rfl (fun ls hl => ?_)
        refine lv_iload hx hb dX8_latestTold_25 (lv_at hl 0 rfl) ?_
        refine lv_iload_n hx hb dX8_latestTold_27 rfl (lv_at hl 2 rfl) ?_
        refine lv_icmp_gt (tgt := 43) hx hb dX8_latestTold_28 (by decide) (fun c_5 => ?_) (fun c_5 => ?_)
        · have hf := oi_t hf c_5
          exact L43 (fun x2 x3 x4 => fX8_latestTold_L7 F v_p0_windCount v_p0_windQuarters a1 n x2 x3 x4) ih H locs ls x2 x3 x4 hP hD hS (lv_sub hl [1, 2, 3, 4, 5] rfl) hf
        · have hf := oi_f hf c_5
          refine lv_iload hx hb dX8_latestTold_31 (lv_at hl 0 rfl) ?_
          refine lv_iload_n hx hb dX8_latestTold_33 rfl (lv_at hl 4 rfl) ?_
          refine lv_icmp_lt (tgt := 43) hx hb dX8_latestTold_34 (by decide) (fun c_6 => ?_) (fun c_6 => ?_)
          · have hf := oi_t hf c_6
            exact L43 (fun x2 x3 x4 => fX8_latestTold_L7 F v_p0_windCount v_p0_windQuarters a1 n x2 x3 x4) ih H locs ls x2 x3 x4 hP hD hS (lv_sub hl [1, 2, 3, 4, 5] rfl) hf
          · have hf := oi_f hf c_6
            refine lv_iload hx hb dX8_latestTold_37 (lv_at hl 5 rfl) ?_
            refine lv_istore_n (lv' := [(2, .int x4), (5, .int x_4), (0, .ref h0), (1, .int a1), (3, .int x3), (4, .int x4)]) hx hb dX8_latestTold_39 rfl hl (by decide) rfl (fun ls hl => ?_)
            refine lv_iload hx hb dX8_latestTold_40 (lv_at hl 1 rfl) ?_
            refine lv_istore_n (lv' := [(3, .int x_4), (2, .int x4), (5, .int x_4), (0, .ref h0), (1, .int a1), (4, .int x4)]) hx hb dX8_latestTold_42 rfl hl (by decide) rfl (fun ls hl => ?_)
            exact L43 (fun x2 x3 x4 => fX8_latestTold_L7 F v_p0_windCount v_p0_windQuarters a1 n x2 x3 x4) ih H locs ls x4 x_4 x4 hP hD hS (lv_sub hl [3, 4, 1, 0, 5] rfl) hf
  suffices K0 : ∀ (H : Heap) (locs : List Loc), va_P (dC, dI) vwCl [(h0, .inr (7, [g_p0_xs, g_p0_heights, g_p0_froms, g_p0_tos, g_p0_smokeCounts, g_p0_smokes, g_p0_litIn, .ref h1, g_p0_windLows, g_p0_windHighs, .int v_p0_chimneys, .int v_p0_windCount, .int v_p0_layer, .int v_p0_thick, .int v_p0_fine, .int v_p0_lines])), (h1, .inl (q0, 12, .inl v_p0_windQuarters))] H → va_D A [(h0, .inr (7, [g_p0_xs, g_p0_heights, g_p0_froms, g_p0_tos, g_p0_smokeCounts, g_p0_smokes, g_p0_litIn, .ref h1, g_p0_windLows, g_p0_windHighs, .int v_p0_chimneys, .int v_p0_windCount, .int v_p0_layer, .int v_p0_thick, .int v_p0_fine, .int v_p0_lines])), (h1, .inl (q0, 12, .inl v_p0_windQuarters))] → va_S A s.heap H locs → W p l e ({ frames := 0, cells := 0, slots := 0, locals := 0 } : Room) s m ([.ref h0, .int a1] : List Value).toArray below meth c H locs 0 0 Q (F0 m 0 ls []) from K0 s.heap [] hP hD hS
  clear hP hD hS
  intro H locs hP hD hS
  unfold fX8_latestTold at hf
  refine lv_iconst (v := -1) hx hb dX8_latestTold_0 (by decide) ?_
  refine lv_istore_n (lv' := [(2, .int (-1 : Int32)), (0, .ref h0), (1, .int a1)]) hx hb dX8_latestTold_1 rfl hl (by decide) rfl (fun ls hl => ?_)
  refine lv_iconst (v := -1) hx hb dX8_latestTold_2 (by decide) ?_
  refine lv_istore_n (lv' := [(3, .int (-1 : Int32)), (2, .int (-1 : Int32)), (0, .ref h0), (1, .int a1)]) hx hb dX8_latestTold_3 rfl hl (by decide) rfl (fun ls hl => ?_)
  refine lv_iconst (v := 0) hx hb dX8_latestTold_4 (by decide) ?_
  refine lv_istore (lv' := [(4, .int (0 : Int32)), (3, .int (-1 : Int32)), (2, .int (-1 : Int32)), (0, .ref h0), (1, .int a1)]) hx hb dX8_latestTold_5 hl (by decide) rfl (fun ls hl => ?_)
  exact L7 F H locs ls (-1 : Int32) (-1 : Int32) (0 : Int32) hP hD hS (lv_sub hl [3, 4, 2, 1, 0] rfl) hf
def fX8_followTold_L55 (F : Nat) (v_p1_windCount : Int32) (v_p1_windHighs : Nat → Int32) (v_p1_windLows : Nat → Int32) (v_p1_windQuarters : Nat → Int32) (k2 : Int32 → (Nat → Int32) → (Nat → Int32) → Option ((Nat → Int32) × (Nat → Int32))) (x2 : Int32) (s0 : Int32) (s1 : Int32) (v_highs : Nat → Int32) (v_lows : Nat → Int32) : Option ((Nat → Int32) × (Nat → Int32)) := og (vb s1 48) (ol (upd v_highs s1.toNatClampNeg s0) (fun v_highs_2 => ol (x2 + 1) (fun x2_3 => k2 x2_3 v_highs_2 v_lows)))
def fX8_followTold_L34 (F : Nat) (v_p1_windCount : Int32) (v_p1_windHighs : Nat → Int32) (v_p1_windLows : Nat → Int32) (v_p1_windQuarters : Nat → Int32) (k2 : Int32 → (Nat → Int32) → (Nat → Int32) → Option ((Nat → Int32) × (Nat → Int32))) (x2 : Int32) (x3 : Int32) (s0 : Int32) (s1 : Int32) (v_highs : Nat → Int32) (v_lows : Nat → Int32) : Option ((Nat → Int32) × (Nat → Int32)) := og (vb s1 48) (ol (upd v_lows s1.toNatClampNeg s0) (fun v_lows_5 => if x3 = (-1 : Int32) then (fX8_followTold_L55 F v_p1_windCount v_p1_windHighs v_p1_windLows v_p1_windQuarters k2 x2 (3 : Int32) x2 v_highs v_lows_5) else (og (vb x3 12) (fX8_followTold_L55 F v_p1_windCount v_p1_windHighs v_p1_windLows v_p1_windQuarters k2 x2 (v_p1_windHighs x3.toNatClampNeg) x2 v_highs v_lows_5))))
def fX8_followTold_L2 (F : Nat) (v_p1_windCount : Int32) (v_p1_windHighs : Nat → Int32) (v_p1_windLows : Nat → Int32) (v_p1_windQuarters : Nat → Int32) : Nat → Int32 → (Nat → Int32) → (Nat → Int32) → Option ((Nat → Int32) × (Nat → Int32))
  | 0, _, _, _ => none
  | n + 1, x2, v_highs, v_lows => if (48 : Int32) ≤ x2 then (some (v_highs, v_lows)) else (ob (fX8_latestTold F v_p1_windCount v_p1_windQuarters x2) (fun o_9 => if o_9 = (-1 : Int32) then (fX8_followTold_L34 F v_p1_windCount v_p1_windHighs v_p1_windLows v_p1_windQuarters (fun x2 v_highs v_lows => fX8_followTold_L2 F v_p1_windCount v_p1_windHighs v_p1_windLows v_p1_windQuarters n x2 v_highs v_lows) x2 o_9 (3 : Int32) x2 v_highs v_lows) else (og (vb o_9 12) (fX8_followTold_L34 F v_p1_windCount v_p1_windHighs v_p1_windLows v_p1_windQuarters (fun x2 v_highs v_lows => fX8_followTold_L2 F v_p1_windCount v_p1_windHighs v_p1_windLows v_p1_windQuarters n x2 v_highs v_lows) x2 o_9 (v_p1_windLows o_9.toNatClampNeg) x2 v_highs v_lows))))
def fX8_followTold (F : Nat) (v_p1_windCount : Int32) (v_p1_windHighs : Nat → Int32) (v_p1_windLows : Nat → Int32) (v_p1_windQuarters : Nat → Int32) (v_highs : Nat → Int32) (v_lows : Nat → Int32)  : Option ((Nat → Int32) × (Nat → Int32)) := fX8_followTold_L2 F v_p1_windCount v_p1_windHighs v_p1_windLows v_p1_windQuarters F (0 : Int32) v_highs v_lows
set_option maxRecDepth 100000 in
set_option maxHeartbeats 4000000 in
theorem ctX8_followTold (l : Launch) (dC : Nat → ClassId) (dI : Nat → Nat → Nat) (F sz : Nat) (h0 h1 h2 h3 h4 h5 h6 : Nat) (q0 q1 q2 q3 q4 : ClassId) (g_p1_xs : Value) (g_p1_heights : Value) (g_p1_froms : Value) (g_p1_tos : Value) (g_p1_smokeCounts : Value) (g_p1_smokes : Value) (g_p1_litIn : Value) (v_p1_chimneys : Int32) (v_p1_windCount : Int32) (v_p1_layer : Int32) (v_p1_thick : Int32) (v_p1_fine : Int32) (v_p1_lines : Int32) (v_p1_windHighs : Nat → Int32) (v_p1_windLows : Nat → Int32) (v_p1_windQuarters : Nat → Int32) (v_highs : Nat → Int32) (v_lows : Nat → Int32)  (out : (Nat → Int32) × (Nat → Int32)) (hf : fX8_followTold F v_p1_windCount v_p1_windHighs v_p1_windLows v_p1_windQuarters v_highs v_lows = some out)  : cM l yX8_followTold cX8_followTold 4 none ({ frames := 1, cells := 0, slots := 0, locals := 25 } : Room) (dC, dI) [(q0, .int), (q1, .int), (q2, .int), (q3, .int), (q4, .int)] [(h0, .inr (8, [.ref h6, .ref h5])), (h1, .inr (7, [g_p1_xs, g_p1_heights, g_p1_froms, g_p1_tos, g_p1_smokeCounts, g_p1_smokes, g_p1_litIn, .ref h4, .ref h3, .ref h2, .int v_p1_chimneys, .int v_p1_windCount, .int v_p1_layer, .int v_p1_thick, .int v_p1_fine, .int v_p1_lines])), (h2, .inl (q0, 12, .inl v_p1_windHighs)), (h3, .inl (q1, 12, .inl v_p1_windLows)), (h4, .inl (q2, 12, .inl v_p1_windQuarters)), (h5, .inl (q3, 48, .inl v_highs)), (h6, .inl (q4, 48, .inl v_lows))] [.ref h0, .ref h1] sz none [(h0, .inr (8, [.ref h6, .ref h5])), (h1, .inr (7, [g_p1_xs, g_p1_heights, g_p1_froms, g_p1_tos, g_p1_smokeCounts, g_p1_smokes, g_p1_litIn, .ref h4, .ref h3, .ref h2, .int v_p1_chimneys, .int v_p1_windCount, .int v_p1_layer, .int v_p1_thick, .int v_p1_fine, .int v_p1_lines])), (h2, .inl (q0, 12, .inl v_p1_windHighs)), (h3, .inl (q1, 12, .inl v_p1_windLows)), (h4, .inl (q2, 12, .inl v_p1_windQuarters)), (h5, .inl (q3, 48, .inl out.1)), (h6, .inl (q4, 48, .inl out.2))] := by
  refine cM_V RX8 ⟨by decide, rfl⟩ (Nat.le_of_ble_eq_true rfl) ?_
  intro p e s m below meth c A Q ls hx hb hml hown hts hK hN hA hP hD hS hl hRet
  have htb : ∀ w ∈ lw_g, w.before ([.ref h0, .ref h1] : List Value).toArray s = true := fun w h => hts w (List.mem_cons_of_mem _ h)
  have hl : lv_has ls 4 [(0, .ref h0), (1, .ref h1)] := hl
  have hRet : ∀ (o : (Nat → Int32) × (Nat → Int32)) (H : Heap) (locs : List Loc) (ls : Array Slot) (pc : Nat), o = out → va_P (dC, dI) vwCl [(h0, .inr (8, [.ref h6, .ref h5])), (h1, .inr (7, [g_p1_xs, g_p1_heights, g_p1_froms, g_p1_tos, g_p1_smokeCounts, g_p1_smokes, g_p1_litIn, .ref h4, .ref h3, .ref h2, .int v_p1_chimneys, .int v_p1_windCount, .int v_p1_layer, .int v_p1_thick, .int v_p1_fine, .int v_p1_lines])), (h2, .inl (q0, 12, .inl v_p1_windHighs)), (h3, .inl (q1, 12, .inl v_p1_windLows)), (h4, .inl (q2, 12, .inl v_p1_windQuarters)), (h5, .inl (q3, 48, .inl o.1)), (h6, .inl (q4, 48, .inl o.2))] H → va_D A [(h0, .inr (8, [.ref h6, .ref h5])), (h1, .inr (7, [g_p1_xs, g_p1_heights, g_p1_froms, g_p1_tos, g_p1_smokeCounts, g_p1_smokes, g_p1_litIn, .ref h4, .ref h3, .ref h2, .int v_p1_chimneys, .int v_p1_windCount, .int v_p1_layer, .int v_p1_thick, .int v_p1_fine, .int v_p1_lines])), (h2, .inl (q0, 12, .inl v_p1_windHighs)), (h3, .inl (q1, 12, .inl v_p1_windLows)), (h4, .inl (q2, 12, .inl v_p1_windQuarters)), (h5, .inl (q3, 48, .inl o.1)), (h6, .inl (q4, 48, .inl o.2))] → va_S A s.heap H locs → decode cX8_followTold pc = .ok (.return_, 1) → W p l e ({ frames := 1, cells := 0, slots := 0, locals := 25 } : Room) s m ([.ref h0, .ref h1] : List Value).toArray below meth c H locs 0 0 Q (F0 m pc ls []) := fun o H locs ls pc ho => by subst ho; exact hRet H locs ls pc
  have L55 : ∀ (k2 : Int32 → (Nat → Int32) → (Nat → Int32) → Option ((Nat → Int32) × (Nat → Int32))) (hk2 : ∀ (H : Heap) (locs : List Loc) (ls : Array Slot) (x2 : Int32) (v_highs : Nat → Int32) (v_lows : Nat → Int32), va_P (dC, dI) vwCl [(h0, .inr (8, [.ref h6, .ref h5])), (h1, .inr (7, [g_p1_xs, g_p1_heights, g_p1_froms, g_p1_tos, g_p1_smokeCounts, g_p1_smokes, g_p1_litIn, .ref h4, .ref h3, .ref h2, .int v_p1_chimneys, .int v_p1_windCount, .int v_p1_layer, .int v_p1_thick, .int v_p1_fine, .int v_p1_lines])), (h2, .inl (q0, 12, .inl v_p1_windHighs)), (h3, .inl (q1, 12, .inl v_p1_windLows)), (h4, .inl (q2, 12, .inl v_p1_windQuarters)), (h5, .inl (q3, 48, .inl v_highs)), (h6, .inl (q4, 48, .inl v_lows))] H → va_D A [(h0, .inr (8, [.ref h6, .ref h5])), (h1, .inr (7, [g_p1_xs, g_p1_heights, g_p1_froms, g_p1_tos, g_p1_smokeCounts, g_p1_smokes, g_p1_litIn, .ref h4, .ref h3, .ref h2, .int v_p1_chimneys, .int v_p1_windCount, .int v_p1_layer, .int v_p1_thick, .int v_p1_fine, .int v_p1_lines])), (h2, .inl (q0, 12, .inl v_p1_windHighs)), (h3, .inl (q1, 12, .inl v_p1_windLows)), (h4, .inl (q2, 12, .inl v_p1_windQuarters)), (h5, .inl (q3, 48, .inl v_highs)), (h6, .inl (q4, 48, .inl v_lows))] → va_S A s.heap H locs → lv_has ls 4 [(0, .ref h0), (1, .ref h1), (2, .int x2)] → k2 x2 v_highs v_lows = some out → W p l e ({ frames := 1, cells := 0, slots := 0, locals := 25 } : Room) s m ([.ref h0, .ref h1] : List Value).toArray below meth c H locs 0 0 Q (F0 m 2 ls [])), ∀ (H : Heap) (locs : List Loc) (ls : Array Slot) (x2 : Int32) (s0 : Int32) (s1 : Int32) (v_highs : Nat → Int32) (v_lows : Nat → Int32), va_P (dC, dI) vwCl [(h0, .inr (8, [.ref h6, .ref h5])), (h1, .inr (7, [g_p1_xs, g_p1_heights, g_p1_froms, g_p1_tos, g_p1_smokeCounts, g_p1_smokes, g_p1_litIn, .ref h4, .ref h3, .ref h2, .int v_p1_chimneys, .int v_p1_windCount, .int v_p1_layer, .int v_p1_thick, .int v_p1_fine, .int v_p1_lines])), (h2, .inl (q0, 12, .inl v_p1_windHighs)), (h3, .inl (q1, 12, .inl v_p1_windLows)), (h4, .inl (q2, 12, .inl v_p1_windQuarters)), (h5, .inl (q3, 48, .inl v_highs)), (h6, .inl (q4, 48, .inl v_lows))] H → va_D A [(h0, .inr (8, [.ref h6, .ref h5])), (h1, .inr (7, [g_p1_xs, g_p1_heights, g_p1_froms, g_p1_tos, g_p1_smokeCounts, g_p1_smokes, g_p1_litIn, .ref h4, .ref h3, .ref h2, .int v_p1_chimneys, .int v_p1_windCount, .int v_p1_layer, .int v_p1_thick, .int v_p1_fine, .int v_p1_lines])), (h2, .inl (q0, 12, .inl v_p1_windHighs)), (h3, .inl (q1, 12, .inl v_p1_windLows)), (h4, .inl (q2, 12, .inl v_p1_windQuarters)), (h5, .inl (q3, 48, .inl v_highs)), (h6, .inl (q4, 48, .inl v_lows))] → va_S A s.heap H locs → lv_has ls 4 [(0, .ref h0), (1, .ref h1), (2, .int x2)] → fX8_followTold_L55 F v_p1_windCount v_p1_windHighs v_p1_windLows v_p1_windQuarters k2 x2 s0 s1 v_highs v_lows = some out → W p l e ({ frames := 1, cells := 0, slots := 0, locals := 25 } : Room) s m ([.ref h0, .ref h1] : List Value).toArray below meth c H locs 0 0 Q (F0 m 55 ls [.int s0, .int s1, .ref h5]) := by
    intro k2 hk2 H locs ls x2 s0 s1 v_highs v_lows hP hD hS hl hf
    unfold fX8_followTold_L55 at hf
    obtain ⟨b_1, hf⟩ := og_some hf
    refine va_iast hx hb hK hP hD hS 5 3 rfl rfl (vb_ok b_1) dX8_followTold_55 (fun H locs hP hD hS => ?_)
    generalize ev_highs_2 : upd v_highs s1.toNatClampNeg s0 = v_highs_2 at hP hD
    have hf := ol_some hf ev_highs_2.symm
    have hP : va_P (dC, dI) vwCl [(h0, .inr (8, [.ref h6, .ref h5])), (h1, .inr (7, [g_p1_xs, g_p1_heights, g_p1_froms, g_p1_tos, g_p1_smokeCounts, g_p1_smokes, g_p1_litIn, .ref h4, .ref h3, .ref h2, .int v_p1_chimneys, .int v_p1_windCount, .int v_p1_layer, .int v_p1_thick, .int v_p1_fine, .int v_p1_lines])), (h2, .inl (q0, 12, .inl v_p1_windHighs)), (h3, .inl (q1, 12, .inl v_p1_windLows)), (h4, .inl (q2, 12, .inl v_p1_windQuarters)), (h5, .inl (q3, 48, .inl v_highs_2)), (h6, .inl (q4, 48, .inl v_lows))] H := hP
    have hD : va_D A [(h0, .inr (8, [.ref h6, .ref h5])), (h1, .inr (7, [g_p1_xs, g_p1_heights, g_p1_froms, g_p1_tos, g_p1_smokeCounts, g_p1_smokes, g_p1_litIn, .ref h4, .ref h3, .ref h2, .int v_p1_chimneys, .int v_p1_windCount, .int v_p1_layer, .int v_p1_thick, .int v_p1_fine, .int v_p1_lines])), (h2, .inl (q0, 12, .inl v_p1_windHighs)), (h3, .inl (q1, 12, .inl v_p1_windLows)), (h4, .inl (q2, 12, .inl v_p1_windQuarters)), (h5, .inl (q3, 48, .inl v_highs_2)), (h6, .inl (q4, 48, .inl v_lows))] := hD
    obtain ⟨x2_3, ex2_3⟩ : ∃ y : Int32, y = x2 + 1 := ⟨_, rfl⟩
    refine lv_iinc (v := x2_3) (lv' := [(2, .int x2_3), (0, .ref h0), (1, .ref h1)]) hx hb dX8_followTold_56 hl (k := 2) rfl (by rw [ex2_3]; rfl) (by decide) rfl (fun ls hl => ?_)
    have hf := ol_some hf ex2_3
    refine lv_goto (tgt := 2) hx hb dX8_followTold_59 (by decide) ?_
    exact hk2 H locs ls x2_3 v_highs_2 v_lows hP hD hS (lv_sub hl [1, 2, 0] rfl) hf
  have L34 : ∀ (k2 : Int32 → (Nat → Int32) → (Nat → Int32) → Option ((Nat → Int32) × (Nat → Int32))) (hk2 : ∀ (H : Heap) (locs : List Loc) (ls : Array Slot) (x2 : Int32) (v_highs : Nat → Int32) (v_lows : Nat → Int32), va_P (dC, dI) vwCl [(h0, .inr (8, [.ref h6, .ref h5])), (h1, .inr (7, [g_p1_xs, g_p1_heights, g_p1_froms, g_p1_tos, g_p1_smokeCounts, g_p1_smokes, g_p1_litIn, .ref h4, .ref h3, .ref h2, .int v_p1_chimneys, .int v_p1_windCount, .int v_p1_layer, .int v_p1_thick, .int v_p1_fine, .int v_p1_lines])), (h2, .inl (q0, 12, .inl v_p1_windHighs)), (h3, .inl (q1, 12, .inl v_p1_windLows)), (h4, .inl (q2, 12, .inl v_p1_windQuarters)), (h5, .inl (q3, 48, .inl v_highs)), (h6, .inl (q4, 48, .inl v_lows))] H → va_D A [(h0, .inr (8, [.ref h6, .ref h5])), (h1, .inr (7, [g_p1_xs, g_p1_heights, g_p1_froms, g_p1_tos, g_p1_smokeCounts, g_p1_smokes, g_p1_litIn, .ref h4, .ref h3, .ref h2, .int v_p1_chimneys, .int v_p1_windCount, .int v_p1_layer, .int v_p1_thick, .int v_p1_fine, .int v_p1_lines])), (h2, .inl (q0, 12, .inl v_p1_windHighs)), (h3, .inl (q1, 12, .inl v_p1_windLows)), (h4, .inl (q2, 12, .inl v_p1_windQuarters)), (h5, .inl (q3, 48, .inl v_highs)), (h6, .inl (q4, 48, .inl v_lows))] → va_S A s.heap H locs → lv_has ls 4 [(0, .ref h0), (1, .ref h1), (2, .int x2)] → k2 x2 v_highs v_lows = some out → W p l e ({ frames := 1, cells := 0, slots := 0, locals := 25 } : Room) s m ([.ref h0, .ref h1] : List Value).toArray below meth c H locs 0 0 Q (F0 m 2 ls [])), ∀ (H : Heap) (locs : List Loc) (ls : Array Slot) (x2 : Int32) (x3 : Int32) (s0 : Int32) (s1 : Int32) (v_highs : Nat → Int32) (v_lows : Nat → Int32), va_P (dC, dI) vwCl [(h0, .inr (8, [.ref h6, .ref h5])), (h1, .inr (7, [g_p1_xs, g_p1_heights, g_p1_froms, g_p1_tos, g_p1_smokeCounts, g_p1_smokes, g_p1_litIn, .ref h4, .ref h3, .ref h2, .int v_p1_chimneys, .int v_p1_windCount, .int v_p1_layer, .int v_p1_thick, .int v_p1_fine, .int v_p1_lines])), (h2, .inl (q0, 12, .inl v_p1_windHighs)), (h3, .inl (q1, 12, .inl v_p1_windLows)), (h4, .inl (q2, 12, .inl v_p1_windQuarters)), (h5, .inl (q3, 48, .inl v_highs)), (h6, .inl (q4, 48, .inl v_lows))] H → va_D A [(h0, .inr (8, [.ref h6, .ref h5])), (h1, .inr (7, [g_p1_xs, g_p1_heights, g_p1_froms, g_p1_tos, g_p1_smokeCounts, g_p1_smokes, g_p1_litIn, .ref h4, .ref h3, .ref h2, .int v_p1_chimneys, .int v_p1_windCount, .int v_p1_layer, .int v_p1_thick, .int v_p1_fine, .int v_p1_lines])), (h2, .inl (q0, 12, .inl v_p1_windHighs)), (h3, .inl (q1, 12, .inl v_p1_windLows)), (h4, .inl (q2, 12, .inl v_p1_windQuarters)), (h5, .inl (q3, 48, .inl v_highs)), (h6, .inl (q4, 48, .inl v_lows))] → va_S A s.heap H locs → lv_has ls 4 [(0, .ref h0), (1, .ref h1), (2, .int x2), (3, .int x3)] → fX8_followTold_L34 F v_p1_windCount v_p1_windHighs v_p1_windLows v_p1_windQuarters k2 x2 x3 s0 s1 v_highs v_lows = some out → W p l e ({ frames := 1, cells := 0, slots := 0, locals := 25 } : Room) s m ([.ref h0, .ref h1] : List Value).toArray below meth c H locs 0 0 Q (F0 m 34 ls [.int s0, .int s1, .ref h6]) := by
    intro k2 hk2 H locs ls x2 x3 s0 s1 v_highs v_lows hP hD hS hl hf
    unfold fX8_followTold_L34 at hf
    obtain ⟨b_4, hf⟩ := og_some hf
    refine va_iast hx hb hK hP hD hS 6 4 rfl rfl (vb_ok b_4) dX8_followTold_34 (fun H locs hP hD hS => ?_)
    generalize ev_lows_5 : upd v_lows s1.toNatClampNeg s0 = v_lows_5 at hP hD
    have hf := ol_some hf ev_lows_5.symm
    have hP : va_P (dC, dI) vwCl [(h0, .inr (8, [.ref h6, .ref h5])), (h1, .inr (7, [g_p1_xs, g_p1_heights, g_p1_froms, g_p1_tos, g_p1_smokeCounts, g_p1_smokes, g_p1_litIn, .ref h4, .ref h3, .ref h2, .int v_p1_chimneys, .int v_p1_windCount, .int v_p1_layer, .int v_p1_thick, .int v_p1_fine, .int v_p1_lines])), (h2, .inl (q0, 12, .inl v_p1_windHighs)), (h3, .inl (q1, 12, .inl v_p1_windLows)), (h4, .inl (q2, 12, .inl v_p1_windQuarters)), (h5, .inl (q3, 48, .inl v_highs)), (h6, .inl (q4, 48, .inl v_lows_5))] H := hP
    have hD : va_D A [(h0, .inr (8, [.ref h6, .ref h5])), (h1, .inr (7, [g_p1_xs, g_p1_heights, g_p1_froms, g_p1_tos, g_p1_smokeCounts, g_p1_smokes, g_p1_litIn, .ref h4, .ref h3, .ref h2, .int v_p1_chimneys, .int v_p1_windCount, .int v_p1_layer, .int v_p1_thick, .int v_p1_fine, .int v_p1_lines])), (h2, .inl (q0, 12, .inl v_p1_windHighs)), (h3, .inl (q1, 12, .inl v_p1_windLows)), (h4, .inl (q2, 12, .inl v_p1_windQuarters)), (h5, .inl (q3, 48, .inl v_highs)), (h6, .inl (q4, 48, .inl v_lows_5))] := hD
    refine lv_aload_n hx hb dX8_followTold_35 rfl (lv_at hl 0 rfl) ?_
    refine va_get (D := (dC, dI)) (ci := 8) (v := .ref h5) (C := RX8) (T := TX8) (N := 2) hx hb htb inG8 hown hK hP 0 rfl rfl 1 (by decide) (htb _ mF_X8_15) (fun _ h9 => h9) rfl dX8_followTold_36 ?_
    refine lv_iload_n hx hb dX8_followTold_39 rfl (lv_at hl 2 rfl) ?_
    refine lv_iload_n hx hb dX8_followTold_40 rfl (lv_at hl 3 rfl) ?_
    refine lv_iconst (v := -1) hx hb dX8_followTold_41 (by decide) ?_
    refine lv_icmp_ne (tgt := 49) hx hb dX8_followTold_42 (by decide) (fun c_6 => ?_) (fun c_6 => ?_)
    · have hf := oi_f hf c_6
      refine lv_aload_n hx hb dX8_followTold_49 rfl (lv_at hl 1 rfl) ?_
      refine va_get (D := (dC, dI)) (ci := 7) (v := .ref h2) (C := RX7) (T := TX7) (N := 16) hx hb htb inG7 hown hK hP 1 rfl rfl 9 (by decide) (htb _ mF_X8_27) (fun _ h9 => h9) rfl dX8_followTold_50 ?_
      refine lv_iload_n hx hb dX8_followTold_53 rfl (lv_at hl 3 rfl) ?_
      obtain ⟨b_7, hf⟩ := og_some hf
      refine va_iald hx hb hK hP 2 0 rfl rfl (vb_ok b_7) dX8_followTold_54 ?_
      exact L55 k2 hk2 H locs ls x2 (v_p1_windHighs x3.toNatClampNeg) x2 v_highs v_lows_5 hP hD hS (lv_sub hl [0, 1, 2] rfl) hf
    · have hf := oi_t hf c_6
      refine lv_iconst (v := 3) hx hb dX8_followTold_45 (by decide) ?_
      refine lv_goto (tgt := 55) hx hb dX8_followTold_46 (by decide) ?_
      exact L55 k2 hk2 H locs ls x2 (3 : Int32) x2 v_highs v_lows_5 hP hD hS (lv_sub hl [0, 1, 2] rfl) hf
  have L2 : ∀ (n : Nat), ∀ (H : Heap) (locs : List Loc) (ls : Array Slot) (x2 : Int32) (v_highs : Nat → Int32) (v_lows : Nat → Int32), va_P (dC, dI) vwCl [(h0, .inr (8, [.ref h6, .ref h5])), (h1, .inr (7, [g_p1_xs, g_p1_heights, g_p1_froms, g_p1_tos, g_p1_smokeCounts, g_p1_smokes, g_p1_litIn, .ref h4, .ref h3, .ref h2, .int v_p1_chimneys, .int v_p1_windCount, .int v_p1_layer, .int v_p1_thick, .int v_p1_fine, .int v_p1_lines])), (h2, .inl (q0, 12, .inl v_p1_windHighs)), (h3, .inl (q1, 12, .inl v_p1_windLows)), (h4, .inl (q2, 12, .inl v_p1_windQuarters)), (h5, .inl (q3, 48, .inl v_highs)), (h6, .inl (q4, 48, .inl v_lows))] H → va_D A [(h0, .inr (8, [.ref h6, .ref h5])), (h1, .inr (7, [g_p1_xs, g_p1_heights, g_p1_froms, g_p1_tos, g_p1_smokeCounts, g_p1_smokes, g_p1_litIn, .ref h4, .ref h3, .ref h2, .int v_p1_chimneys, .int v_p1_windCount, .int v_p1_layer, .int v_p1_thick, .int v_p1_fine, .int v_p1_lines])), (h2, .inl (q0, 12, .inl v_p1_windHighs)), (h3, .inl (q1, 12, .inl v_p1_windLows)), (h4, .inl (q2, 12, .inl v_p1_windQuarters)), (h5, .inl (q3, 48, .inl v_highs)), (h6, .inl (q4, 48, .inl v_lows))] → va_S A s.heap H locs → lv_has ls 4 [(0, .ref h0), (1, .ref h1), (2, .int x2)] → fX8_followTold_L2 F v_p1_windCount v_p1_windHighs v_p1_windLows v_p1_windQuarters n x2 v_highs v_lows = some out → W p l e ({ frames := 1, cells := 0, slots := 0, locals := 25 } : Room) s m ([.ref h0, .ref h1] : List Value).toArray below meth c H locs 0 0 Q (F0 m 2 ls []) := by
    intro n
    induction n with
    | zero =>
      intro H locs ls x2 v_highs v_lows hP hD hS hl hf
      cases hf
    | succ n ih =>
      intro H locs ls x2 v_highs v_lows hP hD hS hl hf
      rw [fX8_followTold_L2] at hf
      refine lv_iload_n hx hb dX8_followTold_2 rfl (lv_at hl 2 rfl) ?_
      refine lv_bipush (v := 48) hx hb dX8_followTold_3 (by decide) ?_
      refine lv_icmp_ge (tgt := 62) hx hb dX8_followTold_5 (by decide) (fun c_8 => ?_) (fun c_8 => ?_)
      · have hf := oi_t hf c_8
        exact hRet (v_highs, v_lows) H locs ls 62 (Option.some.inj hf) hP hD hS dX8_followTold_62
      · have hf := oi_f hf c_8
        refine lv_aload_n hx hb dX8_followTold_8 rfl (lv_at hl 1 rfl) ?_
        refine lv_iload_n hx hb dX8_followTold_9 rfl (lv_at hl 2 rfl) ?_
        obtain ⟨o_9, ho_9, hf⟩ := ob_some hf
        refine ca_S (As := [.ref h1, .int x2]) (rest := []) (wr := [(h0, .inr (8, [.ref h6, .ref h5])), (h2, .inl (q0, 12, .inl v_p1_windHighs)), (h3, .inl (q1, 12, .inl v_p1_windLows)), (h5, .inl (q3, 48, .inl v_highs)), (h6, .inl (q4, 48, .inl v_lows))]) (wn := [(h0, .inr (8, [.ref h6, .ref h5])), (h1, .inr (7, [g_p1_xs, g_p1_heights, g_p1_froms, g_p1_tos, g_p1_smokeCounts, g_p1_smokes, g_p1_litIn, .ref h4, .ref h3, .ref h2, .int v_p1_chimneys, .int v_p1_windCount, .int v_p1_layer, .int v_p1_thick, .int v_p1_fine, .int v_p1_lines])), (h2, .inl (q0, 12, .inl v_p1_windHighs)), (h3, .inl (q1, 12, .inl v_p1_windLows)), (h4, .inl (q2, 12, .inl v_p1_windQuarters)), (h5, .inl (q3, 48, .inl v_highs)), (h6, .inl (q4, 48, .inl v_lows))]) ⟨hx, hb, hml, hown, hts⟩ (ctX8_latestTold l dC dI F H.size h1 h4 q2 (g_p1_xs) (g_p1_heights) (g_p1_froms) (g_p1_tos) (g_p1_smokeCounts) (g_p1_smokes) (g_p1_litIn) (.ref h3) (.ref h2) v_p1_chimneys v_p1_windCount v_p1_layer v_p1_thick v_p1_fine v_p1_lines v_p1_windQuarters x2 o_9 ho_9) ⟨mC_X8_latestTold, mN_X8, md_X8_latestTold, ⟨rfl, rfl⟩, ⟨Nat.le_of_ble_eq_true rfl, Nat.le_of_ble_eq_true rfl⟩⟩ mM_X8_18 mT_X8_latestTold hK hN hP hD hS hA [2] [1, 4] [0, 2, 3, 5, 6] [0, 5, 1, 2, 6, 3, 4] rfl rfl rfl ⟨by decide, by decide, by decide, by decide⟩ rfl rfl hl.1 (Nat.le_of_ble_eq_true rfl) ⟨Nat.zero_le _, Nat.zero_le _⟩ dX8_followTold_10 (fun H locs hP hD hS => ?_)
        refine lv_istore_n (lv' := [(3, .int o_9), (0, .ref h0), (1, .ref h1), (2, .int x2)]) hx hb dX8_followTold_13 rfl hl (by decide) rfl (fun ls hl => ?_)
        refine lv_aload_n hx hb dX8_followTold_14 rfl (lv_at hl 1 rfl) ?_
        refine va_get (D := (dC, dI)) (ci := 8) (v := .ref h6) (C := RX8) (T := TX8) (N := 2) hx hb htb inG8 hown hK hP 0 rfl rfl 0 (by decide) (htb _ mF_X8_9) (fun _ h9 => h9) rfl dX8_followTold_15 ?_
        refine lv_iload_n hx hb dX8_followTold_18 rfl (lv_at hl 3 rfl) ?_
        refine lv_iload_n hx hb dX8_followTold_19 rfl (lv_at hl 0 rfl) ?_
        refine lv_iconst (v := -1) hx hb dX8_followTold_20 (by decide) ?_
        refine lv_icmp_ne (tgt := 28) hx hb dX8_followTold_21 (by decide) (fun c_10 => ?_) (fun c_10 => ?_)
        · have hf := oi_f hf c_10
          refine lv_aload_n hx hb dX8_followTold_28 rfl (lv_at hl 2 rfl) ?_
          refine va_get (D := (dC, dI)) (ci := 7) (v := .ref h3) (C := RX7) (T := TX7) (N := 16) hx hb htb inG7 hown hK hP 1 rfl rfl 8 (by decide) (htb _ mF_X8_22) (fun _ h9 => h9) rfl dX8_followTold_29 ?_
          refine lv_iload_n hx hb dX8_followTold_32 rfl (lv_at hl 0 rfl) ?_
          obtain ⟨b_11, hf⟩ := og_some hf
          refine va_iald hx hb hK hP 3 1 rfl rfl (vb_ok b_11) dX8_followTold_33 ?_
          exact L34 (fun x2 v_highs v_lows => fX8_followTold_L2 F v_p1_windCount v_p1_windHighs v_p1_windLows v_p1_windQuarters n x2 v_highs v_lows) ih H locs ls x2 o_9 (v_p1_windLows o_9.toNatClampNeg) x2 v_highs v_lows hP hD hS (lv_sub hl [1, 2, 3, 0] rfl) hf
        · have hf := oi_t hf c_10
          refine lv_iconst (v := 3) hx hb dX8_followTold_24 (by decide) ?_
          refine lv_goto (tgt := 34) hx hb dX8_followTold_25 (by decide) ?_
          exact L34 (fun x2 v_highs v_lows => fX8_followTold_L2 F v_p1_windCount v_p1_windHighs v_p1_windLows v_p1_windQuarters n x2 v_highs v_lows) ih H locs ls x2 o_9 (3 : Int32) x2 v_highs v_lows hP hD hS (lv_sub hl [1, 2, 3, 0] rfl) hf
  suffices K0 : ∀ (H : Heap) (locs : List Loc), va_P (dC, dI) vwCl [(h0, .inr (8, [.ref h6, .ref h5])), (h1, .inr (7, [g_p1_xs, g_p1_heights, g_p1_froms, g_p1_tos, g_p1_smokeCounts, g_p1_smokes, g_p1_litIn, .ref h4, .ref h3, .ref h2, .int v_p1_chimneys, .int v_p1_windCount, .int v_p1_layer, .int v_p1_thick, .int v_p1_fine, .int v_p1_lines])), (h2, .inl (q0, 12, .inl v_p1_windHighs)), (h3, .inl (q1, 12, .inl v_p1_windLows)), (h4, .inl (q2, 12, .inl v_p1_windQuarters)), (h5, .inl (q3, 48, .inl v_highs)), (h6, .inl (q4, 48, .inl v_lows))] H → va_D A [(h0, .inr (8, [.ref h6, .ref h5])), (h1, .inr (7, [g_p1_xs, g_p1_heights, g_p1_froms, g_p1_tos, g_p1_smokeCounts, g_p1_smokes, g_p1_litIn, .ref h4, .ref h3, .ref h2, .int v_p1_chimneys, .int v_p1_windCount, .int v_p1_layer, .int v_p1_thick, .int v_p1_fine, .int v_p1_lines])), (h2, .inl (q0, 12, .inl v_p1_windHighs)), (h3, .inl (q1, 12, .inl v_p1_windLows)), (h4, .inl (q2, 12, .inl v_p1_windQuarters)), (h5, .inl (q3, 48, .inl v_highs)), (h6, .inl (q4, 48, .inl v_lows))] → va_S A s.heap H locs → W p l e ({ frames := 1, cells := 0, slots := 0, locals := 25 } : Room) s m ([.ref h0, .ref h1] : List Value).toArray below meth c H locs 0 0 Q (F0 m 0 ls []) from K0 s.heap [] hP hD hS
  clear hP hD hS
  intro H locs hP hD hS
  unfold fX8_followTold at hf
  refine lv_iconst (v := 0) hx hb dX8_followTold_0 (by decide) ?_
  refine lv_istore_n (lv' := [(2, .int (0 : Int32)), (0, .ref h0), (1, .ref h1)]) hx hb dX8_followTold_1 rfl hl (by decide) rfl (fun ls hl => ?_)
  exact L2 F H locs ls (0 : Int32) v_highs v_lows hP hD hS (lv_sub hl [1, 2, 0] rfl) hf
