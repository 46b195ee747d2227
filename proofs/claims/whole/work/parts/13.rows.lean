def fX3_hasPlace (F : Nat) (v_size : Int32) (a1 : Int32) : Option (Int32) := if a1 < 0 then (some (0 : Int32)) else (if v_size ≤ a1 then (some (0 : Int32)) else (some (1 : Int32)))
set_option maxRecDepth 100000 in
set_option maxHeartbeats 4000000 in
theorem ctX3_hasPlace (l : Launch) (dC : Nat → ClassId) (dI : Nat → Nat → Nat) (F sz : Nat) (h0 : Nat) (g_values : Value) (v_sort : Int32) (v_size : Int32) (a1 : Int32) (out : Int32) (hf : fX3_hasPlace F v_size a1 = some out)  : cM l yX3_hasPlace cX3_hasPlace 2 (some .boolean) ({ frames := 0, cells := 0, slots := 0, locals := 0 } : Room) (dC, dI) [] [(h0, .inr (3, [g_values, .int v_sort, .int v_size]))] [.ref h0, .int a1] sz (some (.int out)) [(h0, .inr (3, [g_values, .int v_sort, .int v_size]))] := by
  refine cM_I RX3 ⟨by decide, rfl⟩ (Nat.le_of_ble_eq_true rfl) ?_
  intro p e s m below meth c A Q ls hx hb hml hown hts hK hN hA hP hD hS hl hRet
  have htb : ∀ w ∈ lw_g, w.before ([.ref h0, .int a1] : List Value).toArray s = true := fun w h => hts w (List.mem_cons_of_mem _ h)
  have hl : lv_has ls 2 [(0, .ref h0), (1, .int a1)] := hl
  have hRet : ∀ (o : Int32) (H : Heap) (locs : List Loc) (ls : Array Slot) (pc : Nat), o = out → va_P (dC, dI) vwCl [(h0, .inr (3, [g_values, .int v_sort, .int v_size]))] H → va_D A [(h0, .inr (3, [g_values, .int v_sort, .int v_size]))] → va_S A s.heap H locs → narrow .boolean (.int o) = .int o → decode cX3_hasPlace pc = .ok (.ireturn, 1) → W p l e ({ frames := 0, cells := 0, slots := 0, locals := 0 } : Room) s m ([.ref h0, .int a1] : List Value).toArray below meth c H locs 0 0 Q (F0 m pc ls [.int o]) := fun o H locs ls pc ho => by subst ho; exact hRet H locs ls pc
  suffices K0 : ∀ (H : Heap) (locs : List Loc), va_P (dC, dI) vwCl [(h0, .inr (3, [g_values, .int v_sort, .int v_size]))] H → va_D A [(h0, .inr (3, [g_values, .int v_sort, .int v_size]))] → va_S A s.heap H locs → W p l e ({ frames := 0, cells := 0, slots := 0, locals := 0 } : Room) s m ([.ref h0, .int a1] : List Value).toArray below meth c H locs 0 0 Q (F0 m 0 ls []) from K0 s.heap [] hP hD hS
  clear hP hD hS
  intro H locs hP hD hS
  unfold fX3_hasPlace at hf
  refine lv_iload_n hx hb dX3_hasPlace_0 rfl (lv_at hl 1 rfl) ?_
  refine lv_if_lt (tgt := 16) hx hb dX3_hasPlace_1 (by decide) (fun c_1 => ?_) (fun c_1 => ?_)
  · have hf := oi_t hf c_1
    refine lv_iconst (v := 0) hx hb dX3_hasPlace_16 (by decide) ?_
    exact hRet (0 : Int32) H locs ls 17 (Option.some.inj hf) hP hD hS nar0 dX3_hasPlace_17
  · have hf := oi_f hf c_1
    refine lv_iload_n hx hb dX3_hasPlace_4 rfl (lv_at hl 1 rfl) ?_
    refine lv_aload_n hx hb dX3_hasPlace_5 rfl (lv_at hl 0 rfl) ?_
    refine va_get (D := (dC, dI)) (ci := 3) (v := .int v_size) (C := RX3) (T := TX3) (N := 3) hx hb htb inG3 hown hK hP 0 rfl rfl 2 (by decide) (htb _ mF_X3_15) (fun _ h9 => h9) rfl dX3_hasPlace_6 ?_
    refine lv_icmp_ge (tgt := 16) hx hb dX3_hasPlace_9 (by decide) (fun c_2 => ?_) (fun c_2 => ?_)
    · have hf := oi_t hf c_2
      refine lv_iconst (v := 0) hx hb dX3_hasPlace_16 (by decide) ?_
      exact hRet (0 : Int32) H locs ls 17 (Option.some.inj hf) hP hD hS nar0 dX3_hasPlace_17
    · have hf := oi_f hf c_2
      refine lv_iconst (v := 1) hx hb dX3_hasPlace_12 (by decide) ?_
      refine lv_goto (tgt := 17) hx hb dX3_hasPlace_13 (by decide) ?_
      exact hRet (1 : Int32) H locs ls 17 (Option.some.inj hf) hP hD hS nar1 dX3_hasPlace_17
def fX3_at (F : Nat) (v_size : Int32) (v_values : Nat → Int64) (a1 : Int32) : Option (Int64) := ob (fX3_hasPlace F v_size a1) (fun o_1 => if o_1 = 0 then (some (0 : Int64)) else (og (vb a1 40) (some (v_values a1.toNatClampNeg))))
set_option maxRecDepth 100000 in
set_option maxHeartbeats 4000000 in
theorem ctX3_at (l : Launch) (dC : Nat → ClassId) (dI : Nat → Nat → Nat) (F sz : Nat) (h0 h1 : Nat) (q0 : ClassId) (v_sort : Int32) (v_size : Int32) (v_values : Nat → Int64) (a1 : Int32) (out : Int64) (hf : fX3_at F v_size v_values a1 = some out)  : cM l yX3_at cX3_at 2 (some .long) ({ frames := 1, cells := 0, slots := 0, locals := 21 } : Room) (dC, dI) [(q0, .long)] [(h0, .inr (3, [.ref h1, .int v_sort, .int v_size])), (h1, .inl (q0, 40, .inr (.inl v_values)))] [.ref h0, .int a1] sz (some (.long out)) [(h0, .inr (3, [.ref h1, .int v_sort, .int v_size])), (h1, .inl (q0, 40, .inr (.inl v_values)))] := by
  refine cM_J RX3 ⟨by decide, rfl⟩ (Nat.le_of_ble_eq_true rfl) ?_
  intro p e s m below meth c A Q ls hx hb hml hown hts hK hN hA hP hD hS hl hRet
  have htb : ∀ w ∈ lw_g, w.before ([.ref h0, .int a1] : List Value).toArray s = true := fun w h => hts w (List.mem_cons_of_mem _ h)
  have hl : lv_has ls 2 [(0, .ref h0), (1, .int a1)] := hl
  have hRet : ∀ (o : Int64) (H : Heap) (locs : List Loc) (ls : Array Slot) (pc : Nat), o = out → va_P (dC, dI) vwCl [(h0, .inr (3, [.ref h1, .int v_sort, .int v_size])), (h1, .inl (q0, 40, .inr (.inl v_values)))] H → va_D A [(h0, .inr (3, [.ref h1, .int v_sort, .int v_size])), (h1, .inl (q0, 40, .inr (.inl v_values)))] → va_S A s.heap H locs → decode cX3_at pc = .ok (.lreturn, 1) → W p l e ({ frames := 1, cells := 0, slots := 0, locals := 21 } : Room) s m ([.ref h0, .int a1] : List Value).toArray below meth c H locs 0 0 Q (F0 m pc ls [.long o]) := fun o H locs ls pc ho => by subst ho; exact hRet H locs ls pc
  suffices K0 : ∀ (H : Heap) (locs : List Loc), va_P (dC, dI) vwCl [(h0, .inr (3, [.ref h1, .int v_sort, .int v_size])), (h1, .inl (q0, 40, .inr (.inl v_values)))] H → va_D A [(h0, .inr (3, [.ref h1, .int v_sort, .int v_size])), (h1, .inl (q0, 40, .inr (.inl v_values)))] → va_S A s.heap H locs → W p l e ({ frames := 1, cells := 0, slots := 0, locals := 21 } : Room) s m ([.ref h0, .int a1] : List Value).toArray below meth c H locs 0 0 Q (F0 m 0 ls []) from K0 s.heap [] hP hD hS
  clear hP hD hS
  intro H locs hP hD hS
  unfold fX3_at at hf
  refine lv_aload_n hx hb dX3_at_0 rfl (lv_at hl 0 rfl) ?_
  refine lv_iload_n hx hb dX3_at_1 rfl (lv_at hl 1 rfl) ?_
  obtain ⟨o_1, ho_1, hf⟩ := ob_some hf
  refine ca_V (As := [.int a1]) (rest := []) (wr := [(h1, .inl (q0, 40, .inr (.inl v_values)))]) (wn := [(h0, .inr (3, [.ref h1, .int v_sort, .int v_size])), (h1, .inl (q0, 40, .inr (.inl v_values)))]) ⟨hx, hb, hml, hown, hts⟩ (ctX3_hasPlace l dC dI F H.size h0 (.ref h1) v_sort v_size a1 o_1 ho_1) ⟨mC_X3_hasPlace, mN_X3, md_X3_hasPlace, ⟨rfl, rfl⟩, ⟨Nat.le_of_ble_eq_true rfl, Nat.le_of_ble_eq_true rfl⟩⟩ mM_X3_28 mI_X3_hasPlace mS_X3_hasPlace hK hN hP hD hS hA [] [0] [1] [1, 0] rfl rfl rfl ⟨by decide, by decide, by decide, by decide⟩ rfl 0 3 rfl rfl rfl hl.1 (Nat.le_of_ble_eq_true rfl) ⟨Nat.zero_le _, Nat.zero_le _⟩ dX3_at_2 (fun H locs hP hD hS => ?_)
  refine lv_if_eq (tgt := 17) hx hb dX3_at_5 (by decide) (fun c_2 => ?_) (fun c_2 => ?_)
  · have hf := oi_t hf c_2
    refine lv_lconst (v := 0) hx hb dX3_at_17 (by decide) ?_
    exact hRet (0 : Int64) H locs ls 18 (Option.some.inj hf) hP hD hS dX3_at_18
  · have hf := oi_f hf c_2
    refine lv_aload_n hx hb dX3_at_8 rfl (lv_at hl 0 rfl) ?_
    refine va_get (D := (dC, dI)) (ci := 3) (v := .ref h1) (C := RX3) (T := TX3) (N := 3) hx hb htb inG3 hown hK hP 0 rfl rfl 0 (by decide) (htb _ mF_X3_9) (fun _ h9 => h9) rfl dX3_at_9 ?_
    refine lv_iload_n hx hb dX3_at_12 rfl (lv_at hl 1 rfl) ?_
    obtain ⟨b_3, hf⟩ := og_some hf
    refine va_lald hx hb hK hP 1 0 rfl rfl (vb_ok b_3) dX3_at_13 ?_
    refine lv_goto (tgt := 18) hx hb dX3_at_14 (by decide) ?_
    exact hRet (v_values a1.toNatClampNeg) H locs ls 18 (Option.some.inj hf) hP hD hS dX3_at_18
def fX3_isMissing (F : Nat) (v_size : Int32)  : Option (Int32) := if v_size = (-1 : Int32) then (some (1 : Int32)) else (some (0 : Int32))
set_option maxRecDepth 100000 in
set_option maxHeartbeats 4000000 in
theorem ctX3_isMissing (l : Launch) (dC : Nat → ClassId) (dI : Nat → Nat → Nat) (F sz : Nat) (h0 : Nat) (g_values : Value) (v_sort : Int32) (v_size : Int32)  (out : Int32) (hf : fX3_isMissing F v_size = some out)  : cM l yX3_isMissing cX3_isMissing 1 (some .boolean) ({ frames := 0, cells := 0, slots := 0, locals := 0 } : Room) (dC, dI) [] [(h0, .inr (3, [g_values, .int v_sort, .int v_size]))] [.ref h0] sz (some (.int out)) [(h0, .inr (3, [g_values, .int v_sort, .int v_size]))] := by
  refine cM_I RX3 ⟨by decide, rfl⟩ (Nat.le_of_ble_eq_true rfl) ?_
  intro p e s m below meth c A Q ls hx hb hml hown hts hK hN hA hP hD hS hl hRet
  have htb : ∀ w ∈ lw_g, w.before ([.ref h0] : List Value).toArray s = true := fun w h => hts w (List.mem_cons_of_mem _ h)
  have hl : lv_has ls 1 [(0, .ref h0)] := hl
  have hRet : ∀ (o : Int32) (H : Heap) (locs : List Loc) (ls : Array Slot) (pc : Nat), o = out → va_P (dC, dI) vwCl [(h0, .inr (3, [g_values, .int v_sort, .int v_size]))] H → va_D A [(h0, .inr (3, [g_values, .int v_sort, .int v_size]))] → va_S A s.heap H locs → narrow .boolean (.int o) = .int o → decode cX3_isMissing pc = .ok (.ireturn, 1) → W p l e ({ frames := 0, cells := 0, slots := 0, locals := 0 } : Room) s m ([.ref h0] : List Value).toArray below meth c H locs 0 0 Q (F0 m pc ls [.int o]) := fun o H locs ls pc ho => by subst ho; exact hRet H locs ls pc
  suffices K0 : ∀ (H : Heap) (locs : List Loc), va_P (dC, dI) vwCl [(h0, .inr (3, [g_values, .int v_sort, .int v_size]))] H → va_D A [(h0, .inr (3, [g_values, .int v_sort, .int v_size]))] → va_S A s.heap H locs → W p l e ({ frames := 0, cells := 0, slots := 0, locals := 0 } : Room) s m ([.ref h0] : List Value).toArray below meth c H locs 0 0 Q (F0 m 0 ls []) from K0 s.heap [] hP hD hS
  clear hP hD hS
  intro H locs hP hD hS
  unfold fX3_isMissing at hf
  refine lv_aload_n hx hb dX3_isMissing_0 rfl (lv_at hl 0 rfl) ?_
  refine va_get (D := (dC, dI)) (ci := 3) (v := .int v_size) (C := RX3) (T := TX3) (N := 3) hx hb htb inG3 hown hK hP 0 rfl rfl 2 (by decide) (htb _ mF_X3_15) (fun _ h9 => h9) rfl dX3_isMissing_1 ?_
  refine lv_iconst (v := -1) hx hb dX3_isMissing_4 (by decide) ?_
  refine lv_icmp_ne (tgt := 12) hx hb dX3_isMissing_5 (by decide) (fun c_1 => ?_) (fun c_1 => ?_)
  · have hf := oi_f hf c_1
    refine lv_iconst (v := 0) hx hb dX3_isMissing_12 (by decide) ?_
    exact hRet (0 : Int32) H locs ls 13 (Option.some.inj hf) hP hD hS nar0 dX3_isMissing_13
  · have hf := oi_t hf c_1
    refine lv_iconst (v := 1) hx hb dX3_isMissing_8 (by decide) ?_
    refine lv_goto (tgt := 13) hx hb dX3_isMissing_9 (by decide) ?_
    exact hRet (1 : Int32) H locs ls 13 (Option.some.inj hf) hP hD hS nar1 dX3_isMissing_13
def fX3_begin (F : Nat) (v_sort : Int32) (v_size : Int32) (v_values : Nat → Int64) (a1 : Int32) (a2 : Int32) : Option (Int32 × Int32 × (Nat → Int64)) := ob (fJ7_fill_d0a16 F 40 v_values (0 : Int64)) (fun o_1 => some (a1, a2, o_1))
set_option maxRecDepth 100000 in
set_option maxHeartbeats 4000000 in
theorem ctX3_begin (l : Launch) (dC : Nat → ClassId) (dI : Nat → Nat → Nat) (F sz : Nat) (h0 h1 : Nat) (q0 : ClassId) (v_sort : Int32) (v_size : Int32) (v_values : Nat → Int64) (a1 : Int32) (a2 : Int32) (out : Int32 × Int32 × (Nat → Int64)) (hf : fX3_begin F v_sort v_size v_values a1 a2 = some out)  : cM l yX3_begin cX3_begin 3 none ({ frames := 1, cells := 0, slots := 0, locals := 24 } : Room) (dC, dI) [(q0, .long)] [(h0, .inr (3, [.ref h1, .int v_sort, .int v_size])), (h1, .inl (q0, 40, .inr (.inl v_values)))] [.ref h0, .int a1, .int a2] sz none [(h0, .inr (3, [.ref h1, .int out.1, .int out.2.1])), (h1, .inl (q0, 40, .inr (.inl out.2.2)))] := by
  refine cM_V RX3 ⟨by decide, rfl⟩ (Nat.le_of_ble_eq_true rfl) ?_
  intro p e s m below meth c A Q ls hx hb hml hown hts hK hN hA hP hD hS hl hRet
  have htb : ∀ w ∈ lw_g, w.before ([.ref h0, .int a1, .int a2] : List Value).toArray s = true := fun w h => hts w (List.mem_cons_of_mem _ h)
  have hl : lv_has ls 3 [(0, .ref h0), (1, .int a1), (2, .int a2)] := hl
  have hRet : ∀ (o : Int32 × Int32 × (Nat → Int64)) (H : Heap) (locs : List Loc) (ls : Array Slot) (pc : Nat), o = out → va_P (dC, dI) vwCl [(h0, .inr (3, [.ref h1, .int o.1, .int o.2.1])), (h1, .inl (q0, 40, .inr (.inl o.2.2)))] H → va_D A [(h0, .inr (3, [.ref h1, .int o.1, .int o.2.1])), (h1, .inl (q0, 40, .inr (.inl o.2.2)))] → va_S A s.heap H locs → decode cX3_begin pc = .ok (.return_, 1) → W p l e ({ frames := 1, cells := 0, slots := 0, locals := 24 } : Room) s m ([.ref h0, .int a1, .int a2] : List Value).toArray below meth c H locs 0 0 Q (F0 m pc ls []) := fun o H locs ls pc ho => by subst ho; exact hRet H locs ls pc
  suffices K0 : ∀ (H : Heap) (locs : List Loc), va_P (dC, dI) vwCl [(h0, .inr (3, [.ref h1, .int v_sort, .int v_size])), (h1, .inl (q0, 40, .inr (.inl v_values)))] H → va_D A [(h0, .inr (3, [.ref h1, .int v_sort, .int v_size])), (h1, .inl (q0, 40, .inr (.inl v_values)))] → va_S A s.heap H locs → W p l e ({ frames := 1, cells := 0, slots := 0, locals := 24 } : Room) s m ([.ref h0, .int a1, .int a2] : List Value).toArray below meth c H locs 0 0 Q (F0 m 0 ls []) from K0 s.heap [] hP hD hS
  clear hP hD hS
  intro H locs hP hD hS
  unfold fX3_begin at hf
  refine lv_aload_n hx hb dX3_begin_0 rfl (lv_at hl 0 rfl) ?_
  refine lv_iload_n hx hb dX3_begin_1 rfl (lv_at hl 1 rfl) ?_
  refine va_put (D := (dC, dI)) (ci := 3) (v := .int a1) (ty := .int) (C := RX3) (T := TX3) (N := 3) hx hb htb inG3 tyX3 tyX3_ok nmX3 hown hK hP hD hS 0 rfl rfl 1 (by decide) (htb _ mF_X3_19) (fun _ h9 => h9) rfl (by decide +kernel) rfl rfl (Nat.le_of_ble_eq_true rfl) dX3_begin_2 (fun H locs hP hD hS => ?_)
  have hP : va_P (dC, dI) vwCl [(h0, .inr (3, [.ref h1, .int a1, .int v_size])), (h1, .inl (q0, 40, .inr (.inl v_values)))] H := hP
  have hD : va_D A [(h0, .inr (3, [.ref h1, .int a1, .int v_size])), (h1, .inl (q0, 40, .inr (.inl v_values)))] := hD
  refine lv_aload_n hx hb dX3_begin_5 rfl (lv_at hl 0 rfl) ?_
  refine lv_iload_n hx hb dX3_begin_6 rfl (lv_at hl 2 rfl) ?_
  refine va_put (D := (dC, dI)) (ci := 3) (v := .int a2) (ty := .int) (C := RX3) (T := TX3) (N := 3) hx hb htb inG3 tyX3 tyX3_ok nmX3 hown hK hP hD hS 0 rfl rfl 2 (by decide) (htb _ mF_X3_15) (fun _ h9 => h9) rfl (by decide +kernel) rfl rfl (Nat.le_of_ble_eq_true rfl) dX3_begin_7 (fun H locs hP hD hS => ?_)
  have hP : va_P (dC, dI) vwCl [(h0, .inr (3, [.ref h1, .int a1, .int a2])), (h1, .inl (q0, 40, .inr (.inl v_values)))] H := hP
  have hD : va_D A [(h0, .inr (3, [.ref h1, .int a1, .int a2])), (h1, .inl (q0, 40, .inr (.inl v_values)))] := hD
  refine lv_aload_n hx hb dX3_begin_10 rfl (lv_at hl 0 rfl) ?_
  refine va_get (D := (dC, dI)) (ci := 3) (v := .ref h1) (C := RX3) (T := TX3) (N := 3) hx hb htb inG3 hown hK hP 0 rfl rfl 0 (by decide) (htb _ mF_X3_9) (fun _ h9 => h9) rfl dX3_begin_11 ?_
  refine lv_lconst (v := 0) hx hb dX3_begin_14 (by decide) ?_
  obtain ⟨o_1, ho_1, hf⟩ := ob_some hf
  refine ca_S (As := [.ref h1, .long (0 : Int64)]) (rest := []) (wr := [(h0, .inr (3, [.ref h1, .int a1, .int a2]))]) (wn := [(h0, .inr (3, [.ref h1, .int a1, .int a2])), (h1, .inl (q0, 40, .inr (.inl o_1)))]) ⟨hx, hb, hml, hown, hts⟩ (ctJ7_fill_d0a16 l dC dI F H.size h1 q0 40 v_values (0 : Int64) o_1 ho_1) ⟨mC_J7_fill_d0a16, mN_J7, md_J7_fill_d0a16, ⟨rfl, rfl⟩, ⟨Nat.le_of_ble_eq_true rfl, Nat.le_of_ble_eq_true rfl⟩⟩ mM_X3_22 mT_J7_fill_d0a16 hK hN hP hD hS hA [0] [1] [0] [0, 1] rfl rfl rfl ⟨by decide, by decide, by decide, by decide⟩ rfl rfl hl.1 (Nat.le_of_ble_eq_true rfl) ⟨Nat.zero_le _, Nat.zero_le _⟩ dX3_begin_15 (fun H locs hP hD hS => ?_)
  exact hRet (a1, a2, o_1) H locs ls 18 (Option.some.inj hf) hP hD hS dX3_begin_18
def fX3_cut (F : Nat) (v_sort : Int32) (a1 : Int64) : Option (Int64) := if v_sort = 0 then (some ((((((a1 : Int64).toInt32) : Int32).toInt8.toInt32) : Int32).toInt64)) else (if v_sort = 1 then (some ((((((a1 : Int64).toInt32) : Int32).toInt16.toInt32) : Int32).toInt64)) else (if v_sort = 2 then (some ((((a1 : Int64).toInt32) : Int32).toInt64)) else (some a1)))
set_option maxRecDepth 100000 in
set_option maxHeartbeats 4000000 in
theorem ctX3_cut (l : Launch) (dC : Nat → ClassId) (dI : Nat → Nat → Nat) (F sz : Nat) (h0 : Nat) (g_values : Value) (v_sort : Int32) (v_size : Int32) (a1 : Int64) (out : Int64) (hf : fX3_cut F v_sort a1 = some out)  : cM l yX3_cut cX3_cut 3 (some .long) ({ frames := 0, cells := 0, slots := 0, locals := 0 } : Room) (dC, dI) [] [(h0, .inr (3, [g_values, .int v_sort, .int v_size]))] [.ref h0, .long a1] sz (some (.long out)) [(h0, .inr (3, [g_values, .int v_sort, .int v_size]))] := by
  refine cM_J RX3 ⟨by decide, rfl⟩ (Nat.le_of_ble_eq_true rfl) ?_
  intro p e s m below meth c A Q ls hx hb hml hown hts hK hN hA hP hD hS hl hRet
  have htb : ∀ w ∈ lw_g, w.before ([.ref h0, .long a1] : List Value).toArray s = true := fun w h => hts w (List.mem_cons_of_mem _ h)
  have hl : lv_has ls 3 [(0, .ref h0), (1, .long a1)] := hl
  have hRet : ∀ (o : Int64) (H : Heap) (locs : List Loc) (ls : Array Slot) (pc : Nat), o = out → va_P (dC, dI) vwCl [(h0, .inr (3, [g_values, .int v_sort, .int v_size]))] H → va_D A [(h0, .inr (3, [g_values, .int v_sort, .int v_size]))] → va_S A s.heap H locs → decode cX3_cut pc = .ok (.lreturn, 1) → W p l e ({ frames := 0, cells := 0, slots := 0, locals := 0 } : Room) s m ([.ref h0, .long a1] : List Value).toArray below meth c H locs 0 0 Q (F0 m pc ls [.long o]) := fun o H locs ls pc ho => by subst ho; exact hRet H locs ls pc
  suffices K0 : ∀ (H : Heap) (locs : List Loc), va_P (dC, dI) vwCl [(h0, .inr (3, [g_values, .int v_sort, .int v_size]))] H → va_D A [(h0, .inr (3, [g_values, .int v_sort, .int v_size]))] → va_S A s.heap H locs → W p l e ({ frames := 0, cells := 0, slots := 0, locals := 0 } : Room) s m ([.ref h0, .long a1] : List Value).toArray below meth c H locs 0 0 Q (F0 m 0 ls []) from K0 s.heap [] hP hD hS
  clear hP hD hS
  intro H locs hP hD hS
  unfold fX3_cut at hf
  refine lv_aload_n hx hb dX3_cut_0 rfl (lv_at hl 0 rfl) ?_
  refine va_get (D := (dC, dI)) (ci := 3) (v := .int v_sort) (C := RX3) (T := TX3) (N := 3) hx hb htb inG3 hown hK hP 0 rfl rfl 1 (by decide) (htb _ mF_X3_19) (fun _ h9 => h9) rfl dX3_cut_1 ?_
  by_cases c_10 : v_sort = 0
  · have hf := oi_t hf c_10
    refine lv_tableIn (off := 28) (tgt := 32) hx hb dX3_cut_4 (by rw [c_10]; decide) (by rw [c_10]; decide) (by rw [c_10]; rfl) (by decide) ?_
    refine lv_lload_n hx hb dX3_cut_32 rfl (lv_at hl 1 rfl) ?_
    refine lv_l2i hx hb dX3_cut_33 rfl ?_
    refine lv_i2b hx hb dX3_cut_34 rfl ?_
    refine lv_i2l hx hb dX3_cut_35 rfl ?_
    exact hRet ((((((a1 : Int64).toInt32) : Int32).toInt8.toInt32) : Int32).toInt64) H locs ls 36 (Option.some.inj hf) hP hD hS dX3_cut_36
  have hf := oi_f hf c_10
  by_cases c_11 : v_sort = 1
  · have hf := oi_t hf c_11
    refine lv_tableIn (off := 33) (tgt := 37) hx hb dX3_cut_4 (by rw [c_11]; decide) (by rw [c_11]; decide) (by rw [c_11]; rfl) (by decide) ?_
    refine lv_lload_n hx hb dX3_cut_37 rfl (lv_at hl 1 rfl) ?_
    refine lv_l2i hx hb dX3_cut_38 rfl ?_
    refine lv_i2s hx hb dX3_cut_39 rfl ?_
    refine lv_i2l hx hb dX3_cut_40 rfl ?_
    exact hRet ((((((a1 : Int64).toInt32) : Int32).toInt16.toInt32) : Int32).toInt64) H locs ls 41 (Option.some.inj hf) hP hD hS dX3_cut_41
  have hf := oi_f hf c_11
  by_cases c_12 : v_sort = 2
  · have hf := oi_t hf c_12
    refine lv_tableIn (off := 38) (tgt := 42) hx hb dX3_cut_4 (by rw [c_12]; decide) (by rw [c_12]; decide) (by rw [c_12]; rfl) (by decide) ?_
    refine lv_lload_n hx hb dX3_cut_42 rfl (lv_at hl 1 rfl) ?_
    refine lv_l2i hx hb dX3_cut_43 rfl ?_
    refine lv_i2l hx hb dX3_cut_44 rfl ?_
    exact hRet ((((a1 : Int64).toInt32) : Int32).toInt64) H locs ls 45 (Option.some.inj hf) hP hD hS dX3_cut_45
  have hf := oi_f hf c_12
  refine lv_tableOut (tgt := 46) hx hb dX3_cut_4 (sw_out3 c_10 c_11 c_12) (by decide) ?_
  refine lv_lload_n hx hb dX3_cut_46 rfl (lv_at hl 1 rfl) ?_
  exact hRet a1 H locs ls 47 (Option.some.inj hf) hP hD hS dX3_cut_47
def fX3_put (F : Nat) (v_sort : Int32) (v_size : Int32) (v_values : Nat → Int64) (a1 : Int32) (a2 : Int64) : Option (Int64 × (Nat → Int64)) := ob (fX3_hasPlace F v_size a1) (fun o_1 => if o_1 = 0 then (some ((0 : Int64), v_values)) else (ob (fX3_cut F v_sort a2) (fun o_3 => og (vb a1 40) (ol (vp_updL v_values a1.toNatClampNeg o_3) (fun v_values_5 => og (vb a1 40) (some ((v_values_5 a1.toNatClampNeg), v_values_5)))))))
set_option maxRecDepth 100000 in
set_option maxHeartbeats 4000000 in
theorem ctX3_put (l : Launch) (dC : Nat → ClassId) (dI : Nat → Nat → Nat) (F sz : Nat) (h0 h1 : Nat) (q0 : ClassId) (v_sort : Int32) (v_size : Int32) (v_values : Nat → Int64) (a1 : Int32) (a2 : Int64) (out : Int64 × (Nat → Int64)) (hf : fX3_put F v_sort v_size v_values a1 a2 = some out)  : cM l yX3_put cX3_put 4 (some .long) ({ frames := 1, cells := 0, slots := 0, locals := 22 } : Room) (dC, dI) [(q0, .long)] [(h0, .inr (3, [.ref h1, .int v_sort, .int v_size])), (h1, .inl (q0, 40, .inr (.inl v_values)))] [.ref h0, .int a1, .long a2] sz (some (.long out.1)) [(h0, .inr (3, [.ref h1, .int v_sort, .int v_size])), (h1, .inl (q0, 40, .inr (.inl out.2)))] := by
  refine cM_J RX3 ⟨by decide, rfl⟩ (Nat.le_of_ble_eq_true rfl) ?_
  intro p e s m below meth c A Q ls hx hb hml hown hts hK hN hA hP hD hS hl hRet
  have htb : ∀ w ∈ lw_g, w.before ([.ref h0, .int a1, .long a2] : List Value).toArray s = true := fun w h => hts w (List.mem_cons_of_mem _ h)
  have hl : lv_has ls 4 [(0, .ref h0), (1, .int a1), (2, .long a2)] := hl
  have hRet : ∀ (o : Int64 × (Nat → Int64)) (H : Heap) (locs : List Loc) (ls : Array Slot) (pc : Nat), o = out → va_P (dC, dI) vwCl [(h0, .inr (3, [.ref h1, .int v_sort, .int v_size])), (h1, .inl (q0, 40, .inr (.inl o.2)))] H → va_D A [(h0, .inr (3, [.ref h1, .int v_sort, .int v_size])), (h1, .inl (q0, 40, .inr (.inl o.2)))] → va_S A s.heap H locs → decode cX3_put pc = .ok (.lreturn, 1) → W p l e ({ frames := 1, cells := 0, slots := 0, locals := 22 } : Room) s m ([.ref h0, .int a1, .long a2] : List Value).toArray below meth c H locs 0 0 Q (F0 m pc ls [.long o.1]) := fun o H locs ls pc ho => by subst ho; exact hRet H locs ls pc
  suffices K0 : ∀ (H : Heap) (locs : List Loc), va_P (dC, dI) vwCl [(h0, .inr (3, [.ref h1, .int v_sort, .int v_size])), (h1, .inl (q0, 40, .inr (.inl v_values)))] H → va_D A [(h0, .inr (3, [.ref h1, .int v_sort, .int v_size])), (h1, .inl (q0, 40, .inr (.inl v_values)))] → va_S A s.heap H locs → W p l e ({ frames := 1, cells := 0, slots := 0, locals := 22 } : Room) s m ([.ref h0, .int a1, .long a2] : List Value).toArray below meth c H locs 0 0 Q (F0 m 0 ls []) from K0 s.heap [] hP hD hS
  clear hP hD hS
  intro H locs hP hD hS
  unfold fX3_put at hf
  refine lv_aload_n hx hb dX3_put_0 rfl (lv_at hl 0 rfl) ?_
  refine lv_iload_n hx hb dX3_put_1 rfl (lv_at hl 1 rfl) ?_
  obtain ⟨o_1, ho_1, hf⟩ := ob_some hf
  refine ca_V (As := [.int a1]) (rest := []) (wr := [(h1, .inl (q0, 40, .inr (.inl v_values)))]) (wn := [(h0, .inr (3, [.ref h1, .int v_sort, .int v_size])), (h1, .inl (q0, 40, .inr (.inl v_values)))]) ⟨hx, hb, hml, hown, hts⟩ (ctX3_hasPlace l dC dI F H.size h0 (.ref h1) v_sort v_size a1 o_1 ho_1) ⟨mC_X3_hasPlace, mN_X3, md_X3_hasPlace, ⟨rfl, rfl⟩, ⟨Nat.le_of_ble_eq_true rfl, Nat.le_of_ble_eq_true rfl⟩⟩ mM_X3_28 mI_X3_hasPlace mS_X3_hasPlace hK hN hP hD hS hA [] [0] [1] [1, 0] rfl rfl rfl ⟨by decide, by decide, by decide, by decide⟩ rfl 0 3 rfl rfl rfl hl.1 (Nat.le_of_ble_eq_true rfl) ⟨Nat.zero_le _, Nat.zero_le _⟩ dX3_put_2 (fun H locs hP hD hS => ?_)
  refine lv_if_ne (tgt := 10) hx hb dX3_put_5 (by decide) (fun c_2 => ?_) (fun c_2 => ?_)
  · have hf := oi_f hf c_2
    refine lv_aload_n hx hb dX3_put_10 rfl (lv_at hl 0 rfl) ?_
    refine va_get (D := (dC, dI)) (ci := 3) (v := .ref h1) (C := RX3) (T := TX3) (N := 3) hx hb htb inG3 hown hK hP 0 rfl rfl 0 (by decide) (htb _ mF_X3_9) (fun _ h9 => h9) rfl dX3_put_11 ?_
    refine lv_iload_n hx hb dX3_put_14 rfl (lv_at hl 1 rfl) ?_
    refine lv_aload_n hx hb dX3_put_15 rfl (lv_at hl 0 rfl) ?_
    refine lv_lload_n hx hb dX3_put_16 rfl (lv_at hl 2 rfl) ?_
    obtain ⟨o_3, ho_3, hf⟩ := ob_some hf
    refine ca_V (As := [.long a2]) (rest := [.int a1, .ref h1]) (wr := [(h1, .inl (q0, 40, .inr (.inl v_values)))]) (wn := [(h0, .inr (3, [.ref h1, .int v_sort, .int v_size])), (h1, .inl (q0, 40, .inr (.inl v_values)))]) ⟨hx, hb, hml, hown, hts⟩ (ctX3_cut l dC dI F H.size h0 (.ref h1) v_sort v_size a2 o_3 ho_3) ⟨mC_X3_cut, mN_X3, md_X3_cut, ⟨rfl, rfl⟩, ⟨Nat.le_of_ble_eq_true rfl, Nat.le_of_ble_eq_true rfl⟩⟩ mM_X3_32 mI_X3_cut mS_X3_cut hK hN hP hD hS hA [] [0] [1] [1, 0] rfl rfl rfl ⟨by decide, by decide, by decide, by decide⟩ rfl 0 3 rfl rfl rfl hl.1 (Nat.le_of_ble_eq_true rfl) ⟨Nat.zero_le _, Nat.zero_le _⟩ dX3_put_17 (fun H locs hP hD hS => ?_)
    obtain ⟨b_4, hf⟩ := og_some hf
    refine va_last hx hb hK hP hD hS 1 0 rfl rfl (vb_ok b_4) dX3_put_20 (fun H locs hP hD hS => ?_)
    generalize ev_values_5 : vp_updL v_values a1.toNatClampNeg o_3 = v_values_5 at hP hD
    have hf := ol_some hf ev_values_5.symm
    have hP : va_P (dC, dI) vwCl [(h0, .inr (3, [.ref h1, .int v_sort, .int v_size])), (h1, .inl (q0, 40, .inr (.inl v_values_5)))] H := hP
    have hD : va_D A [(h0, .inr (3, [.ref h1, .int v_sort, .int v_size])), (h1, .inl (q0, 40, .inr (.inl v_values_5)))] := hD
    refine lv_aload_n hx hb dX3_put_21 rfl (lv_at hl 0 rfl) ?_
    refine va_get (D := (dC, dI)) (ci := 3) (v := .ref h1) (C := RX3) (T := TX3) (N := 3) hx hb htb inG3 hown hK hP 0 rfl rfl 0 (by decide) (htb _ mF_X3_9) (fun _ h9 => h9) rfl dX3_put_22 ?_
    refine lv_iload_n hx hb dX3_put_25 rfl (lv_at hl 1 rfl) ?_
    obtain ⟨b_6, hf⟩ := og_some hf
    refine va_lald hx hb hK hP 1 0 rfl rfl (vb_ok b_6) dX3_put_26 ?_
    exact hRet ((v_values_5 a1.toNatClampNeg), v_values_5) H locs ls 27 (Option.some.inj hf) hP hD hS dX3_put_27
  · have hf := oi_t hf c_2
    refine lv_lconst (v := 0) hx hb dX3_put_8 (by decide) ?_
    exact hRet ((0 : Int64), v_values) H locs ls 9 (Option.some.inj hf) hP hD hS dX3_put_9
