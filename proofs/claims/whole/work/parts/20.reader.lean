def fX5_byteAt (F : Nat) (v_length : Int32) (v_text : Nat → Int32) (a1 : Int32) : Option (Int32) := if a1 < 0 then (some (-1 : Int32)) else (if v_length ≤ a1 then (some (-1 : Int32)) else (og (vb a1 900) (some ((v_text a1.toNatClampNeg) &&& (255 : Int32)))))
set_option maxRecDepth 100000 in
set_option maxHeartbeats 4000000 in
theorem ctX5_byteAt (l : Launch) (dC : Nat → ClassId) (dI : Nat → Nat → Nat) (F sz : Nat) (h0 h1 : Nat) (q0 : ClassId) (g_draft : Value) (v_fault : Int32) (v_place : Int32) (v_length : Int32) (v_next : Int32) (v_start : Int32) (v_sort : Int32) (v_value : Int32) (v_text : Nat → Int32) (a1 : Int32) (out : Int32) (hf : fX5_byteAt F v_length v_text a1 = some out)  : cM l yX5_byteAt cX5_byteAt 2 (some .int) ({ frames := 0, cells := 0, slots := 0, locals := 0 } : Room) (dC, dI) [(q0, .byte)] [(h0, .inr (5, [g_draft, .int v_fault, .int v_place, .ref h1, .int v_length, .int v_next, .int v_start, .int v_sort, .int v_value])), (h1, .inl (q0, 900, .inl v_text))] [.ref h0, .int a1] sz (some (.int out)) [(h0, .inr (5, [g_draft, .int v_fault, .int v_place, .ref h1, .int v_length, .int v_next, .int v_start, .int v_sort, .int v_value])), (h1, .inl (q0, 900, .inl v_text))] := by
  refine cM_I RX5 ⟨by decide, rfl⟩ (Nat.le_of_ble_eq_true rfl) ?_
  intro p e s m below meth c A Q ls hx hb hml hown hts hK hN hA hP hD hS hl hRet
  have htb : ∀ w ∈ lw_g, w.before ([.ref h0, .int a1] : List Value).toArray s = true := fun w h => hts w (List.mem_cons_of_mem _ h)
  have hl : lv_has ls 2 [(0, .ref h0), (1, .int a1)] := hl
  have hRet : ∀ (o : Int32) (H : Heap) (locs : List Loc) (ls : Array Slot) (pc : Nat), o = out → va_P (dC, dI) vwCl [(h0, .inr (5, [g_draft, .int v_fault, .int v_place, .ref h1, .int v_length, .int v_next, .int v_start, .int v_sort, .int v_value])), (h1, .inl (q0, 900, .inl v_text))] H → va_D A [(h0, .inr (5, [g_draft, .int v_fault, .int v_place, .ref h1, .int v_length, .int v_next, .int v_start, .int v_sort, .int v_value])), (h1, .inl (q0, 900, .inl v_text))] → va_S A s.heap H locs → narrow .int (.int o) = .int o → decode cX5_byteAt pc = .ok (.ireturn, 1) → W p l e ({ frames := 0, cells := 0, slots := 0, locals := 0 } : Room) s m ([.ref h0, .int a1] : List Value).toArray below meth c H locs 0 0 Q (F0 m pc ls [.int o]) := fun o H locs ls pc ho => by subst ho; exact hRet H locs ls pc
  suffices K0 : ∀ (H : Heap) (locs : List Loc), va_P (dC, dI) vwCl [(h0, .inr (5, [g_draft, .int v_fault, .int v_place, .ref h1, .int v_length, .int v_next, .int v_start, .int v_sort, .int v_value])), (h1, .inl (q0, 900, .inl v_text))] H → va_D A [(h0, .inr (5, [g_draft, .int v_fault, .int v_place, .ref h1, .int v_length, .int v_next, .int v_start, .int v_sort, .int v_value])), (h1, .inl (q0, 900, .inl v_text))] → va_S A s.heap H locs → W p l e ({ frames := 0, cells := 0, slots := 0, locals := 0 } : Room) s m ([.ref h0, .int a1] : List Value).toArray below meth c H locs 0 0 Q (F0 m 0 ls []) from K0 s.heap [] hP hD hS
  clear hP hD hS
  intro H locs hP hD hS
  unfold fX5_byteAt at hf
  refine lv_iload_n hx hb dX5_byteAt_0 rfl (lv_at hl 1 rfl) ?_
  refine lv_if_lt (tgt := 25) hx hb dX5_byteAt_1 (by decide) (fun c_1 => ?_) (fun c_1 => ?_)
  · have hf := oi_t hf c_1
    refine lv_iconst (v := -1) hx hb dX5_byteAt_25 (by decide) ?_
    exact hRet (-1 : Int32) H locs ls 26 (Option.some.inj hf) hP hD hS rfl dX5_byteAt_26
  · have hf := oi_f hf c_1
    refine lv_iload_n hx hb dX5_byteAt_4 rfl (lv_at hl 1 rfl) ?_
    refine lv_aload_n hx hb dX5_byteAt_5 rfl (lv_at hl 0 rfl) ?_
    refine va_get (D := (dC, dI)) (ci := 5) (v := .int v_length) (C := RX5) (T := TX5) (N := 9) hx hb htb inG5 hown hK hP 0 rfl rfl 4 (by decide) (htb _ mF_X5_35) (fun _ h9 => h9) rfl dX5_byteAt_6 ?_
    refine lv_icmp_ge (tgt := 25) hx hb dX5_byteAt_9 (by decide) (fun c_2 => ?_) (fun c_2 => ?_)
    · have hf := oi_t hf c_2
      refine lv_iconst (v := -1) hx hb dX5_byteAt_25 (by decide) ?_
      exact hRet (-1 : Int32) H locs ls 26 (Option.some.inj hf) hP hD hS rfl dX5_byteAt_26
    · have hf := oi_f hf c_2
      refine lv_aload_n hx hb dX5_byteAt_12 rfl (lv_at hl 0 rfl) ?_
      refine va_get (D := (dC, dI)) (ci := 5) (v := .ref h1) (C := RX5) (T := TX5) (N := 9) hx hb htb inG5 hown hK hP 0 rfl rfl 3 (by decide) (htb _ mF_X5_25) (fun _ h9 => h9) rfl dX5_byteAt_13 ?_
      refine lv_iload_n hx hb dX5_byteAt_16 rfl (lv_at hl 1 rfl) ?_
      obtain ⟨b_3, hf⟩ := og_some hf
      refine va_bald hx hb hK hP 1 0 rfl rfl (vb_ok b_3) dX5_byteAt_17 ?_
      refine lv_sipush (v := 255) hx hb dX5_byteAt_18 (by decide) ?_
      refine lv_iand hx hb dX5_byteAt_21 ?_
      refine lv_goto (tgt := 26) hx hb dX5_byteAt_22 (by decide) ?_
      exact hRet ((v_text a1.toNatClampNeg) &&& (255 : Int32)) H locs ls 26 (Option.some.inj hf) hP hD hS rfl dX5_byteAt_26
def fX5_sortOf_L28 (F : Nat) (a0 : Int32) : Option (Int32) := if a0 = -1 then (some (0 : Int32)) else (if a0 = 10 then (some (5 : Int32)) else (if a0 = 32 then (some (5 : Int32)) else (if a0 = 59 then (some (3 : Int32)) else (some (4 : Int32)))))
def fX5_sortOf_L14 (F : Nat) (a0 : Int32) : Option (Int32) := if a0 < (48 : Int32) then (fX5_sortOf_L28 F a0) else (if (57 : Int32) < a0 then (fX5_sortOf_L28 F a0) else (some (2 : Int32)))
def fX5_sortOf (F : Nat)  (a0 : Int32) : Option (Int32) := if a0 < (97 : Int32) then (fX5_sortOf_L14 F a0) else (if (122 : Int32) < a0 then (fX5_sortOf_L14 F a0) else (some (1 : Int32)))
set_option maxRecDepth 100000 in
set_option maxHeartbeats 4000000 in
theorem ctX5_sortOf (l : Launch) (dC : Nat → ClassId) (dI : Nat → Nat → Nat) (F sz : Nat)  (a0 : Int32) (out : Int32) (hf : fX5_sortOf F a0 = some out)  : cM l yX5_sortOf cX5_sortOf 1 (some .int) ({ frames := 0, cells := 0, slots := 0, locals := 0 } : Room) (dC, dI) [] [] [.int a0] sz (some (.int out)) [] := by
  refine cM_I RX5 ⟨by decide, rfl⟩ (Nat.le_of_ble_eq_true rfl) ?_
  intro p e s m below meth c A Q ls hx hb hml hown hts hK hN hA hP hD hS hl hRet
  have htb : ∀ w ∈ lw_g, w.before ([.int a0] : List Value).toArray s = true := fun w h => hts w (List.mem_cons_of_mem _ h)
  have hl : lv_has ls 1 [(0, .int a0)] := hl
  have hRet : ∀ (o : Int32) (H : Heap) (locs : List Loc) (ls : Array Slot) (pc : Nat), o = out → va_P (dC, dI) vwCl [] H → va_D A [] → va_S A s.heap H locs → narrow .int (.int o) = .int o → decode cX5_sortOf pc = .ok (.ireturn, 1) → W p l e ({ frames := 0, cells := 0, slots := 0, locals := 0 } : Room) s m ([.int a0] : List Value).toArray below meth c H locs 0 0 Q (F0 m pc ls [.int o]) := fun o H locs ls pc ho => by subst ho; exact hRet H locs ls pc
  have L28 : ∀ (H : Heap) (locs : List Loc) (ls : Array Slot), va_P (dC, dI) vwCl [] H → va_D A [] → va_S A s.heap H locs → lv_has ls 1 [(0, .int a0)] → fX5_sortOf_L28 F a0  = some out → W p l e ({ frames := 0, cells := 0, slots := 0, locals := 0 } : Room) s m ([.int a0] : List Value).toArray below meth c H locs 0 0 Q (F0 m 28 ls []) := by
    intro H locs ls  hP hD hS hl hf
    unfold fX5_sortOf_L28 at hf
    refine lv_iload_n hx hb dX5_sortOf_28 rfl (lv_at hl 0 rfl) ?_
    by_cases c_10 : a0 = -1
    · have hf := oi_t hf c_10
      refine lv_lookup (off := 43) (tgt := 72) hx hb dX5_sortOf_29 (by decide) (by rw [c_10]; rfl) (by decide) ?_
      refine lv_iconst (v := 0) hx hb dX5_sortOf_72 (by decide) ?_
      exact hRet (0 : Int32) H locs ls 73 (Option.some.inj hf) hP hD hS rfl dX5_sortOf_73
    have hf := oi_f hf c_10
    by_cases c_11 : a0 = 10
    · have hf := oi_t hf c_11
      refine lv_lookup (off := 45) (tgt := 74) hx hb dX5_sortOf_29 (by decide) (by rw [c_11]; rfl) (by decide) ?_
      refine lv_iconst (v := 5) hx hb dX5_sortOf_74 (by decide) ?_
      exact hRet (5 : Int32) H locs ls 75 (Option.some.inj hf) hP hD hS rfl dX5_sortOf_75
    have hf := oi_f hf c_11
    by_cases c_12 : a0 = 32
    · have hf := oi_t hf c_12
      refine lv_lookup (off := 45) (tgt := 74) hx hb dX5_sortOf_29 (by decide) (by rw [c_12]; rfl) (by decide) ?_
      refine lv_iconst (v := 5) hx hb dX5_sortOf_74 (by decide) ?_
      exact hRet (5 : Int32) H locs ls 75 (Option.some.inj hf) hP hD hS rfl dX5_sortOf_75
    have hf := oi_f hf c_12
    by_cases c_13 : a0 = 59
    · have hf := oi_t hf c_13
      refine lv_lookup (off := 47) (tgt := 76) hx hb dX5_sortOf_29 (by decide) (by rw [c_13]; rfl) (by decide) ?_
      refine lv_iconst (v := 3) hx hb dX5_sortOf_76 (by decide) ?_
      exact hRet (3 : Int32) H locs ls 77 (Option.some.inj hf) hP hD hS rfl dX5_sortOf_77
    have hf := oi_f hf c_13
    refine lv_lookup (off := 49) (tgt := 78) hx hb dX5_sortOf_29 (by decide) (sw_lk4 c_10 c_11 c_12 c_13) (by decide) ?_
    refine lv_iconst (v := 4) hx hb dX5_sortOf_78 (by decide) ?_
    exact hRet (4 : Int32) H locs ls 79 (Option.some.inj hf) hP hD hS rfl dX5_sortOf_79
  have L14 : ∀ (H : Heap) (locs : List Loc) (ls : Array Slot), va_P (dC, dI) vwCl [] H → va_D A [] → va_S A s.heap H locs → lv_has ls 1 [(0, .int a0)] → fX5_sortOf_L14 F a0  = some out → W p l e ({ frames := 0, cells := 0, slots := 0, locals := 0 } : Room) s m ([.int a0] : List Value).toArray below meth c H locs 0 0 Q (F0 m 14 ls []) := by
    intro H locs ls  hP hD hS hl hf
    unfold fX5_sortOf_L14 at hf
    refine lv_iload_n hx hb dX5_sortOf_14 rfl (lv_at hl 0 rfl) ?_
    refine lv_bipush (v := 48) hx hb dX5_sortOf_15 (by decide) ?_
    refine lv_icmp_lt (tgt := 28) hx hb dX5_sortOf_17 (by decide) (fun c_2 => ?_) (fun c_2 => ?_)
    · have hf := oi_t hf c_2
      exact L28 H locs ls  hP hD hS (lv_sub hl [0] rfl) hf
    · have hf := oi_f hf c_2
      refine lv_iload_n hx hb dX5_sortOf_20 rfl (lv_at hl 0 rfl) ?_
      refine lv_bipush (v := 57) hx hb dX5_sortOf_21 (by decide) ?_
      refine lv_icmp_gt (tgt := 28) hx hb dX5_sortOf_23 (by decide) (fun c_3 => ?_) (fun c_3 => ?_)
      · have hf := oi_t hf c_3
        exact L28 H locs ls  hP hD hS (lv_sub hl [0] rfl) hf
      · have hf := oi_f hf c_3
        refine lv_iconst (v := 2) hx hb dX5_sortOf_26 (by decide) ?_
        exact hRet (2 : Int32) H locs ls 27 (Option.some.inj hf) hP hD hS rfl dX5_sortOf_27
  suffices K0 : ∀ (H : Heap) (locs : List Loc), va_P (dC, dI) vwCl [] H → va_D A [] → va_S A s.heap H locs → W p l e ({ frames := 0, cells := 0, slots := 0, locals := 0 } : Room) s m ([.int a0] : List Value).toArray below meth c H locs 0 0 Q (F0 m 0 ls []) from K0 s.heap [] hP hD hS
  clear hP hD hS
  intro H locs hP hD hS
  unfold fX5_sortOf at hf
  refine lv_iload_n hx hb dX5_sortOf_0 rfl (lv_at hl 0 rfl) ?_
  refine lv_bipush (v := 97) hx hb dX5_sortOf_1 (by decide) ?_
  refine lv_icmp_lt (tgt := 14) hx hb dX5_sortOf_3 (by decide) (fun c_4 => ?_) (fun c_4 => ?_)
  · have hf := oi_t hf c_4
    exact L14 H locs ls  hP hD hS (lv_sub hl [0] rfl) hf
  · have hf := oi_f hf c_4
    refine lv_iload_n hx hb dX5_sortOf_6 rfl (lv_at hl 0 rfl) ?_
    refine lv_bipush (v := 122) hx hb dX5_sortOf_7 (by decide) ?_
    refine lv_icmp_gt (tgt := 14) hx hb dX5_sortOf_9 (by decide) (fun c_5 => ?_) (fun c_5 => ?_)
    · have hf := oi_t hf c_5
      exact L14 H locs ls  hP hD hS (lv_sub hl [0] rfl) hf
    · have hf := oi_f hf c_5
      refine lv_iconst (v := 1) hx hb dX5_sortOf_12 (by decide) ?_
      exact hRet (1 : Int32) H locs ls 13 (Option.some.inj hf) hP hD hS rfl dX5_sortOf_13
def fX5_takeToken_L171 (F : Nat) (v_length : Int32) (v_text : Nat → Int32) (v_next : Int32) (v_start : Int32) (v_sort : Int32) (v_value : Int32) : Option (Int32 × Int32 × Int32 × Int32) := if v_sort = (2 : Int32) then (if (v_next - v_start) ≤ (3 : Int32) then (some (v_next, v_start, v_sort, v_value)) else (some (v_next, v_start, (4 : Int32), v_value))) else (some (v_next, v_start, v_sort, v_value))
def fX5_takeToken_L155 (F : Nat) (v_length : Int32) (v_text : Nat → Int32) (k94 : Int32 → Int32 → Int32 → Int32 → Option (Int32 × Int32 × Int32 × Int32)) (s0 : Int32) (v_next : Int32) (v_start : Int32) (v_sort : Int32) (v_value : Int32) : Option (Int32 × Int32 × Int32 × Int32) := ol (v_next + (1 : Int32)) (fun x_3 => k94 x_3 v_start v_sort s0)
def fX5_takeToken_L94 (F : Nat) (v_length : Int32) (v_text : Nat → Int32) : Nat → Int32 → Int32 → Int32 → Int32 → Option (Int32 × Int32 × Int32 × Int32)
  | 0, _, _, _, _ => none
  | n + 1, v_next, v_start, v_sort, v_value => if v_length ≤ v_next then (fX5_takeToken_L171 F v_length v_text v_next v_start v_sort v_value) else (ob (fX5_byteAt F v_length v_text v_next) (fun o_5 => ob (fX5_sortOf F o_5) (fun o_6 => if o_6 = v_sort then (if v_sort = (2 : Int32) then (ob (fX5_byteAt F v_length v_text v_next) (fun o_9 => fX5_takeToken_L155 F v_length v_text (fun v_next v_start v_sort v_value => fX5_takeToken_L94 F v_length v_text n v_next v_start v_sort v_value) ((((10 : Int32) * v_value) + o_9) - (48 : Int32)) v_next v_start v_sort v_value)) else (fX5_takeToken_L155 F v_length v_text (fun v_next v_start v_sort v_value => fX5_takeToken_L94 F v_length v_text n v_next v_start v_sort v_value) (0 : Int32) v_next v_start v_sort v_value)) else (fX5_takeToken_L171 F v_length v_text v_next v_start v_sort v_value))))
def fX5_takeToken_L83 (F : Nat) (v_length : Int32) (v_text : Nat → Int32) (v_next : Int32) (v_start : Int32) (v_sort : Int32) (v_value : Int32) : Option (Int32 × Int32 × Int32 × Int32) := ol (v_next + (1 : Int32)) (fun x_10 => some (x_10, v_start, v_sort, v_value))
def fX5_takeToken_L39 (F : Nat) (v_length : Int32) (v_text : Nat → Int32) (v_next : Int32) (v_start : Int32) (v_sort : Int32) (v_value : Int32) : Option (Int32 × Int32 × Int32 × Int32) := ob (fX5_byteAt F v_length v_text v_next) (fun o_11 => ob (fX5_sortOf F o_11) (fun o_12 => if o_12 = (3 : Int32) then (fX5_takeToken_L83 F v_length v_text v_next v_next o_12 (0 : Int32)) else (if o_12 = (4 : Int32) then (fX5_takeToken_L83 F v_length v_text v_next v_next o_12 (0 : Int32)) else (fX5_takeToken_L94 F v_length v_text F v_next v_next o_12 (0 : Int32)))))
def fX5_takeToken_L0 (F : Nat) (v_length : Int32) (v_text : Nat → Int32) : Nat → Int32 → Int32 → Int32 → Int32 → Option (Int32 × Int32 × Int32 × Int32)
  | 0, _, _, _, _ => none
  | n + 1, v_next, v_start, v_sort, v_value => if v_length ≤ v_next then (fX5_takeToken_L39 F v_length v_text v_next v_start v_sort v_value) else (ob (fX5_byteAt F v_length v_text v_next) (fun o_16 => ob (fX5_sortOf F o_16) (fun o_17 => if o_17 = (5 : Int32) then (ol (v_next + (1 : Int32)) (fun x_19 => fX5_takeToken_L0 F v_length v_text n x_19 v_start v_sort v_value)) else (fX5_takeToken_L39 F v_length v_text v_next v_start v_sort v_value))))
def fX5_takeToken (F : Nat) (v_length : Int32) (v_next : Int32) (v_start : Int32) (v_sort : Int32) (v_value : Int32) (v_text : Nat → Int32)  : Option (Int32 × Int32 × Int32 × Int32) := fX5_takeToken_L0 F v_length v_text F v_next v_start v_sort v_value
set_option maxRecDepth 100000 in
set_option maxHeartbeats 4000000 in
theorem ctX5_takeToken (l : Launch) (dC : Nat → ClassId) (dI : Nat → Nat → Nat) (F sz : Nat) (h0 h1 : Nat) (q0 : ClassId) (g_draft : Value) (v_fault : Int32) (v_place : Int32) (v_length : Int32) (v_next : Int32) (v_start : Int32) (v_sort : Int32) (v_value : Int32) (v_text : Nat → Int32)  (out : Int32 × Int32 × Int32 × Int32) (hf : fX5_takeToken F v_length v_next v_start v_sort v_value v_text = some out)  : cM l yX5_takeToken cX5_takeToken 1 none ({ frames := 1, cells := 0, slots := 0, locals := 21 } : Room) (dC, dI) [(q0, .byte)] [(h0, .inr (5, [g_draft, .int v_fault, .int v_place, .ref h1, .int v_length, .int v_next, .int v_start, .int v_sort, .int v_value])), (h1, .inl (q0, 900, .inl v_text))] [.ref h0] sz none [(h0, .inr (5, [g_draft, .int v_fault, .int v_place, .ref h1, .int v_length, .int out.1, .int out.2.1, .int out.2.2.1, .int out.2.2.2])), (h1, .inl (q0, 900, .inl v_text))] := by
  refine cM_V RX5 ⟨by decide, rfl⟩ (Nat.le_of_ble_eq_true rfl) ?_
  intro p e s m below meth c A Q ls hx hb hml hown hts hK hN hA hP hD hS hl hRet
  have htb : ∀ w ∈ lw_g, w.before ([.ref h0] : List Value).toArray s = true := fun w h => hts w (List.mem_cons_of_mem _ h)
  have hl : lv_has ls 1 [(0, .ref h0)] := hl
  have hRet : ∀ (o : Int32 × Int32 × Int32 × Int32) (H : Heap) (locs : List Loc) (ls : Array Slot) (pc : Nat), o = out → va_P (dC, dI) vwCl [(h0, .inr (5, [g_draft, .int v_fault, .int v_place, .ref h1, .int v_length, .int o.1, .int o.2.1, .int o.2.2.1, .int o.2.2.2])), (h1, .inl (q0, 900, .inl v_text))] H → va_D A [(h0, .inr (5, [g_draft, .int v_fault, .int v_place, .ref h1, .int v_length, .int o.1, .int o.2.1, .int o.2.2.1, .int o.2.2.2])), (h1, .inl (q0, 900, .inl v_text))] → va_S A s.heap H locs → decode cX5_takeToken pc = .ok (.return_, 1) → W p l e ({ frames := 1, cells := 0, slots := 0, locals := 21 } : Room) s m ([.ref h0] : List Value).toArray below meth c H locs 0 0 Q (F0 m pc ls []) := fun o H locs ls pc ho => by subst ho; exact hRet H locs ls pc
  have L171 : ∀ (H : Heap) (locs : List Loc) (ls : Array Slot) (v_next : Int32) (v_start : Int32) (v_sort : Int32) (v_value : Int32), va_P (dC, dI) vwCl [(h0, .inr (5, [g_draft, .int v_fault, .int v_place, .ref h1, .int v_length, .int v_next, .int v_start, .int v_sort, .int v_value])), (h1, .inl (q0, 900, .inl v_text))] H → va_D A [(h0, .inr (5, [g_draft, .int v_fault, .int v_place, .ref h1, .int v_length, .int v_next, .int v_start, .int v_sort, .int v_value])), (h1, .inl (q0, 900, .inl v_text))] → va_S A s.heap H locs → lv_has ls 1 [(0, .ref h0)] → fX5_takeToken_L171 F v_length v_text v_next v_start v_sort v_value = some out → W p l e ({ frames := 1, cells := 0, slots := 0, locals := 21 } : Room) s m ([.ref h0] : List Value).toArray below meth c H locs 0 0 Q (F0 m 171 ls []) := by
    intro H locs ls v_next v_start v_sort v_value hP hD hS hl hf
    unfold fX5_takeToken_L171 at hf
    refine lv_aload_n hx hb dX5_takeToken_171 rfl (lv_at hl 0 rfl) ?_
    refine va_get (D := (dC, dI)) (ci := 5) (v := .int v_sort) (C := RX5) (T := TX5) (N := 9) hx hb htb inG5 hown hK hP 0 rfl rfl 7 (by decide) (htb _ mF_X5_47) (fun _ h9 => h9) rfl dX5_takeToken_172 ?_
    refine lv_iconst (v := 2) hx hb dX5_takeToken_175 (by decide) ?_
    refine lv_icmp_ne (tgt := 197) hx hb dX5_takeToken_176 (by decide) (fun c_1 => ?_) (fun c_1 => ?_)
    · have hf := oi_f hf c_1
      exact hRet (v_next, v_start, v_sort, v_value) H locs ls 197 (Option.some.inj hf) hP hD hS dX5_takeToken_197
    · have hf := oi_t hf c_1
      refine lv_aload_n hx hb dX5_takeToken_179 rfl (lv_at hl 0 rfl) ?_
      refine va_get (D := (dC, dI)) (ci := 5) (v := .int v_next) (C := RX5) (T := TX5) (N := 9) hx hb htb inG5 hown hK hP 0 rfl rfl 5 (by decide) (htb _ mF_X5_38) (fun _ h9 => h9) rfl dX5_takeToken_180 ?_
      refine lv_aload_n hx hb dX5_takeToken_183 rfl (lv_at hl 0 rfl) ?_
      refine va_get (D := (dC, dI)) (ci := 5) (v := .int v_start) (C := RX5) (T := TX5) (N := 9) hx hb htb inG5 hown hK hP 0 rfl rfl 6 (by decide) (htb _ mF_X5_122) (fun _ h9 => h9) rfl dX5_takeToken_184 ?_
      refine lv_isub hx hb dX5_takeToken_187 ?_
      refine lv_iconst (v := 3) hx hb dX5_takeToken_188 (by decide) ?_
      refine lv_icmp_le (tgt := 197) hx hb dX5_takeToken_189 (by decide) (fun c_2 => ?_) (fun c_2 => ?_)
      · have hf := oi_t hf c_2
        exact hRet (v_next, v_start, v_sort, v_value) H locs ls 197 (Option.some.inj hf) hP hD hS dX5_takeToken_197
      · have hf := oi_f hf c_2
        refine lv_aload_n hx hb dX5_takeToken_192 rfl (lv_at hl 0 rfl) ?_
        refine lv_iconst (v := 4) hx hb dX5_takeToken_193 (by decide) ?_
        refine va_put (D := (dC, dI)) (ci := 5) (v := .int (4 : Int32)) (ty := .int) (C := RX5) (T := TX5) (N := 9) hx hb htb inG5 tyX5 tyX5_ok nmX5 hown hK hP hD hS 0 rfl rfl 7 (by decide) (htb _ mF_X5_47) (fun _ h9 => h9) rfl (by decide +kernel) rfl rfl (Nat.le_of_ble_eq_true rfl) dX5_takeToken_194 (fun H locs hP hD hS => ?_)
        have hP : va_P (dC, dI) vwCl [(h0, .inr (5, [g_draft, .int v_fault, .int v_place, .ref h1, .int v_length, .int v_next, .int v_start, .int (4 : Int32), .int v_value])), (h1, .inl (q0, 900, .inl v_text))] H := hP
        have hD : va_D A [(h0, .inr (5, [g_draft, .int v_fault, .int v_place, .ref h1, .int v_length, .int v_next, .int v_start, .int (4 : Int32), .int v_value])), (h1, .inl (q0, 900, .inl v_text))] := hD
        exact hRet (v_next, v_start, (4 : Int32), v_value) H locs ls 197 (Option.some.inj hf) hP hD hS dX5_takeToken_197
  have L155 : ∀ (k94 : Int32 → Int32 → Int32 → Int32 → Option (Int32 × Int32 × Int32 × Int32)) (hk94 : ∀ (H : Heap) (locs : List Loc) (ls : Array Slot) (v_next : Int32) (v_start : Int32) (v_sort : Int32) (v_value : Int32), va_P (dC, dI) vwCl [(h0, .inr (5, [g_draft, .int v_fault, .int v_place, .ref h1, .int v_length, .int v_next, .int v_start, .int v_sort, .int v_value])), (h1, .inl (q0, 900, .inl v_text))] H → va_D A [(h0, .inr (5, [g_draft, .int v_fault, .int v_place, .ref h1, .int v_length, .int v_next, .int v_start, .int v_sort, .int v_value])), (h1, .inl (q0, 900, .inl v_text))] → va_S A s.heap H locs → lv_has ls 1 [(0, .ref h0)] → k94 v_next v_start v_sort v_value = some out → W p l e ({ frames := 1, cells := 0, slots := 0, locals := 21 } : Room) s m ([.ref h0] : List Value).toArray below meth c H locs 0 0 Q (F0 m 94 ls [])), ∀ (H : Heap) (locs : List Loc) (ls : Array Slot) (s0 : Int32) (v_next : Int32) (v_start : Int32) (v_sort : Int32) (v_value : Int32), va_P (dC, dI) vwCl [(h0, .inr (5, [g_draft, .int v_fault, .int v_place, .ref h1, .int v_length, .int v_next, .int v_start, .int v_sort, .int v_value])), (h1, .inl (q0, 900, .inl v_text))] H → va_D A [(h0, .inr (5, [g_draft, .int v_fault, .int v_place, .ref h1, .int v_length, .int v_next, .int v_start, .int v_sort, .int v_value])), (h1, .inl (q0, 900, .inl v_text))] → va_S A s.heap H locs → lv_has ls 1 [(0, .ref h0)] → fX5_takeToken_L155 F v_length v_text k94 s0 v_next v_start v_sort v_value = some out → W p l e ({ frames := 1, cells := 0, slots := 0, locals := 21 } : Room) s m ([.ref h0] : List Value).toArray below meth c H locs 0 0 Q (F0 m 155 ls [.int s0, .ref h0]) := by
    intro k94 hk94 H locs ls s0 v_next v_start v_sort v_value hP hD hS hl hf
    unfold fX5_takeToken_L155 at hf
    refine va_put (D := (dC, dI)) (ci := 5) (v := .int s0) (ty := .int) (C := RX5) (T := TX5) (N := 9) hx hb htb inG5 tyX5 tyX5_ok nmX5 hown hK hP hD hS 0 rfl rfl 8 (by decide) (htb _ mF_X5_112) (fun _ h9 => h9) rfl (by decide +kernel) rfl rfl (Nat.le_of_ble_eq_true rfl) dX5_takeToken_155 (fun H locs hP hD hS => ?_)
    have hP : va_P (dC, dI) vwCl [(h0, .inr (5, [g_draft, .int v_fault, .int v_place, .ref h1, .int v_length, .int v_next, .int v_start, .int v_sort, .int s0])), (h1, .inl (q0, 900, .inl v_text))] H := hP
    have hD : va_D A [(h0, .inr (5, [g_draft, .int v_fault, .int v_place, .ref h1, .int v_length, .int v_next, .int v_start, .int v_sort, .int s0])), (h1, .inl (q0, 900, .inl v_text))] := hD
    refine lv_aload_n hx hb dX5_takeToken_158 rfl (lv_at hl 0 rfl) ?_
    refine lv_dup hx hb dX5_takeToken_159 rfl ?_
    refine va_get (D := (dC, dI)) (ci := 5) (v := .int v_next) (C := RX5) (T := TX5) (N := 9) hx hb htb inG5 hown hK hP 0 rfl rfl 5 (by decide) (htb _ mF_X5_38) (fun _ h9 => h9) rfl dX5_takeToken_160 ?_
    refine lv_iconst (v := 1) hx hb dX5_takeToken_163 (by decide) ?_
    refine lv_iadd hx hb dX5_takeToken_164 ?_
    refine lv_topi (fun x_3 ex_3 => ?_)
    have hf := ol_some hf ex_3
    refine va_put (D := (dC, dI)) (ci := 5) (v := .int x_3) (ty := .int) (C := RX5) (T := TX5) (N := 9) hx hb htb inG5 tyX5 tyX5_ok nmX5 hown hK hP hD hS 0 rfl rfl 5 (by decide) (htb _ mF_X5_38) (fun _ h9 => h9) rfl (by decide +kernel) rfl rfl (Nat.le_of_ble_eq_true rfl) dX5_takeToken_165 (fun H locs hP hD hS => ?_)
    have hP : va_P (dC, dI) vwCl [(h0, .inr (5, [g_draft, .int v_fault, .int v_place, .ref h1, .int v_length, .int x_3, .int v_start, .int v_sort, .int s0])), (h1, .inl (q0, 900, .inl v_text))] H := hP
    have hD : va_D A [(h0, .inr (5, [g_draft, .int v_fault, .int v_place, .ref h1, .int v_length, .int x_3, .int v_start, .int v_sort, .int s0])), (h1, .inl (q0, 900, .inl v_text))] := hD
    refine lv_goto (tgt := 94) hx hb dX5_takeToken_168 (by decide) ?_
    exact hk94 H locs ls x_3 v_start v_sort s0 hP hD hS (lv_sub hl [0] rfl) hf
  have L94 : ∀ (n : Nat), ∀ (H : Heap) (locs : List Loc) (ls : Array Slot) (v_next : Int32) (v_start : Int32) (v_sort : Int32) (v_value : Int32), va_P (dC, dI) vwCl [(h0, .inr (5, [g_draft, .int v_fault, .int v_place, .ref h1, .int v_length, .int v_next, .int v_start, .int v_sort, .int v_value])), (h1, .inl (q0, 900, .inl v_text))] H → va_D A [(h0, .inr (5, [g_draft, .int v_fault, .int v_place, .ref h1, .int v_length, .int v_next, .int v_start, .int v_sort, .int v_value])), (h1, .inl (q0, 900, .inl v_text))] → va_S A s.heap H locs → lv_has ls 1 [(0, .ref h0)] → fX5_takeToken_L94 F v_length v_text n v_next v_start v_sort v_value = some out → W p l e ({ frames := 1, cells := 0, slots := 0, locals := 21 } : Room) s m ([.ref h0] : List Value).toArray below meth c H locs 0 0 Q (F0 m 94 ls []) := by
    intro n
    induction n with
    | zero =>
      intro H locs ls v_next v_start v_sort v_value hP hD hS hl hf
      cases hf
    | succ n ih =>
      intro H locs ls v_next v_start v_sort v_value hP hD hS hl hf
      rw [fX5_takeToken_L94] at hf
      refine lv_aload_n hx hb dX5_takeToken_94 rfl (lv_at hl 0 rfl) ?_
      refine va_get (D := (dC, dI)) (ci := 5) (v := .int v_next) (C := RX5) (T := TX5) (N := 9) hx hb htb inG5 hown hK hP 0 rfl rfl 5 (by decide) (htb _ mF_X5_38) (fun _ h9 => h9) rfl dX5_takeToken_95 ?_
      refine lv_aload_n hx hb dX5_takeToken_98 rfl (lv_at hl 0 rfl) ?_
      refine va_get (D := (dC, dI)) (ci := 5) (v := .int v_length) (C := RX5) (T := TX5) (N := 9) hx hb htb inG5 hown hK hP 0 rfl rfl 4 (by decide) (htb _ mF_X5_35) (fun _ h9 => h9) rfl dX5_takeToken_99 ?_
      refine lv_icmp_ge (tgt := 171) hx hb dX5_takeToken_102 (by decide) (fun c_4 => ?_) (fun c_4 => ?_)
      · have hf := oi_t hf c_4
        exact L171 H locs ls v_next v_start v_sort v_value hP hD hS (lv_sub hl [0] rfl) hf
      · have hf := oi_f hf c_4
        refine lv_aload_n hx hb dX5_takeToken_105 rfl (lv_at hl 0 rfl) ?_
        refine lv_aload_n hx hb dX5_takeToken_106 rfl (lv_at hl 0 rfl) ?_
        refine va_get (D := (dC, dI)) (ci := 5) (v := .int v_next) (C := RX5) (T := TX5) (N := 9) hx hb htb inG5 hown hK hP 0 rfl rfl 5 (by decide) (htb _ mF_X5_38) (fun _ h9 => h9) rfl dX5_takeToken_107 ?_
        obtain ⟨o_5, ho_5, hf⟩ := ob_some hf
        refine ca_V (As := [.int v_next]) (rest := []) (wr := []) (wn := [(h0, .inr (5, [g_draft, .int v_fault, .int v_place, .ref h1, .int v_length, .int v_next, .int v_start, .int v_sort, .int v_value])), (h1, .inl (q0, 900, .inl v_text))]) ⟨hx, hb, hml, hown, hts⟩ (ctX5_byteAt l dC dI F H.size h0 h1 q0 (g_draft) v_fault v_place v_length v_next v_start v_sort v_value v_text v_next o_5 ho_5) ⟨mC_X5_byteAt, mN_X5, md_X5_byteAt, ⟨rfl, rfl⟩, ⟨Nat.le_of_ble_eq_true rfl, Nat.le_of_ble_eq_true rfl⟩⟩ mM_X5_130 mI_X5_byteAt mS_X5_byteAt hK hN hP hD hS hA [0] [0, 1] [] [0, 1] rfl rfl rfl ⟨by decide, by decide, by decide, by decide⟩ rfl 0 5 rfl rfl rfl hl.1 (Nat.le_of_ble_eq_true rfl) ⟨Nat.zero_le _, Nat.zero_le _⟩ dX5_takeToken_110 (fun H locs hP hD hS => ?_)
        obtain ⟨o_6, ho_6, hf⟩ := ob_some hf
        refine ca_S (As := [.int o_5]) (rest := []) (wr := [(h0, .inr (5, [g_draft, .int v_fault, .int v_place, .ref h1, .int v_length, .int v_next, .int v_start, .int v_sort, .int v_value])), (h1, .inl (q0, 900, .inl v_text))]) (wn := [(h0, .inr (5, [g_draft, .int v_fault, .int v_place, .ref h1, .int v_length, .int v_next, .int v_start, .int v_sort, .int v_value])), (h1, .inl (q0, 900, .inl v_text))]) ⟨hx, hb, hml, hown, hts⟩ (ctX5_sortOf l dC dI F H.size o_5 o_6 ho_6) ⟨mC_X5_sortOf, mN_X5, md_X5_sortOf, ⟨rfl, rfl⟩, ⟨Nat.le_of_ble_eq_true rfl, Nat.le_of_ble_eq_true rfl⟩⟩ mM_X5_138 mT_X5_sortOf hK hN hP hD hS hA [] [] [0, 1] [0, 1] rfl rfl rfl ⟨by decide, by decide, by decide, by decide⟩ rfl rfl hl.1 (Nat.le_of_ble_eq_true rfl) ⟨Nat.zero_le _, Nat.zero_le _⟩ dX5_takeToken_113 (fun H locs hP hD hS => ?_)
        refine lv_aload_n hx hb dX5_takeToken_116 rfl (lv_at hl 0 rfl) ?_
        refine va_get (D := (dC, dI)) (ci := 5) (v := .int v_sort) (C := RX5) (T := TX5) (N := 9) hx hb htb inG5 hown hK hP 0 rfl rfl 7 (by decide) (htb _ mF_X5_47) (fun _ h9 => h9) rfl dX5_takeToken_117 ?_
        refine lv_icmp_ne (tgt := 171) hx hb dX5_takeToken_120 (by decide) (fun c_7 => ?_) (fun c_7 => ?_)
        · have hf := oi_f hf c_7
          exact L171 H locs ls v_next v_start v_sort v_value hP hD hS (lv_sub hl [0] rfl) hf
        · have hf := oi_t hf c_7
          refine lv_aload_n hx hb dX5_takeToken_123 rfl (lv_at hl 0 rfl) ?_
          refine lv_aload_n hx hb dX5_takeToken_124 rfl (lv_at hl 0 rfl) ?_
          refine va_get (D := (dC, dI)) (ci := 5) (v := .int v_sort) (C := RX5) (T := TX5) (N := 9) hx hb htb inG5 hown hK hP 0 rfl rfl 7 (by decide) (htb _ mF_X5_47) (fun _ h9 => h9) rfl dX5_takeToken_125 ?_
          refine lv_iconst (v := 2) hx hb dX5_takeToken_128 (by decide) ?_
          refine lv_icmp_ne (tgt := 154) hx hb dX5_takeToken_129 (by decide) (fun c_8 => ?_) (fun c_8 => ?_)
          · have hf := oi_f hf c_8
            refine lv_iconst (v := 0) hx hb dX5_takeToken_154 (by decide) ?_
            exact L155 (fun v_next v_start v_sort v_value => fX5_takeToken_L94 F v_length v_text n v_next v_start v_sort v_value) ih H locs ls (0 : Int32) v_next v_start v_sort v_value hP hD hS (lv_sub hl [0] rfl) hf
          · have hf := oi_t hf c_8
            refine lv_bipush (v := 10) hx hb dX5_takeToken_132 (by decide) ?_
            refine lv_aload_n hx hb dX5_takeToken_134 rfl (lv_at hl 0 rfl) ?_
            refine va_get (D := (dC, dI)) (ci := 5) (v := .int v_value) (C := RX5) (T := TX5) (N := 9) hx hb htb inG5 hown hK hP 0 rfl rfl 8 (by decide) (htb _ mF_X5_112) (fun _ h9 => h9) rfl dX5_takeToken_135 ?_
            refine lv_imul hx hb dX5_takeToken_138 ?_
            refine lv_aload_n hx hb dX5_takeToken_139 rfl (lv_at hl 0 rfl) ?_
            refine lv_aload_n hx hb dX5_takeToken_140 rfl (lv_at hl 0 rfl) ?_
            refine va_get (D := (dC, dI)) (ci := 5) (v := .int v_next) (C := RX5) (T := TX5) (N := 9) hx hb htb inG5 hown hK hP 0 rfl rfl 5 (by decide) (htb _ mF_X5_38) (fun _ h9 => h9) rfl dX5_takeToken_141 ?_
            obtain ⟨o_9, ho_9, hf⟩ := ob_some hf
            refine ca_V (As := [.int v_next]) (rest := [.int ((10 : Int32) * v_value), .ref h0]) (wr := []) (wn := [(h0, .inr (5, [g_draft, .int v_fault, .int v_place, .ref h1, .int v_length, .int v_next, .int v_start, .int v_sort, .int v_value])), (h1, .inl (q0, 900, .inl v_text))]) ⟨hx, hb, hml, hown, hts⟩ (ctX5_byteAt l dC dI F H.size h0 h1 q0 (g_draft) v_fault v_place v_length v_next v_start v_sort v_value v_text v_next o_9 ho_9) ⟨mC_X5_byteAt, mN_X5, md_X5_byteAt, ⟨rfl, rfl⟩, ⟨Nat.le_of_ble_eq_true rfl, Nat.le_of_ble_eq_true rfl⟩⟩ mM_X5_130 mI_X5_byteAt mS_X5_byteAt hK hN hP hD hS hA [0] [0, 1] [] [0, 1] rfl rfl rfl ⟨by decide, by decide, by decide, by decide⟩ rfl 0 5 rfl rfl rfl hl.1 (Nat.le_of_ble_eq_true rfl) ⟨Nat.zero_le _, Nat.zero_le _⟩ dX5_takeToken_144 (fun H locs hP hD hS => ?_)
            refine lv_iadd hx hb dX5_takeToken_147 ?_
            refine lv_bipush (v := 48) hx hb dX5_takeToken_148 (by decide) ?_
            refine lv_isub hx hb dX5_takeToken_150 ?_
            refine lv_goto (tgt := 155) hx hb dX5_takeToken_151 (by decide) ?_
            exact L155 (fun v_next v_start v_sort v_value => fX5_takeToken_L94 F v_length v_text n v_next v_start v_sort v_value) ih H locs ls ((((10 : Int32) * v_value) + o_9) - (48 : Int32)) v_next v_start v_sort v_value hP hD hS (lv_sub hl [0] rfl) hf
  have L83 : ∀ (H : Heap) (locs : List Loc) (ls : Array Slot) (v_next : Int32) (v_start : Int32) (v_sort : Int32) (v_value : Int32), va_P (dC, dI) vwCl [(h0, .inr (5, [g_draft, .int v_fault, .int v_place, .ref h1, .int v_length, .int v_next, .int v_start, .int v_sort, .int v_value])), (h1, .inl (q0, 900, .inl v_text))] H → va_D A [(h0, .inr (5, [g_draft, .int v_fault, .int v_place, .ref h1, .int v_length, .int v_next, .int v_start, .int v_sort, .int v_value])), (h1, .inl (q0, 900, .inl v_text))] → va_S A s.heap H locs → lv_has ls 1 [(0, .ref h0)] → fX5_takeToken_L83 F v_length v_text v_next v_start v_sort v_value = some out → W p l e ({ frames := 1, cells := 0, slots := 0, locals := 21 } : Room) s m ([.ref h0] : List Value).toArray below meth c H locs 0 0 Q (F0 m 83 ls []) := by
    intro H locs ls v_next v_start v_sort v_value hP hD hS hl hf
    unfold fX5_takeToken_L83 at hf
    refine lv_aload_n hx hb dX5_takeToken_83 rfl (lv_at hl 0 rfl) ?_
    refine lv_dup hx hb dX5_takeToken_84 rfl ?_
    refine va_get (D := (dC, dI)) (ci := 5) (v := .int v_next) (C := RX5) (T := TX5) (N := 9) hx hb htb inG5 hown hK hP 0 rfl rfl 5 (by decide) (htb _ mF_X5_38) (fun _ h9 => h9) rfl dX5_takeToken_85 ?_
    refine lv_iconst (v := 1) hx hb dX5_takeToken_88 (by decide) ?_
    refine lv_iadd hx hb dX5_takeToken_89 ?_
    refine lv_topi (fun x_10 ex_10 => ?_)
    have hf := ol_some hf ex_10
    refine va_put (D := (dC, dI)) (ci := 5) (v := .int x_10) (ty := .int) (C := RX5) (T := TX5) (N := 9) hx hb htb inG5 tyX5 tyX5_ok nmX5 hown hK hP hD hS 0 rfl rfl 5 (by decide) (htb _ mF_X5_38) (fun _ h9 => h9) rfl (by decide +kernel) rfl rfl (Nat.le_of_ble_eq_true rfl) dX5_takeToken_90 (fun H locs hP hD hS => ?_)
    have hP : va_P (dC, dI) vwCl [(h0, .inr (5, [g_draft, .int v_fault, .int v_place, .ref h1, .int v_length, .int x_10, .int v_start, .int v_sort, .int v_value])), (h1, .inl (q0, 900, .inl v_text))] H := hP
    have hD : va_D A [(h0, .inr (5, [g_draft, .int v_fault, .int v_place, .ref h1, .int v_length, .int x_10, .int v_start, .int v_sort, .int v_value])), (h1, .inl (q0, 900, .inl v_text))] := hD
    exact hRet (x_10, v_start, v_sort, v_value) H locs ls 93 (Option.some.inj hf) hP hD hS dX5_takeToken_93
  have L39 : ∀ (H : Heap) (locs : List Loc) (ls : Array Slot) (v_next : Int32) (v_start : Int32) (v_sort : Int32) (v_value : Int32), va_P (dC, dI) vwCl [(h0, .inr (5, [g_draft, .int v_fault, .int v_place, .ref h1, .int v_length, .int v_next, .int v_start, .int v_sort, .int v_value])), (h1, .inl (q0, 900, .inl v_text))] H → va_D A [(h0, .inr (5, [g_draft, .int v_fault, .int v_place, .ref h1, .int v_length, .int v_next, .int v_start, .int v_sort, .int v_value])), (h1, .inl (q0, 900, .inl v_text))] → va_S A s.heap H locs → lv_has ls 1 [(0, .ref h0)] → fX5_takeToken_L39 F v_length v_text v_next v_start v_sort v_value = some out → W p l e ({ frames := 1, cells := 0, slots := 0, locals := 21 } : Room) s m ([.ref h0] : List Value).toArray below meth c H locs 0 0 Q (F0 m 39 ls []) := by
    intro H locs ls v_next v_start v_sort v_value hP hD hS hl hf
    unfold fX5_takeToken_L39 at hf
    refine lv_aload_n hx hb dX5_takeToken_39 rfl (lv_at hl 0 rfl) ?_
    refine lv_aload_n hx hb dX5_takeToken_40 rfl (lv_at hl 0 rfl) ?_
    refine va_get (D := (dC, dI)) (ci := 5) (v := .int v_next) (C := RX5) (T := TX5) (N := 9) hx hb htb inG5 hown hK hP 0 rfl rfl 5 (by decide) (htb _ mF_X5_38) (fun _ h9 => h9) rfl dX5_takeToken_41 ?_
    refine va_put (D := (dC, dI)) (ci := 5) (v := .int v_next) (ty := .int) (C := RX5) (T := TX5) (N := 9) hx hb htb inG5 tyX5 tyX5_ok nmX5 hown hK hP hD hS 0 rfl rfl 6 (by decide) (htb _ mF_X5_122) (fun _ h9 => h9) rfl (by decide +kernel) rfl rfl (Nat.le_of_ble_eq_true rfl) dX5_takeToken_44 (fun H locs hP hD hS => ?_)
    have hP : va_P (dC, dI) vwCl [(h0, .inr (5, [g_draft, .int v_fault, .int v_place, .ref h1, .int v_length, .int v_next, .int v_next, .int v_sort, .int v_value])), (h1, .inl (q0, 900, .inl v_text))] H := hP
    have hD : va_D A [(h0, .inr (5, [g_draft, .int v_fault, .int v_place, .ref h1, .int v_length, .int v_next, .int v_next, .int v_sort, .int v_value])), (h1, .inl (q0, 900, .inl v_text))] := hD
    refine lv_aload_n hx hb dX5_takeToken_47 rfl (lv_at hl 0 rfl) ?_
    refine lv_iconst (v := 0) hx hb dX5_takeToken_48 (by decide) ?_
    refine va_put (D := (dC, dI)) (ci := 5) (v := .int (0 : Int32)) (ty := .int) (C := RX5) (T := TX5) (N := 9) hx hb htb inG5 tyX5 tyX5_ok nmX5 hown hK hP hD hS 0 rfl rfl 8 (by decide) (htb _ mF_X5_112) (fun _ h9 => h9) rfl (by decide +kernel) rfl rfl (Nat.le_of_ble_eq_true rfl) dX5_takeToken_49 (fun H locs hP hD hS => ?_)
    have hP : va_P (dC, dI) vwCl [(h0, .inr (5, [g_draft, .int v_fault, .int v_place, .ref h1, .int v_length, .int v_next, .int v_next, .int v_sort, .int (0 : Int32)])), (h1, .inl (q0, 900, .inl v_text))] H := hP
    have hD : va_D A [(h0, .inr (5, [g_draft, .int v_fault, .int v_place, .ref h1, .int v_length, .int v_next, .int v_next, .int v_sort, .int (0 : Int32)])), (h1, .inl (q0, 900, .inl v_text))] := hD
    refine lv_aload_n hx hb dX5_takeToken_52 rfl (lv_at hl 0 rfl) ?_
    refine lv_aload_n hx hb dX5_takeToken_53 rfl (lv_at hl 0 rfl) ?_
    refine lv_aload_n hx hb dX5_takeToken_54 rfl (lv_at hl 0 rfl) ?_
    refine va_get (D := (dC, dI)) (ci := 5) (v := .int v_next) (C := RX5) (T := TX5) (N := 9) hx hb htb inG5 hown hK hP 0 rfl rfl 5 (by decide) (htb _ mF_X5_38) (fun _ h9 => h9) rfl dX5_takeToken_55 ?_
    obtain ⟨o_11, ho_11, hf⟩ := ob_some hf
    refine ca_V (As := [.int v_next]) (rest := [.ref h0]) (wr := []) (wn := [(h0, .inr (5, [g_draft, .int v_fault, .int v_place, .ref h1, .int v_length, .int v_next, .int v_next, .int v_sort, .int (0 : Int32)])), (h1, .inl (q0, 900, .inl v_text))]) ⟨hx, hb, hml, hown, hts⟩ (ctX5_byteAt l dC dI F H.size h0 h1 q0 (g_draft) v_fault v_place v_length v_next v_next v_sort (0 : Int32) v_text v_next o_11 ho_11) ⟨mC_X5_byteAt, mN_X5, md_X5_byteAt, ⟨rfl, rfl⟩, ⟨Nat.le_of_ble_eq_true rfl, Nat.le_of_ble_eq_true rfl⟩⟩ mM_X5_130 mI_X5_byteAt mS_X5_byteAt hK hN hP hD hS hA [0] [0, 1] [] [0, 1] rfl rfl rfl ⟨by decide, by decide, by decide, by decide⟩ rfl 0 5 rfl rfl rfl hl.1 (Nat.le_of_ble_eq_true rfl) ⟨Nat.zero_le _, Nat.zero_le _⟩ dX5_takeToken_58 (fun H locs hP hD hS => ?_)
    obtain ⟨o_12, ho_12, hf⟩ := ob_some hf
    refine ca_S (As := [.int o_11]) (rest := [.ref h0]) (wr := [(h0, .inr (5, [g_draft, .int v_fault, .int v_place, .ref h1, .int v_length, .int v_next, .int v_next, .int v_sort, .int (0 : Int32)])), (h1, .inl (q0, 900, .inl v_text))]) (wn := [(h0, .inr (5, [g_draft, .int v_fault, .int v_place, .ref h1, .int v_length, .int v_next, .int v_next, .int v_sort, .int (0 : Int32)])), (h1, .inl (q0, 900, .inl v_text))]) ⟨hx, hb, hml, hown, hts⟩ (ctX5_sortOf l dC dI F H.size o_11 o_12 ho_12) ⟨mC_X5_sortOf, mN_X5, md_X5_sortOf, ⟨rfl, rfl⟩, ⟨Nat.le_of_ble_eq_true rfl, Nat.le_of_ble_eq_true rfl⟩⟩ mM_X5_138 mT_X5_sortOf hK hN hP hD hS hA [] [] [0, 1] [0, 1] rfl rfl rfl ⟨by decide, by decide, by decide, by decide⟩ rfl rfl hl.1 (Nat.le_of_ble_eq_true rfl) ⟨Nat.zero_le _, Nat.zero_le _⟩ dX5_takeToken_61 (fun H locs hP hD hS => ?_)
    refine va_put (D := (dC, dI)) (ci := 5) (v := .int o_12) (ty := .int) (C := RX5) (T := TX5) (N := 9) hx hb htb inG5 tyX5 tyX5_ok nmX5 hown hK hP hD hS 0 rfl rfl 7 (by decide) (htb _ mF_X5_47) (fun _ h9 => h9) rfl (by decide +kernel) rfl rfl (Nat.le_of_ble_eq_true rfl) dX5_takeToken_64 (fun H locs hP hD hS => ?_)
    have hP : va_P (dC, dI) vwCl [(h0, .inr (5, [g_draft, .int v_fault, .int v_place, .ref h1, .int v_length, .int v_next, .int v_next, .int o_12, .int (0 : Int32)])), (h1, .inl (q0, 900, .inl v_text))] H := hP
    have hD : va_D A [(h0, .inr (5, [g_draft, .int v_fault, .int v_place, .ref h1, .int v_length, .int v_next, .int v_next, .int o_12, .int (0 : Int32)])), (h1, .inl (q0, 900, .inl v_text))] := hD
    refine lv_aload_n hx hb dX5_takeToken_67 rfl (lv_at hl 0 rfl) ?_
    refine va_get (D := (dC, dI)) (ci := 5) (v := .int o_12) (C := RX5) (T := TX5) (N := 9) hx hb htb inG5 hown hK hP 0 rfl rfl 7 (by decide) (htb _ mF_X5_47) (fun _ h9 => h9) rfl dX5_takeToken_68 ?_
    refine lv_iconst (v := 3) hx hb dX5_takeToken_71 (by decide) ?_
    refine lv_icmp_eq (tgt := 83) hx hb dX5_takeToken_72 (by decide) (fun c_13 => ?_) (fun c_13 => ?_)
    · have hf := oi_t hf c_13
      exact L83 H locs ls v_next v_next o_12 (0 : Int32) hP hD hS (lv_sub hl [0] rfl) hf
    · have hf := oi_f hf c_13
      refine lv_aload_n hx hb dX5_takeToken_75 rfl (lv_at hl 0 rfl) ?_
      refine va_get (D := (dC, dI)) (ci := 5) (v := .int o_12) (C := RX5) (T := TX5) (N := 9) hx hb htb inG5 hown hK hP 0 rfl rfl 7 (by decide) (htb _ mF_X5_47) (fun _ h9 => h9) rfl dX5_takeToken_76 ?_
      refine lv_iconst (v := 4) hx hb dX5_takeToken_79 (by decide) ?_
      refine lv_icmp_ne (tgt := 94) hx hb dX5_takeToken_80 (by decide) (fun c_14 => ?_) (fun c_14 => ?_)
      · have hf := oi_f hf c_14
        exact L94 F H locs ls v_next v_next o_12 (0 : Int32) hP hD hS (lv_sub hl [0] rfl) hf
      · have hf := oi_t hf c_14
        exact L83 H locs ls v_next v_next o_12 (0 : Int32) hP hD hS (lv_sub hl [0] rfl) hf
  have L0 : ∀ (n : Nat), ∀ (H : Heap) (locs : List Loc) (ls : Array Slot) (v_next : Int32) (v_start : Int32) (v_sort : Int32) (v_value : Int32), va_P (dC, dI) vwCl [(h0, .inr (5, [g_draft, .int v_fault, .int v_place, .ref h1, .int v_length, .int v_next, .int v_start, .int v_sort, .int v_value])), (h1, .inl (q0, 900, .inl v_text))] H → va_D A [(h0, .inr (5, [g_draft, .int v_fault, .int v_place, .ref h1, .int v_length, .int v_next, .int v_start, .int v_sort, .int v_value])), (h1, .inl (q0, 900, .inl v_text))] → va_S A s.heap H locs → lv_has ls 1 [(0, .ref h0)] → fX5_takeToken_L0 F v_length v_text n v_next v_start v_sort v_value = some out → W p l e ({ frames := 1, cells := 0, slots := 0, locals := 21 } : Room) s m ([.ref h0] : List Value).toArray below meth c H locs 0 0 Q (F0 m 0 ls []) := by
    intro n
    induction n with
    | zero =>
      intro H locs ls v_next v_start v_sort v_value hP hD hS hl hf
      cases hf
    | succ n ih =>
      intro H locs ls v_next v_start v_sort v_value hP hD hS hl hf
      rw [fX5_takeToken_L0] at hf
      refine lv_aload_n hx hb dX5_takeToken_0 rfl (lv_at hl 0 rfl) ?_
      refine va_get (D := (dC, dI)) (ci := 5) (v := .int v_next) (C := RX5) (T := TX5) (N := 9) hx hb htb inG5 hown hK hP 0 rfl rfl 5 (by decide) (htb _ mF_X5_38) (fun _ h9 => h9) rfl dX5_takeToken_1 ?_
      refine lv_aload_n hx hb dX5_takeToken_4 rfl (lv_at hl 0 rfl) ?_
      refine va_get (D := (dC, dI)) (ci := 5) (v := .int v_length) (C := RX5) (T := TX5) (N := 9) hx hb htb inG5 hown hK hP 0 rfl rfl 4 (by decide) (htb _ mF_X5_35) (fun _ h9 => h9) rfl dX5_takeToken_5 ?_
      refine lv_icmp_ge (tgt := 39) hx hb dX5_takeToken_8 (by decide) (fun c_15 => ?_) (fun c_15 => ?_)
      · have hf := oi_t hf c_15
        exact L39 H locs ls v_next v_start v_sort v_value hP hD hS (lv_sub hl [0] rfl) hf
      · have hf := oi_f hf c_15
        refine lv_aload_n hx hb dX5_takeToken_11 rfl (lv_at hl 0 rfl) ?_
        refine lv_aload_n hx hb dX5_takeToken_12 rfl (lv_at hl 0 rfl) ?_
        refine va_get (D := (dC, dI)) (ci := 5) (v := .int v_next) (C := RX5) (T := TX5) (N := 9) hx hb htb inG5 hown hK hP 0 rfl rfl 5 (by decide) (htb _ mF_X5_38) (fun _ h9 => h9) rfl dX5_takeToken_13 ?_
        obtain ⟨o_16, ho_16, hf⟩ := ob_some hf
        refine ca_V (As := [.int v_next]) (rest := []) (wr := []) (wn := [(h0, .inr (5, [g_draft, .int v_fault, .int v_place, .ref h1, .int v_length, .int v_next, .int v_start, .int v_sort, .int v_value])), (h1, .inl (q0, 900, .inl v_text))]) ⟨hx, hb, hml, hown, hts⟩ (ctX5_byteAt l dC dI F H.size h0 h1 q0 (g_draft) v_fault v_place v_length v_next v_start v_sort v_value v_text v_next o_16 ho_16) ⟨mC_X5_byteAt, mN_X5, md_X5_byteAt, ⟨rfl, rfl⟩, ⟨Nat.le_of_ble_eq_true rfl, Nat.le_of_ble_eq_true rfl⟩⟩ mM_X5_130 mI_X5_byteAt mS_X5_byteAt hK hN hP hD hS hA [0] [0, 1] [] [0, 1] rfl rfl rfl ⟨by decide, by decide, by decide, by decide⟩ rfl 0 5 rfl rfl rfl hl.1 (Nat.le_of_ble_eq_true rfl) ⟨Nat.zero_le _, Nat.zero_le _⟩ dX5_takeToken_16 (fun H locs hP hD hS => ?_)
        obtain ⟨o_17, ho_17, hf⟩ := ob_some hf
        refine ca_S (As := [.int o_16]) (rest := []) (wr := [(h0, .inr (5, [g_draft, .int v_fault, .int v_place, .ref h1, .int v_length, .int v_next, .int v_start, .int v_sort, .int v_value])), (h1, .inl (q0, 900, .inl v_text))]) (wn := [(h0, .inr (5, [g_draft, .int v_fault, .int v_place, .ref h1, .int v_length, .int v_next, .int v_start, .int v_sort, .int v_value])), (h1, .inl (q0, 900, .inl v_text))]) ⟨hx, hb, hml, hown, hts⟩ (ctX5_sortOf l dC dI F H.size o_16 o_17 ho_17) ⟨mC_X5_sortOf, mN_X5, md_X5_sortOf, ⟨rfl, rfl⟩, ⟨Nat.le_of_ble_eq_true rfl, Nat.le_of_ble_eq_true rfl⟩⟩ mM_X5_138 mT_X5_sortOf hK hN hP hD hS hA [] [] [0, 1] [0, 1] rfl rfl rfl ⟨by decide, by decide, by decide, by decide⟩ rfl rfl hl.1 (Nat.le_of_ble_eq_true rfl) ⟨Nat.zero_le _, Nat.zero_le _⟩ dX5_takeToken_19 (fun H locs hP hD hS => ?_)
        refine lv_iconst (v := 5) hx hb dX5_takeToken_22 (by decide) ?_
        refine lv_icmp_ne (tgt := 39) hx hb dX5_takeToken_23 (by decide) (fun c_18 => ?_) (fun c_18 => ?_)
        · have hf := oi_f hf c_18
          exact L39 H locs ls v_next v_start v_sort v_value hP hD hS (lv_sub hl [0] rfl) hf
        · have hf := oi_t hf c_18
          refine lv_aload_n hx hb dX5_takeToken_26 rfl (lv_at hl 0 rfl) ?_
          refine lv_dup hx hb dX5_takeToken_27 rfl ?_
          refine va_get (D := (dC, dI)) (ci := 5) (v := .int v_next) (C := RX5) (T := TX5) (N := 9) hx hb htb inG5 hown hK hP 0 rfl rfl 5 (by decide) (htb _ mF_X5_38) (fun _ h9 => h9) rfl dX5_takeToken_28 ?_
          refine lv_iconst (v := 1) hx hb dX5_takeToken_31 (by decide) ?_
          refine lv_iadd hx hb dX5_takeToken_32 ?_
          refine lv_topi (fun x_19 ex_19 => ?_)
          have hf := ol_some hf ex_19
          refine va_put (D := (dC, dI)) (ci := 5) (v := .int x_19) (ty := .int) (C := RX5) (T := TX5) (N := 9) hx hb htb inG5 tyX5 tyX5_ok nmX5 hown hK hP hD hS 0 rfl rfl 5 (by decide) (htb _ mF_X5_38) (fun _ h9 => h9) rfl (by decide +kernel) rfl rfl (Nat.le_of_ble_eq_true rfl) dX5_takeToken_33 (fun H locs hP hD hS => ?_)
          have hP : va_P (dC, dI) vwCl [(h0, .inr (5, [g_draft, .int v_fault, .int v_place, .ref h1, .int v_length, .int x_19, .int v_start, .int v_sort, .int v_value])), (h1, .inl (q0, 900, .inl v_text))] H := hP
          have hD : va_D A [(h0, .inr (5, [g_draft, .int v_fault, .int v_place, .ref h1, .int v_length, .int x_19, .int v_start, .int v_sort, .int v_value])), (h1, .inl (q0, 900, .inl v_text))] := hD
          refine lv_goto (tgt := 0) hx hb dX5_takeToken_36 (by decide) ?_
          exact ih H locs ls x_19 v_start v_sort v_value hP hD hS (lv_sub hl [0] rfl) hf
  suffices K0 : ∀ (H : Heap) (locs : List Loc), va_P (dC, dI) vwCl [(h0, .inr (5, [g_draft, .int v_fault, .int v_place, .ref h1, .int v_length, .int v_next, .int v_start, .int v_sort, .int v_value])), (h1, .inl (q0, 900, .inl v_text))] H → va_D A [(h0, .inr (5, [g_draft, .int v_fault, .int v_place, .ref h1, .int v_length, .int v_next, .int v_start, .int v_sort, .int v_value])), (h1, .inl (q0, 900, .inl v_text))] → va_S A s.heap H locs → W p l e ({ frames := 1, cells := 0, slots := 0, locals := 21 } : Room) s m ([.ref h0] : List Value).toArray below meth c H locs 0 0 Q (F0 m 0 ls []) from K0 s.heap [] hP hD hS
  clear hP hD hS
  intro H locs hP hD hS
  unfold fX5_takeToken at hf
  exact L0 F H locs ls v_next v_start v_sort v_value hP hD hS (lv_sub hl [0] rfl) hf
def fX5_blame_L21 (F : Nat) (v_start : Int32) (v_sort : Int32) (a1 : Int32) (s0 : Int32) (v_fault : Int32) (v_place : Int32) : Option (Int32 × Int32) := some (s0, v_start)
def fX5_blame (F : Nat) (v_fault : Int32) (v_place : Int32) (v_start : Int32) (v_sort : Int32) (a1 : Int32) : Option (Int32 × Int32) := if v_fault = 0 then (if v_sort = (4 : Int32) then (fX5_blame_L21 F v_start v_sort a1 (1 : Int32) v_fault v_place) else (fX5_blame_L21 F v_start v_sort a1 a1 v_fault v_place)) else (some (v_fault, v_place))
set_option maxRecDepth 100000 in
set_option maxHeartbeats 4000000 in
theorem ctX5_blame (l : Launch) (dC : Nat → ClassId) (dI : Nat → Nat → Nat) (F sz : Nat) (h0 : Nat) (g_draft : Value) (v_fault : Int32) (v_place : Int32) (g_text : Value) (v_length : Int32) (v_next : Int32) (v_start : Int32) (v_sort : Int32) (v_value : Int32) (a1 : Int32) (out : Int32 × Int32) (hf : fX5_blame F v_fault v_place v_start v_sort a1 = some out)  : cM l yX5_blame cX5_blame 2 none ({ frames := 0, cells := 0, slots := 0, locals := 0 } : Room) (dC, dI) [] [(h0, .inr (5, [g_draft, .int v_fault, .int v_place, g_text, .int v_length, .int v_next, .int v_start, .int v_sort, .int v_value]))] [.ref h0, .int a1] sz none [(h0, .inr (5, [g_draft, .int out.1, .int out.2, g_text, .int v_length, .int v_next, .int v_start, .int v_sort, .int v_value]))] := by
  refine cM_V RX5 ⟨by decide, rfl⟩ (Nat.le_of_ble_eq_true rfl) ?_
  intro p e s m below meth c A Q ls hx hb hml hown hts hK hN hA hP hD hS hl hRet
  have htb : ∀ w ∈ lw_g, w.before ([.ref h0, .int a1] : List Value).toArray s = true := fun w h => hts w (List.mem_cons_of_mem _ h)
  have hl : lv_has ls 2 [(0, .ref h0), (1, .int a1)] := hl
  have hRet : ∀ (o : Int32 × Int32) (H : Heap) (locs : List Loc) (ls : Array Slot) (pc : Nat), o = out → va_P (dC, dI) vwCl [(h0, .inr (5, [g_draft, .int o.1, .int o.2, g_text, .int v_length, .int v_next, .int v_start, .int v_sort, .int v_value]))] H → va_D A [(h0, .inr (5, [g_draft, .int o.1, .int o.2, g_text, .int v_length, .int v_next, .int v_start, .int v_sort, .int v_value]))] → va_S A s.heap H locs → decode cX5_blame pc = .ok (.return_, 1) → W p l e ({ frames := 0, cells := 0, slots := 0, locals := 0 } : Room) s m ([.ref h0, .int a1] : List Value).toArray below meth c H locs 0 0 Q (F0 m pc ls []) := fun o H locs ls pc ho => by subst ho; exact hRet H locs ls pc
  have L21 : ∀ (H : Heap) (locs : List Loc) (ls : Array Slot) (s0 : Int32) (v_fault : Int32) (v_place : Int32), va_P (dC, dI) vwCl [(h0, .inr (5, [g_draft, .int v_fault, .int v_place, g_text, .int v_length, .int v_next, .int v_start, .int v_sort, .int v_value]))] H → va_D A [(h0, .inr (5, [g_draft, .int v_fault, .int v_place, g_text, .int v_length, .int v_next, .int v_start, .int v_sort, .int v_value]))] → va_S A s.heap H locs → lv_has ls 2 [(0, .ref h0)] → fX5_blame_L21 F v_start v_sort a1 s0 v_fault v_place = some out → W p l e ({ frames := 0, cells := 0, slots := 0, locals := 0 } : Room) s m ([.ref h0, .int a1] : List Value).toArray below meth c H locs 0 0 Q (F0 m 21 ls [.int s0, .ref h0]) := by
    intro H locs ls s0 v_fault v_place hP hD hS hl hf
    unfold fX5_blame_L21 at hf
    refine va_put (D := (dC, dI)) (ci := 5) (v := .int s0) (ty := .int) (C := RX5) (T := TX5) (N := 9) hx hb htb inG5 tyX5 tyX5_ok nmX5 hown hK hP hD hS 0 rfl rfl 1 (by decide) (htb _ mF_X5_18) (fun _ h9 => h9) rfl (by decide +kernel) rfl rfl (Nat.le_of_ble_eq_true rfl) dX5_blame_21 (fun H locs hP hD hS => ?_)
    have hP : va_P (dC, dI) vwCl [(h0, .inr (5, [g_draft, .int s0, .int v_place, g_text, .int v_length, .int v_next, .int v_start, .int v_sort, .int v_value]))] H := hP
    have hD : va_D A [(h0, .inr (5, [g_draft, .int s0, .int v_place, g_text, .int v_length, .int v_next, .int v_start, .int v_sort, .int v_value]))] := hD
    refine lv_aload_n hx hb dX5_blame_24 rfl (lv_at hl 0 rfl) ?_
    refine lv_aload_n hx hb dX5_blame_25 rfl (lv_at hl 0 rfl) ?_
    refine va_get (D := (dC, dI)) (ci := 5) (v := .int v_start) (C := RX5) (T := TX5) (N := 9) hx hb htb inG5 hown hK hP 0 rfl rfl 6 (by decide) (htb _ mF_X5_122) (fun _ h9 => h9) rfl dX5_blame_26 ?_
    refine va_put (D := (dC, dI)) (ci := 5) (v := .int v_start) (ty := .int) (C := RX5) (T := TX5) (N := 9) hx hb htb inG5 tyX5 tyX5_ok nmX5 hown hK hP hD hS 0 rfl rfl 2 (by decide) (htb _ mF_X5_22) (fun _ h9 => h9) rfl (by decide +kernel) rfl rfl (Nat.le_of_ble_eq_true rfl) dX5_blame_29 (fun H locs hP hD hS => ?_)
    have hP : va_P (dC, dI) vwCl [(h0, .inr (5, [g_draft, .int s0, .int v_start, g_text, .int v_length, .int v_next, .int v_start, .int v_sort, .int v_value]))] H := hP
    have hD : va_D A [(h0, .inr (5, [g_draft, .int s0, .int v_start, g_text, .int v_length, .int v_next, .int v_start, .int v_sort, .int v_value]))] := hD
    exact hRet (s0, v_start) H locs ls 32 (Option.some.inj hf) hP hD hS dX5_blame_32
  suffices K0 : ∀ (H : Heap) (locs : List Loc), va_P (dC, dI) vwCl [(h0, .inr (5, [g_draft, .int v_fault, .int v_place, g_text, .int v_length, .int v_next, .int v_start, .int v_sort, .int v_value]))] H → va_D A [(h0, .inr (5, [g_draft, .int v_fault, .int v_place, g_text, .int v_length, .int v_next, .int v_start, .int v_sort, .int v_value]))] → va_S A s.heap H locs → W p l e ({ frames := 0, cells := 0, slots := 0, locals := 0 } : Room) s m ([.ref h0, .int a1] : List Value).toArray below meth c H locs 0 0 Q (F0 m 0 ls []) from K0 s.heap [] hP hD hS
  clear hP hD hS
  intro H locs hP hD hS
  unfold fX5_blame at hf
  refine lv_aload_n hx hb dX5_blame_0 rfl (lv_at hl 0 rfl) ?_
  refine va_get (D := (dC, dI)) (ci := 5) (v := .int v_fault) (C := RX5) (T := TX5) (N := 9) hx hb htb inG5 hown hK hP 0 rfl rfl 1 (by decide) (htb _ mF_X5_18) (fun _ h9 => h9) rfl dX5_blame_1 ?_
  refine lv_if_ne (tgt := 32) hx hb dX5_blame_4 (by decide) (fun c_1 => ?_) (fun c_1 => ?_)
  · have hf := oi_f hf c_1
    exact hRet (v_fault, v_place) H locs ls 32 (Option.some.inj hf) hP hD hS dX5_blame_32
  · have hf := oi_t hf c_1
    refine lv_aload_n hx hb dX5_blame_7 rfl (lv_at hl 0 rfl) ?_
    refine lv_aload_n hx hb dX5_blame_8 rfl (lv_at hl 0 rfl) ?_
    refine va_get (D := (dC, dI)) (ci := 5) (v := .int v_sort) (C := RX5) (T := TX5) (N := 9) hx hb htb inG5 hown hK hP 0 rfl rfl 7 (by decide) (htb _ mF_X5_47) (fun _ h9 => h9) rfl dX5_blame_9 ?_
    refine lv_iconst (v := 4) hx hb dX5_blame_12 (by decide) ?_
    refine lv_icmp_ne (tgt := 20) hx hb dX5_blame_13 (by decide) (fun c_2 => ?_) (fun c_2 => ?_)
    · have hf := oi_f hf c_2
      refine lv_iload_n hx hb dX5_blame_20 rfl (lv_at hl 1 rfl) ?_
      exact L21 H locs ls a1 v_fault v_place hP hD hS (lv_sub hl [0] rfl) hf
    · have hf := oi_t hf c_2
      refine lv_iconst (v := 1) hx hb dX5_blame_16 (by decide) ?_
      refine lv_goto (tgt := 21) hx hb dX5_blame_17 (by decide) ?_
      exact L21 H locs ls (1 : Int32) v_fault v_place hP hD hS (lv_sub hl [0] rfl) hf
def fX5_number_L41 (F : Nat) (v_length : Int32) (v_text : Nat → Int32) (a1 : Int32) (a2 : Int32) (v_fault : Int32) (v_place : Int32) (v_next : Int32) (v_start : Int32) (v_sort : Int32) (v_value : Int32) : Option (Int32 × Int32 × Int32 × Int32 × Int32 × Int32 × Int32) := some (v_value, v_fault, v_place, v_next, v_start, v_sort, v_value)
def fX5_number_L36 (F : Nat) (v_length : Int32) (v_text : Nat → Int32) (a1 : Int32) (a2 : Int32) (v_fault : Int32) (v_place : Int32) (v_next : Int32) (v_start : Int32) (v_sort : Int32) (v_value : Int32) : Option (Int32 × Int32 × Int32 × Int32 × Int32 × Int32 × Int32) := ob (fX5_blame F v_fault v_place v_start v_sort (3 : Int32)) (fun o_1 => fX5_number_L41 F v_length v_text a1 a2 o_1.1 o_1.2 v_next v_start v_sort v_value)
def fX5_number (F : Nat) (v_fault : Int32) (v_place : Int32) (v_length : Int32) (v_next : Int32) (v_start : Int32) (v_sort : Int32) (v_value : Int32) (v_text : Nat → Int32) (a1 : Int32) (a2 : Int32) : Option (Int32 × Int32 × Int32 × Int32 × Int32 × Int32 × Int32) := ob (fX5_takeToken F v_length v_next v_start v_sort v_value v_text) (fun o_2 => if o_2.2.2.1 = (2 : Int32) then (if o_2.2.2.2 < a1 then (fX5_number_L36 F v_length v_text a1 a2 v_fault v_place o_2.1 o_2.2.1 o_2.2.2.1 o_2.2.2.2) else (if o_2.2.2.2 ≤ a2 then (fX5_number_L41 F v_length v_text a1 a2 v_fault v_place o_2.1 o_2.2.1 o_2.2.2.1 o_2.2.2.2) else (fX5_number_L36 F v_length v_text a1 a2 v_fault v_place o_2.1 o_2.2.1 o_2.2.2.1 o_2.2.2.2))) else (ob (fX5_blame F v_fault v_place o_2.2.1 o_2.2.2.1 (2 : Int32)) (fun o_6 => fX5_number_L41 F v_length v_text a1 a2 o_6.1 o_6.2 o_2.1 o_2.2.1 o_2.2.2.1 o_2.2.2.2)))
set_option maxRecDepth 100000 in
set_option maxHeartbeats 4000000 in
theorem ctX5_number (l : Launch) (dC : Nat → ClassId) (dI : Nat → Nat → Nat) (F sz : Nat) (h0 h1 : Nat) (q0 : ClassId) (g_draft : Value) (v_fault : Int32) (v_place : Int32) (v_length : Int32) (v_next : Int32) (v_start : Int32) (v_sort : Int32) (v_value : Int32) (v_text : Nat → Int32) (a1 : Int32) (a2 : Int32) (out : Int32 × Int32 × Int32 × Int32 × Int32 × Int32 × Int32) (hf : fX5_number F v_fault v_place v_length v_next v_start v_sort v_value v_text a1 a2 = some out)  : cM l yX5_number cX5_number 3 (some .int) ({ frames := 2, cells := 0, slots := 0, locals := 41 } : Room) (dC, dI) [(q0, .byte)] [(h0, .inr (5, [g_draft, .int v_fault, .int v_place, .ref h1, .int v_length, .int v_next, .int v_start, .int v_sort, .int v_value])), (h1, .inl (q0, 900, .inl v_text))] [.ref h0, .int a1, .int a2] sz (some (.int out.1)) [(h0, .inr (5, [g_draft, .int out.2.1, .int out.2.2.1, .ref h1, .int v_length, .int out.2.2.2.1, .int out.2.2.2.2.1, .int out.2.2.2.2.2.1, .int out.2.2.2.2.2.2])), (h1, .inl (q0, 900, .inl v_text))] := by
  refine cM_I RX5 ⟨by decide, rfl⟩ (Nat.le_of_ble_eq_true rfl) ?_
  intro p e s m below meth c A Q ls hx hb hml hown hts hK hN hA hP hD hS hl hRet
  have htb : ∀ w ∈ lw_g, w.before ([.ref h0, .int a1, .int a2] : List Value).toArray s = true := fun w h => hts w (List.mem_cons_of_mem _ h)
  have hl : lv_has ls 3 [(0, .ref h0), (1, .int a1), (2, .int a2)] := hl
  have hRet : ∀ (o : Int32 × Int32 × Int32 × Int32 × Int32 × Int32 × Int32) (H : Heap) (locs : List Loc) (ls : Array Slot) (pc : Nat), o = out → va_P (dC, dI) vwCl [(h0, .inr (5, [g_draft, .int o.2.1, .int o.2.2.1, .ref h1, .int v_length, .int o.2.2.2.1, .int o.2.2.2.2.1, .int o.2.2.2.2.2.1, .int o.2.2.2.2.2.2])), (h1, .inl (q0, 900, .inl v_text))] H → va_D A [(h0, .inr (5, [g_draft, .int o.2.1, .int o.2.2.1, .ref h1, .int v_length, .int o.2.2.2.1, .int o.2.2.2.2.1, .int o.2.2.2.2.2.1, .int o.2.2.2.2.2.2])), (h1, .inl (q0, 900, .inl v_text))] → va_S A s.heap H locs → narrow .int (.int o.1) = .int o.1 → decode cX5_number pc = .ok (.ireturn, 1) → W p l e ({ frames := 2, cells := 0, slots := 0, locals := 41 } : Room) s m ([.ref h0, .int a1, .int a2] : List Value).toArray below meth c H locs 0 0 Q (F0 m pc ls [.int o.1]) := fun o H locs ls pc ho => by subst ho; exact hRet H locs ls pc
  have L41 : ∀ (H : Heap) (locs : List Loc) (ls : Array Slot) (v_fault : Int32) (v_place : Int32) (v_next : Int32) (v_start : Int32) (v_sort : Int32) (v_value : Int32), va_P (dC, dI) vwCl [(h0, .inr (5, [g_draft, .int v_fault, .int v_place, .ref h1, .int v_length, .int v_next, .int v_start, .int v_sort, .int v_value])), (h1, .inl (q0, 900, .inl v_text))] H → va_D A [(h0, .inr (5, [g_draft, .int v_fault, .int v_place, .ref h1, .int v_length, .int v_next, .int v_start, .int v_sort, .int v_value])), (h1, .inl (q0, 900, .inl v_text))] → va_S A s.heap H locs → lv_has ls 3 [(0, .ref h0)] → fX5_number_L41 F v_length v_text a1 a2 v_fault v_place v_next v_start v_sort v_value = some out → W p l e ({ frames := 2, cells := 0, slots := 0, locals := 41 } : Room) s m ([.ref h0, .int a1, .int a2] : List Value).toArray below meth c H locs 0 0 Q (F0 m 41 ls []) := by
    intro H locs ls v_fault v_place v_next v_start v_sort v_value hP hD hS hl hf
    unfold fX5_number_L41 at hf
    refine lv_aload_n hx hb dX5_number_41 rfl (lv_at hl 0 rfl) ?_
    refine va_get (D := (dC, dI)) (ci := 5) (v := .int v_value) (C := RX5) (T := TX5) (N := 9) hx hb htb inG5 hown hK hP 0 rfl rfl 8 (by decide) (htb _ mF_X5_112) (fun _ h9 => h9) rfl dX5_number_42 ?_
    exact hRet (v_value, v_fault, v_place, v_next, v_start, v_sort, v_value) H locs ls 45 (Option.some.inj hf) hP hD hS rfl dX5_number_45
  have L36 : ∀ (H : Heap) (locs : List Loc) (ls : Array Slot) (v_fault : Int32) (v_place : Int32) (v_next : Int32) (v_start : Int32) (v_sort : Int32) (v_value : Int32), va_P (dC, dI) vwCl [(h0, .inr (5, [g_draft, .int v_fault, .int v_place, .ref h1, .int v_length, .int v_next, .int v_start, .int v_sort, .int v_value])), (h1, .inl (q0, 900, .inl v_text))] H → va_D A [(h0, .inr (5, [g_draft, .int v_fault, .int v_place, .ref h1, .int v_length, .int v_next, .int v_start, .int v_sort, .int v_value])), (h1, .inl (q0, 900, .inl v_text))] → va_S A s.heap H locs → lv_has ls 3 [(0, .ref h0)] → fX5_number_L36 F v_length v_text a1 a2 v_fault v_place v_next v_start v_sort v_value = some out → W p l e ({ frames := 2, cells := 0, slots := 0, locals := 41 } : Room) s m ([.ref h0, .int a1, .int a2] : List Value).toArray below meth c H locs 0 0 Q (F0 m 36 ls []) := by
    intro H locs ls v_fault v_place v_next v_start v_sort v_value hP hD hS hl hf
    unfold fX5_number_L36 at hf
    refine lv_aload_n hx hb dX5_number_36 rfl (lv_at hl 0 rfl) ?_
    refine lv_iconst (v := 3) hx hb dX5_number_37 (by decide) ?_
    obtain ⟨o_1, ho_1, hf⟩ := ob_some hf
    refine ca_V (As := [.int (3 : Int32)]) (rest := []) (wr := [(h1, .inl (q0, 900, .inl v_text))]) (wn := [(h0, .inr (5, [g_draft, .int o_1.1, .int o_1.2, .ref h1, .int v_length, .int v_next, .int v_start, .int v_sort, .int v_value])), (h1, .inl (q0, 900, .inl v_text))]) ⟨hx, hb, hml, hown, hts⟩ (ctX5_blame l dC dI F H.size h0 (g_draft) v_fault v_place (.ref h1) v_length v_next v_start v_sort v_value (3 : Int32) o_1 ho_1) ⟨mC_X5_blame, mN_X5, md_X5_blame, ⟨rfl, rfl⟩, ⟨Nat.le_of_ble_eq_true rfl, Nat.le_of_ble_eq_true rfl⟩⟩ mM_X5_82 mI_X5_blame mS_X5_blame hK hN hP hD hS hA [] [0] [1] [1, 0] rfl rfl rfl ⟨by decide, by decide, by decide, by decide⟩ rfl 0 5 rfl rfl rfl hl.1 (Nat.le_of_ble_eq_true rfl) ⟨Nat.zero_le _, Nat.zero_le _⟩ dX5_number_38 (fun H locs hP hD hS => ?_)
    exact L41 H locs ls o_1.1 o_1.2 v_next v_start v_sort v_value hP hD hS (lv_sub hl [0] rfl) hf
  suffices K0 : ∀ (H : Heap) (locs : List Loc), va_P (dC, dI) vwCl [(h0, .inr (5, [g_draft, .int v_fault, .int v_place, .ref h1, .int v_length, .int v_next, .int v_start, .int v_sort, .int v_value])), (h1, .inl (q0, 900, .inl v_text))] H → va_D A [(h0, .inr (5, [g_draft, .int v_fault, .int v_place, .ref h1, .int v_length, .int v_next, .int v_start, .int v_sort, .int v_value])), (h1, .inl (q0, 900, .inl v_text))] → va_S A s.heap H locs → W p l e ({ frames := 2, cells := 0, slots := 0, locals := 41 } : Room) s m ([.ref h0, .int a1, .int a2] : List Value).toArray below meth c H locs 0 0 Q (F0 m 0 ls []) from K0 s.heap [] hP hD hS
  clear hP hD hS
  intro H locs hP hD hS
  unfold fX5_number at hf
  refine lv_aload_n hx hb dX5_number_0 rfl (lv_at hl 0 rfl) ?_
  obtain ⟨o_2, ho_2, hf⟩ := ob_some hf
  refine ca_V (As := []) (rest := []) (wr := []) (wn := [(h0, .inr (5, [g_draft, .int v_fault, .int v_place, .ref h1, .int v_length, .int o_2.1, .int o_2.2.1, .int o_2.2.2.1, .int o_2.2.2.2])), (h1, .inl (q0, 900, .inl v_text))]) ⟨hx, hb, hml, hown, hts⟩ (ctX5_takeToken l dC dI F H.size h0 h1 q0 (g_draft) v_fault v_place v_length v_next v_start v_sort v_value v_text o_2 ho_2) ⟨mC_X5_takeToken, mN_X5, md_X5_takeToken, ⟨rfl, rfl⟩, ⟨Nat.le_of_ble_eq_true rfl, Nat.le_of_ble_eq_true rfl⟩⟩ mM_X5_44 mI_X5_takeToken mS_X5_takeToken hK hN hP hD hS hA [0] [0, 1] [] [0, 1] rfl rfl rfl ⟨by decide, by decide, by decide, by decide⟩ rfl 0 5 rfl rfl rfl hl.1 (Nat.le_of_ble_eq_true rfl) ⟨Nat.zero_le _, Nat.zero_le _⟩ dX5_number_1 (fun H locs hP hD hS => ?_)
  refine lv_aload_n hx hb dX5_number_4 rfl (lv_at hl 0 rfl) ?_
  refine va_get (D := (dC, dI)) (ci := 5) (v := .int o_2.2.2.1) (C := RX5) (T := TX5) (N := 9) hx hb htb inG5 hown hK hP 0 rfl rfl 7 (by decide) (htb _ mF_X5_47) (fun _ h9 => h9) rfl dX5_number_5 ?_
  refine lv_iconst (v := 2) hx hb dX5_number_8 (by decide) ?_
  refine lv_icmp_eq (tgt := 20) hx hb dX5_number_9 (by decide) (fun c_3 => ?_) (fun c_3 => ?_)
  · have hf := oi_t hf c_3
    refine lv_aload_n hx hb dX5_number_20 rfl (lv_at hl 0 rfl) ?_
    refine va_get (D := (dC, dI)) (ci := 5) (v := .int o_2.2.2.2) (C := RX5) (T := TX5) (N := 9) hx hb htb inG5 hown hK hP 0 rfl rfl 8 (by decide) (htb _ mF_X5_112) (fun _ h9 => h9) rfl dX5_number_21 ?_
    refine lv_iload_n hx hb dX5_number_24 rfl (lv_at hl 1 rfl) ?_
    refine lv_icmp_lt (tgt := 36) hx hb dX5_number_25 (by decide) (fun c_4 => ?_) (fun c_4 => ?_)
    · have hf := oi_t hf c_4
      exact L36 H locs ls v_fault v_place o_2.1 o_2.2.1 o_2.2.2.1 o_2.2.2.2 hP hD hS (lv_sub hl [0] rfl) hf
    · have hf := oi_f hf c_4
      refine lv_aload_n hx hb dX5_number_28 rfl (lv_at hl 0 rfl) ?_
      refine va_get (D := (dC, dI)) (ci := 5) (v := .int o_2.2.2.2) (C := RX5) (T := TX5) (N := 9) hx hb htb inG5 hown hK hP 0 rfl rfl 8 (by decide) (htb _ mF_X5_112) (fun _ h9 => h9) rfl dX5_number_29 ?_
      refine lv_iload_n hx hb dX5_number_32 rfl (lv_at hl 2 rfl) ?_
      refine lv_icmp_le (tgt := 41) hx hb dX5_number_33 (by decide) (fun c_5 => ?_) (fun c_5 => ?_)
      · have hf := oi_t hf c_5
        exact L41 H locs ls v_fault v_place o_2.1 o_2.2.1 o_2.2.2.1 o_2.2.2.2 hP hD hS (lv_sub hl [0] rfl) hf
      · have hf := oi_f hf c_5
        exact L36 H locs ls v_fault v_place o_2.1 o_2.2.1 o_2.2.2.1 o_2.2.2.2 hP hD hS (lv_sub hl [0] rfl) hf
  · have hf := oi_f hf c_3
    refine lv_aload_n hx hb dX5_number_12 rfl (lv_at hl 0 rfl) ?_
    refine lv_iconst (v := 2) hx hb dX5_number_13 (by decide) ?_
    obtain ⟨o_6, ho_6, hf⟩ := ob_some hf
    refine ca_V (As := [.int (2 : Int32)]) (rest := []) (wr := [(h1, .inl (q0, 900, .inl v_text))]) (wn := [(h0, .inr (5, [g_draft, .int o_6.1, .int o_6.2, .ref h1, .int v_length, .int o_2.1, .int o_2.2.1, .int o_2.2.2.1, .int o_2.2.2.2])), (h1, .inl (q0, 900, .inl v_text))]) ⟨hx, hb, hml, hown, hts⟩ (ctX5_blame l dC dI F H.size h0 (g_draft) v_fault v_place (.ref h1) v_length o_2.1 o_2.2.1 o_2.2.2.1 o_2.2.2.2 (2 : Int32) o_6 ho_6) ⟨mC_X5_blame, mN_X5, md_X5_blame, ⟨rfl, rfl⟩, ⟨Nat.le_of_ble_eq_true rfl, Nat.le_of_ble_eq_true rfl⟩⟩ mM_X5_82 mI_X5_blame mS_X5_blame hK hN hP hD hS hA [] [0] [1] [1, 0] rfl rfl rfl ⟨by decide, by decide, by decide, by decide⟩ rfl 0 5 rfl rfl rfl hl.1 (Nat.le_of_ble_eq_true rfl) ⟨Nat.zero_le _, Nat.zero_le _⟩ dX5_number_14 (fun H locs hP hD hS => ?_)
    refine lv_goto (tgt := 41) hx hb dX5_number_17 (by decide) ?_
    exact L41 H locs ls o_6.1 o_6.2 o_2.1 o_2.2.1 o_2.2.2.1 o_2.2.2.2 hP hD hS (lv_sub hl [0] rfl) hf
def fX5_readFurtherSmoke_L17 (F : Nat) (v_length : Int32) (v_draft_chimneys : Int32) (v_text : Nat → Int32) (a1 : Int32) (v_fault : Int32) (v_place : Int32) (v_next : Int32) (v_start : Int32) (v_sort : Int32) (v_value : Int32) (v_draft_smokeCounts : Nat → Int32) (v_draft_smokes : Nat → Int32) : Option (Int32 × Int32 × Int32 × Int32 × Int32 × Int32 × (Nat → Int32) × (Nat → Int32)) := ob (fX5_blame F v_fault v_place v_start v_sort (3 : Int32)) (fun o_1 => some (o_1.1, o_1.2, v_next, v_start, v_sort, v_value, v_draft_smokeCounts, v_draft_smokes))
def fX5_readFurtherSmoke (F : Nat) (v_fault : Int32) (v_place : Int32) (v_length : Int32) (v_next : Int32) (v_start : Int32) (v_sort : Int32) (v_value : Int32) (v_draft_chimneys : Int32) (v_text : Nat → Int32) (v_draft_smokeCounts : Nat → Int32) (v_draft_smokes : Nat → Int32) (a1 : Int32) : Option (Int32 × Int32 × Int32 × Int32 × Int32 × Int32 × (Nat → Int32) × (Nat → Int32)) := if v_value < (1 : Int32) then (fX5_readFurtherSmoke_L17 F v_length v_draft_chimneys v_text a1 v_fault v_place v_next v_start v_sort v_value v_draft_smokeCounts v_draft_smokes) else (if v_value ≤ (9 : Int32) then (if a1 = (6 : Int32) then (ob (fX5_blame F v_fault v_place v_start v_sort (4 : Int32)) (fun o_7 => some (o_7.1, o_7.2, v_next, v_start, v_sort, v_value, v_draft_smokeCounts, v_draft_smokes))) else (ob (fX7_addSmoke F v_draft_chimneys v_draft_smokeCounts v_draft_smokes v_value) (fun o_5 => ob (fX5_takeToken F v_length v_next v_start v_sort v_value v_text) (fun o_6 => some (v_fault, v_place, o_6.1, o_6.2.1, o_6.2.2.1, o_6.2.2.2, o_5.1, o_5.2))))) else (fX5_readFurtherSmoke_L17 F v_length v_draft_chimneys v_text a1 v_fault v_place v_next v_start v_sort v_value v_draft_smokeCounts v_draft_smokes))
set_option maxRecDepth 100000 in
set_option maxHeartbeats 4000000 in
theorem ctX5_readFurtherSmoke (l : Launch) (dC : Nat → ClassId) (dI : Nat → Nat → Nat) (F sz : Nat) (h0 h1 h2 h3 h4 : Nat) (q0 q1 q2 : ClassId) (v_fault : Int32) (v_place : Int32) (v_length : Int32) (v_next : Int32) (v_start : Int32) (v_sort : Int32) (v_value : Int32) (g_draft_xs : Value) (g_draft_heights : Value) (g_draft_froms : Value) (g_draft_tos : Value) (g_draft_litIn : Value) (g_draft_windQuarters : Value) (g_draft_windLows : Value) (g_draft_windHighs : Value) (v_draft_chimneys : Int32) (v_draft_windCount : Int32) (v_draft_layer : Int32) (v_draft_thick : Int32) (v_draft_fine : Int32) (v_draft_lines : Int32) (v_text : Nat → Int32) (v_draft_smokeCounts : Nat → Int32) (v_draft_smokes : Nat → Int32) (a1 : Int32) (out : Int32 × Int32 × Int32 × Int32 × Int32 × Int32 × (Nat → Int32) × (Nat → Int32)) (hf : fX5_readFurtherSmoke F v_fault v_place v_length v_next v_start v_sort v_value v_draft_chimneys v_text v_draft_smokeCounts v_draft_smokes a1 = some out)  : cM l yX5_readFurtherSmoke cX5_readFurtherSmoke 2 none ({ frames := 2, cells := 0, slots := 0, locals := 41 } : Room) (dC, dI) [(q0, .byte), (q1, .int), (q2, .int)] [(h0, .inr (5, [.ref h1, .int v_fault, .int v_place, .ref h2, .int v_length, .int v_next, .int v_start, .int v_sort, .int v_value])), (h1, .inr (7, [g_draft_xs, g_draft_heights, g_draft_froms, g_draft_tos, .ref h3, .ref h4, g_draft_litIn, g_draft_windQuarters, g_draft_windLows, g_draft_windHighs, .int v_draft_chimneys, .int v_draft_windCount, .int v_draft_layer, .int v_draft_thick, .int v_draft_fine, .int v_draft_lines])), (h2, .inl (q0, 900, .inl v_text)), (h3, .inl (q1, 10, .inl v_draft_smokeCounts)), (h4, .inl (q2, 60, .inl v_draft_smokes))] [.ref h0, .int a1] sz none [(h0, .inr (5, [.ref h1, .int out.1, .int out.2.1, .ref h2, .int v_length, .int out.2.2.1, .int out.2.2.2.1, .int out.2.2.2.2.1, .int out.2.2.2.2.2.1])), (h1, .inr (7, [g_draft_xs, g_draft_heights, g_draft_froms, g_draft_tos, .ref h3, .ref h4, g_draft_litIn, g_draft_windQuarters, g_draft_windLows, g_draft_windHighs, .int v_draft_chimneys, .int v_draft_windCount, .int v_draft_layer, .int v_draft_thick, .int v_draft_fine, .int v_draft_lines])), (h2, .inl (q0, 900, .inl v_text)), (h3, .inl (q1, 10, .inl out.2.2.2.2.2.2.1)), (h4, .inl (q2, 60, .inl out.2.2.2.2.2.2.2))] := by
  refine cM_V RX5 ⟨by decide, rfl⟩ (Nat.le_of_ble_eq_true rfl) ?_
  intro p e s m below meth c A Q ls hx hb hml hown hts hK hN hA hP hD hS hl hRet
  have htb : ∀ w ∈ lw_g, w.before ([.ref h0, .int a1] : List Value).toArray s = true := fun w h => hts w (List.mem_cons_of_mem _ h)
  have hl : lv_has ls 2 [(0, .ref h0), (1, .int a1)] := hl
  have hRet : ∀ (o : Int32 × Int32 × Int32 × Int32 × Int32 × Int32 × (Nat → Int32) × (Nat → Int32)) (H : Heap) (locs : List Loc) (ls : Array Slot) (pc : Nat), o = out → va_P (dC, dI) vwCl [(h0, .inr (5, [.ref h1, .int o.1, .int o.2.1, .ref h2, .int v_length, .int o.2.2.1, .int o.2.2.2.1, .int o.2.2.2.2.1, .int o.2.2.2.2.2.1])), (h1, .inr (7, [g_draft_xs, g_draft_heights, g_draft_froms, g_draft_tos, .ref h3, .ref h4, g_draft_litIn, g_draft_windQuarters, g_draft_windLows, g_draft_windHighs, .int v_draft_chimneys, .int v_draft_windCount, .int v_draft_layer, .int v_draft_thick, .int v_draft_fine, .int v_draft_lines])), (h2, .inl (q0, 900, .inl v_text)), (h3, .inl (q1, 10, .inl o.2.2.2.2.2.2.1)), (h4, .inl (q2, 60, .inl o.2.2.2.2.2.2.2))] H → va_D A [(h0, .inr (5, [.ref h1, .int o.1, .int o.2.1, .ref h2, .int v_length, .int o.2.2.1, .int o.2.2.2.1, .int o.2.2.2.2.1, .int o.2.2.2.2.2.1])), (h1, .inr (7, [g_draft_xs, g_draft_heights, g_draft_froms, g_draft_tos, .ref h3, .ref h4, g_draft_litIn, g_draft_windQuarters, g_draft_windLows, g_draft_windHighs, .int v_draft_chimneys, .int v_draft_windCount, .int v_draft_layer, .int v_draft_thick, .int v_draft_fine, .int v_draft_lines])), (h2, .inl (q0, 900, .inl v_text)), (h3, .inl (q1, 10, .inl o.2.2.2.2.2.2.1)), (h4, .inl (q2, 60, .inl o.2.2.2.2.2.2.2))] → va_S A s.heap H locs → decode cX5_readFurtherSmoke pc = .ok (.return_, 1) → W p l e ({ frames := 2, cells := 0, slots := 0, locals := 41 } : Room) s m ([.ref h0, .int a1] : List Value).toArray below meth c H locs 0 0 Q (F0 m pc ls []) := fun o H locs ls pc ho => by subst ho; exact hRet H locs ls pc
  have L17 : ∀ (H : Heap) (locs : List Loc) (ls : Array Slot) (v_fault : Int32) (v_place : Int32) (v_next : Int32) (v_start : Int32) (v_sort : Int32) (v_value : Int32) (v_draft_smokeCounts : Nat → Int32) (v_draft_smokes : Nat → Int32), va_P (dC, dI) vwCl [(h0, .inr (5, [.ref h1, .int v_fault, .int v_place, .ref h2, .int v_length, .int v_next, .int v_start, .int v_sort, .int v_value])), (h1, .inr (7, [g_draft_xs, g_draft_heights, g_draft_froms, g_draft_tos, .ref h3, .ref h4, g_draft_litIn, g_draft_windQuarters, g_draft_windLows, g_draft_windHighs, .int v_draft_chimneys, .int v_draft_windCount, .int v_draft_layer, .int v_draft_thick, .int v_draft_fine, .int v_draft_lines])), (h2, .inl (q0, 900, .inl v_text)), (h3, .inl (q1, 10, .inl v_draft_smokeCounts)), (h4, .inl (q2, 60, .inl v_draft_smokes))] H → va_D A [(h0, .inr (5, [.ref h1, .int v_fault, .int v_place, .ref h2, .int v_length, .int v_next, .int v_start, .int v_sort, .int v_value])), (h1, .inr (7, [g_draft_xs, g_draft_heights, g_draft_froms, g_draft_tos, .ref h3, .ref h4, g_draft_litIn, g_draft_windQuarters, g_draft_windLows, g_draft_windHighs, .int v_draft_chimneys, .int v_draft_windCount, .int v_draft_layer, .int v_draft_thick, .int v_draft_fine, .int v_draft_lines])), (h2, .inl (q0, 900, .inl v_text)), (h3, .inl (q1, 10, .inl v_draft_smokeCounts)), (h4, .inl (q2, 60, .inl v_draft_smokes))] → va_S A s.heap H locs → lv_has ls 2 [(0, .ref h0)] → fX5_readFurtherSmoke_L17 F v_length v_draft_chimneys v_text a1 v_fault v_place v_next v_start v_sort v_value v_draft_smokeCounts v_draft_smokes = some out → W p l e ({ frames := 2, cells := 0, slots := 0, locals := 41 } : Room) s m ([.ref h0, .int a1] : List Value).toArray below meth c H locs 0 0 Q (F0 m 17 ls []) := by
    intro H locs ls v_fault v_place v_next v_start v_sort v_value v_draft_smokeCounts v_draft_smokes hP hD hS hl hf
    unfold fX5_readFurtherSmoke_L17 at hf
    refine lv_aload_n hx hb dX5_readFurtherSmoke_17 rfl (lv_at hl 0 rfl) ?_
    refine lv_iconst (v := 3) hx hb dX5_readFurtherSmoke_18 (by decide) ?_
    obtain ⟨o_1, ho_1, hf⟩ := ob_some hf
    refine ca_V (As := [.int (3 : Int32)]) (rest := []) (wr := [(h1, .inr (7, [g_draft_xs, g_draft_heights, g_draft_froms, g_draft_tos, .ref h3, .ref h4, g_draft_litIn, g_draft_windQuarters, g_draft_windLows, g_draft_windHighs, .int v_draft_chimneys, .int v_draft_windCount, .int v_draft_layer, .int v_draft_thick, .int v_draft_fine, .int v_draft_lines])), (h2, .inl (q0, 900, .inl v_text)), (h3, .inl (q1, 10, .inl v_draft_smokeCounts)), (h4, .inl (q2, 60, .inl v_draft_smokes))]) (wn := [(h0, .inr (5, [.ref h1, .int o_1.1, .int o_1.2, .ref h2, .int v_length, .int v_next, .int v_start, .int v_sort, .int v_value])), (h1, .inr (7, [g_draft_xs, g_draft_heights, g_draft_froms, g_draft_tos, .ref h3, .ref h4, g_draft_litIn, g_draft_windQuarters, g_draft_windLows, g_draft_windHighs, .int v_draft_chimneys, .int v_draft_windCount, .int v_draft_layer, .int v_draft_thick, .int v_draft_fine, .int v_draft_lines])), (h2, .inl (q0, 900, .inl v_text)), (h3, .inl (q1, 10, .inl v_draft_smokeCounts)), (h4, .inl (q2, 60, .inl v_draft_smokes))]) ⟨hx, hb, hml, hown, hts⟩ (ctX5_blame l dC dI F H.size h0 (.ref h1) v_fault v_place (.ref h2) v_length v_next v_start v_sort v_value (3 : Int32) o_1 ho_1) ⟨mC_X5_blame, mN_X5, md_X5_blame, ⟨rfl, rfl⟩, ⟨Nat.le_of_ble_eq_true rfl, Nat.le_of_ble_eq_true rfl⟩⟩ mM_X5_82 mI_X5_blame mS_X5_blame hK hN hP hD hS hA [] [0] [1, 2, 3, 4] [4, 0, 1, 2, 3] rfl rfl rfl ⟨by decide, by decide, by decide, by decide⟩ rfl 0 5 rfl rfl rfl hl.1 (Nat.le_of_ble_eq_true rfl) ⟨Nat.zero_le _, Nat.zero_le _⟩ dX5_readFurtherSmoke_19 (fun H locs hP hD hS => ?_)
    refine lv_goto (tgt := 54) hx hb dX5_readFurtherSmoke_22 (by decide) ?_
    exact hRet (o_1.1, o_1.2, v_next, v_start, v_sort, v_value, v_draft_smokeCounts, v_draft_smokes) H locs ls 54 (Option.some.inj hf) hP hD hS dX5_readFurtherSmoke_54
  suffices K0 : ∀ (H : Heap) (locs : List Loc), va_P (dC, dI) vwCl [(h0, .inr (5, [.ref h1, .int v_fault, .int v_place, .ref h2, .int v_length, .int v_next, .int v_start, .int v_sort, .int v_value])), (h1, .inr (7, [g_draft_xs, g_draft_heights, g_draft_froms, g_draft_tos, .ref h3, .ref h4, g_draft_litIn, g_draft_windQuarters, g_draft_windLows, g_draft_windHighs, .int v_draft_chimneys, .int v_draft_windCount, .int v_draft_layer, .int v_draft_thick, .int v_draft_fine, .int v_draft_lines])), (h2, .inl (q0, 900, .inl v_text)), (h3, .inl (q1, 10, .inl v_draft_smokeCounts)), (h4, .inl (q2, 60, .inl v_draft_smokes))] H → va_D A [(h0, .inr (5, [.ref h1, .int v_fault, .int v_place, .ref h2, .int v_length, .int v_next, .int v_start, .int v_sort, .int v_value])), (h1, .inr (7, [g_draft_xs, g_draft_heights, g_draft_froms, g_draft_tos, .ref h3, .ref h4, g_draft_litIn, g_draft_windQuarters, g_draft_windLows, g_draft_windHighs, .int v_draft_chimneys, .int v_draft_windCount, .int v_draft_layer, .int v_draft_thick, .int v_draft_fine, .int v_draft_lines])), (h2, .inl (q0, 900, .inl v_text)), (h3, .inl (q1, 10, .inl v_draft_smokeCounts)), (h4, .inl (q2, 60, .inl v_draft_smokes))] → va_S A s.heap H locs → W p l e ({ frames := 2, cells := 0, slots := 0, locals := 41 } : Room) s m ([.ref h0, .int a1] : List Value).toArray below meth c H locs 0 0 Q (F0 m 0 ls []) from K0 s.heap [] hP hD hS
  clear hP hD hS
  intro H locs hP hD hS
  unfold fX5_readFurtherSmoke at hf
  refine lv_aload_n hx hb dX5_readFurtherSmoke_0 rfl (lv_at hl 0 rfl) ?_
  refine va_get (D := (dC, dI)) (ci := 5) (v := .int v_value) (C := RX5) (T := TX5) (N := 9) hx hb htb inG5 hown hK hP 0 rfl rfl 8 (by decide) (htb _ mF_X5_112) (fun _ h9 => h9) rfl dX5_readFurtherSmoke_1 ?_
  refine lv_iconst (v := 1) hx hb dX5_readFurtherSmoke_4 (by decide) ?_
  refine lv_icmp_lt (tgt := 17) hx hb dX5_readFurtherSmoke_5 (by decide) (fun c_2 => ?_) (fun c_2 => ?_)
  · have hf := oi_t hf c_2
    exact L17 H locs ls v_fault v_place v_next v_start v_sort v_value v_draft_smokeCounts v_draft_smokes hP hD hS (lv_sub hl [0] rfl) hf
  · have hf := oi_f hf c_2
    refine lv_aload_n hx hb dX5_readFurtherSmoke_8 rfl (lv_at hl 0 rfl) ?_
    refine va_get (D := (dC, dI)) (ci := 5) (v := .int v_value) (C := RX5) (T := TX5) (N := 9) hx hb htb inG5 hown hK hP 0 rfl rfl 8 (by decide) (htb _ mF_X5_112) (fun _ h9 => h9) rfl dX5_readFurtherSmoke_9 ?_
    refine lv_bipush (v := 9) hx hb dX5_readFurtherSmoke_12 (by decide) ?_
    refine lv_icmp_le (tgt := 25) hx hb dX5_readFurtherSmoke_14 (by decide) (fun c_3 => ?_) (fun c_3 => ?_)
    · have hf := oi_t hf c_3
      refine lv_iload_n hx hb dX5_readFurtherSmoke_25 rfl (lv_at hl 1 rfl) ?_
      refine lv_bipush (v := 6) hx hb dX5_readFurtherSmoke_26 (by decide) ?_
      refine lv_icmp_ne (tgt := 39) hx hb dX5_readFurtherSmoke_28 (by decide) (fun c_4 => ?_) (fun c_4 => ?_)
      · have hf := oi_f hf c_4
        refine lv_aload_n hx hb dX5_readFurtherSmoke_39 rfl (lv_at hl 0 rfl) ?_
        refine va_get (D := (dC, dI)) (ci := 5) (v := .ref h1) (C := RX5) (T := TX5) (N := 9) hx hb htb inG5 hown hK hP 0 rfl rfl 0 (by decide) (htb _ mF_X5_12) (fun _ h9 => h9) rfl dX5_readFurtherSmoke_40 ?_
        refine lv_aload_n hx hb dX5_readFurtherSmoke_43 rfl (lv_at hl 0 rfl) ?_
        refine va_get (D := (dC, dI)) (ci := 5) (v := .int v_value) (C := RX5) (T := TX5) (N := 9) hx hb htb inG5 hown hK hP 0 rfl rfl 8 (by decide) (htb _ mF_X5_112) (fun _ h9 => h9) rfl dX5_readFurtherSmoke_44 ?_
        obtain ⟨o_5, ho_5, hf⟩ := ob_some hf
        refine ca_V (As := [.int v_value]) (rest := []) (wr := [(h0, .inr (5, [.ref h1, .int v_fault, .int v_place, .ref h2, .int v_length, .int v_next, .int v_start, .int v_sort, .int v_value])), (h2, .inl (q0, 900, .inl v_text))]) (wn := [(h0, .inr (5, [.ref h1, .int v_fault, .int v_place, .ref h2, .int v_length, .int v_next, .int v_start, .int v_sort, .int v_value])), (h1, .inr (7, [g_draft_xs, g_draft_heights, g_draft_froms, g_draft_tos, .ref h3, .ref h4, g_draft_litIn, g_draft_windQuarters, g_draft_windLows, g_draft_windHighs, .int v_draft_chimneys, .int v_draft_windCount, .int v_draft_layer, .int v_draft_thick, .int v_draft_fine, .int v_draft_lines])), (h2, .inl (q0, 900, .inl v_text)), (h3, .inl (q1, 10, .inl o_5.1)), (h4, .inl (q2, 60, .inl o_5.2))]) ⟨hx, hb, hml, hown, hts⟩ (ctX7_addSmoke l dC dI F H.size h1 h3 h4 q1 q2 (g_draft_xs) (g_draft_heights) (g_draft_froms) (g_draft_tos) (g_draft_litIn) (g_draft_windQuarters) (g_draft_windLows) (g_draft_windHighs) v_draft_chimneys v_draft_windCount v_draft_layer v_draft_thick v_draft_fine v_draft_lines v_draft_smokeCounts v_draft_smokes v_value o_5 ho_5) ⟨mC_X7_addSmoke, mN_X7, md_X7_addSmoke, ⟨rfl, rfl⟩, ⟨Nat.le_of_ble_eq_true rfl, Nat.le_of_ble_eq_true rfl⟩⟩ mM_X5_99 mI_X7_addSmoke mS_X7_addSmoke hK hN hP hD hS hA [1, 2] [1, 3, 4] [0, 2] [0, 2, 1, 3, 4] rfl rfl rfl ⟨by decide, by decide, by decide, by decide⟩ rfl 0 7 rfl rfl rfl hl.1 (Nat.le_of_ble_eq_true rfl) ⟨Nat.zero_le _, Nat.zero_le _⟩ dX5_readFurtherSmoke_47 (fun H locs hP hD hS => ?_)
        refine lv_aload_n hx hb dX5_readFurtherSmoke_50 rfl (lv_at hl 0 rfl) ?_
        obtain ⟨o_6, ho_6, hf⟩ := ob_some hf
        refine ca_V (As := []) (rest := []) (wr := [(h1, .inr (7, [g_draft_xs, g_draft_heights, g_draft_froms, g_draft_tos, .ref h3, .ref h4, g_draft_litIn, g_draft_windQuarters, g_draft_windLows, g_draft_windHighs, .int v_draft_chimneys, .int v_draft_windCount, .int v_draft_layer, .int v_draft_thick, .int v_draft_fine, .int v_draft_lines])), (h3, .inl (q1, 10, .inl o_5.1)), (h4, .inl (q2, 60, .inl o_5.2))]) (wn := [(h0, .inr (5, [.ref h1, .int v_fault, .int v_place, .ref h2, .int v_length, .int o_6.1, .int o_6.2.1, .int o_6.2.2.1, .int o_6.2.2.2])), (h1, .inr (7, [g_draft_xs, g_draft_heights, g_draft_froms, g_draft_tos, .ref h3, .ref h4, g_draft_litIn, g_draft_windQuarters, g_draft_windLows, g_draft_windHighs, .int v_draft_chimneys, .int v_draft_windCount, .int v_draft_layer, .int v_draft_thick, .int v_draft_fine, .int v_draft_lines])), (h2, .inl (q0, 900, .inl v_text)), (h3, .inl (q1, 10, .inl o_5.1)), (h4, .inl (q2, 60, .inl o_5.2))]) ⟨hx, hb, hml, hown, hts⟩ (ctX5_takeToken l dC dI F H.size h0 h2 q0 (.ref h1) v_fault v_place v_length v_next v_start v_sort v_value v_text o_6 ho_6) ⟨mC_X5_takeToken, mN_X5, md_X5_takeToken, ⟨rfl, rfl⟩, ⟨Nat.le_of_ble_eq_true rfl, Nat.le_of_ble_eq_true rfl⟩⟩ mM_X5_44 mI_X5_takeToken mS_X5_takeToken hK hN hP hD hS hA [0] [0, 2] [1, 3, 4] [3, 0, 4, 1, 2] rfl rfl rfl ⟨by decide, by decide, by decide, by decide⟩ rfl 0 5 rfl rfl rfl hl.1 (Nat.le_of_ble_eq_true rfl) ⟨Nat.zero_le _, Nat.zero_le _⟩ dX5_readFurtherSmoke_51 (fun H locs hP hD hS => ?_)
        exact hRet (v_fault, v_place, o_6.1, o_6.2.1, o_6.2.2.1, o_6.2.2.2, o_5.1, o_5.2) H locs ls 54 (Option.some.inj hf) hP hD hS dX5_readFurtherSmoke_54
      · have hf := oi_t hf c_4
        refine lv_aload_n hx hb dX5_readFurtherSmoke_31 rfl (lv_at hl 0 rfl) ?_
        refine lv_iconst (v := 4) hx hb dX5_readFurtherSmoke_32 (by decide) ?_
        obtain ⟨o_7, ho_7, hf⟩ := ob_some hf
        refine ca_V (As := [.int (4 : Int32)]) (rest := []) (wr := [(h1, .inr (7, [g_draft_xs, g_draft_heights, g_draft_froms, g_draft_tos, .ref h3, .ref h4, g_draft_litIn, g_draft_windQuarters, g_draft_windLows, g_draft_windHighs, .int v_draft_chimneys, .int v_draft_windCount, .int v_draft_layer, .int v_draft_thick, .int v_draft_fine, .int v_draft_lines])), (h2, .inl (q0, 900, .inl v_text)), (h3, .inl (q1, 10, .inl v_draft_smokeCounts)), (h4, .inl (q2, 60, .inl v_draft_smokes))]) (wn := [(h0, .inr (5, [.ref h1, .int o_7.1, .int o_7.2, .ref h2, .int v_length, .int v_next, .int v_start, .int v_sort, .int v_value])), (h1, .inr (7, [g_draft_xs, g_draft_heights, g_draft_froms, g_draft_tos, .ref h3, .ref h4, g_draft_litIn, g_draft_windQuarters, g_draft_windLows, g_draft_windHighs, .int v_draft_chimneys, .int v_draft_windCount, .int v_draft_layer, .int v_draft_thick, .int v_draft_fine, .int v_draft_lines])), (h2, .inl (q0, 900, .inl v_text)), (h3, .inl (q1, 10, .inl v_draft_smokeCounts)), (h4, .inl (q2, 60, .inl v_draft_smokes))]) ⟨hx, hb, hml, hown, hts⟩ (ctX5_blame l dC dI F H.size h0 (.ref h1) v_fault v_place (.ref h2) v_length v_next v_start v_sort v_value (4 : Int32) o_7 ho_7) ⟨mC_X5_blame, mN_X5, md_X5_blame, ⟨rfl, rfl⟩, ⟨Nat.le_of_ble_eq_true rfl, Nat.le_of_ble_eq_true rfl⟩⟩ mM_X5_82 mI_X5_blame mS_X5_blame hK hN hP hD hS hA [] [0] [1, 2, 3, 4] [4, 0, 1, 2, 3] rfl rfl rfl ⟨by decide, by decide, by decide, by decide⟩ rfl 0 5 rfl rfl rfl hl.1 (Nat.le_of_ble_eq_true rfl) ⟨Nat.zero_le _, Nat.zero_le _⟩ dX5_readFurtherSmoke_33 (fun H locs hP hD hS => ?_)
        refine lv_goto (tgt := 54) hx hb dX5_readFurtherSmoke_36 (by decide) ?_
        exact hRet (o_7.1, o_7.2, v_next, v_start, v_sort, v_value, v_draft_smokeCounts, v_draft_smokes) H locs ls 54 (Option.some.inj hf) hP hD hS dX5_readFurtherSmoke_54
    · have hf := oi_f hf c_3
      exact L17 H locs ls v_fault v_place v_next v_start v_sort v_value v_draft_smokeCounts v_draft_smokes hP hD hS (lv_sub hl [0] rfl) hf
def fX5_onlyNumber (F : Nat) (v_fault : Int32) (v_place : Int32) (v_length : Int32) (v_next : Int32) (v_start : Int32) (v_sort : Int32) (v_value : Int32) (v_text : Nat → Int32) (a1 : Int32) (a2 : Int32) : Option (Int32 × Int32 × Int32 × Int32 × Int32 × Int32 × Int32) := ob (fX5_number F v_fault v_place v_length v_next v_start v_sort v_value v_text a1 a2) (fun o_1 => ob (fX5_takeToken F v_length o_1.2.2.2.1 o_1.2.2.2.2.1 o_1.2.2.2.2.2.1 o_1.2.2.2.2.2.2 v_text) (fun o_2 => some (o_1.1, o_1.2.1, o_1.2.2.1, o_2.1, o_2.2.1, o_2.2.2.1, o_2.2.2.2)))
set_option maxRecDepth 100000 in
set_option maxHeartbeats 4000000 in
theorem ctX5_onlyNumber (l : Launch) (dC : Nat → ClassId) (dI : Nat → Nat → Nat) (F sz : Nat) (h0 h1 : Nat) (q0 : ClassId) (g_draft : Value) (v_fault : Int32) (v_place : Int32) (v_length : Int32) (v_next : Int32) (v_start : Int32) (v_sort : Int32) (v_value : Int32) (v_text : Nat → Int32) (a1 : Int32) (a2 : Int32) (out : Int32 × Int32 × Int32 × Int32 × Int32 × Int32 × Int32) (hf : fX5_onlyNumber F v_fault v_place v_length v_next v_start v_sort v_value v_text a1 a2 = some out)  : cM l yX5_onlyNumber cX5_onlyNumber 4 (some .int) ({ frames := 3, cells := 0, slots := 0, locals := 63 } : Room) (dC, dI) [(q0, .byte)] [(h0, .inr (5, [g_draft, .int v_fault, .int v_place, .ref h1, .int v_length, .int v_next, .int v_start, .int v_sort, .int v_value])), (h1, .inl (q0, 900, .inl v_text))] [.ref h0, .int a1, .int a2] sz (some (.int out.1)) [(h0, .inr (5, [g_draft, .int out.2.1, .int out.2.2.1, .ref h1, .int v_length, .int out.2.2.2.1, .int out.2.2.2.2.1, .int out.2.2.2.2.2.1, .int out.2.2.2.2.2.2])), (h1, .inl (q0, 900, .inl v_text))] := by
  refine cM_I RX5 ⟨by decide, rfl⟩ (Nat.le_of_ble_eq_true rfl) ?_
  intro p e s m below meth c A Q ls hx hb hml hown hts hK hN hA hP hD hS hl hRet
  have htb : ∀ w ∈ lw_g, w.before ([.ref h0, .int a1, .int a2] : List Value).toArray s = true := fun w h => hts w (List.mem_cons_of_mem _ h)
  have hl : lv_has ls 4 [(0, .ref h0), (1, .int a1), (2, .int a2)] := hl
  have hRet : ∀ (o : Int32 × Int32 × Int32 × Int32 × Int32 × Int32 × Int32) (H : Heap) (locs : List Loc) (ls : Array Slot) (pc : Nat), o = out → va_P (dC, dI) vwCl [(h0, .inr (5, [g_draft, .int o.2.1, .int o.2.2.1, .ref h1, .int v_length, .int o.2.2.2.1, .int o.2.2.2.2.1, .int o.2.2.2.2.2.1, .int o.2.2.2.2.2.2])), (h1, .inl (q0, 900, .inl v_text))] H → va_D A [(h0, .inr (5, [g_draft, .int o.2.1, .int o.2.2.1, .ref h1, .int v_length, .int o.2.2.2.1, .int o.2.2.2.2.1, .int o.2.2.2.2.2.1, .int o.2.2.2.2.2.2])), (h1, .inl (q0, 900, .inl v_text))] → va_S A s.heap H locs → narrow .int (.int o.1) = .int o.1 → decode cX5_onlyNumber pc = .ok (.ireturn, 1) → W p l e ({ frames := 3, cells := 0, slots := 0, locals := 63 } : Room) s m ([.ref h0, .int a1, .int a2] : List Value).toArray below meth c H locs 0 0 Q (F0 m pc ls [.int o.1]) := fun o H locs ls pc ho => by subst ho; exact hRet H locs ls pc
  suffices K0 : ∀ (H : Heap) (locs : List Loc), va_P (dC, dI) vwCl [(h0, .inr (5, [g_draft, .int v_fault, .int v_place, .ref h1, .int v_length, .int v_next, .int v_start, .int v_sort, .int v_value])), (h1, .inl (q0, 900, .inl v_text))] H → va_D A [(h0, .inr (5, [g_draft, .int v_fault, .int v_place, .ref h1, .int v_length, .int v_next, .int v_start, .int v_sort, .int v_value])), (h1, .inl (q0, 900, .inl v_text))] → va_S A s.heap H locs → W p l e ({ frames := 3, cells := 0, slots := 0, locals := 63 } : Room) s m ([.ref h0, .int a1, .int a2] : List Value).toArray below meth c H locs 0 0 Q (F0 m 0 ls []) from K0 s.heap [] hP hD hS
  clear hP hD hS
  intro H locs hP hD hS
  unfold fX5_onlyNumber at hf
  refine lv_aload_n hx hb dX5_onlyNumber_0 rfl (lv_at hl 0 rfl) ?_
  refine lv_iload_n hx hb dX5_onlyNumber_1 rfl (lv_at hl 1 rfl) ?_
  refine lv_iload_n hx hb dX5_onlyNumber_2 rfl (lv_at hl 2 rfl) ?_
  obtain ⟨o_1, ho_1, hf⟩ := ob_some hf
  refine ca_V (As := [.int a1, .int a2]) (rest := []) (wr := []) (wn := [(h0, .inr (5, [g_draft, .int o_1.2.1, .int o_1.2.2.1, .ref h1, .int v_length, .int o_1.2.2.2.1, .int o_1.2.2.2.2.1, .int o_1.2.2.2.2.2.1, .int o_1.2.2.2.2.2.2])), (h1, .inl (q0, 900, .inl v_text))]) ⟨hx, hb, hml, hown, hts⟩ (ctX5_number l dC dI F H.size h0 h1 q0 (g_draft) v_fault v_place v_length v_next v_start v_sort v_value v_text a1 a2 o_1 ho_1) ⟨mC_X5_number, mN_X5, md_X5_number, ⟨rfl, rfl⟩, ⟨Nat.le_of_ble_eq_true rfl, Nat.le_of_ble_eq_true rfl⟩⟩ mM_X5_92 mI_X5_number mS_X5_number hK hN hP hD hS hA [0] [0, 1] [] [0, 1] rfl rfl rfl ⟨by decide, by decide, by decide, by decide⟩ rfl 0 5 rfl rfl rfl hl.1 (Nat.le_of_ble_eq_true rfl) ⟨Nat.zero_le _, Nat.zero_le _⟩ dX5_onlyNumber_3 (fun H locs hP hD hS => ?_)
  refine lv_istore_n (lv' := [(3, .int o_1.1), (0, .ref h0), (1, .int a1), (2, .int a2)]) hx hb dX5_onlyNumber_6 rfl hl (by decide) rfl (fun ls hl => ?_)
  refine lv_aload_n hx hb dX5_onlyNumber_7 rfl (lv_at hl 1 rfl) ?_
  obtain ⟨o_2, ho_2, hf⟩ := ob_some hf
  refine ca_V (As := []) (rest := []) (wr := []) (wn := [(h0, .inr (5, [g_draft, .int o_1.2.1, .int o_1.2.2.1, .ref h1, .int v_length, .int o_2.1, .int o_2.2.1, .int o_2.2.2.1, .int o_2.2.2.2])), (h1, .inl (q0, 900, .inl v_text))]) ⟨hx, hb, hml, hown, hts⟩ (ctX5_takeToken l dC dI F H.size h0 h1 q0 (g_draft) o_1.2.1 o_1.2.2.1 v_length o_1.2.2.2.1 o_1.2.2.2.2.1 o_1.2.2.2.2.2.1 o_1.2.2.2.2.2.2 v_text o_2 ho_2) ⟨mC_X5_takeToken, mN_X5, md_X5_takeToken, ⟨rfl, rfl⟩, ⟨Nat.le_of_ble_eq_true rfl, Nat.le_of_ble_eq_true rfl⟩⟩ mM_X5_44 mI_X5_takeToken mS_X5_takeToken hK hN hP hD hS hA [0] [0, 1] [] [0, 1] rfl rfl rfl ⟨by decide, by decide, by decide, by decide⟩ rfl 0 5 rfl rfl rfl hl.1 (Nat.le_of_ble_eq_true rfl) ⟨Nat.zero_le _, Nat.zero_le _⟩ dX5_onlyNumber_8 (fun H locs hP hD hS => ?_)
  refine lv_iload_n hx hb dX5_onlyNumber_11 rfl (lv_at hl 0 rfl) ?_
  exact hRet (o_1.1, o_1.2.1, o_1.2.2.1, o_2.1, o_2.2.1, o_2.2.2.1, o_2.2.2.2) H locs ls 12 (Option.some.inj hf) hP hD hS rfl dX5_onlyNumber_12
def fX5_readWind (F : Nat) (v_fault : Int32) (v_place : Int32) (v_length : Int32) (v_next : Int32) (v_start : Int32) (v_sort : Int32) (v_value : Int32) (v_draft_windCount : Int32) (v_text : Nat → Int32) (v_draft_windHighs : Nat → Int32) (v_draft_windLows : Nat → Int32) (v_draft_windQuarters : Nat → Int32)  : Option (Int32 × Int32 × Int32 × Int32 × Int32 × Int32 × Int32 × (Nat → Int32) × (Nat → Int32) × (Nat → Int32)) := if v_draft_windCount = (12 : Int32) then (ob (fX5_blame F v_fault v_place v_start v_sort (4 : Int32)) (fun o_7 => some (o_7.1, o_7.2, v_next, v_start, v_sort, v_value, v_draft_windCount, v_draft_windHighs, v_draft_windLows, v_draft_windQuarters))) else (ob (fX5_number F v_fault v_place v_length v_next v_start v_sort v_value v_text (0 : Int32) (47 : Int32)) (fun o_2 => ob (fX5_number F o_2.2.1 o_2.2.2.1 v_length o_2.2.2.2.1 o_2.2.2.2.2.1 o_2.2.2.2.2.2.1 o_2.2.2.2.2.2.2 v_text (0 : Int32) (6 : Int32)) (fun o_3 => ob (fX5_number F o_3.2.1 o_3.2.2.1 v_length o_3.2.2.2.1 o_3.2.2.2.2.1 o_3.2.2.2.2.2.1 o_3.2.2.2.2.2.2 v_text (0 : Int32) (6 : Int32)) (fun o_4 => ob (fX7_addWind F v_draft_windCount v_draft_windHighs v_draft_windLows v_draft_windQuarters o_2.1 o_3.1 o_4.1) (fun o_5 => ob (fX5_takeToken F v_length o_4.2.2.2.1 o_4.2.2.2.2.1 o_4.2.2.2.2.2.1 o_4.2.2.2.2.2.2 v_text) (fun o_6 => some (o_4.2.1, o_4.2.2.1, o_6.1, o_6.2.1, o_6.2.2.1, o_6.2.2.2, o_5.1, o_5.2.1, o_5.2.2.1, o_5.2.2.2)))))))
set_option maxRecDepth 100000 in
set_option maxHeartbeats 4000000 in
theorem ctX5_readWind (l : Launch) (dC : Nat → ClassId) (dI : Nat → Nat → Nat) (F sz : Nat) (h0 h1 h2 h3 h4 h5 : Nat) (q0 q1 q2 q3 : ClassId) (v_fault : Int32) (v_place : Int32) (v_length : Int32) (v_next : Int32) (v_start : Int32) (v_sort : Int32) (v_value : Int32) (g_draft_xs : Value) (g_draft_heights : Value) (g_draft_froms : Value) (g_draft_tos : Value) (g_draft_smokeCounts : Value) (g_draft_smokes : Value) (g_draft_litIn : Value) (v_draft_chimneys : Int32) (v_draft_windCount : Int32) (v_draft_layer : Int32) (v_draft_thick : Int32) (v_draft_fine : Int32) (v_draft_lines : Int32) (v_text : Nat → Int32) (v_draft_windHighs : Nat → Int32) (v_draft_windLows : Nat → Int32) (v_draft_windQuarters : Nat → Int32)  (out : Int32 × Int32 × Int32 × Int32 × Int32 × Int32 × Int32 × (Nat → Int32) × (Nat → Int32) × (Nat → Int32)) (hf : fX5_readWind F v_fault v_place v_length v_next v_start v_sort v_value v_draft_windCount v_text v_draft_windHighs v_draft_windLows v_draft_windQuarters = some out)  : cM l yX5_readWind cX5_readWind 4 none ({ frames := 3, cells := 0, slots := 0, locals := 63 } : Room) (dC, dI) [(q0, .byte), (q1, .int), (q2, .int), (q3, .int)] [(h0, .inr (5, [.ref h1, .int v_fault, .int v_place, .ref h2, .int v_length, .int v_next, .int v_start, .int v_sort, .int v_value])), (h1, .inr (7, [g_draft_xs, g_draft_heights, g_draft_froms, g_draft_tos, g_draft_smokeCounts, g_draft_smokes, g_draft_litIn, .ref h5, .ref h4, .ref h3, .int v_draft_chimneys, .int v_draft_windCount, .int v_draft_layer, .int v_draft_thick, .int v_draft_fine, .int v_draft_lines])), (h2, .inl (q0, 900, .inl v_text)), (h3, .inl (q1, 12, .inl v_draft_windHighs)), (h4, .inl (q2, 12, .inl v_draft_windLows)), (h5, .inl (q3, 12, .inl v_draft_windQuarters))] [.ref h0] sz none [(h0, .inr (5, [.ref h1, .int out.1, .int out.2.1, .ref h2, .int v_length, .int out.2.2.1, .int out.2.2.2.1, .int out.2.2.2.2.1, .int out.2.2.2.2.2.1])), (h1, .inr (7, [g_draft_xs, g_draft_heights, g_draft_froms, g_draft_tos, g_draft_smokeCounts, g_draft_smokes, g_draft_litIn, .ref h5, .ref h4, .ref h3, .int v_draft_chimneys, .int out.2.2.2.2.2.2.1, .int v_draft_layer, .int v_draft_thick, .int v_draft_fine, .int v_draft_lines])), (h2, .inl (q0, 900, .inl v_text)), (h3, .inl (q1, 12, .inl out.2.2.2.2.2.2.2.1)), (h4, .inl (q2, 12, .inl out.2.2.2.2.2.2.2.2.1)), (h5, .inl (q3, 12, .inl out.2.2.2.2.2.2.2.2.2))] := by
  refine cM_V RX5 ⟨by decide, rfl⟩ (Nat.le_of_ble_eq_true rfl) ?_
  intro p e s m below meth c A Q ls hx hb hml hown hts hK hN hA hP hD hS hl hRet
  have htb : ∀ w ∈ lw_g, w.before ([.ref h0] : List Value).toArray s = true := fun w h => hts w (List.mem_cons_of_mem _ h)
  have hl : lv_has ls 4 [(0, .ref h0)] := hl
  have hRet : ∀ (o : Int32 × Int32 × Int32 × Int32 × Int32 × Int32 × Int32 × (Nat → Int32) × (Nat → Int32) × (Nat → Int32)) (H : Heap) (locs : List Loc) (ls : Array Slot) (pc : Nat), o = out → va_P (dC, dI) vwCl [(h0, .inr (5, [.ref h1, .int o.1, .int o.2.1, .ref h2, .int v_length, .int o.2.2.1, .int o.2.2.2.1, .int o.2.2.2.2.1, .int o.2.2.2.2.2.1])), (h1, .inr (7, [g_draft_xs, g_draft_heights, g_draft_froms, g_draft_tos, g_draft_smokeCounts, g_draft_smokes, g_draft_litIn, .ref h5, .ref h4, .ref h3, .int v_draft_chimneys, .int o.2.2.2.2.2.2.1, .int v_draft_layer, .int v_draft_thick, .int v_draft_fine, .int v_draft_lines])), (h2, .inl (q0, 900, .inl v_text)), (h3, .inl (q1, 12, .inl o.2.2.2.2.2.2.2.1)), (h4, .inl (q2, 12, .inl o.2.2.2.2.2.2.2.2.1)), (h5, .inl (q3, 12, .inl o.2.2.2.2.2.2.2.2.2))] H → va_D A [(h0, .inr (5, [.ref h1, .int o.1, .int o.2.1, .ref h2, .int v_length, .int o.2.2.1, .int o.2.2.2.1, .int o.2.2.2.2.1, .int o.2.2.2.2.2.1])), (h1, .inr (7, [g_draft_xs, g_draft_heights, g_draft_froms, g_draft_tos, g_draft_smokeCounts, g_draft_smokes, g_draft_litIn, .ref h5, .ref h4, .ref h3, .int v_draft_chimneys, .int o.2.2.2.2.2.2.1, .int v_draft_layer, .int v_draft_thick, .int v_draft_fine, .int v_draft_lines])), (h2, .inl (q0, 900, .inl v_text)), (h3, .inl (q1, 12, .inl o.2.2.2.2.2.2.2.1)), (h4, .inl (q2, 12, .inl o.2.2.2.2.2.2.2.2.1)), (h5, .inl (q3, 12, .inl o.2.2.2.2.2.2.2.2.2))] → va_S A s.heap H locs → decode cX5_readWind pc = .ok (.return_, 1) → W p l e ({ frames := 3, cells := 0, slots := 0, locals := 63 } : Room) s m ([.ref h0] : List Value).toArray below meth c H locs 0 0 Q (F0 m pc ls []) := fun o H locs ls pc ho => by subst ho; exact hRet H locs ls pc
  suffices K0 : ∀ (H : Heap) (locs : List Loc), va_P (dC, dI) vwCl [(h0, .inr (5, [.ref h1, .int v_fault, .int v_place, .ref h2, .int v_length, .int v_next, .int v_start, .int v_sort, .int v_value])), (h1, .inr (7, [g_draft_xs, g_draft_heights, g_draft_froms, g_draft_tos, g_draft_smokeCounts, g_draft_smokes, g_draft_litIn, .ref h5, .ref h4, .ref h3, .int v_draft_chimneys, .int v_draft_windCount, .int v_draft_layer, .int v_draft_thick, .int v_draft_fine, .int v_draft_lines])), (h2, .inl (q0, 900, .inl v_text)), (h3, .inl (q1, 12, .inl v_draft_windHighs)), (h4, .inl (q2, 12, .inl v_draft_windLows)), (h5, .inl (q3, 12, .inl v_draft_windQuarters))] H → va_D A [(h0, .inr (5, [.ref h1, .int v_fault, .int v_place, .ref h2, .int v_length, .int v_next, .int v_start, .int v_sort, .int v_value])), (h1, .inr (7, [g_draft_xs, g_draft_heights, g_draft_froms, g_draft_tos, g_draft_smokeCounts, g_draft_smokes, g_draft_litIn, .ref h5, .ref h4, .ref h3, .int v_draft_chimneys, .int v_draft_windCount, .int v_draft_layer, .int v_draft_thick, .int v_draft_fine, .int v_draft_lines])), (h2, .inl (q0, 900, .inl v_text)), (h3, .inl (q1, 12, .inl v_draft_windHighs)), (h4, .inl (q2, 12, .inl v_draft_windLows)), (h5, .inl (q3, 12, .inl v_draft_windQuarters))] → va_S A s.heap H locs → W p l e ({ frames := 3, cells := 0, slots := 0, locals := 63 } : Room) s m ([.ref h0] : List Value).toArray below meth c H locs 0 0 Q (F0 m 0 ls []) from K0 s.heap [] hP hD hS
  clear hP hD hS
  intro H locs hP hD hS
  unfold fX5_readWind at hf
  refine lv_aload_n hx hb dX5_readWind_0 rfl (lv_at hl 0 rfl) ?_
  refine va_get (D := (dC, dI)) (ci := 5) (v := .ref h1) (C := RX5) (T := TX5) (N := 9) hx hb htb inG5 hown hK hP 0 rfl rfl 0 (by decide) (htb _ mF_X5_12) (fun _ h9 => h9) rfl dX5_readWind_1 ?_
  refine va_get (D := (dC, dI)) (ci := 7) (v := .int v_draft_windCount) (C := RX7) (T := TX7) (N := 16) hx hb htb inG7 hown hK hP 1 rfl rfl 11 (by decide) (htb _ mF_X5_115) (fun _ h9 => h9) rfl dX5_readWind_4 ?_
  refine lv_bipush (v := 12) hx hb dX5_readWind_7 (by decide) ?_
  refine lv_icmp_ne (tgt := 18) hx hb dX5_readWind_9 (by decide) (fun c_1 => ?_) (fun c_1 => ?_)
  · have hf := oi_f hf c_1
    refine lv_aload_n hx hb dX5_readWind_18 rfl (lv_at hl 0 rfl) ?_
    refine lv_iconst (v := 0) hx hb dX5_readWind_19 (by decide) ?_
    refine lv_bipush (v := 47) hx hb dX5_readWind_20 (by decide) ?_
    obtain ⟨o_2, ho_2, hf⟩ := ob_some hf
    refine ca_V (As := [.int (0 : Int32), .int (47 : Int32)]) (rest := []) (wr := [(h1, .inr (7, [g_draft_xs, g_draft_heights, g_draft_froms, g_draft_tos, g_draft_smokeCounts, g_draft_smokes, g_draft_litIn, .ref h5, .ref h4, .ref h3, .int v_draft_chimneys, .int v_draft_windCount, .int v_draft_layer, .int v_draft_thick, .int v_draft_fine, .int v_draft_lines])), (h3, .inl (q1, 12, .inl v_draft_windHighs)), (h4, .inl (q2, 12, .inl v_draft_windLows)), (h5, .inl (q3, 12, .inl v_draft_windQuarters))]) (wn := [(h0, .inr (5, [.ref h1, .int o_2.2.1, .int o_2.2.2.1, .ref h2, .int v_length, .int o_2.2.2.2.1, .int o_2.2.2.2.2.1, .int o_2.2.2.2.2.2.1, .int o_2.2.2.2.2.2.2])), (h1, .inr (7, [g_draft_xs, g_draft_heights, g_draft_froms, g_draft_tos, g_draft_smokeCounts, g_draft_smokes, g_draft_litIn, .ref h5, .ref h4, .ref h3, .int v_draft_chimneys, .int v_draft_windCount, .int v_draft_layer, .int v_draft_thick, .int v_draft_fine, .int v_draft_lines])), (h2, .inl (q0, 900, .inl v_text)), (h3, .inl (q1, 12, .inl v_draft_windHighs)), (h4, .inl (q2, 12, .inl v_draft_windLows)), (h5, .inl (q3, 12, .inl v_draft_windQuarters))]) ⟨hx, hb, hml, hown, hts⟩ (ctX5_number l dC dI F H.size h0 h2 q0 (.ref h1) v_fault v_place v_length v_next v_start v_sort v_value v_text (0 : Int32) (47 : Int32) o_2 ho_2) ⟨mC_X5_number, mN_X5, md_X5_number, ⟨rfl, rfl⟩, ⟨Nat.le_of_ble_eq_true rfl, Nat.le_of_ble_eq_true rfl⟩⟩ mM_X5_92 mI_X5_number mS_X5_number hK hN hP hD hS hA [0] [0, 2] [1, 3, 4, 5] [4, 0, 5, 1, 2, 3] rfl rfl rfl ⟨by decide, by decide, by decide, by decide⟩ rfl 0 5 rfl rfl rfl hl.1 (Nat.le_of_ble_eq_true rfl) ⟨Nat.zero_le _, Nat.zero_le _⟩ dX5_readWind_22 (fun H locs hP hD hS => ?_)
    refine lv_istore_n (lv' := [(1, .int o_2.1), (0, .ref h0)]) hx hb dX5_readWind_25 rfl hl (by decide) rfl (fun ls hl => ?_)
    refine lv_aload_n hx hb dX5_readWind_26 rfl (lv_at hl 1 rfl) ?_
    refine lv_iconst (v := 0) hx hb dX5_readWind_27 (by decide) ?_
    refine lv_bipush (v := 6) hx hb dX5_readWind_28 (by decide) ?_
    obtain ⟨o_3, ho_3, hf⟩ := ob_some hf
    refine ca_V (As := [.int (0 : Int32), .int (6 : Int32)]) (rest := []) (wr := [(h1, .inr (7, [g_draft_xs, g_draft_heights, g_draft_froms, g_draft_tos, g_draft_smokeCounts, g_draft_smokes, g_draft_litIn, .ref h5, .ref h4, .ref h3, .int v_draft_chimneys, .int v_draft_windCount, .int v_draft_layer, .int v_draft_thick, .int v_draft_fine, .int v_draft_lines])), (h3, .inl (q1, 12, .inl v_draft_windHighs)), (h4, .inl (q2, 12, .inl v_draft_windLows)), (h5, .inl (q3, 12, .inl v_draft_windQuarters))]) (wn := [(h0, .inr (5, [.ref h1, .int o_3.2.1, .int o_3.2.2.1, .ref h2, .int v_length, .int o_3.2.2.2.1, .int o_3.2.2.2.2.1, .int o_3.2.2.2.2.2.1, .int o_3.2.2.2.2.2.2])), (h1, .inr (7, [g_draft_xs, g_draft_heights, g_draft_froms, g_draft_tos, g_draft_smokeCounts, g_draft_smokes, g_draft_litIn, .ref h5, .ref h4, .ref h3, .int v_draft_chimneys, .int v_draft_windCount, .int v_draft_layer, .int v_draft_thick, .int v_draft_fine, .int v_draft_lines])), (h2, .inl (q0, 900, .inl v_text)), (h3, .inl (q1, 12, .inl v_draft_windHighs)), (h4, .inl (q2, 12, .inl v_draft_windLows)), (h5, .inl (q3, 12, .inl v_draft_windQuarters))]) ⟨hx, hb, hml, hown, hts⟩ (ctX5_number l dC dI F H.size h0 h2 q0 (.ref h1) o_2.2.1 o_2.2.2.1 v_length o_2.2.2.2.1 o_2.2.2.2.2.1 o_2.2.2.2.2.2.1 o_2.2.2.2.2.2.2 v_text (0 : Int32) (6 : Int32) o_3 ho_3) ⟨mC_X5_number, mN_X5, md_X5_number, ⟨rfl, rfl⟩, ⟨Nat.le_of_ble_eq_true rfl, Nat.le_of_ble_eq_true rfl⟩⟩ mM_X5_92 mI_X5_number mS_X5_number hK hN hP hD hS hA [0] [0, 2] [1, 3, 4, 5] [4, 0, 5, 1, 2, 3] rfl rfl rfl ⟨by decide, by decide, by decide, by decide⟩ rfl 0 5 rfl rfl rfl hl.1 (Nat.le_of_ble_eq_true rfl) ⟨Nat.zero_le _, Nat.zero_le _⟩ dX5_readWind_30 (fun H locs hP hD hS => ?_)
    refine lv_istore_n (lv' := [(2, .int o_3.1), (1, .int o_2.1), (0, .ref h0)]) hx hb dX5_readWind_33 rfl hl (by decide) rfl (fun ls hl => ?_)
    refine lv_aload_n hx hb dX5_readWind_34 rfl (lv_at hl 2 rfl) ?_
    refine lv_iconst (v := 0) hx hb dX5_readWind_35 (by decide) ?_
    refine lv_bipush (v := 6) hx hb dX5_readWind_36 (by decide) ?_
    obtain ⟨o_4, ho_4, hf⟩ := ob_some hf
    refine ca_V (As := [.int (0 : Int32), .int (6 : Int32)]) (rest := []) (wr := [(h1, .inr (7, [g_draft_xs, g_draft_heights, g_draft_froms, g_draft_tos, g_draft_smokeCounts, g_draft_smokes, g_draft_litIn, .ref h5, .ref h4, .ref h3, .int v_draft_chimneys, .int v_draft_windCount, .int v_draft_layer, .int v_draft_thick, .int v_draft_fine, .int v_draft_lines])), (h3, .inl (q1, 12, .inl v_draft_windHighs)), (h4, .inl (q2, 12, .inl v_draft_windLows)), (h5, .inl (q3, 12, .inl v_draft_windQuarters))]) (wn := [(h0, .inr (5, [.ref h1, .int o_4.2.1, .int o_4.2.2.1, .ref h2, .int v_length, .int o_4.2.2.2.1, .int o_4.2.2.2.2.1, .int o_4.2.2.2.2.2.1, .int o_4.2.2.2.2.2.2])), (h1, .inr (7, [g_draft_xs, g_draft_heights, g_draft_froms, g_draft_tos, g_draft_smokeCounts, g_draft_smokes, g_draft_litIn, .ref h5, .ref h4, .ref h3, .int v_draft_chimneys, .int v_draft_windCount, .int v_draft_layer, .int v_draft_thick, .int v_draft_fine, .int v_draft_lines])), (h2, .inl (q0, 900, .inl v_text)), (h3, .inl (q1, 12, .inl v_draft_windHighs)), (h4, .inl (q2, 12, .inl v_draft_windLows)), (h5, .inl (q3, 12, .inl v_draft_windQuarters))]) ⟨hx, hb, hml, hown, hts⟩ (ctX5_number l dC dI F H.size h0 h2 q0 (.ref h1) o_3.2.1 o_3.2.2.1 v_length o_3.2.2.2.1 o_3.2.2.2.2.1 o_3.2.2.2.2.2.1 o_3.2.2.2.2.2.2 v_text (0 : Int32) (6 : Int32) o_4 ho_4) ⟨mC_X5_number, mN_X5, md_X5_number, ⟨rfl, rfl⟩, ⟨Nat.le_of_ble_eq_true rfl, Nat.le_of_ble_eq_true rfl⟩⟩ mM_X5_92 mI_X5_number mS_X5_number hK hN hP hD hS hA [0] [0, 2] [1, 3, 4, 5] [4, 0, 5, 1, 2, 3] rfl rfl rfl ⟨by decide, by decide, by decide, by decide⟩ rfl 0 5 rfl rfl rfl hl.1 (Nat.le_of_ble_eq_true rfl) ⟨Nat.zero_le _, Nat.zero_le _⟩ dX5_readWind_38 (fun H locs hP hD hS => ?_)
    refine lv_istore_n (lv' := [(3, .int o_4.1), (2, .int o_3.1), (1, .int o_2.1), (0, .ref h0)]) hx hb dX5_readWind_41 rfl hl (by decide) rfl (fun ls hl => ?_)
    refine lv_aload_n hx hb dX5_readWind_42 rfl (lv_at hl 3 rfl) ?_
    refine va_get (D := (dC, dI)) (ci := 5) (v := .ref h1) (C := RX5) (T := TX5) (N := 9) hx hb htb inG5 hown hK hP 0 rfl rfl 0 (by decide) (htb _ mF_X5_12) (fun _ h9 => h9) rfl dX5_readWind_43 ?_
    refine lv_iload_n hx hb dX5_readWind_46 rfl (lv_at hl 2 rfl) ?_
    refine lv_iload_n hx hb dX5_readWind_47 rfl (lv_at hl 1 rfl) ?_
    refine lv_iload_n hx hb dX5_readWind_48 rfl (lv_at hl 0 rfl) ?_
    obtain ⟨o_5, ho_5, hf⟩ := ob_some hf
    refine ca_V (As := [.int o_2.1, .int o_3.1, .int o_4.1]) (rest := []) (wr := [(h0, .inr (5, [.ref h1, .int o_4.2.1, .int o_4.2.2.1, .ref h2, .int v_length, .int o_4.2.2.2.1, .int o_4.2.2.2.2.1, .int o_4.2.2.2.2.2.1, .int o_4.2.2.2.2.2.2])), (h2, .inl (q0, 900, .inl v_text))]) (wn := [(h0, .inr (5, [.ref h1, .int o_4.2.1, .int o_4.2.2.1, .ref h2, .int v_length, .int o_4.2.2.2.1, .int o_4.2.2.2.2.1, .int o_4.2.2.2.2.2.1, .int o_4.2.2.2.2.2.2])), (h1, .inr (7, [g_draft_xs, g_draft_heights, g_draft_froms, g_draft_tos, g_draft_smokeCounts, g_draft_smokes, g_draft_litIn, .ref h5, .ref h4, .ref h3, .int v_draft_chimneys, .int o_5.1, .int v_draft_layer, .int v_draft_thick, .int v_draft_fine, .int v_draft_lines])), (h2, .inl (q0, 900, .inl v_text)), (h3, .inl (q1, 12, .inl o_5.2.1)), (h4, .inl (q2, 12, .inl o_5.2.2.1)), (h5, .inl (q3, 12, .inl o_5.2.2.2))]) ⟨hx, hb, hml, hown, hts⟩ (ctX7_addWind l dC dI F H.size h1 h3 h4 h5 q1 q2 q3 (g_draft_xs) (g_draft_heights) (g_draft_froms) (g_draft_tos) (g_draft_smokeCounts) (g_draft_smokes) (g_draft_litIn) v_draft_chimneys v_draft_windCount v_draft_layer v_draft_thick v_draft_fine v_draft_lines v_draft_windHighs v_draft_windLows v_draft_windQuarters o_2.1 o_3.1 o_4.1 o_5 ho_5) ⟨mC_X7_addWind, mN_X7, md_X7_addWind, ⟨rfl, rfl⟩, ⟨Nat.le_of_ble_eq_true rfl, Nat.le_of_ble_eq_true rfl⟩⟩ mM_X5_118 mI_X7_addWind mS_X7_addWind hK hN hP hD hS hA [1, 2, 3] [1, 3, 4, 5] [0, 2] [0, 2, 1, 3, 4, 5] rfl rfl rfl ⟨by decide, by decide, by decide, by decide⟩ rfl 0 7 rfl rfl rfl hl.1 (Nat.le_of_ble_eq_true rfl) ⟨Nat.zero_le _, Nat.zero_le _⟩ dX5_readWind_49 (fun H locs hP hD hS => ?_)
    refine lv_aload_n hx hb dX5_readWind_52 rfl (lv_at hl 3 rfl) ?_
    obtain ⟨o_6, ho_6, hf⟩ := ob_some hf
    refine ca_V (As := []) (rest := []) (wr := [(h1, .inr (7, [g_draft_xs, g_draft_heights, g_draft_froms, g_draft_tos, g_draft_smokeCounts, g_draft_smokes, g_draft_litIn, .ref h5, .ref h4, .ref h3, .int v_draft_chimneys, .int o_5.1, .int v_draft_layer, .int v_draft_thick, .int v_draft_fine, .int v_draft_lines])), (h3, .inl (q1, 12, .inl o_5.2.1)), (h4, .inl (q2, 12, .inl o_5.2.2.1)), (h5, .inl (q3, 12, .inl o_5.2.2.2))]) (wn := [(h0, .inr (5, [.ref h1, .int o_4.2.1, .int o_4.2.2.1, .ref h2, .int v_length, .int o_6.1, .int o_6.2.1, .int o_6.2.2.1, .int o_6.2.2.2])), (h1, .inr (7, [g_draft_xs, g_draft_heights, g_draft_froms, g_draft_tos, g_draft_smokeCounts, g_draft_smokes, g_draft_litIn, .ref h5, .ref h4, .ref h3, .int v_draft_chimneys, .int o_5.1, .int v_draft_layer, .int v_draft_thick, .int v_draft_fine, .int v_draft_lines])), (h2, .inl (q0, 900, .inl v_text)), (h3, .inl (q1, 12, .inl o_5.2.1)), (h4, .inl (q2, 12, .inl o_5.2.2.1)), (h5, .inl (q3, 12, .inl o_5.2.2.2))]) ⟨hx, hb, hml, hown, hts⟩ (ctX5_takeToken l dC dI F H.size h0 h2 q0 (.ref h1) o_4.2.1 o_4.2.2.1 v_length o_4.2.2.2.1 o_4.2.2.2.2.1 o_4.2.2.2.2.2.1 o_4.2.2.2.2.2.2 v_text o_6 ho_6) ⟨mC_X5_takeToken, mN_X5, md_X5_takeToken, ⟨rfl, rfl⟩, ⟨Nat.le_of_ble_eq_true rfl, Nat.le_of_ble_eq_true rfl⟩⟩ mM_X5_44 mI_X5_takeToken mS_X5_takeToken hK hN hP hD hS hA [0] [0, 2] [1, 3, 4, 5] [4, 0, 5, 1, 2, 3] rfl rfl rfl ⟨by decide, by decide, by decide, by decide⟩ rfl 0 5 rfl rfl rfl hl.1 (Nat.le_of_ble_eq_true rfl) ⟨Nat.zero_le _, Nat.zero_le _⟩ dX5_readWind_53 (fun H locs hP hD hS => ?_)
    exact hRet (o_4.2.1, o_4.2.2.1, o_6.1, o_6.2.1, o_6.2.2.1, o_6.2.2.2, o_5.1, o_5.2.1, o_5.2.2.1, o_5.2.2.2) H locs ls 56 (Option.some.inj hf) hP hD hS dX5_readWind_56
  · have hf := oi_t hf c_1
    refine lv_aload_n hx hb dX5_readWind_12 rfl (lv_at hl 0 rfl) ?_
    refine lv_iconst (v := 4) hx hb dX5_readWind_13 (by decide) ?_
    obtain ⟨o_7, ho_7, hf⟩ := ob_some hf
    refine ca_V (As := [.int (4 : Int32)]) (rest := []) (wr := [(h1, .inr (7, [g_draft_xs, g_draft_heights, g_draft_froms, g_draft_tos, g_draft_smokeCounts, g_draft_smokes, g_draft_litIn, .ref h5, .ref h4, .ref h3, .int v_draft_chimneys, .int v_draft_windCount, .int v_draft_layer, .int v_draft_thick, .int v_draft_fine, .int v_draft_lines])), (h2, .inl (q0, 900, .inl v_text)), (h3, .inl (q1, 12, .inl v_draft_windHighs)), (h4, .inl (q2, 12, .inl v_draft_windLows)), (h5, .inl (q3, 12, .inl v_draft_windQuarters))]) (wn := [(h0, .inr (5, [.ref h1, .int o_7.1, .int o_7.2, .ref h2, .int v_length, .int v_next, .int v_start, .int v_sort, .int v_value])), (h1, .inr (7, [g_draft_xs, g_draft_heights, g_draft_froms, g_draft_tos, g_draft_smokeCounts, g_draft_smokes, g_draft_litIn, .ref h5, .ref h4, .ref h3, .int v_draft_chimneys, .int v_draft_windCount, .int v_draft_layer, .int v_draft_thick, .int v_draft_fine, .int v_draft_lines])), (h2, .inl (q0, 900, .inl v_text)), (h3, .inl (q1, 12, .inl v_draft_windHighs)), (h4, .inl (q2, 12, .inl v_draft_windLows)), (h5, .inl (q3, 12, .inl v_draft_windQuarters))]) ⟨hx, hb, hml, hown, hts⟩ (ctX5_blame l dC dI F H.size h0 (.ref h1) v_fault v_place (.ref h2) v_length v_next v_start v_sort v_value (4 : Int32) o_7 ho_7) ⟨mC_X5_blame, mN_X5, md_X5_blame, ⟨rfl, rfl⟩, ⟨Nat.le_of_ble_eq_true rfl, Nat.le_of_ble_eq_true rfl⟩⟩ mM_X5_82 mI_X5_blame mS_X5_blame hK hN hP hD hS hA [] [0] [1, 2, 3, 4, 5] [5, 0, 1, 2, 3, 4] rfl rfl rfl ⟨by decide, by decide, by decide, by decide⟩ rfl 0 5 rfl rfl rfl hl.1 (Nat.le_of_ble_eq_true rfl) ⟨Nat.zero_le _, Nat.zero_le _⟩ dX5_readWind_14 (fun H locs hP hD hS => ?_)
    exact hRet (o_7.1, o_7.2, v_next, v_start, v_sort, v_value, v_draft_windCount, v_draft_windHighs, v_draft_windLows, v_draft_windQuarters) H locs ls 17 (Option.some.inj hf) hP hD hS dX5_readWind_17
