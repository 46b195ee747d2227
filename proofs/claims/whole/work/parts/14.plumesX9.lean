def fX9_isX (F : Nat)  (a0 : Int32) : Option (Int32) := if a0 < 0 then (some (0 : Int32)) else (if (40 : Int32) ≤ a0 then (some (0 : Int32)) else (some (1 : Int32)))
set_option maxRecDepth 100000 in
set_option maxHeartbeats 4000000 in
theorem ctX9_isX (l : Launch) (dC : Nat → ClassId) (dI : Nat → Nat → Nat) (F sz : Nat)  (a0 : Int32) (out : Int32) (hf : fX9_isX F a0 = some out)  : cM l yX9_isX cX9_isX 1 (some .boolean) ({ frames := 0, cells := 0, slots := 0, locals := 0 } : Room) (dC, dI) [] [] [.int a0] sz (some (.int out)) [] := by
  refine cM_I RX9 ⟨by decide, rfl⟩ (Nat.le_of_ble_eq_true rfl) ?_
  intro p e s m below meth c A Q ls hx hb hml hown hts hK hN hA hP hD hS hl hRet
  have htb : ∀ w ∈ lw_g, w.before ([.int a0] : List Value).toArray s = true := fun w h => hts w (List.mem_cons_of_mem _ h)
  have hl : lv_has ls 1 [(0, .int a0)] := hl
  have hRet : ∀ (o : Int32) (H : Heap) (locs : List Loc) (ls : Array Slot) (pc : Nat), o = out → va_P (dC, dI) vwCl [] H → va_D A [] → va_S A s.heap H locs → narrow .boolean (.int o) = .int o → decode cX9_isX pc = .ok (.ireturn, 1) → W p l e ({ frames := 0, cells := 0, slots := 0, locals := 0 } : Room) s m ([.int a0] : List Value).toArray below meth c H locs 0 0 Q (F0 m pc ls [.int o]) := fun o H locs ls pc ho => by subst ho; exact hRet H locs ls pc
  suffices K0 : ∀ (H : Heap) (locs : List Loc), va_P (dC, dI) vwCl [] H → va_D A [] → va_S A s.heap H locs → W p l e ({ frames := 0, cells := 0, slots := 0, locals := 0 } : Room) s m ([.int a0] : List Value).toArray below meth c H locs 0 0 Q (F0 m 0 ls []) from K0 s.heap [] hP hD hS
  clear hP hD hS
  intro H locs hP hD hS
  unfold fX9_isX at hf
  refine lv_iload_n hx hb dX9_isX_0 rfl (lv_at hl 0 rfl) ?_
  refine lv_if_lt (tgt := 14) hx hb dX9_isX_1 (by decide) (fun c_1 => ?_) (fun c_1 => ?_)
  · have hf := oi_t hf c_1
    refine lv_iconst (v := 0) hx hb dX9_isX_14 (by decide) ?_
    exact hRet (0 : Int32) H locs ls 15 (Option.some.inj hf) hP hD hS nar0 dX9_isX_15
  · have hf := oi_f hf c_1
    refine lv_iload_n hx hb dX9_isX_4 rfl (lv_at hl 0 rfl) ?_
    refine lv_bipush (v := 40) hx hb dX9_isX_5 (by decide) ?_
    refine lv_icmp_ge (tgt := 14) hx hb dX9_isX_7 (by decide) (fun c_2 => ?_) (fun c_2 => ?_)
    · have hf := oi_t hf c_2
      refine lv_iconst (v := 0) hx hb dX9_isX_14 (by decide) ?_
      exact hRet (0 : Int32) H locs ls 15 (Option.some.inj hf) hP hD hS nar0 dX9_isX_15
    · have hf := oi_f hf c_2
      refine lv_iconst (v := 1) hx hb dX9_isX_10 (by decide) ?_
      refine lv_goto (tgt := 15) hx hb dX9_isX_11 (by decide) ?_
      exact hRet (1 : Int32) H locs ls 15 (Option.some.inj hf) hP hD hS nar1 dX9_isX_15
def fX9_isLightingQuarter (F : Nat)  (a0 : Int32) : Option (Int32) := if a0 < 0 then (some (0 : Int32)) else (if (24 : Int32) ≤ a0 then (some (0 : Int32)) else (some (1 : Int32)))
set_option maxRecDepth 100000 in
set_option maxHeartbeats 4000000 in
theorem ctX9_isLightingQuarter (l : Launch) (dC : Nat → ClassId) (dI : Nat → Nat → Nat) (F sz : Nat)  (a0 : Int32) (out : Int32) (hf : fX9_isLightingQuarter F a0 = some out)  : cM l yX9_isLightingQuarter cX9_isLightingQuarter 1 (some .boolean) ({ frames := 0, cells := 0, slots := 0, locals := 0 } : Room) (dC, dI) [] [] [.int a0] sz (some (.int out)) [] := by
  refine cM_I RX9 ⟨by decide, rfl⟩ (Nat.le_of_ble_eq_true rfl) ?_
  intro p e s m below meth c A Q ls hx hb hml hown hts hK hN hA hP hD hS hl hRet
  have htb : ∀ w ∈ lw_g, w.before ([.int a0] : List Value).toArray s = true := fun w h => hts w (List.mem_cons_of_mem _ h)
  have hl : lv_has ls 1 [(0, .int a0)] := hl
  have hRet : ∀ (o : Int32) (H : Heap) (locs : List Loc) (ls : Array Slot) (pc : Nat), o = out → va_P (dC, dI) vwCl [] H → va_D A [] → va_S A s.heap H locs → narrow .boolean (.int o) = .int o → decode cX9_isLightingQuarter pc = .ok (.ireturn, 1) → W p l e ({ frames := 0, cells := 0, slots := 0, locals := 0 } : Room) s m ([.int a0] : List Value).toArray below meth c H locs 0 0 Q (F0 m pc ls [.int o]) := fun o H locs ls pc ho => by subst ho; exact hRet H locs ls pc
  suffices K0 : ∀ (H : Heap) (locs : List Loc), va_P (dC, dI) vwCl [] H → va_D A [] → va_S A s.heap H locs → W p l e ({ frames := 0, cells := 0, slots := 0, locals := 0 } : Room) s m ([.int a0] : List Value).toArray below meth c H locs 0 0 Q (F0 m 0 ls []) from K0 s.heap [] hP hD hS
  clear hP hD hS
  intro H locs hP hD hS
  unfold fX9_isLightingQuarter at hf
  refine lv_iload_n hx hb dX9_isLightingQuarter_0 rfl (lv_at hl 0 rfl) ?_
  refine lv_if_lt (tgt := 14) hx hb dX9_isLightingQuarter_1 (by decide) (fun c_1 => ?_) (fun c_1 => ?_)
  · have hf := oi_t hf c_1
    refine lv_iconst (v := 0) hx hb dX9_isLightingQuarter_14 (by decide) ?_
    exact hRet (0 : Int32) H locs ls 15 (Option.some.inj hf) hP hD hS nar0 dX9_isLightingQuarter_15
  · have hf := oi_f hf c_1
    refine lv_iload_n hx hb dX9_isLightingQuarter_4 rfl (lv_at hl 0 rfl) ?_
    refine lv_bipush (v := 24) hx hb dX9_isLightingQuarter_5 (by decide) ?_
    refine lv_icmp_ge (tgt := 14) hx hb dX9_isLightingQuarter_7 (by decide) (fun c_2 => ?_) (fun c_2 => ?_)
    · have hf := oi_t hf c_2
      refine lv_iconst (v := 0) hx hb dX9_isLightingQuarter_14 (by decide) ?_
      exact hRet (0 : Int32) H locs ls 15 (Option.some.inj hf) hP hD hS nar0 dX9_isLightingQuarter_15
    · have hf := oi_f hf c_2
      refine lv_iconst (v := 1) hx hb dX9_isLightingQuarter_10 (by decide) ?_
      refine lv_goto (tgt := 15) hx hb dX9_isLightingQuarter_11 (by decide) ?_
      exact hRet (1 : Int32) H locs ls 15 (Option.some.inj hf) hP hD hS nar1 dX9_isLightingQuarter_15
