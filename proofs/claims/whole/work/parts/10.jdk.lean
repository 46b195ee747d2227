def fJ6_numberOfTrailingZeros_0f7a4_L74 (F : Nat) (x0 : Int32) (x1 : Int32) : Option (Int32) := some (x1 + (((x0).toUInt32 >>> (((1 : Int32) : Int32).toUInt32 &&& Int32.toUInt32 31)).toInt32))
def fJ6_numberOfTrailingZeros_0f7a4_L62 (F : Nat) (x0 : Int32) (x1 : Int32) : Option (Int32) := if x0 ≤ (4 : Int32) then (fJ6_numberOfTrailingZeros_0f7a4_L74 F x0 x1) else (ol (x1 + 2) (fun x1_2 => ol (((x0).toUInt32 >>> (((2 : Int32) : Int32).toUInt32 &&& Int32.toUInt32 31)).toInt32) (fun x_3 => fJ6_numberOfTrailingZeros_0f7a4_L74 F x_3 x1_2)))
def fJ6_numberOfTrailingZeros_0f7a4_L49 (F : Nat) (x0 : Int32) (x1 : Int32) : Option (Int32) := if x0 ≤ (16 : Int32) then (fJ6_numberOfTrailingZeros_0f7a4_L62 F x0 x1) else (ol (x1 + 4) (fun x1_5 => ol (((x0).toUInt32 >>> (((4 : Int32) : Int32).toUInt32 &&& Int32.toUInt32 31)).toInt32) (fun x_6 => fJ6_numberOfTrailingZeros_0f7a4_L62 F x_6 x1_5)))
def fJ6_numberOfTrailingZeros_0f7a4_L34 (F : Nat) (x0 : Int32) (x1 : Int32) : Option (Int32) := if x0 ≤ (256 : Int32) then (fJ6_numberOfTrailingZeros_0f7a4_L49 F x0 x1) else (ol (x1 + 8) (fun x1_8 => ol (((x0).toUInt32 >>> (((8 : Int32) : Int32).toUInt32 &&& Int32.toUInt32 31)).toInt32) (fun x_9 => fJ6_numberOfTrailingZeros_0f7a4_L49 F x_9 x1_8)))
def fJ6_numberOfTrailingZeros_0f7a4 (F : Nat)  (a0 : Int32) : Option (Int32) := ol ((a0 ^^^ (-1 : Int32)) &&& (a0 - (1 : Int32))) (fun x_10 => if 0 < x_10 then (if x_10 ≤ (65536 : Int32) then (fJ6_numberOfTrailingZeros_0f7a4_L34 F x_10 (1 : Int32)) else (ol ((1 : Int32) + 16) (fun x1_13 => ol (((x_10).toUInt32 >>> (((16 : Int32) : Int32).toUInt32 &&& Int32.toUInt32 31)).toInt32) (fun x_14 => fJ6_numberOfTrailingZeros_0f7a4_L34 F x_14 x1_13)))) else (some (x_10 &&& (32 : Int32))))
set_option maxRecDepth 100000 in
set_option maxHeartbeats 4000000 in
theorem ctJ6_numberOfTrailingZeros_0f7a4 (l : Launch) (dC : Nat → ClassId) (dI : Nat → Nat → Nat) (F sz : Nat)  (a0 : Int32) (out : Int32) (hf : fJ6_numberOfTrailingZeros_0f7a4 F a0 = some out)  : cM l yJ6_numberOfTrailingZeros_0f7a4 cJ6_numberOfTrailingZeros_0f7a4 2 (some .int) ({ frames := 0, cells := 0, slots := 0, locals := 0 } : Room) (dC, dI) [] [] [.int a0] sz (some (.int out)) [] := by
  refine cM_I RJ6 ⟨by decide, rfl⟩ (Nat.le_of_ble_eq_true rfl) ?_
  intro p e s m below meth c A Q ls hx hb hml hown hts hK hN hA hP hD hS hl hRet
  have htb : ∀ w ∈ lw_g, w.before ([.int a0] : List Value).toArray s = true := fun w h => hts w (List.mem_cons_of_mem _ h)
  have hl : lv_has ls 2 [(0, .int a0)] := hl
  have hRet : ∀ (o : Int32) (H : Heap) (locs : List Loc) (ls : Array Slot) (pc : Nat), o = out → va_P (dC, dI) vwCl [] H → va_D A [] → va_S A s.heap H locs → narrow .int (.int o) = .int o → decode cJ6_numberOfTrailingZeros_0f7a4 pc = .ok (.ireturn, 1) → W p l e ({ frames := 0, cells := 0, slots := 0, locals := 0 } : Room) s m ([.int a0] : List Value).toArray below meth c H locs 0 0 Q (F0 m pc ls [.int o]) := fun o H locs ls pc ho => by subst ho; exact hRet H locs ls pc
  have L74 : ∀ (H : Heap) (locs : List Loc) (ls : Array Slot) (x0 : Int32) (x1 : Int32), va_P (dC, dI) vwCl [] H → va_D A [] → va_S A s.heap H locs → lv_has ls 2 [(0, .int x0), (1, .int x1)] → fJ6_numberOfTrailingZeros_0f7a4_L74 F x0 x1 = some out → W p l e ({ frames := 0, cells := 0, slots := 0, locals := 0 } : Room) s m ([.int a0] : List Value).toArray below meth c H locs 0 0 Q (F0 m 74 ls []) := by
    intro H locs ls x0 x1 hP hD hS hl hf
    unfold fJ6_numberOfTrailingZeros_0f7a4_L74 at hf
    refine lv_iload_n hx hb dJ6_numberOfTrailingZeros_0f7a4_74 rfl (lv_at hl 1 rfl) ?_
    refine lv_iload_n hx hb dJ6_numberOfTrailingZeros_0f7a4_75 rfl (lv_at hl 0 rfl) ?_
    refine lv_iconst (v := 1) hx hb dJ6_numberOfTrailingZeros_0f7a4_76 (by decide) ?_
    refine lv_iushr hx hb dJ6_numberOfTrailingZeros_0f7a4_77 rfl ?_
    refine lv_iadd hx hb dJ6_numberOfTrailingZeros_0f7a4_78 ?_
    exact hRet (x1 + (((x0).toUInt32 >>> (((1 : Int32) : Int32).toUInt32 &&& Int32.toUInt32 31)).toInt32)) H locs ls 79 (Option.some.inj hf) hP hD hS rfl dJ6_numberOfTrailingZeros_0f7a4_79
  have L62 : ∀ (H : Heap) (locs : List Loc) (ls : Array Slot) (x0 : Int32) (x1 : Int32), va_P (dC, dI) vwCl [] H → va_D A [] → va_S A s.heap H locs → lv_has ls 2 [(0, .int x0), (1, .int x1)] → fJ6_numberOfTrailingZeros_0f7a4_L62 F x0 x1 = some out → W p l e ({ frames := 0, cells := 0, slots := 0, locals := 0 } : Room) s m ([.int a0] : List Value).toArray below meth c H locs 0 0 Q (F0 m 62 ls []) := by
    intro H locs ls x0 x1 hP hD hS hl hf
    unfold fJ6_numberOfTrailingZeros_0f7a4_L62 at hf
    refine lv_iload_n hx hb dJ6_numberOfTrailingZeros_0f7a4_62 rfl (lv_at hl 0 rfl) ?_
    refine lv_iconst (v := 4) hx hb dJ6_numberOfTrailingZeros_0f7a4_63 (by decide) ?_
    refine lv_icmp_le (tgt := 74) hx hb dJ6_numberOfTrailingZeros_0f7a4_64 (by decide) (fun c_1 => ?_) (fun c_1 => ?_)
    · have hf := oi_t hf c_1
      exact L74 H locs ls x0 x1 hP hD hS (lv_sub hl [0, 1] rfl) hf
    · have hf := oi_f hf c_1
      obtain ⟨x1_2, ex1_2⟩ : ∃ y : Int32, y = x1 + 2 := ⟨_, rfl⟩
      refine lv_iinc (v := x1_2) (lv' := [(1, .int x1_2), (0, .int x0)]) hx hb dJ6_numberOfTrailingZeros_0f7a4_67 hl (k := 1) rfl (by rw [ex1_2]; rfl) (by decide) rfl (fun ls hl => ?_)
      have hf := ol_some hf ex1_2
      refine lv_iload_n hx hb dJ6_numberOfTrailingZeros_0f7a4_70 rfl (lv_at hl 1 rfl) ?_
      refine lv_iconst (v := 2) hx hb dJ6_numberOfTrailingZeros_0f7a4_71 (by decide) ?_
      refine lv_iushr hx hb dJ6_numberOfTrailingZeros_0f7a4_72 rfl ?_
      refine lv_topi (fun x_3 ex_3 => ?_)
      have hf := ol_some hf ex_3
      refine lv_istore_n (lv' := [(0, .int x_3), (1, .int x1_2)]) hx hb dJ6_numberOfTrailingZeros_0f7a4_73 rfl hl (by decide) rfl (fun ls hl => ?_)
      exact L74 H locs ls x_3 x1_2 hP hD hS (lv_sub hl [0, 1] rfl) hf
  have L49 : ∀ (H : Heap) (locs : List Loc) (ls : Array Slot) (x0 : Int32) (x1 : Int32), va_P (dC, dI) vwCl [] H → va_D A [] → va_S A s.heap H locs → lv_has ls 2 [(0, .int x0), (1, .int x1)] → fJ6_numberOfTrailingZeros_0f7a4_L49 F x0 x1 = some out → W p l e ({ frames := 0, cells := 0, slots := 0, locals := 0 } : Room) s m ([.int a0] : List Value).toArray below meth c H locs 0 0 Q (F0 m 49 ls []) := by
    intro H locs ls x0 x1 hP hD hS hl hf
    unfold fJ6_numberOfTrailingZeros_0f7a4_L49 at hf
    refine lv_iload_n hx hb dJ6_numberOfTrailingZeros_0f7a4_49 rfl (lv_at hl 0 rfl) ?_
    refine lv_bipush (v := 16) hx hb dJ6_numberOfTrailingZeros_0f7a4_50 (by decide) ?_
    refine lv_icmp_le (tgt := 62) hx hb dJ6_numberOfTrailingZeros_0f7a4_52 (by decide) (fun c_4 => ?_) (fun c_4 => ?_)
    · have hf := oi_t hf c_4
      exact L62 H locs ls x0 x1 hP hD hS (lv_sub hl [0, 1] rfl) hf
    · have hf := oi_f hf c_4
      obtain ⟨x1_5, ex1_5⟩ : ∃ y : Int32, y = x1 + 4 := ⟨_, rfl⟩
      refine lv_iinc (v := x1_5) (lv' := [(1, .int x1_5), (0, .int x0)]) hx hb dJ6_numberOfTrailingZeros_0f7a4_55 hl (k := 1) rfl (by rw [ex1_5]; rfl) (by decide) rfl (fun ls hl => ?_)
      have hf := ol_some hf ex1_5
      refine lv_iload_n hx hb dJ6_numberOfTrailingZeros_0f7a4_58 rfl (lv_at hl 1 rfl) ?_
      refine lv_iconst (v := 4) hx hb dJ6_numberOfTrailingZeros_0f7a4_59 (by decide) ?_
      refine lv_iushr hx hb dJ6_numberOfTrailingZeros_0f7a4_60 rfl ?_
      refine lv_topi (fun x_6 ex_6 => ?_)
      have hf := ol_some hf ex_6
      refine lv_istore_n (lv' := [(0, .int x_6), (1, .int x1_5)]) hx hb dJ6_numberOfTrailingZeros_0f7a4_61 rfl hl (by decide) rfl (fun ls hl => ?_)
      exact L62 H locs ls x_6 x1_5 hP hD hS (lv_sub hl [0, 1] rfl) hf
  have L34 : ∀ (H : Heap) (locs : List Loc) (ls : Array Slot) (x0 : Int32) (x1 : Int32), va_P (dC, dI) vwCl [] H → va_D A [] → va_S A s.heap H locs → lv_has ls 2 [(0, .int x0), (1, .int x1)] → fJ6_numberOfTrailingZeros_0f7a4_L34 F x0 x1 = some out → W p l e ({ frames := 0, cells := 0, slots := 0, locals := 0 } : Room) s m ([.int a0] : List Value).toArray below meth c H locs 0 0 Q (F0 m 34 ls []) := by
    intro H locs ls x0 x1 hP hD hS hl hf
    unfold fJ6_numberOfTrailingZeros_0f7a4_L34 at hf
    refine lv_iload_n hx hb dJ6_numberOfTrailingZeros_0f7a4_34 rfl (lv_at hl 0 rfl) ?_
    refine lv_sipush (v := 256) hx hb dJ6_numberOfTrailingZeros_0f7a4_35 (by decide) ?_
    refine lv_icmp_le (tgt := 49) hx hb dJ6_numberOfTrailingZeros_0f7a4_38 (by decide) (fun c_7 => ?_) (fun c_7 => ?_)
    · have hf := oi_t hf c_7
      exact L49 H locs ls x0 x1 hP hD hS (lv_sub hl [0, 1] rfl) hf
    · have hf := oi_f hf c_7
      obtain ⟨x1_8, ex1_8⟩ : ∃ y : Int32, y = x1 + 8 := ⟨_, rfl⟩
      refine lv_iinc (v := x1_8) (lv' := [(1, .int x1_8), (0, .int x0)]) hx hb dJ6_numberOfTrailingZeros_0f7a4_41 hl (k := 1) rfl (by rw [ex1_8]; rfl) (by decide) rfl (fun ls hl => ?_)
      have hf := ol_some hf ex1_8
      refine lv_iload_n hx hb dJ6_numberOfTrailingZeros_0f7a4_44 rfl (lv_at hl 1 rfl) ?_
      refine lv_bipush (v := 8) hx hb dJ6_numberOfTrailingZeros_0f7a4_45 (by decide) ?_
      refine lv_iushr hx hb dJ6_numberOfTrailingZeros_0f7a4_47 rfl ?_
      refine lv_topi (fun x_9 ex_9 => ?_)
      have hf := ol_some hf ex_9
      refine lv_istore_n (lv' := [(0, .int x_9), (1, .int x1_8)]) hx hb dJ6_numberOfTrailingZeros_0f7a4_48 rfl hl (by decide) rfl (fun ls hl => ?_)
      exact L49 H locs ls x_9 x1_8 hP hD hS (lv_sub hl [0, 1] rfl) hf
  suffices K0 : ∀ (H : Heap) (locs : List Loc), va_P (dC, dI) vwCl [] H → va_D A [] → va_S A s.heap H locs → W p l e ({ frames := 0, cells := 0, slots := 0, locals := 0 } : Room) s m ([.int a0] : List Value).toArray below meth c H locs 0 0 Q (F0 m 0 ls []) from K0 s.heap [] hP hD hS
  clear hP hD hS
  intro H locs hP hD hS
  unfold fJ6_numberOfTrailingZeros_0f7a4 at hf
  refine lv_iload_n hx hb dJ6_numberOfTrailingZeros_0f7a4_0 rfl (lv_at hl 0 rfl) ?_
  refine lv_iconst (v := -1) hx hb dJ6_numberOfTrailingZeros_0f7a4_1 (by decide) ?_
  refine lv_ixor hx hb dJ6_numberOfTrailingZeros_0f7a4_2 ?_
  refine lv_iload_n hx hb dJ6_numberOfTrailingZeros_0f7a4_3 rfl (lv_at hl 0 rfl) ?_
  refine lv_iconst (v := 1) hx hb dJ6_numberOfTrailingZeros_0f7a4_4 (by decide) ?_
  refine lv_isub hx hb dJ6_numberOfTrailingZeros_0f7a4_5 ?_
  refine lv_iand hx hb dJ6_numberOfTrailingZeros_0f7a4_6 ?_
  refine lv_topi (fun x_10 ex_10 => ?_)
  have hf := ol_some hf ex_10
  refine lv_istore_n (lv' := [(0, .int x_10)]) hx hb dJ6_numberOfTrailingZeros_0f7a4_7 rfl hl (by decide) rfl (fun ls hl => ?_)
  refine lv_iload_n hx hb dJ6_numberOfTrailingZeros_0f7a4_8 rfl (lv_at hl 0 rfl) ?_
  refine lv_if_gt (tgt := 17) hx hb dJ6_numberOfTrailingZeros_0f7a4_9 (by decide) (fun c_11 => ?_) (fun c_11 => ?_)
  · have hf := oi_t hf c_11
    refine lv_iconst (v := 1) hx hb dJ6_numberOfTrailingZeros_0f7a4_17 (by decide) ?_
    refine lv_istore_n (lv' := [(1, .int (1 : Int32)), (0, .int x_10)]) hx hb dJ6_numberOfTrailingZeros_0f7a4_18 rfl hl (by decide) rfl (fun ls hl => ?_)
    refine lv_iload_n hx hb dJ6_numberOfTrailingZeros_0f7a4_19 rfl (lv_at hl 1 rfl) ?_
    refine lv_ldcw (v := 65536) hx hb hown (htb _ mK_J6_264) dJ6_numberOfTrailingZeros_0f7a4_20 ?_
    refine lv_icmp_le (tgt := 34) hx hb dJ6_numberOfTrailingZeros_0f7a4_23 (by decide) (fun c_12 => ?_) (fun c_12 => ?_)
    · have hf := oi_t hf c_12
      exact L34 H locs ls x_10 (1 : Int32) hP hD hS (lv_sub hl [1, 0] rfl) hf
    · have hf := oi_f hf c_12
      obtain ⟨x1_13, ex1_13⟩ : ∃ y : Int32, y = (1 : Int32) + 16 := ⟨_, rfl⟩
      refine lv_iinc (v := x1_13) (lv' := [(1, .int x1_13), (0, .int x_10)]) hx hb dJ6_numberOfTrailingZeros_0f7a4_26 hl (k := 0) rfl (by rw [ex1_13]; rfl) (by decide) rfl (fun ls hl => ?_)
      have hf := ol_some hf ex1_13
      refine lv_iload_n hx hb dJ6_numberOfTrailingZeros_0f7a4_29 rfl (lv_at hl 1 rfl) ?_
      refine lv_bipush (v := 16) hx hb dJ6_numberOfTrailingZeros_0f7a4_30 (by decide) ?_
      refine lv_iushr hx hb dJ6_numberOfTrailingZeros_0f7a4_32 rfl ?_
      refine lv_topi (fun x_14 ex_14 => ?_)
      have hf := ol_some hf ex_14
      refine lv_istore_n (lv' := [(0, .int x_14), (1, .int x1_13)]) hx hb dJ6_numberOfTrailingZeros_0f7a4_33 rfl hl (by decide) rfl (fun ls hl => ?_)
      exact L34 H locs ls x_14 x1_13 hP hD hS (lv_sub hl [0, 1] rfl) hf
  · have hf := oi_f hf c_11
    refine lv_iload_n hx hb dJ6_numberOfTrailingZeros_0f7a4_12 rfl (lv_at hl 0 rfl) ?_
    refine lv_bipush (v := 32) hx hb dJ6_numberOfTrailingZeros_0f7a4_13 (by decide) ?_
    refine lv_iand hx hb dJ6_numberOfTrailingZeros_0f7a4_15 ?_
    exact hRet (x_10 &&& (32 : Int32)) H locs ls 16 (Option.some.inj hf) hP hD hS rfl dJ6_numberOfTrailingZeros_0f7a4_16
def fJ6_bitCount_0f7a4 (F : Nat)  (a0 : Int32) : Option (Int32) := ol (a0 - ((((a0).toUInt32 >>> (((1 : Int32) : Int32).toUInt32 &&& Int32.toUInt32 31)).toInt32) &&& (1431655765 : Int32))) (fun x_1 => ol ((x_1 &&& (858993459 : Int32)) + ((((x_1).toUInt32 >>> (((2 : Int32) : Int32).toUInt32 &&& Int32.toUInt32 31)).toInt32) &&& (858993459 : Int32))) (fun x_2 => ol ((x_2 + (((x_2).toUInt32 >>> (((4 : Int32) : Int32).toUInt32 &&& Int32.toUInt32 31)).toInt32)) &&& (252645135 : Int32)) (fun x_3 => ol (x_3 + (((x_3).toUInt32 >>> (((8 : Int32) : Int32).toUInt32 &&& Int32.toUInt32 31)).toInt32)) (fun x_4 => ol (x_4 + (((x_4).toUInt32 >>> (((16 : Int32) : Int32).toUInt32 &&& Int32.toUInt32 31)).toInt32)) (fun x_5 => some (x_5 &&& (63 : Int32)))))))
set_option maxRecDepth 100000 in
set_option maxHeartbeats 4000000 in
theorem ctJ6_bitCount_0f7a4 (l : Launch) (dC : Nat → ClassId) (dI : Nat → Nat → Nat) (F sz : Nat)  (a0 : Int32) (out : Int32) (hf : fJ6_bitCount_0f7a4 F a0 = some out)  : cM l yJ6_bitCount_0f7a4 cJ6_bitCount_0f7a4 1 (some .int) ({ frames := 0, cells := 0, slots := 0, locals := 0 } : Room) (dC, dI) [] [] [.int a0] sz (some (.int out)) [] := by
  refine cM_I RJ6 ⟨by decide, rfl⟩ (Nat.le_of_ble_eq_true rfl) ?_
  intro p e s m below meth c A Q ls hx hb hml hown hts hK hN hA hP hD hS hl hRet
  have htb : ∀ w ∈ lw_g, w.before ([.int a0] : List Value).toArray s = true := fun w h => hts w (List.mem_cons_of_mem _ h)
  have hl : lv_has ls 1 [(0, .int a0)] := hl
  have hRet : ∀ (o : Int32) (H : Heap) (locs : List Loc) (ls : Array Slot) (pc : Nat), o = out → va_P (dC, dI) vwCl [] H → va_D A [] → va_S A s.heap H locs → narrow .int (.int o) = .int o → decode cJ6_bitCount_0f7a4 pc = .ok (.ireturn, 1) → W p l e ({ frames := 0, cells := 0, slots := 0, locals := 0 } : Room) s m ([.int a0] : List Value).toArray below meth c H locs 0 0 Q (F0 m pc ls [.int o]) := fun o H locs ls pc ho => by subst ho; exact hRet H locs ls pc
  suffices K0 : ∀ (H : Heap) (locs : List Loc), va_P (dC, dI) vwCl [] H → va_D A [] → va_S A s.heap H locs → W p l e ({ frames := 0, cells := 0, slots := 0, locals := 0 } : Room) s m ([.int a0] : List Value).toArray below meth c H locs 0 0 Q (F0 m 0 ls []) from K0 s.heap [] hP hD hS
  clear hP hD hS
  intro H locs hP hD hS
  unfold fJ6_bitCount_0f7a4 at hf
  refine lv_iload_n hx hb dJ6_bitCount_0f7a4_0 rfl (lv_at hl 0 rfl) ?_
  refine lv_iload_n hx hb dJ6_bitCount_0f7a4_1 rfl (lv_at hl 0 rfl) ?_
  refine lv_iconst (v := 1) hx hb dJ6_bitCount_0f7a4_2 (by decide) ?_
  refine lv_iushr hx hb dJ6_bitCount_0f7a4_3 rfl ?_
  refine lv_ldcw (v := 1431655765) hx hb hown (htb _ mK_J6_265) dJ6_bitCount_0f7a4_4 ?_
  refine lv_iand hx hb dJ6_bitCount_0f7a4_7 ?_
  refine lv_isub hx hb dJ6_bitCount_0f7a4_8 ?_
  refine lv_topi (fun x_1 ex_1 => ?_)
  have hf := ol_some hf ex_1
  refine lv_istore_n (lv' := [(0, .int x_1)]) hx hb dJ6_bitCount_0f7a4_9 rfl hl (by decide) rfl (fun ls hl => ?_)
  refine lv_iload_n hx hb dJ6_bitCount_0f7a4_10 rfl (lv_at hl 0 rfl) ?_
  refine lv_ldcw (v := 858993459) hx hb hown (htb _ mK_J6_266) dJ6_bitCount_0f7a4_11 ?_
  refine lv_iand hx hb dJ6_bitCount_0f7a4_14 ?_
  refine lv_iload_n hx hb dJ6_bitCount_0f7a4_15 rfl (lv_at hl 0 rfl) ?_
  refine lv_iconst (v := 2) hx hb dJ6_bitCount_0f7a4_16 (by decide) ?_
  refine lv_iushr hx hb dJ6_bitCount_0f7a4_17 rfl ?_
  refine lv_ldcw (v := 858993459) hx hb hown (htb _ mK_J6_266) dJ6_bitCount_0f7a4_18 ?_
  refine lv_iand hx hb dJ6_bitCount_0f7a4_21 ?_
  refine lv_iadd hx hb dJ6_bitCount_0f7a4_22 ?_
  refine lv_topi (fun x_2 ex_2 => ?_)
  have hf := ol_some hf ex_2
  refine lv_istore_n (lv' := [(0, .int x_2)]) hx hb dJ6_bitCount_0f7a4_23 rfl hl (by decide) rfl (fun ls hl => ?_)
  refine lv_iload_n hx hb dJ6_bitCount_0f7a4_24 rfl (lv_at hl 0 rfl) ?_
  refine lv_iload_n hx hb dJ6_bitCount_0f7a4_25 rfl (lv_at hl 0 rfl) ?_
  refine lv_iconst (v := 4) hx hb dJ6_bitCount_0f7a4_26 (by decide) ?_
  refine lv_iushr hx hb dJ6_bitCount_0f7a4_27 rfl ?_
  refine lv_iadd hx hb dJ6_bitCount_0f7a4_28 ?_
  refine lv_ldcw (v := 252645135) hx hb hown (htb _ mK_J6_267) dJ6_bitCount_0f7a4_29 ?_
  refine lv_iand hx hb dJ6_bitCount_0f7a4_32 ?_
  refine lv_topi (fun x_3 ex_3 => ?_)
  have hf := ol_some hf ex_3
  refine lv_istore_n (lv' := [(0, .int x_3)]) hx hb dJ6_bitCount_0f7a4_33 rfl hl (by decide) rfl (fun ls hl => ?_)
  refine lv_iload_n hx hb dJ6_bitCount_0f7a4_34 rfl (lv_at hl 0 rfl) ?_
  refine lv_iload_n hx hb dJ6_bitCount_0f7a4_35 rfl (lv_at hl 0 rfl) ?_
  refine lv_bipush (v := 8) hx hb dJ6_bitCount_0f7a4_36 (by decide) ?_
  refine lv_iushr hx hb dJ6_bitCount_0f7a4_38 rfl ?_
  refine lv_iadd hx hb dJ6_bitCount_0f7a4_39 ?_
  refine lv_topi (fun x_4 ex_4 => ?_)
  have hf := ol_some hf ex_4
  refine lv_istore_n (lv' := [(0, .int x_4)]) hx hb dJ6_bitCount_0f7a4_40 rfl hl (by decide) rfl (fun ls hl => ?_)
  refine lv_iload_n hx hb dJ6_bitCount_0f7a4_41 rfl (lv_at hl 0 rfl) ?_
  refine lv_iload_n hx hb dJ6_bitCount_0f7a4_42 rfl (lv_at hl 0 rfl) ?_
  refine lv_bipush (v := 16) hx hb dJ6_bitCount_0f7a4_43 (by decide) ?_
  refine lv_iushr hx hb dJ6_bitCount_0f7a4_45 rfl ?_
  refine lv_iadd hx hb dJ6_bitCount_0f7a4_46 ?_
  refine lv_topi (fun x_5 ex_5 => ?_)
  have hf := ol_some hf ex_5
  refine lv_istore_n (lv' := [(0, .int x_5)]) hx hb dJ6_bitCount_0f7a4_47 rfl hl (by decide) rfl (fun ls hl => ?_)
  refine lv_iload_n hx hb dJ6_bitCount_0f7a4_48 rfl (lv_at hl 0 rfl) ?_
  refine lv_bipush (v := 63) hx hb dJ6_bitCount_0f7a4_49 (by decide) ?_
  refine lv_iand hx hb dJ6_bitCount_0f7a4_51 ?_
  exact hRet (x_5 &&& (63 : Int32)) H locs ls 52 (Option.some.inj hf) hP hD hS rfl dJ6_bitCount_0f7a4_52
def fJ13_numberOfTrailingZeros_95d88 (F : Nat)  (a0 : Int64) : Option (Int32) := ol ((a0 : Int64).toInt32) (fun x_1 => if x_1 = 0 then (ob (fJ6_numberOfTrailingZeros_0f7a4 F (((((a0).toUInt64 >>> ((((32 : Int32)) : Int32).toInt64.toUInt64 &&& Int64.toUInt64 63)).toInt64) : Int64).toInt32)) (fun o_4 => some ((32 : Int32) + o_4))) else (ob (fJ6_numberOfTrailingZeros_0f7a4 F x_1) (fun o_3 => some o_3)))
set_option maxRecDepth 100000 in
set_option maxHeartbeats 4000000 in
theorem ctJ13_numberOfTrailingZeros_95d88 (l : Launch) (dC : Nat → ClassId) (dI : Nat → Nat → Nat) (F sz : Nat)  (a0 : Int64) (out : Int32) (hf : fJ13_numberOfTrailingZeros_95d88 F a0 = some out)  : cM l yJ13_numberOfTrailingZeros_95d88 cJ13_numberOfTrailingZeros_95d88 3 (some .int) ({ frames := 1, cells := 0, slots := 0, locals := 21 } : Room) (dC, dI) [] [] [.long a0] sz (some (.int out)) [] := by
  refine cM_I RJ13 ⟨by decide, rfl⟩ (Nat.le_of_ble_eq_true rfl) ?_
  intro p e s m below meth c A Q ls hx hb hml hown hts hK hN hA hP hD hS hl hRet
  have htb : ∀ w ∈ lw_g, w.before ([.long a0] : List Value).toArray s = true := fun w h => hts w (List.mem_cons_of_mem _ h)
  have hl : lv_has ls 3 [(0, .long a0)] := hl
  have hRet : ∀ (o : Int32) (H : Heap) (locs : List Loc) (ls : Array Slot) (pc : Nat), o = out → va_P (dC, dI) vwCl [] H → va_D A [] → va_S A s.heap H locs → narrow .int (.int o) = .int o → decode cJ13_numberOfTrailingZeros_95d88 pc = .ok (.ireturn, 1) → W p l e ({ frames := 1, cells := 0, slots := 0, locals := 21 } : Room) s m ([.long a0] : List Value).toArray below meth c H locs 0 0 Q (F0 m pc ls [.int o]) := fun o H locs ls pc ho => by subst ho; exact hRet H locs ls pc
  suffices K0 : ∀ (H : Heap) (locs : List Loc), va_P (dC, dI) vwCl [] H → va_D A [] → va_S A s.heap H locs → W p l e ({ frames := 1, cells := 0, slots := 0, locals := 21 } : Room) s m ([.long a0] : List Value).toArray below meth c H locs 0 0 Q (F0 m 0 ls []) from K0 s.heap [] hP hD hS
  clear hP hD hS
  intro H locs hP hD hS
  unfold fJ13_numberOfTrailingZeros_95d88 at hf
  refine lv_lload_n hx hb dJ13_numberOfTrailingZeros_95d88_0 rfl (lv_at hl 0 rfl) ?_
  refine lv_l2i hx hb dJ13_numberOfTrailingZeros_95d88_1 rfl ?_
  refine lv_topi (fun x_1 ex_1 => ?_)
  have hf := ol_some hf ex_1
  refine lv_istore_n (lv' := [(2, .int x_1), (0, .long a0)]) hx hb dJ13_numberOfTrailingZeros_95d88_2 rfl hl (by decide) rfl (fun ls hl => ?_)
  refine lv_iload_n hx hb dJ13_numberOfTrailingZeros_95d88_3 rfl (lv_at hl 0 rfl) ?_
  refine lv_if_ne (tgt := 21) hx hb dJ13_numberOfTrailingZeros_95d88_4 (by decide) (fun c_2 => ?_) (fun c_2 => ?_)
  · have hf := oi_f hf c_2
    refine lv_iload_n hx hb dJ13_numberOfTrailingZeros_95d88_21 rfl (lv_at hl 0 rfl) ?_
    obtain ⟨o_3, ho_3, hf⟩ := ob_some hf
    refine ca_S (As := [.int x_1]) (rest := []) (wr := []) (wn := []) ⟨hx, hb, hml, hown, hts⟩ (ctJ6_numberOfTrailingZeros_0f7a4 l dC dI F H.size x_1 o_3 ho_3) ⟨mC_J6_numberOfTrailingZeros_0f7a4, mN_J6, md_J6_numberOfTrailingZeros_0f7a4, ⟨rfl, rfl⟩, ⟨Nat.le_of_ble_eq_true rfl, Nat.le_of_ble_eq_true rfl⟩⟩ mM_J13_311 mT_J6_numberOfTrailingZeros_0f7a4 hK hN hP hD hS hA [] [] [] [] rfl rfl rfl ⟨by decide, by decide, by decide, by decide⟩ rfl rfl hl.1 (Nat.le_of_ble_eq_true rfl) ⟨Nat.zero_le _, Nat.zero_le _⟩ dJ13_numberOfTrailingZeros_95d88_22 (fun H locs hP hD hS => ?_)
    exact hRet o_3 H locs ls 25 (Option.some.inj hf) hP hD hS rfl dJ13_numberOfTrailingZeros_95d88_25
  · have hf := oi_t hf c_2
    refine lv_bipush (v := 32) hx hb dJ13_numberOfTrailingZeros_95d88_7 (by decide) ?_
    refine lv_lload_n hx hb dJ13_numberOfTrailingZeros_95d88_9 rfl (lv_at hl 1 rfl) ?_
    refine lv_bipush (v := 32) hx hb dJ13_numberOfTrailingZeros_95d88_10 (by decide) ?_
    refine lv_lushr hx hb dJ13_numberOfTrailingZeros_95d88_12 rfl ?_
    refine lv_l2i hx hb dJ13_numberOfTrailingZeros_95d88_13 rfl ?_
    obtain ⟨o_4, ho_4, hf⟩ := ob_some hf
    refine ca_S (As := [.int (((((a0).toUInt64 >>> ((((32 : Int32)) : Int32).toInt64.toUInt64 &&& Int64.toUInt64 63)).toInt64) : Int64).toInt32)]) (rest := [.int (32 : Int32)]) (wr := []) (wn := []) ⟨hx, hb, hml, hown, hts⟩ (ctJ6_numberOfTrailingZeros_0f7a4 l dC dI F H.size (((((a0).toUInt64 >>> ((((32 : Int32)) : Int32).toInt64.toUInt64 &&& Int64.toUInt64 63)).toInt64) : Int64).toInt32) o_4 ho_4) ⟨mC_J6_numberOfTrailingZeros_0f7a4, mN_J6, md_J6_numberOfTrailingZeros_0f7a4, ⟨rfl, rfl⟩, ⟨Nat.le_of_ble_eq_true rfl, Nat.le_of_ble_eq_true rfl⟩⟩ mM_J13_311 mT_J6_numberOfTrailingZeros_0f7a4 hK hN hP hD hS hA [] [] [] [] rfl rfl rfl ⟨by decide, by decide, by decide, by decide⟩ rfl rfl hl.1 (Nat.le_of_ble_eq_true rfl) ⟨Nat.zero_le _, Nat.zero_le _⟩ dJ13_numberOfTrailingZeros_95d88_14 (fun H locs hP hD hS => ?_)
    refine lv_iadd hx hb dJ13_numberOfTrailingZeros_95d88_17 ?_
    refine lv_goto (tgt := 25) hx hb dJ13_numberOfTrailingZeros_95d88_18 (by decide) ?_
    exact hRet ((32 : Int32) + o_4) H locs ls 25 (Option.some.inj hf) hP hD hS rfl dJ13_numberOfTrailingZeros_95d88_25
def fJ13_bitCount_95d88 (F : Nat)  (a0 : Int64) : Option (Int32) := ol (a0 - ((((a0).toUInt64 >>> ((((1 : Int32)) : Int32).toInt64.toUInt64 &&& Int64.toUInt64 63)).toInt64) &&& (6148914691236517205 : Int64))) (fun x_1 => ol ((x_1 &&& (3689348814741910323 : Int64)) + ((((x_1).toUInt64 >>> ((((2 : Int32)) : Int32).toInt64.toUInt64 &&& Int64.toUInt64 63)).toInt64) &&& (3689348814741910323 : Int64))) (fun x_2 => ol ((x_2 + (((x_2).toUInt64 >>> ((((4 : Int32)) : Int32).toInt64.toUInt64 &&& Int64.toUInt64 63)).toInt64)) &&& (1085102592571150095 : Int64)) (fun x_3 => ol (x_3 + (((x_3).toUInt64 >>> ((((8 : Int32)) : Int32).toInt64.toUInt64 &&& Int64.toUInt64 63)).toInt64)) (fun x_4 => ol (x_4 + (((x_4).toUInt64 >>> ((((16 : Int32)) : Int32).toInt64.toUInt64 &&& Int64.toUInt64 63)).toInt64)) (fun x_5 => ol (x_5 + (((x_5).toUInt64 >>> ((((32 : Int32)) : Int32).toInt64.toUInt64 &&& Int64.toUInt64 63)).toInt64)) (fun x_6 => some (((x_6 : Int64).toInt32) &&& (127 : Int32))))))))
set_option maxRecDepth 100000 in
set_option maxHeartbeats 4000000 in
theorem ctJ13_bitCount_95d88 (l : Launch) (dC : Nat → ClassId) (dI : Nat → Nat → Nat) (F sz : Nat)  (a0 : Int64) (out : Int32) (hf : fJ13_bitCount_95d88 F a0 = some out)  : cM l yJ13_bitCount_95d88 cJ13_bitCount_95d88 2 (some .int) ({ frames := 0, cells := 0, slots := 0, locals := 0 } : Room) (dC, dI) [] [] [.long a0] sz (some (.int out)) [] := by
  refine cM_I RJ13 ⟨by decide, rfl⟩ (Nat.le_of_ble_eq_true rfl) ?_
  intro p e s m below meth c A Q ls hx hb hml hown hts hK hN hA hP hD hS hl hRet
  have htb : ∀ w ∈ lw_g, w.before ([.long a0] : List Value).toArray s = true := fun w h => hts w (List.mem_cons_of_mem _ h)
  have hl : lv_has ls 2 [(0, .long a0)] := hl
  have hRet : ∀ (o : Int32) (H : Heap) (locs : List Loc) (ls : Array Slot) (pc : Nat), o = out → va_P (dC, dI) vwCl [] H → va_D A [] → va_S A s.heap H locs → narrow .int (.int o) = .int o → decode cJ13_bitCount_95d88 pc = .ok (.ireturn, 1) → W p l e ({ frames := 0, cells := 0, slots := 0, locals := 0 } : Room) s m ([.long a0] : List Value).toArray below meth c H locs 0 0 Q (F0 m pc ls [.int o]) := fun o H locs ls pc ho => by subst ho; exact hRet H locs ls pc
  suffices K0 : ∀ (H : Heap) (locs : List Loc), va_P (dC, dI) vwCl [] H → va_D A [] → va_S A s.heap H locs → W p l e ({ frames := 0, cells := 0, slots := 0, locals := 0 } : Room) s m ([.long a0] : List Value).toArray below meth c H locs 0 0 Q (F0 m 0 ls []) from K0 s.heap [] hP hD hS
  clear hP hD hS
  intro H locs hP hD hS
  unfold fJ13_bitCount_95d88 at hf
  refine lv_lload_n hx hb dJ13_bitCount_95d88_0 rfl (lv_at hl 0 rfl) ?_
  refine lv_lload_n hx hb dJ13_bitCount_95d88_1 rfl (lv_at hl 0 rfl) ?_
  refine lv_iconst (v := 1) hx hb dJ13_bitCount_95d88_2 (by decide) ?_
  refine lv_lushr hx hb dJ13_bitCount_95d88_3 rfl ?_
  refine lv_ldc2 (v := 6148914691236517205) hx hb hown (htb _ mK_J13_314) dJ13_bitCount_95d88_4 ?_
  refine lv_land hx hb dJ13_bitCount_95d88_7 ?_
  refine lv_lsub hx hb dJ13_bitCount_95d88_8 ?_
  refine lv_topl (fun x_1 ex_1 => ?_)
  have hf := ol_some hf ex_1
  refine lv_lstore_n (lv' := [(0, .long x_1)]) hx hb dJ13_bitCount_95d88_9 rfl hl (by decide) rfl (fun ls hl => ?_)
  refine lv_lload_n hx hb dJ13_bitCount_95d88_10 rfl (lv_at hl 0 rfl) ?_
  refine lv_ldc2 (v := 3689348814741910323) hx hb hown (htb _ mK_J13_316) dJ13_bitCount_95d88_11 ?_
  refine lv_land hx hb dJ13_bitCount_95d88_14 ?_
  refine lv_lload_n hx hb dJ13_bitCount_95d88_15 rfl (lv_at hl 0 rfl) ?_
  refine lv_iconst (v := 2) hx hb dJ13_bitCount_95d88_16 (by decide) ?_
  refine lv_lushr hx hb dJ13_bitCount_95d88_17 rfl ?_
  refine lv_ldc2 (v := 3689348814741910323) hx hb hown (htb _ mK_J13_316) dJ13_bitCount_95d88_18 ?_
  refine lv_land hx hb dJ13_bitCount_95d88_21 ?_
  refine lv_ladd hx hb dJ13_bitCount_95d88_22 ?_
  refine lv_topl (fun x_2 ex_2 => ?_)
  have hf := ol_some hf ex_2
  refine lv_lstore_n (lv' := [(0, .long x_2)]) hx hb dJ13_bitCount_95d88_23 rfl hl (by decide) rfl (fun ls hl => ?_)
  refine lv_lload_n hx hb dJ13_bitCount_95d88_24 rfl (lv_at hl 0 rfl) ?_
  refine lv_lload_n hx hb dJ13_bitCount_95d88_25 rfl (lv_at hl 0 rfl) ?_
  refine lv_iconst (v := 4) hx hb dJ13_bitCount_95d88_26 (by decide) ?_
  refine lv_lushr hx hb dJ13_bitCount_95d88_27 rfl ?_
  refine lv_ladd hx hb dJ13_bitCount_95d88_28 ?_
  refine lv_ldc2 (v := 1085102592571150095) hx hb hown (htb _ mK_J13_318) dJ13_bitCount_95d88_29 ?_
  refine lv_land hx hb dJ13_bitCount_95d88_32 ?_
  refine lv_topl (fun x_3 ex_3 => ?_)
  have hf := ol_some hf ex_3
  refine lv_lstore_n (lv' := [(0, .long x_3)]) hx hb dJ13_bitCount_95d88_33 rfl hl (by decide) rfl (fun ls hl => ?_)
  refine lv_lload_n hx hb dJ13_bitCount_95d88_34 rfl (lv_at hl 0 rfl) ?_
  refine lv_lload_n hx hb dJ13_bitCount_95d88_35 rfl (lv_at hl 0 rfl) ?_
  refine lv_bipush (v := 8) hx hb dJ13_bitCount_95d88_36 (by decide) ?_
  refine lv_lushr hx hb dJ13_bitCount_95d88_38 rfl ?_
  refine lv_ladd hx hb dJ13_bitCount_95d88_39 ?_
  refine lv_topl (fun x_4 ex_4 => ?_)
  have hf := ol_some hf ex_4
  refine lv_lstore_n (lv' := [(0, .long x_4)]) hx hb dJ13_bitCount_95d88_40 rfl hl (by decide) rfl (fun ls hl => ?_)
  refine lv_lload_n hx hb dJ13_bitCount_95d88_41 rfl (lv_at hl 0 rfl) ?_
  refine lv_lload_n hx hb dJ13_bitCount_95d88_42 rfl (lv_at hl 0 rfl) ?_
  refine lv_bipush (v := 16) hx hb dJ13_bitCount_95d88_43 (by decide) ?_
  refine lv_lushr hx hb dJ13_bitCount_95d88_45 rfl ?_
  refine lv_ladd hx hb dJ13_bitCount_95d88_46 ?_
  refine lv_topl (fun x_5 ex_5 => ?_)
  have hf := ol_some hf ex_5
  refine lv_lstore_n (lv' := [(0, .long x_5)]) hx hb dJ13_bitCount_95d88_47 rfl hl (by decide) rfl (fun ls hl => ?_)
  refine lv_lload_n hx hb dJ13_bitCount_95d88_48 rfl (lv_at hl 0 rfl) ?_
  refine lv_lload_n hx hb dJ13_bitCount_95d88_49 rfl (lv_at hl 0 rfl) ?_
  refine lv_bipush (v := 32) hx hb dJ13_bitCount_95d88_50 (by decide) ?_
  refine lv_lushr hx hb dJ13_bitCount_95d88_52 rfl ?_
  refine lv_ladd hx hb dJ13_bitCount_95d88_53 ?_
  refine lv_topl (fun x_6 ex_6 => ?_)
  have hf := ol_some hf ex_6
  refine lv_lstore_n (lv' := [(0, .long x_6)]) hx hb dJ13_bitCount_95d88_54 rfl hl (by decide) rfl (fun ls hl => ?_)
  refine lv_lload_n hx hb dJ13_bitCount_95d88_55 rfl (lv_at hl 0 rfl) ?_
  refine lv_l2i hx hb dJ13_bitCount_95d88_56 rfl ?_
  refine lv_bipush (v := 127) hx hb dJ13_bitCount_95d88_57 (by decide) ?_
  refine lv_iand hx hb dJ13_bitCount_95d88_59 ?_
  exact hRet (((x_6 : Int64).toInt32) &&& (127 : Int32)) H locs ls 60 (Option.some.inj hf) hP hD hS rfl dJ13_bitCount_95d88_60
def fJ7_fill_53178_L5 (F : Nat) (n_p0 : Nat) (a1 : Int32) : Nat → Int32 → Int32 → (Nat → Int32) → Option ((Nat → Int32))
  | 0, _, _, _ => none
  | n + 1, x2, x3, v_p0 => if x3 ≤ x2 then (some v_p0) else (og (vb x2 n_p0) (ol (upd v_p0 x2.toNatClampNeg a1) (fun v_p0_3 => ol (x2 + 1) (fun x2_4 => fJ7_fill_53178_L5 F n_p0 a1 n x2_4 x3 v_p0_3))))
def fJ7_fill_53178 (F : Nat) (n_p0 : Nat) (v_p0 : Nat → Int32) (a1 : Int32) : Option ((Nat → Int32)) := ol (Int32.ofNat n_p0) (fun x_5 => fJ7_fill_53178_L5 F n_p0 a1 F (0 : Int32) x_5 v_p0)
set_option maxRecDepth 100000 in
set_option maxHeartbeats 4000000 in
theorem ctJ7_fill_53178 (l : Launch) (dC : Nat → ClassId) (dI : Nat → Nat → Nat) (F sz : Nat) (h0 : Nat) (q0 : ClassId) (n_p0 : Nat) (v_p0 : Nat → Int32) (a1 : Int32) (out : (Nat → Int32)) (hf : fJ7_fill_53178 F n_p0 v_p0 a1 = some out)  : cM l yJ7_fill_53178 cJ7_fill_53178 4 none ({ frames := 0, cells := 0, slots := 0, locals := 0 } : Room) (dC, dI) [(q0, .int)] [(h0, .inl (q0, n_p0, .inl v_p0))] [.ref h0, .int a1] sz none [(h0, .inl (q0, n_p0, .inl out))] := by
  refine cM_V RJ7 ⟨by decide, rfl⟩ (Nat.le_of_ble_eq_true rfl) ?_
  intro p e s m below meth c A Q ls hx hb hml hown hts hK hN hA hP hD hS hl hRet
  have htb : ∀ w ∈ lw_g, w.before ([.ref h0, .int a1] : List Value).toArray s = true := fun w h => hts w (List.mem_cons_of_mem _ h)
  have hl : lv_has ls 4 [(0, .ref h0), (1, .int a1)] := hl
  have hRet : ∀ (o : (Nat → Int32)) (H : Heap) (locs : List Loc) (ls : Array Slot) (pc : Nat), o = out → va_P (dC, dI) vwCl [(h0, .inl (q0, n_p0, .inl o))] H → va_D A [(h0, .inl (q0, n_p0, .inl o))] → va_S A s.heap H locs → decode cJ7_fill_53178 pc = .ok (.return_, 1) → W p l e ({ frames := 0, cells := 0, slots := 0, locals := 0 } : Room) s m ([.ref h0, .int a1] : List Value).toArray below meth c H locs 0 0 Q (F0 m pc ls []) := fun o H locs ls pc ho => by subst ho; exact hRet H locs ls pc
  have L5 : ∀ (n : Nat), ∀ (H : Heap) (locs : List Loc) (ls : Array Slot) (x2 : Int32) (x3 : Int32) (v_p0 : Nat → Int32), va_P (dC, dI) vwCl [(h0, .inl (q0, n_p0, .inl v_p0))] H → va_D A [(h0, .inl (q0, n_p0, .inl v_p0))] → va_S A s.heap H locs → lv_has ls 4 [(0, .ref h0), (1, .int a1), (2, .int x2), (3, .int x3)] → fJ7_fill_53178_L5 F n_p0 a1 n x2 x3 v_p0 = some out → W p l e ({ frames := 0, cells := 0, slots := 0, locals := 0 } : Room) s m ([.ref h0, .int a1] : List Value).toArray below meth c H locs 0 0 Q (F0 m 5 ls []) := by
    intro n
    induction n with
    | zero =>
      intro H locs ls x2 x3 v_p0 hP hD hS hl hf
      cases hf
    | succ n ih =>
      intro H locs ls x2 x3 v_p0 hP hD hS hl hf
      rw [fJ7_fill_53178_L5] at hf
      refine lv_iload_n hx hb dJ7_fill_53178_5 rfl (lv_at hl 2 rfl) ?_
      refine lv_iload_n hx hb dJ7_fill_53178_6 rfl (lv_at hl 3 rfl) ?_
      refine lv_icmp_ge (tgt := 20) hx hb dJ7_fill_53178_7 (by decide) (fun c_1 => ?_) (fun c_1 => ?_)
      · have hf := oi_t hf c_1
        exact hRet v_p0 H locs ls 20 (Option.some.inj hf) hP hD hS dJ7_fill_53178_20
      · have hf := oi_f hf c_1
        refine lv_aload_n hx hb dJ7_fill_53178_10 rfl (lv_at hl 0 rfl) ?_
        refine lv_iload_n hx hb dJ7_fill_53178_11 rfl (lv_at hl 2 rfl) ?_
        refine lv_iload_n hx hb dJ7_fill_53178_12 rfl (lv_at hl 1 rfl) ?_
        obtain ⟨b_2, hf⟩ := og_some hf
        refine va_iast hx hb hK hP hD hS 0 0 rfl rfl (vb_ok b_2) dJ7_fill_53178_13 (fun H locs hP hD hS => ?_)
        generalize ev_p0_3 : upd v_p0 x2.toNatClampNeg a1 = v_p0_3 at hP hD
        have hf := ol_some hf ev_p0_3.symm
        have hP : va_P (dC, dI) vwCl [(h0, .inl (q0, n_p0, .inl v_p0_3))] H := hP
        have hD : va_D A [(h0, .inl (q0, n_p0, .inl v_p0_3))] := hD
        obtain ⟨x2_4, ex2_4⟩ : ∃ y : Int32, y = x2 + 1 := ⟨_, rfl⟩
        refine lv_iinc (v := x2_4) (lv' := [(2, .int x2_4), (0, .ref h0), (1, .int a1), (3, .int x3)]) hx hb dJ7_fill_53178_14 hl (k := 2) rfl (by rw [ex2_4]; rfl) (by decide) rfl (fun ls hl => ?_)
        have hf := ol_some hf ex2_4
        refine lv_goto (tgt := 5) hx hb dJ7_fill_53178_17 (by decide) ?_
        exact ih H locs ls x2_4 x3 v_p0_3 hP hD hS (lv_sub hl [1, 2, 0, 3] rfl) hf
  suffices K0 : ∀ (H : Heap) (locs : List Loc), va_P (dC, dI) vwCl [(h0, .inl (q0, n_p0, .inl v_p0))] H → va_D A [(h0, .inl (q0, n_p0, .inl v_p0))] → va_S A s.heap H locs → W p l e ({ frames := 0, cells := 0, slots := 0, locals := 0 } : Room) s m ([.ref h0, .int a1] : List Value).toArray below meth c H locs 0 0 Q (F0 m 0 ls []) from K0 s.heap [] hP hD hS
  clear hP hD hS
  intro H locs hP hD hS
  unfold fJ7_fill_53178 at hf
  refine lv_iconst (v := 0) hx hb dJ7_fill_53178_0 (by decide) ?_
  refine lv_istore_n (lv' := [(2, .int (0 : Int32)), (0, .ref h0), (1, .int a1)]) hx hb dJ7_fill_53178_1 rfl hl (by decide) rfl (fun ls hl => ?_)
  refine lv_aload_n hx hb dJ7_fill_53178_2 rfl (lv_at hl 1 rfl) ?_
  refine va_alen hx hb hK hP 0 0 rfl rfl (v := Int32.ofNat n_p0) rfl dJ7_fill_53178_3 ?_
  refine lv_topi (fun x_5 ex_5 => ?_)
  have hf := ol_some hf ex_5
  refine lv_istore_n (lv' := [(3, .int x_5), (2, .int (0 : Int32)), (0, .ref h0), (1, .int a1)]) hx hb dJ7_fill_53178_4 rfl hl (by decide) rfl (fun ls hl => ?_)
  exact L5 F H locs ls (0 : Int32) x_5 v_p0 hP hD hS (lv_sub hl [2, 3, 1, 0] rfl) hf
def fJ7_fill_d0a16_L6 (F : Nat) (n_p0 : Nat) (a1 : Int64) : Nat → Int32 → Int32 → (Nat → Int64) → Option ((Nat → Int64))
  | 0, _, _, _ => none
  | n + 1, x3, x4, v_p0 => if x4 ≤ x3 then (some v_p0) else (og (vb x3 n_p0) (ol (vp_updL v_p0 x3.toNatClampNeg a1) (fun v_p0_3 => ol (x3 + 1) (fun x3_4 => fJ7_fill_d0a16_L6 F n_p0 a1 n x3_4 x4 v_p0_3))))
def fJ7_fill_d0a16 (F : Nat) (n_p0 : Nat) (v_p0 : Nat → Int64) (a1 : Int64) : Option ((Nat → Int64)) := ol (Int32.ofNat n_p0) (fun x_5 => fJ7_fill_d0a16_L6 F n_p0 a1 F (0 : Int32) x_5 v_p0)
set_option maxRecDepth 100000 in
set_option maxHeartbeats 4000000 in
theorem ctJ7_fill_d0a16 (l : Launch) (dC : Nat → ClassId) (dI : Nat → Nat → Nat) (F sz : Nat) (h0 : Nat) (q0 : ClassId) (n_p0 : Nat) (v_p0 : Nat → Int64) (a1 : Int64) (out : (Nat → Int64)) (hf : fJ7_fill_d0a16 F n_p0 v_p0 a1 = some out)  : cM l yJ7_fill_d0a16 cJ7_fill_d0a16 5 none ({ frames := 0, cells := 0, slots := 0, locals := 0 } : Room) (dC, dI) [(q0, .long)] [(h0, .inl (q0, n_p0, .inr (.inl v_p0)))] [.ref h0, .long a1] sz none [(h0, .inl (q0, n_p0, .inr (.inl out)))] := by
  refine cM_V RJ7 ⟨by decide, rfl⟩ (Nat.le_of_ble_eq_true rfl) ?_
  intro p e s m below meth c A Q ls hx hb hml hown hts hK hN hA hP hD hS hl hRet
  have htb : ∀ w ∈ lw_g, w.before ([.ref h0, .long a1] : List Value).toArray s = true := fun w h => hts w (List.mem_cons_of_mem _ h)
  have hl : lv_has ls 5 [(0, .ref h0), (1, .long a1)] := hl
  have hRet : ∀ (o : (Nat → Int64)) (H : Heap) (locs : List Loc) (ls : Array Slot) (pc : Nat), o = out → va_P (dC, dI) vwCl [(h0, .inl (q0, n_p0, .inr (.inl o)))] H → va_D A [(h0, .inl (q0, n_p0, .inr (.inl o)))] → va_S A s.heap H locs → decode cJ7_fill_d0a16 pc = .ok (.return_, 1) → W p l e ({ frames := 0, cells := 0, slots := 0, locals := 0 } : Room) s m ([.ref h0, .long a1] : List Value).toArray below meth c H locs 0 0 Q (F0 m pc ls []) := fun o H locs ls pc ho => by subst ho; exact hRet H locs ls pc
  have L6 : ∀ (n : Nat), ∀ (H : Heap) (locs : List Loc) (ls : Array Slot) (x3 : Int32) (x4 : Int32) (v_p0 : Nat → Int64), va_P (dC, dI) vwCl [(h0, .inl (q0, n_p0, .inr (.inl v_p0)))] H → va_D A [(h0, .inl (q0, n_p0, .inr (.inl v_p0)))] → va_S A s.heap H locs → lv_has ls 5 [(0, .ref h0), (1, .long a1), (3, .int x3), (4, .int x4)] → fJ7_fill_d0a16_L6 F n_p0 a1 n x3 x4 v_p0 = some out → W p l e ({ frames := 0, cells := 0, slots := 0, locals := 0 } : Room) s m ([.ref h0, .long a1] : List Value).toArray below meth c H locs 0 0 Q (F0 m 6 ls []) := by
    intro n
    induction n with
    | zero =>
      intro H locs ls x3 x4 v_p0 hP hD hS hl hf
      cases hf
    | succ n ih =>
      intro H locs ls x3 x4 v_p0 hP hD hS hl hf
      rw [fJ7_fill_d0a16_L6] at hf
      refine lv_iload_n hx hb dJ7_fill_d0a16_6 rfl (lv_at hl 2 rfl) ?_
      refine lv_iload hx hb dJ7_fill_d0a16_7 (lv_at hl 3 rfl) ?_
      refine lv_icmp_ge (tgt := 22) hx hb dJ7_fill_d0a16_9 (by decide) (fun c_1 => ?_) (fun c_1 => ?_)
      · have hf := oi_t hf c_1
        exact hRet v_p0 H locs ls 22 (Option.some.inj hf) hP hD hS dJ7_fill_d0a16_22
      · have hf := oi_f hf c_1
        refine lv_aload_n hx hb dJ7_fill_d0a16_12 rfl (lv_at hl 0 rfl) ?_
        refine lv_iload_n hx hb dJ7_fill_d0a16_13 rfl (lv_at hl 2 rfl) ?_
        refine lv_lload_n hx hb dJ7_fill_d0a16_14 rfl (lv_at hl 1 rfl) ?_
        obtain ⟨b_2, hf⟩ := og_some hf
        refine va_last hx hb hK hP hD hS 0 0 rfl rfl (vb_ok b_2) dJ7_fill_d0a16_15 (fun H locs hP hD hS => ?_)
        generalize ev_p0_3 : vp_updL v_p0 x3.toNatClampNeg a1 = v_p0_3 at hP hD
        have hf := ol_some hf ev_p0_3.symm
        have hP : va_P (dC, dI) vwCl [(h0, .inl (q0, n_p0, .inr (.inl v_p0_3)))] H := hP
        have hD : va_D A [(h0, .inl (q0, n_p0, .inr (.inl v_p0_3)))] := hD
        obtain ⟨x3_4, ex3_4⟩ : ∃ y : Int32, y = x3 + 1 := ⟨_, rfl⟩
        refine lv_iinc (v := x3_4) (lv' := [(3, .int x3_4), (0, .ref h0), (1, .long a1), (4, .int x4)]) hx hb dJ7_fill_d0a16_16 hl (k := 2) rfl (by rw [ex3_4]; rfl) (by decide) rfl (fun ls hl => ?_)
        have hf := ol_some hf ex3_4
        refine lv_goto (tgt := 6) hx hb dJ7_fill_d0a16_19 (by decide) ?_
        exact ih H locs ls x3_4 x4 v_p0_3 hP hD hS (lv_sub hl [1, 2, 0, 3] rfl) hf
  suffices K0 : ∀ (H : Heap) (locs : List Loc), va_P (dC, dI) vwCl [(h0, .inl (q0, n_p0, .inr (.inl v_p0)))] H → va_D A [(h0, .inl (q0, n_p0, .inr (.inl v_p0)))] → va_S A s.heap H locs → W p l e ({ frames := 0, cells := 0, slots := 0, locals := 0 } : Room) s m ([.ref h0, .long a1] : List Value).toArray below meth c H locs 0 0 Q (F0 m 0 ls []) from K0 s.heap [] hP hD hS
  clear hP hD hS
  intro H locs hP hD hS
  unfold fJ7_fill_d0a16 at hf
  refine lv_iconst (v := 0) hx hb dJ7_fill_d0a16_0 (by decide) ?_
  refine lv_istore_n (lv' := [(3, .int (0 : Int32)), (0, .ref h0), (1, .long a1)]) hx hb dJ7_fill_d0a16_1 rfl hl (by decide) rfl (fun ls hl => ?_)
  refine lv_aload_n hx hb dJ7_fill_d0a16_2 rfl (lv_at hl 1 rfl) ?_
  refine va_alen hx hb hK hP 0 0 rfl rfl (v := Int32.ofNat n_p0) rfl dJ7_fill_d0a16_3 ?_
  refine lv_topi (fun x_5 ex_5 => ?_)
  have hf := ol_some hf ex_5
  refine lv_istore (lv' := [(4, .int x_5), (3, .int (0 : Int32)), (0, .ref h0), (1, .long a1)]) hx hb dJ7_fill_d0a16_4 hl (by decide) rfl (fun ls hl => ?_)
  exact L6 F H locs ls (0 : Int32) x_5 v_p0 hP hD hS (lv_sub hl [2, 3, 1, 0] rfl) hf
