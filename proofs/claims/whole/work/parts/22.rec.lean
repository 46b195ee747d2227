def fX6_canLight_L71 (F : Nat) (v_members : Int32) (v_clashes : Nat → Int32) (a1 : Int32) (a2 : Int32) (rM : (Nat → Int32) → Int32 → Int32 → Option (Int32 × (Nat → Int32))) (k26 : Int32 → Int32 → Int32 → (Nat → Int32) → Option (Int32 × (Nat → Int32))) (x3 : Int32) (x4 : Int32) (x5 : Int32) (v_open : Nat → Int32) : Option (Int32 × (Nat → Int32)) := ol (x5 + 1) (fun x5_1 => k26 x3 x4 x5_1 v_open)
def fX6_canLight_L26 (F : Nat) (v_members : Int32) (v_clashes : Nat → Int32) (a1 : Int32) (a2 : Int32) (rM : (Nat → Int32) → Int32 → Int32 → Option (Int32 × (Nat → Int32))) : Nat → Int32 → Int32 → Int32 → (Nat → Int32) → Option (Int32 × (Nat → Int32))
  | 0, _, _, _, _ => none
  | n + 1, x3, x4, x5, v_open => if (24 : Int32) ≤ x5 then (some ((0 : Int32), v_open)) else (ob (fX6_isOpen F v_open a1 x3 x5) (fun o_3 => if o_3 = 0 then (fX6_canLight_L71 F v_members v_clashes a1 a2 rM (fun x3 x4 x5 v_open => fX6_canLight_L26 F v_members v_clashes a1 a2 rM n x3 x4 x5 v_open) x3 x4 x5 v_open) else (ob (fX6_narrow F v_members v_clashes v_open a1 x3 x5 x4) (fun o_5 => if o_5.1 = 0 then (fX6_canLight_L71 F v_members v_clashes a1 a2 rM (fun x3 x4 x5 v_open => fX6_canLight_L26 F v_members v_clashes a1 a2 rM n x3 x4 x5 v_open) x3 x4 x5 o_5.2) else (ob (rM o_5.2 (a1 + (1 : Int32)) x4) (fun o_7 => if o_7.1 = 0 then (fX6_canLight_L71 F v_members v_clashes a1 a2 rM (fun x3 x4 x5 v_open => fX6_canLight_L26 F v_members v_clashes a1 a2 rM n x3 x4 x5 v_open) x3 x4 x5 o_7.2) else (some ((1 : Int32), o_7.2))))))))
def fX6_canLight (F : Nat) (v_members : Int32) (v_clashes : Nat → Int32) : Nat → (Nat → Int32) → Int32 → Int32 → Option (Int32 × (Nat → Int32))
  | 0, _, _, _ => none
  | d + 1, v_open, a1, a2 => if a2 = 0 then (some ((1 : Int32), v_open)) else (if a1 < (5 : Int32) then (ob (fX6_firstOf F a2) (fun o_11 => ol (a2 &&& (a2 - (1 : Int32))) (fun x_12 => fX6_canLight_L26 F v_members v_clashes a1 a2 (fX6_canLight F v_members v_clashes d) F o_11 x_12 (0 : Int32) v_open))) else (some ((1 : Int32), v_open)))
theorem fX6_canLight_s (F : Nat) (v_members : Int32) (v_clashes : Nat → Int32) (d : Nat) (v_open : Nat → Int32) (a1 : Int32) (a2 : Int32) : fX6_canLight F v_members v_clashes (d + 1) v_open a1 a2 = if a2 = 0 then (some ((1 : Int32), v_open)) else (if a1 < (5 : Int32) then (ob (fX6_firstOf F a2) (fun o_11 => ol (a2 &&& (a2 - (1 : Int32))) (fun x_12 => fX6_canLight_L26 F v_members v_clashes a1 a2 (fX6_canLight F v_members v_clashes d) F o_11 x_12 (0 : Int32) v_open))) else (some ((1 : Int32), v_open))) := rfl
set_option maxRecDepth 100000 in
set_option maxHeartbeats 4000000 in
theorem ctX6_canLight (l : Launch) (dC : Nat → ClassId) (dI : Nat → Nat → Nat) (F : Nat) (h0 h1 h2 : Nat) (q0 q1 : ClassId) (g_town : Value) (g_plumes : Value) (g_who : Value) (v_members : Int32) (g_chosen : Value) (g_soonest : Value) (v_soonestLatest : Int32) (v_soonestSum : Int32) (v_tally : Int32) (v_clashes : Nat → Int32) : ∀ (d sz : Nat) (v_open : Nat → Int32) (a1 : Int32) (a2 : Int32) (out : Int32 × (Nat → Int32)), fX6_canLight F v_members v_clashes d v_open a1 a2 = some out → cM l yX6_canLight cX6_canLight 6 (some .boolean) ({ frames := 2 + d, cells := 0, slots := 0, locals := 48 + 25 * d } : Room) (dC, dI) [(q0, .int), (q1, .int)] [(h0, .inr (6, [g_town, g_plumes, g_who, .int v_members, .ref h1, .ref h2, g_chosen, g_soonest, .int v_soonestLatest, .int v_soonestSum, .int v_tally])), (h1, .inl (q0, 600, .inl v_clashes)), (h2, .inl (q1, 30, .inl v_open))] [.ref h0, .int a1, .int a2] sz (some (.int out.1)) [(h0, .inr (6, [g_town, g_plumes, g_who, .int v_members, .ref h1, .ref h2, g_chosen, g_soonest, .int v_soonestLatest, .int v_soonestSum, .int v_tally])), (h1, .inl (q0, 600, .inl v_clashes)), (h2, .inl (q1, 30, .inl out.2))] := by
  intro d
  induction d with
  | zero =>
    intro sz v_open a1 a2 out hf
    cases hf
  | succ d ihR =>
    intro sz v_open a1 a2 out hf
    refine cM_I RX6 ⟨by decide, rfl⟩ (Nat.le_of_ble_eq_true rfl) ?_
    intro p e s m below meth c A Q ls hx hb hml hown hts hK hN hA hP hD hS hl hRet
    have htb : ∀ w ∈ lw_g, w.before ([.ref h0, .int a1, .int a2] : List Value).toArray s = true := fun w h => hts w (List.mem_cons_of_mem _ h)
    have hl : lv_has ls 6 [(0, .ref h0), (1, .int a1), (2, .int a2)] := hl
    have hRet : ∀ (o : Int32 × (Nat → Int32)) (H : Heap) (locs : List Loc) (ls : Array Slot) (pc : Nat), o = out → va_P (dC, dI) vwCl [(h0, .inr (6, [g_town, g_plumes, g_who, .int v_members, .ref h1, .ref h2, g_chosen, g_soonest, .int v_soonestLatest, .int v_soonestSum, .int v_tally])), (h1, .inl (q0, 600, .inl v_clashes)), (h2, .inl (q1, 30, .inl o.2))] H → va_D A [(h0, .inr (6, [g_town, g_plumes, g_who, .int v_members, .ref h1, .ref h2, g_chosen, g_soonest, .int v_soonestLatest, .int v_soonestSum, .int v_tally])), (h1, .inl (q0, 600, .inl v_clashes)), (h2, .inl (q1, 30, .inl o.2))] → va_S A s.heap H locs → narrow .boolean (.int o.1) = .int o.1 → decode cX6_canLight pc = .ok (.ireturn, 1) → W p l e ({ frames := 2 + (d + 1), cells := 0, slots := 0, locals := 48 + 25 * (d + 1) } : Room) s m ([.ref h0, .int a1, .int a2] : List Value).toArray below meth c H locs 0 0 Q (F0 m pc ls [.int o.1]) := fun o H locs ls pc ho => by subst ho; exact hRet H locs ls pc
    have L71 : ∀ (k26 : Int32 → Int32 → Int32 → (Nat → Int32) → Option (Int32 × (Nat → Int32))) (hk26 : ∀ (H : Heap) (locs : List Loc) (ls : Array Slot) (x3 : Int32) (x4 : Int32) (x5 : Int32) (v_open : Nat → Int32), va_P (dC, dI) vwCl [(h0, .inr (6, [g_town, g_plumes, g_who, .int v_members, .ref h1, .ref h2, g_chosen, g_soonest, .int v_soonestLatest, .int v_soonestSum, .int v_tally])), (h1, .inl (q0, 600, .inl v_clashes)), (h2, .inl (q1, 30, .inl v_open))] H → va_D A [(h0, .inr (6, [g_town, g_plumes, g_who, .int v_members, .ref h1, .ref h2, g_chosen, g_soonest, .int v_soonestLatest, .int v_soonestSum, .int v_tally])), (h1, .inl (q0, 600, .inl v_clashes)), (h2, .inl (q1, 30, .inl v_open))] → va_S A s.heap H locs → lv_has ls 6 [(0, .ref h0), (1, .int a1), (3, .int x3), (4, .int x4), (5, .int x5)] → k26 x3 x4 x5 v_open = some out → W p l e ({ frames := 2 + (d + 1), cells := 0, slots := 0, locals := 48 + 25 * (d + 1) } : Room) s m ([.ref h0, .int a1, .int a2] : List Value).toArray below meth c H locs 0 0 Q (F0 m 26 ls [])), ∀ (H : Heap) (locs : List Loc) (ls : Array Slot) (x3 : Int32) (x4 : Int32) (x5 : Int32) (v_open : Nat → Int32), va_P (dC, dI) vwCl [(h0, .inr (6, [g_town, g_plumes, g_who, .int v_members, .ref h1, .ref h2, g_chosen, g_soonest, .int v_soonestLatest, .int v_soonestSum, .int v_tally])), (h1, .inl (q0, 600, .inl v_clashes)), (h2, .inl (q1, 30, .inl v_open))] H → va_D A [(h0, .inr (6, [g_town, g_plumes, g_who, .int v_members, .ref h1, .ref h2, g_chosen, g_soonest, .int v_soonestLatest, .int v_soonestSum, .int v_tally])), (h1, .inl (q0, 600, .inl v_clashes)), (h2, .inl (q1, 30, .inl v_open))] → va_S A s.heap H locs → lv_has ls 6 [(0, .ref h0), (1, .int a1), (3, .int x3), (4, .int x4), (5, .int x5)] → fX6_canLight_L71 F v_members v_clashes a1 a2 (fX6_canLight F v_members v_clashes d) k26 x3 x4 x5 v_open = some out → W p l e ({ frames := 2 + (d + 1), cells := 0, slots := 0, locals := 48 + 25 * (d + 1) } : Room) s m ([.ref h0, .int a1, .int a2] : List Value).toArray below meth c H locs 0 0 Q (F0 m 71 ls []) := by
      intro k26 hk26 H locs ls x3 x4 x5 v_open hP hD hS hl hf
      unfold fX6_canLight_L71 at hf
      obtain ⟨x5_1, ex5_1⟩ : ∃ y : Int32, y = x5 + 1 := ⟨_, rfl⟩
      refine lv_iinc (v := x5_1) (lv' := [(5, .int x5_1), (0, .ref h0), (1, .int a1), (3, .int x3), (4, .int x4)]) hx hb dX6_canLight_71 hl (k := 4) rfl (by rw [ex5_1]; rfl) (by decide) rfl (fun ls hl => ?_)
      have hf := ol_some hf ex5_1
      refine lv_goto (tgt := 26) hx hb dX6_canLight_74 (by decide) ?_
      exact hk26 H locs ls x3 x4 x5_1 v_open hP hD hS (lv_sub hl [1, 2, 3, 4, 0] rfl) hf
    have L26 : ∀ (n : Nat), ∀ (H : Heap) (locs : List Loc) (ls : Array Slot) (x3 : Int32) (x4 : Int32) (x5 : Int32) (v_open : Nat → Int32), va_P (dC, dI) vwCl [(h0, .inr (6, [g_town, g_plumes, g_who, .int v_members, .ref h1, .ref h2, g_chosen, g_soonest, .int v_soonestLatest, .int v_soonestSum, .int v_tally])), (h1, .inl (q0, 600, .inl v_clashes)), (h2, .inl (q1, 30, .inl v_open))] H → va_D A [(h0, .inr (6, [g_town, g_plumes, g_who, .int v_members, .ref h1, .ref h2, g_chosen, g_soonest, .int v_soonestLatest, .int v_soonestSum, .int v_tally])), (h1, .inl (q0, 600, .inl v_clashes)), (h2, .inl (q1, 30, .inl v_open))] → va_S A s.heap H locs → lv_has ls 6 [(0, .ref h0), (1, .int a1), (3, .int x3), (4, .int x4), (5, .int x5)] → fX6_canLight_L26 F v_members v_clashes a1 a2 (fX6_canLight F v_members v_clashes d) n x3 x4 x5 v_open = some out → W p l e ({ frames := 2 + (d + 1), cells := 0, slots := 0, locals := 48 + 25 * (d + 1) } : Room) s m ([.ref h0, .int a1, .int a2] : List Value).toArray below meth c H locs 0 0 Q (F0 m 26 ls []) := by
      intro n
      induction n with
      | zero =>
        intro H locs ls x3 x4 x5 v_open hP hD hS hl hf
        cases hf
      | succ n ih =>
        intro H locs ls x3 x4 x5 v_open hP hD hS hl hf
        rw [fX6_canLight_L26] at hf
        refine lv_iload hx hb dX6_canLight_26 (lv_at hl 4 rfl) ?_
        refine lv_bipush (v := 24) hx hb dX6_canLight_28 (by decide) ?_
        refine lv_icmp_ge (tgt := 77) hx hb dX6_canLight_30 (by decide) (fun c_2 => ?_) (fun c_2 => ?_)
        · have hf := oi_t hf c_2
          refine lv_iconst (v := 0) hx hb dX6_canLight_77 (by decide) ?_
          exact hRet ((0 : Int32), v_open) H locs ls 78 (Option.some.inj hf) hP hD hS nar0 dX6_canLight_78
        · have hf := oi_f hf c_2
          refine lv_aload_n hx hb dX6_canLight_33 rfl (lv_at hl 0 rfl) ?_
          refine lv_iload_n hx hb dX6_canLight_34 rfl (lv_at hl 1 rfl) ?_
          refine lv_iload_n hx hb dX6_canLight_35 rfl (lv_at hl 2 rfl) ?_
          refine lv_iload hx hb dX6_canLight_36 (lv_at hl 4 rfl) ?_
          obtain ⟨o_3, ho_3, hf⟩ := ob_some hf
          refine ca_V (As := [.int a1, .int x3, .int x5]) (rest := []) (wr := [(h1, .inl (q0, 600, .inl v_clashes))]) (wn := [(h0, .inr (6, [g_town, g_plumes, g_who, .int v_members, .ref h1, .ref h2, g_chosen, g_soonest, .int v_soonestLatest, .int v_soonestSum, .int v_tally])), (h1, .inl (q0, 600, .inl v_clashes)), (h2, .inl (q1, 30, .inl v_open))]) ⟨hx, hb, hml, hown, hts⟩ (ctX6_isOpen l dC dI F H.size h0 h2 q1 (g_town) (g_plumes) (g_who) v_members (.ref h1) (g_chosen) (g_soonest) v_soonestLatest v_soonestSum v_tally v_open a1 x3 x5 o_3 ho_3) ⟨mC_X6_isOpen, mN_X6, md_X6_isOpen, ⟨rfl, rfl⟩, ⟨by show 0 + 1 ≤ 2 + (d + 1); omega, by show 8 + (4 + 11) + 0 ≤ 48 + 25 * (d + 1); omega⟩⟩ mM_X6_117 mI_X6_isOpen mS_X6_isOpen hK hN hP hD hS hA [1] [0, 2] [1] [1, 0, 2] rfl rfl rfl ⟨by decide, by decide, by decide, by decide⟩ rfl 0 6 rfl rfl rfl hl.1 (Nat.le_of_ble_eq_true rfl) ⟨Nat.zero_le _, Nat.zero_le _⟩ dX6_canLight_38 (fun H locs hP hD hS => ?_)
          refine lv_if_eq (tgt := 71) hx hb dX6_canLight_41 (by decide) (fun c_4 => ?_) (fun c_4 => ?_)
          · have hf := oi_t hf c_4
            exact L71 (fun x3 x4 x5 v_open => fX6_canLight_L26 F v_members v_clashes a1 a2 (fX6_canLight F v_members v_clashes d) n x3 x4 x5 v_open) ih H locs ls x3 x4 x5 v_open hP hD hS (lv_sub hl [0, 1, 2, 3, 4] rfl) hf
          · have hf := oi_f hf c_4
            refine lv_aload_n hx hb dX6_canLight_44 rfl (lv_at hl 0 rfl) ?_
            refine lv_iload_n hx hb dX6_canLight_45 rfl (lv_at hl 1 rfl) ?_
            refine lv_iload_n hx hb dX6_canLight_46 rfl (lv_at hl 2 rfl) ?_
            refine lv_iload hx hb dX6_canLight_47 (lv_at hl 4 rfl) ?_
            refine lv_iload hx hb dX6_canLight_49 (lv_at hl 3 rfl) ?_
            obtain ⟨o_5, ho_5, hf⟩ := ob_some hf
            refine ca_V (As := [.int a1, .int x3, .int x5, .int x4]) (rest := []) (wr := []) (wn := [(h0, .inr (6, [g_town, g_plumes, g_who, .int v_members, .ref h1, .ref h2, g_chosen, g_soonest, .int v_soonestLatest, .int v_soonestSum, .int v_tally])), (h1, .inl (q0, 600, .inl v_clashes)), (h2, .inl (q1, 30, .inl o_5.2))]) ⟨hx, hb, hml, hown, hts⟩ (ctX6_narrow l dC dI F H.size h0 h1 h2 q0 q1 (g_town) (g_plumes) (g_who) v_members (g_chosen) (g_soonest) v_soonestLatest v_soonestSum v_tally v_clashes v_open a1 x3 x5 x4 o_5 ho_5) ⟨mC_X6_narrow, mN_X6, md_X6_narrow, ⟨rfl, rfl⟩, ⟨by show 1 + 1 ≤ 2 + (d + 1); omega, by show 8 + (7 + 11) + 22 ≤ 48 + 25 * (d + 1); omega⟩⟩ mM_X6_121 mI_X6_narrow mS_X6_narrow hK hN hP hD hS hA [0, 1] [0, 1, 2] [] [0, 1, 2] rfl rfl rfl ⟨by decide, by decide, by decide, by decide⟩ rfl 0 6 rfl rfl rfl hl.1 (Nat.le_of_ble_eq_true rfl) ⟨Nat.zero_le _, Nat.zero_le _⟩ dX6_canLight_51 (fun H locs hP hD hS => ?_)
            refine lv_if_eq (tgt := 71) hx hb dX6_canLight_54 (by decide) (fun c_6 => ?_) (fun c_6 => ?_)
            · have hf := oi_t hf c_6
              exact L71 (fun x3 x4 x5 v_open => fX6_canLight_L26 F v_members v_clashes a1 a2 (fX6_canLight F v_members v_clashes d) n x3 x4 x5 v_open) ih H locs ls x3 x4 x5 o_5.2 hP hD hS (lv_sub hl [0, 1, 2, 3, 4] rfl) hf
            · have hf := oi_f hf c_6
              refine lv_aload_n hx hb dX6_canLight_57 rfl (lv_at hl 0 rfl) ?_
              refine lv_iload_n hx hb dX6_canLight_58 rfl (lv_at hl 1 rfl) ?_
              refine lv_iconst (v := 1) hx hb dX6_canLight_59 (by decide) ?_
              refine lv_iadd hx hb dX6_canLight_60 ?_
              refine lv_iload hx hb dX6_canLight_61 (lv_at hl 3 rfl) ?_
              obtain ⟨o_7, ho_7, hf⟩ := ob_some hf
              refine ca_V (As := [.int (a1 + (1 : Int32)), .int x4]) (rest := []) (wr := []) (wn := [(h0, .inr (6, [g_town, g_plumes, g_who, .int v_members, .ref h1, .ref h2, g_chosen, g_soonest, .int v_soonestLatest, .int v_soonestSum, .int v_tally])), (h1, .inl (q0, 600, .inl v_clashes)), (h2, .inl (q1, 30, .inl o_7.2))]) ⟨hx, hb, hml, hown, hts⟩ (ihR H.size o_5.2 (a1 + (1 : Int32)) x4 o_7 ho_7) ⟨mC_X6_canLight, mN_X6, md_X6_canLight, ⟨rfl, rfl⟩, ⟨by show 2 + d + 1 ≤ 2 + (d + 1); omega, by show 8 + (6 + 11) + (48 + 25 * d) ≤ 48 + 25 * (d + 1); omega⟩⟩ mM_X6_103 mI_X6_canLight mS_X6_canLight hK hN hP hD hS hA [0, 1] [0, 1, 2] [] [0, 1, 2] rfl rfl rfl ⟨by decide, by decide, by decide, by decide⟩ rfl 0 6 rfl rfl rfl hl.1 (Nat.le_of_ble_eq_true rfl) ⟨Nat.zero_le _, Nat.zero_le _⟩ dX6_canLight_63 (fun H locs hP hD hS => ?_)
              refine lv_if_eq (tgt := 71) hx hb dX6_canLight_66 (by decide) (fun c_8 => ?_) (fun c_8 => ?_)
              · have hf := oi_t hf c_8
                exact L71 (fun x3 x4 x5 v_open => fX6_canLight_L26 F v_members v_clashes a1 a2 (fX6_canLight F v_members v_clashes d) n x3 x4 x5 v_open) ih H locs ls x3 x4 x5 o_7.2 hP hD hS (lv_sub hl [0, 1, 2, 3, 4] rfl) hf
              · have hf := oi_f hf c_8
                refine lv_iconst (v := 1) hx hb dX6_canLight_69 (by decide) ?_
                exact hRet ((1 : Int32), o_7.2) H locs ls 70 (Option.some.inj hf) hP hD hS nar1 dX6_canLight_70
    suffices K0 : ∀ (H : Heap) (locs : List Loc), va_P (dC, dI) vwCl [(h0, .inr (6, [g_town, g_plumes, g_who, .int v_members, .ref h1, .ref h2, g_chosen, g_soonest, .int v_soonestLatest, .int v_soonestSum, .int v_tally])), (h1, .inl (q0, 600, .inl v_clashes)), (h2, .inl (q1, 30, .inl v_open))] H → va_D A [(h0, .inr (6, [g_town, g_plumes, g_who, .int v_members, .ref h1, .ref h2, g_chosen, g_soonest, .int v_soonestLatest, .int v_soonestSum, .int v_tally])), (h1, .inl (q0, 600, .inl v_clashes)), (h2, .inl (q1, 30, .inl v_open))] → va_S A s.heap H locs → W p l e ({ frames := 2 + (d + 1), cells := 0, slots := 0, locals := 48 + 25 * (d + 1) } : Room) s m ([.ref h0, .int a1, .int a2] : List Value).toArray below meth c H locs 0 0 Q (F0 m 0 ls []) from K0 s.heap [] hP hD hS
    clear hP hD hS
    intro H locs hP hD hS
    have hf := (fX6_canLight_s F v_members v_clashes d v_open a1 a2).symm.trans hf
    refine lv_iload_n hx hb dX6_canLight_0 rfl (lv_at hl 2 rfl) ?_
    refine lv_if_eq (tgt := 9) hx hb dX6_canLight_1 (by decide) (fun c_9 => ?_) (fun c_9 => ?_)
    · have hf := oi_t hf c_9
      refine lv_iconst (v := 1) hx hb dX6_canLight_9 (by decide) ?_
      exact hRet ((1 : Int32), v_open) H locs ls 10 (Option.some.inj hf) hP hD hS nar1 dX6_canLight_10
    · have hf := oi_f hf c_9
      refine lv_iload_n hx hb dX6_canLight_4 rfl (lv_at hl 1 rfl) ?_
      refine lv_iconst (v := 5) hx hb dX6_canLight_5 (by decide) ?_
      refine lv_icmp_lt (tgt := 11) hx hb dX6_canLight_6 (by decide) (fun c_10 => ?_) (fun c_10 => ?_)
      · have hf := oi_t hf c_10
        refine lv_iload_n hx hb dX6_canLight_11 rfl (lv_at hl 2 rfl) ?_
        obtain ⟨o_11, ho_11, hf⟩ := ob_some hf
        refine ca_S (As := [.int a2]) (rest := []) (wr := [(h0, .inr (6, [g_town, g_plumes, g_who, .int v_members, .ref h1, .ref h2, g_chosen, g_soonest, .int v_soonestLatest, .int v_soonestSum, .int v_tally])), (h1, .inl (q0, 600, .inl v_clashes)), (h2, .inl (q1, 30, .inl v_open))]) (wn := [(h0, .inr (6, [g_town, g_plumes, g_who, .int v_members, .ref h1, .ref h2, g_chosen, g_soonest, .int v_soonestLatest, .int v_soonestSum, .int v_tally])), (h1, .inl (q0, 600, .inl v_clashes)), (h2, .inl (q1, 30, .inl v_open))]) ⟨hx, hb, hml, hown, hts⟩ (ctX6_firstOf l dC dI F H.size a2 o_11 ho_11) ⟨mC_X6_firstOf, mN_X6, md_X6_firstOf, ⟨rfl, rfl⟩, ⟨by show 1 + 1 ≤ 2 + (d + 1); omega, by show 8 + (1 + 11) + 21 ≤ 48 + 25 * (d + 1); omega⟩⟩ mM_X6_114 mT_X6_firstOf hK hN hP hD hS hA [] [] [0, 1, 2] [0, 1, 2] rfl rfl rfl ⟨by decide, by decide, by decide, by decide⟩ rfl rfl hl.1 (Nat.le_of_ble_eq_true rfl) ⟨Nat.zero_le _, Nat.zero_le _⟩ dX6_canLight_12 (fun H locs hP hD hS => ?_)
        refine lv_istore_n (lv' := [(3, .int o_11), (0, .ref h0), (1, .int a1), (2, .int a2)]) hx hb dX6_canLight_15 rfl hl (by decide) rfl (fun ls hl => ?_)
        refine lv_iload_n hx hb dX6_canLight_16 rfl (lv_at hl 3 rfl) ?_
        refine lv_iload_n hx hb dX6_canLight_17 rfl (lv_at hl 3 rfl) ?_
        refine lv_iconst (v := 1) hx hb dX6_canLight_18 (by decide) ?_
        refine lv_isub hx hb dX6_canLight_19 ?_
        refine lv_iand hx hb dX6_canLight_20 ?_
        refine lv_topi (fun x_12 ex_12 => ?_)
        have hf := ol_some hf ex_12
        refine lv_istore (lv' := [(4, .int x_12), (3, .int o_11), (0, .ref h0), (1, .int a1), (2, .int a2)]) hx hb dX6_canLight_21 hl (by decide) rfl (fun ls hl => ?_)
        refine lv_iconst (v := 0) hx hb dX6_canLight_23 (by decide) ?_
        refine lv_istore (lv' := [(5, .int (0 : Int32)), (4, .int x_12), (3, .int o_11), (0, .ref h0), (1, .int a1), (2, .int a2)]) hx hb dX6_canLight_24 hl (by decide) rfl (fun ls hl => ?_)
        exact L26 F H locs ls o_11 x_12 (0 : Int32) v_open hP hD hS (lv_sub hl [3, 4, 2, 1, 0] rfl) hf
      · have hf := oi_f hf c_10
        refine lv_iconst (v := 1) hx hb dX6_canLight_9 (by decide) ?_
        exact hRet ((1 : Int32), v_open) H locs ls 10 (Option.some.inj hf) hP hD hS nar1 dX6_canLight_10
def fX6_addPlans_L102 (F : Nat) (v_members : Int32) (v_clashes : Nat → Int32) (a1 : Int32) (a2 : Int32) (rM : Int32 → (Nat → Int32) → Int32 → Int32 → Option (Int32 × (Nat → Int32))) (k53 : Int32 → Int32 → Int32 → Int32 → (Nat → Int32) → Option (Int32 × (Nat → Int32))) (x3 : Int32) (x4 : Int32) (x5 : Int32) (v_tally : Int32) (v_open : Nat → Int32) : Option (Int32 × (Nat → Int32)) := ol (x5 + 1) (fun x5_1 => k53 x3 x4 x5_1 v_tally v_open)
def fX6_addPlans_L53 (F : Nat) (v_members : Int32) (v_clashes : Nat → Int32) (a1 : Int32) (a2 : Int32) (rM : Int32 → (Nat → Int32) → Int32 → Int32 → Option (Int32 × (Nat → Int32))) : Nat → Int32 → Int32 → Int32 → Int32 → (Nat → Int32) → Option (Int32 × (Nat → Int32))
  | 0, _, _, _, _, _ => none
  | n + 1, x3, x4, x5, v_tally, v_open => if (24 : Int32) ≤ x5 then (some (v_tally, v_open)) else (if (100000 : Int32) ≤ v_tally then (some (v_tally, v_open)) else (ob (fX6_isOpen F v_open a1 x3 x5) (fun o_4 => if o_4 = 0 then (fX6_addPlans_L102 F v_members v_clashes a1 a2 rM (fun x3 x4 x5 v_tally v_open => fX6_addPlans_L53 F v_members v_clashes a1 a2 rM n x3 x4 x5 v_tally v_open) x3 x4 x5 v_tally v_open) else (ob (fX6_narrow F v_members v_clashes v_open a1 x3 x5 x4) (fun o_6 => if o_6.1 = 0 then (fX6_addPlans_L102 F v_members v_clashes a1 a2 rM (fun x3 x4 x5 v_tally v_open => fX6_addPlans_L53 F v_members v_clashes a1 a2 rM n x3 x4 x5 v_tally v_open) x3 x4 x5 v_tally o_6.2) else (ob (rM v_tally o_6.2 (a1 + (1 : Int32)) x4) (fun o_8 => fX6_addPlans_L102 F v_members v_clashes a1 a2 rM (fun x3 x4 x5 v_tally v_open => fX6_addPlans_L53 F v_members v_clashes a1 a2 rM n x3 x4 x5 v_tally v_open) x3 x4 x5 o_8.1 o_8.2)))))))
def fX6_addPlans (F : Nat) (v_members : Int32) (v_clashes : Nat → Int32) : Nat → Int32 → (Nat → Int32) → Int32 → Int32 → Option (Int32 × (Nat → Int32))
  | 0, _, _, _, _ => none
  | d + 1, v_tally, v_open, a1, a2 => if a2 = 0 then (some (v_tally, v_open)) else (if a1 < (5 : Int32) then (ob (fX6_firstOf F a2) (fun o_11 => ol (a2 &&& (a2 - (1 : Int32))) (fun x_12 => if x_12 = 0 then (og (vb ((a1 * (5 : Int32)) + o_11) 30) (ob (fJ6_bitCount_0f7a4 F (v_open ((a1 * (5 : Int32)) + o_11).toNatClampNeg)) (fun o_15 => ol (v_tally + o_15) (fun x_16 => some (x_16, v_open))))) else (fX6_addPlans_L53 F v_members v_clashes a1 a2 (fX6_addPlans F v_members v_clashes d) F o_11 x_12 (0 : Int32) v_tally v_open)))) else (some (v_tally, v_open)))
theorem fX6_addPlans_s (F : Nat) (v_members : Int32) (v_clashes : Nat → Int32) (d : Nat) (v_tally : Int32) (v_open : Nat → Int32) (a1 : Int32) (a2 : Int32) : fX6_addPlans F v_members v_clashes (d + 1) v_tally v_open a1 a2 = if a2 = 0 then (some (v_tally, v_open)) else (if a1 < (5 : Int32) then (ob (fX6_firstOf F a2) (fun o_11 => ol (a2 &&& (a2 - (1 : Int32))) (fun x_12 => if x_12 = 0 then (og (vb ((a1 * (5 : Int32)) + o_11) 30) (ob (fJ6_bitCount_0f7a4 F (v_open ((a1 * (5 : Int32)) + o_11).toNatClampNeg)) (fun o_15 => ol (v_tally + o_15) (fun x_16 => some (x_16, v_open))))) else (fX6_addPlans_L53 F v_members v_clashes a1 a2 (fX6_addPlans F v_members v_clashes d) F o_11 x_12 (0 : Int32) v_tally v_open)))) else (some (v_tally, v_open))) := rfl
set_option maxRecDepth 100000 in
set_option maxHeartbeats 4000000 in
theorem ctX6_addPlans (l : Launch) (dC : Nat → ClassId) (dI : Nat → Nat → Nat) (F : Nat) (h0 h1 h2 : Nat) (q0 q1 : ClassId) (g_town : Value) (g_plumes : Value) (g_who : Value) (v_members : Int32) (g_chosen : Value) (g_soonest : Value) (v_soonestLatest : Int32) (v_soonestSum : Int32) (v_clashes : Nat → Int32) : ∀ (d sz : Nat) (v_tally : Int32) (v_open : Nat → Int32) (a1 : Int32) (a2 : Int32) (out : Int32 × (Nat → Int32)), fX6_addPlans F v_members v_clashes d v_tally v_open a1 a2 = some out → cM l yX6_addPlans cX6_addPlans 6 none ({ frames := 2 + d, cells := 0, slots := 0, locals := 48 + 25 * d } : Room) (dC, dI) [(q0, .int), (q1, .int)] [(h0, .inr (6, [g_town, g_plumes, g_who, .int v_members, .ref h1, .ref h2, g_chosen, g_soonest, .int v_soonestLatest, .int v_soonestSum, .int v_tally])), (h1, .inl (q0, 600, .inl v_clashes)), (h2, .inl (q1, 30, .inl v_open))] [.ref h0, .int a1, .int a2] sz none [(h0, .inr (6, [g_town, g_plumes, g_who, .int v_members, .ref h1, .ref h2, g_chosen, g_soonest, .int v_soonestLatest, .int v_soonestSum, .int out.1])), (h1, .inl (q0, 600, .inl v_clashes)), (h2, .inl (q1, 30, .inl out.2))] := by
  intro d
  induction d with
  | zero =>
    intro sz v_tally v_open a1 a2 out hf
    cases hf
  | succ d ihR =>
    intro sz v_tally v_open a1 a2 out hf
    refine cM_V RX6 ⟨by decide, rfl⟩ (Nat.le_of_ble_eq_true rfl) ?_
    intro p e s m below meth c A Q ls hx hb hml hown hts hK hN hA hP hD hS hl hRet
    have htb : ∀ w ∈ lw_g, w.before ([.ref h0, .int a1, .int a2] : List Value).toArray s = true := fun w h => hts w (List.mem_cons_of_mem _ h)
    have hl : lv_has ls 6 [(0, .ref h0), (1, .int a1), (2, .int a2)] := hl
    have hRet : ∀ (o : Int32 × (Nat → Int32)) (H : Heap) (locs : List Loc) (ls : Array Slot) (pc : Nat), o = out → va_P (dC, dI) vwCl [(h0, .inr (6, [g_town, g_plumes, g_who, .int v_members, .ref h1, .ref h2, g_chosen, g_soonest, .int v_soonestLatest, .int v_soonestSum, .int o.1])), (h1, .inl (q0, 600, .inl v_clashes)), (h2, .inl (q1, 30, .inl o.2))] H → va_D A [(h0, .inr (6, [g_town, g_plumes, g_who, .int v_members, .ref h1, .ref h2, g_chosen, g_soonest, .int v_soonestLatest, .int v_soonestSum, .int o.1])), (h1, .inl (q0, 600, .inl v_clashes)), (h2, .inl (q1, 30, .inl o.2))] → va_S A s.heap H locs → decode cX6_addPlans pc = .ok (.return_, 1) → W p l e ({ frames := 2 + (d + 1), cells := 0, slots := 0, locals := 48 + 25 * (d + 1) } : Room) s m ([.ref h0, .int a1, .int a2] : List Value).toArray below meth c H locs 0 0 Q (F0 m pc ls []) := fun o H locs ls pc ho => by subst ho; exact hRet H locs ls pc
    have L102 : ∀ (k53 : Int32 → Int32 → Int32 → Int32 → (Nat → Int32) → Option (Int32 × (Nat → Int32))) (hk53 : ∀ (H : Heap) (locs : List Loc) (ls : Array Slot) (x3 : Int32) (x4 : Int32) (x5 : Int32) (v_tally : Int32) (v_open : Nat → Int32), va_P (dC, dI) vwCl [(h0, .inr (6, [g_town, g_plumes, g_who, .int v_members, .ref h1, .ref h2, g_chosen, g_soonest, .int v_soonestLatest, .int v_soonestSum, .int v_tally])), (h1, .inl (q0, 600, .inl v_clashes)), (h2, .inl (q1, 30, .inl v_open))] H → va_D A [(h0, .inr (6, [g_town, g_plumes, g_who, .int v_members, .ref h1, .ref h2, g_chosen, g_soonest, .int v_soonestLatest, .int v_soonestSum, .int v_tally])), (h1, .inl (q0, 600, .inl v_clashes)), (h2, .inl (q1, 30, .inl v_open))] → va_S A s.heap H locs → lv_has ls 6 [(0, .ref h0), (1, .int a1), (3, .int x3), (4, .int x4), (5, .int x5)] → k53 x3 x4 x5 v_tally v_open = some out → W p l e ({ frames := 2 + (d + 1), cells := 0, slots := 0, locals := 48 + 25 * (d + 1) } : Room) s m ([.ref h0, .int a1, .int a2] : List Value).toArray below meth c H locs 0 0 Q (F0 m 53 ls [])), ∀ (H : Heap) (locs : List Loc) (ls : Array Slot) (x3 : Int32) (x4 : Int32) (x5 : Int32) (v_tally : Int32) (v_open : Nat → Int32), va_P (dC, dI) vwCl [(h0, .inr (6, [g_town, g_plumes, g_who, .int v_members, .ref h1, .ref h2, g_chosen, g_soonest, .int v_soonestLatest, .int v_soonestSum, .int v_tally])), (h1, .inl (q0, 600, .inl v_clashes)), (h2, .inl (q1, 30, .inl v_open))] H → va_D A [(h0, .inr (6, [g_town, g_plumes, g_who, .int v_members, .ref h1, .ref h2, g_chosen, g_soonest, .int v_soonestLatest, .int v_soonestSum, .int v_tally])), (h1, .inl (q0, 600, .inl v_clashes)), (h2, .inl (q1, 30, .inl v_open))] → va_S A s.heap H locs → lv_has ls 6 [(0, .ref h0), (1, .int a1), (3, .int x3), (4, .int x4), (5, .int x5)] → fX6_addPlans_L102 F v_members v_clashes a1 a2 (fX6_addPlans F v_members v_clashes d) k53 x3 x4 x5 v_tally v_open = some out → W p l e ({ frames := 2 + (d + 1), cells := 0, slots := 0, locals := 48 + 25 * (d + 1) } : Room) s m ([.ref h0, .int a1, .int a2] : List Value).toArray below meth c H locs 0 0 Q (F0 m 102 ls []) := by
      intro k53 hk53 H locs ls x3 x4 x5 v_tally v_open hP hD hS hl hf
      unfold fX6_addPlans_L102 at hf
      obtain ⟨x5_1, ex5_1⟩ : ∃ y : Int32, y = x5 + 1 := ⟨_, rfl⟩
      refine lv_iinc (v := x5_1) (lv' := [(5, .int x5_1), (0, .ref h0), (1, .int a1), (3, .int x3), (4, .int x4)]) hx hb dX6_addPlans_102 hl (k := 4) rfl (by rw [ex5_1]; rfl) (by decide) rfl (fun ls hl => ?_)
      have hf := ol_some hf ex5_1
      refine lv_goto (tgt := 53) hx hb dX6_addPlans_105 (by decide) ?_
      exact hk53 H locs ls x3 x4 x5_1 v_tally v_open hP hD hS (lv_sub hl [1, 2, 3, 4, 0] rfl) hf
    have L53 : ∀ (n : Nat), ∀ (H : Heap) (locs : List Loc) (ls : Array Slot) (x3 : Int32) (x4 : Int32) (x5 : Int32) (v_tally : Int32) (v_open : Nat → Int32), va_P (dC, dI) vwCl [(h0, .inr (6, [g_town, g_plumes, g_who, .int v_members, .ref h1, .ref h2, g_chosen, g_soonest, .int v_soonestLatest, .int v_soonestSum, .int v_tally])), (h1, .inl (q0, 600, .inl v_clashes)), (h2, .inl (q1, 30, .inl v_open))] H → va_D A [(h0, .inr (6, [g_town, g_plumes, g_who, .int v_members, .ref h1, .ref h2, g_chosen, g_soonest, .int v_soonestLatest, .int v_soonestSum, .int v_tally])), (h1, .inl (q0, 600, .inl v_clashes)), (h2, .inl (q1, 30, .inl v_open))] → va_S A s.heap H locs → lv_has ls 6 [(0, .ref h0), (1, .int a1), (3, .int x3), (4, .int x4), (5, .int x5)] → fX6_addPlans_L53 F v_members v_clashes a1 a2 (fX6_addPlans F v_members v_clashes d) n x3 x4 x5 v_tally v_open = some out → W p l e ({ frames := 2 + (d + 1), cells := 0, slots := 0, locals := 48 + 25 * (d + 1) } : Room) s m ([.ref h0, .int a1, .int a2] : List Value).toArray below meth c H locs 0 0 Q (F0 m 53 ls []) := by
      intro n
      induction n with
      | zero =>
        intro H locs ls x3 x4 x5 v_tally v_open hP hD hS hl hf
        cases hf
      | succ n ih =>
        intro H locs ls x3 x4 x5 v_tally v_open hP hD hS hl hf
        rw [fX6_addPlans_L53] at hf
        refine lv_iload hx hb dX6_addPlans_53 (lv_at hl 4 rfl) ?_
        refine lv_bipush (v := 24) hx hb dX6_addPlans_55 (by decide) ?_
        refine lv_icmp_ge (tgt := 108) hx hb dX6_addPlans_57 (by decide) (fun c_2 => ?_) (fun c_2 => ?_)
        · have hf := oi_t hf c_2
          exact hRet (v_tally, v_open) H locs ls 108 (Option.some.inj hf) hP hD hS dX6_addPlans_108
        · have hf := oi_f hf c_2
          refine lv_aload_n hx hb dX6_addPlans_60 rfl (lv_at hl 0 rfl) ?_
          refine va_get (D := (dC, dI)) (ci := 6) (v := .int v_tally) (C := RX6) (T := TX6) (N := 11) hx hb htb inG6 hown hK hP 0 rfl rfl 10 (by decide) (htb _ mF_X6_125) (fun _ h9 => h9) rfl dX6_addPlans_61 ?_
          refine lv_ldc (v := 100000) hx hb hown (htb _ mK_X6_135) dX6_addPlans_64 ?_
          refine lv_icmp_ge (tgt := 108) hx hb dX6_addPlans_66 (by decide) (fun c_3 => ?_) (fun c_3 => ?_)
          · have hf := oi_t hf c_3
            exact hRet (v_tally, v_open) H locs ls 108 (Option.some.inj hf) hP hD hS dX6_addPlans_108
          · have hf := oi_f hf c_3
            refine lv_aload_n hx hb dX6_addPlans_69 rfl (lv_at hl 0 rfl) ?_
            refine lv_iload_n hx hb dX6_addPlans_70 rfl (lv_at hl 1 rfl) ?_
            refine lv_iload_n hx hb dX6_addPlans_71 rfl (lv_at hl 2 rfl) ?_
            refine lv_iload hx hb dX6_addPlans_72 (lv_at hl 4 rfl) ?_
            obtain ⟨o_4, ho_4, hf⟩ := ob_some hf
            refine ca_V (As := [.int a1, .int x3, .int x5]) (rest := []) (wr := [(h1, .inl (q0, 600, .inl v_clashes))]) (wn := [(h0, .inr (6, [g_town, g_plumes, g_who, .int v_members, .ref h1, .ref h2, g_chosen, g_soonest, .int v_soonestLatest, .int v_soonestSum, .int v_tally])), (h1, .inl (q0, 600, .inl v_clashes)), (h2, .inl (q1, 30, .inl v_open))]) ⟨hx, hb, hml, hown, hts⟩ (ctX6_isOpen l dC dI F H.size h0 h2 q1 (g_town) (g_plumes) (g_who) v_members (.ref h1) (g_chosen) (g_soonest) v_soonestLatest v_soonestSum v_tally v_open a1 x3 x5 o_4 ho_4) ⟨mC_X6_isOpen, mN_X6, md_X6_isOpen, ⟨rfl, rfl⟩, ⟨by show 0 + 1 ≤ 2 + (d + 1); omega, by show 8 + (4 + 11) + 0 ≤ 48 + 25 * (d + 1); omega⟩⟩ mM_X6_117 mI_X6_isOpen mS_X6_isOpen hK hN hP hD hS hA [1] [0, 2] [1] [1, 0, 2] rfl rfl rfl ⟨by decide, by decide, by decide, by decide⟩ rfl 0 6 rfl rfl rfl hl.1 (Nat.le_of_ble_eq_true rfl) ⟨Nat.zero_le _, Nat.zero_le _⟩ dX6_addPlans_74 (fun H locs hP hD hS => ?_)
            refine lv_if_eq (tgt := 102) hx hb dX6_addPlans_77 (by decide) (fun c_5 => ?_) (fun c_5 => ?_)
            · have hf := oi_t hf c_5
              exact L102 (fun x3 x4 x5 v_tally v_open => fX6_addPlans_L53 F v_members v_clashes a1 a2 (fX6_addPlans F v_members v_clashes d) n x3 x4 x5 v_tally v_open) ih H locs ls x3 x4 x5 v_tally v_open hP hD hS (lv_sub hl [0, 1, 2, 3, 4] rfl) hf
            · have hf := oi_f hf c_5
              refine lv_aload_n hx hb dX6_addPlans_80 rfl (lv_at hl 0 rfl) ?_
              refine lv_iload_n hx hb dX6_addPlans_81 rfl (lv_at hl 1 rfl) ?_
              refine lv_iload_n hx hb dX6_addPlans_82 rfl (lv_at hl 2 rfl) ?_
              refine lv_iload hx hb dX6_addPlans_83 (lv_at hl 4 rfl) ?_
              refine lv_iload hx hb dX6_addPlans_85 (lv_at hl 3 rfl) ?_
              obtain ⟨o_6, ho_6, hf⟩ := ob_some hf
              refine ca_V (As := [.int a1, .int x3, .int x5, .int x4]) (rest := []) (wr := []) (wn := [(h0, .inr (6, [g_town, g_plumes, g_who, .int v_members, .ref h1, .ref h2, g_chosen, g_soonest, .int v_soonestLatest, .int v_soonestSum, .int v_tally])), (h1, .inl (q0, 600, .inl v_clashes)), (h2, .inl (q1, 30, .inl o_6.2))]) ⟨hx, hb, hml, hown, hts⟩ (ctX6_narrow l dC dI F H.size h0 h1 h2 q0 q1 (g_town) (g_plumes) (g_who) v_members (g_chosen) (g_soonest) v_soonestLatest v_soonestSum v_tally v_clashes v_open a1 x3 x5 x4 o_6 ho_6) ⟨mC_X6_narrow, mN_X6, md_X6_narrow, ⟨rfl, rfl⟩, ⟨by show 1 + 1 ≤ 2 + (d + 1); omega, by show 8 + (7 + 11) + 22 ≤ 48 + 25 * (d + 1); omega⟩⟩ mM_X6_121 mI_X6_narrow mS_X6_narrow hK hN hP hD hS hA [0, 1] [0, 1, 2] [] [0, 1, 2] rfl rfl rfl ⟨by decide, by decide, by decide, by decide⟩ rfl 0 6 rfl rfl rfl hl.1 (Nat.le_of_ble_eq_true rfl) ⟨Nat.zero_le _, Nat.zero_le _⟩ dX6_addPlans_87 (fun H locs hP hD hS => ?_)
              refine lv_if_eq (tgt := 102) hx hb dX6_addPlans_90 (by decide) (fun c_7 => ?_) (fun c_7 => ?_)
              · have hf := oi_t hf c_7
                exact L102 (fun x3 x4 x5 v_tally v_open => fX6_addPlans_L53 F v_members v_clashes a1 a2 (fX6_addPlans F v_members v_clashes d) n x3 x4 x5 v_tally v_open) ih H locs ls x3 x4 x5 v_tally o_6.2 hP hD hS (lv_sub hl [0, 1, 2, 3, 4] rfl) hf
              · have hf := oi_f hf c_7
                refine lv_aload_n hx hb dX6_addPlans_93 rfl (lv_at hl 0 rfl) ?_
                refine lv_iload_n hx hb dX6_addPlans_94 rfl (lv_at hl 1 rfl) ?_
                refine lv_iconst (v := 1) hx hb dX6_addPlans_95 (by decide) ?_
                refine lv_iadd hx hb dX6_addPlans_96 ?_
                refine lv_iload hx hb dX6_addPlans_97 (lv_at hl 3 rfl) ?_
                obtain ⟨o_8, ho_8, hf⟩ := ob_some hf
                refine ca_V (As := [.int (a1 + (1 : Int32)), .int x4]) (rest := []) (wr := []) (wn := [(h0, .inr (6, [g_town, g_plumes, g_who, .int v_members, .ref h1, .ref h2, g_chosen, g_soonest, .int v_soonestLatest, .int v_soonestSum, .int o_8.1])), (h1, .inl (q0, 600, .inl v_clashes)), (h2, .inl (q1, 30, .inl o_8.2))]) ⟨hx, hb, hml, hown, hts⟩ (ihR H.size v_tally o_6.2 (a1 + (1 : Int32)) x4 o_8 ho_8) ⟨mC_X6_addPlans, mN_X6, md_X6_addPlans, ⟨rfl, rfl⟩, ⟨by show 2 + d + 1 ≤ 2 + (d + 1); omega, by show 8 + (6 + 11) + (48 + 25 * d) ≤ 48 + 25 * (d + 1); omega⟩⟩ mM_X6_132 mI_X6_addPlans mS_X6_addPlans hK hN hP hD hS hA [0, 1] [0, 1, 2] [] [0, 1, 2] rfl rfl rfl ⟨by decide, by decide, by decide, by decide⟩ rfl 0 6 rfl rfl rfl hl.1 (Nat.le_of_ble_eq_true rfl) ⟨Nat.zero_le _, Nat.zero_le _⟩ dX6_addPlans_99 (fun H locs hP hD hS => ?_)
                exact L102 (fun x3 x4 x5 v_tally v_open => fX6_addPlans_L53 F v_members v_clashes a1 a2 (fX6_addPlans F v_members v_clashes d) n x3 x4 x5 v_tally v_open) ih H locs ls x3 x4 x5 o_8.1 o_8.2 hP hD hS (lv_sub hl [0, 1, 2, 3, 4] rfl) hf
    suffices K0 : ∀ (H : Heap) (locs : List Loc), va_P (dC, dI) vwCl [(h0, .inr (6, [g_town, g_plumes, g_who, .int v_members, .ref h1, .ref h2, g_chosen, g_soonest, .int v_soonestLatest, .int v_soonestSum, .int v_tally])), (h1, .inl (q0, 600, .inl v_clashes)), (h2, .inl (q1, 30, .inl v_open))] H → va_D A [(h0, .inr (6, [g_town, g_plumes, g_who, .int v_members, .ref h1, .ref h2, g_chosen, g_soonest, .int v_soonestLatest, .int v_soonestSum, .int v_tally])), (h1, .inl (q0, 600, .inl v_clashes)), (h2, .inl (q1, 30, .inl v_open))] → va_S A s.heap H locs → W p l e ({ frames := 2 + (d + 1), cells := 0, slots := 0, locals := 48 + 25 * (d + 1) } : Room) s m ([.ref h0, .int a1, .int a2] : List Value).toArray below meth c H locs 0 0 Q (F0 m 0 ls []) from K0 s.heap [] hP hD hS
    clear hP hD hS
    intro H locs hP hD hS
    have hf := (fX6_addPlans_s F v_members v_clashes d v_tally v_open a1 a2).symm.trans hf
    refine lv_iload_n hx hb dX6_addPlans_0 rfl (lv_at hl 2 rfl) ?_
    refine lv_if_eq (tgt := 9) hx hb dX6_addPlans_1 (by decide) (fun c_9 => ?_) (fun c_9 => ?_)
    · have hf := oi_t hf c_9
      exact hRet (v_tally, v_open) H locs ls 9 (Option.some.inj hf) hP hD hS dX6_addPlans_9
    · have hf := oi_f hf c_9
      refine lv_iload_n hx hb dX6_addPlans_4 rfl (lv_at hl 1 rfl) ?_
      refine lv_iconst (v := 5) hx hb dX6_addPlans_5 (by decide) ?_
      refine lv_icmp_lt (tgt := 10) hx hb dX6_addPlans_6 (by decide) (fun c_10 => ?_) (fun c_10 => ?_)
      · have hf := oi_t hf c_10
        refine lv_iload_n hx hb dX6_addPlans_10 rfl (lv_at hl 2 rfl) ?_
        obtain ⟨o_11, ho_11, hf⟩ := ob_some hf
        refine ca_S (As := [.int a2]) (rest := []) (wr := [(h0, .inr (6, [g_town, g_plumes, g_who, .int v_members, .ref h1, .ref h2, g_chosen, g_soonest, .int v_soonestLatest, .int v_soonestSum, .int v_tally])), (h1, .inl (q0, 600, .inl v_clashes)), (h2, .inl (q1, 30, .inl v_open))]) (wn := [(h0, .inr (6, [g_town, g_plumes, g_who, .int v_members, .ref h1, .ref h2, g_chosen, g_soonest, .int v_soonestLatest, .int v_soonestSum, .int v_tally])), (h1, .inl (q0, 600, .inl v_clashes)), (h2, .inl (q1, 30, .inl v_open))]) ⟨hx, hb, hml, hown, hts⟩ (ctX6_firstOf l dC dI F H.size a2 o_11 ho_11) ⟨mC_X6_firstOf, mN_X6, md_X6_firstOf, ⟨rfl, rfl⟩, ⟨by show 1 + 1 ≤ 2 + (d + 1); omega, by show 8 + (1 + 11) + 21 ≤ 48 + 25 * (d + 1); omega⟩⟩ mM_X6_114 mT_X6_firstOf hK hN hP hD hS hA [] [] [0, 1, 2] [0, 1, 2] rfl rfl rfl ⟨by decide, by decide, by decide, by decide⟩ rfl rfl hl.1 (Nat.le_of_ble_eq_true rfl) ⟨Nat.zero_le _, Nat.zero_le _⟩ dX6_addPlans_11 (fun H locs hP hD hS => ?_)
        refine lv_istore_n (lv' := [(3, .int o_11), (0, .ref h0), (1, .int a1), (2, .int a2)]) hx hb dX6_addPlans_14 rfl hl (by decide) rfl (fun ls hl => ?_)
        refine lv_iload_n hx hb dX6_addPlans_15 rfl (lv_at hl 3 rfl) ?_
        refine lv_iload_n hx hb dX6_addPlans_16 rfl (lv_at hl 3 rfl) ?_
        refine lv_iconst (v := 1) hx hb dX6_addPlans_17 (by decide) ?_
        refine lv_isub hx hb dX6_addPlans_18 ?_
        refine lv_iand hx hb dX6_addPlans_19 ?_
        refine lv_topi (fun x_12 ex_12 => ?_)
        have hf := ol_some hf ex_12
        refine lv_istore (lv' := [(4, .int x_12), (3, .int o_11), (0, .ref h0), (1, .int a1), (2, .int a2)]) hx hb dX6_addPlans_20 hl (by decide) rfl (fun ls hl => ?_)
        refine lv_iload hx hb dX6_addPlans_22 (lv_at hl 0 rfl) ?_
        refine lv_if_ne (tgt := 50) hx hb dX6_addPlans_24 (by decide) (fun c_13 => ?_) (fun c_13 => ?_)
        · have hf := oi_f hf c_13
          refine lv_iconst (v := 0) hx hb dX6_addPlans_50 (by decide) ?_
          refine lv_istore (lv' := [(5, .int (0 : Int32)), (4, .int x_12), (3, .int o_11), (0, .ref h0), (1, .int a1), (2, .int a2)]) hx hb dX6_addPlans_51 hl (by decide) rfl (fun ls hl => ?_)
          exact L53 F H locs ls o_11 x_12 (0 : Int32) v_tally v_open hP hD hS (lv_sub hl [3, 4, 2, 1, 0] rfl) hf
        · have hf := oi_t hf c_13
          refine lv_aload_n hx hb dX6_addPlans_27 rfl (lv_at hl 2 rfl) ?_
          refine lv_dup hx hb dX6_addPlans_28 rfl ?_
          refine va_get (D := (dC, dI)) (ci := 6) (v := .int v_tally) (C := RX6) (T := TX6) (N := 11) hx hb htb inG6 hown hK hP 0 rfl rfl 10 (by decide) (htb _ mF_X6_125) (fun _ h9 => h9) rfl dX6_addPlans_29 ?_
          refine lv_aload_n hx hb dX6_addPlans_32 rfl (lv_at hl 2 rfl) ?_
          refine va_get (D := (dC, dI)) (ci := 6) (v := .ref h2) (C := RX6) (T := TX6) (N := 11) hx hb htb inG6 hown hK hP 0 rfl rfl 5 (by decide) (htb _ mF_X6_18) (fun _ h9 => h9) rfl dX6_addPlans_33 ?_
          refine lv_iload_n hx hb dX6_addPlans_36 rfl (lv_at hl 3 rfl) ?_
          refine lv_iconst (v := 5) hx hb dX6_addPlans_37 (by decide) ?_
          refine lv_imul hx hb dX6_addPlans_38 ?_
          refine lv_iload_n hx hb dX6_addPlans_39 rfl (lv_at hl 1 rfl) ?_
          refine lv_iadd hx hb dX6_addPlans_40 ?_
          obtain ⟨b_14, hf⟩ := og_some hf
          refine va_iald hx hb hK hP 2 1 rfl rfl (vb_ok b_14) dX6_addPlans_41 ?_
          obtain ⟨o_15, ho_15, hf⟩ := ob_some hf
          refine ca_S (As := [.int (v_open ((a1 * (5 : Int32)) + o_11).toNatClampNeg)]) (rest := [.int v_tally, .ref h0]) (wr := [(h0, .inr (6, [g_town, g_plumes, g_who, .int v_members, .ref h1, .ref h2, g_chosen, g_soonest, .int v_soonestLatest, .int v_soonestSum, .int v_tally])), (h1, .inl (q0, 600, .inl v_clashes)), (h2, .inl (q1, 30, .inl v_open))]) (wn := [(h0, .inr (6, [g_town, g_plumes, g_who, .int v_members, .ref h1, .ref h2, g_chosen, g_soonest, .int v_soonestLatest, .int v_soonestSum, .int v_tally])), (h1, .inl (q0, 600, .inl v_clashes)), (h2, .inl (q1, 30, .inl v_open))]) ⟨hx, hb, hml, hown, hts⟩ (ctJ6_bitCount_0f7a4 l dC dI F H.size (v_open ((a1 * (5 : Int32)) + o_11).toNatClampNeg) o_15 ho_15) ⟨mC_J6_bitCount_0f7a4, mN_J6, md_J6_bitCount_0f7a4, ⟨rfl, rfl⟩, ⟨by show 0 + 1 ≤ 2 + (d + 1); omega, by show 8 + (1 + 11) + 0 ≤ 48 + 25 * (d + 1); omega⟩⟩ mM_X6_98 mT_J6_bitCount_0f7a4 hK hN hP hD hS hA [] [] [0, 1, 2] [0, 1, 2] rfl rfl rfl ⟨by decide, by decide, by decide, by decide⟩ rfl rfl hl.1 (Nat.le_of_ble_eq_true rfl) ⟨Nat.zero_le _, Nat.zero_le _⟩ dX6_addPlans_42 (fun H locs hP hD hS => ?_)
          refine lv_iadd hx hb dX6_addPlans_45 ?_
          refine lv_topi (fun x_16 ex_16 => ?_)
          have hf := ol_some hf ex_16
          refine va_put (D := (dC, dI)) (ci := 6) (v := .int x_16) (ty := .int) (C := RX6) (T := TX6) (N := 11) hx hb htb inG6 tyX6 tyX6_ok nmX6 hown hK hP hD hS 0 rfl rfl 10 (by decide) (htb _ mF_X6_125) (fun _ h9 => h9) rfl (by decide +kernel) rfl rfl (Nat.le_of_ble_eq_true rfl) dX6_addPlans_46 (fun H locs hP hD hS => ?_)
          have hP : va_P (dC, dI) vwCl [(h0, .inr (6, [g_town, g_plumes, g_who, .int v_members, .ref h1, .ref h2, g_chosen, g_soonest, .int v_soonestLatest, .int v_soonestSum, .int x_16])), (h1, .inl (q0, 600, .inl v_clashes)), (h2, .inl (q1, 30, .inl v_open))] H := hP
          have hD : va_D A [(h0, .inr (6, [g_town, g_plumes, g_who, .int v_members, .ref h1, .ref h2, g_chosen, g_soonest, .int v_soonestLatest, .int v_soonestSum, .int x_16])), (h1, .inl (q0, 600, .inl v_clashes)), (h2, .inl (q1, 30, .inl v_open))] := hD
          exact hRet (x_16, v_open) H locs ls 49 (Option.some.inj hf) hP hD hS dX6_addPlans_49
      · have hf := oi_f hf c_10
        exact hRet (v_tally, v_open) H locs ls 9 (Option.some.inj hf) hP hD hS dX6_addPlans_9
def fX6_seekSoonest_L118 (F : Nat) (v_members : Int32) (v_clashes : Nat → Int32) (a1 : Int32) (a2 : Int32) (a3 : Int32) (a4 : Int32) (rM : Int32 → Int32 → (Nat → Int32) → (Nat → Int32) → (Nat → Int32) → Int32 → Int32 → Int32 → Int32 → Option (Int32 × Int32 × (Nat → Int32) × (Nat → Int32) × (Nat → Int32))) (k33 : Int32 → Int32 → Int32 → Int32 → Int32 → (Nat → Int32) → (Nat → Int32) → (Nat → Int32) → Option (Int32 × Int32 × (Nat → Int32) × (Nat → Int32) × (Nat → Int32))) (x5 : Int32) (x6 : Int32) (x7 : Int32) (v_soonestLatest : Int32) (v_soonestSum : Int32) (v_chosen : Nat → Int32) (v_open : Nat → Int32) (v_soonest : Nat → Int32) : Option (Int32 × Int32 × (Nat → Int32) × (Nat → Int32) × (Nat → Int32)) := ol (x7 + 1) (fun x7_1 => k33 x5 x6 x7_1 v_soonestLatest v_soonestSum v_chosen v_open v_soonest)
def fX6_seekSoonest_L33 (F : Nat) (v_members : Int32) (v_clashes : Nat → Int32) (a1 : Int32) (a2 : Int32) (a3 : Int32) (a4 : Int32) (rM : Int32 → Int32 → (Nat → Int32) → (Nat → Int32) → (Nat → Int32) → Int32 → Int32 → Int32 → Int32 → Option (Int32 × Int32 × (Nat → Int32) × (Nat → Int32) × (Nat → Int32))) : Nat → Int32 → Int32 → Int32 → Int32 → Int32 → (Nat → Int32) → (Nat → Int32) → (Nat → Int32) → Option (Int32 × Int32 × (Nat → Int32) × (Nat → Int32) × (Nat → Int32))
  | 0, _, _, _, _, _, _, _, _ => none
  | n + 1, x5, x6, x7, v_soonestLatest, v_soonestSum, v_chosen, v_open, v_soonest => if (24 : Int32) ≤ x7 then (some (v_soonestLatest, v_soonestSum, v_chosen, v_open, v_soonest)) else (ob (fX6_isOpen F v_open a1 x5 x7) (fun o_3 => if o_3 = 0 then (fX6_seekSoonest_L118 F v_members v_clashes a1 a2 a3 a4 rM (fun x5 x6 x7 v_soonestLatest v_soonestSum v_chosen v_open v_soonest => fX6_seekSoonest_L33 F v_members v_clashes a1 a2 a3 a4 rM n x5 x6 x7 v_soonestLatest v_soonestSum v_chosen v_open v_soonest) x5 x6 x7 v_soonestLatest v_soonestSum v_chosen v_open v_soonest) else (ob (fX6_narrow F v_members v_clashes v_open a1 x5 x7 x6) (fun o_5 => if o_5.1 = 0 then (fX6_seekSoonest_L118 F v_members v_clashes a1 a2 a3 a4 rM (fun x5 x6 x7 v_soonestLatest v_soonestSum v_chosen v_open v_soonest => fX6_seekSoonest_L33 F v_members v_clashes a1 a2 a3 a4 rM n x5 x6 x7 v_soonestLatest v_soonestSum v_chosen v_open v_soonest) x5 x6 x7 v_soonestLatest v_soonestSum v_chosen o_5.2 v_soonest) else (ob (fX6_maySooner F v_members v_soonestLatest v_soonestSum o_5.2 (a1 + (1 : Int32)) x6 (if a3 < x7 then x7 else a3) (a4 + x7)) (fun o_7 => if o_7 = 0 then (fX6_seekSoonest_L118 F v_members v_clashes a1 a2 a3 a4 rM (fun x5 x6 x7 v_soonestLatest v_soonestSum v_chosen v_open v_soonest => fX6_seekSoonest_L33 F v_members v_clashes a1 a2 a3 a4 rM n x5 x6 x7 v_soonestLatest v_soonestSum v_chosen v_open v_soonest) x5 x6 x7 v_soonestLatest v_soonestSum v_chosen o_5.2 v_soonest) else (og (vb x5 5) (ol (upd v_chosen x5.toNatClampNeg x7) (fun v_chosen_10 => ob (rM v_soonestLatest v_soonestSum v_chosen_10 o_5.2 v_soonest (a1 + (1 : Int32)) x6 (if a3 < x7 then x7 else a3) (a4 + x7)) (fun o_11 => fX6_seekSoonest_L118 F v_members v_clashes a1 a2 a3 a4 rM (fun x5 x6 x7 v_soonestLatest v_soonestSum v_chosen v_open v_soonest => fX6_seekSoonest_L33 F v_members v_clashes a1 a2 a3 a4 rM n x5 x6 x7 v_soonestLatest v_soonestSum v_chosen v_open v_soonest) x5 x6 x7 o_11.1 o_11.2.1 o_11.2.2.1 o_11.2.2.2.1 o_11.2.2.2.2))))))))))
def fX6_seekSoonest_L9 (F : Nat) (v_members : Int32) (v_clashes : Nat → Int32) (a1 : Int32) (a2 : Int32) (a3 : Int32) (a4 : Int32) (rM : Int32 → Int32 → (Nat → Int32) → (Nat → Int32) → (Nat → Int32) → Int32 → Int32 → Int32 → Int32 → Option (Int32 × Int32 × (Nat → Int32) × (Nat → Int32) × (Nat → Int32))) (v_soonestLatest : Int32) (v_soonestSum : Int32) (v_chosen : Nat → Int32) (v_open : Nat → Int32) (v_soonest : Nat → Int32) : Option (Int32 × Int32 × (Nat → Int32) × (Nat → Int32) × (Nat → Int32)) := ob (fX6_keepIfSooner F v_soonestLatest v_soonestSum v_chosen v_soonest a3 a4) (fun o_12 => some (o_12.1, o_12.2.1, v_chosen, v_open, o_12.2.2))
def fX6_seekSoonest (F : Nat) (v_members : Int32) (v_clashes : Nat → Int32) : Nat → Int32 → Int32 → (Nat → Int32) → (Nat → Int32) → (Nat → Int32) → Int32 → Int32 → Int32 → Int32 → Option (Int32 × Int32 × (Nat → Int32) × (Nat → Int32) × (Nat → Int32))
  | 0, _, _, _, _, _, _, _, _, _ => none
  | d + 1, v_soonestLatest, v_soonestSum, v_chosen, v_open, v_soonest, a1, a2, a3, a4 => if (5 : Int32) ≤ a1 then (fX6_seekSoonest_L9 F v_members v_clashes a1 a2 a3 a4 (fX6_seekSoonest F v_members v_clashes d) v_soonestLatest v_soonestSum v_chosen v_open v_soonest) else (if a2 = 0 then (fX6_seekSoonest_L9 F v_members v_clashes a1 a2 a3 a4 (fX6_seekSoonest F v_members v_clashes d) v_soonestLatest v_soonestSum v_chosen v_open v_soonest) else (ob (fX6_firstOf F a2) (fun o_15 => ol (a2 &&& (a2 - (1 : Int32))) (fun x_16 => fX6_seekSoonest_L33 F v_members v_clashes a1 a2 a3 a4 (fX6_seekSoonest F v_members v_clashes d) F o_15 x_16 (0 : Int32) v_soonestLatest v_soonestSum v_chosen v_open v_soonest))))
theorem fX6_seekSoonest_s (F : Nat) (v_members : Int32) (v_clashes : Nat → Int32) (d : Nat) (v_soonestLatest : Int32) (v_soonestSum : Int32) (v_chosen : Nat → Int32) (v_open : Nat → Int32) (v_soonest : Nat → Int32) (a1 : Int32) (a2 : Int32) (a3 : Int32) (a4 : Int32) : fX6_seekSoonest F v_members v_clashes (d + 1) v_soonestLatest v_soonestSum v_chosen v_open v_soonest a1 a2 a3 a4 = if (5 : Int32) ≤ a1 then (fX6_seekSoonest_L9 F v_members v_clashes a1 a2 a3 a4 (fX6_seekSoonest F v_members v_clashes d) v_soonestLatest v_soonestSum v_chosen v_open v_soonest) else (if a2 = 0 then (fX6_seekSoonest_L9 F v_members v_clashes a1 a2 a3 a4 (fX6_seekSoonest F v_members v_clashes d) v_soonestLatest v_soonestSum v_chosen v_open v_soonest) else (ob (fX6_firstOf F a2) (fun o_15 => ol (a2 &&& (a2 - (1 : Int32))) (fun x_16 => fX6_seekSoonest_L33 F v_members v_clashes a1 a2 a3 a4 (fX6_seekSoonest F v_members v_clashes d) F o_15 x_16 (0 : Int32) v_soonestLatest v_soonestSum v_chosen v_open v_soonest)))) := rfl
set_option maxRecDepth 100000 in
set_option maxHeartbeats 4000000 in
theorem ctX6_seekSoonest (l : Launch) (dC : Nat → ClassId) (dI : Nat → Nat → Nat) (F : Nat) (h0 h1 h2 h3 h4 : Nat) (q0 q1 q2 q3 : ClassId) (g_town : Value) (g_plumes : Value) (g_who : Value) (v_members : Int32) (v_tally : Int32) (v_clashes : Nat → Int32) : ∀ (d sz : Nat) (v_soonestLatest : Int32) (v_soonestSum : Int32) (v_chosen : Nat → Int32) (v_open : Nat → Int32) (v_soonest : Nat → Int32) (a1 : Int32) (a2 : Int32) (a3 : Int32) (a4 : Int32) (out : Int32 × Int32 × (Nat → Int32) × (Nat → Int32) × (Nat → Int32)), fX6_seekSoonest F v_members v_clashes d v_soonestLatest v_soonestSum v_chosen v_open v_soonest a1 a2 a3 a4 = some out → cM l yX6_seekSoonest cX6_seekSoonest 8 none ({ frames := 2 + d, cells := 0, slots := 0, locals := 70 + 27 * d } : Room) (dC, dI) [(q0, .int), (q1, .int), (q2, .int), (q3, .int)] [(h0, .inr (6, [g_town, g_plumes, g_who, .int v_members, .ref h2, .ref h3, .ref h1, .ref h4, .int v_soonestLatest, .int v_soonestSum, .int v_tally])), (h1, .inl (q0, 5, .inl v_chosen)), (h2, .inl (q1, 600, .inl v_clashes)), (h3, .inl (q2, 30, .inl v_open)), (h4, .inl (q3, 5, .inl v_soonest))] [.ref h0, .int a1, .int a2, .int a3, .int a4] sz none [(h0, .inr (6, [g_town, g_plumes, g_who, .int v_members, .ref h2, .ref h3, .ref h1, .ref h4, .int out.1, .int out.2.1, .int v_tally])), (h1, .inl (q0, 5, .inl out.2.2.1)), (h2, .inl (q1, 600, .inl v_clashes)), (h3, .inl (q2, 30, .inl out.2.2.2.1)), (h4, .inl (q3, 5, .inl out.2.2.2.2))] := by
  intro d
  induction d with
  | zero =>
    intro sz v_soonestLatest v_soonestSum v_chosen v_open v_soonest a1 a2 a3 a4 out hf
    cases hf
  | succ d ihR =>
    intro sz v_soonestLatest v_soonestSum v_chosen v_open v_soonest a1 a2 a3 a4 out hf
    refine cM_V RX6 ⟨by decide, rfl⟩ (Nat.le_of_ble_eq_true rfl) ?_
    intro p e s m below meth c A Q ls hx hb hml hown hts hK hN hA hP hD hS hl hRet
    have htb : ∀ w ∈ lw_g, w.before ([.ref h0, .int a1, .int a2, .int a3, .int a4] : List Value).toArray s = true := fun w h => hts w (List.mem_cons_of_mem _ h)
    have hl : lv_has ls 8 [(0, .ref h0), (1, .int a1), (2, .int a2), (3, .int a3), (4, .int a4)] := hl
    have hRet : ∀ (o : Int32 × Int32 × (Nat → Int32) × (Nat → Int32) × (Nat → Int32)) (H : Heap) (locs : List Loc) (ls : Array Slot) (pc : Nat), o = out → va_P (dC, dI) vwCl [(h0, .inr (6, [g_town, g_plumes, g_who, .int v_members, .ref h2, .ref h3, .ref h1, .ref h4, .int o.1, .int o.2.1, .int v_tally])), (h1, .inl (q0, 5, .inl o.2.2.1)), (h2, .inl (q1, 600, .inl v_clashes)), (h3, .inl (q2, 30, .inl o.2.2.2.1)), (h4, .inl (q3, 5, .inl o.2.2.2.2))] H → va_D A [(h0, .inr (6, [g_town, g_plumes, g_who, .int v_members, .ref h2, .ref h3, .ref h1, .ref h4, .int o.1, .int o.2.1, .int v_tally])), (h1, .inl (q0, 5, .inl o.2.2.1)), (h2, .inl (q1, 600, .inl v_clashes)), (h3, .inl (q2, 30, .inl o.2.2.2.1)), (h4, .inl (q3, 5, .inl o.2.2.2.2))] → va_S A s.heap H locs → decode cX6_seekSoonest pc = .ok (.return_, 1) → W p l e ({ frames := 2 + (d + 1), cells := 0, slots := 0, locals := 70 + 27 * (d + 1) } : Room) s m ([.ref h0, .int a1, .int a2, .int a3, .int a4] : List Value).toArray below meth c H locs 0 0 Q (F0 m pc ls []) := fun o H locs ls pc ho => by subst ho; exact hRet H locs ls pc
    have L118 : ∀ (k33 : Int32 → Int32 → Int32 → Int32 → Int32 → (Nat → Int32) → (Nat → Int32) → (Nat → Int32) → Option (Int32 × Int32 × (Nat → Int32) × (Nat → Int32) × (Nat → Int32))) (hk33 : ∀ (H : Heap) (locs : List Loc) (ls : Array Slot) (x5 : Int32) (x6 : Int32) (x7 : Int32) (v_soonestLatest : Int32) (v_soonestSum : Int32) (v_chosen : Nat → Int32) (v_open : Nat → Int32) (v_soonest : Nat → Int32), va_P (dC, dI) vwCl [(h0, .inr (6, [g_town, g_plumes, g_who, .int v_members, .ref h2, .ref h3, .ref h1, .ref h4, .int v_soonestLatest, .int v_soonestSum, .int v_tally])), (h1, .inl (q0, 5, .inl v_chosen)), (h2, .inl (q1, 600, .inl v_clashes)), (h3, .inl (q2, 30, .inl v_open)), (h4, .inl (q3, 5, .inl v_soonest))] H → va_D A [(h0, .inr (6, [g_town, g_plumes, g_who, .int v_members, .ref h2, .ref h3, .ref h1, .ref h4, .int v_soonestLatest, .int v_soonestSum, .int v_tally])), (h1, .inl (q0, 5, .inl v_chosen)), (h2, .inl (q1, 600, .inl v_clashes)), (h3, .inl (q2, 30, .inl v_open)), (h4, .inl (q3, 5, .inl v_soonest))] → va_S A s.heap H locs → lv_has ls 8 [(0, .ref h0), (1, .int a1), (3, .int a3), (4, .int a4), (5, .int x5), (6, .int x6), (7, .int x7)] → k33 x5 x6 x7 v_soonestLatest v_soonestSum v_chosen v_open v_soonest = some out → W p l e ({ frames := 2 + (d + 1), cells := 0, slots := 0, locals := 70 + 27 * (d + 1) } : Room) s m ([.ref h0, .int a1, .int a2, .int a3, .int a4] : List Value).toArray below meth c H locs 0 0 Q (F0 m 33 ls [])), ∀ (H : Heap) (locs : List Loc) (ls : Array Slot) (x5 : Int32) (x6 : Int32) (x7 : Int32) (v_soonestLatest : Int32) (v_soonestSum : Int32) (v_chosen : Nat → Int32) (v_open : Nat → Int32) (v_soonest : Nat → Int32), va_P (dC, dI) vwCl [(h0, .inr (6, [g_town, g_plumes, g_who, .int v_members, .ref h2, .ref h3, .ref h1, .ref h4, .int v_soonestLatest, .int v_soonestSum, .int v_tally])), (h1, .inl (q0, 5, .inl v_chosen)), (h2, .inl (q1, 600, .inl v_clashes)), (h3, .inl (q2, 30, .inl v_open)), (h4, .inl (q3, 5, .inl v_soonest))] H → va_D A [(h0, .inr (6, [g_town, g_plumes, g_who, .int v_members, .ref h2, .ref h3, .ref h1, .ref h4, .int v_soonestLatest, .int v_soonestSum, .int v_tally])), (h1, .inl (q0, 5, .inl v_chosen)), (h2, .inl (q1, 600, .inl v_clashes)), (h3, .inl (q2, 30, .inl v_open)), (h4, .inl (q3, 5, .inl v_soonest))] → va_S A s.heap H locs → lv_has ls 8 [(0, .ref h0), (1, .int a1), (3, .int a3), (4, .int a4), (5, .int x5), (6, .int x6), (7, .int x7)] → fX6_seekSoonest_L118 F v_members v_clashes a1 a2 a3 a4 (fX6_seekSoonest F v_members v_clashes d) k33 x5 x6 x7 v_soonestLatest v_soonestSum v_chosen v_open v_soonest = some out → W p l e ({ frames := 2 + (d + 1), cells := 0, slots := 0, locals := 70 + 27 * (d + 1) } : Room) s m ([.ref h0, .int a1, .int a2, .int a3, .int a4] : List Value).toArray below meth c H locs 0 0 Q (F0 m 118 ls []) := by
      intro k33 hk33 H locs ls x5 x6 x7 v_soonestLatest v_soonestSum v_chosen v_open v_soonest hP hD hS hl hf
      unfold fX6_seekSoonest_L118 at hf
      obtain ⟨x7_1, ex7_1⟩ : ∃ y : Int32, y = x7 + 1 := ⟨_, rfl⟩
      refine lv_iinc (v := x7_1) (lv' := [(7, .int x7_1), (0, .ref h0), (1, .int a1), (3, .int a3), (4, .int a4), (5, .int x5), (6, .int x6)]) hx hb dX6_seekSoonest_118 hl (k := 6) rfl (by rw [ex7_1]; rfl) (by decide) rfl (fun ls hl => ?_)
      have hf := ol_some hf ex7_1
      refine lv_goto (tgt := 33) hx hb dX6_seekSoonest_121 (by decide) ?_
      exact hk33 H locs ls x5 x6 x7_1 v_soonestLatest v_soonestSum v_chosen v_open v_soonest hP hD hS (lv_sub hl [1, 2, 3, 4, 5, 6, 0] rfl) hf
    have L33 : ∀ (n : Nat), ∀ (H : Heap) (locs : List Loc) (ls : Array Slot) (x5 : Int32) (x6 : Int32) (x7 : Int32) (v_soonestLatest : Int32) (v_soonestSum : Int32) (v_chosen : Nat → Int32) (v_open : Nat → Int32) (v_soonest : Nat → Int32), va_P (dC, dI) vwCl [(h0, .inr (6, [g_town, g_plumes, g_who, .int v_members, .ref h2, .ref h3, .ref h1, .ref h4, .int v_soonestLatest, .int v_soonestSum, .int v_tally])), (h1, .inl (q0, 5, .inl v_chosen)), (h2, .inl (q1, 600, .inl v_clashes)), (h3, .inl (q2, 30, .inl v_open)), (h4, .inl (q3, 5, .inl v_soonest))] H → va_D A [(h0, .inr (6, [g_town, g_plumes, g_who, .int v_members, .ref h2, .ref h3, .ref h1, .ref h4, .int v_soonestLatest, .int v_soonestSum, .int v_tally])), (h1, .inl (q0, 5, .inl v_chosen)), (h2, .inl (q1, 600, .inl v_clashes)), (h3, .inl (q2, 30, .inl v_open)), (h4, .inl (q3, 5, .inl v_soonest))] → va_S A s.heap H locs → lv_has ls 8 [(0, .ref h0), (1, .int a1), (3, .int a3), (4, .int a4), (5, .int x5), (6, .int x6), (7, .int x7)] → fX6_seekSoonest_L33 F v_members v_clashes a1 a2 a3 a4 (fX6_seekSoonest F v_members v_clashes d) n x5 x6 x7 v_soonestLatest v_soonestSum v_chosen v_open v_soonest = some out → W p l e ({ frames := 2 + (d + 1), cells := 0, slots := 0, locals := 70 + 27 * (d + 1) } : Room) s m ([.ref h0, .int a1, .int a2, .int a3, .int a4] : List Value).toArray below meth c H locs 0 0 Q (F0 m 33 ls []) := by
      intro n
      induction n with
      | zero =>
        intro H locs ls x5 x6 x7 v_soonestLatest v_soonestSum v_chosen v_open v_soonest hP hD hS hl hf
        cases hf
      | succ n ih =>
        intro H locs ls x5 x6 x7 v_soonestLatest v_soonestSum v_chosen v_open v_soonest hP hD hS hl hf
        rw [fX6_seekSoonest_L33] at hf
        refine lv_iload hx hb dX6_seekSoonest_33 (lv_at hl 6 rfl) ?_
        refine lv_bipush (v := 24) hx hb dX6_seekSoonest_35 (by decide) ?_
        refine lv_icmp_ge (tgt := 124) hx hb dX6_seekSoonest_37 (by decide) (fun c_2 => ?_) (fun c_2 => ?_)
        · have hf := oi_t hf c_2
          exact hRet (v_soonestLatest, v_soonestSum, v_chosen, v_open, v_soonest) H locs ls 124 (Option.some.inj hf) hP hD hS dX6_seekSoonest_124
        · have hf := oi_f hf c_2
          refine lv_aload_n hx hb dX6_seekSoonest_40 rfl (lv_at hl 0 rfl) ?_
          refine lv_iload_n hx hb dX6_seekSoonest_41 rfl (lv_at hl 1 rfl) ?_
          refine lv_iload hx hb dX6_seekSoonest_42 (lv_at hl 4 rfl) ?_
          refine lv_iload hx hb dX6_seekSoonest_44 (lv_at hl 6 rfl) ?_
          obtain ⟨o_3, ho_3, hf⟩ := ob_some hf
          refine ca_V (As := [.int a1, .int x5, .int x7]) (rest := []) (wr := [(h1, .inl (q0, 5, .inl v_chosen)), (h2, .inl (q1, 600, .inl v_clashes)), (h4, .inl (q3, 5, .inl v_soonest))]) (wn := [(h0, .inr (6, [g_town, g_plumes, g_who, .int v_members, .ref h2, .ref h3, .ref h1, .ref h4, .int v_soonestLatest, .int v_soonestSum, .int v_tally])), (h1, .inl (q0, 5, .inl v_chosen)), (h2, .inl (q1, 600, .inl v_clashes)), (h3, .inl (q2, 30, .inl v_open)), (h4, .inl (q3, 5, .inl v_soonest))]) ⟨hx, hb, hml, hown, hts⟩ (ctX6_isOpen l dC dI F H.size h0 h3 q2 (g_town) (g_plumes) (g_who) v_members (.ref h2) (.ref h1) (.ref h4) v_soonestLatest v_soonestSum v_tally v_open a1 x5 x7 o_3 ho_3) ⟨mC_X6_isOpen, mN_X6, md_X6_isOpen, ⟨rfl, rfl⟩, ⟨by show 0 + 1 ≤ 2 + (d + 1); omega, by show 8 + (4 + 11) + 0 ≤ 70 + 27 * (d + 1); omega⟩⟩ mM_X6_117 mI_X6_isOpen mS_X6_isOpen hK hN hP hD hS hA [2] [0, 3] [1, 2, 4] [3, 0, 1, 4, 2] rfl rfl rfl ⟨by decide, by decide, by decide, by decide⟩ rfl 0 6 rfl rfl rfl hl.1 (Nat.le_of_ble_eq_true rfl) ⟨Nat.zero_le _, Nat.zero_le _⟩ dX6_seekSoonest_46 (fun H locs hP hD hS => ?_)
          refine lv_if_eq (tgt := 118) hx hb dX6_seekSoonest_49 (by decide) (fun c_4 => ?_) (fun c_4 => ?_)
          · have hf := oi_t hf c_4
            exact L118 (fun x5 x6 x7 v_soonestLatest v_soonestSum v_chosen v_open v_soonest => fX6_seekSoonest_L33 F v_members v_clashes a1 a2 a3 a4 (fX6_seekSoonest F v_members v_clashes d) n x5 x6 x7 v_soonestLatest v_soonestSum v_chosen v_open v_soonest) ih H locs ls x5 x6 x7 v_soonestLatest v_soonestSum v_chosen v_open v_soonest hP hD hS (lv_sub hl [0, 1, 2, 3, 4, 5, 6] rfl) hf
          · have hf := oi_f hf c_4
            refine lv_aload_n hx hb dX6_seekSoonest_52 rfl (lv_at hl 0 rfl) ?_
            refine lv_iload_n hx hb dX6_seekSoonest_53 rfl (lv_at hl 1 rfl) ?_
            refine lv_iload hx hb dX6_seekSoonest_54 (lv_at hl 4 rfl) ?_
            refine lv_iload hx hb dX6_seekSoonest_56 (lv_at hl 6 rfl) ?_
            refine lv_iload hx hb dX6_seekSoonest_58 (lv_at hl 5 rfl) ?_
            obtain ⟨o_5, ho_5, hf⟩ := ob_some hf
            refine ca_V (As := [.int a1, .int x5, .int x7, .int x6]) (rest := []) (wr := [(h1, .inl (q0, 5, .inl v_chosen)), (h4, .inl (q3, 5, .inl v_soonest))]) (wn := [(h0, .inr (6, [g_town, g_plumes, g_who, .int v_members, .ref h2, .ref h3, .ref h1, .ref h4, .int v_soonestLatest, .int v_soonestSum, .int v_tally])), (h1, .inl (q0, 5, .inl v_chosen)), (h2, .inl (q1, 600, .inl v_clashes)), (h3, .inl (q2, 30, .inl o_5.2)), (h4, .inl (q3, 5, .inl v_soonest))]) ⟨hx, hb, hml, hown, hts⟩ (ctX6_narrow l dC dI F H.size h0 h2 h3 q1 q2 (g_town) (g_plumes) (g_who) v_members (.ref h1) (.ref h4) v_soonestLatest v_soonestSum v_tally v_clashes v_open a1 x5 x7 x6 o_5 ho_5) ⟨mC_X6_narrow, mN_X6, md_X6_narrow, ⟨rfl, rfl⟩, ⟨by show 1 + 1 ≤ 2 + (d + 1); omega, by show 8 + (7 + 11) + 22 ≤ 70 + 27 * (d + 1); omega⟩⟩ mM_X6_121 mI_X6_narrow mS_X6_narrow hK hN hP hD hS hA [1, 2] [0, 2, 3] [1, 4] [2, 0, 3, 4, 1] rfl rfl rfl ⟨by decide, by decide, by decide, by decide⟩ rfl 0 6 rfl rfl rfl hl.1 (Nat.le_of_ble_eq_true rfl) ⟨Nat.zero_le _, Nat.zero_le _⟩ dX6_seekSoonest_60 (fun H locs hP hD hS => ?_)
            refine lv_if_eq (tgt := 118) hx hb dX6_seekSoonest_63 (by decide) (fun c_6 => ?_) (fun c_6 => ?_)
            · have hf := oi_t hf c_6
              exact L118 (fun x5 x6 x7 v_soonestLatest v_soonestSum v_chosen v_open v_soonest => fX6_seekSoonest_L33 F v_members v_clashes a1 a2 a3 a4 (fX6_seekSoonest F v_members v_clashes d) n x5 x6 x7 v_soonestLatest v_soonestSum v_chosen v_open v_soonest) ih H locs ls x5 x6 x7 v_soonestLatest v_soonestSum v_chosen o_5.2 v_soonest hP hD hS (lv_sub hl [0, 1, 2, 3, 4, 5, 6] rfl) hf
            · have hf := oi_f hf c_6
              refine lv_aload_n hx hb dX6_seekSoonest_66 rfl (lv_at hl 0 rfl) ?_
              refine lv_iload_n hx hb dX6_seekSoonest_67 rfl (lv_at hl 1 rfl) ?_
              refine lv_iconst (v := 1) hx hb dX6_seekSoonest_68 (by decide) ?_
              refine lv_iadd hx hb dX6_seekSoonest_69 ?_
              refine lv_iload hx hb dX6_seekSoonest_70 (lv_at hl 5 rfl) ?_
              refine lv_iload_n hx hb dX6_seekSoonest_72 rfl (lv_at hl 2 rfl) ?_
              refine lv_iload hx hb dX6_seekSoonest_73 (lv_at hl 6 rfl) ?_
              refine va_mmax hx hb (hml.trans hl.1.symm) hown (htb _ mM_X6_149) (htb _ mT_J9_max_7cf53) (htb _ mN_J9) (htb _ mC_J9_max_7cf53) (by show 1 ≤ 2 + (d + 1); omega) (by show 16 ≤ 70 + 27 * (d + 1); omega) (Nat.zero_le _) (Nat.zero_le _) dX6_seekSoonest_75 ?_
              refine lv_iload hx hb dX6_seekSoonest_78 (lv_at hl 3 rfl) ?_
              refine lv_iload hx hb dX6_seekSoonest_80 (lv_at hl 6 rfl) ?_
              refine lv_iadd hx hb dX6_seekSoonest_82 ?_
              obtain ⟨o_7, ho_7, hf⟩ := ob_some hf
              refine ca_V (As := [.int (a1 + (1 : Int32)), .int x6, .int (if a3 < x7 then x7 else a3), .int (a4 + x7)]) (rest := []) (wr := [(h1, .inl (q0, 5, .inl v_chosen)), (h2, .inl (q1, 600, .inl v_clashes)), (h4, .inl (q3, 5, .inl v_soonest))]) (wn := [(h0, .inr (6, [g_town, g_plumes, g_who, .int v_members, .ref h2, .ref h3, .ref h1, .ref h4, .int v_soonestLatest, .int v_soonestSum, .int v_tally])), (h1, .inl (q0, 5, .inl v_chosen)), (h2, .inl (q1, 600, .inl v_clashes)), (h3, .inl (q2, 30, .inl o_5.2)), (h4, .inl (q3, 5, .inl v_soonest))]) ⟨hx, hb, hml, hown, hts⟩ (ctX6_maySooner l dC dI F H.size h0 h3 q2 (g_town) (g_plumes) (g_who) v_members (.ref h2) (.ref h1) (.ref h4) v_soonestLatest v_soonestSum v_tally o_5.2 (a1 + (1 : Int32)) x6 (if a3 < x7 then x7 else a3) (a4 + x7) o_7 ho_7) ⟨mC_X6_maySooner, mN_X6, md_X6_maySooner, ⟨rfl, rfl⟩, ⟨by show 1 + 1 ≤ 2 + (d + 1); omega, by show 8 + (7 + 11) + 22 ≤ 70 + 27 * (d + 1); omega⟩⟩ mM_X6_152 mI_X6_maySooner mS_X6_maySooner hK hN hP hD hS hA [2] [0, 3] [1, 2, 4] [3, 0, 1, 4, 2] rfl rfl rfl ⟨by decide, by decide, by decide, by decide⟩ rfl 0 6 rfl rfl rfl hl.1 (Nat.le_of_ble_eq_true rfl) ⟨Nat.zero_le _, Nat.zero_le _⟩ dX6_seekSoonest_83 (fun H locs hP hD hS => ?_)
              refine lv_if_eq (tgt := 118) hx hb dX6_seekSoonest_86 (by decide) (fun c_8 => ?_) (fun c_8 => ?_)
              · have hf := oi_t hf c_8
                exact L118 (fun x5 x6 x7 v_soonestLatest v_soonestSum v_chosen v_open v_soonest => fX6_seekSoonest_L33 F v_members v_clashes a1 a2 a3 a4 (fX6_seekSoonest F v_members v_clashes d) n x5 x6 x7 v_soonestLatest v_soonestSum v_chosen v_open v_soonest) ih H locs ls x5 x6 x7 v_soonestLatest v_soonestSum v_chosen o_5.2 v_soonest hP hD hS (lv_sub hl [0, 1, 2, 3, 4, 5, 6] rfl) hf
              · have hf := oi_f hf c_8
                refine lv_aload_n hx hb dX6_seekSoonest_89 rfl (lv_at hl 0 rfl) ?_
                refine va_get (D := (dC, dI)) (ci := 6) (v := .ref h1) (C := RX6) (T := TX6) (N := 11) hx hb htb inG6 hown hK hP 0 rfl rfl 6 (by decide) (htb _ mF_X6_21) (fun _ h9 => h9) rfl dX6_seekSoonest_90 ?_
                refine lv_iload hx hb dX6_seekSoonest_93 (lv_at hl 4 rfl) ?_
                refine lv_iload hx hb dX6_seekSoonest_95 (lv_at hl 6 rfl) ?_
                obtain ⟨b_9, hf⟩ := og_some hf
                refine va_iast hx hb hK hP hD hS 1 0 rfl rfl (vb_ok b_9) dX6_seekSoonest_97 (fun H locs hP hD hS => ?_)
                generalize ev_chosen_10 : upd v_chosen x5.toNatClampNeg x7 = v_chosen_10 at hP hD
                have hf := ol_some hf ev_chosen_10.symm
                have hP : va_P (dC, dI) vwCl [(h0, .inr (6, [g_town, g_plumes, g_who, .int v_members, .ref h2, .ref h3, .ref h1, .ref h4, .int v_soonestLatest, .int v_soonestSum, .int v_tally])), (h1, .inl (q0, 5, .inl v_chosen_10)), (h2, .inl (q1, 600, .inl v_clashes)), (h3, .inl (q2, 30, .inl o_5.2)), (h4, .inl (q3, 5, .inl v_soonest))] H := hP
                have hD : va_D A [(h0, .inr (6, [g_town, g_plumes, g_who, .int v_members, .ref h2, .ref h3, .ref h1, .ref h4, .int v_soonestLatest, .int v_soonestSum, .int v_tally])), (h1, .inl (q0, 5, .inl v_chosen_10)), (h2, .inl (q1, 600, .inl v_clashes)), (h3, .inl (q2, 30, .inl o_5.2)), (h4, .inl (q3, 5, .inl v_soonest))] := hD
                refine lv_aload_n hx hb dX6_seekSoonest_98 rfl (lv_at hl 0 rfl) ?_
                refine lv_iload_n hx hb dX6_seekSoonest_99 rfl (lv_at hl 1 rfl) ?_
                refine lv_iconst (v := 1) hx hb dX6_seekSoonest_100 (by decide) ?_
                refine lv_iadd hx hb dX6_seekSoonest_101 ?_
                refine lv_iload hx hb dX6_seekSoonest_102 (lv_at hl 5 rfl) ?_
                refine lv_iload_n hx hb dX6_seekSoonest_104 rfl (lv_at hl 2 rfl) ?_
                refine lv_iload hx hb dX6_seekSoonest_105 (lv_at hl 6 rfl) ?_
                refine va_mmax hx hb (hml.trans hl.1.symm) hown (htb _ mM_X6_149) (htb _ mT_J9_max_7cf53) (htb _ mN_J9) (htb _ mC_J9_max_7cf53) (by show 1 ≤ 2 + (d + 1); omega) (by show 16 ≤ 70 + 27 * (d + 1); omega) (Nat.zero_le _) (Nat.zero_le _) dX6_seekSoonest_107 ?_
                refine lv_iload hx hb dX6_seekSoonest_110 (lv_at hl 3 rfl) ?_
                refine lv_iload hx hb dX6_seekSoonest_112 (lv_at hl 6 rfl) ?_
                refine lv_iadd hx hb dX6_seekSoonest_114 ?_
                obtain ⟨o_11, ho_11, hf⟩ := ob_some hf
                refine ca_V (As := [.int (a1 + (1 : Int32)), .int x6, .int (if a3 < x7 then x7 else a3), .int (a4 + x7)]) (rest := []) (wr := []) (wn := [(h0, .inr (6, [g_town, g_plumes, g_who, .int v_members, .ref h2, .ref h3, .ref h1, .ref h4, .int o_11.1, .int o_11.2.1, .int v_tally])), (h1, .inl (q0, 5, .inl o_11.2.2.1)), (h2, .inl (q1, 600, .inl v_clashes)), (h3, .inl (q2, 30, .inl o_11.2.2.2.1)), (h4, .inl (q3, 5, .inl o_11.2.2.2.2))]) ⟨hx, hb, hml, hown, hts⟩ (ihR H.size v_soonestLatest v_soonestSum v_chosen_10 o_5.2 v_soonest (a1 + (1 : Int32)) x6 (if a3 < x7 then x7 else a3) (a4 + x7) o_11 ho_11) ⟨mC_X6_seekSoonest, mN_X6, md_X6_seekSoonest, ⟨rfl, rfl⟩, ⟨by show 2 + d + 1 ≤ 2 + (d + 1); omega, by show 8 + (8 + 11) + (70 + 27 * d) ≤ 70 + 27 * (d + 1); omega⟩⟩ mM_X6_142 mI_X6_seekSoonest mS_X6_seekSoonest hK hN hP hD hS hA [0, 1, 2, 3] [0, 1, 2, 3, 4] [] [0, 1, 2, 3, 4] rfl rfl rfl ⟨by decide, by decide, by decide, by decide⟩ rfl 0 6 rfl rfl rfl hl.1 (Nat.le_of_ble_eq_true rfl) ⟨Nat.zero_le _, Nat.zero_le _⟩ dX6_seekSoonest_115 (fun H locs hP hD hS => ?_)
                exact L118 (fun x5 x6 x7 v_soonestLatest v_soonestSum v_chosen v_open v_soonest => fX6_seekSoonest_L33 F v_members v_clashes a1 a2 a3 a4 (fX6_seekSoonest F v_members v_clashes d) n x5 x6 x7 v_soonestLatest v_soonestSum v_chosen v_open v_soonest) ih H locs ls x5 x6 x7 o_11.1 o_11.2.1 o_11.2.2.1 o_11.2.2.2.1 o_11.2.2.2.2 hP hD hS (lv_sub hl [0, 1, 2, 3, 4, 5, 6] rfl) hf
    have L9 : ∀ (H : Heap) (locs : List Loc) (ls : Array Slot) (v_soonestLatest : Int32) (v_soonestSum : Int32) (v_chosen : Nat → Int32) (v_open : Nat → Int32) (v_soonest : Nat → Int32), va_P (dC, dI) vwCl [(h0, .inr (6, [g_town, g_plumes, g_who, .int v_members, .ref h2, .ref h3, .ref h1, .ref h4, .int v_soonestLatest, .int v_soonestSum, .int v_tally])), (h1, .inl (q0, 5, .inl v_chosen)), (h2, .inl (q1, 600, .inl v_clashes)), (h3, .inl (q2, 30, .inl v_open)), (h4, .inl (q3, 5, .inl v_soonest))] H → va_D A [(h0, .inr (6, [g_town, g_plumes, g_who, .int v_members, .ref h2, .ref h3, .ref h1, .ref h4, .int v_soonestLatest, .int v_soonestSum, .int v_tally])), (h1, .inl (q0, 5, .inl v_chosen)), (h2, .inl (q1, 600, .inl v_clashes)), (h3, .inl (q2, 30, .inl v_open)), (h4, .inl (q3, 5, .inl v_soonest))] → va_S A s.heap H locs → lv_has ls 8 [(0, .ref h0), (3, .int a3), (4, .int a4)] → fX6_seekSoonest_L9 F v_members v_clashes a1 a2 a3 a4 (fX6_seekSoonest F v_members v_clashes d) v_soonestLatest v_soonestSum v_chosen v_open v_soonest = some out → W p l e ({ frames := 2 + (d + 1), cells := 0, slots := 0, locals := 70 + 27 * (d + 1) } : Room) s m ([.ref h0, .int a1, .int a2, .int a3, .int a4] : List Value).toArray below meth c H locs 0 0 Q (F0 m 9 ls []) := by
      intro H locs ls v_soonestLatest v_soonestSum v_chosen v_open v_soonest hP hD hS hl hf
      unfold fX6_seekSoonest_L9 at hf
      refine lv_aload_n hx hb dX6_seekSoonest_9 rfl (lv_at hl 0 rfl) ?_
      refine lv_iload_n hx hb dX6_seekSoonest_10 rfl (lv_at hl 1 rfl) ?_
      refine lv_iload hx hb dX6_seekSoonest_11 (lv_at hl 2 rfl) ?_
      obtain ⟨o_12, ho_12, hf⟩ := ob_some hf
      refine ca_V (As := [.int a3, .int a4]) (rest := []) (wr := [(h2, .inl (q1, 600, .inl v_clashes)), (h3, .inl (q2, 30, .inl v_open))]) (wn := [(h0, .inr (6, [g_town, g_plumes, g_who, .int v_members, .ref h2, .ref h3, .ref h1, .ref h4, .int o_12.1, .int o_12.2.1, .int v_tally])), (h1, .inl (q0, 5, .inl v_chosen)), (h2, .inl (q1, 600, .inl v_clashes)), (h3, .inl (q2, 30, .inl v_open)), (h4, .inl (q3, 5, .inl o_12.2.2))]) ⟨hx, hb, hml, hown, hts⟩ (ctX6_keepIfSooner l dC dI F H.size h0 h1 h4 q0 q3 (g_town) (g_plumes) (g_who) v_members (.ref h2) (.ref h3) v_soonestLatest v_soonestSum v_tally v_chosen v_soonest a3 a4 o_12 ho_12) ⟨mC_X6_keepIfSooner, mN_X6, md_X6_keepIfSooner, ⟨rfl, rfl⟩, ⟨by show 1 + 1 ≤ 2 + (d + 1); omega, by show 8 + (3 + 11) + 48 ≤ 70 + 27 * (d + 1); omega⟩⟩ mM_X6_146 mI_X6_keepIfSooner mS_X6_keepIfSooner hK hN hP hD hS hA [0, 3] [0, 1, 4] [2, 3] [2, 3, 0, 1, 4] rfl rfl rfl ⟨by decide, by decide, by decide, by decide⟩ rfl 0 6 rfl rfl rfl hl.1 (Nat.le_of_ble_eq_true rfl) ⟨Nat.zero_le _, Nat.zero_le _⟩ dX6_seekSoonest_13 (fun H locs hP hD hS => ?_)
      exact hRet (o_12.1, o_12.2.1, v_chosen, v_open, o_12.2.2) H locs ls 16 (Option.some.inj hf) hP hD hS dX6_seekSoonest_16
    suffices K0 : ∀ (H : Heap) (locs : List Loc), va_P (dC, dI) vwCl [(h0, .inr (6, [g_town, g_plumes, g_who, .int v_members, .ref h2, .ref h3, .ref h1, .ref h4, .int v_soonestLatest, .int v_soonestSum, .int v_tally])), (h1, .inl (q0, 5, .inl v_chosen)), (h2, .inl (q1, 600, .inl v_clashes)), (h3, .inl (q2, 30, .inl v_open)), (h4, .inl (q3, 5, .inl v_soonest))] H → va_D A [(h0, .inr (6, [g_town, g_plumes, g_who, .int v_members, .ref h2, .ref h3, .ref h1, .ref h4, .int v_soonestLatest, .int v_soonestSum, .int v_tally])), (h1, .inl (q0, 5, .inl v_chosen)), (h2, .inl (q1, 600, .inl v_clashes)), (h3, .inl (q2, 30, .inl v_open)), (h4, .inl (q3, 5, .inl v_soonest))] → va_S A s.heap H locs → W p l e ({ frames := 2 + (d + 1), cells := 0, slots := 0, locals := 70 + 27 * (d + 1) } : Room) s m ([.ref h0, .int a1, .int a2, .int a3, .int a4] : List Value).toArray below meth c H locs 0 0 Q (F0 m 0 ls []) from K0 s.heap [] hP hD hS
    clear hP hD hS
    intro H locs hP hD hS
    have hf := (fX6_seekSoonest_s F v_members v_clashes d v_soonestLatest v_soonestSum v_chosen v_open v_soonest a1 a2 a3 a4).symm.trans hf
    refine lv_iload_n hx hb dX6_seekSoonest_0 rfl (lv_at hl 1 rfl) ?_
    refine lv_iconst (v := 5) hx hb dX6_seekSoonest_1 (by decide) ?_
    refine lv_icmp_ge (tgt := 9) hx hb dX6_seekSoonest_2 (by decide) (fun c_13 => ?_) (fun c_13 => ?_)
    · have hf := oi_t hf c_13
      exact L9 H locs ls v_soonestLatest v_soonestSum v_chosen v_open v_soonest hP hD hS (lv_sub hl [0, 3, 4] rfl) hf
    · have hf := oi_f hf c_13
      refine lv_iload_n hx hb dX6_seekSoonest_5 rfl (lv_at hl 2 rfl) ?_
      refine lv_if_ne (tgt := 17) hx hb dX6_seekSoonest_6 (by decide) (fun c_14 => ?_) (fun c_14 => ?_)
      · have hf := oi_f hf c_14
        refine lv_iload_n hx hb dX6_seekSoonest_17 rfl (lv_at hl 2 rfl) ?_
        obtain ⟨o_15, ho_15, hf⟩ := ob_some hf
        refine ca_S (As := [.int a2]) (rest := []) (wr := [(h0, .inr (6, [g_town, g_plumes, g_who, .int v_members, .ref h2, .ref h3, .ref h1, .ref h4, .int v_soonestLatest, .int v_soonestSum, .int v_tally])), (h1, .inl (q0, 5, .inl v_chosen)), (h2, .inl (q1, 600, .inl v_clashes)), (h3, .inl (q2, 30, .inl v_open)), (h4, .inl (q3, 5, .inl v_soonest))]) (wn := [(h0, .inr (6, [g_town, g_plumes, g_who, .int v_members, .ref h2, .ref h3, .ref h1, .ref h4, .int v_soonestLatest, .int v_soonestSum, .int v_tally])), (h1, .inl (q0, 5, .inl v_chosen)), (h2, .inl (q1, 600, .inl v_clashes)), (h3, .inl (q2, 30, .inl v_open)), (h4, .inl (q3, 5, .inl v_soonest))]) ⟨hx, hb, hml, hown, hts⟩ (ctX6_firstOf l dC dI F H.size a2 o_15 ho_15) ⟨mC_X6_firstOf, mN_X6, md_X6_firstOf, ⟨rfl, rfl⟩, ⟨by show 1 + 1 ≤ 2 + (d + 1); omega, by show 8 + (1 + 11) + 21 ≤ 70 + 27 * (d + 1); omega⟩⟩ mM_X6_114 mT_X6_firstOf hK hN hP hD hS hA [] [] [0, 1, 2, 3, 4] [0, 1, 2, 3, 4] rfl rfl rfl ⟨by decide, by decide, by decide, by decide⟩ rfl rfl hl.1 (Nat.le_of_ble_eq_true rfl) ⟨Nat.zero_le _, Nat.zero_le _⟩ dX6_seekSoonest_18 (fun H locs hP hD hS => ?_)
        refine lv_istore (lv' := [(5, .int o_15), (0, .ref h0), (1, .int a1), (2, .int a2), (3, .int a3), (4, .int a4)]) hx hb dX6_seekSoonest_21 hl (by decide) rfl (fun ls hl => ?_)
        refine lv_iload_n hx hb dX6_seekSoonest_23 rfl (lv_at hl 3 rfl) ?_
        refine lv_iload_n hx hb dX6_seekSoonest_24 rfl (lv_at hl 3 rfl) ?_
        refine lv_iconst (v := 1) hx hb dX6_seekSoonest_25 (by decide) ?_
        refine lv_isub hx hb dX6_seekSoonest_26 ?_
        refine lv_iand hx hb dX6_seekSoonest_27 ?_
        refine lv_topi (fun x_16 ex_16 => ?_)
        have hf := ol_some hf ex_16
        refine lv_istore (lv' := [(6, .int x_16), (5, .int o_15), (0, .ref h0), (1, .int a1), (2, .int a2), (3, .int a3), (4, .int a4)]) hx hb dX6_seekSoonest_28 hl (by decide) rfl (fun ls hl => ?_)
        refine lv_iconst (v := 0) hx hb dX6_seekSoonest_30 (by decide) ?_
        refine lv_istore (lv' := [(7, .int (0 : Int32)), (6, .int x_16), (5, .int o_15), (0, .ref h0), (1, .int a1), (2, .int a2), (3, .int a3), (4, .int a4)]) hx hb dX6_seekSoonest_31 hl (by decide) rfl (fun ls hl => ?_)
        exact L33 F H locs ls o_15 x_16 (0 : Int32) v_soonestLatest v_soonestSum v_chosen v_open v_soonest hP hD hS (lv_sub hl [3, 4, 6, 7, 2, 1, 0] rfl) hf
      · have hf := oi_t hf c_14
        exact L9 H locs ls v_soonestLatest v_soonestSum v_chosen v_open v_soonest hP hD hS (lv_sub hl [0, 3, 4] rfl) hf
def fX6_shutSet_L41 (F : Nat) (v_members : Int32) (v_clashes : Nat → Int32) (k2 : Int32 → (Nat → Int32) → Option (Int32 × (Nat → Int32))) (k12 : Int32 → Int32 → (Nat → Int32) → Option (Int32 × (Nat → Int32))) (x1 : Int32) (x2 : Int32) (v_open : Nat → Int32) : Option (Int32 × (Nat → Int32)) := ol (x2 + 1) (fun x2_1 => k12 x1 x2_1 v_open)
def fX6_shutSet_L12 (F : Nat) (v_members : Int32) (v_clashes : Nat → Int32) (k2 : Int32 → (Nat → Int32) → Option (Int32 × (Nat → Int32))) : Nat → Int32 → Int32 → (Nat → Int32) → Option (Int32 × (Nat → Int32))
  | 0, _, _, _ => none
  | n + 1, x1, x2, v_open => if ((1 : Int32) <<< (v_members &&& 31)) ≤ x2 then (ol (x1 + 1) (fun x1_3 => k2 x1_3 v_open)) else (ob (fJ6_bitCount_0f7a4 F x2) (fun o_4 => if o_4 = x1 then (ob (fX6_canLight F v_members v_clashes 8 v_open (0 : Int32) x2) (fun o_6 => if o_6.1 = 0 then (some (x2, o_6.2)) else (fX6_shutSet_L41 F v_members v_clashes k2 (fun x1 x2 v_open => fX6_shutSet_L12 F v_members v_clashes k2 n x1 x2 v_open) x1 x2 o_6.2))) else (fX6_shutSet_L41 F v_members v_clashes k2 (fun x1 x2 v_open => fX6_shutSet_L12 F v_members v_clashes k2 n x1 x2 v_open) x1 x2 v_open)))
def fX6_shutSet_L2 (F : Nat) (v_members : Int32) (v_clashes : Nat → Int32) : Nat → Int32 → (Nat → Int32) → Option (Int32 × (Nat → Int32))
  | 0, _, _ => none
  | n + 1, x1, v_open => if v_members < x1 then (some ((0 : Int32), v_open)) else (fX6_shutSet_L12 F v_members v_clashes (fun x1 v_open => fX6_shutSet_L2 F v_members v_clashes n x1 v_open) F x1 (1 : Int32) v_open)
def fX6_shutSet (F : Nat) (v_members : Int32) (v_clashes : Nat → Int32) (v_open : Nat → Int32)  : Option (Int32 × (Nat → Int32)) := fX6_shutSet_L2 F v_members v_clashes F (1 : Int32) v_open
set_option maxRecDepth 100000 in
set_option maxHeartbeats 4000000 in
theorem ctX6_shutSet (l : Launch) (dC : Nat → ClassId) (dI : Nat → Nat → Nat) (F sz : Nat) (h0 h1 h2 : Nat) (q0 q1 : ClassId) (g_town : Value) (g_plumes : Value) (g_who : Value) (v_members : Int32) (g_chosen : Value) (g_soonest : Value) (v_soonestLatest : Int32) (v_soonestSum : Int32) (v_tally : Int32) (v_clashes : Nat → Int32) (v_open : Nat → Int32)  (out : Int32 × (Nat → Int32)) (hf : fX6_shutSet F v_members v_clashes v_open = some out)  : cM l yX6_shutSet cX6_shutSet 3 (some .int) ({ frames := 11, cells := 0, slots := 0, locals := 273 } : Room) (dC, dI) [(q0, .int), (q1, .int)] [(h0, .inr (6, [g_town, g_plumes, g_who, .int v_members, .ref h1, .ref h2, g_chosen, g_soonest, .int v_soonestLatest, .int v_soonestSum, .int v_tally])), (h1, .inl (q0, 600, .inl v_clashes)), (h2, .inl (q1, 30, .inl v_open))] [.ref h0] sz (some (.int out.1)) [(h0, .inr (6, [g_town, g_plumes, g_who, .int v_members, .ref h1, .ref h2, g_chosen, g_soonest, .int v_soonestLatest, .int v_soonestSum, .int v_tally])), (h1, .inl (q0, 600, .inl v_clashes)), (h2, .inl (q1, 30, .inl out.2))] := by
  refine cM_I RX6 ⟨by decide, rfl⟩ (Nat.le_of_ble_eq_true rfl) ?_
  intro p e s m below meth c A Q ls hx hb hml hown hts hK hN hA hP hD hS hl hRet
  have htb : ∀ w ∈ lw_g, w.before ([.ref h0] : List Value).toArray s = true := fun w h => hts w (List.mem_cons_of_mem _ h)
  have hl : lv_has ls 3 [(0, .ref h0)] := hl
  have hRet : ∀ (o : Int32 × (Nat → Int32)) (H : Heap) (locs : List Loc) (ls : Array Slot) (pc : Nat), o = out → va_P (dC, dI) vwCl [(h0, .inr (6, [g_town, g_plumes, g_who, .int v_members, .ref h1, .ref h2, g_chosen, g_soonest, .int v_soonestLatest, .int v_soonestSum, .int v_tally])), (h1, .inl (q0, 600, .inl v_clashes)), (h2, .inl (q1, 30, .inl o.2))] H → va_D A [(h0, .inr (6, [g_town, g_plumes, g_who, .int v_members, .ref h1, .ref h2, g_chosen, g_soonest, .int v_soonestLatest, .int v_soonestSum, .int v_tally])), (h1, .inl (q0, 600, .inl v_clashes)), (h2, .inl (q1, 30, .inl o.2))] → va_S A s.heap H locs → narrow .int (.int o.1) = .int o.1 → decode cX6_shutSet pc = .ok (.ireturn, 1) → W p l e ({ frames := 11, cells := 0, slots := 0, locals := 273 } : Room) s m ([.ref h0] : List Value).toArray below meth c H locs 0 0 Q (F0 m pc ls [.int o.1]) := fun o H locs ls pc ho => by subst ho; exact hRet H locs ls pc
  have L41 : ∀ (k2 : Int32 → (Nat → Int32) → Option (Int32 × (Nat → Int32))) (hk2 : ∀ (H : Heap) (locs : List Loc) (ls : Array Slot) (x1 : Int32) (v_open : Nat → Int32), va_P (dC, dI) vwCl [(h0, .inr (6, [g_town, g_plumes, g_who, .int v_members, .ref h1, .ref h2, g_chosen, g_soonest, .int v_soonestLatest, .int v_soonestSum, .int v_tally])), (h1, .inl (q0, 600, .inl v_clashes)), (h2, .inl (q1, 30, .inl v_open))] H → va_D A [(h0, .inr (6, [g_town, g_plumes, g_who, .int v_members, .ref h1, .ref h2, g_chosen, g_soonest, .int v_soonestLatest, .int v_soonestSum, .int v_tally])), (h1, .inl (q0, 600, .inl v_clashes)), (h2, .inl (q1, 30, .inl v_open))] → va_S A s.heap H locs → lv_has ls 3 [(0, .ref h0), (1, .int x1)] → k2 x1 v_open = some out → W p l e ({ frames := 11, cells := 0, slots := 0, locals := 273 } : Room) s m ([.ref h0] : List Value).toArray below meth c H locs 0 0 Q (F0 m 2 ls [])), ∀ (k12 : Int32 → Int32 → (Nat → Int32) → Option (Int32 × (Nat → Int32))) (hk12 : ∀ (H : Heap) (locs : List Loc) (ls : Array Slot) (x1 : Int32) (x2 : Int32) (v_open : Nat → Int32), va_P (dC, dI) vwCl [(h0, .inr (6, [g_town, g_plumes, g_who, .int v_members, .ref h1, .ref h2, g_chosen, g_soonest, .int v_soonestLatest, .int v_soonestSum, .int v_tally])), (h1, .inl (q0, 600, .inl v_clashes)), (h2, .inl (q1, 30, .inl v_open))] H → va_D A [(h0, .inr (6, [g_town, g_plumes, g_who, .int v_members, .ref h1, .ref h2, g_chosen, g_soonest, .int v_soonestLatest, .int v_soonestSum, .int v_tally])), (h1, .inl (q0, 600, .inl v_clashes)), (h2, .inl (q1, 30, .inl v_open))] → va_S A s.heap H locs → lv_has ls 3 [(0, .ref h0), (1, .int x1), (2, .int x2)] → k12 x1 x2 v_open = some out → W p l e ({ frames := 11, cells := 0, slots := 0, locals := 273 } : Room) s m ([.ref h0] : List Value).toArray below meth c H locs 0 0 Q (F0 m 12 ls [])), ∀ (H : Heap) (locs : List Loc) (ls : Array Slot) (x1 : Int32) (x2 : Int32) (v_open : Nat → Int32), va_P (dC, dI) vwCl [(h0, .inr (6, [g_town, g_plumes, g_who, .int v_members, .ref h1, .ref h2, g_chosen, g_soonest, .int v_soonestLatest, .int v_soonestSum, .int v_tally])), (h1, .inl (q0, 600, .inl v_clashes)), (h2, .inl (q1, 30, .inl v_open))] H → va_D A [(h0, .inr (6, [g_town, g_plumes, g_who, .int v_members, .ref h1, .ref h2, g_chosen, g_soonest, .int v_soonestLatest, .int v_soonestSum, .int v_tally])), (h1, .inl (q0, 600, .inl v_clashes)), (h2, .inl (q1, 30, .inl v_open))] → va_S A s.heap H locs → lv_has ls 3 [(0, .ref h0), (1, .int x1), (2, .int x2)] → fX6_shutSet_L41 F v_members v_clashes k2 k12 x1 x2 v_open = some out → W p l e ({ frames := 11, cells := 0, slots := 0, locals := 273 } : Room) s m ([.ref h0] : List Value).toArray below meth c H locs 0 0 Q (F0 m 41 ls []) := by
    intro k2 hk2 k12 hk12 H locs ls x1 x2 v_open hP hD hS hl hf
    unfold fX6_shutSet_L41 at hf
    obtain ⟨x2_1, ex2_1⟩ : ∃ y : Int32, y = x2 + 1 := ⟨_, rfl⟩
    refine lv_iinc (v := x2_1) (lv' := [(2, .int x2_1), (0, .ref h0), (1, .int x1)]) hx hb dX6_shutSet_41 hl (k := 2) rfl (by rw [ex2_1]; rfl) (by decide) rfl (fun ls hl => ?_)
    have hf := ol_some hf ex2_1
    refine lv_goto (tgt := 12) hx hb dX6_shutSet_44 (by decide) ?_
    exact hk12 H locs ls x1 x2_1 v_open hP hD hS (lv_sub hl [1, 2, 0] rfl) hf
  have L12 : ∀ (k2 : Int32 → (Nat → Int32) → Option (Int32 × (Nat → Int32))) (hk2 : ∀ (H : Heap) (locs : List Loc) (ls : Array Slot) (x1 : Int32) (v_open : Nat → Int32), va_P (dC, dI) vwCl [(h0, .inr (6, [g_town, g_plumes, g_who, .int v_members, .ref h1, .ref h2, g_chosen, g_soonest, .int v_soonestLatest, .int v_soonestSum, .int v_tally])), (h1, .inl (q0, 600, .inl v_clashes)), (h2, .inl (q1, 30, .inl v_open))] H → va_D A [(h0, .inr (6, [g_town, g_plumes, g_who, .int v_members, .ref h1, .ref h2, g_chosen, g_soonest, .int v_soonestLatest, .int v_soonestSum, .int v_tally])), (h1, .inl (q0, 600, .inl v_clashes)), (h2, .inl (q1, 30, .inl v_open))] → va_S A s.heap H locs → lv_has ls 3 [(0, .ref h0), (1, .int x1)] → k2 x1 v_open = some out → W p l e ({ frames := 11, cells := 0, slots := 0, locals := 273 } : Room) s m ([.ref h0] : List Value).toArray below meth c H locs 0 0 Q (F0 m 2 ls [])), ∀ (n : Nat), ∀ (H : Heap) (locs : List Loc) (ls : Array Slot) (x1 : Int32) (x2 : Int32) (v_open : Nat → Int32), va_P (dC, dI) vwCl [(h0, .inr (6, [g_town, g_plumes, g_who, .int v_members, .ref h1, .ref h2, g_chosen, g_soonest, .int v_soonestLatest, .int v_soonestSum, .int v_tally])), (h1, .inl (q0, 600, .inl v_clashes)), (h2, .inl (q1, 30, .inl v_open))] H → va_D A [(h0, .inr (6, [g_town, g_plumes, g_who, .int v_members, .ref h1, .ref h2, g_chosen, g_soonest, .int v_soonestLatest, .int v_soonestSum, .int v_tally])), (h1, .inl (q0, 600, .inl v_clashes)), (h2, .inl (q1, 30, .inl v_open))] → va_S A s.heap H locs → lv_has ls 3 [(0, .ref h0), (1, .int x1), (2, .int x2)] → fX6_shutSet_L12 F v_members v_clashes k2 n x1 x2 v_open = some out → W p l e ({ frames := 11, cells := 0, slots := 0, locals := 273 } : Room) s m ([.ref h0] : List Value).toArray below meth c H locs 0 0 Q (F0 m 12 ls []) := by
    intro k2 hk2
    intro n
    induction n with
    | zero =>
      intro H locs ls x1 x2 v_open hP hD hS hl hf
      cases hf
    | succ n ih =>
      intro H locs ls x1 x2 v_open hP hD hS hl hf
      rw [fX6_shutSet_L12] at hf
      refine lv_iload_n hx hb dX6_shutSet_12 rfl (lv_at hl 2 rfl) ?_
      refine lv_iconst (v := 1) hx hb dX6_shutSet_13 (by decide) ?_
      refine lv_aload_n hx hb dX6_shutSet_14 rfl (lv_at hl 0 rfl) ?_
      refine va_get (D := (dC, dI)) (ci := 6) (v := .int v_members) (C := RX6) (T := TX6) (N := 11) hx hb htb inG6 hown hK hP 0 rfl rfl 3 (by decide) (htb _ mF_X6_35) (fun _ h9 => h9) rfl dX6_shutSet_15 ?_
      refine lv_ishl hx hb dX6_shutSet_18 ?_
      refine lv_icmp_ge (tgt := 47) hx hb dX6_shutSet_19 (by decide) (fun c_2 => ?_) (fun c_2 => ?_)
      · have hf := oi_t hf c_2
        obtain ⟨x1_3, ex1_3⟩ : ∃ y : Int32, y = x1 + 1 := ⟨_, rfl⟩
        refine lv_iinc (v := x1_3) (lv' := [(1, .int x1_3), (0, .ref h0), (2, .int x2)]) hx hb dX6_shutSet_47 hl (k := 1) rfl (by rw [ex1_3]; rfl) (by decide) rfl (fun ls hl => ?_)
        have hf := ol_some hf ex1_3
        refine lv_goto (tgt := 2) hx hb dX6_shutSet_50 (by decide) ?_
        exact hk2 H locs ls x1_3 v_open hP hD hS (lv_sub hl [1, 0] rfl) hf
      · have hf := oi_f hf c_2
        refine lv_iload_n hx hb dX6_shutSet_22 rfl (lv_at hl 2 rfl) ?_
        obtain ⟨o_4, ho_4, hf⟩ := ob_some hf
        refine ca_S (As := [.int x2]) (rest := []) (wr := [(h0, .inr (6, [g_town, g_plumes, g_who, .int v_members, .ref h1, .ref h2, g_chosen, g_soonest, .int v_soonestLatest, .int v_soonestSum, .int v_tally])), (h1, .inl (q0, 600, .inl v_clashes)), (h2, .inl (q1, 30, .inl v_open))]) (wn := [(h0, .inr (6, [g_town, g_plumes, g_who, .int v_members, .ref h1, .ref h2, g_chosen, g_soonest, .int v_soonestLatest, .int v_soonestSum, .int v_tally])), (h1, .inl (q0, 600, .inl v_clashes)), (h2, .inl (q1, 30, .inl v_open))]) ⟨hx, hb, hml, hown, hts⟩ (ctJ6_bitCount_0f7a4 l dC dI F H.size x2 o_4 ho_4) ⟨mC_J6_bitCount_0f7a4, mN_J6, md_J6_bitCount_0f7a4, ⟨rfl, rfl⟩, ⟨Nat.le_of_ble_eq_true rfl, Nat.le_of_ble_eq_true rfl⟩⟩ mM_X6_98 mT_J6_bitCount_0f7a4 hK hN hP hD hS hA [] [] [0, 1, 2] [0, 1, 2] rfl rfl rfl ⟨by decide, by decide, by decide, by decide⟩ rfl rfl hl.1 (Nat.le_of_ble_eq_true rfl) ⟨Nat.zero_le _, Nat.zero_le _⟩ dX6_shutSet_23 (fun H locs hP hD hS => ?_)
        refine lv_iload_n hx hb dX6_shutSet_26 rfl (lv_at hl 1 rfl) ?_
        refine lv_icmp_ne (tgt := 41) hx hb dX6_shutSet_27 (by decide) (fun c_5 => ?_) (fun c_5 => ?_)
        · have hf := oi_f hf c_5
          exact L41 k2 hk2 (fun x1 x2 v_open => fX6_shutSet_L12 F v_members v_clashes k2 n x1 x2 v_open) ih H locs ls x1 x2 v_open hP hD hS (lv_sub hl [0, 1, 2] rfl) hf
        · have hf := oi_t hf c_5
          refine lv_aload_n hx hb dX6_shutSet_30 rfl (lv_at hl 0 rfl) ?_
          refine lv_iconst (v := 0) hx hb dX6_shutSet_31 (by decide) ?_
          refine lv_iload_n hx hb dX6_shutSet_32 rfl (lv_at hl 2 rfl) ?_
          obtain ⟨o_6, ho_6, hf⟩ := ob_some hf
          refine ca_V (As := [.int (0 : Int32), .int x2]) (rest := []) (wr := []) (wn := [(h0, .inr (6, [g_town, g_plumes, g_who, .int v_members, .ref h1, .ref h2, g_chosen, g_soonest, .int v_soonestLatest, .int v_soonestSum, .int v_tally])), (h1, .inl (q0, 600, .inl v_clashes)), (h2, .inl (q1, 30, .inl o_6.2))]) ⟨hx, hb, hml, hown, hts⟩ (ctX6_canLight l dC dI F h0 h1 h2 q0 q1 (g_town) (g_plumes) (g_who) v_members (g_chosen) (g_soonest) v_soonestLatest v_soonestSum v_tally v_clashes 8 H.size v_open (0 : Int32) x2 o_6 ho_6) ⟨mC_X6_canLight, mN_X6, md_X6_canLight, ⟨rfl, rfl⟩, ⟨Nat.le_of_ble_eq_true rfl, Nat.le_of_ble_eq_true rfl⟩⟩ mM_X6_103 mI_X6_canLight mS_X6_canLight hK hN hP hD hS hA [0, 1] [0, 1, 2] [] [0, 1, 2] rfl rfl rfl ⟨by decide, by decide, by decide, by decide⟩ rfl 0 6 rfl rfl rfl hl.1 (Nat.le_of_ble_eq_true rfl) ⟨Nat.zero_le _, Nat.zero_le _⟩ dX6_shutSet_33 (fun H locs hP hD hS => ?_)
          refine lv_if_ne (tgt := 41) hx hb dX6_shutSet_36 (by decide) (fun c_7 => ?_) (fun c_7 => ?_)
          · have hf := oi_f hf c_7
            exact L41 k2 hk2 (fun x1 x2 v_open => fX6_shutSet_L12 F v_members v_clashes k2 n x1 x2 v_open) ih H locs ls x1 x2 o_6.2 hP hD hS (lv_sub hl [0, 1, 2] rfl) hf
          · have hf := oi_t hf c_7
            refine lv_iload_n hx hb dX6_shutSet_39 rfl (lv_at hl 2 rfl) ?_
            exact hRet (x2, o_6.2) H locs ls 40 (Option.some.inj hf) hP hD hS rfl dX6_shutSet_40
  have L2 : ∀ (n : Nat), ∀ (H : Heap) (locs : List Loc) (ls : Array Slot) (x1 : Int32) (v_open : Nat → Int32), va_P (dC, dI) vwCl [(h0, .inr (6, [g_town, g_plumes, g_who, .int v_members, .ref h1, .ref h2, g_chosen, g_soonest, .int v_soonestLatest, .int v_soonestSum, .int v_tally])), (h1, .inl (q0, 600, .inl v_clashes)), (h2, .inl (q1, 30, .inl v_open))] H → va_D A [(h0, .inr (6, [g_town, g_plumes, g_who, .int v_members, .ref h1, .ref h2, g_chosen, g_soonest, .int v_soonestLatest, .int v_soonestSum, .int v_tally])), (h1, .inl (q0, 600, .inl v_clashes)), (h2, .inl (q1, 30, .inl v_open))] → va_S A s.heap H locs → lv_has ls 3 [(0, .ref h0), (1, .int x1)] → fX6_shutSet_L2 F v_members v_clashes n x1 v_open = some out → W p l e ({ frames := 11, cells := 0, slots := 0, locals := 273 } : Room) s m ([.ref h0] : List Value).toArray below meth c H locs 0 0 Q (F0 m 2 ls []) := by
    intro n
    induction n with
    | zero =>
      intro H locs ls x1 v_open hP hD hS hl hf
      cases hf
    | succ n ih =>
      intro H locs ls x1 v_open hP hD hS hl hf
      rw [fX6_shutSet_L2] at hf
      refine lv_iload_n hx hb dX6_shutSet_2 rfl (lv_at hl 1 rfl) ?_
      refine lv_aload_n hx hb dX6_shutSet_3 rfl (lv_at hl 0 rfl) ?_
      refine va_get (D := (dC, dI)) (ci := 6) (v := .int v_members) (C := RX6) (T := TX6) (N := 11) hx hb htb inG6 hown hK hP 0 rfl rfl 3 (by decide) (htb _ mF_X6_35) (fun _ h9 => h9) rfl dX6_shutSet_4 ?_
      refine lv_icmp_gt (tgt := 53) hx hb dX6_shutSet_7 (by decide) (fun c_8 => ?_) (fun c_8 => ?_)
      · have hf := oi_t hf c_8
        refine lv_iconst (v := 0) hx hb dX6_shutSet_53 (by decide) ?_
        exact hRet ((0 : Int32), v_open) H locs ls 54 (Option.some.inj hf) hP hD hS rfl dX6_shutSet_54
      · have hf := oi_f hf c_8
        refine lv_iconst (v := 1) hx hb dX6_shutSet_10 (by decide) ?_
        refine lv_istore_n (lv' := [(2, .int (1 : Int32)), (0, .ref h0), (1, .int x1)]) hx hb dX6_shutSet_11 rfl hl (by decide) rfl (fun ls hl => ?_)
        exact L12 (fun x1 v_open => fX6_shutSet_L2 F v_members v_clashes n x1 v_open) ih F H locs ls x1 (1 : Int32) v_open hP hD hS (lv_sub hl [1, 2, 0] rfl) hf
  suffices K0 : ∀ (H : Heap) (locs : List Loc), va_P (dC, dI) vwCl [(h0, .inr (6, [g_town, g_plumes, g_who, .int v_members, .ref h1, .ref h2, g_chosen, g_soonest, .int v_soonestLatest, .int v_soonestSum, .int v_tally])), (h1, .inl (q0, 600, .inl v_clashes)), (h2, .inl (q1, 30, .inl v_open))] H → va_D A [(h0, .inr (6, [g_town, g_plumes, g_who, .int v_members, .ref h1, .ref h2, g_chosen, g_soonest, .int v_soonestLatest, .int v_soonestSum, .int v_tally])), (h1, .inl (q0, 600, .inl v_clashes)), (h2, .inl (q1, 30, .inl v_open))] → va_S A s.heap H locs → W p l e ({ frames := 11, cells := 0, slots := 0, locals := 273 } : Room) s m ([.ref h0] : List Value).toArray below meth c H locs 0 0 Q (F0 m 0 ls []) from K0 s.heap [] hP hD hS
  clear hP hD hS
  intro H locs hP hD hS
  unfold fX6_shutSet at hf
  refine lv_iconst (v := 1) hx hb dX6_shutSet_0 (by decide) ?_
  refine lv_istore_n (lv' := [(1, .int (1 : Int32)), (0, .ref h0)]) hx hb dX6_shutSet_1 rfl hl (by decide) rfl (fun ls hl => ?_)
  exact L2 F H locs ls (1 : Int32) v_open hP hD hS (lv_sub hl [1, 0] rfl) hf
def fX6_findSoonest_L23 (F : Nat) (v_members : Int32) (v_clashes : Nat → Int32) (s0 : Int32) (v_soonestLatest : Int32) (v_soonestSum : Int32) (v_chosen : Nat → Int32) (v_open : Nat → Int32) (v_soonest : Nat → Int32) : Option (Int32 × Int32 × Int32 × (Nat → Int32) × (Nat → Int32) × (Nat → Int32)) := ob (fX6_seekSoonest F v_members v_clashes 8 s0 (0 : Int32) v_chosen v_open v_soonest (0 : Int32) (((1 : Int32) <<< (v_members &&& 31)) - (1 : Int32)) (0 : Int32) (0 : Int32)) (fun o_1 => some ((1 : Int32), o_1.1, o_1.2.1, o_1.2.2.1, o_1.2.2.2.1, o_1.2.2.2.2))
def fX6_findSoonest (F : Nat) (v_members : Int32) (v_soonestLatest : Int32) (v_soonestSum : Int32) (v_chosen : Nat → Int32) (v_clashes : Nat → Int32) (v_open : Nat → Int32) (v_soonest : Nat → Int32)  : Option (Int32 × Int32 × Int32 × (Nat → Int32) × (Nat → Int32) × (Nat → Int32)) := ob (fX6_shutSet F v_members v_clashes v_open) (fun o_2 => if o_2.1 = 0 then (if v_members = 0 then (fX6_findSoonest_L23 F v_members v_clashes (0 : Int32) v_soonestLatest v_soonestSum v_chosen o_2.2 v_soonest) else (fX6_findSoonest_L23 F v_members v_clashes (24 : Int32) v_soonestLatest v_soonestSum v_chosen o_2.2 v_soonest)) else (some ((0 : Int32), v_soonestLatest, v_soonestSum, v_chosen, o_2.2, v_soonest)))
set_option maxRecDepth 100000 in
set_option maxHeartbeats 4000000 in
theorem ctX6_findSoonest (l : Launch) (dC : Nat → ClassId) (dI : Nat → Nat → Nat) (F sz : Nat) (h0 h1 h2 h3 h4 : Nat) (q0 q1 q2 q3 : ClassId) (g_town : Value) (g_plumes : Value) (g_who : Value) (v_members : Int32) (v_soonestLatest : Int32) (v_soonestSum : Int32) (v_tally : Int32) (v_chosen : Nat → Int32) (v_clashes : Nat → Int32) (v_open : Nat → Int32) (v_soonest : Nat → Int32)  (out : Int32 × Int32 × Int32 × (Nat → Int32) × (Nat → Int32) × (Nat → Int32)) (hf : fX6_findSoonest F v_members v_soonestLatest v_soonestSum v_chosen v_clashes v_open v_soonest = some out)  : cM l yX6_findSoonest cX6_findSoonest 1 (some .boolean) ({ frames := 12, cells := 0, slots := 0, locals := 313 } : Room) (dC, dI) [(q0, .int), (q1, .int), (q2, .int), (q3, .int)] [(h0, .inr (6, [g_town, g_plumes, g_who, .int v_members, .ref h2, .ref h3, .ref h1, .ref h4, .int v_soonestLatest, .int v_soonestSum, .int v_tally])), (h1, .inl (q0, 5, .inl v_chosen)), (h2, .inl (q1, 600, .inl v_clashes)), (h3, .inl (q2, 30, .inl v_open)), (h4, .inl (q3, 5, .inl v_soonest))] [.ref h0] sz (some (.int out.1)) [(h0, .inr (6, [g_town, g_plumes, g_who, .int v_members, .ref h2, .ref h3, .ref h1, .ref h4, .int out.2.1, .int out.2.2.1, .int v_tally])), (h1, .inl (q0, 5, .inl out.2.2.2.1)), (h2, .inl (q1, 600, .inl v_clashes)), (h3, .inl (q2, 30, .inl out.2.2.2.2.1)), (h4, .inl (q3, 5, .inl out.2.2.2.2.2))] := by
  refine cM_I RX6 ⟨by decide, rfl⟩ (Nat.le_of_ble_eq_true rfl) ?_
  intro p e s m below meth c A Q ls hx hb hml hown hts hK hN hA hP hD hS hl hRet
  have htb : ∀ w ∈ lw_g, w.before ([.ref h0] : List Value).toArray s = true := fun w h => hts w (List.mem_cons_of_mem _ h)
  have hl : lv_has ls 1 [(0, .ref h0)] := hl
  have hRet : ∀ (o : Int32 × Int32 × Int32 × (Nat → Int32) × (Nat → Int32) × (Nat → Int32)) (H : Heap) (locs : List Loc) (ls : Array Slot) (pc : Nat), o = out → va_P (dC, dI) vwCl [(h0, .inr (6, [g_town, g_plumes, g_who, .int v_members, .ref h2, .ref h3, .ref h1, .ref h4, .int o.2.1, .int o.2.2.1, .int v_tally])), (h1, .inl (q0, 5, .inl o.2.2.2.1)), (h2, .inl (q1, 600, .inl v_clashes)), (h3, .inl (q2, 30, .inl o.2.2.2.2.1)), (h4, .inl (q3, 5, .inl o.2.2.2.2.2))] H → va_D A [(h0, .inr (6, [g_town, g_plumes, g_who, .int v_members, .ref h2, .ref h3, .ref h1, .ref h4, .int o.2.1, .int o.2.2.1, .int v_tally])), (h1, .inl (q0, 5, .inl o.2.2.2.1)), (h2, .inl (q1, 600, .inl v_clashes)), (h3, .inl (q2, 30, .inl o.2.2.2.2.1)), (h4, .inl (q3, 5, .inl o.2.2.2.2.2))] → va_S A s.heap H locs → narrow .boolean (.int o.1) = .int o.1 → decode cX6_findSoonest pc = .ok (.ireturn, 1) → W p l e ({ frames := 12, cells := 0, slots := 0, locals := 313 } : Room) s m ([.ref h0] : List Value).toArray below meth c H locs 0 0 Q (F0 m pc ls [.int o.1]) := fun o H locs ls pc ho => by subst ho; exact hRet H locs ls pc
  have L23 : ∀ (H : Heap) (locs : List Loc) (ls : Array Slot) (s0 : Int32) (v_soonestLatest : Int32) (v_soonestSum : Int32) (v_chosen : Nat → Int32) (v_open : Nat → Int32) (v_soonest : Nat → Int32), va_P (dC, dI) vwCl [(h0, .inr (6, [g_town, g_plumes, g_who, .int v_members, .ref h2, .ref h3, .ref h1, .ref h4, .int v_soonestLatest, .int v_soonestSum, .int v_tally])), (h1, .inl (q0, 5, .inl v_chosen)), (h2, .inl (q1, 600, .inl v_clashes)), (h3, .inl (q2, 30, .inl v_open)), (h4, .inl (q3, 5, .inl v_soonest))] H → va_D A [(h0, .inr (6, [g_town, g_plumes, g_who, .int v_members, .ref h2, .ref h3, .ref h1, .ref h4, .int v_soonestLatest, .int v_soonestSum, .int v_tally])), (h1, .inl (q0, 5, .inl v_chosen)), (h2, .inl (q1, 600, .inl v_clashes)), (h3, .inl (q2, 30, .inl v_open)), (h4, .inl (q3, 5, .inl v_soonest))] → va_S A s.heap H locs → lv_has ls 1 [(0, .ref h0)] → fX6_findSoonest_L23 F v_members v_clashes s0 v_soonestLatest v_soonestSum v_chosen v_open v_soonest = some out → W p l e ({ frames := 12, cells := 0, slots := 0, locals := 313 } : Room) s m ([.ref h0] : List Value).toArray below meth c H locs 0 0 Q (F0 m 23 ls [.int s0, .ref h0]) := by
    intro H locs ls s0 v_soonestLatest v_soonestSum v_chosen v_open v_soonest hP hD hS hl hf
    unfold fX6_findSoonest_L23 at hf
    refine va_put (D := (dC, dI)) (ci := 6) (v := .int s0) (ty := .int) (C := RX6) (T := TX6) (N := 11) hx hb htb inG6 tyX6 tyX6_ok nmX6 hown hK hP hD hS 0 rfl rfl 8 (by decide) (htb _ mF_X6_136) (fun _ h9 => h9) rfl (by decide +kernel) rfl rfl (Nat.le_of_ble_eq_true rfl) dX6_findSoonest_23 (fun H locs hP hD hS => ?_)
    have hP : va_P (dC, dI) vwCl [(h0, .inr (6, [g_town, g_plumes, g_who, .int v_members, .ref h2, .ref h3, .ref h1, .ref h4, .int s0, .int v_soonestSum, .int v_tally])), (h1, .inl (q0, 5, .inl v_chosen)), (h2, .inl (q1, 600, .inl v_clashes)), (h3, .inl (q2, 30, .inl v_open)), (h4, .inl (q3, 5, .inl v_soonest))] H := hP
    have hD : va_D A [(h0, .inr (6, [g_town, g_plumes, g_who, .int v_members, .ref h2, .ref h3, .ref h1, .ref h4, .int s0, .int v_soonestSum, .int v_tally])), (h1, .inl (q0, 5, .inl v_chosen)), (h2, .inl (q1, 600, .inl v_clashes)), (h3, .inl (q2, 30, .inl v_open)), (h4, .inl (q3, 5, .inl v_soonest))] := hD
    refine lv_aload_n hx hb dX6_findSoonest_26 rfl (lv_at hl 0 rfl) ?_
    refine lv_iconst (v := 0) hx hb dX6_findSoonest_27 (by decide) ?_
    refine va_put (D := (dC, dI)) (ci := 6) (v := .int (0 : Int32)) (ty := .int) (C := RX6) (T := TX6) (N := 11) hx hb htb inG6 tyX6 tyX6_ok nmX6 hown hK hP hD hS 0 rfl rfl 9 (by decide) (htb _ mF_X6_139) (fun _ h9 => h9) rfl (by decide +kernel) rfl rfl (Nat.le_of_ble_eq_true rfl) dX6_findSoonest_28 (fun H locs hP hD hS => ?_)
    have hP : va_P (dC, dI) vwCl [(h0, .inr (6, [g_town, g_plumes, g_who, .int v_members, .ref h2, .ref h3, .ref h1, .ref h4, .int s0, .int (0 : Int32), .int v_tally])), (h1, .inl (q0, 5, .inl v_chosen)), (h2, .inl (q1, 600, .inl v_clashes)), (h3, .inl (q2, 30, .inl v_open)), (h4, .inl (q3, 5, .inl v_soonest))] H := hP
    have hD : va_D A [(h0, .inr (6, [g_town, g_plumes, g_who, .int v_members, .ref h2, .ref h3, .ref h1, .ref h4, .int s0, .int (0 : Int32), .int v_tally])), (h1, .inl (q0, 5, .inl v_chosen)), (h2, .inl (q1, 600, .inl v_clashes)), (h3, .inl (q2, 30, .inl v_open)), (h4, .inl (q3, 5, .inl v_soonest))] := hD
    refine lv_aload_n hx hb dX6_findSoonest_31 rfl (lv_at hl 0 rfl) ?_
    refine lv_iconst (v := 0) hx hb dX6_findSoonest_32 (by decide) ?_
    refine lv_iconst (v := 1) hx hb dX6_findSoonest_33 (by decide) ?_
    refine lv_aload_n hx hb dX6_findSoonest_34 rfl (lv_at hl 0 rfl) ?_
    refine va_get (D := (dC, dI)) (ci := 6) (v := .int v_members) (C := RX6) (T := TX6) (N := 11) hx hb htb inG6 hown hK hP 0 rfl rfl 3 (by decide) (htb _ mF_X6_35) (fun _ h9 => h9) rfl dX6_findSoonest_35 ?_
    refine lv_ishl hx hb dX6_findSoonest_38 ?_
    refine lv_iconst (v := 1) hx hb dX6_findSoonest_39 (by decide) ?_
    refine lv_isub hx hb dX6_findSoonest_40 ?_
    refine lv_iconst (v := 0) hx hb dX6_findSoonest_41 (by decide) ?_
    refine lv_iconst (v := 0) hx hb dX6_findSoonest_42 (by decide) ?_
    obtain ⟨o_1, ho_1, hf⟩ := ob_some hf
    refine ca_V (As := [.int (0 : Int32), .int (((1 : Int32) <<< (v_members &&& 31)) - (1 : Int32)), .int (0 : Int32), .int (0 : Int32)]) (rest := []) (wr := []) (wn := [(h0, .inr (6, [g_town, g_plumes, g_who, .int v_members, .ref h2, .ref h3, .ref h1, .ref h4, .int o_1.1, .int o_1.2.1, .int v_tally])), (h1, .inl (q0, 5, .inl o_1.2.2.1)), (h2, .inl (q1, 600, .inl v_clashes)), (h3, .inl (q2, 30, .inl o_1.2.2.2.1)), (h4, .inl (q3, 5, .inl o_1.2.2.2.2))]) ⟨hx, hb, hml, hown, hts⟩ (ctX6_seekSoonest l dC dI F h0 h1 h2 h3 h4 q0 q1 q2 q3 (g_town) (g_plumes) (g_who) v_members v_tally v_clashes 8 H.size s0 (0 : Int32) v_chosen v_open v_soonest (0 : Int32) (((1 : Int32) <<< (v_members &&& 31)) - (1 : Int32)) (0 : Int32) (0 : Int32) o_1 ho_1) ⟨mC_X6_seekSoonest, mN_X6, md_X6_seekSoonest, ⟨rfl, rfl⟩, ⟨Nat.le_of_ble_eq_true rfl, Nat.le_of_ble_eq_true rfl⟩⟩ mM_X6_142 mI_X6_seekSoonest mS_X6_seekSoonest hK hN hP hD hS hA [0, 1, 2, 3] [0, 1, 2, 3, 4] [] [0, 1, 2, 3, 4] rfl rfl rfl ⟨by decide, by decide, by decide, by decide⟩ rfl 0 6 rfl rfl rfl hl.1 (Nat.le_of_ble_eq_true rfl) ⟨Nat.zero_le _, Nat.zero_le _⟩ dX6_findSoonest_43 (fun H locs hP hD hS => ?_)
    refine lv_iconst (v := 1) hx hb dX6_findSoonest_46 (by decide) ?_
    exact hRet ((1 : Int32), o_1.1, o_1.2.1, o_1.2.2.1, o_1.2.2.2.1, o_1.2.2.2.2) H locs ls 47 (Option.some.inj hf) hP hD hS nar1 dX6_findSoonest_47
  suffices K0 : ∀ (H : Heap) (locs : List Loc), va_P (dC, dI) vwCl [(h0, .inr (6, [g_town, g_plumes, g_who, .int v_members, .ref h2, .ref h3, .ref h1, .ref h4, .int v_soonestLatest, .int v_soonestSum, .int v_tally])), (h1, .inl (q0, 5, .inl v_chosen)), (h2, .inl (q1, 600, .inl v_clashes)), (h3, .inl (q2, 30, .inl v_open)), (h4, .inl (q3, 5, .inl v_soonest))] H → va_D A [(h0, .inr (6, [g_town, g_plumes, g_who, .int v_members, .ref h2, .ref h3, .ref h1, .ref h4, .int v_soonestLatest, .int v_soonestSum, .int v_tally])), (h1, .inl (q0, 5, .inl v_chosen)), (h2, .inl (q1, 600, .inl v_clashes)), (h3, .inl (q2, 30, .inl v_open)), (h4, .inl (q3, 5, .inl v_soonest))] → va_S A s.heap H locs → W p l e ({ frames := 12, cells := 0, slots := 0, locals := 313 } : Room) s m ([.ref h0] : List Value).toArray below meth c H locs 0 0 Q (F0 m 0 ls []) from K0 s.heap [] hP hD hS
  clear hP hD hS
  intro H locs hP hD hS
  unfold fX6_findSoonest at hf
  refine lv_aload_n hx hb dX6_findSoonest_0 rfl (lv_at hl 0 rfl) ?_
  obtain ⟨o_2, ho_2, hf⟩ := ob_some hf
  refine ca_V (As := []) (rest := []) (wr := [(h1, .inl (q0, 5, .inl v_chosen)), (h4, .inl (q3, 5, .inl v_soonest))]) (wn := [(h0, .inr (6, [g_town, g_plumes, g_who, .int v_members, .ref h2, .ref h3, .ref h1, .ref h4, .int v_soonestLatest, .int v_soonestSum, .int v_tally])), (h1, .inl (q0, 5, .inl v_chosen)), (h2, .inl (q1, 600, .inl v_clashes)), (h3, .inl (q2, 30, .inl o_2.2)), (h4, .inl (q3, 5, .inl v_soonest))]) ⟨hx, hb, hml, hown, hts⟩ (ctX6_shutSet l dC dI F H.size h0 h2 h3 q1 q2 (g_town) (g_plumes) (g_who) v_members (.ref h1) (.ref h4) v_soonestLatest v_soonestSum v_tally v_clashes v_open o_2 ho_2) ⟨mC_X6_shutSet, mN_X6, md_X6_shutSet, ⟨rfl, rfl⟩, ⟨Nat.le_of_ble_eq_true rfl, Nat.le_of_ble_eq_true rfl⟩⟩ mM_X6_128 mI_X6_shutSet mS_X6_shutSet hK hN hP hD hS hA [1, 2] [0, 2, 3] [1, 4] [2, 0, 3, 4, 1] rfl rfl rfl ⟨by decide, by decide, by decide, by decide⟩ rfl 0 6 rfl rfl rfl hl.1 (Nat.le_of_ble_eq_true rfl) ⟨Nat.zero_le _, Nat.zero_le _⟩ dX6_findSoonest_1 (fun H locs hP hD hS => ?_)
  refine lv_if_eq (tgt := 9) hx hb dX6_findSoonest_4 (by decide) (fun c_3 => ?_) (fun c_3 => ?_)
  · have hf := oi_t hf c_3
    refine lv_aload_n hx hb dX6_findSoonest_9 rfl (lv_at hl 0 rfl) ?_
    refine lv_aload_n hx hb dX6_findSoonest_10 rfl (lv_at hl 0 rfl) ?_
    refine va_get (D := (dC, dI)) (ci := 6) (v := .int v_members) (C := RX6) (T := TX6) (N := 11) hx hb htb inG6 hown hK hP 0 rfl rfl 3 (by decide) (htb _ mF_X6_35) (fun _ h9 => h9) rfl dX6_findSoonest_11 ?_
    refine lv_if_ne (tgt := 21) hx hb dX6_findSoonest_14 (by decide) (fun c_4 => ?_) (fun c_4 => ?_)
    · have hf := oi_f hf c_4
      refine lv_bipush (v := 24) hx hb dX6_findSoonest_21 (by decide) ?_
      exact L23 H locs ls (24 : Int32) v_soonestLatest v_soonestSum v_chosen o_2.2 v_soonest hP hD hS (lv_sub hl [0] rfl) hf
    · have hf := oi_t hf c_4
      refine lv_iconst (v := 0) hx hb dX6_findSoonest_17 (by decide) ?_
      refine lv_goto (tgt := 23) hx hb dX6_findSoonest_18 (by decide) ?_
      exact L23 H locs ls (0 : Int32) v_soonestLatest v_soonestSum v_chosen o_2.2 v_soonest hP hD hS (lv_sub hl [0] rfl) hf
  · have hf := oi_f hf c_3
    refine lv_iconst (v := 0) hx hb dX6_findSoonest_7 (by decide) ?_
    exact hRet ((0 : Int32), v_soonestLatest, v_soonestSum, v_chosen, o_2.2, v_soonest) H locs ls 8 (Option.some.inj hf) hP hD hS nar0 dX6_findSoonest_8
def fX6_greatestSet_L70 (F : Nat) (v_members : Int32) (v_clashes : Nat → Int32) (a1 : Int32) (k35 : Int32 → (Nat → Int32) → Option (Int32 × (Nat → Int32))) (k41 : Int32 → Int32 → (Nat → Int32) → Option (Int32 × (Nat → Int32))) (x2 : Int32) (x3 : Int32) (v_open : Nat → Int32) : Option (Int32 × (Nat → Int32)) := ol (x3 + 1) (fun x3_1 => k41 x2 x3_1 v_open)
def fX6_greatestSet_L41 (F : Nat) (v_members : Int32) (v_clashes : Nat → Int32) (a1 : Int32) (k35 : Int32 → (Nat → Int32) → Option (Int32 × (Nat → Int32))) : Nat → Int32 → Int32 → (Nat → Int32) → Option (Int32 × (Nat → Int32))
  | 0, _, _, _ => none
  | n + 1, x2, x3, v_open => if ((1 : Int32) <<< (v_members &&& 31)) ≤ x3 then (ol (x2 + (-1)) (fun x2_3 => k35 x2_3 v_open)) else (ob (fJ6_bitCount_0f7a4 F x3) (fun o_4 => if o_4 = x2 then (ob (fX6_canLight F v_members v_clashes 8 v_open (0 : Int32) x3) (fun o_6 => if o_6.1 = 0 then (fX6_greatestSet_L70 F v_members v_clashes a1 k35 (fun x2 x3 v_open => fX6_greatestSet_L41 F v_members v_clashes a1 k35 n x2 x3 v_open) x2 x3 o_6.2) else (some (x3, o_6.2)))) else (fX6_greatestSet_L70 F v_members v_clashes a1 k35 (fun x2 x3 v_open => fX6_greatestSet_L41 F v_members v_clashes a1 k35 n x2 x3 v_open) x2 x3 v_open)))
def fX6_greatestSet_L35 (F : Nat) (v_members : Int32) (v_clashes : Nat → Int32) (a1 : Int32) : Nat → Int32 → (Nat → Int32) → Option (Int32 × (Nat → Int32))
  | 0, _, _ => none
  | n + 1, x2, v_open => if x2 ≤ 0 then (some ((0 : Int32), v_open)) else (fX6_greatestSet_L41 F v_members v_clashes a1 (fun x2 v_open => fX6_greatestSet_L35 F v_members v_clashes a1 n x2 v_open) F x2 (1 : Int32) v_open)
def fX6_greatestSet_L2 (F : Nat) (v_members : Int32) (v_clashes : Nat → Int32) (a1 : Int32) : Nat → Int32 → (Nat → Int32) → Option (Int32 × (Nat → Int32))
  | 0, _, _ => none
  | n + 1, x2, v_open => if v_members ≤ x2 then (fX6_greatestSet_L35 F v_members v_clashes a1 F v_members v_open) else (og (vb x2 30) (og (vb x2 30) (ol (upd v_open x2.toNatClampNeg ((v_open x2.toNatClampNeg) &&& (((2 : Int32) <<< (a1 &&& 31)) - (1 : Int32)))) (fun v_open_12 => ol (x2 + 1) (fun x2_13 => fX6_greatestSet_L2 F v_members v_clashes a1 n x2_13 v_open_12)))))
def fX6_greatestSet (F : Nat) (v_members : Int32) (v_clashes : Nat → Int32) (v_open : Nat → Int32) (a1 : Int32) : Option (Int32 × (Nat → Int32)) := fX6_greatestSet_L2 F v_members v_clashes a1 F (0 : Int32) v_open
set_option maxRecDepth 100000 in
set_option maxHeartbeats 4000000 in
theorem ctX6_greatestSet (l : Launch) (dC : Nat → ClassId) (dI : Nat → Nat → Nat) (F sz : Nat) (h0 h1 h2 : Nat) (q0 q1 : ClassId) (g_town : Value) (g_plumes : Value) (g_who : Value) (v_members : Int32) (g_chosen : Value) (g_soonest : Value) (v_soonestLatest : Int32) (v_soonestSum : Int32) (v_tally : Int32) (v_clashes : Nat → Int32) (v_open : Nat → Int32) (a1 : Int32) (out : Int32 × (Nat → Int32)) (hf : fX6_greatestSet F v_members v_clashes v_open a1 = some out)  : cM l yX6_greatestSet cX6_greatestSet 4 (some .int) ({ frames := 11, cells := 0, slots := 0, locals := 273 } : Room) (dC, dI) [(q0, .int), (q1, .int)] [(h0, .inr (6, [g_town, g_plumes, g_who, .int v_members, .ref h1, .ref h2, g_chosen, g_soonest, .int v_soonestLatest, .int v_soonestSum, .int v_tally])), (h1, .inl (q0, 600, .inl v_clashes)), (h2, .inl (q1, 30, .inl v_open))] [.ref h0, .int a1] sz (some (.int out.1)) [(h0, .inr (6, [g_town, g_plumes, g_who, .int v_members, .ref h1, .ref h2, g_chosen, g_soonest, .int v_soonestLatest, .int v_soonestSum, .int v_tally])), (h1, .inl (q0, 600, .inl v_clashes)), (h2, .inl (q1, 30, .inl out.2))] := by
  refine cM_I RX6 ⟨by decide, rfl⟩ (Nat.le_of_ble_eq_true rfl) ?_
  intro p e s m below meth c A Q ls hx hb hml hown hts hK hN hA hP hD hS hl hRet
  have htb : ∀ w ∈ lw_g, w.before ([.ref h0, .int a1] : List Value).toArray s = true := fun w h => hts w (List.mem_cons_of_mem _ h)
  have hl : lv_has ls 4 [(0, .ref h0), (1, .int a1)] := hl
  have hRet : ∀ (o : Int32 × (Nat → Int32)) (H : Heap) (locs : List Loc) (ls : Array Slot) (pc : Nat), o = out → va_P (dC, dI) vwCl [(h0, .inr (6, [g_town, g_plumes, g_who, .int v_members, .ref h1, .ref h2, g_chosen, g_soonest, .int v_soonestLatest, .int v_soonestSum, .int v_tally])), (h1, .inl (q0, 600, .inl v_clashes)), (h2, .inl (q1, 30, .inl o.2))] H → va_D A [(h0, .inr (6, [g_town, g_plumes, g_who, .int v_members, .ref h1, .ref h2, g_chosen, g_soonest, .int v_soonestLatest, .int v_soonestSum, .int v_tally])), (h1, .inl (q0, 600, .inl v_clashes)), (h2, .inl (q1, 30, .inl o.2))] → va_S A s.heap H locs → narrow .int (.int o.1) = .int o.1 → decode cX6_greatestSet pc = .ok (.ireturn, 1) → W p l e ({ frames := 11, cells := 0, slots := 0, locals := 273 } : Room) s m ([.ref h0, .int a1] : List Value).toArray below meth c H locs 0 0 Q (F0 m pc ls [.int o.1]) := fun o H locs ls pc ho => by subst ho; exact hRet H locs ls pc
  have L70 : ∀ (k35 : Int32 → (Nat → Int32) → Option (Int32 × (Nat → Int32))) (hk35 : ∀ (H : Heap) (locs : List Loc) (ls : Array Slot) (x2 : Int32) (v_open : Nat → Int32), va_P (dC, dI) vwCl [(h0, .inr (6, [g_town, g_plumes, g_who, .int v_members, .ref h1, .ref h2, g_chosen, g_soonest, .int v_soonestLatest, .int v_soonestSum, .int v_tally])), (h1, .inl (q0, 600, .inl v_clashes)), (h2, .inl (q1, 30, .inl v_open))] H → va_D A [(h0, .inr (6, [g_town, g_plumes, g_who, .int v_members, .ref h1, .ref h2, g_chosen, g_soonest, .int v_soonestLatest, .int v_soonestSum, .int v_tally])), (h1, .inl (q0, 600, .inl v_clashes)), (h2, .inl (q1, 30, .inl v_open))] → va_S A s.heap H locs → lv_has ls 4 [(0, .ref h0), (2, .int x2)] → k35 x2 v_open = some out → W p l e ({ frames := 11, cells := 0, slots := 0, locals := 273 } : Room) s m ([.ref h0, .int a1] : List Value).toArray below meth c H locs 0 0 Q (F0 m 35 ls [])), ∀ (k41 : Int32 → Int32 → (Nat → Int32) → Option (Int32 × (Nat → Int32))) (hk41 : ∀ (H : Heap) (locs : List Loc) (ls : Array Slot) (x2 : Int32) (x3 : Int32) (v_open : Nat → Int32), va_P (dC, dI) vwCl [(h0, .inr (6, [g_town, g_plumes, g_who, .int v_members, .ref h1, .ref h2, g_chosen, g_soonest, .int v_soonestLatest, .int v_soonestSum, .int v_tally])), (h1, .inl (q0, 600, .inl v_clashes)), (h2, .inl (q1, 30, .inl v_open))] H → va_D A [(h0, .inr (6, [g_town, g_plumes, g_who, .int v_members, .ref h1, .ref h2, g_chosen, g_soonest, .int v_soonestLatest, .int v_soonestSum, .int v_tally])), (h1, .inl (q0, 600, .inl v_clashes)), (h2, .inl (q1, 30, .inl v_open))] → va_S A s.heap H locs → lv_has ls 4 [(0, .ref h0), (2, .int x2), (3, .int x3)] → k41 x2 x3 v_open = some out → W p l e ({ frames := 11, cells := 0, slots := 0, locals := 273 } : Room) s m ([.ref h0, .int a1] : List Value).toArray below meth c H locs 0 0 Q (F0 m 41 ls [])), ∀ (H : Heap) (locs : List Loc) (ls : Array Slot) (x2 : Int32) (x3 : Int32) (v_open : Nat → Int32), va_P (dC, dI) vwCl [(h0, .inr (6, [g_town, g_plumes, g_who, .int v_members, .ref h1, .ref h2, g_chosen, g_soonest, .int v_soonestLatest, .int v_soonestSum, .int v_tally])), (h1, .inl (q0, 600, .inl v_clashes)), (h2, .inl (q1, 30, .inl v_open))] H → va_D A [(h0, .inr (6, [g_town, g_plumes, g_who, .int v_members, .ref h1, .ref h2, g_chosen, g_soonest, .int v_soonestLatest, .int v_soonestSum, .int v_tally])), (h1, .inl (q0, 600, .inl v_clashes)), (h2, .inl (q1, 30, .inl v_open))] → va_S A s.heap H locs → lv_has ls 4 [(0, .ref h0), (2, .int x2), (3, .int x3)] → fX6_greatestSet_L70 F v_members v_clashes a1 k35 k41 x2 x3 v_open = some out → W p l e ({ frames := 11, cells := 0, slots := 0, locals := 273 } : Room) s m ([.ref h0, .int a1] : List Value).toArray below meth c H locs 0 0 Q (F0 m 70 ls []) := by
    intro k35 hk35 k41 hk41 H locs ls x2 x3 v_open hP hD hS hl hf
    unfold fX6_greatestSet_L70 at hf
    obtain ⟨x3_1, ex3_1⟩ : ∃ y : Int32, y = x3 + 1 := ⟨_, rfl⟩
    refine lv_iinc (v := x3_1) (lv' := [(3, .int x3_1), (0, .ref h0), (2, .int x2)]) hx hb dX6_greatestSet_70 hl (k := 2) rfl (by rw [ex3_1]; rfl) (by decide) rfl (fun ls hl => ?_)
    have hf := ol_some hf ex3_1
    refine lv_goto (tgt := 41) hx hb dX6_greatestSet_73 (by decide) ?_
    exact hk41 H locs ls x2 x3_1 v_open hP hD hS (lv_sub hl [1, 2, 0] rfl) hf
  have L41 : ∀ (k35 : Int32 → (Nat → Int32) → Option (Int32 × (Nat → Int32))) (hk35 : ∀ (H : Heap) (locs : List Loc) (ls : Array Slot) (x2 : Int32) (v_open : Nat → Int32), va_P (dC, dI) vwCl [(h0, .inr (6, [g_town, g_plumes, g_who, .int v_members, .ref h1, .ref h2, g_chosen, g_soonest, .int v_soonestLatest, .int v_soonestSum, .int v_tally])), (h1, .inl (q0, 600, .inl v_clashes)), (h2, .inl (q1, 30, .inl v_open))] H → va_D A [(h0, .inr (6, [g_town, g_plumes, g_who, .int v_members, .ref h1, .ref h2, g_chosen, g_soonest, .int v_soonestLatest, .int v_soonestSum, .int v_tally])), (h1, .inl (q0, 600, .inl v_clashes)), (h2, .inl (q1, 30, .inl v_open))] → va_S A s.heap H locs → lv_has ls 4 [(0, .ref h0), (2, .int x2)] → k35 x2 v_open = some out → W p l e ({ frames := 11, cells := 0, slots := 0, locals := 273 } : Room) s m ([.ref h0, .int a1] : List Value).toArray below meth c H locs 0 0 Q (F0 m 35 ls [])), ∀ (n : Nat), ∀ (H : Heap) (locs : List Loc) (ls : Array Slot) (x2 : Int32) (x3 : Int32) (v_open : Nat → Int32), va_P (dC, dI) vwCl [(h0, .inr (6, [g_town, g_plumes, g_who, .int v_members, .ref h1, .ref h2, g_chosen, g_soonest, .int v_soonestLatest, .int v_soonestSum, .int v_tally])), (h1, .inl (q0, 600, .inl v_clashes)), (h2, .inl (q1, 30, .inl v_open))] H → va_D A [(h0, .inr (6, [g_town, g_plumes, g_who, .int v_members, .ref h1, .ref h2, g_chosen, g_soonest, .int v_soonestLatest, .int v_soonestSum, .int v_tally])), (h1, .inl (q0, 600, .inl v_clashes)), (h2, .inl (q1, 30, .inl v_open))] → va_S A s.heap H locs → lv_has ls 4 [(0, .ref h0), (2, .int x2), (3, .int x3)] → fX6_greatestSet_L41 F v_members v_clashes a1 k35 n x2 x3 v_open = some out → W p l e ({ frames := 11, cells := 0, slots := 0, locals := 273 } : Room) s m ([.ref h0, .int a1] : List Value).toArray below meth c H locs 0 0 Q (F0 m 41 ls []) := by
    intro k35 hk35
    intro n
    induction n with
    | zero =>
      intro H locs ls x2 x3 v_open hP hD hS hl hf
      cases hf
    | succ n ih =>
      intro H locs ls x2 x3 v_open hP hD hS hl hf
      rw [fX6_greatestSet_L41] at hf
      refine lv_iload_n hx hb dX6_greatestSet_41 rfl (lv_at hl 2 rfl) ?_
      refine lv_iconst (v := 1) hx hb dX6_greatestSet_42 (by decide) ?_
      refine lv_aload_n hx hb dX6_greatestSet_43 rfl (lv_at hl 0 rfl) ?_
      refine va_get (D := (dC, dI)) (ci := 6) (v := .int v_members) (C := RX6) (T := TX6) (N := 11) hx hb htb inG6 hown hK hP 0 rfl rfl 3 (by decide) (htb _ mF_X6_35) (fun _ h9 => h9) rfl dX6_greatestSet_44 ?_
      refine lv_ishl hx hb dX6_greatestSet_47 ?_
      refine lv_icmp_ge (tgt := 76) hx hb dX6_greatestSet_48 (by decide) (fun c_2 => ?_) (fun c_2 => ?_)
      · have hf := oi_t hf c_2
        obtain ⟨x2_3, ex2_3⟩ : ∃ y : Int32, y = x2 + (-1) := ⟨_, rfl⟩
        refine lv_iinc (v := x2_3) (lv' := [(2, .int x2_3), (0, .ref h0), (3, .int x3)]) hx hb dX6_greatestSet_76 hl (k := 1) rfl (by rw [ex2_3]; rfl) (by decide) rfl (fun ls hl => ?_)
        have hf := ol_some hf ex2_3
        refine lv_goto (tgt := 35) hx hb dX6_greatestSet_79 (by decide) ?_
        exact hk35 H locs ls x2_3 v_open hP hD hS (lv_sub hl [1, 0] rfl) hf
      · have hf := oi_f hf c_2
        refine lv_iload_n hx hb dX6_greatestSet_51 rfl (lv_at hl 2 rfl) ?_
        obtain ⟨o_4, ho_4, hf⟩ := ob_some hf
        refine ca_S (As := [.int x3]) (rest := []) (wr := [(h0, .inr (6, [g_town, g_plumes, g_who, .int v_members, .ref h1, .ref h2, g_chosen, g_soonest, .int v_soonestLatest, .int v_soonestSum, .int v_tally])), (h1, .inl (q0, 600, .inl v_clashes)), (h2, .inl (q1, 30, .inl v_open))]) (wn := [(h0, .inr (6, [g_town, g_plumes, g_who, .int v_members, .ref h1, .ref h2, g_chosen, g_soonest, .int v_soonestLatest, .int v_soonestSum, .int v_tally])), (h1, .inl (q0, 600, .inl v_clashes)), (h2, .inl (q1, 30, .inl v_open))]) ⟨hx, hb, hml, hown, hts⟩ (ctJ6_bitCount_0f7a4 l dC dI F H.size x3 o_4 ho_4) ⟨mC_J6_bitCount_0f7a4, mN_J6, md_J6_bitCount_0f7a4, ⟨rfl, rfl⟩, ⟨Nat.le_of_ble_eq_true rfl, Nat.le_of_ble_eq_true rfl⟩⟩ mM_X6_98 mT_J6_bitCount_0f7a4 hK hN hP hD hS hA [] [] [0, 1, 2] [0, 1, 2] rfl rfl rfl ⟨by decide, by decide, by decide, by decide⟩ rfl rfl hl.1 (Nat.le_of_ble_eq_true rfl) ⟨Nat.zero_le _, Nat.zero_le _⟩ dX6_greatestSet_52 (fun H locs hP hD hS => ?_)
        refine lv_iload_n hx hb dX6_greatestSet_55 rfl (lv_at hl 1 rfl) ?_
        refine lv_icmp_ne (tgt := 70) hx hb dX6_greatestSet_56 (by decide) (fun c_5 => ?_) (fun c_5 => ?_)
        · have hf := oi_f hf c_5
          exact L70 k35 hk35 (fun x2 x3 v_open => fX6_greatestSet_L41 F v_members v_clashes a1 k35 n x2 x3 v_open) ih H locs ls x2 x3 v_open hP hD hS (lv_sub hl [0, 1, 2] rfl) hf
        · have hf := oi_t hf c_5
          refine lv_aload_n hx hb dX6_greatestSet_59 rfl (lv_at hl 0 rfl) ?_
          refine lv_iconst (v := 0) hx hb dX6_greatestSet_60 (by decide) ?_
          refine lv_iload_n hx hb dX6_greatestSet_61 rfl (lv_at hl 2 rfl) ?_
          obtain ⟨o_6, ho_6, hf⟩ := ob_some hf
          refine ca_V (As := [.int (0 : Int32), .int x3]) (rest := []) (wr := []) (wn := [(h0, .inr (6, [g_town, g_plumes, g_who, .int v_members, .ref h1, .ref h2, g_chosen, g_soonest, .int v_soonestLatest, .int v_soonestSum, .int v_tally])), (h1, .inl (q0, 600, .inl v_clashes)), (h2, .inl (q1, 30, .inl o_6.2))]) ⟨hx, hb, hml, hown, hts⟩ (ctX6_canLight l dC dI F h0 h1 h2 q0 q1 (g_town) (g_plumes) (g_who) v_members (g_chosen) (g_soonest) v_soonestLatest v_soonestSum v_tally v_clashes 8 H.size v_open (0 : Int32) x3 o_6 ho_6) ⟨mC_X6_canLight, mN_X6, md_X6_canLight, ⟨rfl, rfl⟩, ⟨Nat.le_of_ble_eq_true rfl, Nat.le_of_ble_eq_true rfl⟩⟩ mM_X6_103 mI_X6_canLight mS_X6_canLight hK hN hP hD hS hA [0, 1] [0, 1, 2] [] [0, 1, 2] rfl rfl rfl ⟨by decide, by decide, by decide, by decide⟩ rfl 0 6 rfl rfl rfl hl.1 (Nat.le_of_ble_eq_true rfl) ⟨Nat.zero_le _, Nat.zero_le _⟩ dX6_greatestSet_62 (fun H locs hP hD hS => ?_)
          refine lv_if_eq (tgt := 70) hx hb dX6_greatestSet_65 (by decide) (fun c_7 => ?_) (fun c_7 => ?_)
          · have hf := oi_t hf c_7
            exact L70 k35 hk35 (fun x2 x3 v_open => fX6_greatestSet_L41 F v_members v_clashes a1 k35 n x2 x3 v_open) ih H locs ls x2 x3 o_6.2 hP hD hS (lv_sub hl [0, 1, 2] rfl) hf
          · have hf := oi_f hf c_7
            refine lv_iload_n hx hb dX6_greatestSet_68 rfl (lv_at hl 2 rfl) ?_
            exact hRet (x3, o_6.2) H locs ls 69 (Option.some.inj hf) hP hD hS rfl dX6_greatestSet_69
  have L35 : ∀ (n : Nat), ∀ (H : Heap) (locs : List Loc) (ls : Array Slot) (x2 : Int32) (v_open : Nat → Int32), va_P (dC, dI) vwCl [(h0, .inr (6, [g_town, g_plumes, g_who, .int v_members, .ref h1, .ref h2, g_chosen, g_soonest, .int v_soonestLatest, .int v_soonestSum, .int v_tally])), (h1, .inl (q0, 600, .inl v_clashes)), (h2, .inl (q1, 30, .inl v_open))] H → va_D A [(h0, .inr (6, [g_town, g_plumes, g_who, .int v_members, .ref h1, .ref h2, g_chosen, g_soonest, .int v_soonestLatest, .int v_soonestSum, .int v_tally])), (h1, .inl (q0, 600, .inl v_clashes)), (h2, .inl (q1, 30, .inl v_open))] → va_S A s.heap H locs → lv_has ls 4 [(0, .ref h0), (2, .int x2)] → fX6_greatestSet_L35 F v_members v_clashes a1 n x2 v_open = some out → W p l e ({ frames := 11, cells := 0, slots := 0, locals := 273 } : Room) s m ([.ref h0, .int a1] : List Value).toArray below meth c H locs 0 0 Q (F0 m 35 ls []) := by
    intro n
    induction n with
    | zero =>
      intro H locs ls x2 v_open hP hD hS hl hf
      cases hf
    | succ n ih =>
      intro H locs ls x2 v_open hP hD hS hl hf
      rw [fX6_greatestSet_L35] at hf
      refine lv_iload_n hx hb dX6_greatestSet_35 rfl (lv_at hl 1 rfl) ?_
      refine lv_if_le (tgt := 82) hx hb dX6_greatestSet_36 (by decide) (fun c_8 => ?_) (fun c_8 => ?_)
      · have hf := oi_t hf c_8
        refine lv_iconst (v := 0) hx hb dX6_greatestSet_82 (by decide) ?_
        exact hRet ((0 : Int32), v_open) H locs ls 83 (Option.some.inj hf) hP hD hS rfl dX6_greatestSet_83
      · have hf := oi_f hf c_8
        refine lv_iconst (v := 1) hx hb dX6_greatestSet_39 (by decide) ?_
        refine lv_istore_n (lv' := [(3, .int (1 : Int32)), (0, .ref h0), (2, .int x2)]) hx hb dX6_greatestSet_40 rfl hl (by decide) rfl (fun ls hl => ?_)
        exact L41 (fun x2 v_open => fX6_greatestSet_L35 F v_members v_clashes a1 n x2 v_open) ih F H locs ls x2 (1 : Int32) v_open hP hD hS (lv_sub hl [1, 2, 0] rfl) hf
  have L2 : ∀ (n : Nat), ∀ (H : Heap) (locs : List Loc) (ls : Array Slot) (x2 : Int32) (v_open : Nat → Int32), va_P (dC, dI) vwCl [(h0, .inr (6, [g_town, g_plumes, g_who, .int v_members, .ref h1, .ref h2, g_chosen, g_soonest, .int v_soonestLatest, .int v_soonestSum, .int v_tally])), (h1, .inl (q0, 600, .inl v_clashes)), (h2, .inl (q1, 30, .inl v_open))] H → va_D A [(h0, .inr (6, [g_town, g_plumes, g_who, .int v_members, .ref h1, .ref h2, g_chosen, g_soonest, .int v_soonestLatest, .int v_soonestSum, .int v_tally])), (h1, .inl (q0, 600, .inl v_clashes)), (h2, .inl (q1, 30, .inl v_open))] → va_S A s.heap H locs → lv_has ls 4 [(0, .ref h0), (1, .int a1), (2, .int x2)] → fX6_greatestSet_L2 F v_members v_clashes a1 n x2 v_open = some out → W p l e ({ frames := 11, cells := 0, slots := 0, locals := 273 } : Room) s m ([.ref h0, .int a1] : List Value).toArray below meth c H locs 0 0 Q (F0 m 2 ls []) := by
    intro n
    induction n with
    | zero =>
      intro H locs ls x2 v_open hP hD hS hl hf
      cases hf
    | succ n ih =>
      intro H locs ls x2 v_open hP hD hS hl hf
      rw [fX6_greatestSet_L2] at hf
      refine lv_iload_n hx hb dX6_greatestSet_2 rfl (lv_at hl 2 rfl) ?_
      refine lv_aload_n hx hb dX6_greatestSet_3 rfl (lv_at hl 0 rfl) ?_
      refine va_get (D := (dC, dI)) (ci := 6) (v := .int v_members) (C := RX6) (T := TX6) (N := 11) hx hb htb inG6 hown hK hP 0 rfl rfl 3 (by decide) (htb _ mF_X6_35) (fun _ h9 => h9) rfl dX6_greatestSet_4 ?_
      refine lv_icmp_ge (tgt := 30) hx hb dX6_greatestSet_7 (by decide) (fun c_9 => ?_) (fun c_9 => ?_)
      · have hf := oi_t hf c_9
        refine lv_aload_n hx hb dX6_greatestSet_30 rfl (lv_at hl 0 rfl) ?_
        refine va_get (D := (dC, dI)) (ci := 6) (v := .int v_members) (C := RX6) (T := TX6) (N := 11) hx hb htb inG6 hown hK hP 0 rfl rfl 3 (by decide) (htb _ mF_X6_35) (fun _ h9 => h9) rfl dX6_greatestSet_31 ?_
        refine lv_istore_n (lv' := [(2, .int v_members), (0, .ref h0), (1, .int a1)]) hx hb dX6_greatestSet_34 rfl hl (by decide) rfl (fun ls hl => ?_)
        exact L35 F H locs ls v_members v_open hP hD hS (lv_sub hl [1, 0] rfl) hf
      · have hf := oi_f hf c_9
        refine lv_aload_n hx hb dX6_greatestSet_10 rfl (lv_at hl 0 rfl) ?_
        refine va_get (D := (dC, dI)) (ci := 6) (v := .ref h2) (C := RX6) (T := TX6) (N := 11) hx hb htb inG6 hown hK hP 0 rfl rfl 5 (by decide) (htb _ mF_X6_18) (fun _ h9 => h9) rfl dX6_greatestSet_11 ?_
        refine lv_iload_n hx hb dX6_greatestSet_14 rfl (lv_at hl 2 rfl) ?_
        refine lv_dup2_11 hx hb dX6_greatestSet_15 rfl rfl ?_
        obtain ⟨b_10, hf⟩ := og_some hf
        refine va_iald hx hb hK hP 2 1 rfl rfl (vb_ok b_10) dX6_greatestSet_16 ?_
        refine lv_iconst (v := 2) hx hb dX6_greatestSet_17 (by decide) ?_
        refine lv_iload_n hx hb dX6_greatestSet_18 rfl (lv_at hl 1 rfl) ?_
        refine lv_ishl hx hb dX6_greatestSet_19 ?_
        refine lv_iconst (v := 1) hx hb dX6_greatestSet_20 (by decide) ?_
        refine lv_isub hx hb dX6_greatestSet_21 ?_
        refine lv_iand hx hb dX6_greatestSet_22 ?_
        obtain ⟨b_11, hf⟩ := og_some hf
        refine va_iast hx hb hK hP hD hS 2 1 rfl rfl (vb_ok b_11) dX6_greatestSet_23 (fun H locs hP hD hS => ?_)
        generalize ev_open_12 : upd v_open x2.toNatClampNeg ((v_open x2.toNatClampNeg) &&& (((2 : Int32) <<< (a1 &&& 31)) - (1 : Int32))) = v_open_12 at hP hD
        have hf := ol_some hf ev_open_12.symm
        have hP : va_P (dC, dI) vwCl [(h0, .inr (6, [g_town, g_plumes, g_who, .int v_members, .ref h1, .ref h2, g_chosen, g_soonest, .int v_soonestLatest, .int v_soonestSum, .int v_tally])), (h1, .inl (q0, 600, .inl v_clashes)), (h2, .inl (q1, 30, .inl v_open_12))] H := hP
        have hD : va_D A [(h0, .inr (6, [g_town, g_plumes, g_who, .int v_members, .ref h1, .ref h2, g_chosen, g_soonest, .int v_soonestLatest, .int v_soonestSum, .int v_tally])), (h1, .inl (q0, 600, .inl v_clashes)), (h2, .inl (q1, 30, .inl v_open_12))] := hD
        obtain ⟨x2_13, ex2_13⟩ : ∃ y : Int32, y = x2 + 1 := ⟨_, rfl⟩
        refine lv_iinc (v := x2_13) (lv' := [(2, .int x2_13), (0, .ref h0), (1, .int a1)]) hx hb dX6_greatestSet_24 hl (k := 2) rfl (by rw [ex2_13]; rfl) (by decide) rfl (fun ls hl => ?_)
        have hf := ol_some hf ex2_13
        refine lv_goto (tgt := 2) hx hb dX6_greatestSet_27 (by decide) ?_
        exact ih H locs ls x2_13 v_open_12 hP hD hS (lv_sub hl [1, 2, 0] rfl) hf
  suffices K0 : ∀ (H : Heap) (locs : List Loc), va_P (dC, dI) vwCl [(h0, .inr (6, [g_town, g_plumes, g_who, .int v_members, .ref h1, .ref h2, g_chosen, g_soonest, .int v_soonestLatest, .int v_soonestSum, .int v_tally])), (h1, .inl (q0, 600, .inl v_clashes)), (h2, .inl (q1, 30, .inl v_open))] H → va_D A [(h0, .inr (6, [g_town, g_plumes, g_who, .int v_members, .ref h1, .ref h2, g_chosen, g_soonest, .int v_soonestLatest, .int v_soonestSum, .int v_tally])), (h1, .inl (q0, 600, .inl v_clashes)), (h2, .inl (q1, 30, .inl v_open))] → va_S A s.heap H locs → W p l e ({ frames := 11, cells := 0, slots := 0, locals := 273 } : Room) s m ([.ref h0, .int a1] : List Value).toArray below meth c H locs 0 0 Q (F0 m 0 ls []) from K0 s.heap [] hP hD hS
  clear hP hD hS
  intro H locs hP hD hS
  unfold fX6_greatestSet at hf
  refine lv_iconst (v := 0) hx hb dX6_greatestSet_0 (by decide) ?_
  refine lv_istore_n (lv' := [(2, .int (0 : Int32)), (0, .ref h0), (1, .int a1)]) hx hb dX6_greatestSet_1 rfl hl (by decide) rfl (fun ls hl => ?_)
  exact L2 F H locs ls (0 : Int32) v_open hP hD hS (lv_sub hl [1, 2, 0] rfl) hf
def fX6_tallyPlans_L34 (F : Nat) (v_members : Int32) (v_clashes : Nat → Int32) (v_tally : Int32) (v_open : Nat → Int32) : Option (Int32 × Int32 × (Nat → Int32)) := some ((if (100000 : Int32) < v_tally then (100000 : Int32) else v_tally), v_tally, v_open)
def fX6_tallyPlans (F : Nat) (v_members : Int32) (v_tally : Int32) (v_clashes : Nat → Int32) (v_open : Nat → Int32)  : Option (Int32 × Int32 × (Nat → Int32)) := if v_members = 0 then (some ((1 : Int32), v_tally, v_open)) else (ob (fX6_shutSet F v_members v_clashes v_open) (fun o_2 => if o_2.1 = 0 then (ob (fX6_addPlans F v_members v_clashes 8 (0 : Int32) o_2.2 (0 : Int32) (((1 : Int32) <<< (v_members &&& 31)) - (1 : Int32))) (fun o_4 => fX6_tallyPlans_L34 F v_members v_clashes o_4.1 o_4.2)) else (fX6_tallyPlans_L34 F v_members v_clashes (0 : Int32) o_2.2)))
set_option maxRecDepth 100000 in
set_option maxHeartbeats 4000000 in
theorem ctX6_tallyPlans (l : Launch) (dC : Nat → ClassId) (dI : Nat → Nat → Nat) (F sz : Nat) (h0 h1 h2 : Nat) (q0 q1 : ClassId) (g_town : Value) (g_plumes : Value) (g_who : Value) (v_members : Int32) (g_chosen : Value) (g_soonest : Value) (v_soonestLatest : Int32) (v_soonestSum : Int32) (v_tally : Int32) (v_clashes : Nat → Int32) (v_open : Nat → Int32)  (out : Int32 × Int32 × (Nat → Int32)) (hf : fX6_tallyPlans F v_members v_tally v_clashes v_open = some out)  : cM l yX6_tallyPlans cX6_tallyPlans 1 (some .int) ({ frames := 12, cells := 0, slots := 0, locals := 295 } : Room) (dC, dI) [(q0, .int), (q1, .int)] [(h0, .inr (6, [g_town, g_plumes, g_who, .int v_members, .ref h1, .ref h2, g_chosen, g_soonest, .int v_soonestLatest, .int v_soonestSum, .int v_tally])), (h1, .inl (q0, 600, .inl v_clashes)), (h2, .inl (q1, 30, .inl v_open))] [.ref h0] sz (some (.int out.1)) [(h0, .inr (6, [g_town, g_plumes, g_who, .int v_members, .ref h1, .ref h2, g_chosen, g_soonest, .int v_soonestLatest, .int v_soonestSum, .int out.2.1])), (h1, .inl (q0, 600, .inl v_clashes)), (h2, .inl (q1, 30, .inl out.2.2))] := by
  refine cM_I RX6 ⟨by decide, rfl⟩ (Nat.le_of_ble_eq_true rfl) ?_
  intro p e s m below meth c A Q ls hx hb hml hown hts hK hN hA hP hD hS hl hRet
  have htb : ∀ w ∈ lw_g, w.before ([.ref h0] : List Value).toArray s = true := fun w h => hts w (List.mem_cons_of_mem _ h)
  have hl : lv_has ls 1 [(0, .ref h0)] := hl
  have hRet : ∀ (o : Int32 × Int32 × (Nat → Int32)) (H : Heap) (locs : List Loc) (ls : Array Slot) (pc : Nat), o = out → va_P (dC, dI) vwCl [(h0, .inr (6, [g_town, g_plumes, g_who, .int v_members, .ref h1, .ref h2, g_chosen, g_soonest, .int v_soonestLatest, .int v_soonestSum, .int o.2.1])), (h1, .inl (q0, 600, .inl v_clashes)), (h2, .inl (q1, 30, .inl o.2.2))] H → va_D A [(h0, .inr (6, [g_town, g_plumes, g_who, .int v_members, .ref h1, .ref h2, g_chosen, g_soonest, .int v_soonestLatest, .int v_soonestSum, .int o.2.1])), (h1, .inl (q0, 600, .inl v_clashes)), (h2, .inl (q1, 30, .inl o.2.2))] → va_S A s.heap H locs → narrow .int (.int o.1) = .int o.1 → decode cX6_tallyPlans pc = .ok (.ireturn, 1) → W p l e ({ frames := 12, cells := 0, slots := 0, locals := 295 } : Room) s m ([.ref h0] : List Value).toArray below meth c H locs 0 0 Q (F0 m pc ls [.int o.1]) := fun o H locs ls pc ho => by subst ho; exact hRet H locs ls pc
  have L34 : ∀ (H : Heap) (locs : List Loc) (ls : Array Slot) (v_tally : Int32) (v_open : Nat → Int32), va_P (dC, dI) vwCl [(h0, .inr (6, [g_town, g_plumes, g_who, .int v_members, .ref h1, .ref h2, g_chosen, g_soonest, .int v_soonestLatest, .int v_soonestSum, .int v_tally])), (h1, .inl (q0, 600, .inl v_clashes)), (h2, .inl (q1, 30, .inl v_open))] H → va_D A [(h0, .inr (6, [g_town, g_plumes, g_who, .int v_members, .ref h1, .ref h2, g_chosen, g_soonest, .int v_soonestLatest, .int v_soonestSum, .int v_tally])), (h1, .inl (q0, 600, .inl v_clashes)), (h2, .inl (q1, 30, .inl v_open))] → va_S A s.heap H locs → lv_has ls 1 [(0, .ref h0)] → fX6_tallyPlans_L34 F v_members v_clashes v_tally v_open = some out → W p l e ({ frames := 12, cells := 0, slots := 0, locals := 295 } : Room) s m ([.ref h0] : List Value).toArray below meth c H locs 0 0 Q (F0 m 34 ls []) := by
    intro H locs ls v_tally v_open hP hD hS hl hf
    unfold fX6_tallyPlans_L34 at hf
    refine lv_aload_n hx hb dX6_tallyPlans_34 rfl (lv_at hl 0 rfl) ?_
    refine va_get (D := (dC, dI)) (ci := 6) (v := .int v_tally) (C := RX6) (T := TX6) (N := 11) hx hb htb inG6 hown hK hP 0 rfl rfl 10 (by decide) (htb _ mF_X6_125) (fun _ h9 => h9) rfl dX6_tallyPlans_35 ?_
    refine lv_ldc (v := 100000) hx hb hown (htb _ mK_X6_135) dX6_tallyPlans_38 ?_
    refine va_mmin hx hb (hml.trans hl.1.symm) hown (htb _ mM_X6_109) (htb _ mT_J9_min_7cf53) (htb _ mN_J9) (htb _ mC_J9_min_7cf53) (Nat.le_of_ble_eq_true rfl) (Nat.le_of_ble_eq_true rfl) (Nat.zero_le _) (Nat.zero_le _) dX6_tallyPlans_40 ?_
    exact hRet ((if (100000 : Int32) < v_tally then (100000 : Int32) else v_tally), v_tally, v_open) H locs ls 43 (Option.some.inj hf) hP hD hS rfl dX6_tallyPlans_43
  suffices K0 : ∀ (H : Heap) (locs : List Loc), va_P (dC, dI) vwCl [(h0, .inr (6, [g_town, g_plumes, g_who, .int v_members, .ref h1, .ref h2, g_chosen, g_soonest, .int v_soonestLatest, .int v_soonestSum, .int v_tally])), (h1, .inl (q0, 600, .inl v_clashes)), (h2, .inl (q1, 30, .inl v_open))] H → va_D A [(h0, .inr (6, [g_town, g_plumes, g_who, .int v_members, .ref h1, .ref h2, g_chosen, g_soonest, .int v_soonestLatest, .int v_soonestSum, .int v_tally])), (h1, .inl (q0, 600, .inl v_clashes)), (h2, .inl (q1, 30, .inl v_open))] → va_S A s.heap H locs → W p l e ({ frames := 12, cells := 0, slots := 0, locals := 295 } : Room) s m ([.ref h0] : List Value).toArray below meth c H locs 0 0 Q (F0 m 0 ls []) from K0 s.heap [] hP hD hS
  clear hP hD hS
  intro H locs hP hD hS
  unfold fX6_tallyPlans at hf
  refine lv_aload_n hx hb dX6_tallyPlans_0 rfl (lv_at hl 0 rfl) ?_
  refine va_get (D := (dC, dI)) (ci := 6) (v := .int v_members) (C := RX6) (T := TX6) (N := 11) hx hb htb inG6 hown hK hP 0 rfl rfl 3 (by decide) (htb _ mF_X6_35) (fun _ h9 => h9) rfl dX6_tallyPlans_1 ?_
  refine lv_if_ne (tgt := 9) hx hb dX6_tallyPlans_4 (by decide) (fun c_1 => ?_) (fun c_1 => ?_)
  · have hf := oi_f hf c_1
    refine lv_aload_n hx hb dX6_tallyPlans_9 rfl (lv_at hl 0 rfl) ?_
    refine lv_iconst (v := 0) hx hb dX6_tallyPlans_10 (by decide) ?_
    refine va_put (D := (dC, dI)) (ci := 6) (v := .int (0 : Int32)) (ty := .int) (C := RX6) (T := TX6) (N := 11) hx hb htb inG6 tyX6 tyX6_ok nmX6 hown hK hP hD hS 0 rfl rfl 10 (by decide) (htb _ mF_X6_125) (fun _ h9 => h9) rfl (by decide +kernel) rfl rfl (Nat.le_of_ble_eq_true rfl) dX6_tallyPlans_11 (fun H locs hP hD hS => ?_)
    have hP : va_P (dC, dI) vwCl [(h0, .inr (6, [g_town, g_plumes, g_who, .int v_members, .ref h1, .ref h2, g_chosen, g_soonest, .int v_soonestLatest, .int v_soonestSum, .int (0 : Int32)])), (h1, .inl (q0, 600, .inl v_clashes)), (h2, .inl (q1, 30, .inl v_open))] H := hP
    have hD : va_D A [(h0, .inr (6, [g_town, g_plumes, g_who, .int v_members, .ref h1, .ref h2, g_chosen, g_soonest, .int v_soonestLatest, .int v_soonestSum, .int (0 : Int32)])), (h1, .inl (q0, 600, .inl v_clashes)), (h2, .inl (q1, 30, .inl v_open))] := hD
    refine lv_aload_n hx hb dX6_tallyPlans_14 rfl (lv_at hl 0 rfl) ?_
    obtain ⟨o_2, ho_2, hf⟩ := ob_some hf
    refine ca_V (As := []) (rest := []) (wr := []) (wn := [(h0, .inr (6, [g_town, g_plumes, g_who, .int v_members, .ref h1, .ref h2, g_chosen, g_soonest, .int v_soonestLatest, .int v_soonestSum, .int (0 : Int32)])), (h1, .inl (q0, 600, .inl v_clashes)), (h2, .inl (q1, 30, .inl o_2.2))]) ⟨hx, hb, hml, hown, hts⟩ (ctX6_shutSet l dC dI F H.size h0 h1 h2 q0 q1 (g_town) (g_plumes) (g_who) v_members (g_chosen) (g_soonest) v_soonestLatest v_soonestSum (0 : Int32) v_clashes v_open o_2 ho_2) ⟨mC_X6_shutSet, mN_X6, md_X6_shutSet, ⟨rfl, rfl⟩, ⟨Nat.le_of_ble_eq_true rfl, Nat.le_of_ble_eq_true rfl⟩⟩ mM_X6_128 mI_X6_shutSet mS_X6_shutSet hK hN hP hD hS hA [0, 1] [0, 1, 2] [] [0, 1, 2] rfl rfl rfl ⟨by decide, by decide, by decide, by decide⟩ rfl 0 6 rfl rfl rfl hl.1 (Nat.le_of_ble_eq_true rfl) ⟨Nat.zero_le _, Nat.zero_le _⟩ dX6_tallyPlans_15 (fun H locs hP hD hS => ?_)
    refine lv_if_ne (tgt := 34) hx hb dX6_tallyPlans_18 (by decide) (fun c_3 => ?_) (fun c_3 => ?_)
    · have hf := oi_f hf c_3
      exact L34 H locs ls (0 : Int32) o_2.2 hP hD hS (lv_sub hl [0] rfl) hf
    · have hf := oi_t hf c_3
      refine lv_aload_n hx hb dX6_tallyPlans_21 rfl (lv_at hl 0 rfl) ?_
      refine lv_iconst (v := 0) hx hb dX6_tallyPlans_22 (by decide) ?_
      refine lv_iconst (v := 1) hx hb dX6_tallyPlans_23 (by decide) ?_
      refine lv_aload_n hx hb dX6_tallyPlans_24 rfl (lv_at hl 0 rfl) ?_
      refine va_get (D := (dC, dI)) (ci := 6) (v := .int v_members) (C := RX6) (T := TX6) (N := 11) hx hb htb inG6 hown hK hP 0 rfl rfl 3 (by decide) (htb _ mF_X6_35) (fun _ h9 => h9) rfl dX6_tallyPlans_25 ?_
      refine lv_ishl hx hb dX6_tallyPlans_28 ?_
      refine lv_iconst (v := 1) hx hb dX6_tallyPlans_29 (by decide) ?_
      refine lv_isub hx hb dX6_tallyPlans_30 ?_
      obtain ⟨o_4, ho_4, hf⟩ := ob_some hf
      refine ca_V (As := [.int (0 : Int32), .int (((1 : Int32) <<< (v_members &&& 31)) - (1 : Int32))]) (rest := []) (wr := []) (wn := [(h0, .inr (6, [g_town, g_plumes, g_who, .int v_members, .ref h1, .ref h2, g_chosen, g_soonest, .int v_soonestLatest, .int v_soonestSum, .int o_4.1])), (h1, .inl (q0, 600, .inl v_clashes)), (h2, .inl (q1, 30, .inl o_4.2))]) ⟨hx, hb, hml, hown, hts⟩ (ctX6_addPlans l dC dI F h0 h1 h2 q0 q1 (g_town) (g_plumes) (g_who) v_members (g_chosen) (g_soonest) v_soonestLatest v_soonestSum v_clashes 8 H.size (0 : Int32) o_2.2 (0 : Int32) (((1 : Int32) <<< (v_members &&& 31)) - (1 : Int32)) o_4 ho_4) ⟨mC_X6_addPlans, mN_X6, md_X6_addPlans, ⟨rfl, rfl⟩, ⟨Nat.le_of_ble_eq_true rfl, Nat.le_of_ble_eq_true rfl⟩⟩ mM_X6_132 mI_X6_addPlans mS_X6_addPlans hK hN hP hD hS hA [0, 1] [0, 1, 2] [] [0, 1, 2] rfl rfl rfl ⟨by decide, by decide, by decide, by decide⟩ rfl 0 6 rfl rfl rfl hl.1 (Nat.le_of_ble_eq_true rfl) ⟨Nat.zero_le _, Nat.zero_le _⟩ dX6_tallyPlans_31 (fun H locs hP hD hS => ?_)
      exact L34 H locs ls o_4.1 o_4.2 hP hD hS (lv_sub hl [0] rfl) hf
  · have hf := oi_t hf c_1
    refine lv_iconst (v := 1) hx hb dX6_tallyPlans_7 (by decide) ?_
    exact hRet ((1 : Int32), v_tally, v_open) H locs ls 8 (Option.some.inj hf) hP hD hS rfl dX6_tallyPlans_8
