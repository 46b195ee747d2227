theorem cM_R {l : Launch} {y : MethodName} {b : ByteArray} {n : Nat} {rt : FieldType} {rm : Room} {D : va_G} {tys : List (ClassId × FieldType)} {ws : va_W} {av : List Value} {sz : Nat} {v : Value} {w1 : va_W} (own : String) (hy : plainName y.cls = true ∧ y.cls = own) (hav : (lg_sl av).length ≤ n) (hrt : (∃ n, rt = .object n) ∨ ∃ t, rt = .array t) (hvv : v = .null ∨ ∃ a, v = .ref a)
    (body : ∀ (p : Program) (e : Env) (s : State) (m : MethodId) (below : List Frame) (meth : Method) (c : Code) (A : Nat → Prop) (Q : State → Prop) (ls : Array Slot), p.tables.exec = Jvm.exec → c.code = b → c.maxLocals = n → s.vm.findClass own = some m.cls → (∀ w ∈ wU y b n (some rt), w.before av.toArray s = true) → va_K D vwCl tys s → nw s → (∀ q, s.heap.size ≤ q → A q) → va_P D vwCl ws s.heap → va_D A ws → va_S A s.heap s.heap [] → lv_has ls n (lv_args 0 av) →
      (∀ (H : Heap) (locs : List Loc) (ls : Array Slot) (pc : Nat), va_P D vwCl w1 H → va_D A w1 → va_S A s.heap H locs → decode b pc = .ok (.areturn, 1) → W p l e rm s m av.toArray below meth c H locs 0 0 Q (F0 m pc ls [v])) →
      W p l e rm s m av.toArray below meth c s.heap [] 0 0 Q (F0 m 0 ls [])) : cM l y b n (some rt) rm D tys ws av sz (some v) w1 := by
  refine Met.ofW (cc := b) (maxL := n) (ret := (some rt)) hy.1 rfl ?_
  intro p e s m args below meth c s₁ B hml hv
  obtain ⟨rfl, hsz, hP, hK, hN, hD0⟩ := hv
  have hts := atoms_spec (ws := wU y b n (some rt)) B.pre
  have hown : s.vm.findClass own = some m.cls := by rw [← hy.2]; exact findClass_of_methodNamed B.named
  have hlocks := B.notSynchronized
  subst hsz
  have hl := lv_entry av (n := n) hav
  rw [lg_entry_eq]
  refine body p e s m below meth c (va_A ws s.heap.size) _ _ B.exec B.bytes hml hown hts hK hN (fun q h => Or.inr h) hP (hD0.self (sz := s.heap.size)) va_S.rf hl ?_
  intro H locs ls pc hP1 hD1 hS hdg
  exact W.aret (v := v) B.exec B.bytes B.returns hrt hvv (fun t ht hW => ⟨rfl, ⟨by rw [ht]; exact hP1, va_K.moved hW.alike hK, hD1⟩, hS.F ht⟩) hS.2.2 hdg
theorem ctX9_rowAt_r (l : Launch) (dC : Nat → ClassId) (dI : Nat → Nat → Nat) (sz : Nat) (h0 h1 : Nat) (q0 : ClassId) (g_tape : Value) (v_taped : Int32) (g_here : Value) (g_reader : Value) (g_toldWinds : Value) (g_plumes : Value) (g_otherWinds : Value) (g_otherPlumes : Value) (g_court : Value) (g_seeker : Value) (g_days : Value) (g_forecast : Value) (g_images : Value) (g_pairCodes : Value) (g_sootRow : Value) (g_smokyCells : Value) (v_rows : Nat → Option Nat) (a1 : Int32) (r : Nat) (hv : vb a1 4 = true) (hr : v_rows a1.toNatClampNeg = some r) : cM l yX9_rowAt cX9_rowAt 2 (some (.object "SmokesApart$NumberRow")) ({ frames := 0, cells := 0, slots := 0, locals := 0 } : Room) (dC, dI) [(q0, .object "SmokesApart$NumberRow")] [(h0, .inr (9, [g_tape, .int v_taped, g_here, g_reader, g_toldWinds, g_plumes, g_otherWinds, g_otherPlumes, g_court, g_seeker, g_days, g_forecast, .ref h1, g_images, g_pairCodes, g_sootRow, g_smokyCells])), (h1, .inl (q0, 4, .inr (.inr (.inr (.inr v_rows)))))] [.ref h0, .int a1] sz (some (.ref r)) [(h0, .inr (9, [g_tape, .int v_taped, g_here, g_reader, g_toldWinds, g_plumes, g_otherWinds, g_otherPlumes, g_court, g_seeker, g_days, g_forecast, .ref h1, g_images, g_pairCodes, g_sootRow, g_smokyCells])), (h1, .inl (q0, 4, .inr (.inr (.inr (.inr v_rows)))))] := by
  refine cM_R RX9 ⟨by decide, rfl⟩ (Nat.le_of_ble_eq_true rfl) (Or.inl ⟨_, rfl⟩) (Or.inr ⟨_, rfl⟩) ?_
  intro p e s m below meth c A Q ls hx hb hml hown hts hK hN hA hP hD hS hl hRet
  have htb : ∀ w ∈ lw_g, w.before ([.ref h0, .int a1] : List Value).toArray s = true := fun w h => hts w (List.mem_cons_of_mem _ h)
  have hl : lv_has ls 2 [(0, .ref h0), (1, .int a1)] := hl
  have hv2 := vb_ok hv
  have h3 : ¬ a1 < 0 := fun q => hv2 (Or.inl q)
  have h4 : ¬ 4 ≤ a1 := fun q => hv2 (Or.inr (by
    have h5 : a1.toInt ≥ 4 := by have := Int32.le_iff_toInt_le.mp q; simpa using this
    have h6 : (a1.toNatClampNeg : Int) = a1.toInt := by
      have h7 : 0 ≤ a1.toInt := by omega
      exact Int.toNat_of_nonneg h7
    omega))
  refine lv_iload_n hx hb dX9_rowAt_0 rfl (lv_at hl 1 rfl) ?_
  refine lv_if_lt (tgt := 18) hx hb dX9_rowAt_1 (by decide) (fun c1 => absurd c1 h3) (fun c1 => ?_)
  refine lv_iload_n hx hb dX9_rowAt_4 rfl (lv_at hl 1 rfl) ?_
  refine lv_iconst (v := 4) hx hb dX9_rowAt_5 (by decide) ?_
  refine lv_icmp_ge (tgt := 18) hx hb dX9_rowAt_6 (by decide) (fun c2 => absurd c2 h4) (fun c2 => ?_)
  refine lv_aload_n hx hb dX9_rowAt_9 rfl (lv_at hl 0 rfl) ?_
  refine va_get (D := (dC, dI)) (ci := 9) (v := .ref h1) (C := RX9) (T := TX9) (N := 17) hx hb htb inG9 hown hK hP 0 rfl rfl 12 (by decide) (htb _ mF_X9_83) (fun _ h9 => h9) rfl dX9_rowAt_10 ?_
  refine lv_iload_n hx hb dX9_rowAt_13 rfl (lv_at hl 1 rfl) ?_
  refine va_aldq hx hb hK hP 1 0 rfl rfl (vb_ok hv) dX9_rowAt_14 ?_
  refine W.eq (g2 := F0 m 15 ls [.ref r]) (by rw [hr]; rfl) ?_
  refine lv_goto (tgt := 19) hx hb dX9_rowAt_15 (by decide) ?_
  exact hRet _ _ ls 19 hP hD hS dX9_rowAt_19
theorem ctX9_rowAt_n (l : Launch) (dC : Nat → ClassId) (dI : Nat → Nat → Nat) (sz : Nat) (h0 : Nat) (g_tape : Value) (v_taped : Int32) (g_here : Value) (g_reader : Value) (g_toldWinds : Value) (g_plumes : Value) (g_otherWinds : Value) (g_otherPlumes : Value) (g_court : Value) (g_seeker : Value) (g_days : Value) (g_forecast : Value) (g_rows : Value) (g_images : Value) (g_pairCodes : Value) (g_sootRow : Value) (g_smokyCells : Value) (a1 : Int32) (hv : vb a1 4 = false) : cM l yX9_rowAt cX9_rowAt 2 (some (.object "SmokesApart$NumberRow")) ({ frames := 0, cells := 0, slots := 0, locals := 0 } : Room) (dC, dI) [] [(h0, .inr (9, [g_tape, .int v_taped, g_here, g_reader, g_toldWinds, g_plumes, g_otherWinds, g_otherPlumes, g_court, g_seeker, g_days, g_forecast, g_rows, g_images, g_pairCodes, g_sootRow, g_smokyCells]))] [.ref h0, .int a1] sz (some .null) [(h0, .inr (9, [g_tape, .int v_taped, g_here, g_reader, g_toldWinds, g_plumes, g_otherWinds, g_otherPlumes, g_court, g_seeker, g_days, g_forecast, g_rows, g_images, g_pairCodes, g_sootRow, g_smokyCells]))] := by
  refine cM_R RX9 ⟨by decide, rfl⟩ (Nat.le_of_ble_eq_true rfl) (Or.inl ⟨_, rfl⟩) (Or.inl rfl) ?_
  intro p e s m below meth c A Q ls hx hb hml hown hts hK hN hA hP hD hS hl hRet
  have htb : ∀ w ∈ lw_g, w.before ([.ref h0, .int a1] : List Value).toArray s = true := fun w h => hts w (List.mem_cons_of_mem _ h)
  have hl : lv_has ls 2 [(0, .ref h0), (1, .int a1)] := hl
  refine lv_iload_n hx hb dX9_rowAt_0 rfl (lv_at hl 1 rfl) ?_
  refine lv_if_lt (tgt := 18) hx hb dX9_rowAt_1 (by decide) (fun c1 => ?_) (fun c1 => ?_)
  · refine lv_null hx hb dX9_rowAt_18 ?_
    exact hRet _ _ ls 19 hP hD hS dX9_rowAt_19
  · refine lv_iload_n hx hb dX9_rowAt_4 rfl (lv_at hl 1 rfl) ?_
    refine lv_iconst (v := 4) hx hb dX9_rowAt_5 (by decide) ?_
    refine lv_icmp_ge (tgt := 18) hx hb dX9_rowAt_6 (by decide) (fun c2 => ?_) (fun c2 => ?_)
    · refine lv_null hx hb dX9_rowAt_18 ?_
      exact hRet _ _ ls 19 hP hD hS dX9_rowAt_19
    · have h4 : a1.toNatClampNeg < 4 := by
        have h5 : ¬ (4 : Int) ≤ a1.toInt := fun q => c2 (Int32.le_iff_toInt_le.mpr (by simpa using q))
        show a1.toInt.toNat < 4
        omega
      simp [vb, c1, h4] at hv
