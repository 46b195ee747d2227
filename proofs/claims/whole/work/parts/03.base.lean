/-! the words that bear a nest mate's link: they ride beside va_K in each contract -/
def nw (U : State) : Prop := va_Nw (.methodLinkNest RX4 90 yX9_isX "SmokesApart") U ∧ va_Nw (.methodLinkNest RX2 66 yX9_isLightingQuarter "SmokesApart") U ∧ va_Nw (.methodLinkNest RX9 22 yX5_init "SmokesApart") U ∧ va_Nw (.methodLinkNest RX9 29 yX8_init "SmokesApart") U ∧ va_Nw (.methodLinkNest RX9 102 yX3_init "SmokesApart") U
theorem nw.same {u U : State} (h : u.vm = U.vm) (hZ : nw u) : nw U := ⟨va_Nw.same rfl h hZ.1, va_Nw.same rfl h hZ.2.1, va_Nw.same rfl h hZ.2.2.1, va_Nw.same rfl h hZ.2.2.2.1, va_Nw.same rfl h hZ.2.2.2.2⟩
theorem nw.warm {s U : State} (hW : s.WarmedH U.vm) (hZ : nw s) : nw U := ⟨va_Nw.warmM hW hZ.1, va_Nw.warmM hW hZ.2.1, va_Nw.warmM hW hZ.2.2.1, va_Nw.warmM hW hZ.2.2.2.1, va_Nw.warmM hW hZ.2.2.2.2⟩
/-! pure steps of a function that may stop -/
def ob {α β : Type} (x : Option α) (k : α → Option β) : Option β := match x with
  | some a => k a
  | none => none
def og {β : Type} (b : Bool) (k : Option β) : Option β := match b with
  | true => k
  | false => none
def ol {α β : Type} (a : α) (k : α → Option β) : Option β := k a
theorem ob_some {α β : Type} {x : Option α} {k : α → Option β} {r : β} (h : ob x k = some r) : ∃ a, x = some a ∧ k a = some r := by
  cases x with
  | none => cases h
  | some a => exact ⟨a, rfl, h⟩
theorem og_some {β : Type} {b : Bool} {k : Option β} {r : β} (h : og b k = some r) : b = true ∧ k = some r := by
  cases b with
  | false => cases h
  | true => exact ⟨rfl, h⟩
theorem ol_some {α β : Type} {a b : α} {k : α → Option β} {r : β} (h : ol a k = some r) (e : b = a) : k b = some r := by
  rw [e]; exact h
theorem oi_t {β : Type} {c : Prop} {i : Decidable c} {x y : Option β} {r : β} (h : @ite _ c i x y = some r) (hc : c) : x = some r := by
  rw [if_pos hc] at h; exact h
theorem oi_f {β : Type} {c : Prop} {i : Decidable c} {x y : Option β} {r : β} (h : @ite _ c i x y = some r) (hc : ¬ c) : y = some r := by
  rw [if_neg hc] at h; exact h
def vb (i : Int32) (n : Nat) : Bool := !decide (i < 0) && decide (i.toNatClampNeg < n)
theorem vb_ok {i : Int32} {n : Nat} (h : vb i n = true) : vp_in i n := by
  simp [vb] at h
  intro q
  rcases q with q | q
  · exact absurd q (by simpa using h.1)
  · omega
def zb (v : Int32) : Bool := decide (v = 0) || decide (v = 1)
theorem zb_ok {v : Int32} (h : zb v = true) : narrow .boolean (.int v) = .int v := by
  simp [zb] at h
  rcases h with rfl | rfl <;> rfl
theorem fm_of {ws wc : va_W} {is : List Nat} (h : is.map (fun i => ws[i]?) = wc.map some) : is.filterMap (fun i => ws[i]?) = wc := by
  have h1 : is.filterMap (fun i => ws[i]?) = (is.map (fun i => ws[i]?)).filterMap id := by rw [List.filterMap_map]; rfl
  rw [h1, h, List.filterMap_map]
  induction wc with
  | nil => rfl
  | cons a t _ => simp
/-! contracts -/
def cPre (D : va_G) (tys : List (ClassId × FieldType)) (ws : va_W) (av : List Value) (sz : Nat) : Array Value → State → Prop := va_Pc av (fun U => U.heap.size = sz ∧ va_P D vwCl ws U.heap ∧ va_K D vwCl tys U ∧ nw U ∧ va_D (fun _ => True) ws)
def cQ (ov : Option Value) (D : va_G) (tys : List (ClassId × FieldType)) (w1 ws : va_W) (sz : Nat) : Array Value → State → Outcome → State → Prop := fun _ st oc t => oc = .returned ov ∧ (va_P D vwCl w1 t.heap ∧ va_K D vwCl tys t ∧ va_D (va_A ws sz) w1) ∧ va_F (va_A ws sz) st t
def cM (l : Launch) (y : MethodName) (b : ByteArray) (n : Nat) (r : Option FieldType) (rm : Room) (D : va_G) (tys : List (ClassId × FieldType)) (ws : va_W) (av : List Value) (sz : Nat) (ov : Option Value) (w1 : va_W) : Prop := Met l y (wU y b n r) rm (cPre D tys ws av sz) (cQ ov D tys w1 ws sz) 0 0 (va_A ws sz)
theorem cPre_blind {D : va_G} {tys : List (ClassId × FieldType)} {ws : va_W} {av : List Value} {sz : Nat} : FrameBlind (cPre D tys ws av sz) := fun a U g mk q => by
  obtain ⟨q0, q1, qP, qK, qN, qD⟩ := q
  exact ⟨q0, q1, qP, va_K.moved (u := U) (U := U.calling g mk a) (Vm.Alike.refl U.vm) qK, nw.same (u := U) rfl qN, qD⟩
/-- what a walk stands on -/
def cX (p : Program) (m : MethodId) (c : Code) (cc : ByteArray) (nL : Nat) (s : State) (args : Array Value) (y : MethodName) (r : Option FieldType) (own : String) : Prop := CallFix p m c cc nL s args (wU y cc nL r) own
section Base
variable {p : Program} {l : Launch} {e : Env} {R : Room} {s : State} {m : MethodId} {args : Array Value} {below : List Frame} {meth : Method} {c : Code} {H : Heap} {locs : List Loc} {cells slots : Nat} {Q : State → Prop}
theorem ca_go {D : va_G} {tysC : List (ClassId × FieldType)} {ws wc wr w1 wn : va_W} {a0 : Array Value} {ov : Option Value} {A : Nat → Prop} {pc : Nat} {ls : Array Slot} {st0 rest : List Value}
    (isC isR isN : List Nat) (hr : va_Run p l e R s m args below meth c H locs cells slots 0 0 (F0 m pc ls st0) rest (cQ ov D tysC w1 wc H.size a0) (va_A wc H.size))
    (hP : va_P D vwCl ws H) (hD : va_D A ws) (hS : va_S A s.heap H locs) (hA : ∀ q, s.heap.size ≤ q → A q)
    (hC : isC.map (fun i => ws[i]?) = wc.map some) (hR : isR.map (fun i => ws[i]?) = wr.map some) (hdis : va_nd isR = true ∧ (∀ i ∈ isR, i ∉ isC) ∧ va_nd isN = true) (hn : isN.map (fun i => (wr ++ w1)[i]?) = wn.map some)
    (kk : ∀ (H1 : Heap) (locs1 : List Loc), va_P D vwCl wn H1 → va_D A wn → va_S A s.heap H1 locs1 → W p l e R s m args below meth c H1 locs1 cells slots Q (F0 m (pc + 3) ls (ov.toList ++ rest))) : W p l e R s m args below meth c H locs cells slots Q (F0 m pc ls st0) := by
  have hF := va_free hD hS hA isC hC
  intro T hT X
  obtain ⟨v, st₀, t, T', L, h0, X', hL, e1, e2, ⟨hv, ⟨hP1, hK1, hD1⟩, hz, hk⟩, st⟩ := hr T hT X
  cases hv
  rw [h0] at hz hk
  have hk1 : ∀ q : Nat, q < H.size → ¬ va_A wc H.size q → T'.heap[q]? = H[q]? := fun q h1 h2 => by rw [e1]; exact hk q h1 h2
  obtain ⟨hPj, hDj⟩ := va_join hP hD isC isR hC hR hdis.1 hdis.2.1 hk1 hF (by rw [e1]; exact hP1) hD1
  obtain ⟨t2, a1, b1⟩ := kk T'.heap (locs ++ L) (hPj.sub isN (fm_of hn)) (hDj.sub isN hdis.2.2 hn)
    ⟨Nat.le_trans hS.1 (by rw [e1]; exact hz), fun q h1 h2 => by rw [e1, hk q (Nat.lt_of_lt_of_le h1 hS.1) (fun z => h2 (hF q z))]; exact hS.2.1 q h1 h2, fun q hq => by
      rcases List.mem_append.mp hq with h | h
      · exact hS.2.2 q h
      · exact hF _ (hL q h)⟩ T' rfl X'
  exact ⟨t2, st t2 a1, b1⟩
/-- what a call asks of its method and of the tables -/
def cOk (R : Room) (y : MethodName) (b : ByteArray) (maxL : Nat) (ret : Option FieldType) (rm : Room) (n : Nat) : Prop := Cond.code y b maxL ret ∈ lw_g ∧ Cond.initialized y.cls ∈ lw_g ∧ (y.cls ≠ "java/lang/invoke/MethodHandle" ∧ y.cls ≠ "java/lang/invoke/VarHandle" ∧ (parseMethodDescriptor y.desc).map (fun d => d.parameters.length) = some n) ∧ (rm.cells = 0 ∧ rm.slots = 0) ∧ (rm.frames + 1 ≤ R.frames ∧ 8 + (maxL + 11) + rm.locals ≤ R.locals)
theorem ca_V {D : va_G} {tys tysC : List (ClassId × FieldType)} {ws wc wr w1 wn : va_W} {ov : Option Value} {A : Nat → Prop} {pc : Nat} {ls : Array Slot} {rest As : List Value} {y0 y : MethodName} {cc b : ByteArray} {nL maxL n index : Nat} {r0 ret : Option FieldType} {own C : String} {rm : Room} {a : Nat}
    (X : CallFix p m c cc nL s args (wU y0 cc nL r0) own) (hM : cM l y b maxL ret rm D tysC wc (.ref a :: As) H.size ov w1) (hok : cOk R y b maxL ret rm n) (h1 : Cond.methodLink own index y ∈ lw_g) (h2 : Cond.instanceMethod y ∈ lw_g) (h3 : Cond.selects C y y ∈ lw_g)
    (hK : va_K D vwCl tys s) (hN : nw s) (hP : va_P D vwCl ws H) (hD : va_D A ws) (hS : va_S A s.heap H locs) (hA : ∀ q, s.heap.size ≤ q → A q)
    (isT isC isR isN : List Nat) (hT : isT.filterMap (fun i => tys[i]?) = tysC) (hC : isC.map (fun i => ws[i]?) = wc.map some) (hR : isR.map (fun i => ws[i]?) = wr.map some) (hdis : va_nd isC = true ∧ va_nd isR = true ∧ (∀ i ∈ isR, i ∉ isC) ∧ va_nd isN = true) (hn : isN.map (fun i => (wr ++ w1)[i]?) = wn.map some)
    (q0 ci : Nat) {fs : List Value} {T : u_T} {N : Nat} (he : wc[q0]? = some (a, .inr (ci, fs))) (hcl : vwCl[ci]? = some (C, T, N)) (hlen : As.length = n) (hsize : ls.size = nL) (hst : (rest.map fun v => v.category).sum ≤ 8) (hcr : cells ≤ R.cells ∧ slots ≤ R.slots) (hdg : decode cc pc = .ok (.invokevirtual index, 3))
    (kk : ∀ (H1 : Heap) (locs1 : List Loc), va_P D vwCl wn H1 → va_D A wn → va_S A s.heap H1 locs1 → W p l e R s m args below meth c H1 locs1 cells slots Q (F0 m (pc + 3) ls (ov.toList ++ rest))) : W p l e R s m args below meth c H locs cells slots Q (F0 m pc ls (As.reverse ++ .ref a :: rest)) := by
  have ht := X.2.2.2.2
  have htg : ∀ w ∈ lw_g, w.before args s = true := fun w h => ht w (List.mem_cons_of_mem _ h)
  have hPc := hP.sub isC (fm_of hC)
  have hDc := hD.sub isC hdis.1 hC
  have hKc := hK.sub isT hT
  refine ca_go (wr := wr) (wn := wn) isC isR isN (va_runV (n := n) X hM ⟨callB_of n ht (gU hok.1) rfl hok.2.2.2.1.1 hok.2.2.2.1.2 (htg _ hok.2.1) (htg _ h1) hok.2.2.1 hok.2.2.2.2, htg _ h2, htg _ h3⟩ ⟨cPre_blind, va_recv hKc hPc hcl he, fun U hU hW => ⟨rfl, by rw [hU], by rw [hU]; exact hPc, va_K.moved hW.alike hKc, nw.warm hW hN, hDc.weaken (fun _ _ _ _ => trivial)⟩⟩ rfl hlen hsize rfl (lv_room hst) hdg ⟨hcr.1, hcr.2⟩) hP hD hS hA hC hR hdis.2 hn kk
theorem ca_S {D : va_G} {tys tysC : List (ClassId × FieldType)} {ws wc wr w1 wn : va_W} {ov : Option Value} {A : Nat → Prop} {pc : Nat} {ls : Array Slot} {rest As : List Value} {y0 y : MethodName} {cc b : ByteArray} {nL maxL n index : Nat} {r0 ret : Option FieldType} {own : String} {rm : Room}
    (X : CallFix p m c cc nL s args (wU y0 cc nL r0) own) (hM : cM l y b maxL ret rm D tysC wc As H.size ov w1) (hok : cOk R y b maxL ret rm n) (h1 : Cond.methodLink own index y ∈ lw_g) (h2 : Cond.static y ∈ lw_g)
    (hK : va_K D vwCl tys s) (hN : nw s) (hP : va_P D vwCl ws H) (hD : va_D A ws) (hS : va_S A s.heap H locs) (hA : ∀ q, s.heap.size ≤ q → A q)
    (isT isC isR isN : List Nat) (hT : isT.filterMap (fun i => tys[i]?) = tysC) (hC : isC.map (fun i => ws[i]?) = wc.map some) (hR : isR.map (fun i => ws[i]?) = wr.map some) (hdis : va_nd isC = true ∧ va_nd isR = true ∧ (∀ i ∈ isR, i ∉ isC) ∧ va_nd isN = true) (hn : isN.map (fun i => (wr ++ w1)[i]?) = wn.map some)
    (hlen : As.length = n) (hsize : ls.size = nL) (hst : (rest.map fun v => v.category).sum ≤ 8) (hcr : cells ≤ R.cells ∧ slots ≤ R.slots) (hdg : decode cc pc = .ok (.invokestatic index, 3))
    (kk : ∀ (H1 : Heap) (locs1 : List Loc), va_P D vwCl wn H1 → va_D A wn → va_S A s.heap H1 locs1 → W p l e R s m args below meth c H1 locs1 cells slots Q (F0 m (pc + 3) ls (ov.toList ++ rest))) : W p l e R s m args below meth c H locs cells slots Q (F0 m pc ls (As.reverse ++ rest)) := by
  have ht := X.2.2.2.2
  have htg : ∀ w ∈ lw_g, w.before args s = true := fun w h => ht w (List.mem_cons_of_mem _ h)
  have hPc := hP.sub isC (fm_of hC)
  have hDc := hD.sub isC hdis.1 hC
  have hKc := hK.sub isT hT
  refine ca_go (wr := wr) (wn := wn) isC isR isN (va_runS (n := n) X hM ⟨callB_of n ht (gU hok.1) rfl hok.2.2.2.1.1 hok.2.2.2.1.2 (htg _ hok.2.1) (htg _ h1) hok.2.2.1 hok.2.2.2.2, htg _ h2⟩ ⟨cPre_blind, fun U hU hW => ⟨rfl, by rw [hU], by rw [hU]; exact hPc, va_K.moved hW.alike hKc, nw.warm hW hN, hDc.weaken (fun _ _ _ _ => trivial)⟩⟩ rfl hlen hsize rfl (lv_room hst) hdg ⟨hcr.1, hcr.2⟩) hP hD hS hA hC hR hdis.2 hn kk
theorem ca_SN {D : va_G} {tys tysC : List (ClassId × FieldType)} {ws wc wr w1 wn : va_W} {ov : Option Value} {A : Nat → Prop} {pc : Nat} {ls : Array Slot} {rest As : List Value} {y0 y : MethodName} {cc b : ByteArray} {nL maxL n index : Nat} {r0 ret : Option FieldType} {own host : String} {rm : Room}
    (X : CallFix p m c cc nL s args (wU y0 cc nL r0) own) (hM : cM l y b maxL ret rm D tysC wc As H.size ov w1) (hok : cOk R y b maxL ret rm n) (h1 : va_Nw (.methodLinkNest own index y host) s) (h2 : Cond.static y ∈ lw_g)
    (hK : va_K D vwCl tys s) (hN : nw s) (hP : va_P D vwCl ws H) (hD : va_D A ws) (hS : va_S A s.heap H locs) (hA : ∀ q, s.heap.size ≤ q → A q)
    (isT isC isR isN : List Nat) (hT : isT.filterMap (fun i => tys[i]?) = tysC) (hC : isC.map (fun i => ws[i]?) = wc.map some) (hR : isR.map (fun i => ws[i]?) = wr.map some) (hdis : va_nd isC = true ∧ va_nd isR = true ∧ (∀ i ∈ isR, i ∉ isC) ∧ va_nd isN = true) (hn : isN.map (fun i => (wr ++ w1)[i]?) = wn.map some)
    (hlen : As.length = n) (hsize : ls.size = nL) (hst : (rest.map fun v => v.category).sum ≤ 8) (hcr : cells ≤ R.cells ∧ slots ≤ R.slots) (hdg : decode cc pc = .ok (.invokestatic index, 3))
    (kk : ∀ (H1 : Heap) (locs1 : List Loc), va_P D vwCl wn H1 → va_D A wn → va_S A s.heap H1 locs1 → W p l e R s m args below meth c H1 locs1 cells slots Q (F0 m (pc + 3) ls (ov.toList ++ rest))) : W p l e R s m args below meth c H locs cells slots Q (F0 m pc ls (As.reverse ++ rest)) := by
  have ht := X.2.2.2.2
  have htg : ∀ w ∈ lw_g, w.before args s = true := fun w h => ht w (List.mem_cons_of_mem _ h)
  have hPc := hP.sub isC (fm_of hC)
  have hDc := hD.sub isC hdis.1 hC
  have hKc := hK.sub isT hT
  refine ca_go (wr := wr) (wn := wn) isC isR isN (va_runSN (n := n) X hM ⟨va_cnB n ht (gU hok.1) rfl hok.2.2.2.1.1 hok.2.2.2.1.2 h1 (htg _ hok.2.1) hok.2.2.1 hok.2.2.2.2, htg _ h2, trivial⟩ ⟨cPre_blind, fun U hU hW => ⟨rfl, by rw [hU], by rw [hU]; exact hPc, va_K.moved hW.alike hKc, nw.warm hW hN, hDc.weaken (fun _ _ _ _ => trivial)⟩⟩ rfl hlen hsize rfl (lv_room hst) hdg ⟨hcr.1, hcr.2⟩) hP hD hS hA hC hR hdis.2 hn kk
end Base
/-- the walk of a method of ints, out of which its contract is made -/
theorem cM_I {l : Launch} {y : MethodName} {b : ByteArray} {n : Nat} {rt : FieldType} {rm : Room} {D : va_G} {tys : List (ClassId × FieldType)} {ws : va_W} {av : List Value} {sz : Nat} {v : Int32} {w1 : va_W} (own : String) (hy : plainName y.cls = true ∧ y.cls = own) (hav : (lg_sl av).length ≤ n)
    (body : ∀ (p : Program) (e : Env) (s : State) (m : MethodId) (below : List Frame) (meth : Method) (c : Code) (A : Nat → Prop) (Q : State → Prop) (ls : Array Slot), p.tables.exec = Jvm.exec → c.code = b → c.maxLocals = n → s.vm.findClass own = some m.cls → (∀ w ∈ wU y b n (some rt), w.before av.toArray s = true) → va_K D vwCl tys s → nw s → (∀ q, s.heap.size ≤ q → A q) → va_P D vwCl ws s.heap → va_D A ws → va_S A s.heap s.heap [] → lv_has ls n (lv_args 0 av) →
      (∀ (H : Heap) (locs : List Loc) (ls : Array Slot) (pc : Nat), va_P D vwCl w1 H → va_D A w1 → va_S A s.heap H locs → narrow rt (.int v) = .int v → decode b pc = .ok (.ireturn, 1) → W p l e rm s m av.toArray below meth c H locs 0 0 Q (F0 m pc ls [.int v])) →
      W p l e rm s m av.toArray below meth c s.heap [] 0 0 Q (F0 m 0 ls [])) : cM l y b n (some rt) rm D tys ws av sz (some (.int v)) w1 := by
  refine Met.ofW (cc := b) (maxL := n) (ret := (some rt)) hy.1 rfl ?_
  intro p e s m args below meth c s₁ B hml hv
  obtain ⟨rfl, hsz, hP, hK, hN, hD0⟩ := hv
  have hts := atoms_spec (ws := wU y b n (some rt)) B.pre
  have hown : s.vm.findClass own = some m.cls := by rw [← hy.2]; exact findClass_of_methodNamed B.named
  have hlocks := B.notSynchronized
  subst hsz
  have hl := lv_entry av (n := n) hav
  rw [lg_entry_eq]
  refine body p e s m below meth c (va_A ws s.heap.size) _ _ B.exec B.bytes hml hown hts hK hN (fun q h => Or.inr h) hP (hD0.self (sz := s.heap.size)) va_S.rf hl ?_
  intro H locs ls pc hP1 hD1 hS hnar hdg
  exact W.zret (v := v) B.exec B.bytes B.returns hnar (fun t ht hW => ⟨rfl, ⟨by rw [ht]; exact hP1, va_K.moved hW.alike hK, hD1⟩, hS.F ht⟩) hS.2.2 hdg
/-- of longs -/
theorem cM_J {l : Launch} {y : MethodName} {b : ByteArray} {n : Nat} {rm : Room} {D : va_G} {tys : List (ClassId × FieldType)} {ws : va_W} {av : List Value} {sz : Nat} {v : Int64} {w1 : va_W} (own : String) (hy : plainName y.cls = true ∧ y.cls = own) (hav : (lg_sl av).length ≤ n)
    (body : ∀ (p : Program) (e : Env) (s : State) (m : MethodId) (below : List Frame) (meth : Method) (c : Code) (A : Nat → Prop) (Q : State → Prop) (ls : Array Slot), p.tables.exec = Jvm.exec → c.code = b → c.maxLocals = n → s.vm.findClass own = some m.cls → (∀ w ∈ wU y b n (some .long), w.before av.toArray s = true) → va_K D vwCl tys s → nw s → (∀ q, s.heap.size ≤ q → A q) → va_P D vwCl ws s.heap → va_D A ws → va_S A s.heap s.heap [] → lv_has ls n (lv_args 0 av) →
      (∀ (H : Heap) (locs : List Loc) (ls : Array Slot) (pc : Nat), va_P D vwCl w1 H → va_D A w1 → va_S A s.heap H locs → decode b pc = .ok (.lreturn, 1) → W p l e rm s m av.toArray below meth c H locs 0 0 Q (F0 m pc ls [.long v])) →
      W p l e rm s m av.toArray below meth c s.heap [] 0 0 Q (F0 m 0 ls [])) : cM l y b n (some .long) rm D tys ws av sz (some (.long v)) w1 := by
  refine Met.ofW (cc := b) (maxL := n) (ret := (some .long)) hy.1 rfl ?_
  intro p e s m args below meth c s₁ B hml hv
  obtain ⟨rfl, hsz, hP, hK, hN, hD0⟩ := hv
  have hts := atoms_spec (ws := wU y b n (some .long)) B.pre
  have hown : s.vm.findClass own = some m.cls := by rw [← hy.2]; exact findClass_of_methodNamed B.named
  have hlocks := B.notSynchronized
  subst hsz
  have hl := lv_entry av (n := n) hav
  rw [lg_entry_eq]
  refine body p e s m below meth c (va_A ws s.heap.size) _ _ B.exec B.bytes hml hown hts hK hN (fun q h => Or.inr h) hP (hD0.self (sz := s.heap.size)) va_S.rf hl ?_
  intro H locs ls pc hP1 hD1 hS hdg
  exact W.lret (v := v) B.exec B.bytes B.returns (fun t ht hW => ⟨rfl, ⟨by rw [ht]; exact hP1, va_K.moved hW.alike hK, hD1⟩, hS.F ht⟩) hS.2.2 hdg
/-- of nothing -/
theorem cM_V {l : Launch} {y : MethodName} {b : ByteArray} {n : Nat} {rm : Room} {D : va_G} {tys : List (ClassId × FieldType)} {ws : va_W} {av : List Value} {sz : Nat} {w1 : va_W} (own : String) (hy : plainName y.cls = true ∧ y.cls = own) (hav : (lg_sl av).length ≤ n)
    (body : ∀ (p : Program) (e : Env) (s : State) (m : MethodId) (below : List Frame) (meth : Method) (c : Code) (A : Nat → Prop) (Q : State → Prop) (ls : Array Slot), p.tables.exec = Jvm.exec → c.code = b → c.maxLocals = n → s.vm.findClass own = some m.cls → (∀ w ∈ wU y b n none, w.before av.toArray s = true) → va_K D vwCl tys s → nw s → (∀ q, s.heap.size ≤ q → A q) → va_P D vwCl ws s.heap → va_D A ws → va_S A s.heap s.heap [] → lv_has ls n (lv_args 0 av) →
      (∀ (H : Heap) (locs : List Loc) (ls : Array Slot) (pc : Nat), va_P D vwCl w1 H → va_D A w1 → va_S A s.heap H locs → decode b pc = .ok (.return_, 1) → W p l e rm s m av.toArray below meth c H locs 0 0 Q (F0 m pc ls [])) →
      W p l e rm s m av.toArray below meth c s.heap [] 0 0 Q (F0 m 0 ls [])) : cM l y b n none rm D tys ws av sz none w1 := by
  refine Met.ofW (cc := b) (maxL := n) (ret := none) hy.1 rfl ?_
  intro p e s m args below meth c s₁ B hml hv
  obtain ⟨rfl, hsz, hP, hK, hN, hD0⟩ := hv
  have hts := atoms_spec (ws := wU y b n none) B.pre
  have hown : s.vm.findClass own = some m.cls := by rw [← hy.2]; exact findClass_of_methodNamed B.named
  have hlocks := B.notSynchronized
  subst hsz
  have hl := lv_entry av (n := n) hav
  rw [lg_entry_eq]
  refine body p e s m below meth c (va_A ws s.heap.size) _ _ B.exec B.bytes hml hown hts hK hN (fun q h => Or.inr h) hP (hD0.self (sz := s.heap.size)) va_S.rf hl ?_
  intro H locs ls pc hP1 hD1 hS hdg
  exact W.vret B.exec B.bytes B.returns (fun t ht hW => ⟨rfl, ⟨by rw [ht]; exact hP1, va_K.moved hW.alike hK, hD1⟩, hS.F ht⟩) hS.2.2 hdg
