/-! constructors: what is made has addresses and array classes of its own: ad, kd -/
def aO (U : State) : Prop := va_AO "SmokesApart$NumberRow" U ∧ va_AO "SmokesApart$Town" U
theorem aO.moved {u U : State} (hvm : u.vm.Alike U.vm) (h : aO u) : aO U := ⟨h.1.moved hvm, h.2.moved hvm⟩
def cPreA (D : va_G) (tys : List (ClassId × FieldType)) (ws : va_W) (av : List Value) (sz : Nat) : Array Value → State → Prop := va_Pc av (fun U => U.heap.size = sz ∧ va_P D vwCl ws U.heap ∧ va_K D vwCl tys U ∧ nw U ∧ va_D (fun _ => True) ws ∧ aO U)
theorem cPreA_blind {D : va_G} {tys : List (ClassId × FieldType)} {ws : va_W} {av : List Value} {sz : Nat} : FrameBlind (cPreA D tys ws av sz) := fun a U g mk q => by
  obtain ⟨q0, q1, qP, qK, qN, qD, qO⟩ := q
  exact ⟨q0, q1, qP, va_K.moved (u := U) (U := U.calling g mk a) (Vm.Alike.refl U.vm) qK, nw.same (u := U) rfl qN, qD, aO.moved (u := U) (Vm.Alike.refl U.vm) qO⟩
def cQn (D : va_G) (w1 : (Nat → Nat) → (Nat → ClassId) → va_W) (t1 : (Nat → ClassId) → List (ClassId × FieldType)) (ws : va_W) (sz : Nat) : Array Value → State → Outcome → State → Prop := fun _ st oc t => oc = .returned none ∧ (∃ (ad : Nat → Nat) (kd : Nat → ClassId), va_P D vwCl (w1 ad kd) t.heap ∧ va_K D vwCl (t1 kd) t ∧ va_D (va_A ws sz) (w1 ad kd)) ∧ va_F (va_A ws sz) st t
def cMn (l : Launch) (y : MethodName) (b : ByteArray) (n : Nat) (rm : Room) (D : va_G) (tys : List (ClassId × FieldType)) (ws : va_W) (av : List Value) (sz : Nat) (mc ms : Nat) (w1 : (Nat → Nat) → (Nat → ClassId) → va_W) (t1 : (Nat → ClassId) → List (ClassId × FieldType)) : Prop := Met l y (wU y b n none) rm (cPreA D tys ws av sz) (cQn D w1 t1 ws sz) mc ms (va_A ws sz)
def cOkN (R : Room) (y : MethodName) (b : ByteArray) (maxL : Nat) (rm : Room) (n mc ms : Nat) : Prop := Cond.code y b maxL none ∈ lw_g ∧ Cond.initialized y.cls ∈ lw_g ∧ (y.cls ≠ "java/lang/invoke/MethodHandle" ∧ y.cls ≠ "java/lang/invoke/VarHandle" ∧ (parseMethodDescriptor y.desc).map (fun d => d.parameters.length) = some n) ∧ (rm.cells = mc ∧ rm.slots = ms) ∧ (rm.frames + 1 ≤ R.frames ∧ 8 + (maxL + 11) + rm.locals ≤ R.locals) ∧ y.name = "<init>" ∧ Cond.instanceMethod y ∈ lw_g
section BaseN
variable {p : Program} {l : Launch} {e : Env} {R : Room} {s : State} {m : MethodId} {args : Array Value} {below : List Frame} {meth : Method} {c : Code} {H : Heap} {locs : List Loc} {cells slots : Nat} {Q : State → Prop}
theorem ca_goN {D : va_G} {ws wc wr : va_W} {w1 : (Nat → Nat) → (Nat → ClassId) → va_W} {t1 : (Nat → ClassId) → List (ClassId × FieldType)} {a0 : Array Value} {A : Nat → Prop} {pc mc ms : Nat} {ls : Array Slot} {st0 rest : List Value}
    (isC isR : List Nat) (hr : va_Run p l e R s m args below meth c H locs cells slots mc ms (F0 m pc ls st0) rest (cQn D w1 t1 wc H.size a0) (va_A wc H.size))
    (hP : va_P D vwCl ws H) (hD : va_D A ws) (hS : va_S A s.heap H locs) (hA : ∀ q, s.heap.size ≤ q → A q)
    (hC : isC.map (fun i => ws[i]?) = wc.map some) (hR : isR.map (fun i => ws[i]?) = wr.map some) (hdis : va_nd isR = true ∧ (∀ i ∈ isR, i ∉ isC))
    (kk : ∀ (ad : Nat → Nat) (kd : Nat → ClassId) (H1 : Heap) (locs1 : List Loc), va_P D vwCl (wr ++ w1 ad kd) H1 → va_D A (wr ++ w1 ad kd) → va_S A s.heap H1 locs1 → va_K D vwCl (t1 kd) s → W p l e R s m args below meth c H1 locs1 (cells + mc) (slots + ms) Q (F0 m (pc + 3) ls rest)) : W p l e R s m args below meth c H locs cells slots Q (F0 m pc ls st0) := by
  have hF := va_free hD hS hA isC hC
  intro T hT X
  obtain ⟨v, st₀, t, T', L, h0, X', hL, e1, e2, ⟨hv, ⟨ad, kd, hP1, hK1, hD1⟩, hz, hk⟩, st⟩ := hr T hT X
  cases hv
  rw [h0] at hz hk
  have hk1 : ∀ q : Nat, q < H.size → ¬ va_A wc H.size q → T'.heap[q]? = H[q]? := fun q h1 h2 => by rw [e1]; exact hk q h1 h2
  obtain ⟨hPj, hDj⟩ := va_join hP hD isC isR hC hR hdis.1 hdis.2 hk1 hF (by rw [e1]; exact hP1) hD1
  have hal : s.vm.Alike t.vm := by rw [← e2]; exact X'.warmed.alike
  obtain ⟨t2, a1, b1⟩ := kk ad kd T'.heap (locs ++ L) hPj hDj
    ⟨Nat.le_trans hS.1 (by rw [e1]; exact hz), fun q h1 h2 => by rw [e1, hk q (Nat.lt_of_lt_of_le h1 hS.1) (fun z => h2 (hF q z))]; exact hS.2.1 q h1 h2, fun q hq => by
      rcases List.mem_append.mp hq with h | h
      · exact hS.2.2 q h
      · exact hF _ (hL q h)⟩ (va_K.moved hal.symm hK1) T' rfl X'
  exact ⟨t2, st t2 a1, b1⟩
theorem ca_N {D : va_G} {tys tysC : List (ClassId × FieldType)} {ws wc wr : va_W} {w1 : (Nat → Nat) → (Nat → ClassId) → va_W} {t1 : (Nat → ClassId) → List (ClassId × FieldType)} {A : Nat → Prop} {pc mc ms : Nat} {ls : Array Slot} {rest As : List Value} {y0 y : MethodName} {cc b : ByteArray} {nL maxL n index : Nat} {r0 : Option FieldType} {own : String} {rm : Room} {a : Nat}
    (X : CallFix p m c cc nL s args (wU y0 cc nL r0) own) (hM : cMn l y b maxL rm D tysC wc (.ref a :: As) H.size mc ms w1 t1) (hok : cOkN R y b maxL rm n mc ms) (h1 : Cond.methodLink own index y ∈ lw_g)
    (hO : aO s) (hK : va_K D vwCl tys s) (hN : nw s) (hP : va_P D vwCl ws H) (hD : va_D A ws) (hS : va_S A s.heap H locs) (hA : ∀ q, s.heap.size ≤ q → A q)
    (isT isC isR : List Nat) (hT : isT.filterMap (fun i => tys[i]?) = tysC) (hC : isC.map (fun i => ws[i]?) = wc.map some) (hR : isR.map (fun i => ws[i]?) = wr.map some) (hdis : va_nd isC = true ∧ va_nd isR = true ∧ (∀ i ∈ isR, i ∉ isC))
    (hlen : As.length = n) (hsize : ls.size = nL) (hst : (rest.map fun v => v.category).sum ≤ 8) (hcr : cells + mc ≤ R.cells ∧ slots + ms ≤ R.slots) (hdg : decode cc pc = .ok (.invokespecial index, 3))
    (kk : ∀ (ad : Nat → Nat) (kd : Nat → ClassId) (H1 : Heap) (locs1 : List Loc), va_P D vwCl (wr ++ w1 ad kd) H1 → va_D A (wr ++ w1 ad kd) → va_S A s.heap H1 locs1 → va_K D vwCl (t1 kd) s → W p l e R s m args below meth c H1 locs1 (cells + mc) (slots + ms) Q (F0 m (pc + 3) ls rest)) : W p l e R s m args below meth c H locs cells slots Q (F0 m pc ls (As.reverse ++ .ref a :: rest)) := by
  have ht := X.2.2.2.2
  have htg : ∀ w ∈ lw_g, w.before args s = true := fun w h => ht w (List.mem_cons_of_mem _ h)
  have hPc := hP.sub isC (fm_of hC)
  have hDc := hD.sub isC hdis.1 hC
  have hKc := hK.sub isT hT
  refine ca_goN (wr := wr) isC isR (va_runI (n := n) X hM ⟨callB_of n ht (gU hok.1) rfl hok.2.2.2.1.1 hok.2.2.2.1.2 (htg _ hok.2.1) (htg _ h1) hok.2.2.1 hok.2.2.2.2.1, hok.2.2.2.2.2.1, htg _ hok.2.2.2.2.2.2⟩ ⟨cPreA_blind, fun U hU hW => ⟨rfl, by rw [hU], by rw [hU]; exact hPc, va_K.moved hW.alike hKc, nw.warm hW hN, hDc.weaken (fun _ _ _ _ => trivial), aO.moved hW.alike hO⟩⟩ rfl hlen hsize rfl (lv_room hst) hdg ⟨hcr.1, hcr.2⟩) hP hD hS hA hC hR hdis.2 kk
theorem ca_NN {D : va_G} {tys tysC : List (ClassId × FieldType)} {ws wc wr : va_W} {w1 : (Nat → Nat) → (Nat → ClassId) → va_W} {t1 : (Nat → ClassId) → List (ClassId × FieldType)} {A : Nat → Prop} {pc mc ms : Nat} {ls : Array Slot} {rest As : List Value} {y0 y : MethodName} {cc b : ByteArray} {nL maxL n index : Nat} {r0 : Option FieldType} {own host : String} {rm : Room} {a : Nat}
    (X : CallFix p m c cc nL s args (wU y0 cc nL r0) own) (hM : cMn l y b maxL rm D tysC wc (.ref a :: As) H.size mc ms w1 t1) (hok : cOkN R y b maxL rm n mc ms) (h1 : va_Nw (.methodLinkNest own index y host) s)
    (hO : aO s) (hK : va_K D vwCl tys s) (hN : nw s) (hP : va_P D vwCl ws H) (hD : va_D A ws) (hS : va_S A s.heap H locs) (hA : ∀ q, s.heap.size ≤ q → A q)
    (isT isC isR : List Nat) (hT : isT.filterMap (fun i => tys[i]?) = tysC) (hC : isC.map (fun i => ws[i]?) = wc.map some) (hR : isR.map (fun i => ws[i]?) = wr.map some) (hdis : va_nd isC = true ∧ va_nd isR = true ∧ (∀ i ∈ isR, i ∉ isC))
    (hlen : As.length = n) (hsize : ls.size = nL) (hst : (rest.map fun v => v.category).sum ≤ 8) (hcr : cells + mc ≤ R.cells ∧ slots + ms ≤ R.slots) (hdg : decode cc pc = .ok (.invokespecial index, 3))
    (kk : ∀ (ad : Nat → Nat) (kd : Nat → ClassId) (H1 : Heap) (locs1 : List Loc), va_P D vwCl (wr ++ w1 ad kd) H1 → va_D A (wr ++ w1 ad kd) → va_S A s.heap H1 locs1 → va_K D vwCl (t1 kd) s → W p l e R s m args below meth c H1 locs1 (cells + mc) (slots + ms) Q (F0 m (pc + 3) ls rest)) : W p l e R s m args below meth c H locs cells slots Q (F0 m pc ls (As.reverse ++ .ref a :: rest)) := by
  have ht := X.2.2.2.2
  have htg : ∀ w ∈ lw_g, w.before args s = true := fun w h => ht w (List.mem_cons_of_mem _ h)
  have hPc := hP.sub isC (fm_of hC)
  have hDc := hD.sub isC hdis.1 hC
  have hKc := hK.sub isT hT
  refine ca_goN (wr := wr) isC isR (va_runIN (n := n) X hM ⟨va_cnB n ht (gU hok.1) rfl hok.2.2.2.1.1 hok.2.2.2.1.2 h1 (htg _ hok.2.1) hok.2.2.1 hok.2.2.2.2.1, hok.2.2.2.2.2.1, htg _ hok.2.2.2.2.2.2⟩ ⟨cPreA_blind, fun U hU hW => ⟨rfl, by rw [hU], by rw [hU]; exact hPc, va_K.moved hW.alike hKc, nw.warm hW hN, hDc.weaken (fun _ _ _ _ => trivial), aO.moved hW.alike hO⟩⟩ rfl hlen hsize rfl (lv_room hst) hdg ⟨hcr.1, hcr.2⟩) hP hD hS hA hC hR hdis.2 kk
end BaseN
theorem cM_N {l : Launch} {y : MethodName} {b : ByteArray} {n : Nat} {rm : Room} {D : va_G} {tys : List (ClassId × FieldType)} {ws : va_W} {av : List Value} {sz mc ms : Nat} {w1 : (Nat → Nat) → (Nat → ClassId) → va_W} {t1 : (Nat → ClassId) → List (ClassId × FieldType)} (own : String) (hy : plainName y.cls = true ∧ y.cls = own) (hnm : y.name = "<init>") (hav : (lg_sl av).length ≤ n)
    (body : ∀ (p : Program) (e : Env) (s : State) (m : MethodId) (below : List Frame) (meth : Method) (c : Code) (A : Nat → Prop) (Q : State → Prop) (ls : Array Slot), p.tables.exec = Jvm.exec → c.code = b → c.maxLocals = n → s.vm.findClass own = some m.cls → (∀ w ∈ wU y b n none, w.before av.toArray s = true) → meth.name = "<init>" → va_K D vwCl tys s → nw s → aO s → (∀ q, s.heap.size ≤ q → A q) → va_P D vwCl ws s.heap → va_D A ws → va_S A s.heap s.heap [] → lv_has ls n (lv_args 0 av) →
      (∀ (ad : Nat → Nat) (kd : Nat → ClassId) (H : Heap) (locs : List Loc) (ls : Array Slot) (pc : Nat), va_P D vwCl (w1 ad kd) H → va_K D vwCl (t1 kd) s → va_D A (w1 ad kd) → va_S A s.heap H locs → decode b pc = .ok (.return_, 1) → W p l e rm s m av.toArray below meth c H locs mc ms Q (F0 m pc ls [])) →
      W p l e rm s m av.toArray below meth c s.heap [] 0 0 Q (F0 m 0 ls [])) : cMn l y b n rm D tys ws av sz mc ms w1 t1 := by
  refine Met.ofW (cc := b) (maxL := n) (ret := none) hy.1 rfl ?_
  intro p e s m args below meth c s₁ B hml hv
  obtain ⟨rfl, hsz, hP, hK, hN, hD0, hO⟩ := hv
  have hts := atoms_spec (ws := wU y b n none) B.pre
  have hown : s.vm.findClass own = some m.cls := by rw [← hy.2]; exact findClass_of_methodNamed B.named
  have hlocks := B.notSynchronized
  subst hsz
  have hl := lv_entry av (n := n) hav
  rw [lg_entry_eq]
  refine body p e s m below meth c (va_A ws s.heap.size) _ _ B.exec B.bytes hml hown hts ((name_of_methodNamed B.named B.method).1.trans hnm) hK hN hO (fun q h => Or.inr h) hP (hD0.self (sz := s.heap.size)) va_S.rf hl ?_
  intro ad kd H locs ls pc hP1 hK1 hD1 hS hdg
  exact W.vret B.exec B.bytes B.returns (fun t ht hW => ⟨rfl, ⟨ad, kd, by rw [ht]; exact hP1, va_K.moved hW.alike hK1, hD1⟩, hS.F ht⟩) hS.2.2 hdg
