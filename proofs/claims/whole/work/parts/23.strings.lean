def slen : List Nat := [7, 4, 2, 4, 5, 5, 4, 39]
def sbyt : List (List Int32) := [[99, 104, 105, 109, 110, 101, 121], [102, 114, 111, 109], [116, 111], [119, 105, 110, 100], [108, 97, 121, 101, 114], [116, 104, 105, 99, 107], [102, 105, 110, 101], [32, 99, 104, 105, 109, 110, 101, 121, 32, 102, 114, 111, 109, 32, 116, 111, 32, 119, 105, 110, 100, 32, 108, 97, 121, 101, 114, 32, 116, 104, 105, 99, 107, 32, 102, 105, 110, 101, 32]]
def sch (i : Nat) (j : Nat) : Int32 := (sbyt.getD i []).getD j 0
def sle (i : Nat) : Nat := slen.getD i 0
def sE (adK adV : Nat → Nat) (A : Nat → Prop) (U : State) (H : Heap) : Prop := vk_S 8 slen sbyt adK adV A U H ∧ va_Z "java/lang/String" "COMPACT_STRINGS" "Z" (.int 1) A U H ∧ va_Zq "jdk/internal/util/Preconditions" "SIOOBE_FORMATTER" "Ljava/util/function/BiFunction;" A U H
theorem sE.moved {adK adV : Nat → Nat} {A : Nat → Prop} {u U : State} {H : Heap} (hvm : u.vm.Alike U.vm) (h : sE adK adV A u H) : sE adK adV A U H := ⟨h.1.moved hvm, h.2.1.moved hvm, h.2.2.moved hvm⟩
theorem sE.kept {adK adV : Nat → Nat} {A : Nat → Prop} {U : State} {H H1 : Heap} (h : sE adK adV A U H) (hq : ∀ a : Nat, a < H.size → ¬ A a → H1[a]? = H[a]?) : sE adK adV A U H1 := ⟨h.1.kept hq, h.2.1.kept hq, h.2.2.kept hq⟩
theorem sE.narrow {adK adV : Nat → Nat} {A B : Nat → Prop} {U : State} {H : Heap} (h : sE adK adV A U H) (hAB : ∀ q, B q → A q) : sE adK adV B U H := ⟨h.1.narrow hAB, h.2.1.narrow hAB, h.2.2.narrow hAB⟩
def sR (adK : Nat → Nat) (U : State) : Prop := vk_R RX5 53 "chimney" (adK 0) U ∧ vk_R RX5 105 "from" (adK 1) U ∧ vk_R RX5 107 "to" (adK 2) U ∧ vk_R RX5 62 "wind" (adK 3) U ∧ vk_R RX5 67 "layer" (adK 4) U ∧ vk_R RX5 74 "thick" (adK 5) U ∧ vk_R RX5 78 "fine" (adK 6) U ∧ vk_R RX10 95 " chimney from to wind layer thick fine " (adK 7) U
theorem sR.same {adK : Nat → Nat} {u U : State} (hv : U.vm = u.vm) (h : sR adK u) : sR adK U := ⟨vk_R.same hv h.1, vk_R.same hv h.2.1, vk_R.same hv h.2.2.1, vk_R.same hv h.2.2.2.1, vk_R.same hv h.2.2.2.2.1, vk_R.same hv h.2.2.2.2.2.1, vk_R.same hv h.2.2.2.2.2.2.1, vk_R.same hv h.2.2.2.2.2.2.2⟩
theorem sR.warm {adK : Nat → Nat} {s U : State} (hW : s.WarmedH U.vm) (h : sR adK s) : sR adK U := ⟨vk_R.warm hW h.1, vk_R.warm hW h.2.1, vk_R.warm hW h.2.2.1, vk_R.warm hW h.2.2.2.1, vk_R.warm hW h.2.2.2.2.1, vk_R.warm hW h.2.2.2.2.2.1, vk_R.warm hW h.2.2.2.2.2.2.1, vk_R.warm hW h.2.2.2.2.2.2.2⟩
def cPreS (adK adV : Nat → Nat) (D : va_G) (tys : List (ClassId × FieldType)) (ws : va_W) (av : List Value) (sz : Nat) : Array Value → State → Prop := va_Pc av (fun U => U.heap.size = sz ∧ va_P D vwCl ws U.heap ∧ va_K D vwCl tys U ∧ nw U ∧ va_D (fun _ => True) ws ∧ sE adK adV (va_A ws sz) U U.heap ∧ sR adK U)
def cMs (l : Launch) (y : MethodName) (b : ByteArray) (n : Nat) (r : Option FieldType) (rm : Room) (adK adV : Nat → Nat) (D : va_G) (tys : List (ClassId × FieldType)) (ws : va_W) (av : List Value) (sz : Nat) (ov : Option Value) (w1 : va_W) : Prop := Met l y (wU y b n r) rm (cPreS adK adV D tys ws av sz) (cQ ov D tys w1 ws sz) 0 0 (va_A ws sz)
theorem cPreS_blind {adK adV : Nat → Nat} {D : va_G} {tys : List (ClassId × FieldType)} {ws : va_W} {av : List Value} {sz : Nat} : FrameBlind (cPreS adK adV D tys ws av sz) := fun a U g mk q => by
  obtain ⟨q0, q1, qP, qK, qN, qD, qE, qR⟩ := q
  exact ⟨q0, q1, qP, va_K.moved (u := U) (U := U.calling g mk a) (Vm.Alike.refl U.vm) qK, nw.same (u := U) rfl qN, qD, sE.moved (u := U) (Vm.Alike.refl U.vm) qE, sR.same (u := U) rfl qR⟩
section BaseS
variable {p : Program} {l : Launch} {e : Env} {R : Room} {s : State} {m : MethodId} {args : Array Value} {below : List Frame} {meth : Method} {c : Code} {H : Heap} {locs : List Loc} {cells slots : Nat} {Q : State → Prop}
theorem ca_VS {adK adV : Nat → Nat} {D : va_G} {tys tysC : List (ClassId × FieldType)} {ws wc wr w1 wn : va_W} {ov : Option Value} {A : Nat → Prop} {pc : Nat} {ls : Array Slot} {rest As : List Value} {y0 y : MethodName} {cc b : ByteArray} {nL maxL n index : Nat} {r0 ret : Option FieldType} {own C : String} {rm : Room} {a : Nat}
    (X : CallFix p m c cc nL s args (wU y0 cc nL r0) own) (hM : cMs l y b maxL ret rm adK adV D tysC wc (.ref a :: As) H.size ov w1) (hok : cOk R y b maxL ret rm n) (h1 : Cond.methodLink own index y ∈ lw_g) (h2 : Cond.instanceMethod y ∈ lw_g) (h3 : Cond.selects C y y ∈ lw_g)
    (hE : sE adK adV A s s.heap) (hE2 : sR adK s) (hK : va_K D vwCl tys s) (hN : nw s) (hP : va_P D vwCl ws H) (hD : va_D A ws) (hS : va_S A s.heap H locs) (hA : ∀ q, s.heap.size ≤ q → A q)
    (isT isC isR isN : List Nat) (hT : isT.filterMap (fun i => tys[i]?) = tysC) (hC : isC.map (fun i => ws[i]?) = wc.map some) (hR : isR.map (fun i => ws[i]?) = wr.map some) (hdis : va_nd isC = true ∧ va_nd isR = true ∧ (∀ i ∈ isR, i ∉ isC) ∧ va_nd isN = true) (hn : isN.map (fun i => (wr ++ w1)[i]?) = wn.map some)
    (q0 ci : Nat) {fs : List Value} {T : u_T} {N : Nat} (he : wc[q0]? = some (a, .inr (ci, fs))) (hcl : vwCl[ci]? = some (C, T, N)) (hlen : As.length = n) (hsize : ls.size = nL) (hst : (rest.map fun v => v.category).sum ≤ 8) (hcr : cells ≤ R.cells ∧ slots ≤ R.slots) (hdg : decode cc pc = .ok (.invokevirtual index, 3))
    (kk : ∀ (H1 : Heap) (locs1 : List Loc), va_P D vwCl wn H1 → va_D A wn → va_S A s.heap H1 locs1 → W p l e R s m args below meth c H1 locs1 cells slots Q (F0 m (pc + 3) ls (ov.toList ++ rest))) : W p l e R s m args below meth c H locs cells slots Q (F0 m pc ls (As.reverse ++ .ref a :: rest)) := by
  have ht := X.2.2.2.2
  have htg : ∀ w ∈ lw_g, w.before args s = true := fun w h => ht w (List.mem_cons_of_mem _ h)
  have hPc := hP.sub isC (fm_of hC)
  have hDc := hD.sub isC hdis.1 hC
  have hKc := hK.sub isT hT
  have hF := va_free hD hS hA isC hC
  have hEc : sE adK adV (va_A wc H.size) s H := (hE.kept hS.2.1).narrow hF
  refine ca_go (wr := wr) (wn := wn) isC isR isN (va_runV (n := n) X hM ⟨callB_of n ht (gU hok.1) rfl hok.2.2.2.1.1 hok.2.2.2.1.2 (htg _ hok.2.1) (htg _ h1) hok.2.2.1 hok.2.2.2.2, htg _ h2, htg _ h3⟩ ⟨cPreS_blind, va_recv hKc hPc hcl he, fun U hU hW => ⟨rfl, by rw [hU], by rw [hU]; exact hPc, va_K.moved hW.alike hKc, nw.warm hW hN, hDc.weaken (fun _ _ _ _ => trivial), by rw [hU]; exact hEc.moved hW.alike, hE2.warm hW⟩⟩ rfl hlen hsize rfl (lv_room hst) hdg ⟨hcr.1, hcr.2⟩) hP hD hS hA hC hR hdis.2 hn kk
theorem ca_VT {adK adV : Nat → Nat} {i : Nat} {D : va_G} {tys tysC : List (ClassId × FieldType)} {ws wc wr w1 wn : va_W} {ov : Option Value} {A : Nat → Prop} {pc : Nat} {ls : Array Slot} {rest As : List Value} {y0 y : MethodName} {cc b : ByteArray} {nL maxL n index : Nat} {r0 ret : Option FieldType} {own : String} {rm : Room}
    (X : CallFix p m c cc nL s args (wU y0 cc nL r0) own) (hM : cMs l y b maxL ret rm adK adV D tysC wc (.ref (adK i) :: As) H.size ov w1) (hok : cOk R y b maxL ret rm n) (h1 : Cond.methodLink own index y ∈ lw_g) (h2 : Cond.instanceMethod y ∈ lw_g) (h3 : Cond.selects "java/lang/String" y y ∈ lw_g)
    (hE : sE adK adV A s s.heap) (hE2 : sR adK s) (hK : va_K D vwCl tys s) (hN : nw s) (hP : va_P D vwCl ws H) (hD : va_D A ws) (hS : va_S A s.heap H locs) (hA : ∀ q, s.heap.size ≤ q → A q)
    (isT isC isR isN : List Nat) (hT : isT.filterMap (fun i => tys[i]?) = tysC) (hC : isC.map (fun i => ws[i]?) = wc.map some) (hR : isR.map (fun i => ws[i]?) = wr.map some) (hdis : va_nd isC = true ∧ va_nd isR = true ∧ (∀ i ∈ isR, i ∉ isC) ∧ va_nd isN = true) (hn : isN.map (fun i => (wr ++ w1)[i]?) = wn.map some)
    (hi : i < 8) (hlen : As.length = n) (hsize : ls.size = nL) (hst : (rest.map fun v => v.category).sum ≤ 8) (hcr : cells ≤ R.cells ∧ slots ≤ R.slots) (hdg : decode cc pc = .ok (.invokevirtual index, 3))
    (kk : ∀ (H1 : Heap) (locs1 : List Loc), va_P D vwCl wn H1 → va_D A wn → va_S A s.heap H1 locs1 → W p l e R s m args below meth c H1 locs1 cells slots Q (F0 m (pc + 3) ls (ov.toList ++ rest))) : W p l e R s m args below meth c H locs cells slots Q (F0 m pc ls (As.reverse ++ .ref (adK i) :: rest)) := by
  have ht := X.2.2.2.2
  have htg : ∀ w ∈ lw_g, w.before args s = true := fun w h => ht w (List.mem_cons_of_mem _ h)
  have hPc := hP.sub isC (fm_of hC)
  have hDc := hD.sub isC hdis.1 hC
  have hKc := hK.sub isT hT
  have hF := va_free hD hS hA isC hC
  have hEc : sE adK adV (va_A wc H.size) s H := (hE.kept hS.2.1).narrow hF
  refine ca_go (wr := wr) (wn := wn) isC isR isN (va_runV (n := n) X hM ⟨callB_of n ht (gU hok.1) rfl hok.2.2.2.1.1 hok.2.2.2.1.2 (htg _ hok.2.1) (htg _ h1) hok.2.2.1 hok.2.2.2.2, htg _ h2, htg _ h3⟩ ⟨cPreS_blind, vk_recv hE.1 hi hS, fun U hU hW => ⟨rfl, by rw [hU], by rw [hU]; exact hPc, va_K.moved hW.alike hKc, nw.warm hW hN, hDc.weaken (fun _ _ _ _ => trivial), by rw [hU]; exact hEc.moved hW.alike, hE2.warm hW⟩⟩ rfl hlen hsize rfl (lv_room hst) hdg ⟨hcr.1, hcr.2⟩) hP hD hS hA hC hR hdis.2 hn kk
theorem ca_SS {adK adV : Nat → Nat} {D : va_G} {tys tysC : List (ClassId × FieldType)} {ws wc wr w1 wn : va_W} {ov : Option Value} {A : Nat → Prop} {pc : Nat} {ls : Array Slot} {rest As : List Value} {y0 y : MethodName} {cc b : ByteArray} {nL maxL n index : Nat} {r0 ret : Option FieldType} {own : String} {rm : Room}
    (X : CallFix p m c cc nL s args (wU y0 cc nL r0) own) (hM : cMs l y b maxL ret rm adK adV D tysC wc As H.size ov w1) (hok : cOk R y b maxL ret rm n) (h1 : Cond.methodLink own index y ∈ lw_g) (h2 : Cond.static y ∈ lw_g)
    (hE : sE adK adV A s s.heap) (hE2 : sR adK s) (hK : va_K D vwCl tys s) (hN : nw s) (hP : va_P D vwCl ws H) (hD : va_D A ws) (hS : va_S A s.heap H locs) (hA : ∀ q, s.heap.size ≤ q → A q)
    (isT isC isR isN : List Nat) (hT : isT.filterMap (fun i => tys[i]?) = tysC) (hC : isC.map (fun i => ws[i]?) = wc.map some) (hR : isR.map (fun i => ws[i]?) = wr.map some) (hdis : va_nd isC = true ∧ va_nd isR = true ∧ (∀ i ∈ isR, i ∉ isC) ∧ va_nd isN = true) (hn : isN.map (fun i => (wr ++ w1)[i]?) = wn.map some)
    (hlen : As.length = n) (hsize : ls.size = nL) (hst : (rest.map fun v => v.category).sum ≤ 8) (hcr : cells ≤ R.cells ∧ slots ≤ R.slots) (hdg : decode cc pc = .ok (.invokestatic index, 3))
    (kk : ∀ (H1 : Heap) (locs1 : List Loc), va_P D vwCl wn H1 → va_D A wn → va_S A s.heap H1 locs1 → W p l e R s m args below meth c H1 locs1 cells slots Q (F0 m (pc + 3) ls (ov.toList ++ rest))) : W p l e R s m args below meth c H locs cells slots Q (F0 m pc ls (As.reverse ++ rest)) := by
  have ht := X.2.2.2.2
  have htg : ∀ w ∈ lw_g, w.before args s = true := fun w h => ht w (List.mem_cons_of_mem _ h)
  have hPc := hP.sub isC (fm_of hC)
  have hDc := hD.sub isC hdis.1 hC
  have hKc := hK.sub isT hT
  have hF := va_free hD hS hA isC hC
  have hEc : sE adK adV (va_A wc H.size) s H := (hE.kept hS.2.1).narrow hF
  refine ca_go (wr := wr) (wn := wn) isC isR isN (va_runS (n := n) X hM ⟨callB_of n ht (gU hok.1) rfl hok.2.2.2.1.1 hok.2.2.2.1.2 (htg _ hok.2.1) (htg _ h1) hok.2.2.1 hok.2.2.2.2, htg _ h2⟩ ⟨cPreS_blind, fun U hU hW => ⟨rfl, by rw [hU], by rw [hU]; exact hPc, va_K.moved hW.alike hKc, nw.warm hW hN, hDc.weaken (fun _ _ _ _ => trivial), by rw [hU]; exact hEc.moved hW.alike, hE2.warm hW⟩⟩ rfl hlen hsize rfl (lv_room hst) hdg ⟨hcr.1, hcr.2⟩) hP hD hS hA hC hR hdis.2 hn kk
end BaseS
theorem cMs_I {l : Launch} {adK adV : Nat → Nat} {y : MethodName} {b : ByteArray} {n : Nat} {rt : FieldType} {rm : Room} {D : va_G} {tys : List (ClassId × FieldType)} {ws : va_W} {av : List Value} {sz : Nat} {v : Int32} {w1 : va_W} (own : String) (hy : plainName y.cls = true ∧ y.cls = own) (hav : (lg_sl av).length ≤ n)
    (body : ∀ (p : Program) (e : Env) (s : State) (m : MethodId) (below : List Frame) (meth : Method) (c : Code) (A : Nat → Prop) (Q : State → Prop) (ls : Array Slot), p.tables.exec = Jvm.exec → c.code = b → c.maxLocals = n → s.vm.findClass own = some m.cls → (∀ w ∈ wU y b n (some rt), w.before av.toArray s = true) → va_K D vwCl tys s → nw s → (∀ q, s.heap.size ≤ q → A q) → va_P D vwCl ws s.heap → va_D A ws → va_S A s.heap s.heap [] → lv_has ls n (lv_args 0 av) → sE adK adV A s s.heap → sR adK s →
      (∀ (H : Heap) (locs : List Loc) (ls : Array Slot) (pc : Nat), va_P D vwCl w1 H → va_D A w1 → va_S A s.heap H locs → narrow rt (.int v) = .int v → decode b pc = .ok (.ireturn, 1) → W p l e rm s m av.toArray below meth c H locs 0 0 Q (F0 m pc ls [.int v])) →
      W p l e rm s m av.toArray below meth c s.heap [] 0 0 Q (F0 m 0 ls [])) : cMs l y b n (some rt) rm adK adV D tys ws av sz (some (.int v)) w1 := by
  refine Met.ofW (cc := b) (maxL := n) (ret := (some rt)) hy.1 rfl ?_
  intro p e s m args below meth c s₁ B hml hv
  obtain ⟨rfl, hsz, hP, hK, hN, hD0, hE, hE2⟩ := hv
  have hts := atoms_spec (ws := wU y b n (some rt)) B.pre
  have hown : s.vm.findClass own = some m.cls := by rw [← hy.2]; exact findClass_of_methodNamed B.named
  have hlocks := B.notSynchronized
  subst hsz
  have hl := lv_entry av (n := n) hav
  rw [lg_entry_eq]
  refine body p e s m below meth c (va_A ws s.heap.size) _ _ B.exec B.bytes hml hown hts hK hN (fun q h => Or.inr h) hP (hD0.self (sz := s.heap.size)) va_S.rf hl hE hE2 ?_
  intro H locs ls pc hP1 hD1 hS hnar hdg
  exact W.zret (v := v) B.exec B.bytes B.returns hnar (fun t ht hW => ⟨rfl, ⟨by rw [ht]; exact hP1, va_K.moved hW.alike hK, hD1⟩, hS.F ht⟩) hS.2.2 hdg
theorem cMs_J {l : Launch} {adK adV : Nat → Nat} {y : MethodName} {b : ByteArray} {n : Nat} {rm : Room} {D : va_G} {tys : List (ClassId × FieldType)} {ws : va_W} {av : List Value} {sz : Nat} {v : Int64} {w1 : va_W} (own : String) (hy : plainName y.cls = true ∧ y.cls = own) (hav : (lg_sl av).length ≤ n)
    (body : ∀ (p : Program) (e : Env) (s : State) (m : MethodId) (below : List Frame) (meth : Method) (c : Code) (A : Nat → Prop) (Q : State → Prop) (ls : Array Slot), p.tables.exec = Jvm.exec → c.code = b → c.maxLocals = n → s.vm.findClass own = some m.cls → (∀ w ∈ wU y b n (some .long), w.before av.toArray s = true) → va_K D vwCl tys s → nw s → (∀ q, s.heap.size ≤ q → A q) → va_P D vwCl ws s.heap → va_D A ws → va_S A s.heap s.heap [] → lv_has ls n (lv_args 0 av) → sE adK adV A s s.heap → sR adK s →
      (∀ (H : Heap) (locs : List Loc) (ls : Array Slot) (pc : Nat), va_P D vwCl w1 H → va_D A w1 → va_S A s.heap H locs → decode b pc = .ok (.lreturn, 1) → W p l e rm s m av.toArray below meth c H locs 0 0 Q (F0 m pc ls [.long v])) →
      W p l e rm s m av.toArray below meth c s.heap [] 0 0 Q (F0 m 0 ls [])) : cMs l y b n (some .long) rm adK adV D tys ws av sz (some (.long v)) w1 := by
  refine Met.ofW (cc := b) (maxL := n) (ret := (some .long)) hy.1 rfl ?_
  intro p e s m args below meth c s₁ B hml hv
  obtain ⟨rfl, hsz, hP, hK, hN, hD0, hE, hE2⟩ := hv
  have hts := atoms_spec (ws := wU y b n (some .long)) B.pre
  have hown : s.vm.findClass own = some m.cls := by rw [← hy.2]; exact findClass_of_methodNamed B.named
  have hlocks := B.notSynchronized
  subst hsz
  have hl := lv_entry av (n := n) hav
  rw [lg_entry_eq]
  refine body p e s m below meth c (va_A ws s.heap.size) _ _ B.exec B.bytes hml hown hts hK hN (fun q h => Or.inr h) hP (hD0.self (sz := s.heap.size)) va_S.rf hl hE hE2 ?_
  intro H locs ls pc hP1 hD1 hS hdg
  exact W.lret (v := v) B.exec B.bytes B.returns (fun t ht hW => ⟨rfl, ⟨by rw [ht]; exact hP1, va_K.moved hW.alike hK, hD1⟩, hS.F ht⟩) hS.2.2 hdg
theorem cMs_V {l : Launch} {adK adV : Nat → Nat} {y : MethodName} {b : ByteArray} {n : Nat} {rm : Room} {D : va_G} {tys : List (ClassId × FieldType)} {ws : va_W} {av : List Value} {sz : Nat} {w1 : va_W} (own : String) (hy : plainName y.cls = true ∧ y.cls = own) (hav : (lg_sl av).length ≤ n)
    (body : ∀ (p : Program) (e : Env) (s : State) (m : MethodId) (below : List Frame) (meth : Method) (c : Code) (A : Nat → Prop) (Q : State → Prop) (ls : Array Slot), p.tables.exec = Jvm.exec → c.code = b → c.maxLocals = n → s.vm.findClass own = some m.cls → (∀ w ∈ wU y b n none, w.before av.toArray s = true) → va_K D vwCl tys s → nw s → (∀ q, s.heap.size ≤ q → A q) → va_P D vwCl ws s.heap → va_D A ws → va_S A s.heap s.heap [] → lv_has ls n (lv_args 0 av) → sE adK adV A s s.heap → sR adK s →
      (∀ (H : Heap) (locs : List Loc) (ls : Array Slot) (pc : Nat), va_P D vwCl w1 H → va_D A w1 → va_S A s.heap H locs → decode b pc = .ok (.return_, 1) → W p l e rm s m av.toArray below meth c H locs 0 0 Q (F0 m pc ls [])) →
      W p l e rm s m av.toArray below meth c s.heap [] 0 0 Q (F0 m 0 ls [])) : cMs l y b n none rm adK adV D tys ws av sz none w1 := by
  refine Met.ofW (cc := b) (maxL := n) (ret := none) hy.1 rfl ?_
  intro p e s m args below meth c s₁ B hml hv
  obtain ⟨rfl, hsz, hP, hK, hN, hD0, hE, hE2⟩ := hv
  have hts := atoms_spec (ws := wU y b n none) B.pre
  have hown : s.vm.findClass own = some m.cls := by rw [← hy.2]; exact findClass_of_methodNamed B.named
  have hlocks := B.notSynchronized
  subst hsz
  have hl := lv_entry av (n := n) hav
  rw [lg_entry_eq]
  refine body p e s m below meth c (va_A ws s.heap.size) _ _ B.exec B.bytes hml hown hts hK hN (fun q h => Or.inr h) hP (hD0.self (sz := s.heap.size)) va_S.rf hl hE hE2 ?_
  intro H locs ls pc hP1 hD1 hS hdg
  exact W.vret B.exec B.bytes B.returns (fun t ht hW => ⟨rfl, ⟨by rw [ht]; exact hP1, va_K.moved hW.alike hK, hD1⟩, hS.F ht⟩) hS.2.2 hdg
theorem sch_ok : ∀ i, i < 8 → ∀ j, j < sle i → ((sch i j &&& 255).toUInt32 % 65536).toInt32 = sch i j ∧ narrow .char (.int (sch i j)) = .int (sch i j) := by decide +kernel
theorem sle_ok : ∀ i, i < 8 → Int32.ofNat (sle i) >>> ((0 : Int32) &&& 31) = Int32.ofNat (sle i) ∧ sle i < 2 ^ 31 := by decide +kernel
theorem vb_lt {j : Int32} {n : Nat} (hn : n < 2 ^ 31) (h : vb j n = true) : ¬ j < 0 ∧ j < Int32.ofNat n := by
  have h1 := vb_ok h
  have h2 : ¬ j < 0 := fun q => h1 (Or.inl q)
  have h3 : j.toNatClampNeg < n := Nat.lt_of_not_le (fun q => h1 (Or.inr q))
  refine ⟨h2, ?_⟩
  obtain ⟨k, hk, rfl⟩ := nI_of h2
  have h4 : (nI k).toNatClampNeg = k := nI_clamp hk
  rw [h4] at h3
  exact nI_lt h3 hn
theorem ctJ0_coder_7d493 (l : Launch) (adK adV : Nat → Nat) (dC : Nat → ClassId) (dI : Nat → Nat → Nat) (sz i : Nat) (hi : i < 8) : cMs l yJ0_coder_7d493 cJ0_coder_7d493 1 (some .byte) ({ frames := 0, cells := 0, slots := 0, locals := 0 } : Room) adK adV (dC, dI) [] [] [.ref (adK i)] sz (some (.int 0)) [] := by
  refine cMs_I RJ0 ⟨by decide, rfl⟩ (Nat.le_of_ble_eq_true rfl) ?_
  intro p e s m below meth c A Q ls hx hb hml hown hts hK hN hA hP hD hS hl hE hE2 hRet
  have htb : ∀ w ∈ lw_g, w.before ([.ref (adK i)] : List Value).toArray s = true := fun w h => hts w (List.mem_cons_of_mem _ h)
  have hl : lv_has ls 1 [(0, .ref (adK i))] := hl
  refine va_gets hx hb hE.2.1 hS hown (htb _ mF_J0_38) (fun _ h9 => h9) dJ0_coder_7d493_0 ?_
  refine lv_if_eq (tgt := 13) hx hb dJ0_coder_7d493_3 (by decide) (fun c1 => absurd c1 (by decide)) (fun _ => ?_)
  refine lv_aload_n hx hb dJ0_coder_7d493_6 rfl (lv_at hl 0 rfl) ?_
  refine vk_getf hx hb (hE.1.1 i hi).2.1 hS hown (htb _ mF_J0_15) (fun _ h9 => h9) dJ0_coder_7d493_7 ?_
  refine lv_goto (tgt := 14) hx hb dJ0_coder_7d493_10 (by decide) ?_
  exact hRet _ _ ls 14 hP hD hS rfl dJ0_coder_7d493_14
theorem ctJ0_isLatin1_aae02 (l : Launch) (adK adV : Nat → Nat) (dC : Nat → ClassId) (dI : Nat → Nat → Nat) (sz i : Nat) (hi : i < 8) : cMs l yJ0_isLatin1_aae02 cJ0_isLatin1_aae02 1 (some .boolean) ({ frames := 0, cells := 0, slots := 0, locals := 0 } : Room) adK adV (dC, dI) [] [] [.ref (adK i)] sz (some (.int 1)) [] := by
  refine cMs_I RJ0 ⟨by decide, rfl⟩ (Nat.le_of_ble_eq_true rfl) ?_
  intro p e s m below meth c A Q ls hx hb hml hown hts hK hN hA hP hD hS hl hE hE2 hRet
  have htb : ∀ w ∈ lw_g, w.before ([.ref (adK i)] : List Value).toArray s = true := fun w h => hts w (List.mem_cons_of_mem _ h)
  have hl : lv_has ls 1 [(0, .ref (adK i))] := hl
  refine va_gets hx hb hE.2.1 hS hown (htb _ mF_J0_38) (fun _ h9 => h9) dJ0_isLatin1_aae02_0 ?_
  refine lv_if_eq (tgt := 17) hx hb dJ0_isLatin1_aae02_3 (by decide) (fun c1 => absurd c1 (by decide)) (fun _ => ?_)
  refine lv_aload_n hx hb dJ0_isLatin1_aae02_6 rfl (lv_at hl 0 rfl) ?_
  refine vk_getf hx hb (hE.1.1 i hi).2.1 hS hown (htb _ mF_J0_15) (fun _ h9 => h9) dJ0_isLatin1_aae02_7 ?_
  refine lv_if_ne (tgt := 17) hx hb dJ0_isLatin1_aae02_10 (by decide) (fun c1 => absurd rfl c1) (fun _ => ?_)
  refine lv_iconst (v := 1) hx hb dJ0_isLatin1_aae02_13 (by decide) ?_
  refine lv_goto (tgt := 18) hx hb dJ0_isLatin1_aae02_14 (by decide) ?_
  exact hRet _ _ ls 18 hP hD hS rfl dJ0_isLatin1_aae02_18
theorem ctJ3_checkIndex_8e157 (l : Launch) (dC : Nat → ClassId) (dI : Nat → Nat → Nat) (sz : Nat) (j k : Int32) (r : Option Nat) (h0 : ¬ j < 0) (h1 : j < k) : cM l yJ3_checkIndex_8e157 cJ3_checkIndex_8e157 3 (some .int) ({ frames := 0, cells := 0, slots := 0, locals := 0 } : Room) (dC, dI) [] [] [.int j, .int k, va_rf r] sz (some (.int j)) [] := by
  refine cM_I RJ3 ⟨by decide, rfl⟩ (by cases r <;> exact Nat.le_of_ble_eq_true rfl) ?_
  intro p e s m below meth c A Q ls hx hb hml hown hts hK hN hA hP hD hS hl hRet
  have hl : lv_has ls 3 [(0, .int j), (1, .int k), (2, va_rf r)] := by cases r <;> exact hl
  refine lv_iload_n hx hb dJ3_checkIndex_8e157_0 rfl (lv_at hl 0 rfl) ?_
  refine lv_if_lt (tgt := 9) hx hb dJ3_checkIndex_8e157_1 (by decide) (fun c1 => absurd c1 h0) (fun _ => ?_)
  refine lv_iload_n hx hb dJ3_checkIndex_8e157_4 rfl (lv_at hl 0 rfl) ?_
  refine lv_iload_n hx hb dJ3_checkIndex_8e157_5 rfl (lv_at hl 1 rfl) ?_
  refine lv_icmp_lt (tgt := 16) hx hb dJ3_checkIndex_8e157_6 (by decide) (fun _ => ?_) (fun c1 => absurd h1 c1)
  refine lv_iload_n hx hb dJ3_checkIndex_8e157_16 rfl (lv_at hl 0 rfl) ?_
  exact hRet _ _ ls 17 hP hD hS rfl dJ3_checkIndex_8e157_17
theorem ctJ0_checkIndex_df160 (l : Launch) (adK adV : Nat → Nat) (dC : Nat → ClassId) (dI : Nat → Nat → Nat) (sz : Nat) (j k : Int32) (h0 : ¬ j < 0) (h1 : j < k) : cMs l yJ0_checkIndex_df160 cJ0_checkIndex_df160 2 none ({ frames := 1, cells := 0, slots := 0, locals := 22 } : Room) adK adV (dC, dI) [] [] [.int j, .int k] sz none [] := by
  refine cMs_V RJ0 ⟨by decide, rfl⟩ (Nat.le_of_ble_eq_true rfl) ?_
  intro p e s m below meth c A Q ls hx hb hml hown hts hK hN hA hP hD hS hl hE hE2 hRet
  have htb : ∀ w ∈ lw_g, w.before ([.int j, .int k] : List Value).toArray s = true := fun w h => hts w (List.mem_cons_of_mem _ h)
  have hl : lv_has ls 2 [(0, .int j), (1, .int k)] := hl
  obtain ⟨r, hZ⟩ : ∃ r : Option Nat, va_Z "jdk/internal/util/Preconditions" "SIOOBE_FORMATTER" "Ljava/util/function/BiFunction;" (va_rf r) A s s.heap := by
    rcases hE.2.2 with h | ⟨t, h⟩
    · exact ⟨none, h⟩
    · exact ⟨some t, h⟩
  suffices K0 : ∀ (H : Heap) (locs : List Loc), va_P (dC, dI) vwCl [] H → va_D A [] → va_S A s.heap H locs → W p l e ({ frames := 1, cells := 0, slots := 0, locals := 22 } : Room) s m ([.int j, .int k] : List Value).toArray below meth c H locs 0 0 Q (F0 m 0 ls []) from K0 s.heap [] hP hD hS
  clear hP hD hS
  intro H locs hP hD hS
  refine lv_iload_n hx hb dJ0_checkIndex_df160_0 rfl (lv_at hl 0 rfl) ?_
  refine lv_iload_n hx hb dJ0_checkIndex_df160_1 rfl (lv_at hl 1 rfl) ?_
  refine va_gets hx hb hZ hS hown (htb _ mF_J0_1053) (fun _ h9 => h9) dJ0_checkIndex_df160_2 ?_
  refine ca_S (As := [.int j, .int k, va_rf r]) (rest := []) (wr := []) (wn := []) ⟨hx, hb, hml, hown, hts⟩ (ctJ3_checkIndex_8e157 l dC dI H.size j k r h0 h1) ⟨mC_J3_checkIndex_8e157, mN_J3, md_J3_checkIndex_8e157, ⟨rfl, rfl⟩, ⟨Nat.le_of_ble_eq_true rfl, Nat.le_of_ble_eq_true rfl⟩⟩ mM_J0_1059 mT_J3_checkIndex_8e157 hK hN hP hD hS hA [] [] [] [] rfl rfl rfl ⟨by decide, by decide, by decide, by decide⟩ rfl rfl hl.1 (Nat.le_of_ble_eq_true rfl) ⟨Nat.zero_le _, Nat.zero_le _⟩ dJ0_checkIndex_df160_5 (fun H locs hP hD hS => ?_)
  refine lv_pop hx hb dJ0_checkIndex_df160_8 rfl ?_
  exact hRet _ _ ls 9 hP hD hS dJ0_checkIndex_df160_9
theorem ctJ1_charAt_3b067 (l : Launch) (adK adV : Nat → Nat) (dC : Nat → ClassId) (dI : Nat → Nat → Nat) (sz i : Nat) (hi : i < 8) (j : Int32) (hj : vb j (sle i) = true) : cMs l yJ1_charAt_3b067 cJ1_charAt_3b067 2 (some .char) ({ frames := 2, cells := 0, slots := 0, locals := 43 } : Room) adK adV (dC, dI) [] [] [.ref (adV i), .int j] sz (some (.int (sch i j.toNatClampNeg))) [] := by
  refine cMs_I RJ1 ⟨by decide, rfl⟩ (Nat.le_of_ble_eq_true rfl) ?_
  intro p e s m below meth c A Q ls hx hb hml hown hts hK hN hA hP hD hS hl hE hE2 hRet
  have htb : ∀ w ∈ lw_g, w.before ([.ref (adV i), .int j] : List Value).toArray s = true := fun w h => hts w (List.mem_cons_of_mem _ h)
  have hl : lv_has ls 2 [(0, .ref (adV i)), (1, .int j)] := hl
  have hlt := vb_lt (sle_ok i hi).2 hj
  have hch := sch_ok i hi j.toNatClampNeg (Nat.lt_of_not_le (fun q => vb_ok hj (Or.inr q)))
  suffices K0 : ∀ (H : Heap) (locs : List Loc), va_P (dC, dI) vwCl [] H → va_D A [] → va_S A s.heap H locs → W p l e ({ frames := 2, cells := 0, slots := 0, locals := 43 } : Room) s m ([.ref (adV i), .int j] : List Value).toArray below meth c H locs 0 0 Q (F0 m 0 ls []) from K0 s.heap [] hP hD hS
  clear hP hD hS
  intro H locs hP hD hS
  refine lv_iload_n hx hb dJ1_charAt_3b067_0 rfl (lv_at hl 1 rfl) ?_
  refine lv_aload_n hx hb dJ1_charAt_3b067_1 rfl (lv_at hl 0 rfl) ?_
  refine va_tlen hx hb (hE.1.1 i hi).2.2.2 hS (v := Int32.ofNat (sle i)) rfl dJ1_charAt_3b067_2 ?_
  refine ca_SS (As := [.int j, .int (Int32.ofNat (sle i))]) (rest := []) (wr := []) (wn := []) ⟨hx, hb, hml, hown, hts⟩ (ctJ0_checkIndex_df160 l adK adV dC dI H.size j (Int32.ofNat (sle i)) hlt.1 hlt.2) ⟨mC_J0_checkIndex_df160, mN_J0, md_J0_checkIndex_df160, ⟨rfl, rfl⟩, ⟨Nat.le_of_ble_eq_true rfl, Nat.le_of_ble_eq_true rfl⟩⟩ mM_J1_9 mT_J0_checkIndex_df160 hE hE2 hK hN hP hD hS hA [] [] [] [] rfl rfl rfl ⟨by decide, by decide, by decide, by decide⟩ rfl rfl hl.1 (Nat.le_of_ble_eq_true rfl) ⟨Nat.zero_le _, Nat.zero_le _⟩ dJ1_charAt_3b067_3 (fun H locs hP hD hS => ?_)
  refine lv_aload_n hx hb dJ1_charAt_3b067_6 rfl (lv_at hl 0 rfl) ?_
  refine lv_iload_n hx hb dJ1_charAt_3b067_7 rfl (lv_at hl 1 rfl) ?_
  refine va_tb hx hb (hE.1.1 i hi).2.2.2 hS (vb_ok hj) (v := .int (sch i j.toNatClampNeg)) rfl dJ1_charAt_3b067_8 ?_
  refine lv_sipush (v := 255) hx hb dJ1_charAt_3b067_9 (by decide) ?_
  refine lv_iand hx hb dJ1_charAt_3b067_12 ?_
  refine lv_i2c hx hb dJ1_charAt_3b067_13 hch.1 ?_
  exact hRet _ _ ls 14 hP hD hS hch.2 dJ1_charAt_3b067_14
theorem ctJ0_length_8abf5 (l : Launch) (adK adV : Nat → Nat) (dC : Nat → ClassId) (dI : Nat → Nat → Nat) (sz i : Nat) (hi : i < 8) : cMs l yJ0_length_8abf5 cJ0_length_8abf5 1 (some .int) ({ frames := 1, cells := 0, slots := 0, locals := 20 } : Room) adK adV (dC, dI) [] [] [.ref (adK i)] sz (some (.int (Int32.ofNat (sle i)))) [] := by
  refine cMs_I RJ0 ⟨by decide, rfl⟩ (Nat.le_of_ble_eq_true rfl) ?_
  intro p e s m below meth c A Q ls hx hb hml hown hts hK hN hA hP hD hS hl hE hE2 hRet
  have htb : ∀ w ∈ lw_g, w.before ([.ref (adK i)] : List Value).toArray s = true := fun w h => hts w (List.mem_cons_of_mem _ h)
  have hl : lv_has ls 1 [(0, .ref (adK i))] := hl
  suffices K0 : ∀ (H : Heap) (locs : List Loc), va_P (dC, dI) vwCl [] H → va_D A [] → va_S A s.heap H locs → W p l e ({ frames := 1, cells := 0, slots := 0, locals := 20 } : Room) s m ([.ref (adK i)] : List Value).toArray below meth c H locs 0 0 Q (F0 m 0 ls []) from K0 s.heap [] hP hD hS
  clear hP hD hS
  intro H locs hP hD hS
  refine lv_aload_n hx hb dJ0_length_8abf5_0 rfl (lv_at hl 0 rfl) ?_
  refine vk_getf hx hb (hE.1.1 i hi).2.2.1 hS hown (htb _ mF_J0_9) (fun _ h9 => h9) dJ0_length_8abf5_1 ?_
  refine va_tlen hx hb (hE.1.1 i hi).2.2.2 hS (v := Int32.ofNat (sle i)) rfl dJ0_length_8abf5_4 ?_
  refine lv_aload_n hx hb dJ0_length_8abf5_5 rfl (lv_at hl 0 rfl) ?_
  refine ca_VT (As := []) (rest := [.int (Int32.ofNat (sle i))]) (wr := []) (wn := []) ⟨hx, hb, hml, hown, hts⟩ (ctJ0_coder_7d493 l adK adV dC dI H.size i hi) ⟨mC_J0_coder_7d493, mN_J0, md_J0_coder_7d493, ⟨rfl, rfl⟩, ⟨Nat.le_of_ble_eq_true rfl, Nat.le_of_ble_eq_true rfl⟩⟩ mM_J0_335 mI_J0_coder_7d493 mS_J0_coder_7d493 hE hE2 hK hN hP hD hS hA [] [] [] [] rfl rfl rfl ⟨by decide, by decide, by decide, by decide⟩ rfl hi rfl hl.1 (Nat.le_of_ble_eq_true rfl) ⟨Nat.zero_le _, Nat.zero_le _⟩ dJ0_length_8abf5_6 (fun H locs hP hD hS => ?_)
  refine lv_ishr hx hb dJ0_length_8abf5_9 ?_
  refine W.eq (g2 := F0 m 10 ls [.int (Int32.ofNat (sle i))]) (by rw [(sle_ok i hi).1]) ?_
  exact hRet _ _ ls 10 hP hD hS rfl dJ0_length_8abf5_10
theorem ctJ0_charAt_5068e (l : Launch) (adK adV : Nat → Nat) (dC : Nat → ClassId) (dI : Nat → Nat → Nat) (sz i : Nat) (hi : i < 8) (j : Int32) (hj : vb j (sle i) = true) : cMs l yJ0_charAt_5068e cJ0_charAt_5068e 2 (some .char) ({ frames := 3, cells := 0, slots := 0, locals := 64 } : Room) adK adV (dC, dI) [] [] [.ref (adK i), .int j] sz (some (.int (sch i j.toNatClampNeg))) [] := by
  refine cMs_I RJ0 ⟨by decide, rfl⟩ (Nat.le_of_ble_eq_true rfl) ?_
  intro p e s m below meth c A Q ls hx hb hml hown hts hK hN hA hP hD hS hl hE hE2 hRet
  have htb : ∀ w ∈ lw_g, w.before ([.ref (adK i), .int j] : List Value).toArray s = true := fun w h => hts w (List.mem_cons_of_mem _ h)
  have hl : lv_has ls 2 [(0, .ref (adK i)), (1, .int j)] := hl
  have hch := sch_ok i hi j.toNatClampNeg (Nat.lt_of_not_le (fun q => vb_ok hj (Or.inr q)))
  suffices K0 : ∀ (H : Heap) (locs : List Loc), va_P (dC, dI) vwCl [] H → va_D A [] → va_S A s.heap H locs → W p l e ({ frames := 3, cells := 0, slots := 0, locals := 64 } : Room) s m ([.ref (adK i), .int j] : List Value).toArray below meth c H locs 0 0 Q (F0 m 0 ls []) from K0 s.heap [] hP hD hS
  clear hP hD hS
  intro H locs hP hD hS
  refine lv_aload_n hx hb dJ0_charAt_5068e_0 rfl (lv_at hl 0 rfl) ?_
  refine ca_VT (As := []) (rest := []) (wr := []) (wn := []) ⟨hx, hb, hml, hown, hts⟩ (ctJ0_isLatin1_aae02 l adK adV dC dI H.size i hi) ⟨mC_J0_isLatin1_aae02, mN_J0, md_J0_isLatin1_aae02, ⟨rfl, rfl⟩, ⟨Nat.le_of_ble_eq_true rfl, Nat.le_of_ble_eq_true rfl⟩⟩ mM_J0_492 mI_J0_isLatin1_aae02 mS_J0_isLatin1_aae02 hE hE2 hK hN hP hD hS hA [] [] [] [] rfl rfl rfl ⟨by decide, by decide, by decide, by decide⟩ rfl hi rfl hl.1 (Nat.le_of_ble_eq_true rfl) ⟨Nat.zero_le _, Nat.zero_le _⟩ dJ0_charAt_5068e_1 (fun H locs hP hD hS => ?_)
  refine lv_if_eq (tgt := 16) hx hb dJ0_charAt_5068e_4 (by decide) (fun c1 => absurd c1 (by decide)) (fun _ => ?_)
  refine lv_aload_n hx hb dJ0_charAt_5068e_7 rfl (lv_at hl 0 rfl) ?_
  refine vk_getf hx hb (hE.1.1 i hi).2.2.1 hS hown (htb _ mF_J0_9) (fun _ h9 => h9) dJ0_charAt_5068e_8 ?_
  refine lv_iload_n hx hb dJ0_charAt_5068e_11 rfl (lv_at hl 1 rfl) ?_
  refine ca_SS (As := [.ref (adV i), .int j]) (rest := []) (wr := []) (wn := []) ⟨hx, hb, hml, hown, hts⟩ (ctJ1_charAt_3b067 l adK adV dC dI H.size i hi j hj) ⟨mC_J1_charAt_3b067, mN_J1, md_J1_charAt_3b067, ⟨rfl, rfl⟩, ⟨Nat.le_of_ble_eq_true rfl, Nat.le_of_ble_eq_true rfl⟩⟩ mM_J0_495 mT_J1_charAt_3b067 hE hE2 hK hN hP hD hS hA [] [] [] [] rfl rfl rfl ⟨by decide, by decide, by decide, by decide⟩ rfl rfl hl.1 (Nat.le_of_ble_eq_true rfl) ⟨Nat.zero_le _, Nat.zero_le _⟩ dJ0_charAt_5068e_12 (fun H locs hP hD hS => ?_)
  exact hRet _ _ ls 15 hP hD hS hch.2 dJ0_charAt_5068e_15
