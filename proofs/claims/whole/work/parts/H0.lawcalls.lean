/-! THE LAW: calls out of it; a tail wi of cells that no call touches -/
def TL (A : Nat → Prop) (D : va_G) (ws wi : va_W) (H : Heap) : Prop := va_P D vwCl wi H ∧ va_D A wi ∧ ∀ (i j : Nat) (x y : Nat × va_E), ws[i]? = some x → wi[j]? = some y → x.1 ≠ y.1
theorem ix_at {ws w : va_W} {is : List Nat} (hs : is.map (fun i => ws[i]?) = w.map some) (k : Nat) (q : Nat × va_E) (hq : w[k]? = some q) : ∃ i, is[k]? = some i ∧ ws[i]? = some q := by
  have h1 : (is.map (fun i => ws[i]?))[k]? = some (some q) := by rw [hs, List.getElem?_map, hq]; rfl
  rw [List.getElem?_map] at h1
  cases hi : is[k]? with
  | none => rw [hi] at h1; cases h1
  | some i => rw [hi] at h1; exact ⟨i, rfl, Option.some.inj h1⟩
theorem app_at {a b : va_W} {i : Nat} {q : Nat × va_E} (h : (a ++ b)[i]? = some q) : (∃ k : Nat, a[k]? = some q) ∨ ∃ k : Nat, b[k]? = some q := by
  rcases Nat.lt_or_ge i a.length with z | z
  · rw [List.getElem?_append_left z] at h; exact Or.inl ⟨i, h⟩
  · rw [List.getElem?_append_right z] at h; exact Or.inr ⟨_, h⟩
theorem TL.apart {A : Nat → Prop} {D : va_G} {ws wc wi : va_W} {H : Heap} (hI : TL A D ws wi H) (isC : List Nat) (hC : isC.map (fun i => ws[i]?) = wc.map some) (j : Nat) (y : Nat × va_E) (hy : wi[j]? = some y) : y.1 < H.size ∧ ¬ va_A wc H.size y.1 := by
  have hl := (hI.1 j y hy).lt
  refine ⟨hl, fun h => ?_⟩
  rcases h with ⟨k2, e, h⟩ | h
  · obtain ⟨i, h3, h4⟩ := ix_at hC k2 (y.1, e) h
    exact hI.2.2 i j (y.1, e) y h4 hy rfl
  · omega
theorem TL.step {A : Nat → Prop} {D : va_G} {ws wc wr w1 wn wi : va_W} {H H1 : Heap} (hI : TL A D ws wi H) (isC isR isN : List Nat) (hC : isC.map (fun i => ws[i]?) = wc.map some) (hR : isR.map (fun i => ws[i]?) = wr.map some) (hn : isN.map (fun i => (wr ++ w1)[i]?) = wn.map some) (hk : ∀ q : Nat, q < H.size → ¬ va_A wc H.size q → H1[q]? = H[q]?) (hD1 : va_D (va_A wc H.size) w1) : TL A D wn wi H1 := by
  refine ⟨fun j y hy => ?_, hI.2.1, fun i j x y hx hy => ?_⟩
  · obtain ⟨a1, a2⟩ := hI.apart isC hC j y hy
    exact (hI.1 j y hy).kept (hk y.1 a1 a2)
  · obtain ⟨a1, a2⟩ := hI.apart isC hC j y hy
    obtain ⟨i', -, h2⟩ := ix_at hn i x hx
    rcases app_at h2 with ⟨k, h3⟩ | ⟨k, h3⟩
    · obtain ⟨i2, -, h4⟩ := ix_at hR k x h3
      exact hI.2.2 i2 j x y h4 hy
    · intro e
      exact a2 (by rw [← e]; exact hD1.2 k x h3)
theorem gL {y : MethodName} {b : ByteArray} {n : Nat} {r : Option FieldType} (h : Cond.code y b n r ∈ lw_g) : GoodIn lw_g (wU y b n r) := by
  intro w hw
  have hg : w ∈ lw_g := by
    rcases List.mem_cons.mp hw with rfl | hw
    · exact h
    · exact hw
  exact ⟨hg, good_of_word (List.mem_filter.mp hg).2⟩
def cQi (v : Int32) (D : va_G) (w1 : (Nat → Nat) → (Nat → ClassId) → va_W) (t1 : (Nat → ClassId) → List (ClassId × FieldType)) (ws : va_W) (sz : Nat) : Array Value → State → Outcome → State → Prop := fun _ st oc t => oc = .returned (some (.int v)) ∧ (∃ (ad : Nat → Nat) (kd : Nat → ClassId), va_P D vwCl (w1 ad kd) t.heap ∧ va_K D vwCl (t1 kd) t ∧ va_D (va_A ws sz) (w1 ad kd)) ∧ va_F (va_A ws sz) st t
def cMi (l : Launch) (y : MethodName) (b : ByteArray) (n : Nat) (rm : Room) (D : va_G) (tys : List (ClassId × FieldType)) (ws : va_W) (av : List Value) (sz : Nat) (mc ms : Nat) (v : Int32) (w1 : (Nat → Nat) → (Nat → ClassId) → va_W) (t1 : (Nat → ClassId) → List (ClassId × FieldType)) : Prop := Met l y (wU y b n (some .int)) rm (cPreA D tys ws av sz) (cQi v D w1 t1 ws sz) mc ms (va_A ws sz)
def cOkI (R : Room) (y : MethodName) (b : ByteArray) (maxL : Nat) (rm : Room) (n mc ms : Nat) : Prop := Cond.code y b maxL (some .int) ∈ lw_g ∧ Cond.initialized y.cls ∈ lw_g ∧ (y.cls ≠ "java/lang/invoke/MethodHandle" ∧ y.cls ≠ "java/lang/invoke/VarHandle" ∧ (parseMethodDescriptor y.desc).map (fun d => d.parameters.length) = some n) ∧ (rm.cells = mc ∧ rm.slots = ms) ∧ (rm.frames + 1 ≤ R.frames ∧ 8 + (maxL + 11) + rm.locals ≤ R.locals)
theorem rng_map (w : va_W) : (List.range w.length).map (fun i => w[i]?) = w.map some := by
  apply List.ext_getElem?
  intro i
  rw [List.getElem?_map, List.getElem?_map]
  rcases Nat.lt_or_ge i w.length with h | h
  · rw [List.getElem?_range h]
    show some (w[i]?) = (w[i]?).map some
    rw [List.getElem?_eq_getElem h]; rfl
  · rw [List.getElem?_eq_none (by rw [List.length_range]; exact h), List.getElem?_eq_none h]; rfl
section BaseL
variable {p : Program} {l : Launch} {e : Env} {R : Room} {s : State} {m : MethodId} {args : Array Value} {below : List Frame} {meth : Method} {c : Code} {H : Heap} {locs : List Loc} {cells slots : Nat} {Q : State → Prop}
theorem ca_goT {wi : va_W} {D : va_G} {tysC : List (ClassId × FieldType)} {ws wc wr w1 wn : va_W} {a0 : Array Value} {ov : Option Value} {A : Nat → Prop} {pc : Nat} {ls : Array Slot} {st0 rest : List Value}
    (isC isR isN : List Nat) (hr : va_Run p l e R s m args below meth c H locs cells slots 0 0 (F0 m pc ls st0) rest (cQ ov D tysC w1 wc H.size a0) (va_A wc H.size))
    (hP : va_P D vwCl ws H) (hD : va_D A ws) (hS : va_S A s.heap H locs) (hA : ∀ q, s.heap.size ≤ q → A q) (hI : TL A D ws wi H)
    (hC : isC.map (fun i => ws[i]?) = wc.map some) (hR : isR.map (fun i => ws[i]?) = wr.map some) (hdis : va_nd isR = true ∧ (∀ i ∈ isR, i ∉ isC) ∧ va_nd isN = true) (hn : isN.map (fun i => (wr ++ w1)[i]?) = wn.map some)
    (kk : ∀ (H1 : Heap) (locs1 : List Loc), va_P D vwCl wn H1 → va_D A wn → va_S A s.heap H1 locs1 → TL A D wn wi H1 → W p l e R s m args below meth c H1 locs1 cells slots Q (F0 m (pc + 3) ls (ov.toList ++ rest))) : W p l e R s m args below meth c H locs cells slots Q (F0 m pc ls st0) := by
  have hF := va_free hD hS hA isC hC
  intro T hT X
  obtain ⟨v, st₀, t, T', L, h0, X', hL, e1, e2, ⟨hv, ⟨hP1, hK1, hD1⟩, hz, hk⟩, st⟩ := hr T hT X
  cases hv
  rw [h0] at hz hk
  have hk1 : ∀ q : Nat, q < H.size → ¬ va_A wc H.size q → T'.heap[q]? = H[q]? := fun q h1 h2 => by rw [e1]; exact hk q h1 h2
  obtain ⟨hPj, hDj⟩ := va_join hP hD isC isR hC hR hdis.1 hdis.2.1 hk1 hF (by rw [e1]; exact hP1) hD1
  obtain ⟨t2, a1, b1⟩ := kk T'.heap (locs ++ L) (hPj.sub isN (fm_of hn)) (hDj.sub isN hdis.2.2 hn)
    ⟨Nat.le_trans hS.1 (by rw [e1]; exact hz), fun q h1 h2 => by rw [e1, hk q (Nat.lt_of_lt_of_le h1 hS.1) (fun z => h2 (hF q z))]; exact hS.2.1 q h1 h2, fun q hq => by
      rcases List.mem_append.mp hq with h | h
      · exact hS.2.2 q h
      · exact hF _ (hL q h)⟩ (hI.step isC isR isN hC hR hn hk1 hD1) T' rfl X'
  exact ⟨t2, st t2 a1, b1⟩
theorem ca_VL {wi : va_W} {D : va_G} {tys tysC : List (ClassId × FieldType)} {ws wc wr w1 wn : va_W} {ov : Option Value} {A : Nat → Prop} {pc : Nat} {ls : Array Slot} {rest As : List Value} {y : MethodName} {cc b : ByteArray} {nL maxL n index : Nat} {ret : Option FieldType} {own C : String} {rm : Room} {a : Nat}
    (X : CallFix p m c cc nL s args lw_g own) (hM : cM l y b maxL ret rm D tysC wc (.ref a :: As) H.size ov w1) (hok : cOk R y b maxL ret rm n) (h1 : Cond.methodLink own index y ∈ lw_g) (h2 : Cond.instanceMethod y ∈ lw_g) (h3 : Cond.selects C y y ∈ lw_g)
    (hK : va_K D vwCl tys s) (hN : nw s) (hP : va_P D vwCl ws H) (hD : va_D A ws) (hS : va_S A s.heap H locs) (hA : ∀ q, s.heap.size ≤ q → A q) (hI : TL A D ws wi H)
    (isT isC isR isN : List Nat) (hT : isT.filterMap (fun i => tys[i]?) = tysC) (hC : isC.map (fun i => ws[i]?) = wc.map some) (hR : isR.map (fun i => ws[i]?) = wr.map some) (hdis : va_nd isC = true ∧ va_nd isR = true ∧ (∀ i ∈ isR, i ∉ isC) ∧ va_nd isN = true) (hn : isN.map (fun i => (wr ++ w1)[i]?) = wn.map some)
    (q0 ci : Nat) {fs : List Value} {T : u_T} {N : Nat} (he : wc[q0]? = some (a, .inr (ci, fs))) (hcl : vwCl[ci]? = some (C, T, N)) (hlen : As.length = n) (hsize : ls.size = nL) (hst : (rest.map fun v => v.category).sum ≤ 8) (hcr : cells ≤ R.cells ∧ slots ≤ R.slots) (hdg : decode cc pc = .ok (.invokevirtual index, 3))
    (kk : ∀ (H1 : Heap) (locs1 : List Loc), va_P D vwCl wn H1 → va_D A wn → va_S A s.heap H1 locs1 → TL A D wn wi H1 → W p l e R s m args below meth c H1 locs1 cells slots Q (F0 m (pc + 3) ls (ov.toList ++ rest))) : W p l e R s m args below meth c H locs cells slots Q (F0 m pc ls (As.reverse ++ .ref a :: rest)) := by
  have ht := X.2.2.2.2
  have htg : ∀ w ∈ lw_g, w.before args s = true := fun w h => ht w h
  have hPc := hP.sub isC (fm_of hC)
  have hDc := hD.sub isC hdis.1 hC
  have hKc := hK.sub isT hT
  refine ca_goT (wi := wi) (wr := wr) (wn := wn) isC isR isN (va_runV (n := n) X hM ⟨callB_of n ht (gL hok.1) rfl hok.2.2.2.1.1 hok.2.2.2.1.2 (htg _ hok.2.1) (htg _ h1) hok.2.2.1 hok.2.2.2.2, htg _ h2, htg _ h3⟩ ⟨cPre_blind, va_recv hKc hPc hcl he, fun U hU hW => ⟨rfl, by rw [hU], by rw [hU]; exact hPc, va_K.moved hW.alike hKc, nw.warm hW hN, hDc.weaken (fun _ _ _ _ => trivial)⟩⟩ rfl hlen hsize rfl (lv_room hst) hdg ⟨hcr.1, hcr.2⟩) hP hD hS hA hI hC hR hdis.2 hn kk
theorem ca_VSL {wi : va_W} {adK adV : Nat → Nat} {D : va_G} {tys tysC : List (ClassId × FieldType)} {ws wc wr w1 wn : va_W} {ov : Option Value} {A : Nat → Prop} {pc : Nat} {ls : Array Slot} {rest As : List Value} {y : MethodName} {cc b : ByteArray} {nL maxL n index : Nat} {ret : Option FieldType} {own C : String} {rm : Room} {a : Nat}
    (X : CallFix p m c cc nL s args lw_g own) (hM : cMs l y b maxL ret rm adK adV D tysC wc (.ref a :: As) H.size ov w1) (hok : cOk R y b maxL ret rm n) (h1 : Cond.methodLink own index y ∈ lw_g) (h2 : Cond.instanceMethod y ∈ lw_g) (h3 : Cond.selects C y y ∈ lw_g)
    (hE : sE adK adV A s s.heap) (hE2 : sR adK s) (hK : va_K D vwCl tys s) (hN : nw s) (hP : va_P D vwCl ws H) (hD : va_D A ws) (hS : va_S A s.heap H locs) (hA : ∀ q, s.heap.size ≤ q → A q) (hI : TL A D ws wi H)
    (isT isC isR isN : List Nat) (hT : isT.filterMap (fun i => tys[i]?) = tysC) (hC : isC.map (fun i => ws[i]?) = wc.map some) (hR : isR.map (fun i => ws[i]?) = wr.map some) (hdis : va_nd isC = true ∧ va_nd isR = true ∧ (∀ i ∈ isR, i ∉ isC) ∧ va_nd isN = true) (hn : isN.map (fun i => (wr ++ w1)[i]?) = wn.map some)
    (q0 ci : Nat) {fs : List Value} {T : u_T} {N : Nat} (he : wc[q0]? = some (a, .inr (ci, fs))) (hcl : vwCl[ci]? = some (C, T, N)) (hlen : As.length = n) (hsize : ls.size = nL) (hst : (rest.map fun v => v.category).sum ≤ 8) (hcr : cells ≤ R.cells ∧ slots ≤ R.slots) (hdg : decode cc pc = .ok (.invokevirtual index, 3))
    (kk : ∀ (H1 : Heap) (locs1 : List Loc), va_P D vwCl wn H1 → va_D A wn → va_S A s.heap H1 locs1 → TL A D wn wi H1 → W p l e R s m args below meth c H1 locs1 cells slots Q (F0 m (pc + 3) ls (ov.toList ++ rest))) : W p l e R s m args below meth c H locs cells slots Q (F0 m pc ls (As.reverse ++ .ref a :: rest)) := by
  have ht := X.2.2.2.2
  have htg : ∀ w ∈ lw_g, w.before args s = true := fun w h => ht w h
  have hPc := hP.sub isC (fm_of hC)
  have hDc := hD.sub isC hdis.1 hC
  have hKc := hK.sub isT hT
  have hF := va_free hD hS hA isC hC
  have hEc : sE adK adV (va_A wc H.size) s H := (hE.kept hS.2.1).narrow hF
  refine ca_goT (wi := wi) (wr := wr) (wn := wn) isC isR isN (va_runV (n := n) X hM ⟨callB_of n ht (gL hok.1) rfl hok.2.2.2.1.1 hok.2.2.2.1.2 (htg _ hok.2.1) (htg _ h1) hok.2.2.1 hok.2.2.2.2, htg _ h2, htg _ h3⟩ ⟨cPreS_blind, va_recv hKc hPc hcl he, fun U hU hW => ⟨rfl, by rw [hU], by rw [hU]; exact hPc, va_K.moved hW.alike hKc, nw.warm hW hN, hDc.weaken (fun _ _ _ _ => trivial), by rw [hU]; exact hEc.moved hW.alike, hE2.warm hW⟩⟩ rfl hlen hsize rfl (lv_room hst) hdg ⟨hcr.1, hcr.2⟩) hP hD hS hA hI hC hR hdis.2 hn kk
theorem ca_goNT {v0 : Int32} {wi : va_W} {D : va_G} {ws wc wr : va_W} {w1 : (Nat → Nat) → (Nat → ClassId) → va_W} {t1 : (Nat → ClassId) → List (ClassId × FieldType)} {a0 : Array Value} {A : Nat → Prop} {pc mc ms : Nat} {ls : Array Slot} {st0 rest : List Value}
    (isC isR : List Nat) (hr : va_Run p l e R s m args below meth c H locs cells slots mc ms (F0 m pc ls st0) rest (cQi v0 D w1 t1 wc H.size a0) (va_A wc H.size))
    (hP : va_P D vwCl ws H) (hD : va_D A ws) (hS : va_S A s.heap H locs) (hA : ∀ q, s.heap.size ≤ q → A q) (hI : TL A D ws wi H)
    (hC : isC.map (fun i => ws[i]?) = wc.map some) (hR : isR.map (fun i => ws[i]?) = wr.map some) (hdis : va_nd isR = true ∧ (∀ i ∈ isR, i ∉ isC))
    (kk : ∀ (ad : Nat → Nat) (kd : Nat → ClassId) (H1 : Heap) (locs1 : List Loc), va_P D vwCl (wr ++ w1 ad kd) H1 → va_D A (wr ++ w1 ad kd) → va_S A s.heap H1 locs1 → va_K D vwCl (t1 kd) s → TL A D (wr ++ w1 ad kd) wi H1 → W p l e R s m args below meth c H1 locs1 (cells + mc) (slots + ms) Q (F0 m (pc + 3) ls (.int v0 :: rest))) : W p l e R s m args below meth c H locs cells slots Q (F0 m pc ls st0) := by
  have hF := va_free hD hS hA isC hC
  intro T hT X
  obtain ⟨v, st₀, t, T', L, h0, X', hL, e1, e2, ⟨hv, ⟨ad, kd, hP1, hK1, hD1⟩, hz, hk⟩, st⟩ := hr T hT X
  cases hv
  rw [h0] at hz hk
  have hk1 : ∀ q : Nat, q < H.size → ¬ va_A wc H.size q → T'.heap[q]? = H[q]? := fun q h1 h2 => by rw [e1]; exact hk q h1 h2
  obtain ⟨hPj, hDj⟩ := va_join hP hD isC isR hC hR hdis.1 hdis.2 hk1 hF (by rw [e1]; exact hP1) hD1
  have hal : s.vm.Alike t.vm := by rw [← e2]; exact X'.warmed.alike
  obtain ⟨t2, a1, b1⟩ := kk ad kd T'.heap (locs ++ L) hPj hDj
    ⟨Nat.le_trans hS.1 (by rw [e1]; exact hz), fun q h1 h2 => by rw [e1, hk q (Nat.lt_of_lt_of_le h1 hS.1) (fun z => h2 (hF q z))]; exact hS.2.1 q h1 h2, fun q hq => by
      rcases List.mem_append.mp hq with h | h
      · exact hS.2.2 q h
      · exact hF _ (hL q h)⟩ (va_K.moved hal.symm hK1) (hI.step isC isR (List.range (wr ++ w1 ad kd).length) hC hR (by rw [rng_map]) hk1 hD1) T' rfl X'
  exact ⟨t2, st t2 a1, b1⟩
theorem ca_VNL {v0 : Int32} {wi : va_W} {D : va_G} {tys tysC : List (ClassId × FieldType)} {ws wc wr : va_W} {w1 : (Nat → Nat) → (Nat → ClassId) → va_W} {t1 : (Nat → ClassId) → List (ClassId × FieldType)} {A : Nat → Prop} {pc mc ms : Nat} {ls : Array Slot} {rest As : List Value} {y : MethodName} {cc b : ByteArray} {nL maxL n index : Nat} {own C : String} {rm : Room} {a : Nat}
    (X : CallFix p m c cc nL s args lw_g own) (hM : cMi l y b maxL rm D tysC wc (.ref a :: As) H.size mc ms v0 w1 t1) (hok : cOkI R y b maxL rm n mc ms) (h1 : Cond.methodLink own index y ∈ lw_g) (h2 : Cond.instanceMethod y ∈ lw_g) (h3 : Cond.selects C y y ∈ lw_g)
    (hO : aO s) (hK : va_K D vwCl tys s) (hN : nw s) (hP : va_P D vwCl ws H) (hD : va_D A ws) (hS : va_S A s.heap H locs) (hA : ∀ q, s.heap.size ≤ q → A q) (hI : TL A D ws wi H)
    (isT isC isR : List Nat) (hT : isT.filterMap (fun i => tys[i]?) = tysC) (hC : isC.map (fun i => ws[i]?) = wc.map some) (hR : isR.map (fun i => ws[i]?) = wr.map some) (hdis : va_nd isC = true ∧ va_nd isR = true ∧ (∀ i ∈ isR, i ∉ isC))
    (q0 ci : Nat) {fs : List Value} {T : u_T} {N : Nat} (he : wc[q0]? = some (a, .inr (ci, fs))) (hcl : vwCl[ci]? = some (C, T, N)) (hlen : As.length = n) (hsize : ls.size = nL) (hst : (rest.map fun v => v.category).sum ≤ 8) (hcr : cells + mc ≤ R.cells ∧ slots + ms ≤ R.slots) (hdg : decode cc pc = .ok (.invokevirtual index, 3))
    (kk : ∀ (ad : Nat → Nat) (kd : Nat → ClassId) (H1 : Heap) (locs1 : List Loc), va_P D vwCl (wr ++ w1 ad kd) H1 → va_D A (wr ++ w1 ad kd) → va_S A s.heap H1 locs1 → va_K D vwCl (t1 kd) s → TL A D (wr ++ w1 ad kd) wi H1 → W p l e R s m args below meth c H1 locs1 (cells + mc) (slots + ms) Q (F0 m (pc + 3) ls (.int v0 :: rest))) : W p l e R s m args below meth c H locs cells slots Q (F0 m pc ls (As.reverse ++ .ref a :: rest)) := by
  have ht := X.2.2.2.2
  have htg : ∀ w ∈ lw_g, w.before args s = true := fun w h => ht w h
  have hPc := hP.sub isC (fm_of hC)
  have hDc := hD.sub isC hdis.1 hC
  have hKc := hK.sub isT hT
  refine ca_goNT (wi := wi) (wr := wr) isC isR (va_runV (n := n) X hM ⟨callB_of n ht (gL hok.1) rfl hok.2.2.2.1.1 hok.2.2.2.1.2 (htg _ hok.2.1) (htg _ h1) hok.2.2.1 hok.2.2.2.2, htg _ h2, htg _ h3⟩ ⟨cPreA_blind, va_recv hKc hPc hcl he, fun U hU hW => ⟨rfl, by rw [hU], by rw [hU]; exact hPc, va_K.moved hW.alike hKc, nw.warm hW hN, hDc.weaken (fun _ _ _ _ => trivial), aO.moved hW.alike hO⟩⟩ rfl hlen hsize rfl (lv_room hst) hdg ⟨hcr.1, hcr.2⟩) hP hD hS hA hI hC hR hdis.2 kk
theorem ca_NL {D : va_G} {tys tysC : List (ClassId × FieldType)} {ws wc wr : va_W} {w1 : (Nat → Nat) → (Nat → ClassId) → va_W} {t1 : (Nat → ClassId) → List (ClassId × FieldType)} {A : Nat → Prop} {pc mc ms : Nat} {ls : Array Slot} {rest As : List Value} {y : MethodName} {cc b : ByteArray} {nL maxL n index : Nat} {own : String} {rm : Room} {a : Nat}
    (X : CallFix p m c cc nL s args lw_g own) (hM : cMn l y b maxL rm D tysC wc (.ref a :: As) H.size mc ms w1 t1) (hok : cOkN R y b maxL rm n mc ms) (h1 : Cond.methodLink own index y ∈ lw_g)
    (hO : aO s) (hK : va_K D vwCl tys s) (hN : nw s) (hP : va_P D vwCl ws H) (hD : va_D A ws) (hS : va_S A s.heap H locs) (hA : ∀ q, s.heap.size ≤ q → A q)
    (isT isC isR : List Nat) (hT : isT.filterMap (fun i => tys[i]?) = tysC) (hC : isC.map (fun i => ws[i]?) = wc.map some) (hR : isR.map (fun i => ws[i]?) = wr.map some) (hdis : va_nd isC = true ∧ va_nd isR = true ∧ (∀ i ∈ isR, i ∉ isC))
    (hlen : As.length = n) (hsize : ls.size = nL) (hst : (rest.map fun v => v.category).sum ≤ 8) (hcr : cells + mc ≤ R.cells ∧ slots + ms ≤ R.slots) (hdg : decode cc pc = .ok (.invokespecial index, 3))
    (kk : ∀ (ad : Nat → Nat) (kd : Nat → ClassId) (H1 : Heap) (locs1 : List Loc), va_P D vwCl (wr ++ w1 ad kd) H1 → va_D A (wr ++ w1 ad kd) → va_S A s.heap H1 locs1 → va_K D vwCl (t1 kd) s → W p l e R s m args below meth c H1 locs1 (cells + mc) (slots + ms) Q (F0 m (pc + 3) ls rest)) : W p l e R s m args below meth c H locs cells slots Q (F0 m pc ls (As.reverse ++ .ref a :: rest)) := by
  have ht := X.2.2.2.2
  have htg : ∀ w ∈ lw_g, w.before args s = true := fun w h => ht w h
  have hPc := hP.sub isC (fm_of hC)
  have hDc := hD.sub isC hdis.1 hC
  have hKc := hK.sub isT hT
  refine ca_goN (wr := wr) isC isR (va_runI (n := n) X hM ⟨callB_of n ht (gL hok.1) rfl hok.2.2.2.1.1 hok.2.2.2.1.2 (htg _ hok.2.1) (htg _ h1) hok.2.2.1 hok.2.2.2.2.1, hok.2.2.2.2.2.1, htg _ hok.2.2.2.2.2.2⟩ ⟨cPreA_blind, fun U hU hW => ⟨rfl, by rw [hU], by rw [hU]; exact hPc, va_K.moved hW.alike hKc, nw.warm hW hN, hDc.weaken (fun _ _ _ _ => trivial), aO.moved hW.alike hO⟩⟩ rfl hlen hsize rfl (lv_room hst) hdg ⟨hcr.1, hcr.2⟩) hP hD hS hA hC hR hdis.2 kk
end BaseL
theorem cM_Ni {v0 : Int32} {l : Launch} {y : MethodName} {b : ByteArray} {n : Nat} {rm : Room} {D : va_G} {tys : List (ClassId × FieldType)} {ws : va_W} {av : List Value} {sz mc ms : Nat} {w1 : (Nat → Nat) → (Nat → ClassId) → va_W} {t1 : (Nat → ClassId) → List (ClassId × FieldType)} (own : String) (hy : plainName y.cls = true ∧ y.cls = own) (hav : (lg_sl av).length ≤ n)
    (body : ∀ (p : Program) (e : Env) (s : State) (m : MethodId) (below : List Frame) (meth : Method) (c : Code) (A : Nat → Prop) (Q : State → Prop) (ls : Array Slot), p.tables.exec = Jvm.exec → c.code = b → c.maxLocals = n → s.vm.findClass own = some m.cls → (∀ w ∈ wU y b n (some .int), w.before av.toArray s = true) → va_K D vwCl tys s → nw s → aO s → (∀ q, s.heap.size ≤ q → A q) → va_P D vwCl ws s.heap → va_D A ws → va_S A s.heap s.heap [] → lv_has ls n (lv_args 0 av) →
      (∀ (ad : Nat → Nat) (kd : Nat → ClassId) (H : Heap) (locs : List Loc) (ls : Array Slot) (pc : Nat), va_P D vwCl (w1 ad kd) H → va_K D vwCl (t1 kd) s → va_D A (w1 ad kd) → va_S A s.heap H locs → decode b pc = .ok (.ireturn, 1) → W p l e rm s m av.toArray below meth c H locs mc ms Q (F0 m pc ls [.int v0])) →
      W p l e rm s m av.toArray below meth c s.heap [] 0 0 Q (F0 m 0 ls [])) : cMi l y b n rm D tys ws av sz mc ms v0 w1 t1 := by
  refine Met.ofW (cc := b) (maxL := n) (ret := (some .int)) hy.1 rfl ?_
  intro p e s m args below meth c s₁ B hml hv
  obtain ⟨rfl, hsz, hP, hK, hN, hD0, hO⟩ := hv
  have hts := atoms_spec (ws := wU y b n (some .int)) B.pre
  have hown : s.vm.findClass own = some m.cls := by rw [← hy.2]; exact findClass_of_methodNamed B.named
  have hlocks := B.notSynchronized
  subst hsz
  have hl := lv_entry av (n := n) hav
  rw [lg_entry_eq]
  refine body p e s m below meth c (va_A ws s.heap.size) _ _ B.exec B.bytes hml hown hts hK hN hO (fun q h => Or.inr h) hP (hD0.self (sz := s.heap.size)) va_S.rf hl ?_
  intro ad kd H locs ls pc hP1 hK1 hD1 hS hdg
  exact W.zret (v := v0) B.exec B.bytes B.returns rfl (fun t ht hW => ⟨rfl, ⟨ad, kd, by rw [ht]; exact hP1, va_K.moved hW.alike hK1, hD1⟩, hS.F ht⟩) hS.2.2 hdg
