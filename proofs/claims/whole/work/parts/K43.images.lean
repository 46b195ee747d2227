/-! images in and out of the tail -/
theorem TL_in0 {A : Nat → Prop} {D : va_G} {W wa wb : va_W} {H : Heap} (hP : va_P D vwCl W H) (hD : va_D A W) (hI : TL A D W (wa ++ wb) H) : va_P D vwCl (W ++ wa) H ∧ va_D A (W ++ wa) ∧ TL A D (W ++ wa) wb H := by
  obtain ⟨h1, h2, h3⟩ := hI
  have pa : va_P D vwCl wa H := fun k q hq => h1 k q (by rw [List.getElem?_append_left (List.getElem?_eq_some_iff.mp hq).1]; exact hq)
  have ib : ∀ (k : Nat) (q : Nat × va_E), wb[k]? = some q → (wa ++ wb)[wa.length + k]? = some q := fun k q hq => by
    rw [List.getElem?_append_right (by omega), Nat.add_sub_cancel_left]; exact hq
  have ia : ∀ (k : Nat) (q : Nat × va_E), wa[k]? = some q → (wa ++ wb)[k]? = some q := fun k q hq => by
    rw [List.getElem?_append_left (List.getElem?_eq_some_iff.mp hq).1]; exact hq
  have da : va_D A wa := ⟨fun i j x y hx hy e => h2.1 i j x y (ia i x hx) (ia j y hy) e, fun k q hq => h2.2 k q (ia k q hq)⟩
  have db : va_D A wb := ⟨fun i j x y hx hy e => by have := h2.1 _ _ x y (ib i x hx) (ib j y hy) e; omega, fun k q hq => h2.2 _ q (ib k q hq)⟩
  refine ⟨hP.app pa, va_D.app hD da (fun i j x y hx hy => h3 i j x y hx (ia j y hy)), fun k q hq => h1 _ q (ib k q hq), db, fun i j x y hx hy => ?_⟩
  rcases app_at hx with ⟨k, hk⟩ | ⟨k, hk⟩
  · exact h3 k _ x y hk (ib j y hy)
  · intro e
    have := h2.1 k _ x y (ia k x hk) (ib j y hy) e
    have := (List.getElem?_eq_some_iff.mp hk).1
    omega
theorem TL_out0 {A : Nat → Prop} {D : va_G} {W wa wb : va_W} {H : Heap} (hP : va_P D vwCl (W ++ wa) H) (hD : va_D A (W ++ wa)) (hI : TL A D (W ++ wa) wb H) : va_P D vwCl W H ∧ va_D A W ∧ TL A D W (wa ++ wb) H := by
  obtain ⟨h1, h2, h3⟩ := hI
  have iW : ∀ (k : Nat) (q : Nat × va_E), W[k]? = some q → (W ++ wa)[k]? = some q := fun k q hq => by
    rw [List.getElem?_append_left (List.getElem?_eq_some_iff.mp hq).1]; exact hq
  have ia : ∀ (k : Nat) (q : Nat × va_E), wa[k]? = some q → (W ++ wa)[W.length + k]? = some q := fun k q hq => by
    rw [List.getElem?_append_right (by omega), Nat.add_sub_cancel_left]; exact hq
  have pa : va_P D vwCl wa H := fun k q hq => hP _ q (ia k q hq)
  have da : va_D A wa := ⟨fun i j x y hx hy e => by have := hD.1 _ _ x y (ia i x hx) (ia j y hy) e; omega, fun k q hq => hD.2 _ q (ia k q hq)⟩
  refine ⟨fun k q hq => hP k q (iW k q hq), ⟨fun i j x y hx hy e => hD.1 i j x y (iW i x hx) (iW j y hy) e, fun k q hq => hD.2 k q (iW k q hq)⟩, pa.app h1, va_D.app da h2 (fun i j x y hx hy => h3 _ j x y (ia i x hx) hy), fun i j x y hx hy => ?_⟩
  rcases app_at hy with ⟨k, hk⟩ | ⟨k, hk⟩
  · intro e
    have := hD.1 _ _ x y (iW i x hx) (ia k y hk) e
    have := (List.getElem?_eq_some_iff.mp hx).1
    omega
  · exact h3 i k x y (iW i x hx) hk
theorem TL.comm {A : Nat → Prop} {D : va_G} {W wa wb : va_W} {H : Heap} (hI : TL A D W (wa ++ wb) H) : TL A D W (wb ++ wa) H := by
  obtain ⟨h1, h2, h3⟩ := hI
  have ib : ∀ (k : Nat) (q : Nat × va_E), wb[k]? = some q → (wa ++ wb)[wa.length + k]? = some q := fun k q hq => by
    rw [List.getElem?_append_right (by omega), Nat.add_sub_cancel_left]; exact hq
  have ia : ∀ (k : Nat) (q : Nat × va_E), wa[k]? = some q → (wa ++ wb)[k]? = some q := fun k q hq => by
    rw [List.getElem?_append_left (List.getElem?_eq_some_iff.mp hq).1]; exact hq
  have da : va_D A wa := ⟨fun i j x y hx hy e => h2.1 i j x y (ia i x hx) (ia j y hy) e, fun k q hq => h2.2 k q (ia k q hq)⟩
  have db : va_D A wb := ⟨fun i j x y hx hy e => by have := h2.1 _ _ x y (ib i x hx) (ib j y hy) e; omega, fun k q hq => h2.2 _ q (ib k q hq)⟩
  refine ⟨va_P.app (fun k q hq => h1 _ q (ib k q hq)) (fun k q hq => h1 _ q (ia k q hq)), va_D.app db da (fun i j x y hx hy e => ?_), fun i j x y hx hy => ?_⟩
  · have := h2.1 _ _ x y (ib i x hx) (ia j y hy) e
    have := (List.getElem?_eq_some_iff.mp hy).1
    omega
  · rcases app_at hy with ⟨k, hk⟩ | ⟨k, hk⟩
    · exact h3 i _ x y hx (ib k y hk)
    · exact h3 i _ x y hx (ia k y hk)
theorem TL.sub {A : Nat → Prop} {D : va_G} {ws ws' wi : va_W} {H : Heap} (hI : TL A D ws wi H) (is : List Nat) (hs : is.map (fun i => ws[i]?) = ws'.map some) : TL A D ws' wi H :=
  ⟨hI.1, hI.2.1, fun i j x y hx hy => by
    obtain ⟨k, -, h2⟩ := ix_at hs i x hx
    exact hI.2.2 k j x y h2 hy⟩
theorem iR.reg {i : Nat} {all all' hi hi' : Nat → Int32} {im im' : Nat → Option Nat} {w : va_W} {y : List (ClassId × FieldType)} {n : Nat} (h : iR i all hi im w y n) (he : ∀ j, j < 162 → all' (162 * (i + 1) + j) = all (162 * (i + 1) + j)) (hh : hi' i = hi i) (hm : im' i = im i) : iR i all' hi' im' w y n := by
  rcases h with ⟨h1, h2, h3, h4⟩ | ⟨h1, h2, ha, qa, va, fa, ti, h3, h4, h5, h6, h7, h8⟩
  · exact Or.inl ⟨h1, by rw [hm]; exact h2, by rw [hh]; exact h3, h4⟩
  · exact Or.inr ⟨h1, by rw [hh]; exact h2, ha, qa, va, fa, ti, by rw [hm]; exact h3, h4, h5, h6, h7, tM_cp h6 h8 he⟩
theorem tC_cpy {t : Nat → Nat → Nat} {pch pwc pla pth pfi pli : Int32} {pfs phs plit psc psm pts pwh pwl pwq pxs hfs hhs hlit hsc hsm hts hwh hwl hwq hxs : Nat → Int32} (ht : Tok t) (hC : tC t pch pwc pla pth pfi pli pxs phs pfs pts psc psm plit pwq pwl pwh) : tC t pch pwc pla pth pfi pli (va_cpy pxs hxs 0 0 10) (va_cpy phs hhs 0 0 10) (va_cpy pfs hfs 0 0 10) (va_cpy pts hts 0 0 10) (va_cpy psc hsc 0 0 10) (va_cpy psm hsm 0 0 60) (va_cpy plit hlit 0 0 10) (va_cpy pwq hwq 0 0 12) (va_cpy pwl hwl 0 0 12) (va_cpy pwh hwh 0 0 12) := by
  have hn := ht.1
  have hw := ht.2.1
  have cp : ∀ (N j : Nat) (f g : Nat → Int32), j < N → va_cpy f g 0 0 N j = f j := fun N j f g hj => by
    rw [pk_cpy_in (by omega) (by omega)]
    congr 1
    omega
  obtain ⟨c0, c1, c2, c3, c4, c5, c6, c7⟩ := hC
  refine ⟨c0, c1, c2, c3, c4, c5, fun c hc => ?_, fun w hw' => ?_⟩
  · have hm6 := (ht.2.2.2.2.2.2.1 c hc).2.2.2.2.1.2
    rw [cp 10 c _ _ (by omega), cp 10 c _ _ (by omega), cp 10 c _ _ (by omega), cp 10 c _ _ (by omega), cp 10 c _ _ (by omega), cp 10 c _ _ (by omega)]
    obtain ⟨g0, g1, g2, g3, g4, g5, g6⟩ := c6 c hc
    exact ⟨g0, g1, g2, g3, g4, g5, fun k hk => by rw [cp 60 _ _ _ (by omega)]; exact g6 k hk⟩
  · rw [cp 12 w _ _ (by omega), cp 12 w _ _ (by omega), cp 12 w _ _ (by omega)]
    exact c7 w hw'
theorem row2 (a : Int32) : vb a 2 = false ∨ a = 0 ∨ a = 1 := by
  cases hv : vb a 2 with
  | false => exact Or.inl rfl
  | true =>
    obtain ⟨k, hk, rfl⟩ := vb_of (by decide) hv
    right
    rcases (show k = 0 ∨ k = 1 by omega) with rfl | rfl
    · exact Or.inl rfl
    · exact Or.inr rfl
theorem m_image {F k : Nat} {thr : Int32} {all hi : Nat → Int32} (hk : k < 2) (hF : 200 < F) : ∃ all', fX10_image F thr all hi (nI k) = some (0, 0, all', upd hi k (vp_nar .boolean (1 : Int32))) ∧ (∀ x, x < 162 → all' (162 * (k + 1) + x) = all x) ∧ ∀ x, (x < 162 * (k + 1) ∨ 162 * (k + 1) + 162 ≤ x) → all' x = all x := by
  obtain ⟨all', e1, e2, e3⟩ := p_im20 (F := F) (thr := 0) (hi := hi) hk 162 0 F all (by omega) (by omega)
  refine ⟨all', ?_, fun x hx => e2 x (Nat.zero_le _) hx, fun x hx => e3 x (by omega)⟩
  unfold fX10_image
  rw [w01a hk, ob_s, if_neg one0]
  exact e1
theorem m_image_n {F : Nat} {thr : Int32} {all hi : Nat → Int32} {a : Int32} (h : vb a 2 = false) : fX10_image F thr all hi a = some (-2, 0, all, hi) := by
  unfold fX10_image
  rw [w01n h, ob_s, if_pos rfl]
theorem m_restore_n {F : Nat} {thr : Int32} {all hi : Nat → Int32} {a : Int32} (h : vb a 2 = false) : fX10_restore F thr all hi a = some (-2, 0, all) := by
  unfold fX10_restore
  rw [w01n h, ob_s, if_pos rfl]
theorem m_restore_a {F k : Nat} {thr : Int32} {all hi : Nat → Int32} (hk : k < 2) (h : hi k = 0) : fX10_restore F thr all hi (nI k) = some (-5, 0, all) := by
  unfold fX10_restore
  rw [w01a hk, ob_s, if_neg one0, vb_nI hk (by decide), og_s, nI_clamp (by omega), if_pos h]
theorem m_restore_p {F k : Nat} {thr : Int32} {all hi : Nat → Int32} (hk : k < 2) (h : ¬ hi k = 0) (hF : 200 < F) : ∃ all', fX10_restore F thr all hi (nI k) = some (0, 0, all') ∧ (∀ x, x < 162 → all' x = all (162 * (k + 1) + x)) ∧ ∀ x, 162 ≤ x → all' x = all x := by
  obtain ⟨all', e1, e2, e3⟩ := p_re32 (F := F) (thr := 0) (hi := hi) hk 162 0 F all (by omega) (by omega)
  refine ⟨all', ?_, fun x hx => e2 x (Nat.zero_le _) hx, fun x hx => e3 x (Or.inr hx)⟩
  unfold fX10_restore
  rw [w01a hk, ob_s, if_neg one0, vb_nI hk (by decide), og_s, nI_clamp (by omega), if_neg h]
  exact e1
def cpL (j : Nat) : Nat := [10, 10, 10, 10, 10, 60, 10, 12, 12, 12].getD j 0
theorem LR_all {t : Nat → Nat → Nat} {p : Nat} {all' : Nat → Int32} {hch : Int32} {hwc : Int32} {hla : Int32} {hth : Int32} {hfi : Int32} {hli : Int32} {hxs : Nat → Int32} {hhs : Nat → Int32} {hfs : Nat → Int32} {hts : Nat → Int32} {hsc : Nat → Int32} {hsm : Nat → Int32} {hlit : Nat → Int32} {hwq : Nat → Int32} {hwl : Nat → Int32} {hwh : Nat → Int32} {ph : Nat → Int32} {pw : Nat → Int32} {tl : Nat → Int32} {th : Nat → Int32} {tpd : Int32} {tape : Nat → Int32} {rf : Int32} {rp : Int32} {s0 : Int32} {z0 : Int32} {b0 : Nat → Int64} {s1 : Int32} {z1 : Int32} {b1 : Nat → Int64} {s2 : Int32} {z2 : Int32} {b2 : Nat → Int64} {s3 : Int32} {z3 : Int32} {b3 : Nat → Int64} {mtp : Int32} {fk : Int32} {fp : Int32} {all : Nat → Int32} {mtape : Nat → Int32} {rsrt : Nat → Int32} {rmany : Nat → Int32} {nums : Nat → Int64} (hR : LR t p hch hwc hla hth hfi hli hxs hhs hfs hts hsc hsm hlit hwq hwl hwh ph pw tl th tpd tape rf rp s0 z0 b0 s1 z1 b1 s2 z2 b2 s3 z3 b3 mtp fk fp all mtape rsrt rmany nums) (k3 : tM t all' 0) : LR t p hch hwc hla hth hfi hli hxs hhs hfs hts hsc hsm hlit hwq hwl hwh ph pw tl th tpd tape rf rp s0 z0 b0 s1 z1 b1 s2 z2 b2 s3 z3 b3 mtp fk fp all' mtape rsrt rmany nums := by
  rcases hR with ⟨h1, h2, h3, h4, h5, h6, h7, h8, h9, h10, h11, h12⟩
  exact ⟨h1, h2, h3, h4, h5, k3, h7, h8, h9, h10, h11, h12⟩
