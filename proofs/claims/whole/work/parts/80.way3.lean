theorem p_layWay {F b c ly hg x0 : Nat} {Wd : Nat → Nat → Nat} {hs xs his los v : Nat → Int32} (hly : ly ≤ 20) (hWd : ∀ k q, Wd k q ≤ 6) (hlo : ∀ q, q < 48 → los q = nI (Wd 0 q)) (hhi : ∀ q, q < 48 → his q = nI (Wd 1 q)) (hx0 : x0 < 40) (hb : b ≤ 28) (hc : c < 10) (hhg : hg ≤ 24) (hxs : xs c = nI x0) (hhs : hs c = nI hg) (hF : 9 < F) :
    fX4_layWay F hs (nI ly) v xs his los (nI c) (nI b) = some (cpT v ((c * 29 + b) * 9) 0 9 (fun j => encW (wayX ly Wd hg x0 b j))) := by
  have ix : (nI c * (29 : Int32) + nI b) * (9 : Int32) = nI ((c * 29 + b) * 9) := by
    rw [show (29 : Int32) = nI 29 from rfl, pk_mul, nI_add, show (9 : Int32) = nI 9 from rfl, pk_mul]
  have hin : (c * 29 + b) * 9 + 9 ≤ 2610 := by omega
  unfold fX4_layWay
  rw [ix, ol_s, vb_nI (show c < 10 from hc) (by decide), og_s, ol_s, og_s, ol_s, vb_nI (by omega) (by decide), og_s, ol_s, nI_clamp (by omega), nI_clamp (by omega), hxs, hhs]
  have h := p_way_L (F := F) (c := nI c) (hs := hs) (xs := xs) hly hWd hlo hhi hx0 hb hin hhg 8 0 F (nI hg) (upd v ((c * 29 + b) * 9) (nI x0)) (by omega) (by omega) (fun _ _ => rfl)
  have hs := cpI_step (v := v) (g := fun j => encW (wayX ly Wd hg x0 b j)) (o := (c * 29 + b) * 9) (i := 0) (n := 9) (by decide)
  exact h.trans (congrArg some hs)
