/-! THE READERS, side by side. RS: the class stands before the token that the reference has; RC: both have it. f a fault there is -/
def cT (a b kd v : Nat) (nx st so va : Int32) : Prop := nx = nI b ∧ st = nI a ∧ so = nI (srt kd) ∧ (kd = 8 → va = nI v)
def rT (a b kd v : Nat) (at' bh ki nu : Int32) : Prop := at' = nI a ∧ bh = nI b ∧ ki = nI kd ∧ (kd = 8 → nu = nI v)
def RS (F n : Nat) (c m : Nat → Int32) (lb p : Nat) (f pl at' bh ki nu w wa : Int32) : Prop := p ≤ n ∧ ((f = 0 ∧ w = 0 ∧ pl = -1 ∧ lb ≤ p ∧ ∃ a b kd v, tokP F n c m p a b kd v ∧ rT a b kd v at' bh ki nu) ∨ (¬ f = 0 ∧ w = f ∧ wa = pl))
def RC (F n : Nat) (c m : Nat → Int32) (lb : Nat) (f pl nx st so va at' bh ki nu w wa : Int32) : Prop := ∃ p a b kd v, tokP F n c m p a b kd v ∧ cT a b kd v nx st so va ∧ ((f = 0 ∧ w = 0 ∧ pl = -1 ∧ lb ≤ a ∧ rT a b kd v at' bh ki nu) ∨ (¬ f = 0 ∧ w = f ∧ wa = pl))
theorem kd_of {kd kd' : Nat} (h1 : kd ≤ 11) (h2 : kd' ≤ 11) : (nI kd = nI kd') ↔ kd = kd' := nI_eq (by omega) (by omega)
theorem blm0 {F a kd : Nat} {pl code : Int32} (hk : kd ≤ 11) : fX5_blame F 0 pl (nI a) (nI (srt kd)) code = some (if kd = 11 then 1 else code, nI a) := by
  unfold fX5_blame fX5_blame_L21
  rw [if_pos rfl]
  have h := srt_tab kd (by omega)
  by_cases e : kd = 11
  · rw [if_pos (show nI (srt kd) = 4 by rw [h.2.2.2.2.2.mpr e]; rfl), if_pos e]
  · rw [if_neg (show ¬ nI (srt kd) = 4 from nI_ne (a := srt kd) (b := 4) (by omega) (by decide) (fun z => e (h.2.2.2.2.2.mp z))), if_neg e]
theorem blmS {F : Nat} {f pl st so code : Int32} (hf : ¬ f = 0) : fX5_blame F f pl st so code = some (f, pl) := by
  unfold fX5_blame
  rw [if_neg hf]
theorem fail0 {F a kd : Nat} {wa code : Int32} (hk : kd ≤ 11) : fX10_fails F (nI a) (nI kd) 0 wa code = some (if kd = 11 then 1 else code, nI a) := by
  unfold fX10_fails fX10_fails_L23
  rw [if_pos rfl]
  by_cases e : kd = 11
  · rw [if_pos (show nI kd = 11 by rw [e]; rfl), if_pos e]
  · rw [if_neg (show ¬ nI kd = 11 from nI_ne (a := kd) (b := 11) (by omega) (by decide) e), if_neg e]
theorem failS {F : Nat} {at' ki w wa code : Int32} (hf : ¬ w = 0) : fX10_fails F at' ki w wa code = some (w, wa) := by
  unfold fX10_fails
  rw [if_neg hf]
theorem is0 {F kd j : Nat} (hk : kd ≤ 11) (hj : j ≤ 11) : fX10_is F (nI kd) 0 (nI j) = some (bI (decide (kd = j))) := by
  unfold fX10_is
  rw [if_pos rfl]
  by_cases e : kd = j
  · rw [if_pos (by rw [e]), decide_eq_true e]; rfl
  · rw [if_neg (nI_ne (by omega) (by omega) e), decide_eq_false e]; rfl
theorem isS {F : Nat} {ki w j : Int32} (hf : ¬ w = 0) : fX10_is F ki w j = some 0 := by
  unfold fX10_is
  rw [if_neg hf]
theorem eatS {F : Nat} {at' bh sz ki nu w j : Int32} {m : Nat → Int32} (hf : ¬ w = 0) : fX10_eats F at' bh sz ki nu w m j = some (0, at', bh, ki, nu) := by
  unfold fX10_eats
  rw [isS hf, ob_s, if_pos rfl]
theorem eatN {F kd j : Nat} {at' bh sz nu : Int32} {m : Nat → Int32} (hk : kd ≤ 11) (hj : j ≤ 11) (h : kd ≠ j) : fX10_eats F at' bh sz (nI kd) nu 0 m (nI j) = some (0, at', bh, nI kd, nu) := by
  unfold fX10_eats
  rw [is0 hk hj, ob_s, decide_eq_false h, bI_0 rfl, if_pos rfl]
theorem eatY {F n a' b b' kd kd' v' : Nat} {at' nu : Int32} {c m : Nat → Int32} (hk : kd ≤ 11) (hT : tokP F n c m b a' b' kd' v') : ∃ y, fX10_eats F at' (nI b) (nI n) (nI kd) nu 0 m (nI kd) = some (1, nI a', nI b', nI kd', y) ∧ (kd' = 8 → y = nI v') := by
  obtain ⟨y, y1, y2⟩ := hT.2.2.1 at' (nI kd) nu
  refine ⟨y, ?_, y2⟩
  unfold fX10_eats
  rw [is0 hk hk, ob_s, decide_eq_true rfl, bI_1 rfl, if_neg one0, y1, ob_s]
/-- a number's code of fault -/
def nCd (kd : Nat) : Nat := if kd = 11 then 1 else if kd = 8 then 3 else 2
theorem nCd_ne (kd : Nat) : ¬ nI (nCd kd) = 0 := by
  unfold nCd
  split
  · decide
  · split <;> decide
theorem srt2 {kd : Nat} (hk : kd ≤ 11) : (nI (srt kd) = 2) ↔ kd = 8 := by
  have h := srt_tab kd (by omega)
  constructor
  · intro z
    exact h.2.2.1.mp ((nI_eq (a := srt kd) (b := 2) (by omega) (by decide)).mp z)
  · intro z
    rw [h.2.2.1.mpr z]; rfl
theorem srt3 {kd : Nat} (hk : kd ≤ 11) : (nI (srt kd) = 3) ↔ kd = 9 := by
  have h := srt_tab kd (by omega)
  constructor
  · intro z
    exact h.2.2.2.1.mp ((nI_eq (a := srt kd) (b := 3) (by omega) (by decide)).mp z)
  · intro z
    rw [h.2.2.2.1.mpr z]; rfl
theorem srt0 {kd : Nat} (hk : kd ≤ 11) : (nI (srt kd) = 0) ↔ kd = 10 := by
  have h := srt_tab kd (by omega)
  constructor
  · intro z
    exact h.2.2.2.2.1.mp ((nI_eq (a := srt kd) (b := 0) (by omega) (by decide)).mp z)
  · intro z
    rw [h.2.2.2.2.1.mpr z]; rfl
theorem numC_st {F n p a b kd v : Nat} {c m : Nat → Int32} {f pl st so va lo hi : Int32} (hT : tokP F n c m p a b kd v) (hf : ¬ f = 0) : ∃ x, fX5_number F f pl (nI n) (nI p) st so va c lo hi = some (x, f, pl, nI b, nI a, nI (srt kd), x) ∧ (kd = 8 → x = nI v) := by
  obtain ⟨x, x1, x2⟩ := hT.2.1 st so va
  refine ⟨x, ?_, x2⟩
  unfold fX5_number fX5_number_L36 fX5_number_L41
  rw [x1, ob_s]
  dsimp only
  simp only [blmS hf, ob_s]
  split
  · split
    · rfl
    · split <;> rfl
  · rfl
theorem numC_ok {F n p a b v lo hi : Nat} {c m : Nat → Int32} {f pl st so va : Int32} (hT : tokP F n c m p a b 8 v) (hhi : hi < 2 ^ 31) (h1 : lo ≤ v) (h2 : v ≤ hi) : fX5_number F f pl (nI n) (nI p) st so va c (nI lo) (nI hi) = some (nI v, f, pl, nI b, nI a, nI (srt 8), nI v) := by
  obtain ⟨x, x1, x2⟩ := hT.2.1 st so va
  have hx := x2 rfl
  subst hx
  unfold fX5_number fX5_number_L41
  rw [x1, ob_s]
  dsimp only
  rw [if_pos (show nI (srt 8) = 2 from rfl), if_neg (nI_nlt (by omega) (by omega)), if_pos (nI_le h2 hhi)]
theorem numC_bad {F n p a b kd v lo hi : Nat} {c m : Nat → Int32} {pl st so va : Int32} (hT : tokP F n c m p a b kd v) (hlo : lo < 2 ^ 31) (h : ¬ (kd = 8 ∧ lo ≤ v ∧ v ≤ hi)) : ∃ x, fX5_number F 0 pl (nI n) (nI p) st so va c (nI lo) (nI hi) = some (x, nI (nCd kd), nI a, nI b, nI a, nI (srt kd), x) ∧ (kd = 8 → x = nI v) := by
  have hk := hT.1.2.2.2.1
  obtain ⟨x, x1, x2⟩ := hT.2.1 st so va
  refine ⟨x, ?_, x2⟩
  unfold fX5_number fX5_number_L36 fX5_number_L41
  rw [x1, ob_s]
  dsimp only
  by_cases e : kd = 8
  · subst e
    have hv := hT.1.2.2.2.2.1
    rw [if_pos ((srt2 hk).mpr rfl), x2 rfl, blm0 hk, ob_s]
    by_cases q : v < lo
    · rw [if_pos (nI_lt q hlo)]; rfl
    · rw [if_neg (nI_nlt (by omega) (by omega)), if_neg (nI_ge (a := hi) (b := v) (by omega) (by omega))]; rfl
  · rw [if_neg (fun z => e ((srt2 hk).mp z)), blm0 hk, ob_s]
    unfold nCd
    by_cases q : kd = 11
    · rw [if_pos q, if_pos q]; rfl
    · rw [if_neg q, if_neg q, if_neg e]; rfl
theorem takR_st {F : Nat} {at' bh sz ki nu w wa lo hi : Int32} {m : Nat → Int32} (hf : ¬ w = 0) : fX10_takes F at' bh sz ki nu w wa m lo hi = some (nu, at', bh, ki, nu, w, wa) := by
  unfold fX10_takes fX10_takes_L37 fX10_takes_L53
  rw [isS hf, ob_s, if_pos rfl, failS hf, ob_s, if_neg hf]
theorem w_in {v lo hi : Nat} (hv : v < 2 ^ 31) (hlo : lo < 2 ^ 31) (hhi : hi < 2 ^ 31) {F : Nat} : fX10_within F (nI v).toInt64 (nI lo).toInt64 (nI hi).toInt64 = some (bI (decide (lo ≤ v ∧ v ≤ hi))) := by
  rw [p_within32, Int32.toInt_toInt64, Int32.toInt_toInt64, nI_toInt hv, nI_toInt hlo, nI_toInt hhi]
  congr 2
  rw [Bool.eq_iff_iff]
  simp
theorem takR_ok {F n a b v lo hi a' b' kd' v' : Nat} {c m : Nat → Int32} {wa : Int32} (hv : v ≤ 999) (hlo : lo < 2 ^ 31) (hhi : hi < 2 ^ 31) (hT : tokP F n c m b a' b' kd' v') (h1 : lo ≤ v) (h2 : v ≤ hi) : ∃ y, fX10_takes F (nI a) (nI b) (nI n) (nI 8) (nI v) 0 wa m (nI lo) (nI hi) = some (nI v, nI a', nI b', nI kd', y, 0, wa) ∧ (kd' = 8 → y = nI v') := by
  obtain ⟨y, y1, y2⟩ := hT.2.2.1 (nI a) (nI 8) (nI v)
  refine ⟨y, ?_, y2⟩
  unfold fX10_takes fX10_takes_L37 fX10_takes_L53
  rw [show (8 : Int32) = nI 8 from rfl, is0 (by decide) (by decide), ob_s, decide_eq_true rfl, bI_1 rfl, if_neg one0, w_in (by omega) hlo hhi, ob_s, decide_eq_true ⟨h1, h2⟩, bI_1 rfl, if_neg one0, if_pos rfl, y1, ob_s]
theorem takR_bad {F n a kd v lo hi : Nat} {at' bh nu wa : Int32} {m : Nat → Int32} (hk : kd ≤ 11) (hv : v ≤ 999) (hlo : lo < 2 ^ 31) (hhi : hi < 2 ^ 31) (ha : at' = nI a) (hnu : kd = 8 → nu = nI v) (h : ¬ (kd = 8 ∧ lo ≤ v ∧ v ≤ hi)) : fX10_takes F at' bh (nI n) (nI kd) nu 0 wa m (nI lo) (nI hi) = some (nu, at', bh, nI kd, nu, nI (nCd kd), nI a) := by
  subst ha
  unfold fX10_takes fX10_takes_L37 fX10_takes_L53
  rw [show (8 : Int32) = nI 8 from rfl, is0 hk (by decide), ob_s]
  by_cases e : kd = 8
  · subst e
    rw [hnu rfl, decide_eq_true rfl, bI_1 rfl, if_neg one0, w_in (by omega) hlo hhi, ob_s, decide_eq_false (fun z => h ⟨rfl, z⟩), bI_0 rfl, if_pos rfl, fail0 hk, ob_s]
    rw [if_neg (show ¬ (if (8 : Nat) = 11 then (1 : Int32) else 3) = 0 by decide)]
    rfl
  · rw [decide_eq_false e, bI_0 rfl, if_pos rfl, fail0 hk, ob_s]
    dsimp only
    unfold nCd
    by_cases q : kd = 11
    · rw [if_pos q, if_neg one0, if_pos q]; rfl
    · rw [if_neg q, if_neg (by decide), if_neg q, if_neg e]; rfl
/-- a number: both read it, or both blame it -/
theorem num2 {F n lb p lo hi : Nat} {c m : Nat → Int32} {f pl st so va at' bh ki nu w wa : Int32} (hTok : ∀ q, q ≤ n → ∃ a b kd v, tokP F n c m q a b kd v) (hlo : lo < 2 ^ 31) (hhi : hi < 2 ^ 31) (hS : RS F n c m lb p f pl at' bh ki nu w wa) :
    ∃ p' x f' pl' st' so' y at'' bh' ki' nu' w' wa', fX5_number F f pl (nI n) (nI p) st so va c (nI lo) (nI hi) = some (x, f', pl', nI p', st', so', x) ∧ fX10_takes F at' bh (nI n) ki nu w wa m (nI lo) (nI hi) = some (y, at'', bh', ki', nu', w', wa') ∧ RS F n c m lb p' f' pl' at'' bh' ki' nu' w' wa' ∧ (f' = 0 → f = 0 ∧ ∃ v, lo ≤ v ∧ v ≤ hi ∧ x = nI v ∧ y = nI v) := by
  obtain ⟨hp, hS⟩ := hS
  rcases hS with ⟨rfl, rfl, rfl, hlb, a, b, kd, v, hT, rfl, rfl, rfl, hnu⟩ | ⟨hf, rfl, rfl⟩
  · obtain ⟨q1, q2, q3, q4, q5, q6⟩ := hT.1
    by_cases ok : kd = 8 ∧ lo ≤ v ∧ v ≤ hi
    · obtain ⟨rfl, o1, o2⟩ := ok
      have hnu' := hnu rfl
      subst hnu'
      obtain ⟨a', b', kd', v', hT'⟩ := hTok b q3
      obtain ⟨y, y1, y2⟩ := takR_ok (a := a) (wa := wa) q5 hlo hhi hT' o1 o2
      refine ⟨b, nI v, 0, -1, nI a, nI (srt 8), nI v, nI a', nI b', nI kd', y, 0, wa, numC_ok hT hhi o1 o2, y1, ⟨q3, Or.inl ⟨rfl, rfl, rfl, by omega, a', b', kd', v', hT', rfl, rfl, rfl, y2⟩⟩, fun _ => ⟨rfl, v, o1, o2, rfl, rfl⟩⟩
    · obtain ⟨x, x1, -⟩ := numC_bad (pl := -1) (st := st) (so := so) (va := va) hT hlo ok
      exact ⟨b, x, nI (nCd kd), nI a, nI a, nI (srt kd), nu, nI a, nI b, nI kd, nu, nI (nCd kd), nI a, x1, takR_bad q4 q5 hlo hhi rfl hnu ok, ⟨q3, Or.inr ⟨nCd_ne kd, rfl, rfl⟩⟩, fun z => absurd z (nCd_ne kd)⟩
  · obtain ⟨a, b, kd, v, hT⟩ := hTok p hp
    obtain ⟨x, x1, -⟩ := numC_st (pl := wa) (st := st) (so := so) (va := va) (lo := nI lo) (hi := nI hi) hT hf
    exact ⟨b, x, w, wa, nI a, nI (srt kd), nu, at', bh, ki, nu, w, wa, x1, takR_st hf, ⟨hT.1.2.2.1, Or.inr ⟨hf, rfl, rfl⟩⟩, fun z => absurd z hf⟩
/-- the class takes the token that the reference has -/
theorem tk2 {F n lb p : Nat} {c m : Nat → Int32} {f pl st so va at' bh ki nu w wa : Int32} (hTok : ∀ q, q ≤ n → ∃ a b kd v, tokP F n c m q a b kd v) (hS : RS F n c m lb p f pl at' bh ki nu w wa) : ∃ nx' st' so' va', fX5_takeToken F (nI n) (nI p) st so va c = some (nx', st', so', va') ∧ RC F n c m lb f pl nx' st' so' va' at' bh ki nu w wa := by
  obtain ⟨hp, hS⟩ := hS
  rcases hS with ⟨rfl, rfl, rfl, hlb, a, b, kd, v, hT, hr⟩ | hbad
  · obtain ⟨x, x1, x2⟩ := hT.2.1 st so va
    exact ⟨nI b, nI a, nI (srt kd), x, x1, p, a, b, kd, v, hT, ⟨rfl, rfl, rfl, x2⟩, Or.inl ⟨rfl, rfl, rfl, by have := hT.1.1; omega, hr⟩⟩
  · obtain ⟨a, b, kd, v, hT⟩ := hTok p hp
    obtain ⟨x, x1, x2⟩ := hT.2.1 st so va
    exact ⟨nI b, nI a, nI (srt kd), x, x1, p, a, b, kd, v, hT, ⟨rfl, rfl, rfl, x2⟩, Or.inr hbad⟩
/-- the reference goes on from a token that both have -/
theorem nx2 {F n p a b kd v lb : Nat} {c m : Nat → Int32} {at' ki nu wa : Int32} (hTok : ∀ q, q ≤ n → ∃ a b kd v, tokP F n c m q a b kd v) (hT : tokP F n c m p a b kd v) (hlb : lb ≤ a) (hk : kd ≠ 10) : ∃ at'' bh' ki' nu', fX10_next F at' (nI b) (nI n) ki nu m = some (at'', bh', ki', nu') ∧ RS F n c m (lb + 1) b 0 (-1) at'' bh' ki' nu' 0 wa := by
  obtain ⟨a', b', kd', v', hT'⟩ := hTok b hT.1.2.2.1
  obtain ⟨y, y1, y2⟩ := hT'.2.2.1 at' ki nu
  exact ⟨nI a', nI b', nI kd', y, y1, hT.1.2.2.1, Or.inl ⟨rfl, rfl, rfl, by have := hT.1.2.2.2.2.2 hk; omega, a', b', kd', v', hT', rfl, rfl, rfl, y2⟩⟩
theorem RS_lb {F n lb lb' p : Nat} {c m : Nat → Int32} {f pl at' bh ki nu w wa : Int32} (h : RS F n c m lb p f pl at' bh ki nu w wa) (hl : lb' ≤ lb) : RS F n c m lb' p f pl at' bh ki nu w wa := by
  obtain ⟨hp, h⟩ := h
  refine ⟨hp, ?_⟩
  rcases h with ⟨h1, h2, h3, h4, h5⟩ | h
  · exact Or.inl ⟨h1, h2, h3, by omega, h5⟩
  · exact Or.inr h
/-- a number alone, and what comes behind it -/
theorem only2 {F n lb p lo hi : Nat} {c m : Nat → Int32} {f pl st so va at' bh ki nu w wa : Int32} (hTok : ∀ q, q ≤ n → ∃ a b kd v, tokP F n c m q a b kd v) (hlo : lo < 2 ^ 31) (hhi : hi < 2 ^ 31) (hS : RS F n c m lb p f pl at' bh ki nu w wa) :
    ∃ x f' pl' nx' st' so' va' y at'' bh' ki' nu' w' wa', fX5_onlyNumber F f pl (nI n) (nI p) st so va c (nI lo) (nI hi) = some (x, f', pl', nx', st', so', va') ∧ fX10_takes F at' bh (nI n) ki nu w wa m (nI lo) (nI hi) = some (y, at'', bh', ki', nu', w', wa') ∧ RC F n c m lb f' pl' nx' st' so' va' at'' bh' ki' nu' w' wa' ∧ (f' = 0 → f = 0 ∧ ∃ v, lo ≤ v ∧ v ≤ hi ∧ x = nI v ∧ y = nI v) := by
  obtain ⟨p', x, f', pl', st', so', y, at'', bh', ki', nu', w', wa', e1, e2, e3, e4⟩ := num2 (st := st) (so := so) (va := va) hTok hlo hhi hS
  obtain ⟨nx2, st2, so2, va2, k1, k2⟩ := tk2 (st := st') (so := so') (va := x) hTok e3
  refine ⟨x, f', pl', nx2, st2, so2, va2, y, at'', bh', ki', nu', w', wa', ?_, e2, k2, e4⟩
  unfold fX5_onlyNumber
  rw [e1, ob_s]
  dsimp only
  rw [k1, ob_s]
