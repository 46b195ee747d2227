theorem sw_ne {x k : Int32} (h : ¬ x = k) : x.toInt ≠ k.toInt := fun e => h (Int32.toInt_inj.mp e)
theorem sw_out3 {x : Int32} (h0 : ¬ x = 0) (h1 : ¬ x = 1) (h2 : ¬ x = 2) : x.toInt < 0 ∨ (2 : Int) < x.toInt := by
  have a0 : x.toInt ≠ 0 := sw_ne h0
  have a1 : x.toInt ≠ 1 := sw_ne h1
  have a2 : x.toInt ≠ 2 := sw_ne h2
  omega
theorem sw_out6 {x : Int32} (h0 : ¬ x = 0) (h1 : ¬ x = 1) (h2 : ¬ x = 2) (h3 : ¬ x = 3) (h4 : ¬ x = 4) (h5 : ¬ x = 5) : x.toInt < 0 ∨ (5 : Int) < x.toInt := by
  have a0 : x.toInt ≠ 0 := sw_ne h0
  have a1 : x.toInt ≠ 1 := sw_ne h1
  have a2 : x.toInt ≠ 2 := sw_ne h2
  have a3 : x.toInt ≠ 3 := sw_ne h3
  have a4 : x.toInt ≠ 4 := sw_ne h4
  have a5 : x.toInt ≠ 5 := sw_ne h5
  omega
theorem sw_out9 {x : Int32} (h0 : ¬ x = 0) (h1 : ¬ x = 1) (h2 : ¬ x = 2) (h3 : ¬ x = 3) (h4 : ¬ x = 4) (h5 : ¬ x = 5) (h6 : ¬ x = 6) (h7 : ¬ x = 7) (h8 : ¬ x = 8) : x.toInt < 0 ∨ (8 : Int) < x.toInt := by
  have a0 : x.toInt ≠ 0 := sw_ne h0
  have a1 : x.toInt ≠ 1 := sw_ne h1
  have a2 : x.toInt ≠ 2 := sw_ne h2
  have a3 : x.toInt ≠ 3 := sw_ne h3
  have a4 : x.toInt ≠ 4 := sw_ne h4
  have a5 : x.toInt ≠ 5 := sw_ne h5
  have a6 : x.toInt ≠ 6 := sw_ne h6
  have a7 : x.toInt ≠ 7 := sw_ne h7
  have a8 : x.toInt ≠ 8 := sw_ne h8
  omega
theorem sw_lk2 {x : Int32} {a b d : Int} (h0 : ¬ x = 0) (h1 : ¬ x = 1) : Op.lookupswitch.offset [(0, a), (1, b)] d x.toInt = d := by
  have a0 : x.toInt ≠ 0 := sw_ne h0
  have a1 : x.toInt ≠ 1 := sw_ne h1
  rw [Op.lookupswitch.offset_cons, if_neg (fun q => a0 q.symm), Op.lookupswitch.offset_cons, if_neg (fun q => a1 q.symm), Op.lookupswitch.offset_nil]
theorem sw_lk4 {x : Int32} {a b c d e : Int} (h0 : ¬ x = -1) (h1 : ¬ x = 10) (h2 : ¬ x = 32) (h3 : ¬ x = 59) : Op.lookupswitch.offset [(-1, a), (10, b), (32, c), (59, d)] e x.toInt = e := by
  have a0 : x.toInt ≠ -1 := sw_ne h0
  have a1 : x.toInt ≠ 10 := sw_ne h1
  have a2 : x.toInt ≠ 32 := sw_ne h2
  have a3 : x.toInt ≠ 59 := sw_ne h3
  rw [Op.lookupswitch.offset_cons, if_neg (fun q => a0 q.symm), Op.lookupswitch.offset_cons, if_neg (fun q => a1 q.symm), Op.lookupswitch.offset_cons, if_neg (fun q => a2 q.symm), Op.lookupswitch.offset_cons, if_neg (fun q => a3 q.symm), Op.lookupswitch.offset_nil]
theorem nar0 : narrow .boolean (.int 0) = .int 0 := rfl
theorem nar1 : narrow .boolean (.int 1) = .int 1 := rfl
