section RULES
variable {G : GT} {d m pc : Nat} {ls st : List Value} {M : AM} {nc ns : Nat} {Q : AM → Option Value → Prop}
theorem P_iadd {x y : Int32} (hd : decode (mC m) pc = .ok (.iadd, 1)) (h : PW G d m (pc + 1) ls (.int (x + y) :: st) M nc ns Q) : PW G d m pc ls (.int y :: .int x :: st) M nc ns Q :=
  fun p e R s mid args below meth c H locs lsM X => lv_iadd X.1.1 X.1.2.1 hd (h p e R s mid args below meth c H locs lsM X)
theorem P_isub {x y : Int32} (hd : decode (mC m) pc = .ok (.isub, 1)) (h : PW G d m (pc + 1) ls (.int (x - y) :: st) M nc ns Q) : PW G d m pc ls (.int y :: .int x :: st) M nc ns Q :=
  fun p e R s mid args below meth c H locs lsM X => lv_isub X.1.1 X.1.2.1 hd (h p e R s mid args below meth c H locs lsM X)
theorem P_imul {x y : Int32} (hd : decode (mC m) pc = .ok (.imul, 1)) (h : PW G d m (pc + 1) ls (.int (x * y) :: st) M nc ns Q) : PW G d m pc ls (.int y :: .int x :: st) M nc ns Q :=
  fun p e R s mid args below meth c H locs lsM X => lv_imul X.1.1 X.1.2.1 hd (h p e R s mid args below meth c H locs lsM X)
theorem P_iand {x y : Int32} (hd : decode (mC m) pc = .ok (.iand, 1)) (h : PW G d m (pc + 1) ls (.int (x &&& y) :: st) M nc ns Q) : PW G d m pc ls (.int y :: .int x :: st) M nc ns Q :=
  fun p e R s mid args below meth c H locs lsM X => lv_iand X.1.1 X.1.2.1 hd (h p e R s mid args below meth c H locs lsM X)
theorem P_ior {x y : Int32} (hd : decode (mC m) pc = .ok (.ior, 1)) (h : PW G d m (pc + 1) ls (.int (x ||| y) :: st) M nc ns Q) : PW G d m pc ls (.int y :: .int x :: st) M nc ns Q :=
  fun p e R s mid args below meth c H locs lsM X => lv_ior X.1.1 X.1.2.1 hd (h p e R s mid args below meth c H locs lsM X)
theorem P_ixor {x y : Int32} (hd : decode (mC m) pc = .ok (.ixor, 1)) (h : PW G d m (pc + 1) ls (.int (x ^^^ y) :: st) M nc ns Q) : PW G d m pc ls (.int y :: .int x :: st) M nc ns Q :=
  fun p e R s mid args below meth c H locs lsM X => lv_ixor X.1.1 X.1.2.1 hd (h p e R s mid args below meth c H locs lsM X)
theorem P_ishl {x y : Int32} (hd : decode (mC m) pc = .ok (.ishl, 1)) (h : PW G d m (pc + 1) ls (.int (x <<< (y &&& 31)) :: st) M nc ns Q) : PW G d m pc ls (.int y :: .int x :: st) M nc ns Q :=
  fun p e R s mid args below meth c H locs lsM X => lv_ishl X.1.1 X.1.2.1 hd (h p e R s mid args below meth c H locs lsM X)
theorem P_ishr {x y : Int32} (hd : decode (mC m) pc = .ok (.ishr, 1)) (h : PW G d m (pc + 1) ls (.int (x >>> (y &&& 31)) :: st) M nc ns Q) : PW G d m pc ls (.int y :: .int x :: st) M nc ns Q :=
  fun p e R s mid args below meth c H locs lsM X => lv_ishr X.1.1 X.1.2.1 hd (h p e R s mid args below meth c H locs lsM X)
theorem P_ladd {x y : Int64} (hd : decode (mC m) pc = .ok (.ladd, 1)) (h : PW G d m (pc + 1) ls (.long (x + y) :: st) M nc ns Q) : PW G d m pc ls (.long y :: .long x :: st) M nc ns Q :=
  fun p e R s mid args below meth c H locs lsM X => lv_ladd X.1.1 X.1.2.1 hd (h p e R s mid args below meth c H locs lsM X)
theorem P_lsub {x y : Int64} (hd : decode (mC m) pc = .ok (.lsub, 1)) (h : PW G d m (pc + 1) ls (.long (x - y) :: st) M nc ns Q) : PW G d m pc ls (.long y :: .long x :: st) M nc ns Q :=
  fun p e R s mid args below meth c H locs lsM X => lv_lsub X.1.1 X.1.2.1 hd (h p e R s mid args below meth c H locs lsM X)
theorem P_lmul {x y : Int64} (hd : decode (mC m) pc = .ok (.lmul, 1)) (h : PW G d m (pc + 1) ls (.long (x * y) :: st) M nc ns Q) : PW G d m pc ls (.long y :: .long x :: st) M nc ns Q :=
  fun p e R s mid args below meth c H locs lsM X => lv_lmul X.1.1 X.1.2.1 hd (h p e R s mid args below meth c H locs lsM X)
theorem P_land {x y : Int64} (hd : decode (mC m) pc = .ok (.land, 1)) (h : PW G d m (pc + 1) ls (.long (x &&& y) :: st) M nc ns Q) : PW G d m pc ls (.long y :: .long x :: st) M nc ns Q :=
  fun p e R s mid args below meth c H locs lsM X => lv_land X.1.1 X.1.2.1 hd (h p e R s mid args below meth c H locs lsM X)
theorem P_lor {x y : Int64} (hd : decode (mC m) pc = .ok (.lor, 1)) (h : PW G d m (pc + 1) ls (.long (x ||| y) :: st) M nc ns Q) : PW G d m pc ls (.long y :: .long x :: st) M nc ns Q :=
  fun p e R s mid args below meth c H locs lsM X => lv_lor X.1.1 X.1.2.1 hd (h p e R s mid args below meth c H locs lsM X)
theorem P_lxor {x y : Int64} (hd : decode (mC m) pc = .ok (.lxor, 1)) (h : PW G d m (pc + 1) ls (.long (x ^^^ y) :: st) M nc ns Q) : PW G d m pc ls (.long y :: .long x :: st) M nc ns Q :=
  fun p e R s mid args below meth c H locs lsM X => lv_lxor X.1.1 X.1.2.1 hd (h p e R s mid args below meth c H locs lsM X)
theorem P_idiv {x y : Int32} (hd : decode (mC m) pc = .ok (.idiv, 1)) (hy : ¬ y = 0) (h : PW G d m (pc + 1) ls (.int (x / y) :: st) M nc ns Q) : PW G d m pc ls (.int y :: .int x :: st) M nc ns Q :=
  fun p e R s mid args below meth c H locs lsM X => lv_idiv X.1.1 X.1.2.1 hd hy (h p e R s mid args below meth c H locs lsM X)
theorem P_irem {x y : Int32} (hd : decode (mC m) pc = .ok (.irem, 1)) (hy : ¬ y = 0) (h : PW G d m (pc + 1) ls (.int (x % y) :: st) M nc ns Q) : PW G d m pc ls (.int y :: .int x :: st) M nc ns Q := by
  intro p e R s mid args below meth c H locs lsM X
  have h2 := h p e R s mid args below meth c H locs lsM X
  rw [← irem_eq_mod] at h2
  exact lv_irem X.1.1 X.1.2.1 hd hy h2
theorem P_ineg {x : Int32} (hd : decode (mC m) pc = .ok (.ineg, 1)) (h : PW G d m (pc + 1) ls (.int (-x) :: st) M nc ns Q) : PW G d m pc ls (.int x :: st) M nc ns Q :=
  fun p e R s mid args below meth c H locs lsM X => lv_ineg X.1.1 X.1.2.1 hd (h p e R s mid args below meth c H locs lsM X)
theorem P_iushr {x y : Int32} (hd : decode (mC m) pc = .ok (.iushr, 1)) (h : PW G d m (pc + 1) ls (.int (x.toUInt32 >>> (y.toUInt32 &&& Int32.toUInt32 31)).toInt32 :: st) M nc ns Q) : PW G d m pc ls (.int y :: .int x :: st) M nc ns Q :=
  fun p e R s mid args below meth c H locs lsM X => lv_iushr X.1.1 X.1.2.1 hd rfl (h p e R s mid args below meth c H locs lsM X)
theorem P_i2l {x : Int32} (hd : decode (mC m) pc = .ok (.i2l, 1)) (h : PW G d m (pc + 1) ls (.long (x.toInt64) :: st) M nc ns Q) : PW G d m pc ls (.int x :: st) M nc ns Q :=
  fun p e R s mid args below meth c H locs lsM X => lv_i2l X.1.1 X.1.2.1 hd rfl (h p e R s mid args below meth c H locs lsM X)
theorem P_l2i {x : Int64} (hd : decode (mC m) pc = .ok (.l2i, 1)) (h : PW G d m (pc + 1) ls (.int (x.toInt32) :: st) M nc ns Q) : PW G d m pc ls (.long x :: st) M nc ns Q :=
  fun p e R s mid args below meth c H locs lsM X => lv_l2i X.1.1 X.1.2.1 hd rfl (h p e R s mid args below meth c H locs lsM X)
theorem P_i2b {x : Int32} (hd : decode (mC m) pc = .ok (.i2b, 1)) (h : PW G d m (pc + 1) ls (.int (x.toInt8.toInt32) :: st) M nc ns Q) : PW G d m pc ls (.int x :: st) M nc ns Q :=
  fun p e R s mid args below meth c H locs lsM X => lv_i2b X.1.1 X.1.2.1 hd rfl (h p e R s mid args below meth c H locs lsM X)
theorem P_i2c {x : Int32} (hd : decode (mC m) pc = .ok (.i2c, 1)) (h : PW G d m (pc + 1) ls (.int ((x.toUInt32 % 65536).toInt32) :: st) M nc ns Q) : PW G d m pc ls (.int x :: st) M nc ns Q :=
  fun p e R s mid args below meth c H locs lsM X => lv_i2c X.1.1 X.1.2.1 hd rfl (h p e R s mid args below meth c H locs lsM X)
theorem P_lshl {x : Int64} {y : Int32} (hd : decode (mC m) pc = .ok (.lshl, 1)) (h : PW G d m (pc + 1) ls (.long (x <<< (y.toInt64 &&& 63)) :: st) M nc ns Q) : PW G d m pc ls (.int y :: .long x :: st) M nc ns Q :=
  fun p e R s mid args below meth c H locs lsM X => lv_lshl X.1.1 X.1.2.1 hd rfl (h p e R s mid args below meth c H locs lsM X)
theorem P_lcmp {x y : Int64} (hd : decode (mC m) pc = .ok (.lcmp, 1)) (h : PW G d m (pc + 1) ls (.int (lg_cmp x y) :: st) M nc ns Q) : PW G d m pc ls (.long y :: .long x :: st) M nc ns Q :=
  fun p e R s mid args below meth c H locs lsM X => W.lcmp X.1.1 X.1.2.1 hd (h p e R s mid args below meth c H locs lsM X)
theorem cv_cat {s : State} (h : SW G s) (v : Value) : (cv G v).category = v.category := by
  cases v with
  | ref c =>
    show (cr G c).category = 1
    rcases cr_case h c with q | ⟨a, q⟩ <;> rw [q] <;> rfl
  | _ => rfl
theorem P_dup {v : Value} (hd : decode (mC m) pc = .ok (.dup, 1)) (hc : v.category = 1) (h : PW G d m (pc + 1) ls (v :: v :: st) M nc ns Q) : PW G d m pc ls (v :: st) M nc ns Q :=
  fun p e R s mid args below meth c H locs lsM X => lv_dup X.1.1 X.1.2.1 hd ((cv_cat X.1.2.2.2.2.2.2.2.2 v).trans hc) (h p e R s mid args below meth c H locs lsM X)
theorem P_pop {v : Value} (hd : decode (mC m) pc = .ok (.pop, 1)) (hc : v.category = 1) (h : PW G d m (pc + 1) ls st M nc ns Q) : PW G d m pc ls (v :: st) M nc ns Q :=
  fun p e R s mid args below meth c H locs lsM X => lv_pop X.1.1 X.1.2.1 hd ((cv_cat X.1.2.2.2.2.2.2.2.2 v).trans hc) (h p e R s mid args below meth c H locs lsM X)
theorem P_dup_x1 {v w : Value} (hd : decode (mC m) pc = .ok (.dup_x1, 1)) (hc : v.category = 1) (hc2 : w.category = 1) (h : PW G d m (pc + 1) ls (v :: w :: v :: st) M nc ns Q) : PW G d m pc ls (v :: w :: st) M nc ns Q :=
  fun p e R s mid args below meth c H locs lsM X => lv_dup_x1 X.1.1 X.1.2.1 hd ((cv_cat X.1.2.2.2.2.2.2.2.2 v).trans hc) ((cv_cat X.1.2.2.2.2.2.2.2.2 w).trans hc2) (h p e R s mid args below meth c H locs lsM X)
theorem P_dup2 {v w : Value} (hd : decode (mC m) pc = .ok (.dup2, 1)) (hc : v.category = 1) (hc2 : w.category = 1) (h : PW G d m (pc + 1) ls (v :: w :: v :: w :: st) M nc ns Q) : PW G d m pc ls (v :: w :: st) M nc ns Q :=
  fun p e R s mid args below meth c H locs lsM X => lv_dup2_11 X.1.1 X.1.2.1 hd ((cv_cat X.1.2.2.2.2.2.2.2.2 v).trans hc) ((cv_cat X.1.2.2.2.2.2.2.2.2 w).trans hc2) (h p e R s mid args below meth c H locs lsM X)
theorem P_if_eq {x : Int32} {off : Int} {tgt : Nat} (hd : decode (mC m) pc = .ok (.ifCond .eq off, 3)) (ht : (pc : Int) + off = (tgt : Int)) (kt : x = 0 → PW G d m tgt ls st M nc ns Q) (kf : ¬ x = 0 → PW G d m (pc + 3) ls st M nc ns Q) : PW G d m pc ls (.int x :: st) M nc ns Q :=
  fun p e R s mid args below meth c H locs lsM X => lv_if_eq X.1.1 X.1.2.1 hd ht (fun q => kt q p e R s mid args below meth c H locs lsM X) (fun q => kf q p e R s mid args below meth c H locs lsM X)
theorem P_if_ne {x : Int32} {off : Int} {tgt : Nat} (hd : decode (mC m) pc = .ok (.ifCond .ne off, 3)) (ht : (pc : Int) + off = (tgt : Int)) (kt : ¬ x = 0 → PW G d m tgt ls st M nc ns Q) (kf : x = 0 → PW G d m (pc + 3) ls st M nc ns Q) : PW G d m pc ls (.int x :: st) M nc ns Q :=
  fun p e R s mid args below meth c H locs lsM X => lv_if_ne X.1.1 X.1.2.1 hd ht (fun q => kt q p e R s mid args below meth c H locs lsM X) (fun q => kf q p e R s mid args below meth c H locs lsM X)
theorem P_if_lt {x : Int32} {off : Int} {tgt : Nat} (hd : decode (mC m) pc = .ok (.ifCond .lt off, 3)) (ht : (pc : Int) + off = (tgt : Int)) (kt : x < 0 → PW G d m tgt ls st M nc ns Q) (kf : ¬ x < 0 → PW G d m (pc + 3) ls st M nc ns Q) : PW G d m pc ls (.int x :: st) M nc ns Q :=
  fun p e R s mid args below meth c H locs lsM X => lv_if_lt X.1.1 X.1.2.1 hd ht (fun q => kt q p e R s mid args below meth c H locs lsM X) (fun q => kf q p e R s mid args below meth c H locs lsM X)
theorem P_if_ge {x : Int32} {off : Int} {tgt : Nat} (hd : decode (mC m) pc = .ok (.ifCond .ge off, 3)) (ht : (pc : Int) + off = (tgt : Int)) (kt : 0 ≤ x → PW G d m tgt ls st M nc ns Q) (kf : ¬ 0 ≤ x → PW G d m (pc + 3) ls st M nc ns Q) : PW G d m pc ls (.int x :: st) M nc ns Q :=
  fun p e R s mid args below meth c H locs lsM X => lv_if_ge X.1.1 X.1.2.1 hd ht (fun q => kt q p e R s mid args below meth c H locs lsM X) (fun q => kf q p e R s mid args below meth c H locs lsM X)
theorem P_if_gt {x : Int32} {off : Int} {tgt : Nat} (hd : decode (mC m) pc = .ok (.ifCond .gt off, 3)) (ht : (pc : Int) + off = (tgt : Int)) (kt : 0 < x → PW G d m tgt ls st M nc ns Q) (kf : ¬ 0 < x → PW G d m (pc + 3) ls st M nc ns Q) : PW G d m pc ls (.int x :: st) M nc ns Q :=
  fun p e R s mid args below meth c H locs lsM X => lv_if_gt X.1.1 X.1.2.1 hd ht (fun q => kt q p e R s mid args below meth c H locs lsM X) (fun q => kf q p e R s mid args below meth c H locs lsM X)
theorem P_if_le {x : Int32} {off : Int} {tgt : Nat} (hd : decode (mC m) pc = .ok (.ifCond .le off, 3)) (ht : (pc : Int) + off = (tgt : Int)) (kt : x ≤ 0 → PW G d m tgt ls st M nc ns Q) (kf : ¬ x ≤ 0 → PW G d m (pc + 3) ls st M nc ns Q) : PW G d m pc ls (.int x :: st) M nc ns Q :=
  fun p e R s mid args below meth c H locs lsM X => lv_if_le X.1.1 X.1.2.1 hd ht (fun q => kt q p e R s mid args below meth c H locs lsM X) (fun q => kf q p e R s mid args below meth c H locs lsM X)
theorem P_icmp_eq {x y : Int32} {off : Int} {tgt : Nat} (hd : decode (mC m) pc = .ok (.if_icmp .eq off, 3)) (ht : (pc : Int) + off = (tgt : Int)) (kt : x = y → PW G d m tgt ls st M nc ns Q) (kf : ¬ x = y → PW G d m (pc + 3) ls st M nc ns Q) : PW G d m pc ls (.int y :: .int x :: st) M nc ns Q :=
  fun p e R s mid args below meth c H locs lsM X => lv_icmp_eq X.1.1 X.1.2.1 hd ht (fun q => kt q p e R s mid args below meth c H locs lsM X) (fun q => kf q p e R s mid args below meth c H locs lsM X)
theorem P_icmp_ne {x y : Int32} {off : Int} {tgt : Nat} (hd : decode (mC m) pc = .ok (.if_icmp .ne off, 3)) (ht : (pc : Int) + off = (tgt : Int)) (kt : ¬ x = y → PW G d m tgt ls st M nc ns Q) (kf : x = y → PW G d m (pc + 3) ls st M nc ns Q) : PW G d m pc ls (.int y :: .int x :: st) M nc ns Q :=
  fun p e R s mid args below meth c H locs lsM X => lv_icmp_ne X.1.1 X.1.2.1 hd ht (fun q => kt q p e R s mid args below meth c H locs lsM X) (fun q => kf q p e R s mid args below meth c H locs lsM X)
theorem P_icmp_lt {x y : Int32} {off : Int} {tgt : Nat} (hd : decode (mC m) pc = .ok (.if_icmp .lt off, 3)) (ht : (pc : Int) + off = (tgt : Int)) (kt : x < y → PW G d m tgt ls st M nc ns Q) (kf : ¬ x < y → PW G d m (pc + 3) ls st M nc ns Q) : PW G d m pc ls (.int y :: .int x :: st) M nc ns Q :=
  fun p e R s mid args below meth c H locs lsM X => lv_icmp_lt X.1.1 X.1.2.1 hd ht (fun q => kt q p e R s mid args below meth c H locs lsM X) (fun q => kf q p e R s mid args below meth c H locs lsM X)
theorem P_icmp_ge {x y : Int32} {off : Int} {tgt : Nat} (hd : decode (mC m) pc = .ok (.if_icmp .ge off, 3)) (ht : (pc : Int) + off = (tgt : Int)) (kt : y ≤ x → PW G d m tgt ls st M nc ns Q) (kf : ¬ y ≤ x → PW G d m (pc + 3) ls st M nc ns Q) : PW G d m pc ls (.int y :: .int x :: st) M nc ns Q :=
  fun p e R s mid args below meth c H locs lsM X => lv_icmp_ge X.1.1 X.1.2.1 hd ht (fun q => kt q p e R s mid args below meth c H locs lsM X) (fun q => kf q p e R s mid args below meth c H locs lsM X)
theorem P_icmp_gt {x y : Int32} {off : Int} {tgt : Nat} (hd : decode (mC m) pc = .ok (.if_icmp .gt off, 3)) (ht : (pc : Int) + off = (tgt : Int)) (kt : y < x → PW G d m tgt ls st M nc ns Q) (kf : ¬ y < x → PW G d m (pc + 3) ls st M nc ns Q) : PW G d m pc ls (.int y :: .int x :: st) M nc ns Q :=
  fun p e R s mid args below meth c H locs lsM X => lv_icmp_gt X.1.1 X.1.2.1 hd ht (fun q => kt q p e R s mid args below meth c H locs lsM X) (fun q => kf q p e R s mid args below meth c H locs lsM X)
theorem P_icmp_le {x y : Int32} {off : Int} {tgt : Nat} (hd : decode (mC m) pc = .ok (.if_icmp .le off, 3)) (ht : (pc : Int) + off = (tgt : Int)) (kt : x ≤ y → PW G d m tgt ls st M nc ns Q) (kf : ¬ x ≤ y → PW G d m (pc + 3) ls st M nc ns Q) : PW G d m pc ls (.int y :: .int x :: st) M nc ns Q :=
  fun p e R s mid args below meth c H locs lsM X => lv_icmp_le X.1.1 X.1.2.1 hd ht (fun q => kt q p e R s mid args below meth c H locs lsM X) (fun q => kf q p e R s mid args below meth c H locs lsM X)
theorem P_goto {off : Int} {tgt : Nat} (hd : decode (mC m) pc = .ok (.goto off, 3)) (ht : (pc : Int) + off = (tgt : Int)) (h : PW G d m tgt ls st M nc ns Q) : PW G d m pc ls st M nc ns Q :=
  fun p e R s mid args below meth c H locs lsM X => lv_goto X.1.1 X.1.2.1 hd ht (h p e R s mid args below meth c H locs lsM X)
theorem P_tabOut {dflt lo hi : Int} {offs : Array Int} {len : Nat} {x : Int32} {tgt : Nat} (hd : decode (mC m) pc = .ok (.tableswitch dflt lo hi offs, len)) (hx : x.toInt < lo ∨ hi < x.toInt) (ht : (pc : Int) + dflt = (tgt : Int)) (h : PW G d m tgt ls st M nc ns Q) : PW G d m pc ls (.int x :: st) M nc ns Q :=
  fun p e R s mid args below meth c H locs lsM X => lv_tableOut X.1.1 X.1.2.1 hd hx ht (h p e R s mid args below meth c H locs lsM X)
theorem P_tabIn {dflt lo hi : Int} {offs : Array Int} {len : Nat} {x : Int32} {off : Int} {tgt : Nat} (hd : decode (mC m) pc = .ok (.tableswitch dflt lo hi offs, len)) (h1 : ¬ x.toInt < lo) (h2 : ¬ hi < x.toInt) (ho : offs[(x.toInt - lo).toNat]? = some off) (ht : (pc : Int) + off = (tgt : Int)) (h : PW G d m tgt ls st M nc ns Q) : PW G d m pc ls (.int x :: st) M nc ns Q :=
  fun p e R s mid args below meth c H locs lsM X => lv_tableIn X.1.1 X.1.2.1 hd h1 h2 ho ht (h p e R s mid args below meth c H locs lsM X)
theorem P_lookup {dflt : Int} {ps : Array (Int × Int)} {len : Nat} {x : Int32} {off : Int} {tgt : Nat} (hd : decode (mC m) pc = .ok (.lookupswitch dflt ps, len)) (hp : (ps.toList.zip (ps.toList.drop 1)).all (fun (a, next) => a.1 < next.1) = true) (ho : Op.lookupswitch.offset ps.toList dflt x.toInt = off) (ht : (pc : Int) + off = (tgt : Int)) (h : PW G d m tgt ls st M nc ns Q) : PW G d m pc ls (.int x :: st) M nc ns Q :=
  fun p e R s mid args below meth c H locs lsM X => lv_lookup X.1.1 X.1.2.1 hd hp ho ht (h p e R s mid args below meth c H locs lsM X)
/-- a local that is not known any more -/
def Fg (ls ls' : List Value) : Prop := ls'.length = ls.length ∧ ∀ (i : Nat) (v : Value), ls'[i]? = some v → v ≠ ux → ls[i]? = some v
theorem P_forget (ls' : List Value) (hf : Fg ls ls') (h : PW G d m pc ls' st M nc ns Q) : PW G d m pc ls st M nc ns Q :=
  fun p e R s mid args below meth c H locs lsM X => h p e R s mid args below meth c H locs lsM ⟨X.1, X.2.1, X.2.2.1, X.2.2.2.1, X.2.2.2.2.1, X.2.2.2.2.2.1, hf.1.trans X.2.2.2.2.2.2.1, fun i v hv hu => X.2.2.2.2.2.2.2 i v (hf.2 i v hv hu) hu⟩
/-- the locals that are known, for the kit's rows -/
def kn (G : GT) (ls : List Value) : List (Nat × Value) := (List.range ls.length).filterMap (fun i => match ls[i]? with
  | some v => if v = ux then none else some (i, cv G v)
  | none => none)
theorem kn_mem {i : Nat} {w : Value} : (i, w) ∈ kn G ls ↔ ∃ v, ls[i]? = some v ∧ v ≠ ux ∧ w = cv G v := by
  unfold kn
  rw [List.mem_filterMap]
  constructor
  · rintro ⟨j, hj, h⟩
    cases hv : ls[j]? with
    | none => rw [hv] at h; cases h
    | some v =>
      rw [hv] at h
      simp only at h
      split at h
      · cases h
      · rename_i hu
        cases h
        exact ⟨v, hv, hu, rfl⟩
  · rintro ⟨v, hv, hu, rfl⟩
    refine ⟨i, List.mem_range.mpr (List.getElem?_eq_some_iff.mp hv).1, ?_⟩
    rw [hv]
    simp only
    rw [if_neg hu]
theorem LV.has {lsM : Array Slot} {nL : Nat} (h : LV G lsM nL ls) : lv_has lsM nL (kn G ls) := by
  refine ⟨h.1, h.2.1, fun q hq => ?_⟩
  obtain ⟨i, w⟩ := q
  obtain ⟨v, hv, hu, rfl⟩ := kn_mem.mp hq
  exact h.2.2.2 i v hv hu
def okS (ls : List Value) (i : Nat) : Bool := match i with
  | 0 => true
  | j + 1 => match ls[j]? with
    | some w => w.category == 1
    | none => true
theorem LV.set1 {s : State} (hs : SW G s) {lsM lsM' : Array Slot} {nL i : Nat} {v : Value} (h : LV G lsM nL ls) (hi : i < nL) (ho : okS ls i = true) (h' : lv_has lsM' nL ((i, cv G v) :: (kn G ls).filter (fun q => !(q.1 == i) && !(q.1 + 1 == i && q.2.category == 2)))) : LV G lsM' nL (ls.set i v) := by
  refine ⟨h'.1, h'.2.1, by rw [List.length_set]; exact h.2.2.1, fun j w hw hu => ?_⟩
  by_cases hj : j = i
  · subst hj
    rw [List.getElem?_set_self (by rw [h.2.2.1]; exact hi)] at hw
    cases hw
    exact h'.2.2 (j, cv G v) List.mem_cons_self
  · rw [List.getElem?_set_ne (Ne.symm hj)] at hw
    refine h'.2.2 (j, cv G w) (List.mem_cons_of_mem _ (List.mem_filter.mpr ⟨kn_mem.mpr ⟨w, hw, hu, rfl⟩, ?_⟩))
    simp only [Bool.and_eq_true, Bool.not_eq_true', beq_eq_false_iff_ne, ne_eq, hj, not_false_eq_true, true_and, Bool.and_eq_false_iff, beq_eq_false_iff_ne]
    by_cases hji : j + 1 = i
    · right
      subst hji
      simp only [okS, hw, beq_iff_eq] at ho
      rw [cv_cat hs, ho]
      decide
    · left
      exact hji
theorem LV.set2 {s : State} (hs : SW G s) {lsM lsM' : Array Slot} {nL i : Nat} {v : Value} (h : LV G lsM nL ls) (hi : i + 1 < nL) (ho : okS ls i = true) (h' : lv_has lsM' nL ((i, cv G v) :: (kn G ls).filter (fun q => !(q.1 == i) && (!(q.1 == i + 1) && !(q.1 + 1 == i && q.2.category == 2))))) : LV G lsM' nL ((ls.set i v).set (i + 1) ux) := by
  refine ⟨h'.1, h'.2.1, by rw [List.length_set, List.length_set]; exact h.2.2.1, fun j w hw hu => ?_⟩
  by_cases hj2 : j = i + 1
  · subst hj2
    rw [List.getElem?_set_self (by rw [List.length_set, h.2.2.1]; exact hi)] at hw
    cases hw
    exact absurd rfl hu
  · rw [List.getElem?_set_ne (Ne.symm hj2)] at hw
    by_cases hj : j = i
    · subst hj
      rw [List.getElem?_set_self (by rw [h.2.2.1]; omega)] at hw
      cases hw
      exact h'.2.2 (j, cv G v) List.mem_cons_self
    · rw [List.getElem?_set_ne (Ne.symm hj)] at hw
      refine h'.2.2 (j, cv G w) (List.mem_cons_of_mem _ (List.mem_filter.mpr ⟨kn_mem.mpr ⟨w, hw, hu, rfl⟩, ?_⟩))
      simp only [Bool.and_eq_true, Bool.not_eq_true', beq_eq_false_iff_ne, ne_eq, hj, hj2, not_false_eq_true, true_and, Bool.and_eq_false_iff, beq_eq_false_iff_ne]
      by_cases hji : j + 1 = i
      · right
        subst hji
        simp only [okS, hw, beq_iff_eq] at ho
        rw [cv_cat hs, ho]
        decide
      · left
        exact hji
theorem P_istore_n {k : Fin 4} {x : Int32} (hd : decode (mC m) pc = .ok (.istore_n k, 1)) (hi : (k : Nat) < mL m) (ho : okS ls k = true) (h : PW G d m (pc + 1) (ls.set k (.int x)) st M nc ns Q) : PW G d m pc ls (.int x :: st) M nc ns Q :=
  fun p e R s mid args below meth c H locs lsM X => lv_istore_n X.1.1 X.1.2.1 hd rfl X.2.2.2.2.has hi rfl (fun lsM' hl => h p e R s mid args below meth c H locs lsM' ⟨X.1, X.2.1, X.2.2.1, X.2.2.2.1, LV.set1 (v := .int x) X.1.2.2.2.2.2.2.2.2 X.2.2.2.2 hi ho hl⟩)
theorem P_istore {k : Nat} {x : Int32} (hd : decode (mC m) pc = .ok (.istore k, 2)) (hi : k < mL m) (ho : okS ls k = true) (h : PW G d m (pc + 2) (ls.set k (.int x)) st M nc ns Q) : PW G d m pc ls (.int x :: st) M nc ns Q :=
  fun p e R s mid args below meth c H locs lsM X => lv_istore X.1.1 X.1.2.1 hd X.2.2.2.2.has hi rfl (fun lsM' hl => h p e R s mid args below meth c H locs lsM' ⟨X.1, X.2.1, X.2.2.1, X.2.2.2.1, LV.set1 (v := .int x) X.1.2.2.2.2.2.2.2.2 X.2.2.2.2 hi ho hl⟩)
theorem P_lstore_n {k : Fin 4} {x : Int64} (hd : decode (mC m) pc = .ok (.lstore_n k, 1)) (hi : (k : Nat) + 1 < mL m) (ho : okS ls k = true) (h : PW G d m (pc + 1) ((ls.set k (.long x)).set (k + 1) ux) st M nc ns Q) : PW G d m pc ls (.long x :: st) M nc ns Q :=
  fun p e R s mid args below meth c H locs lsM X => lv_lstore_n X.1.1 X.1.2.1 hd rfl X.2.2.2.2.has hi rfl (fun lsM' hl => h p e R s mid args below meth c H locs lsM' ⟨X.1, X.2.1, X.2.2.1, X.2.2.2.1, LV.set2 (v := .long x) X.1.2.2.2.2.2.2.2.2 X.2.2.2.2 hi ho hl⟩)
theorem P_lstore {k : Nat} {x : Int64} (hd : decode (mC m) pc = .ok (.lstore k, 2)) (hi : k + 1 < mL m) (ho : okS ls k = true) (h : PW G d m (pc + 2) ((ls.set k (.long x)).set (k + 1) ux) st M nc ns Q) : PW G d m pc ls (.long x :: st) M nc ns Q :=
  fun p e R s mid args below meth c H locs lsM X => lv_lstore X.1.1 X.1.2.1 hd X.2.2.2.2.has hi rfl (fun lsM' hl => h p e R s mid args below meth c H locs lsM' ⟨X.1, X.2.1, X.2.2.1, X.2.2.2.1, LV.set2 (v := .long x) X.1.2.2.2.2.2.2.2.2 X.2.2.2.2 hi ho hl⟩)
theorem P_iinc {k : Nat} {x v : Int32} {n : Int} (hd : decode (mC m) pc = .ok (.iinc k n, 3)) (hl : ls[k]? = some (.int x)) (hv : x + Int32.ofInt n = v) (hi : k < mL m) (ho : okS ls k = true) (h : PW G d m (pc + 3) (ls.set k (.int v)) st M nc ns Q) : PW G d m pc ls st M nc ns Q := by
  intro p e R s mid args below meth c H locs lsM X
  obtain ⟨j, hj⟩ := List.getElem?_of_mem (kn_mem (G := G).mpr ⟨_, hl, (by intro q; cases q), rfl⟩)
  exact lv_iinc X.1.1 X.1.2.1 hd X.2.2.2.2.has hj hv hi rfl (fun lsM' hl => h p e R s mid args below meth c H locs lsM' ⟨X.1, X.2.1, X.2.2.1, X.2.2.2.1, LV.set1 (v := .int v) X.1.2.2.2.2.2.2.2.2 X.2.2.2.2 hi ho hl⟩)
theorem P_astore_n {k : Fin 4} {x : Nat} (hd : decode (mC m) pc = .ok (.astore_n k, 1)) (hi : (k : Nat) < mL m) (ho : okS ls k = true) (h : PW G d m (pc + 1) (ls.set k (.ref x)) st M nc ns Q) : PW G d m pc ls (.ref x :: st) M nc ns Q := by
  intro p e R s mid args below meth c H locs lsM X
  show W p (gl G) e R s mid args below meth c H locs nc ns _ (F0 mid pc lsM (cr G x :: st.map (cv G)))
  have k2 : ∀ lsM', lv_has lsM' (mL m) ((k.val, cr G x) :: (kn G ls).filter (fun q => !(q.1 == k.val) && !(q.1 + 1 == k.val && q.2.category == 2))) → W p (gl G) e R s mid args below meth c H locs nc ns (MQ below (QC G Q) args s (mcT m) (msT m) (gA G)) (F0 mid (pc + 1) lsM' (st.map (cv G))) :=
    fun lsM' hl => h p e R s mid args below meth c H locs lsM' ⟨X.1, X.2.1, X.2.2.1, X.2.2.2.1, LV.set1 (v := .ref x) X.1.2.2.2.2.2.2.2.2 X.2.2.2.2 hi ho hl⟩
  rcases cr_case X.1.2.2.2.2.2.2.2.2 x with hc | ⟨a, hc⟩
  · rw [hc] at k2 ⊢
    exact lv_astore_nN X.1.1 X.1.2.1 hd rfl X.2.2.2.2.has hi rfl k2
  · rw [hc] at k2 ⊢
    exact lv_astore_n X.1.1 X.1.2.1 hd rfl X.2.2.2.2.has hi rfl k2
theorem P_astore {k : Nat} {x : Nat} (hd : decode (mC m) pc = .ok (.astore k, 2)) (hi : k < mL m) (ho : okS ls k = true) (h : PW G d m (pc + 2) (ls.set k (.ref x)) st M nc ns Q) : PW G d m pc ls (.ref x :: st) M nc ns Q := by
  intro p e R s mid args below meth c H locs lsM X
  show W p (gl G) e R s mid args below meth c H locs nc ns _ (F0 mid pc lsM (cr G x :: st.map (cv G)))
  have k2 : ∀ lsM', lv_has lsM' (mL m) ((k, cr G x) :: (kn G ls).filter (fun q => !(q.1 == k) && !(q.1 + 1 == k && q.2.category == 2))) → W p (gl G) e R s mid args below meth c H locs nc ns (MQ below (QC G Q) args s (mcT m) (msT m) (gA G)) (F0 mid (pc + 2) lsM' (st.map (cv G))) :=
    fun lsM' hl => h p e R s mid args below meth c H locs lsM' ⟨X.1, X.2.1, X.2.2.1, X.2.2.2.1, LV.set1 (v := .ref x) X.1.2.2.2.2.2.2.2.2 X.2.2.2.2 hi ho hl⟩
  rcases cr_case X.1.2.2.2.2.2.2.2.2 x with hc | ⟨a, hc⟩
  · rw [hc] at k2 ⊢
    exact lv_astoreN X.1.1 X.1.2.1 hd X.2.2.2.2.has hi rfl k2
  · rw [hc] at k2 ⊢
    exact lv_astore X.1.1 X.1.2.1 hd X.2.2.2.2.has hi rfl k2
end RULES
