def tb_X10_dry : List (Nat × Instr × Nat) := [(0, .aload_n 0, 1), (1, .iconst 0, 1), (2, .putfield 157, 3), (5, .iload_n 1, 1), (6, .iconst 0, 1), (7, .bipush 6, 2), (9, .invokestatic 202, 3), (12, .ifCond .eq 12, 3), (15, .iload_n 2, 1), (16, .iconst 0, 1), (17, .iconst 1, 1), (18, .invokestatic 202, 3), (21, .ifCond .ne 7, 3), (24, .ldc2_w 535, 3), (27, .lreturn, 1), (28, .lconst 1, 1), (29, .lstore_n 3, 1), (30, .lconst 1, 1), (31, .lstore 5, 2), (33, .iconst 0, 1), (34, .istore 7, 2), (36, .iload 7, 2), (38, .iload_n 1, 1), (39, .if_icmp .ge 30, 3), (42, .lload_n 3, 1), (43, .bipush 100, 2), (45, .aload_n 0, 1), (46, .getfield 24, 3), (49, .iconst 0, 1), (50, .iaload, 1), (51, .isub, 1), (52, .i2l, 1), (53, .lmul, 1), (54, .lstore_n 3, 1), (55, .lload 5, 2), (57, .ldc2_w 537, 3), (60, .lmul, 1), (61, .lstore 5, 2), (63, .iinc 7 1, 3), (66, .goto (-30), 3), (69, .lload 5, 2), (71, .lstore 7, 2), (73, .lload_n 3, 1), (74, .lstore 9, 2), (76, .lload 9, 2), (78, .lconst 0, 1), (79, .lcmp, 1), (80, .ifCond .eq 21, 3), (83, .lload 7, 2), (85, .lload 9, 2), (87, .lrem, 1), (88, .lstore 11, 2), (90, .lload 9, 2), (92, .lstore 7, 2), (94, .lload 11, 2), (96, .lstore 9, 2), (98, .goto (-22), 3), (101, .iload_n 2, 1), (102, .ifCond .ne 10, 3), (105, .lload_n 3, 1), (106, .lload 7, 2), (108, .ldiv, 1), (109, .goto 8, 3), (112, .lload 5, 2), (114, .lload 7, 2), (116, .ldiv, 1), (117, .lreturn, 1)]
theorem dt_X10_dry : dOk cX10_dry tb_X10_dry = true := by decide +kernel
def fX10_dry_76 : Nat → Hp → Int32 → Int64 → Int64 → Int64 → Int64 → Option (Int64 × Hp)
  | 0, _, _, _, _, _, _ => none
  | fu + 1, h, x2, x3, x5, x7, x9 => if (lg_cmp x9 (0 : Int64)) = 0 then (if x2 = 0 then (if x7 = 0 then none else some ((x3 / x7), h)) else (if x7 = 0 then none else some ((x5 / x7), h))) else (if x9 = 0 then none else (fX10_dry_76 fu) h x2 x3 x5 x9 (x7 - x7 / x9 * x9))
def fX10_dry_36 : Nat → Hp → Int32 → Int32 → Int64 → Int64 → Int32 → Option (Int64 × Hp)
  | 0, _, _, _, _, _, _ => none
  | fu + 1, h, x1, x2, x3, x5, x7 => if x1 ≤ x7 then (fX10_dry_76 FU h x2 x3 x5 x5 x3) else (if inb (0 : Int32) 4 then ((fX10_dry_36 fu) h x1 x2 (x3 * (Int32.toInt64 ((100 : Int32) - (hI h 111 (Int32.toNatClampNeg (0 : Int32)))))) (x5 * (100 : Int64)) (x7 + (1 : Int32))) else none)
def fX10_dry (h : Hp) (x1 : Int32) (x2 : Int32) : Option (Int64 × Hp) := bnd (fX10_isIn (uI h 107 2 (0 : Int32)) x1 (0 : Int32) (6 : Int32)) (fun v_1 h_2 => if v_1 = 0 then (some ((-1 : Int64), h_2)) else (bnd (fX10_isIn h_2 x2 (0 : Int32) (1 : Int32)) (fun v_4 h_5 => if v_4 = 0 then (some ((-1 : Int64), h_5)) else (fX10_dry_36 FU h_5 x1 x2 (1 : Int64) (1 : Int64) (0 : Int32)))))
set_option maxRecDepth 100000 in
set_option maxHeartbeats 4000000 in
theorem c_X10_dry {l : Launch} {sb : State} {D : va_G} {ids : Nat → ClassId} {n : Nat} (hN : 152 ≤ n) (h : Hp) (x1 : Int32) (x2 : Int32) (r : Int64 × Hp) (hr : fX10_dry h x1 x2 = some r) : jM l yX10_dry cX10_dry 13 (some .long) 1 sb D ids shp St n [.ref 107, .int x1, .int x2] h (jQl sb D ids shp St n r) := by
  refine jM_of hr rfl (Nat.le_of_ble_eq_true rfl) ?_
  intro p e s m args below meth c hC hret
  have b76 : ∀ (fu : Nat) (h : Hp) (x2 : Int32) (x3 : Int64) (x5 : Int64) (x7 : Int64) (x9 : Int64) , jJ p l e (rmD 1) s m args below meth c 13 sb D ids shp St (fun r => MQ below (jQl sb D ids shp St n r) args s 0 0 (jA sb)) n 0 0 h 76 [(2, .int x2), (3, .long x3), (5, .long x5), (7, .long x7), (9, .long x9)] [] (fX10_dry_76 fu h x2 x3 x5 x7 x9) := by
    intro fu 
    induction fu with
    | zero => intro h x2 x3 x5 x7 x9 ; exact j_none
    | succ fu ih =>
    intro h x2 x3 x5 x7 x9 
    rw [fX10_dry_76]
    refine j_lload hC 4 rfl (dOk_at dt_X10_dry 44 rfl) ?_
    refine j_lconst hC (v := (0 : Int64)) rfl (dOk_at dt_X10_dry 45 rfl) ?_
    refine j_lcmp hC (dOk_at dt_X10_dry 46 rfl) ?_
    refine j_if_eq hC (tgt := 101) (by decide) (dOk_at dt_X10_dry 47 rfl) (fun q_8 => ?_) (fun q_8 => ?_)
    · refine j_iload_n hC 0 rfl rfl (dOk_at dt_X10_dry 57 rfl) ?_
      refine j_if_ne hC (tgt := 112) (by decide) (dOk_at dt_X10_dry 58 rfl) (fun q_9 => ?_) (fun q_9 => ?_)
      · refine j_lload hC 2 rfl (dOk_at dt_X10_dry 63 rfl) ?_
        refine j_lload hC 3 rfl (dOk_at dt_X10_dry 64 rfl) ?_
        refine j_ldiv hC (dOk_at dt_X10_dry 65 rfl) ?_
        exact j_lret hC hret (dOk_at dt_X10_dry 66 rfl)
      · refine j_lload_n hC 1 rfl rfl (dOk_at dt_X10_dry 59 rfl) ?_
        refine j_lload hC 3 rfl (dOk_at dt_X10_dry 60 rfl) ?_
        refine j_ldiv hC (dOk_at dt_X10_dry 61 rfl) ?_
        refine j_goto hC (tgt := 117) (by decide) (dOk_at dt_X10_dry 62 rfl) ?_
        exact j_lret hC hret (dOk_at dt_X10_dry 66 rfl)
    · refine j_lload hC 3 rfl (dOk_at dt_X10_dry 48 rfl) ?_
      refine j_lload hC 4 rfl (dOk_at dt_X10_dry 49 rfl) ?_
      refine j_lrem hC (dOk_at dt_X10_dry 50 rfl) ?_
      refine j_lstore hC (lv' := [(11, .long (x7 - x7 / x9 * x9)), (2, .int x2), (3, .long x3), (5, .long x5), (7, .long x7), (9, .long x9)]) (by decide) rfl (dOk_at dt_X10_dry 51 rfl) ?_
      refine j_lload hC 5 rfl (dOk_at dt_X10_dry 52 rfl) ?_
      refine j_lstore hC (lv' := [(7, .long x9), (11, .long (x7 - x7 / x9 * x9)), (2, .int x2), (3, .long x3), (5, .long x5), (9, .long x9)]) (by decide) rfl (dOk_at dt_X10_dry 53 rfl) ?_
      refine j_lload hC 1 rfl (dOk_at dt_X10_dry 54 rfl) ?_
      refine j_lstore hC (lv' := [(9, .long (x7 - x7 / x9 * x9)), (7, .long x9), (11, .long (x7 - x7 / x9 * x9)), (2, .int x2), (3, .long x3), (5, .long x5)]) (by decide) rfl (dOk_at dt_X10_dry 55 rfl) ?_
      refine j_goto hC (tgt := 76) (by decide) (dOk_at dt_X10_dry 56 rfl) ?_
      refine j_sub [3, 4, 5, 1, 0] rfl ?_
      exact ih h x2 x3 x5 x9 (x7 - x7 / x9 * x9) 
  have b36 : ∀ (fu : Nat) (h : Hp) (x1 : Int32) (x2 : Int32) (x3 : Int64) (x5 : Int64) (x7 : Int32) , jJ p l e (rmD 1) s m args below meth c 13 sb D ids shp St (fun r => MQ below (jQl sb D ids shp St n r) args s 0 0 (jA sb)) n 0 0 h 36 [(0, .ref 107), (1, .int x1), (2, .int x2), (3, .long x3), (5, .long x5), (7, .int x7)] [] (fX10_dry_36 fu h x1 x2 x3 x5 x7) := by
    intro fu 
    induction fu with
    | zero => intro h x1 x2 x3 x5 x7 ; exact j_none
    | succ fu ih =>
    intro h x1 x2 x3 x5 x7 
    rw [fX10_dry_36]
    refine j_iload hC 5 rfl (dOk_at dt_X10_dry 21 rfl) ?_
    refine j_iload_n hC 1 rfl rfl (dOk_at dt_X10_dry 22 rfl) ?_
    refine j_icmp_ge hC (tgt := 69) (by decide) (dOk_at dt_X10_dry 23 rfl) (fun q_7 => ?_) (fun q_7 => ?_)
    · refine j_lload hC 4 rfl (dOk_at dt_X10_dry 40 rfl) ?_
      refine j_lstore hC (lv' := [(7, .long x5), (0, .ref 107), (1, .int x1), (2, .int x2), (3, .long x3), (5, .long x5)]) (by decide) rfl (dOk_at dt_X10_dry 41 rfl) ?_
      refine j_lload_n hC 4 rfl rfl (dOk_at dt_X10_dry 42 rfl) ?_
      refine j_lstore hC (lv' := [(9, .long x3), (7, .long x5), (0, .ref 107), (1, .int x1), (2, .int x2), (3, .long x3), (5, .long x5)]) (by decide) rfl (dOk_at dt_X10_dry 43 rfl) ?_
      refine j_sub [4, 5, 6, 1, 0] rfl ?_
      exact b76 FU h x2 x3 x5 x5 x3 
    · refine j_lload_n hC 3 rfl rfl (dOk_at dt_X10_dry 24 rfl) ?_
      refine j_bipush hC (v := (100 : Int32)) rfl (dOk_at dt_X10_dry 25 rfl) ?_
      refine j_aload_n hC 0 rfl rfl (dOk_at dt_X10_dry 26 rfl) ?_
      refine j_getR hC flX10_24 (show shp 107 = (10, 88) from rfl) (Nat.lt_of_lt_of_le (Nat.le_of_ble_eq_true rfl : 107 < 152) hN) (by decide) (by decide) (fun _ _ _ => rfl) (fun hs => hs 107 27 111 rfl) (dOk_at dt_X10_dry 27 rfl) ?_
      refine j_iconst hC (v := (0 : Int32)) rfl (dOk_at dt_X10_dry 28 rfl) ?_
      refine j_iald hC (show shp 111 = (21, 4) from rfl) (Nat.lt_of_lt_of_le (Nat.le_of_ble_eq_true rfl : 111 < 152) hN) (dOk_at dt_X10_dry 29 rfl) ?_
      refine j_isub hC (dOk_at dt_X10_dry 30 rfl) ?_
      refine j_i2l hC (dOk_at dt_X10_dry 31 rfl) ?_
      refine j_lmul hC (dOk_at dt_X10_dry 32 rfl) ?_
      refine j_lstore_n hC rfl (lv' := [(3, .long (x3 * (Int32.toInt64 ((100 : Int32) - (hI h 111 (Int32.toNatClampNeg (0 : Int32))))))), (0, .ref 107), (1, .int x1), (2, .int x2), (5, .long x5), (7, .int x7)]) (by decide) rfl (dOk_at dt_X10_dry 33 rfl) ?_
      refine j_lload hC 4 rfl (dOk_at dt_X10_dry 34 rfl) ?_
      refine j_ldc2 hC klX10_537 (dOk_at dt_X10_dry 35 rfl) ?_
      refine j_lmul hC (dOk_at dt_X10_dry 36 rfl) ?_
      refine j_lstore hC (lv' := [(5, .long (x5 * (100 : Int64))), (3, .long (x3 * (Int32.toInt64 ((100 : Int32) - (hI h 111 (Int32.toNatClampNeg (0 : Int32))))))), (0, .ref 107), (1, .int x1), (2, .int x2), (7, .int x7)]) (by decide) rfl (dOk_at dt_X10_dry 37 rfl) ?_
      refine j_iinc hC (v := (x7 + (1 : Int32))) (lv' := [(7, .int (x7 + (1 : Int32))), (5, .long (x5 * (100 : Int64))), (3, .long (x3 * (Int32.toInt64 ((100 : Int32) - (hI h 111 (Int32.toNatClampNeg (0 : Int32))))))), (0, .ref 107), (1, .int x1), (2, .int x2)]) 5 rfl (congrArg (fun z => x7 + z) (show Int32.ofInt (1) = (1 : Int32) from by decide)) (by decide) rfl (dOk_at dt_X10_dry 38 rfl) ?_
      refine j_goto hC (tgt := 36) (by decide) (dOk_at dt_X10_dry 39 rfl) ?_
      refine j_sub [3, 4, 5, 2, 1, 0] rfl ?_
      exact ih h x1 x2 (x3 * (Int32.toInt64 ((100 : Int32) - (hI h 111 (Int32.toNatClampNeg (0 : Int32)))))) (x5 * (100 : Int64)) (x7 + (1 : Int32)) 
  unfold fX10_dry
  refine j_aload_n hC 0 rfl rfl (dOk_at dt_X10_dry 0 rfl) ?_
  refine j_iconst hC (v := (0 : Int32)) rfl (dOk_at dt_X10_dry 1 rfl) ?_
  refine j_putI hC St_SP flX10_157 (show shp 107 = (10, 88) from rfl) (Nat.lt_of_lt_of_le (Nat.le_of_ble_eq_true rfl : 107 < 152) hN) (by decide) (by decide) rfl rfl (dOk_at dt_X10_dry 2 rfl) ?_
  refine j_iload_n hC 1 rfl rfl (dOk_at dt_X10_dry 3 rfl) ?_
  refine j_iconst hC (v := (0 : Int32)) rfl (dOk_at dt_X10_dry 4 rfl) ?_
  refine j_bipush hC (v := (6 : Int32)) rfl (dOk_at dt_X10_dry 5 rfl) ?_
  refine j_callSi hC clX10_202 (fun rz hrz => c_X10_isIn hN _ _ _ _ rz hrz) rfl ⟨Nat.le_of_ble_eq_true rfl, Nat.le_of_ble_eq_true rfl⟩ ⟨Nat.le_refl 0, Nat.le_refl 0⟩ (As := [.int x1, .int (0 : Int32), .int (6 : Int32)]) (st := []) rfl (Nat.le_of_ble_eq_true rfl) (dOk_at dt_X10_dry 6 rfl) (fun v_1 h_2 _ => ?_)
  refine j_if_eq hC (tgt := 24) (by decide) (dOk_at dt_X10_dry 7 rfl) (fun q_3 => ?_) (fun q_3 => ?_)
  · refine j_ldc2 hC klX10_535 (dOk_at dt_X10_dry 13 rfl) ?_
    exact j_lret hC hret (dOk_at dt_X10_dry 14 rfl)
  · refine j_iload_n hC 2 rfl rfl (dOk_at dt_X10_dry 8 rfl) ?_
    refine j_iconst hC (v := (0 : Int32)) rfl (dOk_at dt_X10_dry 9 rfl) ?_
    refine j_iconst hC (v := (1 : Int32)) rfl (dOk_at dt_X10_dry 10 rfl) ?_
    refine j_callSi hC clX10_202 (fun rz hrz => c_X10_isIn hN _ _ _ _ rz hrz) rfl ⟨Nat.le_of_ble_eq_true rfl, Nat.le_of_ble_eq_true rfl⟩ ⟨Nat.le_refl 0, Nat.le_refl 0⟩ (As := [.int x2, .int (0 : Int32), .int (1 : Int32)]) (st := []) rfl (Nat.le_of_ble_eq_true rfl) (dOk_at dt_X10_dry 11 rfl) (fun v_4 h_5 _ => ?_)
    refine j_if_ne hC (tgt := 28) (by decide) (dOk_at dt_X10_dry 12 rfl) (fun q_6 => ?_) (fun q_6 => ?_)
    · refine j_lconst hC (v := (1 : Int64)) rfl (dOk_at dt_X10_dry 15 rfl) ?_
      refine j_lstore_n hC rfl (lv' := [(3, .long (1 : Int64)), (0, .ref 107), (1, .int x1), (2, .int x2)]) (by decide) rfl (dOk_at dt_X10_dry 16 rfl) ?_
      refine j_lconst hC (v := (1 : Int64)) rfl (dOk_at dt_X10_dry 17 rfl) ?_
      refine j_lstore hC (lv' := [(5, .long (1 : Int64)), (3, .long (1 : Int64)), (0, .ref 107), (1, .int x1), (2, .int x2)]) (by decide) rfl (dOk_at dt_X10_dry 18 rfl) ?_
      refine j_iconst hC (v := (0 : Int32)) rfl (dOk_at dt_X10_dry 19 rfl) ?_
      refine j_istore hC (lv' := [(7, .int (0 : Int32)), (5, .long (1 : Int64)), (3, .long (1 : Int64)), (0, .ref 107), (1, .int x1), (2, .int x2)]) (by decide) rfl (dOk_at dt_X10_dry 20 rfl) ?_
      refine j_sub [3, 4, 5, 2, 1, 0] rfl ?_
      exact b36 FU h_5 x1 x2 (1 : Int64) (1 : Int64) (0 : Int32) 
    · refine j_ldc2 hC klX10_535 (dOk_at dt_X10_dry 13 rfl) ?_
      exact j_lret hC hret (dOk_at dt_X10_dry 14 rfl)
def tb_X10_noted : List (Nat × Instr × Nat) := [(0, .aload_n 0, 1), (1, .getfield 136, 3), (4, .iconst 4, 1), (5, .aload_n 0, 1), (6, .getfield 395, 3), (9, .imul, 1), (10, .iload_n 1, 1), (11, .iastore, 1), (12, .aload_n 0, 1), (13, .getfield 136, 3), (16, .iconst 4, 1), (17, .aload_n 0, 1), (18, .getfield 395, 3), (21, .imul, 1), (22, .iconst 1, 1), (23, .iadd, 1), (24, .iload_n 2, 1), (25, .iastore, 1), (26, .aload_n 0, 1), (27, .getfield 136, 3), (30, .iconst 4, 1), (31, .aload_n 0, 1), (32, .getfield 395, 3), (35, .imul, 1), (36, .iconst 2, 1), (37, .iadd, 1), (38, .iload_n 3, 1), (39, .iastore, 1), (40, .aload_n 0, 1), (41, .getfield 136, 3), (44, .iconst 4, 1), (45, .aload_n 0, 1), (46, .getfield 395, 3), (49, .imul, 1), (50, .iconst 3, 1), (51, .iadd, 1), (52, .iload 4, 2), (54, .iastore, 1), (55, .aload_n 0, 1), (56, .dup, 1), (57, .getfield 395, 3), (60, .iconst 1, 1), (61, .iadd, 1), (62, .putfield 395, 3), (65, .aload_n 0, 1), (66, .getfield 395, 3), (69, .iconst 1, 1), (70, .isub, 1), (71, .ireturn, 1)]
theorem dt_X10_noted : dOk cX10_noted tb_X10_noted = true := by decide +kernel
def fX10_noted (h : Hp) (x1 : Int32) (x2 : Int32) (x3 : Int32) (x4 : Int32) : Option (Int32 × Hp) := if inb ((4 : Int32) * (hI h 107 76)) 96 then (if inb (((4 : Int32) * (hI (uI h 147 (Int32.toNatClampNeg ((4 : Int32) * (hI h 107 76))) x1) 107 76)) + (1 : Int32)) 96 then (if inb (((4 : Int32) * (hI (uI (uI h 147 (Int32.toNatClampNeg ((4 : Int32) * (hI h 107 76))) x1) 147 (Int32.toNatClampNeg (((4 : Int32) * (hI (uI h 147 (Int32.toNatClampNeg ((4 : Int32) * (hI h 107 76))) x1) 107 76)) + (1 : Int32))) x2) 107 76)) + (2 : Int32)) 96 then (if inb (((4 : Int32) * (hI (uI (uI (uI h 147 (Int32.toNatClampNeg ((4 : Int32) * (hI h 107 76))) x1) 147 (Int32.toNatClampNeg (((4 : Int32) * (hI (uI h 147 (Int32.toNatClampNeg ((4 : Int32) * (hI h 107 76))) x1) 107 76)) + (1 : Int32))) x2) 147 (Int32.toNatClampNeg (((4 : Int32) * (hI (uI (uI h 147 (Int32.toNatClampNeg ((4 : Int32) * (hI h 107 76))) x1) 147 (Int32.toNatClampNeg (((4 : Int32) * (hI (uI h 147 (Int32.toNatClampNeg ((4 : Int32) * (hI h 107 76))) x1) 107 76)) + (1 : Int32))) x2) 107 76)) + (2 : Int32))) x3) 107 76)) + (3 : Int32)) 96 then (some (((hI (uI (uI (uI (uI (uI h 147 (Int32.toNatClampNeg ((4 : Int32) * (hI h 107 76))) x1) 147 (Int32.toNatClampNeg (((4 : Int32) * (hI (uI h 147 (Int32.toNatClampNeg ((4 : Int32) * (hI h 107 76))) x1) 107 76)) + (1 : Int32))) x2) 147 (Int32.toNatClampNeg (((4 : Int32) * (hI (uI (uI h 147 (Int32.toNatClampNeg ((4 : Int32) * (hI h 107 76))) x1) 147 (Int32.toNatClampNeg (((4 : Int32) * (hI (uI h 147 (Int32.toNatClampNeg ((4 : Int32) * (hI h 107 76))) x1) 107 76)) + (1 : Int32))) x2) 107 76)) + (2 : Int32))) x3) 147 (Int32.toNatClampNeg (((4 : Int32) * (hI (uI (uI (uI h 147 (Int32.toNatClampNeg ((4 : Int32) * (hI h 107 76))) x1) 147 (Int32.toNatClampNeg (((4 : Int32) * (hI (uI h 147 (Int32.toNatClampNeg ((4 : Int32) * (hI h 107 76))) x1) 107 76)) + (1 : Int32))) x2) 147 (Int32.toNatClampNeg (((4 : Int32) * (hI (uI (uI h 147 (Int32.toNatClampNeg ((4 : Int32) * (hI h 107 76))) x1) 147 (Int32.toNatClampNeg (((4 : Int32) * (hI (uI h 147 (Int32.toNatClampNeg ((4 : Int32) * (hI h 107 76))) x1) 107 76)) + (1 : Int32))) x2) 107 76)) + (2 : Int32))) x3) 107 76)) + (3 : Int32))) x4) 107 76 ((hI (uI (uI (uI (uI h 147 (Int32.toNatClampNeg ((4 : Int32) * (hI h 107 76))) x1) 147 (Int32.toNatClampNeg (((4 : Int32) * (hI (uI h 147 (Int32.toNatClampNeg ((4 : Int32) * (hI h 107 76))) x1) 107 76)) + (1 : Int32))) x2) 147 (Int32.toNatClampNeg (((4 : Int32) * (hI (uI (uI h 147 (Int32.toNatClampNeg ((4 : Int32) * (hI h 107 76))) x1) 147 (Int32.toNatClampNeg (((4 : Int32) * (hI (uI h 147 (Int32.toNatClampNeg ((4 : Int32) * (hI h 107 76))) x1) 107 76)) + (1 : Int32))) x2) 107 76)) + (2 : Int32))) x3) 147 (Int32.toNatClampNeg (((4 : Int32) * (hI (uI (uI (uI h 147 (Int32.toNatClampNeg ((4 : Int32) * (hI h 107 76))) x1) 147 (Int32.toNatClampNeg (((4 : Int32) * (hI (uI h 147 (Int32.toNatClampNeg ((4 : Int32) * (hI h 107 76))) x1) 107 76)) + (1 : Int32))) x2) 147 (Int32.toNatClampNeg (((4 : Int32) * (hI (uI (uI h 147 (Int32.toNatClampNeg ((4 : Int32) * (hI h 107 76))) x1) 147 (Int32.toNatClampNeg (((4 : Int32) * (hI (uI h 147 (Int32.toNatClampNeg ((4 : Int32) * (hI h 107 76))) x1) 107 76)) + (1 : Int32))) x2) 107 76)) + (2 : Int32))) x3) 107 76)) + (3 : Int32))) x4) 107 76) + (1 : Int32))) 107 76) - (1 : Int32)), (uI (uI (uI (uI (uI h 147 (Int32.toNatClampNeg ((4 : Int32) * (hI h 107 76))) x1) 147 (Int32.toNatClampNeg (((4 : Int32) * (hI (uI h 147 (Int32.toNatClampNeg ((4 : Int32) * (hI h 107 76))) x1) 107 76)) + (1 : Int32))) x2) 147 (Int32.toNatClampNeg (((4 : Int32) * (hI (uI (uI h 147 (Int32.toNatClampNeg ((4 : Int32) * (hI h 107 76))) x1) 147 (Int32.toNatClampNeg (((4 : Int32) * (hI (uI h 147 (Int32.toNatClampNeg ((4 : Int32) * (hI h 107 76))) x1) 107 76)) + (1 : Int32))) x2) 107 76)) + (2 : Int32))) x3) 147 (Int32.toNatClampNeg (((4 : Int32) * (hI (uI (uI (uI h 147 (Int32.toNatClampNeg ((4 : Int32) * (hI h 107 76))) x1) 147 (Int32.toNatClampNeg (((4 : Int32) * (hI (uI h 147 (Int32.toNatClampNeg ((4 : Int32) * (hI h 107 76))) x1) 107 76)) + (1 : Int32))) x2) 147 (Int32.toNatClampNeg (((4 : Int32) * (hI (uI (uI h 147 (Int32.toNatClampNeg ((4 : Int32) * (hI h 107 76))) x1) 147 (Int32.toNatClampNeg (((4 : Int32) * (hI (uI h 147 (Int32.toNatClampNeg ((4 : Int32) * (hI h 107 76))) x1) 107 76)) + (1 : Int32))) x2) 107 76)) + (2 : Int32))) x3) 107 76)) + (3 : Int32))) x4) 107 76 ((hI (uI (uI (uI (uI h 147 (Int32.toNatClampNeg ((4 : Int32) * (hI h 107 76))) x1) 147 (Int32.toNatClampNeg (((4 : Int32) * (hI (uI h 147 (Int32.toNatClampNeg ((4 : Int32) * (hI h 107 76))) x1) 107 76)) + (1 : Int32))) x2) 147 (Int32.toNatClampNeg (((4 : Int32) * (hI (uI (uI h 147 (Int32.toNatClampNeg ((4 : Int32) * (hI h 107 76))) x1) 147 (Int32.toNatClampNeg (((4 : Int32) * (hI (uI h 147 (Int32.toNatClampNeg ((4 : Int32) * (hI h 107 76))) x1) 107 76)) + (1 : Int32))) x2) 107 76)) + (2 : Int32))) x3) 147 (Int32.toNatClampNeg (((4 : Int32) * (hI (uI (uI (uI h 147 (Int32.toNatClampNeg ((4 : Int32) * (hI h 107 76))) x1) 147 (Int32.toNatClampNeg (((4 : Int32) * (hI (uI h 147 (Int32.toNatClampNeg ((4 : Int32) * (hI h 107 76))) x1) 107 76)) + (1 : Int32))) x2) 147 (Int32.toNatClampNeg (((4 : Int32) * (hI (uI (uI h 147 (Int32.toNatClampNeg ((4 : Int32) * (hI h 107 76))) x1) 147 (Int32.toNatClampNeg (((4 : Int32) * (hI (uI h 147 (Int32.toNatClampNeg ((4 : Int32) * (hI h 107 76))) x1) 107 76)) + (1 : Int32))) x2) 107 76)) + (2 : Int32))) x3) 107 76)) + (3 : Int32))) x4) 107 76) + (1 : Int32))))) else none) else none) else none) else none
set_option maxRecDepth 100000 in
set_option maxHeartbeats 4000000 in
theorem c_X10_noted {l : Launch} {sb : State} {D : va_G} {ids : Nat → ClassId} {n : Nat} (hN : 152 ≤ n) (h : Hp) (x1 : Int32) (x2 : Int32) (x3 : Int32) (x4 : Int32) (r : Int32 × Hp) (hr : fX10_noted h x1 x2 x3 x4 = some r) : jM l yX10_noted cX10_noted 5 (some .int) 0 sb D ids shp St n [.ref 107, .int x1, .int x2, .int x3, .int x4] h (jQi sb D ids shp St n r) := by
  refine jM_of hr rfl (Nat.le_of_ble_eq_true rfl) ?_
  intro p e s m args below meth c hC hret
  unfold fX10_noted
  refine j_aload_n hC 0 rfl rfl (dOk_at dt_X10_noted 0 rfl) ?_
  refine j_getR hC flX10_136 (show shp 107 = (10, 88) from rfl) (Nat.lt_of_lt_of_le (Nat.le_of_ble_eq_true rfl : 107 < 152) hN) (by decide) (by decide) (fun _ _ _ => rfl) (fun hs => hs 107 78 147 rfl) (dOk_at dt_X10_noted 1 rfl) ?_
  refine j_iconst hC (v := (4 : Int32)) rfl (dOk_at dt_X10_noted 2 rfl) ?_
  refine j_aload_n hC 0 rfl rfl (dOk_at dt_X10_noted 3 rfl) ?_
  refine j_getI hC flX10_395 (show shp 107 = (10, 88) from rfl) (Nat.lt_of_lt_of_le (Nat.le_of_ble_eq_true rfl : 107 < 152) hN) (by decide) (by decide) (fun _ _ _ => rfl) (dOk_at dt_X10_noted 4 rfl) ?_
  refine j_imul hC (dOk_at dt_X10_noted 5 rfl) ?_
  refine j_iload_n hC 1 rfl rfl (dOk_at dt_X10_noted 6 rfl) ?_
  refine j_iast hC St_SP (show shp 147 = (21, 96) from rfl) (Nat.lt_of_lt_of_le (Nat.le_of_ble_eq_true rfl : 147 < 152) hN) (dOk_at dt_X10_noted 7 rfl) ?_
  refine j_aload_n hC 0 rfl rfl (dOk_at dt_X10_noted 8 rfl) ?_
  refine j_getR hC flX10_136 (show shp 107 = (10, 88) from rfl) (Nat.lt_of_lt_of_le (Nat.le_of_ble_eq_true rfl : 107 < 152) hN) (by decide) (by decide) (fun _ _ _ => rfl) (fun hs => hs 107 78 147 rfl) (dOk_at dt_X10_noted 9 rfl) ?_
  refine j_iconst hC (v := (4 : Int32)) rfl (dOk_at dt_X10_noted 10 rfl) ?_
  refine j_aload_n hC 0 rfl rfl (dOk_at dt_X10_noted 11 rfl) ?_
  refine j_getI hC flX10_395 (show shp 107 = (10, 88) from rfl) (Nat.lt_of_lt_of_le (Nat.le_of_ble_eq_true rfl : 107 < 152) hN) (by decide) (by decide) (fun _ _ _ => rfl) (dOk_at dt_X10_noted 12 rfl) ?_
  refine j_imul hC (dOk_at dt_X10_noted 13 rfl) ?_
  refine j_iconst hC (v := (1 : Int32)) rfl (dOk_at dt_X10_noted 14 rfl) ?_
  refine j_iadd hC (dOk_at dt_X10_noted 15 rfl) ?_
  refine j_iload_n hC 2 rfl rfl (dOk_at dt_X10_noted 16 rfl) ?_
  refine j_iast hC St_SP (show shp 147 = (21, 96) from rfl) (Nat.lt_of_lt_of_le (Nat.le_of_ble_eq_true rfl : 147 < 152) hN) (dOk_at dt_X10_noted 17 rfl) ?_
  refine j_aload_n hC 0 rfl rfl (dOk_at dt_X10_noted 18 rfl) ?_
  refine j_getR hC flX10_136 (show shp 107 = (10, 88) from rfl) (Nat.lt_of_lt_of_le (Nat.le_of_ble_eq_true rfl : 107 < 152) hN) (by decide) (by decide) (fun _ _ _ => rfl) (fun hs => hs 107 78 147 rfl) (dOk_at dt_X10_noted 19 rfl) ?_
  refine j_iconst hC (v := (4 : Int32)) rfl (dOk_at dt_X10_noted 20 rfl) ?_
  refine j_aload_n hC 0 rfl rfl (dOk_at dt_X10_noted 21 rfl) ?_
  refine j_getI hC flX10_395 (show shp 107 = (10, 88) from rfl) (Nat.lt_of_lt_of_le (Nat.le_of_ble_eq_true rfl : 107 < 152) hN) (by decide) (by decide) (fun _ _ _ => rfl) (dOk_at dt_X10_noted 22 rfl) ?_
  refine j_imul hC (dOk_at dt_X10_noted 23 rfl) ?_
  refine j_iconst hC (v := (2 : Int32)) rfl (dOk_at dt_X10_noted 24 rfl) ?_
  refine j_iadd hC (dOk_at dt_X10_noted 25 rfl) ?_
  refine j_iload_n hC 3 rfl rfl (dOk_at dt_X10_noted 26 rfl) ?_
  refine j_iast hC St_SP (show shp 147 = (21, 96) from rfl) (Nat.lt_of_lt_of_le (Nat.le_of_ble_eq_true rfl : 147 < 152) hN) (dOk_at dt_X10_noted 27 rfl) ?_
  refine j_aload_n hC 0 rfl rfl (dOk_at dt_X10_noted 28 rfl) ?_
  refine j_getR hC flX10_136 (show shp 107 = (10, 88) from rfl) (Nat.lt_of_lt_of_le (Nat.le_of_ble_eq_true rfl : 107 < 152) hN) (by decide) (by decide) (fun _ _ _ => rfl) (fun hs => hs 107 78 147 rfl) (dOk_at dt_X10_noted 29 rfl) ?_
  refine j_iconst hC (v := (4 : Int32)) rfl (dOk_at dt_X10_noted 30 rfl) ?_
  refine j_aload_n hC 0 rfl rfl (dOk_at dt_X10_noted 31 rfl) ?_
  refine j_getI hC flX10_395 (show shp 107 = (10, 88) from rfl) (Nat.lt_of_lt_of_le (Nat.le_of_ble_eq_true rfl : 107 < 152) hN) (by decide) (by decide) (fun _ _ _ => rfl) (dOk_at dt_X10_noted 32 rfl) ?_
  refine j_imul hC (dOk_at dt_X10_noted 33 rfl) ?_
  refine j_iconst hC (v := (3 : Int32)) rfl (dOk_at dt_X10_noted 34 rfl) ?_
  refine j_iadd hC (dOk_at dt_X10_noted 35 rfl) ?_
  refine j_iload hC 4 rfl (dOk_at dt_X10_noted 36 rfl) ?_
  refine j_iast hC St_SP (show shp 147 = (21, 96) from rfl) (Nat.lt_of_lt_of_le (Nat.le_of_ble_eq_true rfl : 147 < 152) hN) (dOk_at dt_X10_noted 37 rfl) ?_
  refine j_aload_n hC 0 rfl rfl (dOk_at dt_X10_noted 38 rfl) ?_
  refine j_dupr hC (dOk_at dt_X10_noted 39 rfl) ?_
  refine j_getI hC flX10_395 (show shp 107 = (10, 88) from rfl) (Nat.lt_of_lt_of_le (Nat.le_of_ble_eq_true rfl : 107 < 152) hN) (by decide) (by decide) (fun _ _ _ => rfl) (dOk_at dt_X10_noted 40 rfl) ?_
  refine j_iconst hC (v := (1 : Int32)) rfl (dOk_at dt_X10_noted 41 rfl) ?_
  refine j_iadd hC (dOk_at dt_X10_noted 42 rfl) ?_
  refine j_putI hC St_SP flX10_395 (show shp 107 = (10, 88) from rfl) (Nat.lt_of_lt_of_le (Nat.le_of_ble_eq_true rfl : 107 < 152) hN) (by decide) (by decide) rfl rfl (dOk_at dt_X10_noted 43 rfl) ?_
  refine j_aload_n hC 0 rfl rfl (dOk_at dt_X10_noted 44 rfl) ?_
  refine j_getI hC flX10_395 (show shp 107 = (10, 88) from rfl) (Nat.lt_of_lt_of_le (Nat.le_of_ble_eq_true rfl : 107 < 152) hN) (by decide) (by decide) (fun _ _ _ => rfl) (dOk_at dt_X10_noted 45 rfl) ?_
  refine j_iconst hC (v := (1 : Int32)) rfl (dOk_at dt_X10_noted 46 rfl) ?_
  refine j_isub hC (dOk_at dt_X10_noted 47 rfl) ?_
  exact j_iret hC hret (dOk_at dt_X10_noted 48 rfl)
def tb_X10_see : List (Nat × Instr × Nat) := [(0, .aload_n 0, 1), (1, .iconst 0, 1), (2, .putfield 157, 3), (5, .aload_n 0, 1), (6, .getfield 395, 3), (9, .bipush 24, 2), (11, .if_icmp .eq 31, 3), (14, .iload_n 1, 1), (15, .iconst 1, 1), (16, .bipush 60, 2), (18, .invokestatic 202, 3), (21, .ifCond .eq 21, 3), (24, .aload_n 0, 1), (25, .iload_n 2, 1), (26, .invokevirtual 480, 3), (29, .ifCond .eq 13, 3), (32, .iload_n 3, 1), (33, .iconst 0, 1), (34, .bipush 12, 2), (36, .invokestatic 202, 3), (39, .ifCond .ne 7, 3), (42, .iconst (-1), 1), (43, .goto 20, 3), (46, .aload_n 0, 1), (47, .iload_n 1, 1), (48, .iload_n 2, 1), (49, .iload_n 3, 1), (50, .iload 4, 2), (52, .ifCond .eq 7, 3), (55, .iconst 1, 1), (56, .goto 4, 3), (59, .iconst 0, 1), (60, .invokevirtual 539, 3), (63, .ireturn, 1)]
theorem dt_X10_see : dOk cX10_see tb_X10_see = true := by decide +kernel
def fX10_see (h : Hp) (x1 : Int32) (x2 : Int32) (x3 : Int32) (x4 : Int32) : Option (Int32 × Hp) := if (hI (uI h 107 2 (0 : Int32)) 107 76) = (24 : Int32) then (some ((-1 : Int32), (uI h 107 2 (0 : Int32)))) else (bnd (fX10_isIn (uI h 107 2 (0 : Int32)) x1 (1 : Int32) (60 : Int32)) (fun v_2 h_3 => if v_2 = 0 then (some ((-1 : Int32), h_3)) else (bnd (fX10_isMember h_3 x2) (fun v_5 h_6 => if v_5 = 0 then (some ((-1 : Int32), h_6)) else (bnd (fX10_isIn h_6 x3 (0 : Int32) (12 : Int32)) (fun v_8 h_9 => if v_8 = 0 then (some ((-1 : Int32), h_9)) else (if x4 = 0 then (bnd (fX10_noted h_9 x1 x2 x3 (0 : Int32)) (fun v_12 h_13 => some (v_12, h_13))) else (bnd (fX10_noted h_9 x1 x2 x3 (1 : Int32)) (fun v_14 h_15 => some (v_14, h_15))))))))))
set_option maxRecDepth 100000 in
set_option maxHeartbeats 4000000 in
theorem c_X10_see {l : Launch} {sb : State} {D : va_G} {ids : Nat → ClassId} {n : Nat} (hN : 152 ≤ n) (h : Hp) (x1 : Int32) (x2 : Int32) (x3 : Int32) (x4 : Int32) (r : Int32 × Hp) (hr : fX10_see h x1 x2 x3 x4 = some r) : jM l yX10_see cX10_see 5 (some .int) 1 sb D ids shp St n [.ref 107, .int x1, .int x2, .int x3, .int x4] h (jQi sb D ids shp St n r) := by
  refine jM_of hr rfl (Nat.le_of_ble_eq_true rfl) ?_
  intro p e s m args below meth c hC hret
  unfold fX10_see
  refine j_aload_n hC 0 rfl rfl (dOk_at dt_X10_see 0 rfl) ?_
  refine j_iconst hC (v := (0 : Int32)) rfl (dOk_at dt_X10_see 1 rfl) ?_
  refine j_putI hC St_SP flX10_157 (show shp 107 = (10, 88) from rfl) (Nat.lt_of_lt_of_le (Nat.le_of_ble_eq_true rfl : 107 < 152) hN) (by decide) (by decide) rfl rfl (dOk_at dt_X10_see 2 rfl) ?_
  refine j_aload_n hC 0 rfl rfl (dOk_at dt_X10_see 3 rfl) ?_
  refine j_getI hC flX10_395 (show shp 107 = (10, 88) from rfl) (Nat.lt_of_lt_of_le (Nat.le_of_ble_eq_true rfl : 107 < 152) hN) (by decide) (by decide) (fun _ _ _ => rfl) (dOk_at dt_X10_see 4 rfl) ?_
  refine j_bipush hC (v := (24 : Int32)) rfl (dOk_at dt_X10_see 5 rfl) ?_
  refine j_icmp_eq hC (tgt := 42) (by decide) (dOk_at dt_X10_see 6 rfl) (fun q_1 => ?_) (fun q_1 => ?_)
  · refine j_iconst hC (v := (-1 : Int32)) rfl (dOk_at dt_X10_see 21 rfl) ?_
    refine j_goto hC (tgt := 63) (by decide) (dOk_at dt_X10_see 22 rfl) ?_
    exact j_iret hC hret (dOk_at dt_X10_see 33 rfl)
  · refine j_iload_n hC 1 rfl rfl (dOk_at dt_X10_see 7 rfl) ?_
    refine j_iconst hC (v := (1 : Int32)) rfl (dOk_at dt_X10_see 8 rfl) ?_
    refine j_bipush hC (v := (60 : Int32)) rfl (dOk_at dt_X10_see 9 rfl) ?_
    refine j_callSi hC clX10_202 (fun rz hrz => c_X10_isIn hN _ _ _ _ rz hrz) rfl ⟨Nat.le_of_ble_eq_true rfl, Nat.le_of_ble_eq_true rfl⟩ ⟨Nat.le_refl 0, Nat.le_refl 0⟩ (As := [.int x1, .int (1 : Int32), .int (60 : Int32)]) (st := []) rfl (Nat.le_of_ble_eq_true rfl) (dOk_at dt_X10_see 10 rfl) (fun v_2 h_3 _ => ?_)
    refine j_if_eq hC (tgt := 42) (by decide) (dOk_at dt_X10_see 11 rfl) (fun q_4 => ?_) (fun q_4 => ?_)
    · refine j_iconst hC (v := (-1 : Int32)) rfl (dOk_at dt_X10_see 21 rfl) ?_
      refine j_goto hC (tgt := 63) (by decide) (dOk_at dt_X10_see 22 rfl) ?_
      exact j_iret hC hret (dOk_at dt_X10_see 33 rfl)
    · refine j_aload_n hC 0 rfl rfl (dOk_at dt_X10_see 12 rfl) ?_
      refine j_iload_n hC 2 rfl rfl (dOk_at dt_X10_see 13 rfl) ?_
      refine j_callVi hC clX10_480 (fun rz hrz => c_X10_isMember hN _ _ rz hrz) (show shp 107 = (10, 88) from rfl) (Nat.lt_of_lt_of_le (Nat.le_of_ble_eq_true rfl : 107 < 152) hN) (by decide) rfl rfl ⟨Nat.le_of_ble_eq_true rfl, Nat.le_of_ble_eq_true rfl⟩ ⟨Nat.le_refl 0, Nat.le_refl 0⟩ (As := [.int x2]) (st := []) rfl (Nat.le_of_ble_eq_true rfl) (dOk_at dt_X10_see 14 rfl) (fun v_5 h_6 _ => ?_)
      refine j_if_eq hC (tgt := 42) (by decide) (dOk_at dt_X10_see 15 rfl) (fun q_7 => ?_) (fun q_7 => ?_)
      · refine j_iconst hC (v := (-1 : Int32)) rfl (dOk_at dt_X10_see 21 rfl) ?_
        refine j_goto hC (tgt := 63) (by decide) (dOk_at dt_X10_see 22 rfl) ?_
        exact j_iret hC hret (dOk_at dt_X10_see 33 rfl)
      · refine j_iload_n hC 3 rfl rfl (dOk_at dt_X10_see 16 rfl) ?_
        refine j_iconst hC (v := (0 : Int32)) rfl (dOk_at dt_X10_see 17 rfl) ?_
        refine j_bipush hC (v := (12 : Int32)) rfl (dOk_at dt_X10_see 18 rfl) ?_
        refine j_callSi hC clX10_202 (fun rz hrz => c_X10_isIn hN _ _ _ _ rz hrz) rfl ⟨Nat.le_of_ble_eq_true rfl, Nat.le_of_ble_eq_true rfl⟩ ⟨Nat.le_refl 0, Nat.le_refl 0⟩ (As := [.int x3, .int (0 : Int32), .int (12 : Int32)]) (st := []) rfl (Nat.le_of_ble_eq_true rfl) (dOk_at dt_X10_see 19 rfl) (fun v_8 h_9 _ => ?_)
        refine j_if_ne hC (tgt := 46) (by decide) (dOk_at dt_X10_see 20 rfl) (fun q_10 => ?_) (fun q_10 => ?_)
        · refine j_aload_n hC 0 rfl rfl (dOk_at dt_X10_see 23 rfl) ?_
          refine j_iload_n hC 1 rfl rfl (dOk_at dt_X10_see 24 rfl) ?_
          refine j_iload_n hC 2 rfl rfl (dOk_at dt_X10_see 25 rfl) ?_
          refine j_iload_n hC 3 rfl rfl (dOk_at dt_X10_see 26 rfl) ?_
          refine j_iload hC 4 rfl (dOk_at dt_X10_see 27 rfl) ?_
          refine j_if_eq hC (tgt := 59) (by decide) (dOk_at dt_X10_see 28 rfl) (fun q_11 => ?_) (fun q_11 => ?_)
          · refine j_iconst hC (v := (0 : Int32)) rfl (dOk_at dt_X10_see 31 rfl) ?_
            refine j_callVi hC clX10_539 (fun rz hrz => c_X10_noted hN _ _ _ _ _ rz hrz) (show shp 107 = (10, 88) from rfl) (Nat.lt_of_lt_of_le (Nat.le_of_ble_eq_true rfl : 107 < 152) hN) (by decide) rfl rfl ⟨Nat.le_of_ble_eq_true rfl, Nat.le_of_ble_eq_true rfl⟩ ⟨Nat.le_refl 0, Nat.le_refl 0⟩ (As := [.int x1, .int x2, .int x3, .int (0 : Int32)]) (st := []) rfl (Nat.le_of_ble_eq_true rfl) (dOk_at dt_X10_see 32 rfl) (fun v_12 h_13 _ => ?_)
            exact j_iret hC hret (dOk_at dt_X10_see 33 rfl)
          · refine j_iconst hC (v := (1 : Int32)) rfl (dOk_at dt_X10_see 29 rfl) ?_
            refine j_goto hC (tgt := 60) (by decide) (dOk_at dt_X10_see 30 rfl) ?_
            refine j_callVi hC clX10_539 (fun rz hrz => c_X10_noted hN _ _ _ _ _ rz hrz) (show shp 107 = (10, 88) from rfl) (Nat.lt_of_lt_of_le (Nat.le_of_ble_eq_true rfl : 107 < 152) hN) (by decide) rfl rfl ⟨Nat.le_of_ble_eq_true rfl, Nat.le_of_ble_eq_true rfl⟩ ⟨Nat.le_refl 0, Nat.le_refl 0⟩ (As := [.int x1, .int x2, .int x3, .int (1 : Int32)]) (st := []) rfl (Nat.le_of_ble_eq_true rfl) (dOk_at dt_X10_see 32 rfl) (fun v_14 h_15 _ => ?_)
            exact j_iret hC hret (dOk_at dt_X10_see 33 rfl)
        · refine j_iconst hC (v := (-1 : Int32)) rfl (dOk_at dt_X10_see 21 rfl) ?_
          refine j_goto hC (tgt := 63) (by decide) (dOk_at dt_X10_see 22 rfl) ?_
          exact j_iret hC hret (dOk_at dt_X10_see 33 rfl)
def tb_X10_strike : List (Nat × Instr × Nat) := [(0, .aload_n 0, 1), (1, .iconst 0, 1), (2, .putfield 157, 3), (5, .aload_n 0, 1), (6, .getfield 395, 3), (9, .bipush 24, 2), (11, .if_icmp .eq 15, 3), (14, .iload_n 1, 1), (15, .ifCond .lt 11, 3), (18, .iload_n 1, 1), (19, .aload_n 0, 1), (20, .getfield 395, 3), (23, .if_icmp .lt 7, 3), (26, .iconst (-1), 1), (27, .goto 11, 3), (30, .aload_n 0, 1), (31, .iconst (-1), 1), (32, .iload_n 1, 1), (33, .iconst 0, 1), (34, .iconst 0, 1), (35, .invokevirtual 539, 3), (38, .ireturn, 1)]
theorem dt_X10_strike : dOk cX10_strike tb_X10_strike = true := by decide +kernel
def fX10_strike (h : Hp) (x1 : Int32) : Option (Int32 × Hp) := if (hI (uI h 107 2 (0 : Int32)) 107 76) = (24 : Int32) then (some ((-1 : Int32), (uI h 107 2 (0 : Int32)))) else (if x1 < 0 then (some ((-1 : Int32), (uI h 107 2 (0 : Int32)))) else (if x1 < (hI (uI h 107 2 (0 : Int32)) 107 76) then (bnd (fX10_noted (uI h 107 2 (0 : Int32)) (-1 : Int32) x1 (0 : Int32) (0 : Int32)) (fun v_4 h_5 => some (v_4, h_5))) else (some ((-1 : Int32), (uI h 107 2 (0 : Int32))))))
set_option maxRecDepth 100000 in
set_option maxHeartbeats 4000000 in
theorem c_X10_strike {l : Launch} {sb : State} {D : va_G} {ids : Nat → ClassId} {n : Nat} (hN : 152 ≤ n) (h : Hp) (x1 : Int32) (r : Int32 × Hp) (hr : fX10_strike h x1 = some r) : jM l yX10_strike cX10_strike 2 (some .int) 1 sb D ids shp St n [.ref 107, .int x1] h (jQi sb D ids shp St n r) := by
  refine jM_of hr rfl (Nat.le_of_ble_eq_true rfl) ?_
  intro p e s m args below meth c hC hret
  unfold fX10_strike
  refine j_aload_n hC 0 rfl rfl (dOk_at dt_X10_strike 0 rfl) ?_
  refine j_iconst hC (v := (0 : Int32)) rfl (dOk_at dt_X10_strike 1 rfl) ?_
  refine j_putI hC St_SP flX10_157 (show shp 107 = (10, 88) from rfl) (Nat.lt_of_lt_of_le (Nat.le_of_ble_eq_true rfl : 107 < 152) hN) (by decide) (by decide) rfl rfl (dOk_at dt_X10_strike 2 rfl) ?_
  refine j_aload_n hC 0 rfl rfl (dOk_at dt_X10_strike 3 rfl) ?_
  refine j_getI hC flX10_395 (show shp 107 = (10, 88) from rfl) (Nat.lt_of_lt_of_le (Nat.le_of_ble_eq_true rfl : 107 < 152) hN) (by decide) (by decide) (fun _ _ _ => rfl) (dOk_at dt_X10_strike 4 rfl) ?_
  refine j_bipush hC (v := (24 : Int32)) rfl (dOk_at dt_X10_strike 5 rfl) ?_
  refine j_icmp_eq hC (tgt := 26) (by decide) (dOk_at dt_X10_strike 6 rfl) (fun q_1 => ?_) (fun q_1 => ?_)
  · refine j_iconst hC (v := (-1 : Int32)) rfl (dOk_at dt_X10_strike 13 rfl) ?_
    refine j_goto hC (tgt := 38) (by decide) (dOk_at dt_X10_strike 14 rfl) ?_
    exact j_iret hC hret (dOk_at dt_X10_strike 21 rfl)
  · refine j_iload_n hC 1 rfl rfl (dOk_at dt_X10_strike 7 rfl) ?_
    refine j_if_lt hC (tgt := 26) (by decide) (dOk_at dt_X10_strike 8 rfl) (fun q_2 => ?_) (fun q_2 => ?_)
    · refine j_iconst hC (v := (-1 : Int32)) rfl (dOk_at dt_X10_strike 13 rfl) ?_
      refine j_goto hC (tgt := 38) (by decide) (dOk_at dt_X10_strike 14 rfl) ?_
      exact j_iret hC hret (dOk_at dt_X10_strike 21 rfl)
    · refine j_iload_n hC 1 rfl rfl (dOk_at dt_X10_strike 9 rfl) ?_
      refine j_aload_n hC 0 rfl rfl (dOk_at dt_X10_strike 10 rfl) ?_
      refine j_getI hC flX10_395 (show shp 107 = (10, 88) from rfl) (Nat.lt_of_lt_of_le (Nat.le_of_ble_eq_true rfl : 107 < 152) hN) (by decide) (by decide) (fun _ _ _ => rfl) (dOk_at dt_X10_strike 11 rfl) ?_
      refine j_icmp_lt hC (tgt := 30) (by decide) (dOk_at dt_X10_strike 12 rfl) (fun q_3 => ?_) (fun q_3 => ?_)
      · refine j_aload_n hC 0 rfl rfl (dOk_at dt_X10_strike 15 rfl) ?_
        refine j_iconst hC (v := (-1 : Int32)) rfl (dOk_at dt_X10_strike 16 rfl) ?_
        refine j_iload_n hC 1 rfl rfl (dOk_at dt_X10_strike 17 rfl) ?_
        refine j_iconst hC (v := (0 : Int32)) rfl (dOk_at dt_X10_strike 18 rfl) ?_
        refine j_iconst hC (v := (0 : Int32)) rfl (dOk_at dt_X10_strike 19 rfl) ?_
        refine j_callVi hC clX10_539 (fun rz hrz => c_X10_noted hN _ _ _ _ _ rz hrz) (show shp 107 = (10, 88) from rfl) (Nat.lt_of_lt_of_le (Nat.le_of_ble_eq_true rfl : 107 < 152) hN) (by decide) rfl rfl ⟨Nat.le_of_ble_eq_true rfl, Nat.le_of_ble_eq_true rfl⟩ ⟨Nat.le_refl 0, Nat.le_refl 0⟩ (As := [.int (-1 : Int32), .int x1, .int (0 : Int32), .int (0 : Int32)]) (st := []) rfl (Nat.le_of_ble_eq_true rfl) (dOk_at dt_X10_strike 20 rfl) (fun v_4 h_5 _ => ?_)
        exact j_iret hC hret (dOk_at dt_X10_strike 21 rfl)
      · refine j_iconst hC (v := (-1 : Int32)) rfl (dOk_at dt_X10_strike 13 rfl) ?_
        refine j_goto hC (tgt := 38) (by decide) (dOk_at dt_X10_strike 14 rfl) ?_
        exact j_iret hC hret (dOk_at dt_X10_strike 21 rfl)
def tb_X10_known : List (Nat × Instr × Nat) := [(0, .aload_n 0, 1), (1, .iconst 0, 1), (2, .putfield 157, 3), (5, .iload_n 1, 1), (6, .iconst (-1), 1), (7, .aload_n 0, 1), (8, .getfield 395, 3), (11, .invokestatic 202, 3), (14, .ifCond .ne 5, 3), (17, .iconst 0, 1), (18, .ireturn, 1), (19, .aload_n 0, 1), (20, .iload_n 1, 1), (21, .putfield 133, 3), (24, .iconst 1, 1), (25, .ireturn, 1)]
theorem dt_X10_known : dOk cX10_known tb_X10_known = true := by decide +kernel
def fX10_known (h : Hp) (x1 : Int32) : Option (Int32 × Hp) := bnd (fX10_isIn (uI h 107 2 (0 : Int32)) x1 (-1 : Int32) (hI (uI h 107 2 (0 : Int32)) 107 76)) (fun v_1 h_2 => if v_1 = 0 then (some ((0 : Int32), h_2)) else (some ((1 : Int32), (uI h_2 107 77 x1))))
set_option maxRecDepth 100000 in
set_option maxHeartbeats 4000000 in
theorem c_X10_known {l : Launch} {sb : State} {D : va_G} {ids : Nat → ClassId} {n : Nat} (hN : 152 ≤ n) (h : Hp) (x1 : Int32) (r : Int32 × Hp) (hr : fX10_known h x1 = some r) : jM l yX10_known cX10_known 2 (some .boolean) 1 sb D ids shp St n [.ref 107, .int x1] h (jQi sb D ids shp St n r) := by
  refine jM_of hr rfl (Nat.le_of_ble_eq_true rfl) ?_
  intro p e s m args below meth c hC hret
  unfold fX10_known
  refine j_aload_n hC 0 rfl rfl (dOk_at dt_X10_known 0 rfl) ?_
  refine j_iconst hC (v := (0 : Int32)) rfl (dOk_at dt_X10_known 1 rfl) ?_
  refine j_putI hC St_SP flX10_157 (show shp 107 = (10, 88) from rfl) (Nat.lt_of_lt_of_le (Nat.le_of_ble_eq_true rfl : 107 < 152) hN) (by decide) (by decide) rfl rfl (dOk_at dt_X10_known 2 rfl) ?_
  refine j_iload_n hC 1 rfl rfl (dOk_at dt_X10_known 3 rfl) ?_
  refine j_iconst hC (v := (-1 : Int32)) rfl (dOk_at dt_X10_known 4 rfl) ?_
  refine j_aload_n hC 0 rfl rfl (dOk_at dt_X10_known 5 rfl) ?_
  refine j_getI hC flX10_395 (show shp 107 = (10, 88) from rfl) (Nat.lt_of_lt_of_le (Nat.le_of_ble_eq_true rfl : 107 < 152) hN) (by decide) (by decide) (fun _ _ _ => rfl) (dOk_at dt_X10_known 6 rfl) ?_
  refine j_callSi hC clX10_202 (fun rz hrz => c_X10_isIn hN _ _ _ _ rz hrz) rfl ⟨Nat.le_of_ble_eq_true rfl, Nat.le_of_ble_eq_true rfl⟩ ⟨Nat.le_refl 0, Nat.le_refl 0⟩ (As := [.int x1, .int (-1 : Int32), .int (hI (uI h 107 2 (0 : Int32)) 107 76)]) (st := []) rfl (Nat.le_of_ble_eq_true rfl) (dOk_at dt_X10_known 7 rfl) (fun v_1 h_2 _ => ?_)
  refine j_if_ne hC (tgt := 19) (by decide) (dOk_at dt_X10_known 8 rfl) (fun q_3 => ?_) (fun q_3 => ?_)
  · refine j_aload_n hC 0 rfl rfl (dOk_at dt_X10_known 11 rfl) ?_
    refine j_iload_n hC 1 rfl rfl (dOk_at dt_X10_known 12 rfl) ?_
    refine j_putI hC St_SP flX10_133 (show shp 107 = (10, 88) from rfl) (Nat.lt_of_lt_of_le (Nat.le_of_ble_eq_true rfl : 107 < 152) hN) (by decide) (by decide) rfl rfl (dOk_at dt_X10_known 13 rfl) ?_
    refine j_iconst hC (v := (1 : Int32)) rfl (dOk_at dt_X10_known 14 rfl) ?_
    exact j_zretK hC hret rfl (dOk_at dt_X10_known 15 rfl)
  · refine j_iconst hC (v := (0 : Int32)) rfl (dOk_at dt_X10_known 9 rfl) ?_
    exact j_zretK hC hret rfl (dOk_at dt_X10_known 10 rfl)
def tb_X10_knownBy : List (Nat × Instr × Nat) := [(0, .aload_n 0, 1), (1, .getfield 133, 3), (4, .ifCond .ge 10, 3), (7, .aload_n 0, 1), (8, .getfield 395, 3), (11, .goto 7, 3), (14, .aload_n 0, 1), (15, .getfield 133, 3), (18, .ireturn, 1)]
theorem dt_X10_knownBy : dOk cX10_knownBy tb_X10_knownBy = true := by decide +kernel
def fX10_knownBy (h : Hp) : Option (Int32 × Hp) := if 0 ≤ (hI h 107 77) then (some ((hI h 107 77), h)) else (some ((hI h 107 76), h))
set_option maxRecDepth 100000 in
set_option maxHeartbeats 4000000 in
theorem c_X10_knownBy {l : Launch} {sb : State} {D : va_G} {ids : Nat → ClassId} {n : Nat} (hN : 152 ≤ n) (h : Hp) (r : Int32 × Hp) (hr : fX10_knownBy h = some r) : jM l yX10_knownBy cX10_knownBy 1 (some .int) 0 sb D ids shp St n [.ref 107] h (jQi sb D ids shp St n r) := by
  refine jM_of hr rfl (Nat.le_of_ble_eq_true rfl) ?_
  intro p e s m args below meth c hC hret
  unfold fX10_knownBy
  refine j_aload_n hC 0 rfl rfl (dOk_at dt_X10_knownBy 0 rfl) ?_
  refine j_getI hC flX10_133 (show shp 107 = (10, 88) from rfl) (Nat.lt_of_lt_of_le (Nat.le_of_ble_eq_true rfl : 107 < 152) hN) (by decide) (by decide) (fun _ _ _ => rfl) (dOk_at dt_X10_knownBy 1 rfl) ?_
  refine j_if_ge hC (tgt := 14) (by decide) (dOk_at dt_X10_knownBy 2 rfl) (fun q_1 => ?_) (fun q_1 => ?_)
  · refine j_aload_n hC 0 rfl rfl (dOk_at dt_X10_knownBy 6 rfl) ?_
    refine j_getI hC flX10_133 (show shp 107 = (10, 88) from rfl) (Nat.lt_of_lt_of_le (Nat.le_of_ble_eq_true rfl : 107 < 152) hN) (by decide) (by decide) (fun _ _ _ => rfl) (dOk_at dt_X10_knownBy 7 rfl) ?_
    exact j_iret hC hret (dOk_at dt_X10_knownBy 8 rfl)
  · refine j_aload_n hC 0 rfl rfl (dOk_at dt_X10_knownBy 3 rfl) ?_
    refine j_getI hC flX10_395 (show shp 107 = (10, 88) from rfl) (Nat.lt_of_lt_of_le (Nat.le_of_ble_eq_true rfl : 107 < 152) hN) (by decide) (by decide) (fun _ _ _ => rfl) (dOk_at dt_X10_knownBy 4 rfl) ?_
    refine j_goto hC (tgt := 18) (by decide) (dOk_at dt_X10_knownBy 5 rfl) ?_
    exact j_iret hC hret (dOk_at dt_X10_knownBy 8 rfl)
def tb_X10_isSo : List (Nat × Instr × Nat) := [(0, .iconst 0, 1), (1, .istore_n 2, 1), (2, .iload_n 2, 1), (3, .aload_n 0, 1), (4, .invokevirtual 542, 3), (7, .if_icmp .ge 92, 3), (10, .aload_n 0, 1), (11, .getfield 139, 3), (14, .iload_n 2, 1), (15, .baload, 1), (16, .ifCond .eq 77, 3), (19, .aload_n 0, 1), (20, .getfield 136, 3), (23, .iconst 4, 1), (24, .iload_n 2, 1), (25, .imul, 1), (26, .iaload, 1), (27, .iload_n 1, 1), (28, .if_icmp .eq 6, 3), (31, .goto 62, 3), (34, .aload_n 0, 1), (35, .getfield 112, 3), (38, .iconst 5, 1), (39, .aload_n 0, 1), (40, .getfield 136, 3), (43, .iconst 4, 1), (44, .iload_n 2, 1), (45, .imul, 1), (46, .iconst 1, 1), (47, .iadd, 1), (48, .iaload, 1), (49, .iadd, 1), (50, .iaload, 1), (51, .aload_n 0, 1), (52, .getfield 136, 3), (55, .iconst 4, 1), (56, .iload_n 2, 1), (57, .imul, 1), (58, .iconst 2, 1), (59, .iadd, 1), (60, .iaload, 1), (61, .if_icmp .lt 7, 3), (64, .iconst 1, 1), (65, .goto 4, 3), (68, .iconst 0, 1), (69, .aload_n 0, 1), (70, .getfield 136, 3), (73, .iconst 4, 1), (74, .iload_n 2, 1), (75, .imul, 1), (76, .iconst 3, 1), (77, .iadd, 1), (78, .iaload, 1), (79, .iconst 1, 1), (80, .if_icmp .ne 7, 3), (83, .iconst 1, 1), (84, .goto 4, 3), (87, .iconst 0, 1), (88, .if_icmp .eq 5, 3), (91, .iconst 0, 1), (92, .ireturn, 1), (93, .iinc 2 1, 3), (96, .goto (-94), 3), (99, .iconst 1, 1), (100, .ireturn, 1)]
theorem dt_X10_isSo : dOk cX10_isSo tb_X10_isSo = true := by decide +kernel
def fX10_isSo_93 (rec2 : Hp → Int32 → Int32 → Option (Int32 × Hp)) (h : Hp) (x1 : Int32) (x2 : Int32) : Option (Int32 × Hp) := rec2 h x1 (x2 + (1 : Int32))
def fX10_isSo_88 (rec2 : Hp → Int32 → Int32 → Option (Int32 × Hp)) (h : Hp) (x1 : Int32) (x2 : Int32) (s0 : Int32) (s1 : Int32) : Option (Int32 × Hp) := if s0 = s1 then (fX10_isSo_93 rec2 h x1 x2) else (some ((0 : Int32), h))
def fX10_isSo_69 (rec2 : Hp → Int32 → Int32 → Option (Int32 × Hp)) (h : Hp) (x1 : Int32) (x2 : Int32) (s0 : Int32) : Option (Int32 × Hp) := if inb (((4 : Int32) * x2) + (3 : Int32)) 96 then (if (hI h 147 (Int32.toNatClampNeg (((4 : Int32) * x2) + (3 : Int32)))) = (1 : Int32) then (fX10_isSo_88 rec2 h x1 x2 s0 (1 : Int32)) else (fX10_isSo_88 rec2 h x1 x2 s0 (0 : Int32))) else none
def fX10_isSo_2 : Nat → Hp → Int32 → Int32 → Option (Int32 × Hp)
  | 0, _, _, _ => none
  | fu + 1, h, x1, x2 => bnd (fX10_knownBy h) (fun v_1 h_2 => if v_1 ≤ x2 then (some ((1 : Int32), h_2)) else (if inb x2 24 then (if (hI h_2 148 (Int32.toNatClampNeg x2)) = 0 then (fX10_isSo_93 (fX10_isSo_2 fu) h_2 x1 x2) else (if inb ((4 : Int32) * x2) 96 then (if (hI h_2 147 (Int32.toNatClampNeg ((4 : Int32) * x2))) = x1 then (if inb (((4 : Int32) * x2) + (1 : Int32)) 96 then (if inb ((5 : Int32) + (hI h_2 147 (Int32.toNatClampNeg (((4 : Int32) * x2) + (1 : Int32))))) 10 then (if inb (((4 : Int32) * x2) + (2 : Int32)) 96 then (if (hI h_2 140 (Int32.toNatClampNeg ((5 : Int32) + (hI h_2 147 (Int32.toNatClampNeg (((4 : Int32) * x2) + (1 : Int32))))))) < (hI h_2 147 (Int32.toNatClampNeg (((4 : Int32) * x2) + (2 : Int32)))) then (fX10_isSo_69 (fX10_isSo_2 fu) h_2 x1 x2 (0 : Int32)) else (fX10_isSo_69 (fX10_isSo_2 fu) h_2 x1 x2 (1 : Int32))) else none) else none) else none) else (fX10_isSo_93 (fX10_isSo_2 fu) h_2 x1 x2)) else none)) else none))
def fX10_isSo (h : Hp) (x1 : Int32) : Option (Int32 × Hp) := fX10_isSo_2 FU h x1 (0 : Int32)
set_option maxRecDepth 100000 in
set_option maxHeartbeats 4000000 in
theorem c_X10_isSo {l : Launch} {sb : State} {D : va_G} {ids : Nat → ClassId} {n : Nat} (hN : 152 ≤ n) (h : Hp) (x1 : Int32) (r : Int32 × Hp) (hr : fX10_isSo h x1 = some r) : jM l yX10_isSo cX10_isSo 3 (some .boolean) 1 sb D ids shp St n [.ref 107, .int x1] h (jQi sb D ids shp St n r) := by
  refine jM_of hr rfl (Nat.le_of_ble_eq_true rfl) ?_
  intro p e s m args below meth c hC hret
  have b93 : ∀ (rec2 : Hp → Int32 → Int32 → Option (Int32 × Hp)) (hrec2 : ∀ (h : Hp) (x1 : Int32) (x2 : Int32) , jJ p l e (rmD 1) s m args below meth c 3 sb D ids shp St (fun r => MQ below (jQi sb D ids shp St n r) args s 0 0 (jA sb)) n 0 0 h 2 [(0, .ref 107), (1, .int x1), (2, .int x2)] [] (rec2 h x1 x2)) (h : Hp) (x1 : Int32) (x2 : Int32) , jJ p l e (rmD 1) s m args below meth c 3 sb D ids shp St (fun r => MQ below (jQi sb D ids shp St n r) args s 0 0 (jA sb)) n 0 0 h 93 [(0, .ref 107), (1, .int x1), (2, .int x2)] [] (fX10_isSo_93 rec2 h x1 x2) := by
    intro rec2 hrec2 h x1 x2 
    unfold fX10_isSo_93
    refine j_iinc hC (v := (x2 + (1 : Int32))) (lv' := [(2, .int (x2 + (1 : Int32))), (0, .ref 107), (1, .int x1)]) 2 rfl (congrArg (fun z => x2 + z) (show Int32.ofInt (1) = (1 : Int32) from by decide)) (by decide) rfl (dOk_at dt_X10_isSo 61 rfl) ?_
    refine j_goto hC (tgt := 2) (by decide) (dOk_at dt_X10_isSo 62 rfl) ?_
    refine j_sub [1, 2, 0] rfl ?_
    exact hrec2 h x1 (x2 + (1 : Int32)) 
  have b88 : ∀ (rec2 : Hp → Int32 → Int32 → Option (Int32 × Hp)) (hrec2 : ∀ (h : Hp) (x1 : Int32) (x2 : Int32) , jJ p l e (rmD 1) s m args below meth c 3 sb D ids shp St (fun r => MQ below (jQi sb D ids shp St n r) args s 0 0 (jA sb)) n 0 0 h 2 [(0, .ref 107), (1, .int x1), (2, .int x2)] [] (rec2 h x1 x2)) (h : Hp) (x1 : Int32) (x2 : Int32) (s0 : Int32) (s1 : Int32) , jJ p l e (rmD 1) s m args below meth c 3 sb D ids shp St (fun r => MQ below (jQi sb D ids shp St n r) args s 0 0 (jA sb)) n 0 0 h 88 [(0, .ref 107), (1, .int x1), (2, .int x2)] [.int s1, .int s0] (fX10_isSo_88 rec2 h x1 x2 s0 s1) := by
    intro rec2 hrec2 h x1 x2 s0 s1 
    unfold fX10_isSo_88
    refine j_icmp_eq hC (tgt := 93) (by decide) (dOk_at dt_X10_isSo 58 rfl) (fun q_8 => ?_) (fun q_8 => ?_)
    · exact b93 rec2 hrec2 h x1 x2 
    · refine j_iconst hC (v := (0 : Int32)) rfl (dOk_at dt_X10_isSo 59 rfl) ?_
      exact j_zretK hC hret rfl (dOk_at dt_X10_isSo 60 rfl)
  have b69 : ∀ (rec2 : Hp → Int32 → Int32 → Option (Int32 × Hp)) (hrec2 : ∀ (h : Hp) (x1 : Int32) (x2 : Int32) , jJ p l e (rmD 1) s m args below meth c 3 sb D ids shp St (fun r => MQ below (jQi sb D ids shp St n r) args s 0 0 (jA sb)) n 0 0 h 2 [(0, .ref 107), (1, .int x1), (2, .int x2)] [] (rec2 h x1 x2)) (h : Hp) (x1 : Int32) (x2 : Int32) (s0 : Int32) , jJ p l e (rmD 1) s m args below meth c 3 sb D ids shp St (fun r => MQ below (jQi sb D ids shp St n r) args s 0 0 (jA sb)) n 0 0 h 69 [(0, .ref 107), (1, .int x1), (2, .int x2)] [.int s0] (fX10_isSo_69 rec2 h x1 x2 s0) := by
    intro rec2 hrec2 h x1 x2 s0 
    unfold fX10_isSo_69
    refine j_aload_n hC 0 rfl rfl (dOk_at dt_X10_isSo 45 rfl) ?_
    refine j_getR hC flX10_136 (show shp 107 = (10, 88) from rfl) (Nat.lt_of_lt_of_le (Nat.le_of_ble_eq_true rfl : 107 < 152) hN) (by decide) (by decide) (fun _ _ _ => rfl) (fun hs => hs 107 78 147 rfl) (dOk_at dt_X10_isSo 46 rfl) ?_
    refine j_iconst hC (v := (4 : Int32)) rfl (dOk_at dt_X10_isSo 47 rfl) ?_
    refine j_iload_n hC 2 rfl rfl (dOk_at dt_X10_isSo 48 rfl) ?_
    refine j_imul hC (dOk_at dt_X10_isSo 49 rfl) ?_
    refine j_iconst hC (v := (3 : Int32)) rfl (dOk_at dt_X10_isSo 50 rfl) ?_
    refine j_iadd hC (dOk_at dt_X10_isSo 51 rfl) ?_
    refine j_iald hC (show shp 147 = (21, 96) from rfl) (Nat.lt_of_lt_of_le (Nat.le_of_ble_eq_true rfl : 147 < 152) hN) (dOk_at dt_X10_isSo 52 rfl) ?_
    refine j_iconst hC (v := (1 : Int32)) rfl (dOk_at dt_X10_isSo 53 rfl) ?_
    refine j_icmp_ne hC (tgt := 87) (by decide) (dOk_at dt_X10_isSo 54 rfl) (fun q_7 => ?_) (fun q_7 => ?_)
    · refine j_iconst hC (v := (0 : Int32)) rfl (dOk_at dt_X10_isSo 57 rfl) ?_
      exact b88 rec2 hrec2 h x1 x2 s0 (0 : Int32) 
    · refine j_iconst hC (v := (1 : Int32)) rfl (dOk_at dt_X10_isSo 55 rfl) ?_
      refine j_goto hC (tgt := 88) (by decide) (dOk_at dt_X10_isSo 56 rfl) ?_
      exact b88 rec2 hrec2 h x1 x2 s0 (1 : Int32) 
  have b2 : ∀ (fu : Nat) (h : Hp) (x1 : Int32) (x2 : Int32) , jJ p l e (rmD 1) s m args below meth c 3 sb D ids shp St (fun r => MQ below (jQi sb D ids shp St n r) args s 0 0 (jA sb)) n 0 0 h 2 [(0, .ref 107), (1, .int x1), (2, .int x2)] [] (fX10_isSo_2 fu h x1 x2) := by
    intro fu 
    induction fu with
    | zero => intro h x1 x2 ; exact j_none
    | succ fu ih =>
    intro h x1 x2 
    rw [fX10_isSo_2]
    refine j_iload_n hC 2 rfl rfl (dOk_at dt_X10_isSo 2 rfl) ?_
    refine j_aload_n hC 0 rfl rfl (dOk_at dt_X10_isSo 3 rfl) ?_
    refine j_callVi hC clX10_542 (fun rz hrz => c_X10_knownBy hN _ rz hrz) (show shp 107 = (10, 88) from rfl) (Nat.lt_of_lt_of_le (Nat.le_of_ble_eq_true rfl : 107 < 152) hN) (by decide) rfl rfl ⟨Nat.le_of_ble_eq_true rfl, Nat.le_of_ble_eq_true rfl⟩ ⟨Nat.le_refl 0, Nat.le_refl 0⟩ (As := []) (st := [.int x2]) rfl (Nat.le_of_ble_eq_true rfl) (dOk_at dt_X10_isSo 4 rfl) (fun v_1 h_2 _ => ?_)
    refine j_icmp_ge hC (tgt := 99) (by decide) (dOk_at dt_X10_isSo 5 rfl) (fun q_3 => ?_) (fun q_3 => ?_)
    · refine j_iconst hC (v := (1 : Int32)) rfl (dOk_at dt_X10_isSo 63 rfl) ?_
      exact j_zretK hC hret rfl (dOk_at dt_X10_isSo 64 rfl)
    · refine j_aload_n hC 0 rfl rfl (dOk_at dt_X10_isSo 6 rfl) ?_
      refine j_getR hC flX10_139 (show shp 107 = (10, 88) from rfl) (Nat.lt_of_lt_of_le (Nat.le_of_ble_eq_true rfl : 107 < 152) hN) (by decide) (by decide) (fun _ _ _ => rfl) (fun hs => hs 107 79 148 rfl) (dOk_at dt_X10_isSo 7 rfl) ?_
      refine j_iload_n hC 2 rfl rfl (dOk_at dt_X10_isSo 8 rfl) ?_
      refine j_zald hC (show shp 148 = (23, 24) from rfl) (Nat.lt_of_lt_of_le (Nat.le_of_ble_eq_true rfl : 148 < 152) hN) (dOk_at dt_X10_isSo 9 rfl) ?_
      refine j_if_eq hC (tgt := 93) (by decide) (dOk_at dt_X10_isSo 10 rfl) (fun q_4 => ?_) (fun q_4 => ?_)
      · exact b93 (fX10_isSo_2 fu) ih h_2 x1 x2 
      · refine j_aload_n hC 0 rfl rfl (dOk_at dt_X10_isSo 11 rfl) ?_
        refine j_getR hC flX10_136 (show shp 107 = (10, 88) from rfl) (Nat.lt_of_lt_of_le (Nat.le_of_ble_eq_true rfl : 107 < 152) hN) (by decide) (by decide) (fun _ _ _ => rfl) (fun hs => hs 107 78 147 rfl) (dOk_at dt_X10_isSo 12 rfl) ?_
        refine j_iconst hC (v := (4 : Int32)) rfl (dOk_at dt_X10_isSo 13 rfl) ?_
        refine j_iload_n hC 2 rfl rfl (dOk_at dt_X10_isSo 14 rfl) ?_
        refine j_imul hC (dOk_at dt_X10_isSo 15 rfl) ?_
        refine j_iald hC (show shp 147 = (21, 96) from rfl) (Nat.lt_of_lt_of_le (Nat.le_of_ble_eq_true rfl : 147 < 152) hN) (dOk_at dt_X10_isSo 16 rfl) ?_
        refine j_iload_n hC 1 rfl rfl (dOk_at dt_X10_isSo 17 rfl) ?_
        refine j_icmp_eq hC (tgt := 34) (by decide) (dOk_at dt_X10_isSo 18 rfl) (fun q_5 => ?_) (fun q_5 => ?_)
        · refine j_aload_n hC 0 rfl rfl (dOk_at dt_X10_isSo 20 rfl) ?_
          refine j_getR hC flX10_112 (show shp 107 = (10, 88) from rfl) (Nat.lt_of_lt_of_le (Nat.le_of_ble_eq_true rfl : 107 < 152) hN) (by decide) (by decide) (fun _ _ _ => rfl) (fun hs => hs 107 63 140 rfl) (dOk_at dt_X10_isSo 21 rfl) ?_
          refine j_iconst hC (v := (5 : Int32)) rfl (dOk_at dt_X10_isSo 22 rfl) ?_
          refine j_aload_n hC 0 rfl rfl (dOk_at dt_X10_isSo 23 rfl) ?_
          refine j_getR hC flX10_136 (show shp 107 = (10, 88) from rfl) (Nat.lt_of_lt_of_le (Nat.le_of_ble_eq_true rfl : 107 < 152) hN) (by decide) (by decide) (fun _ _ _ => rfl) (fun hs => hs 107 78 147 rfl) (dOk_at dt_X10_isSo 24 rfl) ?_
          refine j_iconst hC (v := (4 : Int32)) rfl (dOk_at dt_X10_isSo 25 rfl) ?_
          refine j_iload_n hC 2 rfl rfl (dOk_at dt_X10_isSo 26 rfl) ?_
          refine j_imul hC (dOk_at dt_X10_isSo 27 rfl) ?_
          refine j_iconst hC (v := (1 : Int32)) rfl (dOk_at dt_X10_isSo 28 rfl) ?_
          refine j_iadd hC (dOk_at dt_X10_isSo 29 rfl) ?_
          refine j_iald hC (show shp 147 = (21, 96) from rfl) (Nat.lt_of_lt_of_le (Nat.le_of_ble_eq_true rfl : 147 < 152) hN) (dOk_at dt_X10_isSo 30 rfl) ?_
          refine j_iadd hC (dOk_at dt_X10_isSo 31 rfl) ?_
          refine j_iald hC (show shp 140 = (21, 10) from rfl) (Nat.lt_of_lt_of_le (Nat.le_of_ble_eq_true rfl : 140 < 152) hN) (dOk_at dt_X10_isSo 32 rfl) ?_
          refine j_aload_n hC 0 rfl rfl (dOk_at dt_X10_isSo 33 rfl) ?_
          refine j_getR hC flX10_136 (show shp 107 = (10, 88) from rfl) (Nat.lt_of_lt_of_le (Nat.le_of_ble_eq_true rfl : 107 < 152) hN) (by decide) (by decide) (fun _ _ _ => rfl) (fun hs => hs 107 78 147 rfl) (dOk_at dt_X10_isSo 34 rfl) ?_
          refine j_iconst hC (v := (4 : Int32)) rfl (dOk_at dt_X10_isSo 35 rfl) ?_
          refine j_iload_n hC 2 rfl rfl (dOk_at dt_X10_isSo 36 rfl) ?_
          refine j_imul hC (dOk_at dt_X10_isSo 37 rfl) ?_
          refine j_iconst hC (v := (2 : Int32)) rfl (dOk_at dt_X10_isSo 38 rfl) ?_
          refine j_iadd hC (dOk_at dt_X10_isSo 39 rfl) ?_
          refine j_iald hC (show shp 147 = (21, 96) from rfl) (Nat.lt_of_lt_of_le (Nat.le_of_ble_eq_true rfl : 147 < 152) hN) (dOk_at dt_X10_isSo 40 rfl) ?_
          refine j_icmp_lt hC (tgt := 68) (by decide) (dOk_at dt_X10_isSo 41 rfl) (fun q_6 => ?_) (fun q_6 => ?_)
          · refine j_iconst hC (v := (0 : Int32)) rfl (dOk_at dt_X10_isSo 44 rfl) ?_
            exact b69 (fX10_isSo_2 fu) ih h_2 x1 x2 (0 : Int32) 
          · refine j_iconst hC (v := (1 : Int32)) rfl (dOk_at dt_X10_isSo 42 rfl) ?_
            refine j_goto hC (tgt := 69) (by decide) (dOk_at dt_X10_isSo 43 rfl) ?_
            exact b69 (fX10_isSo_2 fu) ih h_2 x1 x2 (1 : Int32) 
        · refine j_goto hC (tgt := 93) (by decide) (dOk_at dt_X10_isSo 19 rfl) ?_
          exact b93 (fX10_isSo_2 fu) ih h_2 x1 x2 
  unfold fX10_isSo
  refine j_iconst hC (v := (0 : Int32)) rfl (dOk_at dt_X10_isSo 0 rfl) ?_
  refine j_istore_n hC rfl (lv' := [(2, .int (0 : Int32)), (0, .ref 107), (1, .int x1)]) (by decide) rfl (dOk_at dt_X10_isSo 1 rfl) ?_
  refine j_sub [1, 2, 0] rfl ?_
  exact b2 FU h x1 (0 : Int32) 
def tb_X10_fits : List (Nat × Instr × Nat) := [(0, .aload_n 0, 1), (1, .iconst 1, 1), (2, .invokevirtual 385, 3), (5, .aload_n 0, 1), (6, .invokevirtual 392, 3), (9, .aload_n 0, 1), (10, .getfield 109, 3), (13, .iconst 5, 1), (14, .iload_n 1, 1), (15, .iadd, 1), (16, .iconst 1, 1), (17, .iload_n 2, 1), (18, .ishl, 1), (19, .iastore, 1), (20, .iconst 1, 1), (21, .istore_n 3, 1), (22, .iload_n 3, 1), (23, .bipush 60, 2), (25, .if_icmp .gt 24, 3), (28, .aload_n 0, 1), (29, .iconst 1, 1), (30, .invokevirtual 462, 3), (33, .aload_n 0, 1), (34, .iload_n 3, 1), (35, .invokevirtual 545, 3), (38, .ifCond .ne 5, 3), (41, .iconst 0, 1), (42, .ireturn, 1), (43, .iinc 3 1, 3), (46, .goto (-24), 3), (49, .iconst 1, 1), (50, .ireturn, 1)]
theorem dt_X10_fits : dOk cX10_fits tb_X10_fits = true := by decide +kernel
def fX10_fits_22 : Nat → Hp → Int32 → Option (Int32 × Hp)
  | 0, _, _ => none
  | fu + 1, h, x3 => if (60 : Int32) < x3 then (some ((1 : Int32), h)) else ((fX10_nightGoes h (1 : Int32)).bind (fun h_7 => bnd (fX10_isSo h_7 x3) (fun v_8 h_9 => if v_8 = 0 then (some ((0 : Int32), h_9)) else ((fX10_fits_22 fu) h_9 (x3 + (1 : Int32))))))
def fX10_fits (h : Hp) (x1 : Int32) (x2 : Int32) : Option (Int32 × Hp) := (fX10_atFirst h (1 : Int32)).bind (fun h_2 => (fX10_plainTried h_2).bind (fun h_4 => if inb ((5 : Int32) + x1) 10 then (fX10_fits_22 FU (uI h_4 139 (Int32.toNatClampNeg ((5 : Int32) + x1)) ((1 : Int32) <<< (x2 &&& 31))) (1 : Int32)) else none))
set_option maxRecDepth 100000 in
set_option maxHeartbeats 4000000 in
theorem c_X10_fits {l : Launch} {sb : State} {D : va_G} {ids : Nat → ClassId} {n : Nat} (hN : 152 ≤ n) (h : Hp) (x1 : Int32) (x2 : Int32) (r : Int32 × Hp) (hr : fX10_fits h x1 x2 = some r) : jM l yX10_fits cX10_fits 4 (some .boolean) 8 sb D ids shp St n [.ref 107, .int x1, .int x2] h (jQi sb D ids shp St n r) := by
  refine jM_of hr rfl (Nat.le_of_ble_eq_true rfl) ?_
  intro p e s m args below meth c hC hret
  have b22 : ∀ (fu : Nat) (h : Hp) (x3 : Int32) , jJ p l e (rmD 8) s m args below meth c 4 sb D ids shp St (fun r => MQ below (jQi sb D ids shp St n r) args s 0 0 (jA sb)) n 0 0 h 22 [(0, .ref 107), (3, .int x3)] [] (fX10_fits_22 fu h x3) := by
    intro fu 
    induction fu with
    | zero => intro h x3 ; exact j_none
    | succ fu ih =>
    intro h x3 
    rw [fX10_fits_22]
    refine j_iload_n hC 1 rfl rfl (dOk_at dt_X10_fits 16 rfl) ?_
    refine j_bipush hC (v := (60 : Int32)) rfl (dOk_at dt_X10_fits 17 rfl) ?_
    refine j_icmp_gt hC (tgt := 49) (by decide) (dOk_at dt_X10_fits 18 rfl) (fun q_5 => ?_) (fun q_5 => ?_)
    · refine j_iconst hC (v := (1 : Int32)) rfl (dOk_at dt_X10_fits 30 rfl) ?_
      exact j_zretK hC hret rfl (dOk_at dt_X10_fits 31 rfl)
    · refine j_aload_n hC 0 rfl rfl (dOk_at dt_X10_fits 19 rfl) ?_
      refine j_iconst hC (v := (1 : Int32)) rfl (dOk_at dt_X10_fits 20 rfl) ?_
      refine j_callVv hC clX10_462 (fun rz hrz => c_X10_nightGoes hN _ _ rz hrz) (show shp 107 = (10, 88) from rfl) (Nat.lt_of_lt_of_le (Nat.le_of_ble_eq_true rfl : 107 < 152) hN) (by decide) rfl rfl ⟨Nat.le_of_ble_eq_true rfl, Nat.le_of_ble_eq_true rfl⟩ ⟨Nat.le_refl 0, Nat.le_refl 0⟩ (As := [.int (1 : Int32)]) (st := []) rfl (Nat.le_of_ble_eq_true rfl) (dOk_at dt_X10_fits 21 rfl) (fun h_7 _ => ?_)
      refine j_aload_n hC 0 rfl rfl (dOk_at dt_X10_fits 22 rfl) ?_
      refine j_iload_n hC 1 rfl rfl (dOk_at dt_X10_fits 23 rfl) ?_
      refine j_callVi hC clX10_545 (fun rz hrz => c_X10_isSo hN _ _ rz hrz) (show shp 107 = (10, 88) from rfl) (Nat.lt_of_lt_of_le (Nat.le_of_ble_eq_true rfl : 107 < 152) hN) (by decide) rfl rfl ⟨Nat.le_of_ble_eq_true rfl, Nat.le_of_ble_eq_true rfl⟩ ⟨Nat.le_refl 0, Nat.le_refl 0⟩ (As := [.int x3]) (st := []) rfl (Nat.le_of_ble_eq_true rfl) (dOk_at dt_X10_fits 24 rfl) (fun v_8 h_9 _ => ?_)
      refine j_if_ne hC (tgt := 43) (by decide) (dOk_at dt_X10_fits 25 rfl) (fun q_10 => ?_) (fun q_10 => ?_)
      · refine j_iinc hC (v := (x3 + (1 : Int32))) (lv' := [(3, .int (x3 + (1 : Int32))), (0, .ref 107)]) 1 rfl (congrArg (fun z => x3 + z) (show Int32.ofInt (1) = (1 : Int32) from by decide)) (by decide) rfl (dOk_at dt_X10_fits 28 rfl) ?_
        refine j_goto hC (tgt := 22) (by decide) (dOk_at dt_X10_fits 29 rfl) ?_
        refine j_sub [1, 0] rfl ?_
        exact ih h_9 (x3 + (1 : Int32)) 
      · refine j_iconst hC (v := (0 : Int32)) rfl (dOk_at dt_X10_fits 26 rfl) ?_
        exact j_zretK hC hret rfl (dOk_at dt_X10_fits 27 rfl)
  unfold fX10_fits
  refine j_aload_n hC 0 rfl rfl (dOk_at dt_X10_fits 0 rfl) ?_
  refine j_iconst hC (v := (1 : Int32)) rfl (dOk_at dt_X10_fits 1 rfl) ?_
  refine j_callVv hC clX10_385 (fun rz hrz => c_X10_atFirst hN _ _ rz hrz) (show shp 107 = (10, 88) from rfl) (Nat.lt_of_lt_of_le (Nat.le_of_ble_eq_true rfl : 107 < 152) hN) (by decide) rfl rfl ⟨Nat.le_of_ble_eq_true rfl, Nat.le_of_ble_eq_true rfl⟩ ⟨Nat.le_refl 0, Nat.le_refl 0⟩ (As := [.int (1 : Int32)]) (st := []) rfl (Nat.le_of_ble_eq_true rfl) (dOk_at dt_X10_fits 2 rfl) (fun h_2 _ => ?_)
  refine j_aload_n hC 0 rfl rfl (dOk_at dt_X10_fits 3 rfl) ?_
  refine j_callVv hC clX10_392 (fun rz hrz => c_X10_plainTried hN _ rz hrz) (show shp 107 = (10, 88) from rfl) (Nat.lt_of_lt_of_le (Nat.le_of_ble_eq_true rfl : 107 < 152) hN) (by decide) rfl rfl ⟨Nat.le_of_ble_eq_true rfl, Nat.le_of_ble_eq_true rfl⟩ ⟨Nat.le_refl 0, Nat.le_refl 0⟩ (As := []) (st := []) rfl (Nat.le_of_ble_eq_true rfl) (dOk_at dt_X10_fits 4 rfl) (fun h_4 _ => ?_)
  refine j_aload_n hC 0 rfl rfl (dOk_at dt_X10_fits 5 rfl) ?_
  refine j_getR hC flX10_109 (show shp 107 = (10, 88) from rfl) (Nat.lt_of_lt_of_le (Nat.le_of_ble_eq_true rfl : 107 < 152) hN) (by decide) (by decide) (fun _ _ _ => rfl) (fun hs => hs 107 62 139 rfl) (dOk_at dt_X10_fits 6 rfl) ?_
  refine j_iconst hC (v := (5 : Int32)) rfl (dOk_at dt_X10_fits 7 rfl) ?_
  refine j_iload_n hC 1 rfl rfl (dOk_at dt_X10_fits 8 rfl) ?_
  refine j_iadd hC (dOk_at dt_X10_fits 9 rfl) ?_
  refine j_iconst hC (v := (1 : Int32)) rfl (dOk_at dt_X10_fits 10 rfl) ?_
  refine j_iload_n hC 2 rfl rfl (dOk_at dt_X10_fits 11 rfl) ?_
  refine j_ishl hC (dOk_at dt_X10_fits 12 rfl) ?_
  refine j_iast hC St_SP (show shp 139 = (21, 10) from rfl) (Nat.lt_of_lt_of_le (Nat.le_of_ble_eq_true rfl : 139 < 152) hN) (dOk_at dt_X10_fits 13 rfl) ?_
  refine j_iconst hC (v := (1 : Int32)) rfl (dOk_at dt_X10_fits 14 rfl) ?_
  refine j_istore_n hC rfl (lv' := [(3, .int (1 : Int32)), (0, .ref 107), (1, .int x1), (2, .int x2)]) (by decide) rfl (dOk_at dt_X10_fits 15 rfl) ?_
  refine j_sub [1, 0] rfl ?_
  exact b22 FU (uI h_4 139 (Int32.toNatClampNeg ((5 : Int32) + x1)) ((1 : Int32) <<< (x2 &&& 31))) (1 : Int32) 
def tb_X10_heldBits : List (Nat × Instr × Nat) := [(0, .iconst 0, 1), (1, .istore_n 2, 1), (2, .iload_n 2, 1), (3, .aload_n 0, 1), (4, .invokevirtual 542, 3), (7, .if_icmp .ge 16, 3), (10, .aload_n 0, 1), (11, .getfield 139, 3), (14, .iload_n 2, 1), (15, .iconst 1, 1), (16, .bastore, 1), (17, .iinc 2 1, 3), (20, .goto (-18), 3), (23, .aload_n 0, 1), (24, .invokevirtual 542, 3), (27, .iconst 1, 1), (28, .isub, 1), (29, .istore_n 2, 1), (30, .iload_n 2, 1), (31, .ifCond .lt 45, 3), (34, .aload_n 0, 1), (35, .getfield 139, 3), (38, .iload_n 2, 1), (39, .baload, 1), (40, .ifCond .eq 30, 3), (43, .aload_n 0, 1), (44, .getfield 136, 3), (47, .iconst 4, 1), (48, .iload_n 2, 1), (49, .imul, 1), (50, .iaload, 1), (51, .ifCond .ge 19, 3), (54, .aload_n 0, 1), (55, .getfield 139, 3), (58, .aload_n 0, 1), (59, .getfield 136, 3), (62, .iconst 4, 1), (63, .iload_n 2, 1), (64, .imul, 1), (65, .iconst 1, 1), (66, .iadd, 1), (67, .iaload, 1), (68, .iconst 0, 1), (69, .bastore, 1), (70, .iinc 2 (-1), 3), (73, .goto (-43), 3), (76, .iconst 0, 1), (77, .istore_n 2, 1), (78, .iconst 0, 1), (79, .istore_n 3, 1), (80, .iload_n 3, 1), (81, .aload_n 0, 1), (82, .getfield 243, 3), (85, .if_icmp .ge 28, 3), (88, .iload_n 2, 1), (89, .aload_n 0, 1), (90, .iload_n 1, 1), (91, .iload_n 3, 1), (92, .invokevirtual 548, 3), (95, .ifCond .eq 9, 3), (98, .iconst 1, 1), (99, .iload_n 3, 1), (100, .ishl, 1), (101, .goto 4, 3), (104, .iconst 0, 1), (105, .ior, 1), (106, .istore_n 2, 1), (107, .iinc 3 1, 3), (110, .goto (-30), 3), (113, .iload_n 2, 1), (114, .ireturn, 1)]
theorem dt_X10_heldBits : dOk cX10_heldBits tb_X10_heldBits = true := by decide +kernel
def fX10_heldBits_105 (rec80 : Hp → Int32 → Int32 → Int32 → Option (Int32 × Hp)) (h : Hp) (x1 : Int32) (x3 : Int32) (s0 : Int32) (s1 : Int32) : Option (Int32 × Hp) := rec80 h x1 (s0 ||| s1) (x3 + (1 : Int32))
def fX10_heldBits_80 : Nat → Hp → Int32 → Int32 → Int32 → Option (Int32 × Hp)
  | 0, _, _, _, _ => none
  | fu + 1, h, x1, x2, x3 => if (hI h 107 12) ≤ x3 then (some (x2, h)) else (bnd (fX10_fits h x1 x3) (fun v_10 h_11 => if v_10 = 0 then (fX10_heldBits_105 (fX10_heldBits_80 fu) h_11 x1 x3 x2 (0 : Int32)) else (fX10_heldBits_105 (fX10_heldBits_80 fu) h_11 x1 x3 x2 ((1 : Int32) <<< (x3 &&& 31)))))
def fX10_heldBits_70 (rec30 : Hp → Int32 → Int32 → Option (Int32 × Hp)) (h : Hp) (x1 : Int32) (x2 : Int32) : Option (Int32 × Hp) := rec30 h x1 (x2 + (-1 : Int32))
def fX10_heldBits_30 : Nat → Hp → Int32 → Int32 → Option (Int32 × Hp)
  | 0, _, _, _ => none
  | fu + 1, h, x1, x2 => if x2 < 0 then (fX10_heldBits_80 FU h x1 (0 : Int32) (0 : Int32)) else (if inb x2 24 then (if (hI h 148 (Int32.toNatClampNeg x2)) = 0 then (fX10_heldBits_70 (fX10_heldBits_30 fu) h x1 x2) else (if inb ((4 : Int32) * x2) 96 then (if 0 ≤ (hI h 147 (Int32.toNatClampNeg ((4 : Int32) * x2))) then (fX10_heldBits_70 (fX10_heldBits_30 fu) h x1 x2) else (if inb (((4 : Int32) * x2) + (1 : Int32)) 96 then (if inb (hI h 147 (Int32.toNatClampNeg (((4 : Int32) * x2) + (1 : Int32)))) 24 then (fX10_heldBits_70 (fX10_heldBits_30 fu) (uI h 148 (Int32.toNatClampNeg (hI h 147 (Int32.toNatClampNeg (((4 : Int32) * x2) + (1 : Int32))))) (0 : Int32)) x1 x2) else none) else none)) else none)) else none)
def fX10_heldBits_2 : Nat → Hp → Int32 → Int32 → Option (Int32 × Hp)
  | 0, _, _, _ => none
  | fu + 1, h, x1, x2 => bnd (fX10_knownBy h) (fun v_1 h_2 => if v_1 ≤ x2 then (bnd (fX10_knownBy h_2) (fun v_4 h_5 => fX10_heldBits_30 FU h_5 x1 (v_4 - (1 : Int32)))) else (if inb x2 24 then ((fX10_heldBits_2 fu) (uI h_2 148 (Int32.toNatClampNeg x2) (1 : Int32)) x1 (x2 + (1 : Int32))) else none))
def fX10_heldBits (h : Hp) (x1 : Int32) : Option (Int32 × Hp) := fX10_heldBits_2 FU h x1 (0 : Int32)
set_option maxRecDepth 100000 in
set_option maxHeartbeats 4000000 in
theorem c_X10_heldBits {l : Launch} {sb : State} {D : va_G} {ids : Nat → ClassId} {n : Nat} (hN : 152 ≤ n) (h : Hp) (x1 : Int32) (r : Int32 × Hp) (hr : fX10_heldBits h x1 = some r) : jM l yX10_heldBits cX10_heldBits 4 (some .int) 9 sb D ids shp St n [.ref 107, .int x1] h (jQi sb D ids shp St n r) := by
  refine jM_of hr rfl (Nat.le_of_ble_eq_true rfl) ?_
  intro p e s m args below meth c hC hret
  have b105 : ∀ (rec80 : Hp → Int32 → Int32 → Int32 → Option (Int32 × Hp)) (hrec80 : ∀ (h : Hp) (x1 : Int32) (x2 : Int32) (x3 : Int32) , jJ p l e (rmD 9) s m args below meth c 4 sb D ids shp St (fun r => MQ below (jQi sb D ids shp St n r) args s 0 0 (jA sb)) n 0 0 h 80 [(0, .ref 107), (1, .int x1), (2, .int x2), (3, .int x3)] [] (rec80 h x1 x2 x3)) (h : Hp) (x1 : Int32) (x3 : Int32) (s0 : Int32) (s1 : Int32) , jJ p l e (rmD 9) s m args below meth c 4 sb D ids shp St (fun r => MQ below (jQi sb D ids shp St n r) args s 0 0 (jA sb)) n 0 0 h 105 [(0, .ref 107), (1, .int x1), (3, .int x3)] [.int s1, .int s0] (fX10_heldBits_105 rec80 h x1 x3 s0 s1) := by
    intro rec80 hrec80 h x1 x3 s0 s1 
    unfold fX10_heldBits_105
    refine j_ior hC (dOk_at dt_X10_heldBits 65 rfl) ?_
    refine j_istore_n hC rfl (lv' := [(2, .int (s0 ||| s1)), (0, .ref 107), (1, .int x1), (3, .int x3)]) (by decide) rfl (dOk_at dt_X10_heldBits 66 rfl) ?_
    refine j_iinc hC (v := (x3 + (1 : Int32))) (lv' := [(3, .int (x3 + (1 : Int32))), (2, .int (s0 ||| s1)), (0, .ref 107), (1, .int x1)]) 3 rfl (congrArg (fun z => x3 + z) (show Int32.ofInt (1) = (1 : Int32) from by decide)) (by decide) rfl (dOk_at dt_X10_heldBits 67 rfl) ?_
    refine j_goto hC (tgt := 80) (by decide) (dOk_at dt_X10_heldBits 68 rfl) ?_
    refine j_sub [2, 3, 1, 0] rfl ?_
    exact hrec80 h x1 (s0 ||| s1) (x3 + (1 : Int32)) 
  have b80 : ∀ (fu : Nat) (h : Hp) (x1 : Int32) (x2 : Int32) (x3 : Int32) , jJ p l e (rmD 9) s m args below meth c 4 sb D ids shp St (fun r => MQ below (jQi sb D ids shp St n r) args s 0 0 (jA sb)) n 0 0 h 80 [(0, .ref 107), (1, .int x1), (2, .int x2), (3, .int x3)] [] (fX10_heldBits_80 fu h x1 x2 x3) := by
    intro fu 
    induction fu with
    | zero => intro h x1 x2 x3 ; exact j_none
    | succ fu ih =>
    intro h x1 x2 x3 
    rw [fX10_heldBits_80]
    refine j_iload_n hC 3 rfl rfl (dOk_at dt_X10_heldBits 50 rfl) ?_
    refine j_aload_n hC 0 rfl rfl (dOk_at dt_X10_heldBits 51 rfl) ?_
    refine j_getI hC flX10_243 (show shp 107 = (10, 88) from rfl) (Nat.lt_of_lt_of_le (Nat.le_of_ble_eq_true rfl : 107 < 152) hN) (by decide) (by decide) (fun _ _ _ => rfl) (dOk_at dt_X10_heldBits 52 rfl) ?_
    refine j_icmp_ge hC (tgt := 113) (by decide) (dOk_at dt_X10_heldBits 53 rfl) (fun q_9 => ?_) (fun q_9 => ?_)
    · refine j_iload_n hC 2 rfl rfl (dOk_at dt_X10_heldBits 69 rfl) ?_
      exact j_iret hC hret (dOk_at dt_X10_heldBits 70 rfl)
    · refine j_iload_n hC 2 rfl rfl (dOk_at dt_X10_heldBits 54 rfl) ?_
      refine j_aload_n hC 0 rfl rfl (dOk_at dt_X10_heldBits 55 rfl) ?_
      refine j_iload_n hC 1 rfl rfl (dOk_at dt_X10_heldBits 56 rfl) ?_
      refine j_iload_n hC 3 rfl rfl (dOk_at dt_X10_heldBits 57 rfl) ?_
      refine j_callVi hC clX10_548 (fun rz hrz => c_X10_fits hN _ _ _ rz hrz) (show shp 107 = (10, 88) from rfl) (Nat.lt_of_lt_of_le (Nat.le_of_ble_eq_true rfl : 107 < 152) hN) (by decide) rfl rfl ⟨Nat.le_of_ble_eq_true rfl, Nat.le_of_ble_eq_true rfl⟩ ⟨Nat.le_refl 0, Nat.le_refl 0⟩ (As := [.int x1, .int x3]) (st := [.int x2]) rfl (Nat.le_of_ble_eq_true rfl) (dOk_at dt_X10_heldBits 58 rfl) (fun v_10 h_11 _ => ?_)
      refine j_if_eq hC (tgt := 104) (by decide) (dOk_at dt_X10_heldBits 59 rfl) (fun q_12 => ?_) (fun q_12 => ?_)
      · refine j_iconst hC (v := (0 : Int32)) rfl (dOk_at dt_X10_heldBits 64 rfl) ?_
        refine j_sub [0, 1, 3] rfl ?_
        exact b105 (fX10_heldBits_80 fu) ih h_11 x1 x3 x2 (0 : Int32) 
      · refine j_iconst hC (v := (1 : Int32)) rfl (dOk_at dt_X10_heldBits 60 rfl) ?_
        refine j_iload_n hC 3 rfl rfl (dOk_at dt_X10_heldBits 61 rfl) ?_
        refine j_ishl hC (dOk_at dt_X10_heldBits 62 rfl) ?_
        refine j_goto hC (tgt := 105) (by decide) (dOk_at dt_X10_heldBits 63 rfl) ?_
        refine j_sub [0, 1, 3] rfl ?_
        exact b105 (fX10_heldBits_80 fu) ih h_11 x1 x3 x2 ((1 : Int32) <<< (x3 &&& 31)) 
  have b70 : ∀ (rec30 : Hp → Int32 → Int32 → Option (Int32 × Hp)) (hrec30 : ∀ (h : Hp) (x1 : Int32) (x2 : Int32) , jJ p l e (rmD 9) s m args below meth c 4 sb D ids shp St (fun r => MQ below (jQi sb D ids shp St n r) args s 0 0 (jA sb)) n 0 0 h 30 [(0, .ref 107), (1, .int x1), (2, .int x2)] [] (rec30 h x1 x2)) (h : Hp) (x1 : Int32) (x2 : Int32) , jJ p l e (rmD 9) s m args below meth c 4 sb D ids shp St (fun r => MQ below (jQi sb D ids shp St n r) args s 0 0 (jA sb)) n 0 0 h 70 [(0, .ref 107), (1, .int x1), (2, .int x2)] [] (fX10_heldBits_70 rec30 h x1 x2) := by
    intro rec30 hrec30 h x1 x2 
    unfold fX10_heldBits_70
    refine j_iinc hC (v := (x2 + (-1 : Int32))) (lv' := [(2, .int (x2 + (-1 : Int32))), (0, .ref 107), (1, .int x1)]) 2 rfl (congrArg (fun z => x2 + z) (show Int32.ofInt (-1) = (-1 : Int32) from by decide)) (by decide) rfl (dOk_at dt_X10_heldBits 44 rfl) ?_
    refine j_goto hC (tgt := 30) (by decide) (dOk_at dt_X10_heldBits 45 rfl) ?_
    refine j_sub [1, 2, 0] rfl ?_
    exact hrec30 h x1 (x2 + (-1 : Int32)) 
  have b30 : ∀ (fu : Nat) (h : Hp) (x1 : Int32) (x2 : Int32) , jJ p l e (rmD 9) s m args below meth c 4 sb D ids shp St (fun r => MQ below (jQi sb D ids shp St n r) args s 0 0 (jA sb)) n 0 0 h 30 [(0, .ref 107), (1, .int x1), (2, .int x2)] [] (fX10_heldBits_30 fu h x1 x2) := by
    intro fu 
    induction fu with
    | zero => intro h x1 x2 ; exact j_none
    | succ fu ih =>
    intro h x1 x2 
    rw [fX10_heldBits_30]
    refine j_iload_n hC 2 rfl rfl (dOk_at dt_X10_heldBits 18 rfl) ?_
    refine j_if_lt hC (tgt := 76) (by decide) (dOk_at dt_X10_heldBits 19 rfl) (fun q_6 => ?_) (fun q_6 => ?_)
    · refine j_iconst hC (v := (0 : Int32)) rfl (dOk_at dt_X10_heldBits 46 rfl) ?_
      refine j_istore_n hC rfl (lv' := [(2, .int (0 : Int32)), (0, .ref 107), (1, .int x1)]) (by decide) rfl (dOk_at dt_X10_heldBits 47 rfl) ?_
      refine j_iconst hC (v := (0 : Int32)) rfl (dOk_at dt_X10_heldBits 48 rfl) ?_
      refine j_istore_n hC rfl (lv' := [(3, .int (0 : Int32)), (2, .int (0 : Int32)), (0, .ref 107), (1, .int x1)]) (by decide) rfl (dOk_at dt_X10_heldBits 49 rfl) ?_
      refine j_sub [2, 3, 1, 0] rfl ?_
      exact b80 FU h x1 (0 : Int32) (0 : Int32) 
    · refine j_aload_n hC 0 rfl rfl (dOk_at dt_X10_heldBits 20 rfl) ?_
      refine j_getR hC flX10_139 (show shp 107 = (10, 88) from rfl) (Nat.lt_of_lt_of_le (Nat.le_of_ble_eq_true rfl : 107 < 152) hN) (by decide) (by decide) (fun _ _ _ => rfl) (fun hs => hs 107 79 148 rfl) (dOk_at dt_X10_heldBits 21 rfl) ?_
      refine j_iload_n hC 2 rfl rfl (dOk_at dt_X10_heldBits 22 rfl) ?_
      refine j_zald hC (show shp 148 = (23, 24) from rfl) (Nat.lt_of_lt_of_le (Nat.le_of_ble_eq_true rfl : 148 < 152) hN) (dOk_at dt_X10_heldBits 23 rfl) ?_
      refine j_if_eq hC (tgt := 70) (by decide) (dOk_at dt_X10_heldBits 24 rfl) (fun q_7 => ?_) (fun q_7 => ?_)
      · exact b70 (fX10_heldBits_30 fu) ih h x1 x2 
      · refine j_aload_n hC 0 rfl rfl (dOk_at dt_X10_heldBits 25 rfl) ?_
        refine j_getR hC flX10_136 (show shp 107 = (10, 88) from rfl) (Nat.lt_of_lt_of_le (Nat.le_of_ble_eq_true rfl : 107 < 152) hN) (by decide) (by decide) (fun _ _ _ => rfl) (fun hs => hs 107 78 147 rfl) (dOk_at dt_X10_heldBits 26 rfl) ?_
        refine j_iconst hC (v := (4 : Int32)) rfl (dOk_at dt_X10_heldBits 27 rfl) ?_
        refine j_iload_n hC 2 rfl rfl (dOk_at dt_X10_heldBits 28 rfl) ?_
        refine j_imul hC (dOk_at dt_X10_heldBits 29 rfl) ?_
        refine j_iald hC (show shp 147 = (21, 96) from rfl) (Nat.lt_of_lt_of_le (Nat.le_of_ble_eq_true rfl : 147 < 152) hN) (dOk_at dt_X10_heldBits 30 rfl) ?_
        refine j_if_ge hC (tgt := 70) (by decide) (dOk_at dt_X10_heldBits 31 rfl) (fun q_8 => ?_) (fun q_8 => ?_)
        · exact b70 (fX10_heldBits_30 fu) ih h x1 x2 
        · refine j_aload_n hC 0 rfl rfl (dOk_at dt_X10_heldBits 32 rfl) ?_
          refine j_getR hC flX10_139 (show shp 107 = (10, 88) from rfl) (Nat.lt_of_lt_of_le (Nat.le_of_ble_eq_true rfl : 107 < 152) hN) (by decide) (by decide) (fun _ _ _ => rfl) (fun hs => hs 107 79 148 rfl) (dOk_at dt_X10_heldBits 33 rfl) ?_
          refine j_aload_n hC 0 rfl rfl (dOk_at dt_X10_heldBits 34 rfl) ?_
          refine j_getR hC flX10_136 (show shp 107 = (10, 88) from rfl) (Nat.lt_of_lt_of_le (Nat.le_of_ble_eq_true rfl : 107 < 152) hN) (by decide) (by decide) (fun _ _ _ => rfl) (fun hs => hs 107 78 147 rfl) (dOk_at dt_X10_heldBits 35 rfl) ?_
          refine j_iconst hC (v := (4 : Int32)) rfl (dOk_at dt_X10_heldBits 36 rfl) ?_
          refine j_iload_n hC 2 rfl rfl (dOk_at dt_X10_heldBits 37 rfl) ?_
          refine j_imul hC (dOk_at dt_X10_heldBits 38 rfl) ?_
          refine j_iconst hC (v := (1 : Int32)) rfl (dOk_at dt_X10_heldBits 39 rfl) ?_
          refine j_iadd hC (dOk_at dt_X10_heldBits 40 rfl) ?_
          refine j_iald hC (show shp 147 = (21, 96) from rfl) (Nat.lt_of_lt_of_le (Nat.le_of_ble_eq_true rfl : 147 < 152) hN) (dOk_at dt_X10_heldBits 41 rfl) ?_
          refine j_iconst hC (v := (0 : Int32)) rfl (dOk_at dt_X10_heldBits 42 rfl) ?_
          refine j_zast hC St_SP (show shp 148 = (23, 24) from rfl) (Nat.lt_of_lt_of_le (Nat.le_of_ble_eq_true rfl : 148 < 152) hN) rfl (dOk_at dt_X10_heldBits 43 rfl) ?_
          exact b70 (fX10_heldBits_30 fu) ih (uI h 148 (Int32.toNatClampNeg (hI h 147 (Int32.toNatClampNeg (((4 : Int32) * x2) + (1 : Int32))))) (0 : Int32)) x1 x2 
  have b2 : ∀ (fu : Nat) (h : Hp) (x1 : Int32) (x2 : Int32) , jJ p l e (rmD 9) s m args below meth c 4 sb D ids shp St (fun r => MQ below (jQi sb D ids shp St n r) args s 0 0 (jA sb)) n 0 0 h 2 [(0, .ref 107), (1, .int x1), (2, .int x2)] [] (fX10_heldBits_2 fu h x1 x2) := by
    intro fu 
    induction fu with
    | zero => intro h x1 x2 ; exact j_none
    | succ fu ih =>
    intro h x1 x2 
    rw [fX10_heldBits_2]
    refine j_iload_n hC 2 rfl rfl (dOk_at dt_X10_heldBits 2 rfl) ?_
    refine j_aload_n hC 0 rfl rfl (dOk_at dt_X10_heldBits 3 rfl) ?_
    refine j_callVi hC clX10_542 (fun rz hrz => c_X10_knownBy hN _ rz hrz) (show shp 107 = (10, 88) from rfl) (Nat.lt_of_lt_of_le (Nat.le_of_ble_eq_true rfl : 107 < 152) hN) (by decide) rfl rfl ⟨Nat.le_of_ble_eq_true rfl, Nat.le_of_ble_eq_true rfl⟩ ⟨Nat.le_refl 0, Nat.le_refl 0⟩ (As := []) (st := [.int x2]) rfl (Nat.le_of_ble_eq_true rfl) (dOk_at dt_X10_heldBits 4 rfl) (fun v_1 h_2 _ => ?_)
    refine j_icmp_ge hC (tgt := 23) (by decide) (dOk_at dt_X10_heldBits 5 rfl) (fun q_3 => ?_) (fun q_3 => ?_)
    · refine j_aload_n hC 0 rfl rfl (dOk_at dt_X10_heldBits 13 rfl) ?_
      refine j_callVi hC clX10_542 (fun rz hrz => c_X10_knownBy hN _ rz hrz) (show shp 107 = (10, 88) from rfl) (Nat.lt_of_lt_of_le (Nat.le_of_ble_eq_true rfl : 107 < 152) hN) (by decide) rfl rfl ⟨Nat.le_of_ble_eq_true rfl, Nat.le_of_ble_eq_true rfl⟩ ⟨Nat.le_refl 0, Nat.le_refl 0⟩ (As := []) (st := []) rfl (Nat.le_of_ble_eq_true rfl) (dOk_at dt_X10_heldBits 14 rfl) (fun v_4 h_5 _ => ?_)
      refine j_iconst hC (v := (1 : Int32)) rfl (dOk_at dt_X10_heldBits 15 rfl) ?_
      refine j_isub hC (dOk_at dt_X10_heldBits 16 rfl) ?_
      refine j_istore_n hC rfl (lv' := [(2, .int (v_4 - (1 : Int32))), (0, .ref 107), (1, .int x1)]) (by decide) rfl (dOk_at dt_X10_heldBits 17 rfl) ?_
      refine j_sub [1, 2, 0] rfl ?_
      exact b30 FU h_5 x1 (v_4 - (1 : Int32)) 
    · refine j_aload_n hC 0 rfl rfl (dOk_at dt_X10_heldBits 6 rfl) ?_
      refine j_getR hC flX10_139 (show shp 107 = (10, 88) from rfl) (Nat.lt_of_lt_of_le (Nat.le_of_ble_eq_true rfl : 107 < 152) hN) (by decide) (by decide) (fun _ _ _ => rfl) (fun hs => hs 107 79 148 rfl) (dOk_at dt_X10_heldBits 7 rfl) ?_
      refine j_iload_n hC 2 rfl rfl (dOk_at dt_X10_heldBits 8 rfl) ?_
      refine j_iconst hC (v := (1 : Int32)) rfl (dOk_at dt_X10_heldBits 9 rfl) ?_
      refine j_zast hC St_SP (show shp 148 = (23, 24) from rfl) (Nat.lt_of_lt_of_le (Nat.le_of_ble_eq_true rfl : 148 < 152) hN) rfl (dOk_at dt_X10_heldBits 10 rfl) ?_
      refine j_iinc hC (v := (x2 + (1 : Int32))) (lv' := [(2, .int (x2 + (1 : Int32))), (0, .ref 107), (1, .int x1)]) 2 rfl (congrArg (fun z => x2 + z) (show Int32.ofInt (1) = (1 : Int32) from by decide)) (by decide) rfl (dOk_at dt_X10_heldBits 11 rfl) ?_
      refine j_goto hC (tgt := 2) (by decide) (dOk_at dt_X10_heldBits 12 rfl) ?_
      refine j_sub [1, 2, 0] rfl ?_
      exact ih (uI h_2 148 (Int32.toNatClampNeg x2) (1 : Int32)) x1 (x2 + (1 : Int32)) 
  unfold fX10_heldBits
  refine j_iconst hC (v := (0 : Int32)) rfl (dOk_at dt_X10_heldBits 0 rfl) ?_
  refine j_istore_n hC rfl (lv' := [(2, .int (0 : Int32)), (0, .ref 107), (1, .int x1)]) (by decide) rfl (dOk_at dt_X10_heldBits 1 rfl) ?_
  refine j_sub [1, 2, 0] rfl ?_
  exact b2 FU h x1 (0 : Int32) 
def tb_X10_held : List (Nat × Instr × Nat) := [(0, .aload_n 0, 1), (1, .iconst 0, 1), (2, .putfield 157, 3), (5, .aload_n 0, 1), (6, .iload_n 1, 1), (7, .invokevirtual 480, 3), (10, .ifCond .eq 11, 3), (13, .aload_n 0, 1), (14, .iload_n 1, 1), (15, .invokevirtual 551, 3), (18, .goto 4, 3), (21, .iconst (-1), 1), (22, .ireturn, 1)]
theorem dt_X10_held : dOk cX10_held tb_X10_held = true := by decide +kernel
def fX10_held (h : Hp) (x1 : Int32) : Option (Int32 × Hp) := bnd (fX10_isMember (uI h 107 2 (0 : Int32)) x1) (fun v_1 h_2 => if v_1 = 0 then (some ((-1 : Int32), h_2)) else (bnd (fX10_heldBits h_2 x1) (fun v_4 h_5 => some (v_4, h_5))))
set_option maxRecDepth 100000 in
set_option maxHeartbeats 4000000 in
theorem c_X10_held {l : Launch} {sb : State} {D : va_G} {ids : Nat → ClassId} {n : Nat} (hN : 152 ≤ n) (h : Hp) (x1 : Int32) (r : Int32 × Hp) (hr : fX10_held h x1 = some r) : jM l yX10_held cX10_held 2 (some .int) 10 sb D ids shp St n [.ref 107, .int x1] h (jQi sb D ids shp St n r) := by
  refine jM_of hr rfl (Nat.le_of_ble_eq_true rfl) ?_
  intro p e s m args below meth c hC hret
  unfold fX10_held
  refine j_aload_n hC 0 rfl rfl (dOk_at dt_X10_held 0 rfl) ?_
  refine j_iconst hC (v := (0 : Int32)) rfl (dOk_at dt_X10_held 1 rfl) ?_
  refine j_putI hC St_SP flX10_157 (show shp 107 = (10, 88) from rfl) (Nat.lt_of_lt_of_le (Nat.le_of_ble_eq_true rfl : 107 < 152) hN) (by decide) (by decide) rfl rfl (dOk_at dt_X10_held 2 rfl) ?_
  refine j_aload_n hC 0 rfl rfl (dOk_at dt_X10_held 3 rfl) ?_
  refine j_iload_n hC 1 rfl rfl (dOk_at dt_X10_held 4 rfl) ?_
  refine j_callVi hC clX10_480 (fun rz hrz => c_X10_isMember hN _ _ rz hrz) (show shp 107 = (10, 88) from rfl) (Nat.lt_of_lt_of_le (Nat.le_of_ble_eq_true rfl : 107 < 152) hN) (by decide) rfl rfl ⟨Nat.le_of_ble_eq_true rfl, Nat.le_of_ble_eq_true rfl⟩ ⟨Nat.le_refl 0, Nat.le_refl 0⟩ (As := [.int x1]) (st := []) rfl (Nat.le_of_ble_eq_true rfl) (dOk_at dt_X10_held 5 rfl) (fun v_1 h_2 _ => ?_)
  refine j_if_eq hC (tgt := 21) (by decide) (dOk_at dt_X10_held 6 rfl) (fun q_3 => ?_) (fun q_3 => ?_)
  · refine j_iconst hC (v := (-1 : Int32)) rfl (dOk_at dt_X10_held 11 rfl) ?_
    exact j_iret hC hret (dOk_at dt_X10_held 12 rfl)
  · refine j_aload_n hC 0 rfl rfl (dOk_at dt_X10_held 7 rfl) ?_
    refine j_iload_n hC 1 rfl rfl (dOk_at dt_X10_held 8 rfl) ?_
    refine j_callVi hC clX10_551 (fun rz hrz => c_X10_heldBits hN _ _ rz hrz) (show shp 107 = (10, 88) from rfl) (Nat.lt_of_lt_of_le (Nat.le_of_ble_eq_true rfl : 107 < 152) hN) (by decide) rfl rfl ⟨Nat.le_of_ble_eq_true rfl, Nat.le_of_ble_eq_true rfl⟩ ⟨Nat.le_refl 0, Nat.le_refl 0⟩ (As := [.int x1]) (st := []) rfl (Nat.le_of_ble_eq_true rfl) (dOk_at dt_X10_held 9 rfl) (fun v_4 h_5 _ => ?_)
    refine j_goto hC (tgt := 22) (by decide) (dOk_at dt_X10_held 10 rfl) ?_
    exact j_iret hC hret (dOk_at dt_X10_held 12 rfl)
def tb_X10_ask : List (Nat × Instr × Nat) := [(0, .aload_n 0, 1), (1, .iconst 0, 1), (2, .putfield 157, 3), (5, .aload_n 0, 1), (6, .iload_n 1, 1), (7, .invokevirtual 480, 3), (10, .ifCond .eq 12, 3), (13, .iload_n 2, 1), (14, .iconst 0, 1), (15, .iconst 1, 1), (16, .invokestatic 202, 3), (19, .ifCond .ne 5, 3), (22, .iconst (-1), 1), (23, .ireturn, 1), (24, .aload_n 0, 1), (25, .iload_n 1, 1), (26, .invokevirtual 551, 3), (29, .istore_n 3, 1), (30, .iconst 0, 1), (31, .istore 4, 2), (33, .iconst (-1), 1), (34, .istore 5, 2), (36, .iconst 0, 1), (37, .istore 6, 2), (39, .iload 6, 2), (41, .bipush 100, 2), (43, .if_icmp .ge 109, 3), (46, .iconst 0, 1), (47, .istore 7, 2), (49, .iconst 0, 1), (50, .istore 8, 2), (52, .iload 8, 2), (54, .aload_n 0, 1), (55, .getfield 243, 3), (58, .if_icmp .ge 40, 3), (61, .iload 7, 2), (63, .iload_n 3, 1), (64, .iload 8, 2), (66, .invokestatic 282, 3), (69, .ifCond .eq 19, 3), (72, .aload_n 0, 1), (73, .getfield 30, 3), (76, .iload 8, 2), (78, .iaload, 1), (79, .iload 6, 2), (81, .if_icmp .lt 7, 3), (84, .iconst 1, 1), (85, .goto 4, 3), (88, .iconst 0, 1), (89, .iadd, 1), (90, .istore 7, 2), (92, .iinc 8 1, 3), (95, .goto (-43), 3), (98, .iload_n 3, 1), (99, .invokestatic 423, 3), (102, .iload 7, 2), (104, .isub, 1), (105, .istore 8, 2), (107, .iload 7, 2), (109, .iload 8, 2), (111, .if_icmp .le 8, 3), (114, .iload 7, 2), (116, .goto 5, 3), (119, .iload 8, 2), (121, .istore 9, 2), (123, .iload 5, 2), (125, .ifCond .lt 13, 3), (128, .iload 9, 2), (130, .iload 5, 2), (132, .if_icmp .lt 6, 3), (135, .goto 11, 3), (138, .iload 6, 2), (140, .istore 4, 2), (142, .iload 9, 2), (144, .istore 5, 2), (146, .iinc 6 1, 3), (149, .goto (-110), 3), (152, .iload_n 2, 1), (153, .ifCond .ne 8, 3), (156, .iload 4, 2), (158, .goto 5, 3), (161, .iload 5, 2), (163, .ireturn, 1)]
theorem dt_X10_ask : dOk cX10_ask tb_X10_ask = true := by decide +kernel
def fX10_ask_146 (rec39 : Hp → Int32 → Int32 → Int32 → Int32 → Int32 → Option (Int32 × Hp)) (h : Hp) (x2 : Int32) (x3 : Int32) (x4 : Int32) (x5 : Int32) (x6 : Int32) : Option (Int32 × Hp) := rec39 h x2 x3 x4 x5 (x6 + (1 : Int32))
def fX10_ask_138 (rec39 : Hp → Int32 → Int32 → Int32 → Int32 → Int32 → Option (Int32 × Hp)) (h : Hp) (x2 : Int32) (x3 : Int32) (x6 : Int32) (x9 : Int32) : Option (Int32 × Hp) := fX10_ask_146 rec39 h x2 x3 x6 x9 x6
def fX10_ask_121 (rec39 : Hp → Int32 → Int32 → Int32 → Int32 → Int32 → Option (Int32 × Hp)) (h : Hp) (x2 : Int32) (x3 : Int32) (x4 : Int32) (x5 : Int32) (x6 : Int32) (s0 : Int32) : Option (Int32 × Hp) := if x5 < 0 then (fX10_ask_138 rec39 h x2 x3 x6 s0) else (if s0 < x5 then (fX10_ask_138 rec39 h x2 x3 x6 s0) else (fX10_ask_146 rec39 h x2 x3 x4 x5 x6))
def fX10_ask_89 (rec39 : Hp → Int32 → Int32 → Int32 → Int32 → Int32 → Option (Int32 × Hp)) (rec52 : Hp → Int32 → Int32 → Int32 → Int32 → Int32 → Int32 → Int32 → Option (Int32 × Hp)) (h : Hp) (x2 : Int32) (x3 : Int32) (x4 : Int32) (x5 : Int32) (x6 : Int32) (x8 : Int32) (s0 : Int32) (s1 : Int32) : Option (Int32 × Hp) := rec52 h x2 x3 x4 x5 x6 (s0 + s1) (x8 + (1 : Int32))
def fX10_ask_88 (rec39 : Hp → Int32 → Int32 → Int32 → Int32 → Int32 → Option (Int32 × Hp)) (rec52 : Hp → Int32 → Int32 → Int32 → Int32 → Int32 → Int32 → Int32 → Option (Int32 × Hp)) (h : Hp) (x2 : Int32) (x3 : Int32) (x4 : Int32) (x5 : Int32) (x6 : Int32) (x8 : Int32) (s0 : Int32) : Option (Int32 × Hp) := fX10_ask_89 rec39 rec52 h x2 x3 x4 x5 x6 x8 s0 (0 : Int32)
def fX10_ask_52 : Nat → (Hp → Int32 → Int32 → Int32 → Int32 → Int32 → Option (Int32 × Hp)) → Hp → Int32 → Int32 → Int32 → Int32 → Int32 → Int32 → Int32 → Option (Int32 × Hp)
  | 0, _, _, _, _, _, _, _, _, _ => none
  | fu + 1, rec39, h, x2, x3, x4, x5, x6, x7, x8 => if (hI h 107 12) ≤ x8 then (bnd (fX10_manyOf h x3) (fun v_12 h_13 => if x7 ≤ (v_12 - x7) then (fX10_ask_121 rec39 h_13 x2 x3 x4 x5 x6 (v_12 - x7)) else (fX10_ask_121 rec39 h_13 x2 x3 x4 x5 x6 x7))) else (bnd (fX10_isOf h x3 x8) (fun v_15 h_16 => if v_15 = 0 then (fX10_ask_88 rec39 (fX10_ask_52 fu rec39) h_16 x2 x3 x4 x5 x6 x8 x7) else (if inb x8 16 then (if (hI h_16 113 (Int32.toNatClampNeg x8)) < x6 then (fX10_ask_88 rec39 (fX10_ask_52 fu rec39) h_16 x2 x3 x4 x5 x6 x8 x7) else (fX10_ask_89 rec39 (fX10_ask_52 fu rec39) h_16 x2 x3 x4 x5 x6 x8 x7 (1 : Int32))) else none)))
def fX10_ask_39 : Nat → Hp → Int32 → Int32 → Int32 → Int32 → Int32 → Option (Int32 × Hp)
  | 0, _, _, _, _, _, _ => none
  | fu + 1, h, x2, x3, x4, x5, x6 => if (100 : Int32) ≤ x6 then (if x2 = 0 then (some (x4, h)) else (some (x5, h))) else (fX10_ask_52 FU (fX10_ask_39 fu) h x2 x3 x4 x5 x6 (0 : Int32) (0 : Int32))
def fX10_ask (h : Hp) (x1 : Int32) (x2 : Int32) : Option (Int32 × Hp) := bnd (fX10_isMember (uI h 107 2 (0 : Int32)) x1) (fun v_1 h_2 => if v_1 = 0 then (some ((-1 : Int32), h_2)) else (bnd (fX10_isIn h_2 x2 (0 : Int32) (1 : Int32)) (fun v_4 h_5 => if v_4 = 0 then (some ((-1 : Int32), h_5)) else (bnd (fX10_heldBits h_5 x1) (fun v_7 h_8 => fX10_ask_39 FU h_8 x2 v_7 (0 : Int32) (-1 : Int32) (0 : Int32))))))
set_option maxRecDepth 100000 in
set_option maxHeartbeats 4000000 in
theorem c_X10_ask {l : Launch} {sb : State} {D : va_G} {ids : Nat → ClassId} {n : Nat} (hN : 152 ≤ n) (h : Hp) (x1 : Int32) (x2 : Int32) (r : Int32 × Hp) (hr : fX10_ask h x1 x2 = some r) : jM l yX10_ask cX10_ask 10 (some .int) 10 sb D ids shp St n [.ref 107, .int x1, .int x2] h (jQi sb D ids shp St n r) := by
  refine jM_of hr rfl (Nat.le_of_ble_eq_true rfl) ?_
  intro p e s m args below meth c hC hret
  have b146 : ∀ (rec39 : Hp → Int32 → Int32 → Int32 → Int32 → Int32 → Option (Int32 × Hp)) (hrec39 : ∀ (h : Hp) (x2 : Int32) (x3 : Int32) (x4 : Int32) (x5 : Int32) (x6 : Int32) , jJ p l e (rmD 10) s m args below meth c 10 sb D ids shp St (fun r => MQ below (jQi sb D ids shp St n r) args s 0 0 (jA sb)) n 0 0 h 39 [(0, .ref 107), (2, .int x2), (3, .int x3), (4, .int x4), (5, .int x5), (6, .int x6)] [] (rec39 h x2 x3 x4 x5 x6)) (h : Hp) (x2 : Int32) (x3 : Int32) (x4 : Int32) (x5 : Int32) (x6 : Int32) , jJ p l e (rmD 10) s m args below meth c 10 sb D ids shp St (fun r => MQ below (jQi sb D ids shp St n r) args s 0 0 (jA sb)) n 0 0 h 146 [(0, .ref 107), (2, .int x2), (3, .int x3), (4, .int x4), (5, .int x5), (6, .int x6)] [] (fX10_ask_146 rec39 h x2 x3 x4 x5 x6) := by
    intro rec39 hrec39 h x2 x3 x4 x5 x6 
    unfold fX10_ask_146
    refine j_iinc hC (v := (x6 + (1 : Int32))) (lv' := [(6, .int (x6 + (1 : Int32))), (0, .ref 107), (2, .int x2), (3, .int x3), (4, .int x4), (5, .int x5)]) 5 rfl (congrArg (fun z => x6 + z) (show Int32.ofInt (1) = (1 : Int32) from by decide)) (by decide) rfl (dOk_at dt_X10_ask 75 rfl) ?_
    refine j_goto hC (tgt := 39) (by decide) (dOk_at dt_X10_ask 76 rfl) ?_
    refine j_sub [1, 2, 3, 4, 5, 0] rfl ?_
    exact hrec39 h x2 x3 x4 x5 (x6 + (1 : Int32)) 
  have b138 : ∀ (rec39 : Hp → Int32 → Int32 → Int32 → Int32 → Int32 → Option (Int32 × Hp)) (hrec39 : ∀ (h : Hp) (x2 : Int32) (x3 : Int32) (x4 : Int32) (x5 : Int32) (x6 : Int32) , jJ p l e (rmD 10) s m args below meth c 10 sb D ids shp St (fun r => MQ below (jQi sb D ids shp St n r) args s 0 0 (jA sb)) n 0 0 h 39 [(0, .ref 107), (2, .int x2), (3, .int x3), (4, .int x4), (5, .int x5), (6, .int x6)] [] (rec39 h x2 x3 x4 x5 x6)) (h : Hp) (x2 : Int32) (x3 : Int32) (x6 : Int32) (x9 : Int32) , jJ p l e (rmD 10) s m args below meth c 10 sb D ids shp St (fun r => MQ below (jQi sb D ids shp St n r) args s 0 0 (jA sb)) n 0 0 h 138 [(0, .ref 107), (2, .int x2), (3, .int x3), (6, .int x6), (9, .int x9)] [] (fX10_ask_138 rec39 h x2 x3 x6 x9) := by
    intro rec39 hrec39 h x2 x3 x6 x9 
    unfold fX10_ask_138
    refine j_iload hC 3 rfl (dOk_at dt_X10_ask 71 rfl) ?_
    refine j_istore hC (lv' := [(4, .int x6), (0, .ref 107), (2, .int x2), (3, .int x3), (6, .int x6), (9, .int x9)]) (by decide) rfl (dOk_at dt_X10_ask 72 rfl) ?_
    refine j_iload hC 5 rfl (dOk_at dt_X10_ask 73 rfl) ?_
    refine j_istore hC (lv' := [(5, .int x9), (4, .int x6), (0, .ref 107), (2, .int x2), (3, .int x3), (6, .int x6), (9, .int x9)]) (by decide) rfl (dOk_at dt_X10_ask 74 rfl) ?_
    refine j_sub [2, 3, 4, 1, 0, 5] rfl ?_
    exact b146 rec39 hrec39 h x2 x3 x6 x9 x6 
  have b121 : ∀ (rec39 : Hp → Int32 → Int32 → Int32 → Int32 → Int32 → Option (Int32 × Hp)) (hrec39 : ∀ (h : Hp) (x2 : Int32) (x3 : Int32) (x4 : Int32) (x5 : Int32) (x6 : Int32) , jJ p l e (rmD 10) s m args below meth c 10 sb D ids shp St (fun r => MQ below (jQi sb D ids shp St n r) args s 0 0 (jA sb)) n 0 0 h 39 [(0, .ref 107), (2, .int x2), (3, .int x3), (4, .int x4), (5, .int x5), (6, .int x6)] [] (rec39 h x2 x3 x4 x5 x6)) (h : Hp) (x2 : Int32) (x3 : Int32) (x4 : Int32) (x5 : Int32) (x6 : Int32) (s0 : Int32) , jJ p l e (rmD 10) s m args below meth c 10 sb D ids shp St (fun r => MQ below (jQi sb D ids shp St n r) args s 0 0 (jA sb)) n 0 0 h 121 [(0, .ref 107), (2, .int x2), (3, .int x3), (4, .int x4), (5, .int x5), (6, .int x6)] [.int s0] (fX10_ask_121 rec39 h x2 x3 x4 x5 x6 s0) := by
    intro rec39 hrec39 h x2 x3 x4 x5 x6 s0 
    unfold fX10_ask_121
    refine j_istore hC (lv' := [(9, .int s0), (0, .ref 107), (2, .int x2), (3, .int x3), (4, .int x4), (5, .int x5), (6, .int x6)]) (by decide) rfl (dOk_at dt_X10_ask 64 rfl) ?_
    refine j_iload hC 5 rfl (dOk_at dt_X10_ask 65 rfl) ?_
    refine j_if_lt hC (tgt := 138) (by decide) (dOk_at dt_X10_ask 66 rfl) (fun q_19 => ?_) (fun q_19 => ?_)
    · refine j_sub [1, 2, 3, 6, 0] rfl ?_
      exact b138 rec39 hrec39 h x2 x3 x6 s0 
    · refine j_iload hC 0 rfl (dOk_at dt_X10_ask 67 rfl) ?_
      refine j_iload hC 5 rfl (dOk_at dt_X10_ask 68 rfl) ?_
      refine j_icmp_lt hC (tgt := 138) (by decide) (dOk_at dt_X10_ask 69 rfl) (fun q_20 => ?_) (fun q_20 => ?_)
      · refine j_sub [1, 2, 3, 6, 0] rfl ?_
        exact b138 rec39 hrec39 h x2 x3 x6 s0 
      · refine j_goto hC (tgt := 146) (by decide) (dOk_at dt_X10_ask 70 rfl) ?_
        refine j_sub [1, 2, 3, 4, 5, 6] rfl ?_
        exact b146 rec39 hrec39 h x2 x3 x4 x5 x6 
  have b89 : ∀ (rec39 : Hp → Int32 → Int32 → Int32 → Int32 → Int32 → Option (Int32 × Hp)) (hrec39 : ∀ (h : Hp) (x2 : Int32) (x3 : Int32) (x4 : Int32) (x5 : Int32) (x6 : Int32) , jJ p l e (rmD 10) s m args below meth c 10 sb D ids shp St (fun r => MQ below (jQi sb D ids shp St n r) args s 0 0 (jA sb)) n 0 0 h 39 [(0, .ref 107), (2, .int x2), (3, .int x3), (4, .int x4), (5, .int x5), (6, .int x6)] [] (rec39 h x2 x3 x4 x5 x6)) (rec52 : Hp → Int32 → Int32 → Int32 → Int32 → Int32 → Int32 → Int32 → Option (Int32 × Hp)) (hrec52 : ∀ (h : Hp) (x2 : Int32) (x3 : Int32) (x4 : Int32) (x5 : Int32) (x6 : Int32) (x7 : Int32) (x8 : Int32) , jJ p l e (rmD 10) s m args below meth c 10 sb D ids shp St (fun r => MQ below (jQi sb D ids shp St n r) args s 0 0 (jA sb)) n 0 0 h 52 [(0, .ref 107), (2, .int x2), (3, .int x3), (4, .int x4), (5, .int x5), (6, .int x6), (7, .int x7), (8, .int x8)] [] (rec52 h x2 x3 x4 x5 x6 x7 x8)) (h : Hp) (x2 : Int32) (x3 : Int32) (x4 : Int32) (x5 : Int32) (x6 : Int32) (x8 : Int32) (s0 : Int32) (s1 : Int32) , jJ p l e (rmD 10) s m args below meth c 10 sb D ids shp St (fun r => MQ below (jQi sb D ids shp St n r) args s 0 0 (jA sb)) n 0 0 h 89 [(0, .ref 107), (2, .int x2), (3, .int x3), (4, .int x4), (5, .int x5), (6, .int x6), (8, .int x8)] [.int s1, .int s0] (fX10_ask_89 rec39 rec52 h x2 x3 x4 x5 x6 x8 s0 s1) := by
    intro rec39 hrec39 rec52 hrec52 h x2 x3 x4 x5 x6 x8 s0 s1 
    unfold fX10_ask_89
    refine j_iadd hC (dOk_at dt_X10_ask 49 rfl) ?_
    refine j_istore hC (lv' := [(7, .int (s0 + s1)), (0, .ref 107), (2, .int x2), (3, .int x3), (4, .int x4), (5, .int x5), (6, .int x6), (8, .int x8)]) (by decide) rfl (dOk_at dt_X10_ask 50 rfl) ?_
    refine j_iinc hC (v := (x8 + (1 : Int32))) (lv' := [(8, .int (x8 + (1 : Int32))), (7, .int (s0 + s1)), (0, .ref 107), (2, .int x2), (3, .int x3), (4, .int x4), (5, .int x5), (6, .int x6)]) 7 rfl (congrArg (fun z => x8 + z) (show Int32.ofInt (1) = (1 : Int32) from by decide)) (by decide) rfl (dOk_at dt_X10_ask 51 rfl) ?_
    refine j_goto hC (tgt := 52) (by decide) (dOk_at dt_X10_ask 52 rfl) ?_
    refine j_sub [2, 3, 4, 5, 6, 7, 1, 0] rfl ?_
    exact hrec52 h x2 x3 x4 x5 x6 (s0 + s1) (x8 + (1 : Int32)) 
  have b88 : ∀ (rec39 : Hp → Int32 → Int32 → Int32 → Int32 → Int32 → Option (Int32 × Hp)) (hrec39 : ∀ (h : Hp) (x2 : Int32) (x3 : Int32) (x4 : Int32) (x5 : Int32) (x6 : Int32) , jJ p l e (rmD 10) s m args below meth c 10 sb D ids shp St (fun r => MQ below (jQi sb D ids shp St n r) args s 0 0 (jA sb)) n 0 0 h 39 [(0, .ref 107), (2, .int x2), (3, .int x3), (4, .int x4), (5, .int x5), (6, .int x6)] [] (rec39 h x2 x3 x4 x5 x6)) (rec52 : Hp → Int32 → Int32 → Int32 → Int32 → Int32 → Int32 → Int32 → Option (Int32 × Hp)) (hrec52 : ∀ (h : Hp) (x2 : Int32) (x3 : Int32) (x4 : Int32) (x5 : Int32) (x6 : Int32) (x7 : Int32) (x8 : Int32) , jJ p l e (rmD 10) s m args below meth c 10 sb D ids shp St (fun r => MQ below (jQi sb D ids shp St n r) args s 0 0 (jA sb)) n 0 0 h 52 [(0, .ref 107), (2, .int x2), (3, .int x3), (4, .int x4), (5, .int x5), (6, .int x6), (7, .int x7), (8, .int x8)] [] (rec52 h x2 x3 x4 x5 x6 x7 x8)) (h : Hp) (x2 : Int32) (x3 : Int32) (x4 : Int32) (x5 : Int32) (x6 : Int32) (x8 : Int32) (s0 : Int32) , jJ p l e (rmD 10) s m args below meth c 10 sb D ids shp St (fun r => MQ below (jQi sb D ids shp St n r) args s 0 0 (jA sb)) n 0 0 h 88 [(0, .ref 107), (2, .int x2), (3, .int x3), (4, .int x4), (5, .int x5), (6, .int x6), (8, .int x8)] [.int s0] (fX10_ask_88 rec39 rec52 h x2 x3 x4 x5 x6 x8 s0) := by
    intro rec39 hrec39 rec52 hrec52 h x2 x3 x4 x5 x6 x8 s0 
    unfold fX10_ask_88
    refine j_iconst hC (v := (0 : Int32)) rfl (dOk_at dt_X10_ask 48 rfl) ?_
    exact b89 rec39 hrec39 rec52 hrec52 h x2 x3 x4 x5 x6 x8 s0 (0 : Int32) 
  have b52 : ∀ (fu : Nat) (rec39 : Hp → Int32 → Int32 → Int32 → Int32 → Int32 → Option (Int32 × Hp)) (hrec39 : ∀ (h : Hp) (x2 : Int32) (x3 : Int32) (x4 : Int32) (x5 : Int32) (x6 : Int32) , jJ p l e (rmD 10) s m args below meth c 10 sb D ids shp St (fun r => MQ below (jQi sb D ids shp St n r) args s 0 0 (jA sb)) n 0 0 h 39 [(0, .ref 107), (2, .int x2), (3, .int x3), (4, .int x4), (5, .int x5), (6, .int x6)] [] (rec39 h x2 x3 x4 x5 x6)) (h : Hp) (x2 : Int32) (x3 : Int32) (x4 : Int32) (x5 : Int32) (x6 : Int32) (x7 : Int32) (x8 : Int32) , jJ p l e (rmD 10) s m args below meth c 10 sb D ids shp St (fun r => MQ below (jQi sb D ids shp St n r) args s 0 0 (jA sb)) n 0 0 h 52 [(0, .ref 107), (2, .int x2), (3, .int x3), (4, .int x4), (5, .int x5), (6, .int x6), (7, .int x7), (8, .int x8)] [] (fX10_ask_52 fu rec39 h x2 x3 x4 x5 x6 x7 x8) := by
    intro fu rec39 hrec39
    induction fu with
    | zero => intro h x2 x3 x4 x5 x6 x7 x8 ; exact j_none
    | succ fu ih =>
    intro h x2 x3 x4 x5 x6 x7 x8 
    rw [fX10_ask_52]
    refine j_iload hC 7 rfl (dOk_at dt_X10_ask 31 rfl) ?_
    refine j_aload_n hC 0 rfl rfl (dOk_at dt_X10_ask 32 rfl) ?_
    refine j_getI hC flX10_243 (show shp 107 = (10, 88) from rfl) (Nat.lt_of_lt_of_le (Nat.le_of_ble_eq_true rfl : 107 < 152) hN) (by decide) (by decide) (fun _ _ _ => rfl) (dOk_at dt_X10_ask 33 rfl) ?_
    refine j_icmp_ge hC (tgt := 98) (by decide) (dOk_at dt_X10_ask 34 rfl) (fun q_11 => ?_) (fun q_11 => ?_)
    · refine j_iload_n hC 2 rfl rfl (dOk_at dt_X10_ask 53 rfl) ?_
      refine j_callSi hC clX10_423 (fun rz hrz => c_X10_manyOf hN _ _ rz hrz) rfl ⟨Nat.le_of_ble_eq_true rfl, Nat.le_of_ble_eq_true rfl⟩ ⟨Nat.le_refl 0, Nat.le_refl 0⟩ (As := [.int x3]) (st := []) rfl (Nat.le_of_ble_eq_true rfl) (dOk_at dt_X10_ask 54 rfl) (fun v_12 h_13 _ => ?_)
      refine j_iload hC 6 rfl (dOk_at dt_X10_ask 55 rfl) ?_
      refine j_isub hC (dOk_at dt_X10_ask 56 rfl) ?_
      refine j_istore hC (lv' := [(8, .int (v_12 - x7)), (0, .ref 107), (2, .int x2), (3, .int x3), (4, .int x4), (5, .int x5), (6, .int x6), (7, .int x7)]) (by decide) rfl (dOk_at dt_X10_ask 57 rfl) ?_
      refine j_iload hC 7 rfl (dOk_at dt_X10_ask 58 rfl) ?_
      refine j_iload hC 0 rfl (dOk_at dt_X10_ask 59 rfl) ?_
      refine j_icmp_le hC (tgt := 119) (by decide) (dOk_at dt_X10_ask 60 rfl) (fun q_14 => ?_) (fun q_14 => ?_)
      · refine j_iload hC 0 rfl (dOk_at dt_X10_ask 63 rfl) ?_
        refine j_sub [1, 2, 3, 4, 5, 6] rfl ?_
        exact b121 rec39 hrec39 h_13 x2 x3 x4 x5 x6 (v_12 - x7) 
      · refine j_iload hC 7 rfl (dOk_at dt_X10_ask 61 rfl) ?_
        refine j_goto hC (tgt := 121) (by decide) (dOk_at dt_X10_ask 62 rfl) ?_
        refine j_sub [1, 2, 3, 4, 5, 6] rfl ?_
        exact b121 rec39 hrec39 h_13 x2 x3 x4 x5 x6 x7 
    · refine j_iload hC 6 rfl (dOk_at dt_X10_ask 35 rfl) ?_
      refine j_iload_n hC 2 rfl rfl (dOk_at dt_X10_ask 36 rfl) ?_
      refine j_iload hC 7 rfl (dOk_at dt_X10_ask 37 rfl) ?_
      refine j_callSi hC clX10_282 (fun rz hrz => c_X10_isOf hN _ _ _ rz hrz) rfl ⟨Nat.le_of_ble_eq_true rfl, Nat.le_of_ble_eq_true rfl⟩ ⟨Nat.le_refl 0, Nat.le_refl 0⟩ (As := [.int x3, .int x8]) (st := [.int x7]) rfl (Nat.le_of_ble_eq_true rfl) (dOk_at dt_X10_ask 38 rfl) (fun v_15 h_16 _ => ?_)
      refine j_if_eq hC (tgt := 88) (by decide) (dOk_at dt_X10_ask 39 rfl) (fun q_17 => ?_) (fun q_17 => ?_)
      · refine j_sub [0, 1, 2, 3, 4, 5, 7] rfl ?_
        exact b88 rec39 hrec39 (fX10_ask_52 fu rec39) ih h_16 x2 x3 x4 x5 x6 x8 x7 
      · refine j_aload_n hC 0 rfl rfl (dOk_at dt_X10_ask 40 rfl) ?_
        refine j_getR hC flX10_30 (show shp 107 = (10, 88) from rfl) (Nat.lt_of_lt_of_le (Nat.le_of_ble_eq_true rfl : 107 < 152) hN) (by decide) (by decide) (fun _ _ _ => rfl) (fun hs => hs 107 29 113 rfl) (dOk_at dt_X10_ask 41 rfl) ?_
        refine j_iload hC 7 rfl (dOk_at dt_X10_ask 42 rfl) ?_
        refine j_iald hC (show shp 113 = (21, 16) from rfl) (Nat.lt_of_lt_of_le (Nat.le_of_ble_eq_true rfl : 113 < 152) hN) (dOk_at dt_X10_ask 43 rfl) ?_
        refine j_iload hC 5 rfl (dOk_at dt_X10_ask 44 rfl) ?_
        refine j_icmp_lt hC (tgt := 88) (by decide) (dOk_at dt_X10_ask 45 rfl) (fun q_18 => ?_) (fun q_18 => ?_)
        · refine j_sub [0, 1, 2, 3, 4, 5, 7] rfl ?_
          exact b88 rec39 hrec39 (fX10_ask_52 fu rec39) ih h_16 x2 x3 x4 x5 x6 x8 x7 
        · refine j_iconst hC (v := (1 : Int32)) rfl (dOk_at dt_X10_ask 46 rfl) ?_
          refine j_goto hC (tgt := 89) (by decide) (dOk_at dt_X10_ask 47 rfl) ?_
          refine j_sub [0, 1, 2, 3, 4, 5, 7] rfl ?_
          exact b89 rec39 hrec39 (fX10_ask_52 fu rec39) ih h_16 x2 x3 x4 x5 x6 x8 x7 (1 : Int32) 
  have b39 : ∀ (fu : Nat) (h : Hp) (x2 : Int32) (x3 : Int32) (x4 : Int32) (x5 : Int32) (x6 : Int32) , jJ p l e (rmD 10) s m args below meth c 10 sb D ids shp St (fun r => MQ below (jQi sb D ids shp St n r) args s 0 0 (jA sb)) n 0 0 h 39 [(0, .ref 107), (2, .int x2), (3, .int x3), (4, .int x4), (5, .int x5), (6, .int x6)] [] (fX10_ask_39 fu h x2 x3 x4 x5 x6) := by
    intro fu 
    induction fu with
    | zero => intro h x2 x3 x4 x5 x6 ; exact j_none
    | succ fu ih =>
    intro h x2 x3 x4 x5 x6 
    rw [fX10_ask_39]
    refine j_iload hC 5 rfl (dOk_at dt_X10_ask 24 rfl) ?_
    refine j_bipush hC (v := (100 : Int32)) rfl (dOk_at dt_X10_ask 25 rfl) ?_
    refine j_icmp_ge hC (tgt := 152) (by decide) (dOk_at dt_X10_ask 26 rfl) (fun q_9 => ?_) (fun q_9 => ?_)
    · refine j_iload_n hC 1 rfl rfl (dOk_at dt_X10_ask 77 rfl) ?_
      refine j_if_ne hC (tgt := 161) (by decide) (dOk_at dt_X10_ask 78 rfl) (fun q_10 => ?_) (fun q_10 => ?_)
      · refine j_iload hC 4 rfl (dOk_at dt_X10_ask 81 rfl) ?_
        exact j_iret hC hret (dOk_at dt_X10_ask 82 rfl)
      · refine j_iload hC 3 rfl (dOk_at dt_X10_ask 79 rfl) ?_
        refine j_goto hC (tgt := 163) (by decide) (dOk_at dt_X10_ask 80 rfl) ?_
        exact j_iret hC hret (dOk_at dt_X10_ask 82 rfl)
    · refine j_iconst hC (v := (0 : Int32)) rfl (dOk_at dt_X10_ask 27 rfl) ?_
      refine j_istore hC (lv' := [(7, .int (0 : Int32)), (0, .ref 107), (2, .int x2), (3, .int x3), (4, .int x4), (5, .int x5), (6, .int x6)]) (by decide) rfl (dOk_at dt_X10_ask 28 rfl) ?_
      refine j_iconst hC (v := (0 : Int32)) rfl (dOk_at dt_X10_ask 29 rfl) ?_
      refine j_istore hC (lv' := [(8, .int (0 : Int32)), (7, .int (0 : Int32)), (0, .ref 107), (2, .int x2), (3, .int x3), (4, .int x4), (5, .int x5), (6, .int x6)]) (by decide) rfl (dOk_at dt_X10_ask 30 rfl) ?_
      refine j_sub [2, 3, 4, 5, 6, 7, 1, 0] rfl ?_
      exact b52 FU (fX10_ask_39 fu) ih h x2 x3 x4 x5 x6 (0 : Int32) (0 : Int32) 
  unfold fX10_ask
  refine j_aload_n hC 0 rfl rfl (dOk_at dt_X10_ask 0 rfl) ?_
  refine j_iconst hC (v := (0 : Int32)) rfl (dOk_at dt_X10_ask 1 rfl) ?_
  refine j_putI hC St_SP flX10_157 (show shp 107 = (10, 88) from rfl) (Nat.lt_of_lt_of_le (Nat.le_of_ble_eq_true rfl : 107 < 152) hN) (by decide) (by decide) rfl rfl (dOk_at dt_X10_ask 2 rfl) ?_
  refine j_aload_n hC 0 rfl rfl (dOk_at dt_X10_ask 3 rfl) ?_
  refine j_iload_n hC 1 rfl rfl (dOk_at dt_X10_ask 4 rfl) ?_
  refine j_callVi hC clX10_480 (fun rz hrz => c_X10_isMember hN _ _ rz hrz) (show shp 107 = (10, 88) from rfl) (Nat.lt_of_lt_of_le (Nat.le_of_ble_eq_true rfl : 107 < 152) hN) (by decide) rfl rfl ⟨Nat.le_of_ble_eq_true rfl, Nat.le_of_ble_eq_true rfl⟩ ⟨Nat.le_refl 0, Nat.le_refl 0⟩ (As := [.int x1]) (st := []) rfl (Nat.le_of_ble_eq_true rfl) (dOk_at dt_X10_ask 5 rfl) (fun v_1 h_2 _ => ?_)
  refine j_if_eq hC (tgt := 22) (by decide) (dOk_at dt_X10_ask 6 rfl) (fun q_3 => ?_) (fun q_3 => ?_)
  · refine j_iconst hC (v := (-1 : Int32)) rfl (dOk_at dt_X10_ask 12 rfl) ?_
    exact j_iret hC hret (dOk_at dt_X10_ask 13 rfl)
  · refine j_iload_n hC 2 rfl rfl (dOk_at dt_X10_ask 7 rfl) ?_
    refine j_iconst hC (v := (0 : Int32)) rfl (dOk_at dt_X10_ask 8 rfl) ?_
    refine j_iconst hC (v := (1 : Int32)) rfl (dOk_at dt_X10_ask 9 rfl) ?_
    refine j_callSi hC clX10_202 (fun rz hrz => c_X10_isIn hN _ _ _ _ rz hrz) rfl ⟨Nat.le_of_ble_eq_true rfl, Nat.le_of_ble_eq_true rfl⟩ ⟨Nat.le_refl 0, Nat.le_refl 0⟩ (As := [.int x2, .int (0 : Int32), .int (1 : Int32)]) (st := []) rfl (Nat.le_of_ble_eq_true rfl) (dOk_at dt_X10_ask 10 rfl) (fun v_4 h_5 _ => ?_)
    refine j_if_ne hC (tgt := 24) (by decide) (dOk_at dt_X10_ask 11 rfl) (fun q_6 => ?_) (fun q_6 => ?_)
    · refine j_aload_n hC 0 rfl rfl (dOk_at dt_X10_ask 14 rfl) ?_
      refine j_iload_n hC 1 rfl rfl (dOk_at dt_X10_ask 15 rfl) ?_
      refine j_callVi hC clX10_551 (fun rz hrz => c_X10_heldBits hN _ _ rz hrz) (show shp 107 = (10, 88) from rfl) (Nat.lt_of_lt_of_le (Nat.le_of_ble_eq_true rfl : 107 < 152) hN) (by decide) rfl rfl ⟨Nat.le_of_ble_eq_true rfl, Nat.le_of_ble_eq_true rfl⟩ ⟨Nat.le_refl 0, Nat.le_refl 0⟩ (As := [.int x1]) (st := []) rfl (Nat.le_of_ble_eq_true rfl) (dOk_at dt_X10_ask 16 rfl) (fun v_7 h_8 _ => ?_)
      refine j_istore_n hC rfl (lv' := [(3, .int v_7), (0, .ref 107), (1, .int x1), (2, .int x2)]) (by decide) rfl (dOk_at dt_X10_ask 17 rfl) ?_
      refine j_iconst hC (v := (0 : Int32)) rfl (dOk_at dt_X10_ask 18 rfl) ?_
      refine j_istore hC (lv' := [(4, .int (0 : Int32)), (3, .int v_7), (0, .ref 107), (1, .int x1), (2, .int x2)]) (by decide) rfl (dOk_at dt_X10_ask 19 rfl) ?_
      refine j_iconst hC (v := (-1 : Int32)) rfl (dOk_at dt_X10_ask 20 rfl) ?_
      refine j_istore hC (lv' := [(5, .int (-1 : Int32)), (4, .int (0 : Int32)), (3, .int v_7), (0, .ref 107), (1, .int x1), (2, .int x2)]) (by decide) rfl (dOk_at dt_X10_ask 21 rfl) ?_
      refine j_iconst hC (v := (0 : Int32)) rfl (dOk_at dt_X10_ask 22 rfl) ?_
      refine j_istore hC (lv' := [(6, .int (0 : Int32)), (5, .int (-1 : Int32)), (4, .int (0 : Int32)), (3, .int v_7), (0, .ref 107), (1, .int x1), (2, .int x2)]) (by decide) rfl (dOk_at dt_X10_ask 23 rfl) ?_
      refine j_sub [4, 6, 3, 2, 1, 0] rfl ?_
      exact b39 FU h_8 x2 v_7 (0 : Int32) (-1 : Int32) (0 : Int32) 
    · refine j_iconst hC (v := (-1 : Int32)) rfl (dOk_at dt_X10_ask 12 rfl) ?_
      exact j_iret hC hret (dOk_at dt_X10_ask 13 rfl)
def tb_X10_chance : List (Nat × Instr × Nat) := [(0, .aload_n 0, 1), (1, .iconst 0, 1), (2, .putfield 157, 3), (5, .iload_n 1, 1), (6, .ifCond .lt 21, 3), (9, .iload_n 2, 1), (10, .iconst 1, 1), (11, .bipush 99, 2), (13, .invokestatic 202, 3), (16, .ifCond .eq 11, 3), (19, .aload_n 0, 1), (20, .iload_n 3, 1), (21, .invokevirtual 477, 3), (24, .ifCond .ne 5, 3), (27, .iconst (-1), 1), (28, .ireturn, 1), (29, .aload_n 0, 1), (30, .getfield 388, 3), (33, .lstore 4, 2), (35, .aload_n 0, 1), (36, .iload_n 1, 1), (37, .i2l, 1), (38, .putfield 388, 3), (41, .iconst 0, 1), (42, .istore 6, 2), (44, .iconst 0, 1), (45, .istore 7, 2), (47, .iload 7, 2), (49, .bipush 10, 2), (51, .if_icmp .ge 44, 3), (54, .aload_n 0, 1), (55, .invokevirtual 488, 3), (58, .aload_n 0, 1), (59, .iconst 1, 1), (60, .putfield 404, 3), (63, .aload_n 0, 1), (64, .iload_n 2, 1), (65, .invokevirtual 491, 3), (68, .iload 6, 2), (70, .aload_n 0, 1), (71, .getfield 106, 3), (74, .iconst 5, 1), (75, .iload_n 3, 1), (76, .iadd, 1), (77, .baload, 1), (78, .ifCond .eq 7, 3), (81, .iconst 1, 1), (82, .goto 4, 3), (85, .iconst 0, 1), (86, .iadd, 1), (87, .istore 6, 2), (89, .iinc 7 1, 3), (92, .goto (-45), 3), (95, .aload_n 0, 1), (96, .iconst 0, 1), (97, .putfield 404, 3), (100, .aload_n 0, 1), (101, .lload 4, 2), (103, .putfield 388, 3), (106, .iload 6, 2), (108, .ireturn, 1)]
theorem dt_X10_chance : dOk cX10_chance tb_X10_chance = true := by decide +kernel
def fX10_chance_86 (rec47 : Hp → Int32 → Int32 → Int64 → Int32 → Int32 → Option (Int32 × Hp)) (h : Hp) (x2 : Int32) (x3 : Int32) (x4 : Int64) (x7 : Int32) (s0 : Int32) (s1 : Int32) : Option (Int32 × Hp) := rec47 h x2 x3 x4 (s0 + s1) (x7 + (1 : Int32))
def fX10_chance_47 : Nat → Hp → Int32 → Int32 → Int64 → Int32 → Int32 → Option (Int32 × Hp)
  | 0, _, _, _, _, _, _ => none
  | fu + 1, h, x2, x3, x4, x6, x7 => if (10 : Int32) ≤ x7 then (some (x6, (uJ (uI h 107 68 (0 : Int32)) 107 67 x4))) else ((fX10_layTried h).bind (fun h_10 => (fX10_goMany (uI h_10 107 68 (1 : Int32)) x2).bind (fun h_12 => if inb ((5 : Int32) + x3) 10 then (if (hI h_12 138 (Int32.toNatClampNeg ((5 : Int32) + x3))) = 0 then (fX10_chance_86 (fX10_chance_47 fu) h_12 x2 x3 x4 x7 x6 (0 : Int32)) else (fX10_chance_86 (fX10_chance_47 fu) h_12 x2 x3 x4 x7 x6 (1 : Int32))) else none)))
def fX10_chance (h : Hp) (x1 : Int32) (x2 : Int32) (x3 : Int32) : Option (Int32 × Hp) := if x1 < 0 then (some ((-1 : Int32), (uI h 107 2 (0 : Int32)))) else (bnd (fX10_isIn (uI h 107 2 (0 : Int32)) x2 (1 : Int32) (99 : Int32)) (fun v_2 h_3 => if v_2 = 0 then (some ((-1 : Int32), h_3)) else (bnd (fX10_isStraw h_3 x3) (fun v_5 h_6 => if v_5 = 0 then (some ((-1 : Int32), h_6)) else (fX10_chance_47 FU (uJ h_6 107 67 (Int32.toInt64 x1)) x2 x3 (hJ h_6 107 67) (0 : Int32) (0 : Int32))))))
set_option maxRecDepth 100000 in
set_option maxHeartbeats 4000000 in
theorem c_X10_chance {l : Launch} {sb : State} {D : va_G} {ids : Nat → ClassId} {n : Nat} (hN : 152 ≤ n) (h : Hp) (x1 : Int32) (x2 : Int32) (x3 : Int32) (r : Int32 × Hp) (hr : fX10_chance h x1 x2 x3 = some r) : jM l yX10_chance cX10_chance 8 (some .int) 9 sb D ids shp St n [.ref 107, .int x1, .int x2, .int x3] h (jQi sb D ids shp St n r) := by
  refine jM_of hr rfl (Nat.le_of_ble_eq_true rfl) ?_
  intro p e s m args below meth c hC hret
  have b86 : ∀ (rec47 : Hp → Int32 → Int32 → Int64 → Int32 → Int32 → Option (Int32 × Hp)) (hrec47 : ∀ (h : Hp) (x2 : Int32) (x3 : Int32) (x4 : Int64) (x6 : Int32) (x7 : Int32) , jJ p l e (rmD 9) s m args below meth c 8 sb D ids shp St (fun r => MQ below (jQi sb D ids shp St n r) args s 0 0 (jA sb)) n 0 0 h 47 [(0, .ref 107), (2, .int x2), (3, .int x3), (4, .long x4), (6, .int x6), (7, .int x7)] [] (rec47 h x2 x3 x4 x6 x7)) (h : Hp) (x2 : Int32) (x3 : Int32) (x4 : Int64) (x7 : Int32) (s0 : Int32) (s1 : Int32) , jJ p l e (rmD 9) s m args below meth c 8 sb D ids shp St (fun r => MQ below (jQi sb D ids shp St n r) args s 0 0 (jA sb)) n 0 0 h 86 [(0, .ref 107), (2, .int x2), (3, .int x3), (4, .long x4), (7, .int x7)] [.int s1, .int s0] (fX10_chance_86 rec47 h x2 x3 x4 x7 s0 s1) := by
    intro rec47 hrec47 h x2 x3 x4 x7 s0 s1 
    unfold fX10_chance_86
    refine j_iadd hC (dOk_at dt_X10_chance 49 rfl) ?_
    refine j_istore hC (lv' := [(6, .int (s0 + s1)), (0, .ref 107), (2, .int x2), (3, .int x3), (4, .long x4), (7, .int x7)]) (by decide) rfl (dOk_at dt_X10_chance 50 rfl) ?_
    refine j_iinc hC (v := (x7 + (1 : Int32))) (lv' := [(7, .int (x7 + (1 : Int32))), (6, .int (s0 + s1)), (0, .ref 107), (2, .int x2), (3, .int x3), (4, .long x4)]) 5 rfl (congrArg (fun z => x7 + z) (show Int32.ofInt (1) = (1 : Int32) from by decide)) (by decide) rfl (dOk_at dt_X10_chance 51 rfl) ?_
    refine j_goto hC (tgt := 47) (by decide) (dOk_at dt_X10_chance 52 rfl) ?_
    refine j_sub [2, 3, 4, 5, 1, 0] rfl ?_
    exact hrec47 h x2 x3 x4 (s0 + s1) (x7 + (1 : Int32)) 
  have b47 : ∀ (fu : Nat) (h : Hp) (x2 : Int32) (x3 : Int32) (x4 : Int64) (x6 : Int32) (x7 : Int32) , jJ p l e (rmD 9) s m args below meth c 8 sb D ids shp St (fun r => MQ below (jQi sb D ids shp St n r) args s 0 0 (jA sb)) n 0 0 h 47 [(0, .ref 107), (2, .int x2), (3, .int x3), (4, .long x4), (6, .int x6), (7, .int x7)] [] (fX10_chance_47 fu h x2 x3 x4 x6 x7) := by
    intro fu 
    induction fu with
    | zero => intro h x2 x3 x4 x6 x7 ; exact j_none
    | succ fu ih =>
    intro h x2 x3 x4 x6 x7 
    rw [fX10_chance_47]
    refine j_iload hC 5 rfl (dOk_at dt_X10_chance 27 rfl) ?_
    refine j_bipush hC (v := (10 : Int32)) rfl (dOk_at dt_X10_chance 28 rfl) ?_
    refine j_icmp_ge hC (tgt := 95) (by decide) (dOk_at dt_X10_chance 29 rfl) (fun q_8 => ?_) (fun q_8 => ?_)
    · refine j_aload_n hC 0 rfl rfl (dOk_at dt_X10_chance 53 rfl) ?_
      refine j_iconst hC (v := (0 : Int32)) rfl (dOk_at dt_X10_chance 54 rfl) ?_
      refine j_putZ hC St_SP flX10_404 (show shp 107 = (10, 88) from rfl) (Nat.lt_of_lt_of_le (Nat.le_of_ble_eq_true rfl : 107 < 152) hN) (by decide) (by decide) rfl rfl rfl (dOk_at dt_X10_chance 55 rfl) ?_
      refine j_aload_n hC 0 rfl rfl (dOk_at dt_X10_chance 56 rfl) ?_
      refine j_lload hC 3 rfl (dOk_at dt_X10_chance 57 rfl) ?_
      refine j_putJ hC St_SP flX10_388 (show shp 107 = (10, 88) from rfl) (Nat.lt_of_lt_of_le (Nat.le_of_ble_eq_true rfl : 107 < 152) hN) (by decide) (by decide) rfl rfl (dOk_at dt_X10_chance 58 rfl) ?_
      refine j_iload hC 4 rfl (dOk_at dt_X10_chance 59 rfl) ?_
      exact j_iret hC hret (dOk_at dt_X10_chance 60 rfl)
    · refine j_aload_n hC 0 rfl rfl (dOk_at dt_X10_chance 30 rfl) ?_
      refine j_callVv hC clX10_488 (fun rz hrz => c_X10_layTried hN _ rz hrz) (show shp 107 = (10, 88) from rfl) (Nat.lt_of_lt_of_le (Nat.le_of_ble_eq_true rfl : 107 < 152) hN) (by decide) rfl rfl ⟨Nat.le_of_ble_eq_true rfl, Nat.le_of_ble_eq_true rfl⟩ ⟨Nat.le_refl 0, Nat.le_refl 0⟩ (As := []) (st := []) rfl (Nat.le_of_ble_eq_true rfl) (dOk_at dt_X10_chance 31 rfl) (fun h_10 _ => ?_)
      refine j_aload_n hC 0 rfl rfl (dOk_at dt_X10_chance 32 rfl) ?_
      refine j_iconst hC (v := (1 : Int32)) rfl (dOk_at dt_X10_chance 33 rfl) ?_
      refine j_putZ hC St_SP flX10_404 (show shp 107 = (10, 88) from rfl) (Nat.lt_of_lt_of_le (Nat.le_of_ble_eq_true rfl : 107 < 152) hN) (by decide) (by decide) rfl rfl rfl (dOk_at dt_X10_chance 34 rfl) ?_
      refine j_aload_n hC 0 rfl rfl (dOk_at dt_X10_chance 35 rfl) ?_
      refine j_iload_n hC 1 rfl rfl (dOk_at dt_X10_chance 36 rfl) ?_
      refine j_callVv hC clX10_491 (fun rz hrz => c_X10_goMany hN _ _ rz hrz) (show shp 107 = (10, 88) from rfl) (Nat.lt_of_lt_of_le (Nat.le_of_ble_eq_true rfl : 107 < 152) hN) (by decide) rfl rfl ⟨Nat.le_of_ble_eq_true rfl, Nat.le_of_ble_eq_true rfl⟩ ⟨Nat.le_refl 0, Nat.le_refl 0⟩ (As := [.int x2]) (st := []) rfl (Nat.le_of_ble_eq_true rfl) (dOk_at dt_X10_chance 37 rfl) (fun h_12 _ => ?_)
      refine j_iload hC 4 rfl (dOk_at dt_X10_chance 38 rfl) ?_
      refine j_aload_n hC 0 rfl rfl (dOk_at dt_X10_chance 39 rfl) ?_
      refine j_getR hC flX10_106 (show shp 107 = (10, 88) from rfl) (Nat.lt_of_lt_of_le (Nat.le_of_ble_eq_true rfl : 107 < 152) hN) (by decide) (by decide) (fun _ _ _ => rfl) (fun hs => hs 107 61 138 rfl) (dOk_at dt_X10_chance 40 rfl) ?_
      refine j_iconst hC (v := (5 : Int32)) rfl (dOk_at dt_X10_chance 41 rfl) ?_
      refine j_iload_n hC 2 rfl rfl (dOk_at dt_X10_chance 42 rfl) ?_
      refine j_iadd hC (dOk_at dt_X10_chance 43 rfl) ?_
      refine j_zald hC (show shp 138 = (23, 10) from rfl) (Nat.lt_of_lt_of_le (Nat.le_of_ble_eq_true rfl : 138 < 152) hN) (dOk_at dt_X10_chance 44 rfl) ?_
      refine j_if_eq hC (tgt := 85) (by decide) (dOk_at dt_X10_chance 45 rfl) (fun q_13 => ?_) (fun q_13 => ?_)
      · refine j_iconst hC (v := (0 : Int32)) rfl (dOk_at dt_X10_chance 48 rfl) ?_
        refine j_sub [0, 1, 2, 3, 5] rfl ?_
        exact b86 (fX10_chance_47 fu) ih h_12 x2 x3 x4 x7 x6 (0 : Int32) 
      · refine j_iconst hC (v := (1 : Int32)) rfl (dOk_at dt_X10_chance 46 rfl) ?_
        refine j_goto hC (tgt := 86) (by decide) (dOk_at dt_X10_chance 47 rfl) ?_
        refine j_sub [0, 1, 2, 3, 5] rfl ?_
        exact b86 (fX10_chance_47 fu) ih h_12 x2 x3 x4 x7 x6 (1 : Int32) 
  unfold fX10_chance
  refine j_aload_n hC 0 rfl rfl (dOk_at dt_X10_chance 0 rfl) ?_
  refine j_iconst hC (v := (0 : Int32)) rfl (dOk_at dt_X10_chance 1 rfl) ?_
  refine j_putI hC St_SP flX10_157 (show shp 107 = (10, 88) from rfl) (Nat.lt_of_lt_of_le (Nat.le_of_ble_eq_true rfl : 107 < 152) hN) (by decide) (by decide) rfl rfl (dOk_at dt_X10_chance 2 rfl) ?_
  refine j_iload_n hC 1 rfl rfl (dOk_at dt_X10_chance 3 rfl) ?_
  refine j_if_lt hC (tgt := 27) (by decide) (dOk_at dt_X10_chance 4 rfl) (fun q_1 => ?_) (fun q_1 => ?_)
  · refine j_iconst hC (v := (-1 : Int32)) rfl (dOk_at dt_X10_chance 14 rfl) ?_
    exact j_iret hC hret (dOk_at dt_X10_chance 15 rfl)
  · refine j_iload_n hC 2 rfl rfl (dOk_at dt_X10_chance 5 rfl) ?_
    refine j_iconst hC (v := (1 : Int32)) rfl (dOk_at dt_X10_chance 6 rfl) ?_
    refine j_bipush hC (v := (99 : Int32)) rfl (dOk_at dt_X10_chance 7 rfl) ?_
    refine j_callSi hC clX10_202 (fun rz hrz => c_X10_isIn hN _ _ _ _ rz hrz) rfl ⟨Nat.le_of_ble_eq_true rfl, Nat.le_of_ble_eq_true rfl⟩ ⟨Nat.le_refl 0, Nat.le_refl 0⟩ (As := [.int x2, .int (1 : Int32), .int (99 : Int32)]) (st := []) rfl (Nat.le_of_ble_eq_true rfl) (dOk_at dt_X10_chance 8 rfl) (fun v_2 h_3 _ => ?_)
    refine j_if_eq hC (tgt := 27) (by decide) (dOk_at dt_X10_chance 9 rfl) (fun q_4 => ?_) (fun q_4 => ?_)
    · refine j_iconst hC (v := (-1 : Int32)) rfl (dOk_at dt_X10_chance 14 rfl) ?_
      exact j_iret hC hret (dOk_at dt_X10_chance 15 rfl)
    · refine j_aload_n hC 0 rfl rfl (dOk_at dt_X10_chance 10 rfl) ?_
      refine j_iload_n hC 3 rfl rfl (dOk_at dt_X10_chance 11 rfl) ?_
      refine j_callVi hC clX10_477 (fun rz hrz => c_X10_isStraw hN _ _ rz hrz) (show shp 107 = (10, 88) from rfl) (Nat.lt_of_lt_of_le (Nat.le_of_ble_eq_true rfl : 107 < 152) hN) (by decide) rfl rfl ⟨Nat.le_of_ble_eq_true rfl, Nat.le_of_ble_eq_true rfl⟩ ⟨Nat.le_refl 0, Nat.le_refl 0⟩ (As := [.int x3]) (st := []) rfl (Nat.le_of_ble_eq_true rfl) (dOk_at dt_X10_chance 12 rfl) (fun v_5 h_6 _ => ?_)
      refine j_if_ne hC (tgt := 29) (by decide) (dOk_at dt_X10_chance 13 rfl) (fun q_7 => ?_) (fun q_7 => ?_)
      · refine j_aload_n hC 0 rfl rfl (dOk_at dt_X10_chance 16 rfl) ?_
        refine j_getJ hC flX10_388 (show shp 107 = (10, 88) from rfl) (Nat.lt_of_lt_of_le (Nat.le_of_ble_eq_true rfl : 107 < 152) hN) (by decide) (by decide) (fun _ _ _ => rfl) (dOk_at dt_X10_chance 17 rfl) ?_
        refine j_lstore hC (lv' := [(4, .long (hJ h_6 107 67)), (0, .ref 107), (1, .int x1), (2, .int x2), (3, .int x3)]) (by decide) rfl (dOk_at dt_X10_chance 18 rfl) ?_
        refine j_aload_n hC 1 rfl rfl (dOk_at dt_X10_chance 19 rfl) ?_
        refine j_iload_n hC 2 rfl rfl (dOk_at dt_X10_chance 20 rfl) ?_
        refine j_i2l hC (dOk_at dt_X10_chance 21 rfl) ?_
        refine j_putJ hC St_SP flX10_388 (show shp 107 = (10, 88) from rfl) (Nat.lt_of_lt_of_le (Nat.le_of_ble_eq_true rfl : 107 < 152) hN) (by decide) (by decide) rfl rfl (dOk_at dt_X10_chance 22 rfl) ?_
        refine j_iconst hC (v := (0 : Int32)) rfl (dOk_at dt_X10_chance 23 rfl) ?_
        refine j_istore hC (lv' := [(6, .int (0 : Int32)), (4, .long (hJ h_6 107 67)), (0, .ref 107), (1, .int x1), (2, .int x2), (3, .int x3)]) (by decide) rfl (dOk_at dt_X10_chance 24 rfl) ?_
        refine j_iconst hC (v := (0 : Int32)) rfl (dOk_at dt_X10_chance 25 rfl) ?_
        refine j_istore hC (lv' := [(7, .int (0 : Int32)), (6, .int (0 : Int32)), (4, .long (hJ h_6 107 67)), (0, .ref 107), (1, .int x1), (2, .int x2), (3, .int x3)]) (by decide) rfl (dOk_at dt_X10_chance 26 rfl) ?_
        refine j_sub [3, 5, 6, 2, 1, 0] rfl ?_
        exact b47 FU (uJ h_6 107 67 (Int32.toInt64 x1)) x2 x3 (hJ h_6 107 67) (0 : Int32) (0 : Int32) 
      · refine j_iconst hC (v := (-1 : Int32)) rfl (dOk_at dt_X10_chance 14 rfl) ?_
        exact j_iret hC hret (dOk_at dt_X10_chance 15 rfl)
def tb_X10_tried : List (Nat × Instr × Nat) := [(0, .aload_n 0, 1), (1, .iconst 0, 1), (2, .putfield 157, 3), (5, .iload_n 1, 1), (6, .iconst 0, 1), (7, .iconst 4, 1), (8, .invokestatic 202, 3), (11, .ifCond .eq 34, 3), (14, .iload_n 3, 1), (15, .iconst 0, 1), (16, .sipush 200, 3), (19, .invokestatic 202, 3), (22, .ifCond .eq 23, 3), (25, .iload_n 1, 1), (26, .iconst 2, 1), (27, .if_icmp .ne 14, 3), (30, .aload_n 0, 1), (31, .iload_n 2, 1), (32, .invokevirtual 480, 3), (35, .ifCond .ne 12, 3), (38, .goto 7, 3), (41, .iload_n 2, 1), (42, .ifCond .eq 5, 3), (45, .iconst (-1), 1), (46, .ireturn, 1), (47, .aload_n 0, 1), (48, .invokevirtual 488, 3), (51, .aload_n 0, 1), (52, .iload_n 1, 1), (53, .ifCond .ne 7, 3), (56, .iconst 1, 1), (57, .goto 4, 3), (60, .iconst 0, 1), (61, .putfield 407, 3), (64, .aload_n 0, 1), (65, .iload_n 1, 1), (66, .iconst 1, 1), (67, .if_icmp .ne 7, 3), (70, .iconst 1, 1), (71, .goto 4, 3), (74, .iconst 0, 1), (75, .putfield 410, 3), (78, .aload_n 0, 1), (79, .iload_n 1, 1), (80, .iconst 2, 1), (81, .if_icmp .ne 7, 3), (84, .iload_n 2, 1), (85, .goto 4, 3), (88, .iconst (-1), 1), (89, .putfield 416, 3), (92, .iconst 0, 1), (93, .istore 4, 2), (95, .iload 4, 2), (97, .aload_n 0, 1), (98, .getfield 249, 3), (101, .if_icmp .ge 35, 3), (104, .iload_n 1, 1), (105, .iconst 3, 1), (106, .if_icmp .ne 30, 3), (109, .aload_n 0, 1), (110, .getfield 103, 3), (113, .iconst 5, 1), (114, .iload 4, 2), (116, .iadd, 1), (117, .bipush 99, 2), (119, .iastore, 1), (120, .aload_n 0, 1), (121, .getfield 106, 3), (124, .iconst 5, 1), (125, .iload 4, 2), (127, .iadd, 1), (128, .iconst 0, 1), (129, .bastore, 1), (130, .iinc 4 1, 3), (133, .goto (-38), 3), (136, .aload_n 0, 1), (137, .iload_n 1, 1), (138, .iconst 4, 1), (139, .if_icmp .ne 7, 3), (142, .iconst 1, 1), (143, .goto 4, 3), (146, .iconst 0, 1), (147, .putfield 413, 3), (150, .aload_n 0, 1), (151, .iload_n 3, 1), (152, .invokevirtual 491, 3), (155, .aload_n 0, 1), (156, .invokevirtual 392, 3), (159, .aload_n 0, 1), (160, .getfield 112, 3), (163, .iconst 1, 1), (164, .invokestatic 494, 3), (167, .aload_n 0, 1), (168, .getfield 112, 3), (171, .iconst 0, 1), (172, .invokestatic 494, 3), (175, .isub, 1), (176, .ireturn, 1)]
theorem dt_X10_tried : dOk cX10_tried tb_X10_tried = true := by decide +kernel
def fX10_tried_147 (h : Hp) (x3 : Int32) (s1 : Int32) : Option (Int32 × Hp) := if isZ s1 then ((fX10_goMany (uI h 107 71 s1) x3).bind (fun h_24 => (fX10_plainTried h_24).bind (fun h_26 => bnd (fX10_sumOf 140 10 h_26 (1 : Int32)) (fun v_27 h_28 => bnd (fX10_sumOf 140 10 h_28 (0 : Int32)) (fun v_29 h_30 => some ((v_27 - v_29), h_30)))))) else none
def fX10_tried_136 (h : Hp) (x1 : Int32) (x3 : Int32) : Option (Int32 × Hp) := if x1 = (4 : Int32) then (fX10_tried_147 h x3 (1 : Int32)) else (fX10_tried_147 h x3 (0 : Int32))
def fX10_tried_95 : Nat → Hp → Int32 → Int32 → Int32 → Option (Int32 × Hp)
  | 0, _, _, _, _ => none
  | fu + 1, h, x1, x3, x4 => if (hI h 107 14) ≤ x4 then (fX10_tried_136 h x1 x3) else (if x1 = (3 : Int32) then (if inb ((5 : Int32) + x4) 10 then (if inb ((5 : Int32) + x4) 10 then ((fX10_tried_95 fu) (uI (uI h 137 (Int32.toNatClampNeg ((5 : Int32) + x4)) (99 : Int32)) 138 (Int32.toNatClampNeg ((5 : Int32) + x4)) (0 : Int32)) x1 x3 (x4 + (1 : Int32))) else none) else none) else (fX10_tried_136 h x1 x3))
def fX10_tried_89 (h : Hp) (x1 : Int32) (x3 : Int32) (s1 : Int32) : Option (Int32 × Hp) := fX10_tried_95 FU (uI h 107 72 s1) x1 x3 (0 : Int32)
def fX10_tried_75 (h : Hp) (x1 : Int32) (x2 : Int32) (x3 : Int32) (s1 : Int32) : Option (Int32 × Hp) := if isZ s1 then (if x1 = (2 : Int32) then (fX10_tried_89 (uI h 107 70 s1) x1 x3 x2) else (fX10_tried_89 (uI h 107 70 s1) x1 x3 (-1 : Int32))) else none
def fX10_tried_61 (h : Hp) (x1 : Int32) (x2 : Int32) (x3 : Int32) (s1 : Int32) : Option (Int32 × Hp) := if isZ s1 then (if x1 = (1 : Int32) then (fX10_tried_75 (uI h 107 69 s1) x1 x2 x3 (1 : Int32)) else (fX10_tried_75 (uI h 107 69 s1) x1 x2 x3 (0 : Int32))) else none
def fX10_tried_47 (h : Hp) (x1 : Int32) (x2 : Int32) (x3 : Int32) : Option (Int32 × Hp) := (fX10_layTried h).bind (fun h_13 => if x1 = 0 then (fX10_tried_61 h_13 x1 x2 x3 (1 : Int32)) else (fX10_tried_61 h_13 x1 x2 x3 (0 : Int32)))
def fX10_tried (h : Hp) (x1 : Int32) (x2 : Int32) (x3 : Int32) : Option (Int32 × Hp) := bnd (fX10_isIn (uI h 107 2 (0 : Int32)) x1 (0 : Int32) (4 : Int32)) (fun v_1 h_2 => if v_1 = 0 then (some ((-1 : Int32), h_2)) else (bnd (fX10_isIn h_2 x3 (0 : Int32) (200 : Int32)) (fun v_4 h_5 => if v_4 = 0 then (some ((-1 : Int32), h_5)) else (if x1 = (2 : Int32) then (bnd (fX10_isMember h_5 x2) (fun v_9 h_10 => if v_9 = 0 then (some ((-1 : Int32), h_10)) else (fX10_tried_47 h_10 x1 x2 x3))) else (if x2 = 0 then (fX10_tried_47 h_5 x1 x2 x3) else (some ((-1 : Int32), h_5)))))))
set_option maxRecDepth 100000 in
set_option maxHeartbeats 4000000 in
theorem c_X10_tried {l : Launch} {sb : State} {D : va_G} {ids : Nat → ClassId} {n : Nat} (hN : 152 ≤ n) (h : Hp) (x1 : Int32) (x2 : Int32) (x3 : Int32) (r : Int32 × Hp) (hr : fX10_tried h x1 x2 x3 = some r) : jM l yX10_tried cX10_tried 5 (some .int) 9 sb D ids shp St n [.ref 107, .int x1, .int x2, .int x3] h (jQi sb D ids shp St n r) := by
  refine jM_of hr rfl (Nat.le_of_ble_eq_true rfl) ?_
  intro p e s m args below meth c hC hret
  have b147 : ∀ (h : Hp) (x3 : Int32) (s1 : Int32) , jJ p l e (rmD 9) s m args below meth c 5 sb D ids shp St (fun r => MQ below (jQi sb D ids shp St n r) args s 0 0 (jA sb)) n 0 0 h 147 [(0, .ref 107), (3, .int x3)] [.int s1, .ref 107] (fX10_tried_147 h x3 s1) := by
    intro h x3 s1 
    unfold fX10_tried_147
    refine j_ite (P := isZ s1 = true) (fun hz_22 => ?_) (fun _ => j_none)
    refine j_putZ hC St_SP flX10_413 (show shp 107 = (10, 88) from rfl) (Nat.lt_of_lt_of_le (Nat.le_of_ble_eq_true rfl : 107 < 152) hN) (by decide) (by decide) rfl rfl hz_22 (dOk_at dt_X10_tried 82 rfl) ?_
    refine j_aload_n hC 0 rfl rfl (dOk_at dt_X10_tried 83 rfl) ?_
    refine j_iload_n hC 1 rfl rfl (dOk_at dt_X10_tried 84 rfl) ?_
    refine j_callVv hC clX10_491 (fun rz hrz => c_X10_goMany hN _ _ rz hrz) (show shp 107 = (10, 88) from rfl) (Nat.lt_of_lt_of_le (Nat.le_of_ble_eq_true rfl : 107 < 152) hN) (by decide) rfl rfl ⟨Nat.le_of_ble_eq_true rfl, Nat.le_of_ble_eq_true rfl⟩ ⟨Nat.le_refl 0, Nat.le_refl 0⟩ (As := [.int x3]) (st := []) rfl (Nat.le_of_ble_eq_true rfl) (dOk_at dt_X10_tried 85 rfl) (fun h_24 _ => ?_)
    refine j_aload_n hC 0 rfl rfl (dOk_at dt_X10_tried 86 rfl) ?_
    refine j_callVv hC clX10_392 (fun rz hrz => c_X10_plainTried hN _ rz hrz) (show shp 107 = (10, 88) from rfl) (Nat.lt_of_lt_of_le (Nat.le_of_ble_eq_true rfl : 107 < 152) hN) (by decide) rfl rfl ⟨Nat.le_of_ble_eq_true rfl, Nat.le_of_ble_eq_true rfl⟩ ⟨Nat.le_refl 0, Nat.le_refl 0⟩ (As := []) (st := []) rfl (Nat.le_of_ble_eq_true rfl) (dOk_at dt_X10_tried 87 rfl) (fun h_26 _ => ?_)
    refine j_aload_n hC 0 rfl rfl (dOk_at dt_X10_tried 88 rfl) ?_
    refine j_getR hC flX10_112 (show shp 107 = (10, 88) from rfl) (Nat.lt_of_lt_of_le (Nat.le_of_ble_eq_true rfl : 107 < 152) hN) (by decide) (by decide) (fun _ _ _ => rfl) (fun hs => hs 107 63 140 rfl) (dOk_at dt_X10_tried 89 rfl) ?_
    refine j_iconst hC (v := (1 : Int32)) rfl (dOk_at dt_X10_tried 90 rfl) ?_
    refine j_callSi hC clX10_494 (fun rz hrz => c_X10_sumOf hN ((show shp 140 = (21, 10) from rfl)) _ _ rz hrz) rfl ⟨Nat.le_of_ble_eq_true rfl, Nat.le_of_ble_eq_true rfl⟩ ⟨Nat.le_refl 0, Nat.le_refl 0⟩ (As := [.ref 140, .int (1 : Int32)]) (st := []) rfl (Nat.le_of_ble_eq_true rfl) (dOk_at dt_X10_tried 91 rfl) (fun v_27 h_28 _ => ?_)
    refine j_aload_n hC 0 rfl rfl (dOk_at dt_X10_tried 92 rfl) ?_
    refine j_getR hC flX10_112 (show shp 107 = (10, 88) from rfl) (Nat.lt_of_lt_of_le (Nat.le_of_ble_eq_true rfl : 107 < 152) hN) (by decide) (by decide) (fun _ _ _ => rfl) (fun hs => hs 107 63 140 rfl) (dOk_at dt_X10_tried 93 rfl) ?_
    refine j_iconst hC (v := (0 : Int32)) rfl (dOk_at dt_X10_tried 94 rfl) ?_
    refine j_callSi hC clX10_494 (fun rz hrz => c_X10_sumOf hN ((show shp 140 = (21, 10) from rfl)) _ _ rz hrz) rfl ⟨Nat.le_of_ble_eq_true rfl, Nat.le_of_ble_eq_true rfl⟩ ⟨Nat.le_refl 0, Nat.le_refl 0⟩ (As := [.ref 140, .int (0 : Int32)]) (st := [.int v_27]) rfl (Nat.le_of_ble_eq_true rfl) (dOk_at dt_X10_tried 95 rfl) (fun v_29 h_30 _ => ?_)
    refine j_isub hC (dOk_at dt_X10_tried 96 rfl) ?_
    exact j_iret hC hret (dOk_at dt_X10_tried 97 rfl)
  have b136 : ∀ (h : Hp) (x1 : Int32) (x3 : Int32) , jJ p l e (rmD 9) s m args below meth c 5 sb D ids shp St (fun r => MQ below (jQi sb D ids shp St n r) args s 0 0 (jA sb)) n 0 0 h 136 [(0, .ref 107), (1, .int x1), (3, .int x3)] [] (fX10_tried_136 h x1 x3) := by
    intro h x1 x3 
    unfold fX10_tried_136
    refine j_aload_n hC 0 rfl rfl (dOk_at dt_X10_tried 75 rfl) ?_
    refine j_iload_n hC 1 rfl rfl (dOk_at dt_X10_tried 76 rfl) ?_
    refine j_iconst hC (v := (4 : Int32)) rfl (dOk_at dt_X10_tried 77 rfl) ?_
    refine j_icmp_ne hC (tgt := 146) (by decide) (dOk_at dt_X10_tried 78 rfl) (fun q_21 => ?_) (fun q_21 => ?_)
    · refine j_iconst hC (v := (0 : Int32)) rfl (dOk_at dt_X10_tried 81 rfl) ?_
      refine j_sub [0, 2] rfl ?_
      exact b147 h x3 (0 : Int32) 
    · refine j_iconst hC (v := (1 : Int32)) rfl (dOk_at dt_X10_tried 79 rfl) ?_
      refine j_goto hC (tgt := 147) (by decide) (dOk_at dt_X10_tried 80 rfl) ?_
      refine j_sub [0, 2] rfl ?_
      exact b147 h x3 (1 : Int32) 
  have b95 : ∀ (fu : Nat) (h : Hp) (x1 : Int32) (x3 : Int32) (x4 : Int32) , jJ p l e (rmD 9) s m args below meth c 5 sb D ids shp St (fun r => MQ below (jQi sb D ids shp St n r) args s 0 0 (jA sb)) n 0 0 h 95 [(0, .ref 107), (1, .int x1), (3, .int x3), (4, .int x4)] [] (fX10_tried_95 fu h x1 x3 x4) := by
    intro fu 
    induction fu with
    | zero => intro h x1 x3 x4 ; exact j_none
    | succ fu ih =>
    intro h x1 x3 x4 
    rw [fX10_tried_95]
    refine j_iload hC 3 rfl (dOk_at dt_X10_tried 52 rfl) ?_
    refine j_aload_n hC 0 rfl rfl (dOk_at dt_X10_tried 53 rfl) ?_
    refine j_getI hC flX10_249 (show shp 107 = (10, 88) from rfl) (Nat.lt_of_lt_of_le (Nat.le_of_ble_eq_true rfl : 107 < 152) hN) (by decide) (by decide) (fun _ _ _ => rfl) (dOk_at dt_X10_tried 54 rfl) ?_
    refine j_icmp_ge hC (tgt := 136) (by decide) (dOk_at dt_X10_tried 55 rfl) (fun q_19 => ?_) (fun q_19 => ?_)
    · refine j_sub [0, 1, 2] rfl ?_
      exact b136 h x1 x3 
    · refine j_iload_n hC 1 rfl rfl (dOk_at dt_X10_tried 56 rfl) ?_
      refine j_iconst hC (v := (3 : Int32)) rfl (dOk_at dt_X10_tried 57 rfl) ?_
      refine j_icmp_ne hC (tgt := 136) (by decide) (dOk_at dt_X10_tried 58 rfl) (fun q_20 => ?_) (fun q_20 => ?_)
      · refine j_sub [0, 1, 2] rfl ?_
        exact b136 h x1 x3 
      · refine j_aload_n hC 0 rfl rfl (dOk_at dt_X10_tried 59 rfl) ?_
        refine j_getR hC flX10_103 (show shp 107 = (10, 88) from rfl) (Nat.lt_of_lt_of_le (Nat.le_of_ble_eq_true rfl : 107 < 152) hN) (by decide) (by decide) (fun _ _ _ => rfl) (fun hs => hs 107 60 137 rfl) (dOk_at dt_X10_tried 60 rfl) ?_
        refine j_iconst hC (v := (5 : Int32)) rfl (dOk_at dt_X10_tried 61 rfl) ?_
        refine j_iload hC 3 rfl (dOk_at dt_X10_tried 62 rfl) ?_
        refine j_iadd hC (dOk_at dt_X10_tried 63 rfl) ?_
        refine j_bipush hC (v := (99 : Int32)) rfl (dOk_at dt_X10_tried 64 rfl) ?_
        refine j_iast hC St_SP (show shp 137 = (21, 10) from rfl) (Nat.lt_of_lt_of_le (Nat.le_of_ble_eq_true rfl : 137 < 152) hN) (dOk_at dt_X10_tried 65 rfl) ?_
        refine j_aload_n hC 0 rfl rfl (dOk_at dt_X10_tried 66 rfl) ?_
        refine j_getR hC flX10_106 (show shp 107 = (10, 88) from rfl) (Nat.lt_of_lt_of_le (Nat.le_of_ble_eq_true rfl : 107 < 152) hN) (by decide) (by decide) (fun _ _ _ => rfl) (fun hs => hs 107 61 138 rfl) (dOk_at dt_X10_tried 67 rfl) ?_
        refine j_iconst hC (v := (5 : Int32)) rfl (dOk_at dt_X10_tried 68 rfl) ?_
        refine j_iload hC 3 rfl (dOk_at dt_X10_tried 69 rfl) ?_
        refine j_iadd hC (dOk_at dt_X10_tried 70 rfl) ?_
        refine j_iconst hC (v := (0 : Int32)) rfl (dOk_at dt_X10_tried 71 rfl) ?_
        refine j_zast hC St_SP (show shp 138 = (23, 10) from rfl) (Nat.lt_of_lt_of_le (Nat.le_of_ble_eq_true rfl : 138 < 152) hN) rfl (dOk_at dt_X10_tried 72 rfl) ?_
        refine j_iinc hC (v := (x4 + (1 : Int32))) (lv' := [(4, .int (x4 + (1 : Int32))), (0, .ref 107), (1, .int x1), (3, .int x3)]) 3 rfl (congrArg (fun z => x4 + z) (show Int32.ofInt (1) = (1 : Int32) from by decide)) (by decide) rfl (dOk_at dt_X10_tried 73 rfl) ?_
        refine j_goto hC (tgt := 95) (by decide) (dOk_at dt_X10_tried 74 rfl) ?_
        refine j_sub [1, 2, 3, 0] rfl ?_
        exact ih (uI (uI h 137 (Int32.toNatClampNeg ((5 : Int32) + x4)) (99 : Int32)) 138 (Int32.toNatClampNeg ((5 : Int32) + x4)) (0 : Int32)) x1 x3 (x4 + (1 : Int32)) 
  have b89 : ∀ (h : Hp) (x1 : Int32) (x3 : Int32) (s1 : Int32) , jJ p l e (rmD 9) s m args below meth c 5 sb D ids shp St (fun r => MQ below (jQi sb D ids shp St n r) args s 0 0 (jA sb)) n 0 0 h 89 [(0, .ref 107), (1, .int x1), (3, .int x3)] [.int s1, .ref 107] (fX10_tried_89 h x1 x3 s1) := by
    intro h x1 x3 s1 
    unfold fX10_tried_89
    refine j_putI hC St_SP flX10_416 (show shp 107 = (10, 88) from rfl) (Nat.lt_of_lt_of_le (Nat.le_of_ble_eq_true rfl : 107 < 152) hN) (by decide) (by decide) rfl rfl (dOk_at dt_X10_tried 49 rfl) ?_
    refine j_iconst hC (v := (0 : Int32)) rfl (dOk_at dt_X10_tried 50 rfl) ?_
    refine j_istore hC (lv' := [(4, .int (0 : Int32)), (0, .ref 107), (1, .int x1), (3, .int x3)]) (by decide) rfl (dOk_at dt_X10_tried 51 rfl) ?_
    refine j_sub [1, 2, 3, 0] rfl ?_
    exact b95 FU (uI h 107 72 s1) x1 x3 (0 : Int32) 
  have b75 : ∀ (h : Hp) (x1 : Int32) (x2 : Int32) (x3 : Int32) (s1 : Int32) , jJ p l e (rmD 9) s m args below meth c 5 sb D ids shp St (fun r => MQ below (jQi sb D ids shp St n r) args s 0 0 (jA sb)) n 0 0 h 75 [(0, .ref 107), (1, .int x1), (2, .int x2), (3, .int x3)] [.int s1, .ref 107] (fX10_tried_75 h x1 x2 x3 s1) := by
    intro h x1 x2 x3 s1 
    unfold fX10_tried_75
    refine j_ite (P := isZ s1 = true) (fun hz_17 => ?_) (fun _ => j_none)
    refine j_putZ hC St_SP flX10_410 (show shp 107 = (10, 88) from rfl) (Nat.lt_of_lt_of_le (Nat.le_of_ble_eq_true rfl : 107 < 152) hN) (by decide) (by decide) rfl rfl hz_17 (dOk_at dt_X10_tried 41 rfl) ?_
    refine j_aload_n hC 0 rfl rfl (dOk_at dt_X10_tried 42 rfl) ?_
    refine j_iload_n hC 1 rfl rfl (dOk_at dt_X10_tried 43 rfl) ?_
    refine j_iconst hC (v := (2 : Int32)) rfl (dOk_at dt_X10_tried 44 rfl) ?_
    refine j_icmp_ne hC (tgt := 88) (by decide) (dOk_at dt_X10_tried 45 rfl) (fun q_18 => ?_) (fun q_18 => ?_)
    · refine j_iconst hC (v := (-1 : Int32)) rfl (dOk_at dt_X10_tried 48 rfl) ?_
      refine j_sub [0, 1, 3] rfl ?_
      exact b89 (uI h 107 70 s1) x1 x3 (-1 : Int32) 
    · refine j_iload_n hC 2 rfl rfl (dOk_at dt_X10_tried 46 rfl) ?_
      refine j_goto hC (tgt := 89) (by decide) (dOk_at dt_X10_tried 47 rfl) ?_
      refine j_sub [0, 1, 3] rfl ?_
      exact b89 (uI h 107 70 s1) x1 x3 x2 
  have b61 : ∀ (h : Hp) (x1 : Int32) (x2 : Int32) (x3 : Int32) (s1 : Int32) , jJ p l e (rmD 9) s m args below meth c 5 sb D ids shp St (fun r => MQ below (jQi sb D ids shp St n r) args s 0 0 (jA sb)) n 0 0 h 61 [(0, .ref 107), (1, .int x1), (2, .int x2), (3, .int x3)] [.int s1, .ref 107] (fX10_tried_61 h x1 x2 x3 s1) := by
    intro h x1 x2 x3 s1 
    unfold fX10_tried_61
    refine j_ite (P := isZ s1 = true) (fun hz_15 => ?_) (fun _ => j_none)
    refine j_putZ hC St_SP flX10_407 (show shp 107 = (10, 88) from rfl) (Nat.lt_of_lt_of_le (Nat.le_of_ble_eq_true rfl : 107 < 152) hN) (by decide) (by decide) rfl rfl hz_15 (dOk_at dt_X10_tried 33 rfl) ?_
    refine j_aload_n hC 0 rfl rfl (dOk_at dt_X10_tried 34 rfl) ?_
    refine j_iload_n hC 1 rfl rfl (dOk_at dt_X10_tried 35 rfl) ?_
    refine j_iconst hC (v := (1 : Int32)) rfl (dOk_at dt_X10_tried 36 rfl) ?_
    refine j_icmp_ne hC (tgt := 74) (by decide) (dOk_at dt_X10_tried 37 rfl) (fun q_16 => ?_) (fun q_16 => ?_)
    · refine j_iconst hC (v := (0 : Int32)) rfl (dOk_at dt_X10_tried 40 rfl) ?_
      exact b75 (uI h 107 69 s1) x1 x2 x3 (0 : Int32) 
    · refine j_iconst hC (v := (1 : Int32)) rfl (dOk_at dt_X10_tried 38 rfl) ?_
      refine j_goto hC (tgt := 75) (by decide) (dOk_at dt_X10_tried 39 rfl) ?_
      exact b75 (uI h 107 69 s1) x1 x2 x3 (1 : Int32) 
  have b47 : ∀ (h : Hp) (x1 : Int32) (x2 : Int32) (x3 : Int32) , jJ p l e (rmD 9) s m args below meth c 5 sb D ids shp St (fun r => MQ below (jQi sb D ids shp St n r) args s 0 0 (jA sb)) n 0 0 h 47 [(0, .ref 107), (1, .int x1), (2, .int x2), (3, .int x3)] [] (fX10_tried_47 h x1 x2 x3) := by
    intro h x1 x2 x3 
    unfold fX10_tried_47
    refine j_aload_n hC 0 rfl rfl (dOk_at dt_X10_tried 25 rfl) ?_
    refine j_callVv hC clX10_488 (fun rz hrz => c_X10_layTried hN _ rz hrz) (show shp 107 = (10, 88) from rfl) (Nat.lt_of_lt_of_le (Nat.le_of_ble_eq_true rfl : 107 < 152) hN) (by decide) rfl rfl ⟨Nat.le_of_ble_eq_true rfl, Nat.le_of_ble_eq_true rfl⟩ ⟨Nat.le_refl 0, Nat.le_refl 0⟩ (As := []) (st := []) rfl (Nat.le_of_ble_eq_true rfl) (dOk_at dt_X10_tried 26 rfl) (fun h_13 _ => ?_)
    refine j_aload_n hC 0 rfl rfl (dOk_at dt_X10_tried 27 rfl) ?_
    refine j_iload_n hC 1 rfl rfl (dOk_at dt_X10_tried 28 rfl) ?_
    refine j_if_ne hC (tgt := 60) (by decide) (dOk_at dt_X10_tried 29 rfl) (fun q_14 => ?_) (fun q_14 => ?_)
    · refine j_iconst hC (v := (0 : Int32)) rfl (dOk_at dt_X10_tried 32 rfl) ?_
      exact b61 h_13 x1 x2 x3 (0 : Int32) 
    · refine j_iconst hC (v := (1 : Int32)) rfl (dOk_at dt_X10_tried 30 rfl) ?_
      refine j_goto hC (tgt := 61) (by decide) (dOk_at dt_X10_tried 31 rfl) ?_
      exact b61 h_13 x1 x2 x3 (1 : Int32) 
  unfold fX10_tried
  refine j_aload_n hC 0 rfl rfl (dOk_at dt_X10_tried 0 rfl) ?_
  refine j_iconst hC (v := (0 : Int32)) rfl (dOk_at dt_X10_tried 1 rfl) ?_
  refine j_putI hC St_SP flX10_157 (show shp 107 = (10, 88) from rfl) (Nat.lt_of_lt_of_le (Nat.le_of_ble_eq_true rfl : 107 < 152) hN) (by decide) (by decide) rfl rfl (dOk_at dt_X10_tried 2 rfl) ?_
  refine j_iload_n hC 1 rfl rfl (dOk_at dt_X10_tried 3 rfl) ?_
  refine j_iconst hC (v := (0 : Int32)) rfl (dOk_at dt_X10_tried 4 rfl) ?_
  refine j_iconst hC (v := (4 : Int32)) rfl (dOk_at dt_X10_tried 5 rfl) ?_
  refine j_callSi hC clX10_202 (fun rz hrz => c_X10_isIn hN _ _ _ _ rz hrz) rfl ⟨Nat.le_of_ble_eq_true rfl, Nat.le_of_ble_eq_true rfl⟩ ⟨Nat.le_refl 0, Nat.le_refl 0⟩ (As := [.int x1, .int (0 : Int32), .int (4 : Int32)]) (st := []) rfl (Nat.le_of_ble_eq_true rfl) (dOk_at dt_X10_tried 6 rfl) (fun v_1 h_2 _ => ?_)
  refine j_if_eq hC (tgt := 45) (by decide) (dOk_at dt_X10_tried 7 rfl) (fun q_3 => ?_) (fun q_3 => ?_)
  · refine j_iconst hC (v := (-1 : Int32)) rfl (dOk_at dt_X10_tried 23 rfl) ?_
    exact j_iret hC hret (dOk_at dt_X10_tried 24 rfl)
  · refine j_iload_n hC 3 rfl rfl (dOk_at dt_X10_tried 8 rfl) ?_
    refine j_iconst hC (v := (0 : Int32)) rfl (dOk_at dt_X10_tried 9 rfl) ?_
    refine j_sipush hC (v := (200 : Int32)) rfl (dOk_at dt_X10_tried 10 rfl) ?_
    refine j_callSi hC clX10_202 (fun rz hrz => c_X10_isIn hN _ _ _ _ rz hrz) rfl ⟨Nat.le_of_ble_eq_true rfl, Nat.le_of_ble_eq_true rfl⟩ ⟨Nat.le_refl 0, Nat.le_refl 0⟩ (As := [.int x3, .int (0 : Int32), .int (200 : Int32)]) (st := []) rfl (Nat.le_of_ble_eq_true rfl) (dOk_at dt_X10_tried 11 rfl) (fun v_4 h_5 _ => ?_)
    refine j_if_eq hC (tgt := 45) (by decide) (dOk_at dt_X10_tried 12 rfl) (fun q_6 => ?_) (fun q_6 => ?_)
    · refine j_iconst hC (v := (-1 : Int32)) rfl (dOk_at dt_X10_tried 23 rfl) ?_
      exact j_iret hC hret (dOk_at dt_X10_tried 24 rfl)
    · refine j_iload_n hC 1 rfl rfl (dOk_at dt_X10_tried 13 rfl) ?_
      refine j_iconst hC (v := (2 : Int32)) rfl (dOk_at dt_X10_tried 14 rfl) ?_
      refine j_icmp_ne hC (tgt := 41) (by decide) (dOk_at dt_X10_tried 15 rfl) (fun q_7 => ?_) (fun q_7 => ?_)
      · refine j_iload_n hC 2 rfl rfl (dOk_at dt_X10_tried 21 rfl) ?_
        refine j_if_eq hC (tgt := 47) (by decide) (dOk_at dt_X10_tried 22 rfl) (fun q_8 => ?_) (fun q_8 => ?_)
        · exact b47 h_5 x1 x2 x3 
        · refine j_iconst hC (v := (-1 : Int32)) rfl (dOk_at dt_X10_tried 23 rfl) ?_
          exact j_iret hC hret (dOk_at dt_X10_tried 24 rfl)
      · refine j_aload_n hC 0 rfl rfl (dOk_at dt_X10_tried 16 rfl) ?_
        refine j_iload_n hC 2 rfl rfl (dOk_at dt_X10_tried 17 rfl) ?_
        refine j_callVi hC clX10_480 (fun rz hrz => c_X10_isMember hN _ _ rz hrz) (show shp 107 = (10, 88) from rfl) (Nat.lt_of_lt_of_le (Nat.le_of_ble_eq_true rfl : 107 < 152) hN) (by decide) rfl rfl ⟨Nat.le_of_ble_eq_true rfl, Nat.le_of_ble_eq_true rfl⟩ ⟨Nat.le_refl 0, Nat.le_refl 0⟩ (As := [.int x2]) (st := []) rfl (Nat.le_of_ble_eq_true rfl) (dOk_at dt_X10_tried 18 rfl) (fun v_9 h_10 _ => ?_)
        refine j_if_ne hC (tgt := 47) (by decide) (dOk_at dt_X10_tried 19 rfl) (fun q_11 => ?_) (fun q_11 => ?_)
        · exact b47 h_10 x1 x2 x3 
        · refine j_goto hC (tgt := 45) (by decide) (dOk_at dt_X10_tried 20 rfl) ?_
          refine j_iconst hC (v := (-1 : Int32)) rfl (dOk_at dt_X10_tried 23 rfl) ?_
          exact j_iret hC hret (dOk_at dt_X10_tried 24 rfl)
def tb_X10_bringBack : List (Nat × Instr × Nat) := [(0, .iconst 0, 1), (1, .istore_n 3, 1), (2, .iload_n 3, 1), (3, .iconst 5, 1), (4, .if_icmp .ge 61, 3), (7, .aload_n 0, 1), (8, .getfield 103, 3), (11, .iload_n 3, 1), (12, .aload_n 1, 1), (13, .iload_n 2, 1), (14, .iload_n 3, 1), (15, .iadd, 1), (16, .iaload, 1), (17, .iastore, 1), (18, .aload_n 0, 1), (19, .getfield 109, 3), (22, .iload_n 3, 1), (23, .aload_n 1, 1), (24, .iload_n 2, 1), (25, .iconst 5, 1), (26, .iadd, 1), (27, .iload_n 3, 1), (28, .iadd, 1), (29, .iaload, 1), (30, .iastore, 1), (31, .aload_n 0, 1), (32, .getfield 112, 3), (35, .iload_n 3, 1), (36, .aload_n 1, 1), (37, .iload_n 2, 1), (38, .bipush 10, 2), (40, .iadd, 1), (41, .iload_n 3, 1), (42, .iadd, 1), (43, .iaload, 1), (44, .iastore, 1), (45, .aload_n 0, 1), (46, .getfield 115, 3), (49, .iload_n 3, 1), (50, .aload_n 1, 1), (51, .iload_n 2, 1), (52, .bipush 15, 2), (54, .iadd, 1), (55, .iload_n 3, 1), (56, .iadd, 1), (57, .iaload, 1), (58, .iastore, 1), (59, .iinc 3 1, 3), (62, .goto (-60), 3), (65, .return_, 1)]
theorem dt_X10_bringBack : dOk cX10_bringBack tb_X10_bringBack = true := by decide +kernel
def fX10_bringBack_2 : Nat → (Nat) → (Nat) → Hp → Int32 → Int32 → Option (Hp)
  | 0, _, _, _, _, _ => none
  | fu + 1, r1, n1, h, x2, x3 => if (5 : Int32) ≤ x3 then (some h) else (if inb (x2 + x3) n1 then (if inb x3 10 then (if inb ((x2 + (5 : Int32)) + x3) n1 then (if inb x3 10 then (if inb ((x2 + (10 : Int32)) + x3) n1 then (if inb x3 10 then (if inb ((x2 + (15 : Int32)) + x3) n1 then (if inb x3 10 then ((fX10_bringBack_2 fu r1 n1) (uI (uI (uI (uI h 137 (Int32.toNatClampNeg x3) (hI h r1 (Int32.toNatClampNeg (x2 + x3)))) 139 (Int32.toNatClampNeg x3) (hI (uI h 137 (Int32.toNatClampNeg x3) (hI h r1 (Int32.toNatClampNeg (x2 + x3)))) r1 (Int32.toNatClampNeg ((x2 + (5 : Int32)) + x3)))) 140 (Int32.toNatClampNeg x3) (hI (uI (uI h 137 (Int32.toNatClampNeg x3) (hI h r1 (Int32.toNatClampNeg (x2 + x3)))) 139 (Int32.toNatClampNeg x3) (hI (uI h 137 (Int32.toNatClampNeg x3) (hI h r1 (Int32.toNatClampNeg (x2 + x3)))) r1 (Int32.toNatClampNeg ((x2 + (5 : Int32)) + x3)))) r1 (Int32.toNatClampNeg ((x2 + (10 : Int32)) + x3)))) 141 (Int32.toNatClampNeg x3) (hI (uI (uI (uI h 137 (Int32.toNatClampNeg x3) (hI h r1 (Int32.toNatClampNeg (x2 + x3)))) 139 (Int32.toNatClampNeg x3) (hI (uI h 137 (Int32.toNatClampNeg x3) (hI h r1 (Int32.toNatClampNeg (x2 + x3)))) r1 (Int32.toNatClampNeg ((x2 + (5 : Int32)) + x3)))) 140 (Int32.toNatClampNeg x3) (hI (uI (uI h 137 (Int32.toNatClampNeg x3) (hI h r1 (Int32.toNatClampNeg (x2 + x3)))) 139 (Int32.toNatClampNeg x3) (hI (uI h 137 (Int32.toNatClampNeg x3) (hI h r1 (Int32.toNatClampNeg (x2 + x3)))) r1 (Int32.toNatClampNeg ((x2 + (5 : Int32)) + x3)))) r1 (Int32.toNatClampNeg ((x2 + (10 : Int32)) + x3)))) r1 (Int32.toNatClampNeg ((x2 + (15 : Int32)) + x3)))) x2 (x3 + (1 : Int32))) else none) else none) else none) else none) else none) else none) else none) else none)
def fX10_bringBack (r1 : Nat) (n1 : Nat) (h : Hp) (x2 : Int32) : Option (Hp) := fX10_bringBack_2 FU r1 n1 h x2 (0 : Int32)
set_option maxRecDepth 100000 in
set_option maxHeartbeats 4000000 in
theorem c_X10_bringBack {l : Launch} {sb : State} {D : va_G} {ids : Nat → ClassId} {n : Nat} (hN : 152 ≤ n) {r1 : Nat} {n1 : Nat} (h1 : shp r1 = (21, n1)) (h : Hp) (x2 : Int32) (r : Hp) (hr : fX10_bringBack r1 n1 h x2 = some r) : jM l yX10_bringBack cX10_bringBack 4 none 0 sb D ids shp St n [.ref 107, .ref r1, .int x2] h (jQv sb D ids shp St n r) := by
  refine jM_of hr rfl (Nat.le_of_ble_eq_true rfl) ?_
  intro p e s m args below meth c hC hret
  have b2 : ∀ (fu : Nat) (h : Hp) (x2 : Int32) (x3 : Int32) , jJ p l e (rmD 0) s m args below meth c 4 sb D ids shp St (fun r => MQ below (jQv sb D ids shp St n r) args s 0 0 (jA sb)) n 0 0 h 2 [(0, .ref 107), (1, .ref r1), (2, .int x2), (3, .int x3)] [] (fX10_bringBack_2 fu r1 n1 h x2 x3) := by
    intro fu 
    induction fu with
    | zero => intro h x2 x3 ; exact j_none
    | succ fu ih =>
    intro h x2 x3 
    rw [fX10_bringBack_2]
    refine j_iload_n hC 3 rfl rfl (dOk_at dt_X10_bringBack 2 rfl) ?_
    refine j_iconst hC (v := (5 : Int32)) rfl (dOk_at dt_X10_bringBack 3 rfl) ?_
    refine j_icmp_ge hC (tgt := 65) (by decide) (dOk_at dt_X10_bringBack 4 rfl) (fun q_1 => ?_) (fun q_1 => ?_)
    · exact j_vret hC hret (dOk_at dt_X10_bringBack 49 rfl)
    · refine j_aload_n hC 0 rfl rfl (dOk_at dt_X10_bringBack 5 rfl) ?_
      refine j_getR hC flX10_103 (show shp 107 = (10, 88) from rfl) (Nat.lt_of_lt_of_le (Nat.le_of_ble_eq_true rfl : 107 < 152) hN) (by decide) (by decide) (fun _ _ _ => rfl) (fun hs => hs 107 60 137 rfl) (dOk_at dt_X10_bringBack 6 rfl) ?_
      refine j_iload_n hC 3 rfl rfl (dOk_at dt_X10_bringBack 7 rfl) ?_
      refine j_aload_n hC 1 rfl rfl (dOk_at dt_X10_bringBack 8 rfl) ?_
      refine j_iload_n hC 2 rfl rfl (dOk_at dt_X10_bringBack 9 rfl) ?_
      refine j_iload_n hC 3 rfl rfl (dOk_at dt_X10_bringBack 10 rfl) ?_
      refine j_iadd hC (dOk_at dt_X10_bringBack 11 rfl) ?_
      refine j_iald hC h1 (jlt hN h1 (by decide)) (dOk_at dt_X10_bringBack 12 rfl) ?_
      refine j_iast hC St_SP (show shp 137 = (21, 10) from rfl) (Nat.lt_of_lt_of_le (Nat.le_of_ble_eq_true rfl : 137 < 152) hN) (dOk_at dt_X10_bringBack 13 rfl) ?_
      refine j_aload_n hC 0 rfl rfl (dOk_at dt_X10_bringBack 14 rfl) ?_
      refine j_getR hC flX10_109 (show shp 107 = (10, 88) from rfl) (Nat.lt_of_lt_of_le (Nat.le_of_ble_eq_true rfl : 107 < 152) hN) (by decide) (by decide) (fun _ _ _ => rfl) (fun hs => hs 107 62 139 rfl) (dOk_at dt_X10_bringBack 15 rfl) ?_
      refine j_iload_n hC 3 rfl rfl (dOk_at dt_X10_bringBack 16 rfl) ?_
      refine j_aload_n hC 1 rfl rfl (dOk_at dt_X10_bringBack 17 rfl) ?_
      refine j_iload_n hC 2 rfl rfl (dOk_at dt_X10_bringBack 18 rfl) ?_
      refine j_iconst hC (v := (5 : Int32)) rfl (dOk_at dt_X10_bringBack 19 rfl) ?_
      refine j_iadd hC (dOk_at dt_X10_bringBack 20 rfl) ?_
      refine j_iload_n hC 3 rfl rfl (dOk_at dt_X10_bringBack 21 rfl) ?_
      refine j_iadd hC (dOk_at dt_X10_bringBack 22 rfl) ?_
      refine j_iald hC h1 (jlt hN h1 (by decide)) (dOk_at dt_X10_bringBack 23 rfl) ?_
      refine j_iast hC St_SP (show shp 139 = (21, 10) from rfl) (Nat.lt_of_lt_of_le (Nat.le_of_ble_eq_true rfl : 139 < 152) hN) (dOk_at dt_X10_bringBack 24 rfl) ?_
      refine j_aload_n hC 0 rfl rfl (dOk_at dt_X10_bringBack 25 rfl) ?_
      refine j_getR hC flX10_112 (show shp 107 = (10, 88) from rfl) (Nat.lt_of_lt_of_le (Nat.le_of_ble_eq_true rfl : 107 < 152) hN) (by decide) (by decide) (fun _ _ _ => rfl) (fun hs => hs 107 63 140 rfl) (dOk_at dt_X10_bringBack 26 rfl) ?_
      refine j_iload_n hC 3 rfl rfl (dOk_at dt_X10_bringBack 27 rfl) ?_
      refine j_aload_n hC 1 rfl rfl (dOk_at dt_X10_bringBack 28 rfl) ?_
      refine j_iload_n hC 2 rfl rfl (dOk_at dt_X10_bringBack 29 rfl) ?_
      refine j_bipush hC (v := (10 : Int32)) rfl (dOk_at dt_X10_bringBack 30 rfl) ?_
      refine j_iadd hC (dOk_at dt_X10_bringBack 31 rfl) ?_
      refine j_iload_n hC 3 rfl rfl (dOk_at dt_X10_bringBack 32 rfl) ?_
      refine j_iadd hC (dOk_at dt_X10_bringBack 33 rfl) ?_
      refine j_iald hC h1 (jlt hN h1 (by decide)) (dOk_at dt_X10_bringBack 34 rfl) ?_
      refine j_iast hC St_SP (show shp 140 = (21, 10) from rfl) (Nat.lt_of_lt_of_le (Nat.le_of_ble_eq_true rfl : 140 < 152) hN) (dOk_at dt_X10_bringBack 35 rfl) ?_
      refine j_aload_n hC 0 rfl rfl (dOk_at dt_X10_bringBack 36 rfl) ?_
      refine j_getR hC flX10_115 (show shp 107 = (10, 88) from rfl) (Nat.lt_of_lt_of_le (Nat.le_of_ble_eq_true rfl : 107 < 152) hN) (by decide) (by decide) (fun _ _ _ => rfl) (fun hs => hs 107 64 141 rfl) (dOk_at dt_X10_bringBack 37 rfl) ?_
      refine j_iload_n hC 3 rfl rfl (dOk_at dt_X10_bringBack 38 rfl) ?_
      refine j_aload_n hC 1 rfl rfl (dOk_at dt_X10_bringBack 39 rfl) ?_
      refine j_iload_n hC 2 rfl rfl (dOk_at dt_X10_bringBack 40 rfl) ?_
      refine j_bipush hC (v := (15 : Int32)) rfl (dOk_at dt_X10_bringBack 41 rfl) ?_
      refine j_iadd hC (dOk_at dt_X10_bringBack 42 rfl) ?_
      refine j_iload_n hC 3 rfl rfl (dOk_at dt_X10_bringBack 43 rfl) ?_
      refine j_iadd hC (dOk_at dt_X10_bringBack 44 rfl) ?_
      refine j_iald hC h1 (jlt hN h1 (by decide)) (dOk_at dt_X10_bringBack 45 rfl) ?_
      refine j_iast hC St_SP (show shp 141 = (21, 10) from rfl) (Nat.lt_of_lt_of_le (Nat.le_of_ble_eq_true rfl : 141 < 152) hN) (dOk_at dt_X10_bringBack 46 rfl) ?_
      refine j_iinc hC (v := (x3 + (1 : Int32))) (lv' := [(3, .int (x3 + (1 : Int32))), (0, .ref 107), (1, .ref r1), (2, .int x2)]) 3 rfl (congrArg (fun z => x3 + z) (show Int32.ofInt (1) = (1 : Int32) from by decide)) (by decide) rfl (dOk_at dt_X10_bringBack 47 rfl) ?_
      refine j_goto hC (tgt := 2) (by decide) (dOk_at dt_X10_bringBack 48 rfl) ?_
      refine j_sub [1, 2, 3, 0] rfl ?_
      exact ih (uI (uI (uI (uI h 137 (Int32.toNatClampNeg x3) (hI h r1 (Int32.toNatClampNeg (x2 + x3)))) 139 (Int32.toNatClampNeg x3) (hI (uI h 137 (Int32.toNatClampNeg x3) (hI h r1 (Int32.toNatClampNeg (x2 + x3)))) r1 (Int32.toNatClampNeg ((x2 + (5 : Int32)) + x3)))) 140 (Int32.toNatClampNeg x3) (hI (uI (uI h 137 (Int32.toNatClampNeg x3) (hI h r1 (Int32.toNatClampNeg (x2 + x3)))) 139 (Int32.toNatClampNeg x3) (hI (uI h 137 (Int32.toNatClampNeg x3) (hI h r1 (Int32.toNatClampNeg (x2 + x3)))) r1 (Int32.toNatClampNeg ((x2 + (5 : Int32)) + x3)))) r1 (Int32.toNatClampNeg ((x2 + (10 : Int32)) + x3)))) 141 (Int32.toNatClampNeg x3) (hI (uI (uI (uI h 137 (Int32.toNatClampNeg x3) (hI h r1 (Int32.toNatClampNeg (x2 + x3)))) 139 (Int32.toNatClampNeg x3) (hI (uI h 137 (Int32.toNatClampNeg x3) (hI h r1 (Int32.toNatClampNeg (x2 + x3)))) r1 (Int32.toNatClampNeg ((x2 + (5 : Int32)) + x3)))) 140 (Int32.toNatClampNeg x3) (hI (uI (uI h 137 (Int32.toNatClampNeg x3) (hI h r1 (Int32.toNatClampNeg (x2 + x3)))) 139 (Int32.toNatClampNeg x3) (hI (uI h 137 (Int32.toNatClampNeg x3) (hI h r1 (Int32.toNatClampNeg (x2 + x3)))) r1 (Int32.toNatClampNeg ((x2 + (5 : Int32)) + x3)))) r1 (Int32.toNatClampNeg ((x2 + (10 : Int32)) + x3)))) r1 (Int32.toNatClampNeg ((x2 + (15 : Int32)) + x3)))) x2 (x3 + (1 : Int32)) 
  unfold fX10_bringBack
  refine j_iconst hC (v := (0 : Int32)) rfl (dOk_at dt_X10_bringBack 0 rfl) ?_
  refine j_istore_n hC rfl (lv' := [(3, .int (0 : Int32)), (0, .ref 107), (1, .ref r1), (2, .int x2)]) (by decide) rfl (dOk_at dt_X10_bringBack 1 rfl) ?_
  refine j_sub [1, 2, 3, 0] rfl ?_
  exact b2 FU h x2 (0 : Int32) 
def tb_X10_undo : List (Nat × Instr × Nat) := [(0, .aload_n 0, 1), (1, .iconst 0, 1), (2, .putfield 157, 3), (5, .aload_n 0, 1), (6, .getfield 398, 3), (9, .ifCond .ne 5, 3), (12, .iconst (-1), 1), (13, .ireturn, 1), (14, .aload_n 0, 1), (15, .dup, 1), (16, .getfield 398, 3), (19, .iconst 1, 1), (20, .isub, 1), (21, .putfield 398, 3), (24, .aload_n 0, 1), (25, .aload_n 0, 1), (26, .getfield 142, 3), (29, .bipush 20, 2), (31, .aload_n 0, 1), (32, .getfield 398, 3), (35, .imul, 1), (36, .invokevirtual 557, 3), (39, .aload_n 0, 1), (40, .getfield 398, 3), (43, .ireturn, 1)]
theorem dt_X10_undo : dOk cX10_undo tb_X10_undo = true := by decide +kernel
def fX10_undo (h : Hp) : Option (Int32 × Hp) := if (hI (uI h 107 2 (0 : Int32)) 107 80) = 0 then (some ((-1 : Int32), (uI h 107 2 (0 : Int32)))) else ((fX10_bringBack 149 400 (uI (uI h 107 2 (0 : Int32)) 107 80 ((hI (uI h 107 2 (0 : Int32)) 107 80) - (1 : Int32))) ((20 : Int32) * (hI (uI (uI h 107 2 (0 : Int32)) 107 80 ((hI (uI h 107 2 (0 : Int32)) 107 80) - (1 : Int32))) 107 80))).bind (fun h_3 => some ((hI h_3 107 80), h_3)))
set_option maxRecDepth 100000 in
set_option maxHeartbeats 4000000 in
theorem c_X10_undo {l : Launch} {sb : State} {D : va_G} {ids : Nat → ClassId} {n : Nat} (hN : 152 ≤ n) (h : Hp) (r : Int32 × Hp) (hr : fX10_undo h = some r) : jM l yX10_undo cX10_undo 1 (some .int) 1 sb D ids shp St n [.ref 107] h (jQi sb D ids shp St n r) := by
  refine jM_of hr rfl (Nat.le_of_ble_eq_true rfl) ?_
  intro p e s m args below meth c hC hret
  unfold fX10_undo
  refine j_aload_n hC 0 rfl rfl (dOk_at dt_X10_undo 0 rfl) ?_
  refine j_iconst hC (v := (0 : Int32)) rfl (dOk_at dt_X10_undo 1 rfl) ?_
  refine j_putI hC St_SP flX10_157 (show shp 107 = (10, 88) from rfl) (Nat.lt_of_lt_of_le (Nat.le_of_ble_eq_true rfl : 107 < 152) hN) (by decide) (by decide) rfl rfl (dOk_at dt_X10_undo 2 rfl) ?_
  refine j_aload_n hC 0 rfl rfl (dOk_at dt_X10_undo 3 rfl) ?_
  refine j_getI hC flX10_398 (show shp 107 = (10, 88) from rfl) (Nat.lt_of_lt_of_le (Nat.le_of_ble_eq_true rfl : 107 < 152) hN) (by decide) (by decide) (fun _ _ _ => rfl) (dOk_at dt_X10_undo 4 rfl) ?_
  refine j_if_ne hC (tgt := 14) (by decide) (dOk_at dt_X10_undo 5 rfl) (fun q_1 => ?_) (fun q_1 => ?_)
  · refine j_aload_n hC 0 rfl rfl (dOk_at dt_X10_undo 8 rfl) ?_
    refine j_dupr hC (dOk_at dt_X10_undo 9 rfl) ?_
    refine j_getI hC flX10_398 (show shp 107 = (10, 88) from rfl) (Nat.lt_of_lt_of_le (Nat.le_of_ble_eq_true rfl : 107 < 152) hN) (by decide) (by decide) (fun _ _ _ => rfl) (dOk_at dt_X10_undo 10 rfl) ?_
    refine j_iconst hC (v := (1 : Int32)) rfl (dOk_at dt_X10_undo 11 rfl) ?_
    refine j_isub hC (dOk_at dt_X10_undo 12 rfl) ?_
    refine j_putI hC St_SP flX10_398 (show shp 107 = (10, 88) from rfl) (Nat.lt_of_lt_of_le (Nat.le_of_ble_eq_true rfl : 107 < 152) hN) (by decide) (by decide) rfl rfl (dOk_at dt_X10_undo 13 rfl) ?_
    refine j_aload_n hC 0 rfl rfl (dOk_at dt_X10_undo 14 rfl) ?_
    refine j_aload_n hC 0 rfl rfl (dOk_at dt_X10_undo 15 rfl) ?_
    refine j_getR hC flX10_142 (show shp 107 = (10, 88) from rfl) (Nat.lt_of_lt_of_le (Nat.le_of_ble_eq_true rfl : 107 < 152) hN) (by decide) (by decide) (fun _ _ _ => rfl) (fun hs => hs 107 81 149 rfl) (dOk_at dt_X10_undo 16 rfl) ?_
    refine j_bipush hC (v := (20 : Int32)) rfl (dOk_at dt_X10_undo 17 rfl) ?_
    refine j_aload_n hC 0 rfl rfl (dOk_at dt_X10_undo 18 rfl) ?_
    refine j_getI hC flX10_398 (show shp 107 = (10, 88) from rfl) (Nat.lt_of_lt_of_le (Nat.le_of_ble_eq_true rfl : 107 < 152) hN) (by decide) (by decide) (fun _ _ _ => rfl) (dOk_at dt_X10_undo 19 rfl) ?_
    refine j_imul hC (dOk_at dt_X10_undo 20 rfl) ?_
    refine j_callVv hC clX10_557 (fun rz hrz => c_X10_bringBack hN ((show shp 149 = (21, 400) from rfl)) _ _ rz hrz) (show shp 107 = (10, 88) from rfl) (Nat.lt_of_lt_of_le (Nat.le_of_ble_eq_true rfl : 107 < 152) hN) (by decide) rfl rfl ⟨Nat.le_of_ble_eq_true rfl, Nat.le_of_ble_eq_true rfl⟩ ⟨Nat.le_refl 0, Nat.le_refl 0⟩ (As := [.ref 149, .int ((20 : Int32) * (hI (uI (uI h 107 2 (0 : Int32)) 107 80 ((hI (uI h 107 2 (0 : Int32)) 107 80) - (1 : Int32))) 107 80))]) (st := []) rfl (Nat.le_of_ble_eq_true rfl) (dOk_at dt_X10_undo 21 rfl) (fun h_3 _ => ?_)
    refine j_aload_n hC 0 rfl rfl (dOk_at dt_X10_undo 22 rfl) ?_
    refine j_getI hC flX10_398 (show shp 107 = (10, 88) from rfl) (Nat.lt_of_lt_of_le (Nat.le_of_ble_eq_true rfl : 107 < 152) hN) (by decide) (by decide) (fun _ _ _ => rfl) (dOk_at dt_X10_undo 23 rfl) ?_
    exact j_iret hC hret (dOk_at dt_X10_undo 24 rfl)
  · refine j_iconst hC (v := (-1 : Int32)) rfl (dOk_at dt_X10_undo 6 rfl) ?_
    exact j_iret hC hret (dOk_at dt_X10_undo 7 rfl)
def tb_X10_keep : List (Nat × Instr × Nat) := [(0, .aload_n 0, 1), (1, .iconst 0, 1), (2, .putfield 157, 3), (5, .aload_n 0, 1), (6, .iconst 1, 1), (7, .putfield 401, 3), (10, .aload_n 0, 1), (11, .aload_n 0, 1), (12, .getfield 145, 3), (15, .iconst 0, 1), (16, .invokevirtual 554, 3), (19, .iconst 0, 1), (20, .istore_n 1, 1), (21, .iload_n 1, 1), (22, .iconst 5, 1), (23, .if_icmp .ge 21, 3), (26, .aload_n 0, 1), (27, .getfield 148, 3), (30, .iload_n 1, 1), (31, .aload_n 0, 1), (32, .getfield 106, 3), (35, .iload_n 1, 1), (36, .baload, 1), (37, .bastore, 1), (38, .iinc 1 1, 3), (41, .goto (-20), 3), (44, .aload_n 0, 1), (45, .aload_n 0, 1), (46, .getfield 118, 3), (49, .iconst 0, 1), (50, .iaload, 1), (51, .putfield 560, 3), (54, .aload_n 0, 1), (55, .aload_n 0, 1), (56, .getfield 121, 3), (59, .iconst 0, 1), (60, .iaload, 1), (61, .putfield 563, 3), (64, .aload_n 0, 1), (65, .aload_n 0, 1), (66, .getfield 388, 3), (69, .putfield 566, 3), (72, .aload_n 0, 1), (73, .getfield 121, 3), (76, .iconst 0, 1), (77, .iaload, 1), (78, .ireturn, 1)]
theorem dt_X10_keep : dOk cX10_keep tb_X10_keep = true := by decide +kernel
def fX10_keep_21 : Nat → Hp → Int32 → Option (Int32 × Hp)
  | 0, _, _ => none
  | fu + 1, h, x1 => if (5 : Int32) ≤ x1 then (if inb (0 : Int32) 2 then (if inb (0 : Int32) 2 then (if inb (0 : Int32) 2 then (some ((hI (uJ (uI (uI h 107 85 (hI h 142 (Int32.toNatClampNeg (0 : Int32)))) 107 86 (hI (uI h 107 85 (hI h 142 (Int32.toNatClampNeg (0 : Int32)))) 143 (Int32.toNatClampNeg (0 : Int32)))) 107 87 (hJ (uI (uI h 107 85 (hI h 142 (Int32.toNatClampNeg (0 : Int32)))) 107 86 (hI (uI h 107 85 (hI h 142 (Int32.toNatClampNeg (0 : Int32)))) 143 (Int32.toNatClampNeg (0 : Int32)))) 107 67)) 143 (Int32.toNatClampNeg (0 : Int32))), (uJ (uI (uI h 107 85 (hI h 142 (Int32.toNatClampNeg (0 : Int32)))) 107 86 (hI (uI h 107 85 (hI h 142 (Int32.toNatClampNeg (0 : Int32)))) 143 (Int32.toNatClampNeg (0 : Int32)))) 107 87 (hJ (uI (uI h 107 85 (hI h 142 (Int32.toNatClampNeg (0 : Int32)))) 107 86 (hI (uI h 107 85 (hI h 142 (Int32.toNatClampNeg (0 : Int32)))) 143 (Int32.toNatClampNeg (0 : Int32)))) 107 67)))) else none) else none) else none) else (if inb x1 10 then (if isZ (hI h 138 (Int32.toNatClampNeg x1)) then (if inb x1 5 then ((fX10_keep_21 fu) (uI h 151 (Int32.toNatClampNeg x1) (hI h 138 (Int32.toNatClampNeg x1))) (x1 + (1 : Int32))) else none) else none) else none)
def fX10_keep (h : Hp) : Option (Int32 × Hp) := (fX10_put 150 20 (uI (uI h 107 2 (0 : Int32)) 107 82 (1 : Int32)) (0 : Int32)).bind (fun h_2 => fX10_keep_21 FU h_2 (0 : Int32))
set_option maxRecDepth 100000 in
set_option maxHeartbeats 4000000 in
theorem c_X10_keep {l : Launch} {sb : State} {D : va_G} {ids : Nat → ClassId} {n : Nat} (hN : 152 ≤ n) (h : Hp) (r : Int32 × Hp) (hr : fX10_keep h = some r) : jM l yX10_keep cX10_keep 2 (some .int) 1 sb D ids shp St n [.ref 107] h (jQi sb D ids shp St n r) := by
  refine jM_of hr rfl (Nat.le_of_ble_eq_true rfl) ?_
  intro p e s m args below meth c hC hret
  have b21 : ∀ (fu : Nat) (h : Hp) (x1 : Int32) , jJ p l e (rmD 1) s m args below meth c 2 sb D ids shp St (fun r => MQ below (jQi sb D ids shp St n r) args s 0 0 (jA sb)) n 0 0 h 21 [(0, .ref 107), (1, .int x1)] [] (fX10_keep_21 fu h x1) := by
    intro fu 
    induction fu with
    | zero => intro h x1 ; exact j_none
    | succ fu ih =>
    intro h x1 
    rw [fX10_keep_21]
    refine j_iload_n hC 1 rfl rfl (dOk_at dt_X10_keep 13 rfl) ?_
    refine j_iconst hC (v := (5 : Int32)) rfl (dOk_at dt_X10_keep 14 rfl) ?_
    refine j_icmp_ge hC (tgt := 44) (by decide) (dOk_at dt_X10_keep 15 rfl) (fun q_3 => ?_) (fun q_3 => ?_)
    · refine j_aload_n hC 0 rfl rfl (dOk_at dt_X10_keep 26 rfl) ?_
      refine j_aload_n hC 0 rfl rfl (dOk_at dt_X10_keep 27 rfl) ?_
      refine j_getR hC flX10_118 (show shp 107 = (10, 88) from rfl) (Nat.lt_of_lt_of_le (Nat.le_of_ble_eq_true rfl : 107 < 152) hN) (by decide) (by decide) (fun _ _ _ => rfl) (fun hs => hs 107 65 142 rfl) (dOk_at dt_X10_keep 28 rfl) ?_
      refine j_iconst hC (v := (0 : Int32)) rfl (dOk_at dt_X10_keep 29 rfl) ?_
      refine j_iald hC (show shp 142 = (21, 2) from rfl) (Nat.lt_of_lt_of_le (Nat.le_of_ble_eq_true rfl : 142 < 152) hN) (dOk_at dt_X10_keep 30 rfl) ?_
      refine j_putI hC St_SP flX10_560 (show shp 107 = (10, 88) from rfl) (Nat.lt_of_lt_of_le (Nat.le_of_ble_eq_true rfl : 107 < 152) hN) (by decide) (by decide) rfl rfl (dOk_at dt_X10_keep 31 rfl) ?_
      refine j_aload_n hC 0 rfl rfl (dOk_at dt_X10_keep 32 rfl) ?_
      refine j_aload_n hC 0 rfl rfl (dOk_at dt_X10_keep 33 rfl) ?_
      refine j_getR hC flX10_121 (show shp 107 = (10, 88) from rfl) (Nat.lt_of_lt_of_le (Nat.le_of_ble_eq_true rfl : 107 < 152) hN) (by decide) (by decide) (fun _ _ _ => rfl) (fun hs => hs 107 66 143 rfl) (dOk_at dt_X10_keep 34 rfl) ?_
      refine j_iconst hC (v := (0 : Int32)) rfl (dOk_at dt_X10_keep 35 rfl) ?_
      refine j_iald hC (show shp 143 = (21, 2) from rfl) (Nat.lt_of_lt_of_le (Nat.le_of_ble_eq_true rfl : 143 < 152) hN) (dOk_at dt_X10_keep 36 rfl) ?_
      refine j_putI hC St_SP flX10_563 (show shp 107 = (10, 88) from rfl) (Nat.lt_of_lt_of_le (Nat.le_of_ble_eq_true rfl : 107 < 152) hN) (by decide) (by decide) rfl rfl (dOk_at dt_X10_keep 37 rfl) ?_
      refine j_aload_n hC 0 rfl rfl (dOk_at dt_X10_keep 38 rfl) ?_
      refine j_aload_n hC 0 rfl rfl (dOk_at dt_X10_keep 39 rfl) ?_
      refine j_getJ hC flX10_388 (show shp 107 = (10, 88) from rfl) (Nat.lt_of_lt_of_le (Nat.le_of_ble_eq_true rfl : 107 < 152) hN) (by decide) (by decide) (fun _ _ _ => rfl) (dOk_at dt_X10_keep 40 rfl) ?_
      refine j_putJ hC St_SP flX10_566 (show shp 107 = (10, 88) from rfl) (Nat.lt_of_lt_of_le (Nat.le_of_ble_eq_true rfl : 107 < 152) hN) (by decide) (by decide) rfl rfl (dOk_at dt_X10_keep 41 rfl) ?_
      refine j_aload_n hC 0 rfl rfl (dOk_at dt_X10_keep 42 rfl) ?_
      refine j_getR hC flX10_121 (show shp 107 = (10, 88) from rfl) (Nat.lt_of_lt_of_le (Nat.le_of_ble_eq_true rfl : 107 < 152) hN) (by decide) (by decide) (fun _ _ _ => rfl) (fun hs => hs 107 66 143 rfl) (dOk_at dt_X10_keep 43 rfl) ?_
      refine j_iconst hC (v := (0 : Int32)) rfl (dOk_at dt_X10_keep 44 rfl) ?_
      refine j_iald hC (show shp 143 = (21, 2) from rfl) (Nat.lt_of_lt_of_le (Nat.le_of_ble_eq_true rfl : 143 < 152) hN) (dOk_at dt_X10_keep 45 rfl) ?_
      exact j_iret hC hret (dOk_at dt_X10_keep 46 rfl)
    · refine j_aload_n hC 0 rfl rfl (dOk_at dt_X10_keep 16 rfl) ?_
      refine j_getR hC flX10_148 (show shp 107 = (10, 88) from rfl) (Nat.lt_of_lt_of_le (Nat.le_of_ble_eq_true rfl : 107 < 152) hN) (by decide) (by decide) (fun _ _ _ => rfl) (fun hs => hs 107 84 151 rfl) (dOk_at dt_X10_keep 17 rfl) ?_
      refine j_iload_n hC 1 rfl rfl (dOk_at dt_X10_keep 18 rfl) ?_
      refine j_aload_n hC 0 rfl rfl (dOk_at dt_X10_keep 19 rfl) ?_
      refine j_getR hC flX10_106 (show shp 107 = (10, 88) from rfl) (Nat.lt_of_lt_of_le (Nat.le_of_ble_eq_true rfl : 107 < 152) hN) (by decide) (by decide) (fun _ _ _ => rfl) (fun hs => hs 107 61 138 rfl) (dOk_at dt_X10_keep 20 rfl) ?_
      refine j_iload_n hC 1 rfl rfl (dOk_at dt_X10_keep 21 rfl) ?_
      refine j_zald hC (show shp 138 = (23, 10) from rfl) (Nat.lt_of_lt_of_le (Nat.le_of_ble_eq_true rfl : 138 < 152) hN) (dOk_at dt_X10_keep 22 rfl) ?_
      refine j_ite (P := isZ (hI h 138 (Int32.toNatClampNeg x1)) = true) (fun hz_4 => ?_) (fun _ => j_none)
      refine j_zast hC St_SP (show shp 151 = (23, 5) from rfl) (Nat.lt_of_lt_of_le (Nat.le_of_ble_eq_true rfl : 151 < 152) hN) hz_4 (dOk_at dt_X10_keep 23 rfl) ?_
      refine j_iinc hC (v := (x1 + (1 : Int32))) (lv' := [(1, .int (x1 + (1 : Int32))), (0, .ref 107)]) 1 rfl (congrArg (fun z => x1 + z) (show Int32.ofInt (1) = (1 : Int32) from by decide)) (by decide) rfl (dOk_at dt_X10_keep 24 rfl) ?_
      refine j_goto hC (tgt := 21) (by decide) (dOk_at dt_X10_keep 25 rfl) ?_
      refine j_sub [1, 0] rfl ?_
      exact ih (uI h 151 (Int32.toNatClampNeg x1) (hI h 138 (Int32.toNatClampNeg x1))) (x1 + (1 : Int32)) 
  unfold fX10_keep
  refine j_aload_n hC 0 rfl rfl (dOk_at dt_X10_keep 0 rfl) ?_
  refine j_iconst hC (v := (0 : Int32)) rfl (dOk_at dt_X10_keep 1 rfl) ?_
  refine j_putI hC St_SP flX10_157 (show shp 107 = (10, 88) from rfl) (Nat.lt_of_lt_of_le (Nat.le_of_ble_eq_true rfl : 107 < 152) hN) (by decide) (by decide) rfl rfl (dOk_at dt_X10_keep 2 rfl) ?_
  refine j_aload_n hC 0 rfl rfl (dOk_at dt_X10_keep 3 rfl) ?_
  refine j_iconst hC (v := (1 : Int32)) rfl (dOk_at dt_X10_keep 4 rfl) ?_
  refine j_putZ hC St_SP flX10_401 (show shp 107 = (10, 88) from rfl) (Nat.lt_of_lt_of_le (Nat.le_of_ble_eq_true rfl : 107 < 152) hN) (by decide) (by decide) rfl rfl rfl (dOk_at dt_X10_keep 5 rfl) ?_
  refine j_aload_n hC 0 rfl rfl (dOk_at dt_X10_keep 6 rfl) ?_
  refine j_aload_n hC 0 rfl rfl (dOk_at dt_X10_keep 7 rfl) ?_
  refine j_getR hC flX10_145 (show shp 107 = (10, 88) from rfl) (Nat.lt_of_lt_of_le (Nat.le_of_ble_eq_true rfl : 107 < 152) hN) (by decide) (by decide) (fun _ _ _ => rfl) (fun hs => hs 107 83 150 rfl) (dOk_at dt_X10_keep 8 rfl) ?_
  refine j_iconst hC (v := (0 : Int32)) rfl (dOk_at dt_X10_keep 9 rfl) ?_
  refine j_callVv hC clX10_554 (fun rz hrz => c_X10_put hN ((show shp 150 = (21, 20) from rfl)) _ _ rz hrz) (show shp 107 = (10, 88) from rfl) (Nat.lt_of_lt_of_le (Nat.le_of_ble_eq_true rfl : 107 < 152) hN) (by decide) rfl rfl ⟨Nat.le_of_ble_eq_true rfl, Nat.le_of_ble_eq_true rfl⟩ ⟨Nat.le_refl 0, Nat.le_refl 0⟩ (As := [.ref 150, .int (0 : Int32)]) (st := []) rfl (Nat.le_of_ble_eq_true rfl) (dOk_at dt_X10_keep 10 rfl) (fun h_2 _ => ?_)
  refine j_iconst hC (v := (0 : Int32)) rfl (dOk_at dt_X10_keep 11 rfl) ?_
  refine j_istore_n hC rfl (lv' := [(1, .int (0 : Int32)), (0, .ref 107)]) (by decide) rfl (dOk_at dt_X10_keep 12 rfl) ?_
  refine j_sub [1, 0] rfl ?_
  exact b21 FU h_2 (0 : Int32) 
def tb_X10_back : List (Nat × Instr × Nat) := [(0, .aload_n 0, 1), (1, .iconst 0, 1), (2, .putfield 157, 3), (5, .aload_n 0, 1), (6, .getfield 401, 3), (9, .ifCond .ne 5, 3), (12, .iconst (-1), 1), (13, .ireturn, 1), (14, .aload_n 0, 1), (15, .aload_n 0, 1), (16, .getfield 145, 3), (19, .iconst 0, 1), (20, .invokevirtual 557, 3), (23, .iconst 0, 1), (24, .istore_n 1, 1), (25, .iload_n 1, 1), (26, .iconst 5, 1), (27, .if_icmp .ge 21, 3), (30, .aload_n 0, 1), (31, .getfield 106, 3), (34, .iload_n 1, 1), (35, .aload_n 0, 1), (36, .getfield 148, 3), (39, .iload_n 1, 1), (40, .baload, 1), (41, .bastore, 1), (42, .iinc 1 1, 3), (45, .goto (-20), 3), (48, .aload_n 0, 1), (49, .getfield 118, 3), (52, .iconst 0, 1), (53, .aload_n 0, 1), (54, .getfield 560, 3), (57, .iastore, 1), (58, .aload_n 0, 1), (59, .getfield 121, 3), (62, .iconst 0, 1), (63, .aload_n 0, 1), (64, .getfield 563, 3), (67, .iastore, 1), (68, .aload_n 0, 1), (69, .aload_n 0, 1), (70, .getfield 566, 3), (73, .putfield 388, 3), (76, .aload_n 0, 1), (77, .iconst 0, 1), (78, .putfield 398, 3), (81, .aload_n 0, 1), (82, .getfield 121, 3), (85, .iconst 0, 1), (86, .iaload, 1), (87, .ireturn, 1)]
theorem dt_X10_back : dOk cX10_back tb_X10_back = true := by decide +kernel
def fX10_back_25 : Nat → Hp → Int32 → Option (Int32 × Hp)
  | 0, _, _ => none
  | fu + 1, h, x1 => if (5 : Int32) ≤ x1 then (if inb (0 : Int32) 2 then (if inb (0 : Int32) 2 then (if inb (0 : Int32) 2 then (some ((hI (uI (uJ (uI (uI h 142 (Int32.toNatClampNeg (0 : Int32)) (hI h 107 85)) 143 (Int32.toNatClampNeg (0 : Int32)) (hI (uI h 142 (Int32.toNatClampNeg (0 : Int32)) (hI h 107 85)) 107 86)) 107 67 (hJ (uI (uI h 142 (Int32.toNatClampNeg (0 : Int32)) (hI h 107 85)) 143 (Int32.toNatClampNeg (0 : Int32)) (hI (uI h 142 (Int32.toNatClampNeg (0 : Int32)) (hI h 107 85)) 107 86)) 107 87)) 107 80 (0 : Int32)) 143 (Int32.toNatClampNeg (0 : Int32))), (uI (uJ (uI (uI h 142 (Int32.toNatClampNeg (0 : Int32)) (hI h 107 85)) 143 (Int32.toNatClampNeg (0 : Int32)) (hI (uI h 142 (Int32.toNatClampNeg (0 : Int32)) (hI h 107 85)) 107 86)) 107 67 (hJ (uI (uI h 142 (Int32.toNatClampNeg (0 : Int32)) (hI h 107 85)) 143 (Int32.toNatClampNeg (0 : Int32)) (hI (uI h 142 (Int32.toNatClampNeg (0 : Int32)) (hI h 107 85)) 107 86)) 107 87)) 107 80 (0 : Int32)))) else none) else none) else none) else (if inb x1 5 then (if isZ (hI h 151 (Int32.toNatClampNeg x1)) then (if inb x1 10 then ((fX10_back_25 fu) (uI h 138 (Int32.toNatClampNeg x1) (hI h 151 (Int32.toNatClampNeg x1))) (x1 + (1 : Int32))) else none) else none) else none)
def fX10_back (h : Hp) : Option (Int32 × Hp) := if (hI (uI h 107 2 (0 : Int32)) 107 82) = 0 then (some ((-1 : Int32), (uI h 107 2 (0 : Int32)))) else ((fX10_bringBack 150 20 (uI h 107 2 (0 : Int32)) (0 : Int32)).bind (fun h_3 => fX10_back_25 FU h_3 (0 : Int32)))
set_option maxRecDepth 100000 in
set_option maxHeartbeats 4000000 in
theorem c_X10_back {l : Launch} {sb : State} {D : va_G} {ids : Nat → ClassId} {n : Nat} (hN : 152 ≤ n) (h : Hp) (r : Int32 × Hp) (hr : fX10_back h = some r) : jM l yX10_back cX10_back 2 (some .int) 1 sb D ids shp St n [.ref 107] h (jQi sb D ids shp St n r) := by
  refine jM_of hr rfl (Nat.le_of_ble_eq_true rfl) ?_
  intro p e s m args below meth c hC hret
  have b25 : ∀ (fu : Nat) (h : Hp) (x1 : Int32) , jJ p l e (rmD 1) s m args below meth c 2 sb D ids shp St (fun r => MQ below (jQi sb D ids shp St n r) args s 0 0 (jA sb)) n 0 0 h 25 [(0, .ref 107), (1, .int x1)] [] (fX10_back_25 fu h x1) := by
    intro fu 
    induction fu with
    | zero => intro h x1 ; exact j_none
    | succ fu ih =>
    intro h x1 
    rw [fX10_back_25]
    refine j_iload_n hC 1 rfl rfl (dOk_at dt_X10_back 15 rfl) ?_
    refine j_iconst hC (v := (5 : Int32)) rfl (dOk_at dt_X10_back 16 rfl) ?_
    refine j_icmp_ge hC (tgt := 48) (by decide) (dOk_at dt_X10_back 17 rfl) (fun q_4 => ?_) (fun q_4 => ?_)
    · refine j_aload_n hC 0 rfl rfl (dOk_at dt_X10_back 28 rfl) ?_
      refine j_getR hC flX10_118 (show shp 107 = (10, 88) from rfl) (Nat.lt_of_lt_of_le (Nat.le_of_ble_eq_true rfl : 107 < 152) hN) (by decide) (by decide) (fun _ _ _ => rfl) (fun hs => hs 107 65 142 rfl) (dOk_at dt_X10_back 29 rfl) ?_
      refine j_iconst hC (v := (0 : Int32)) rfl (dOk_at dt_X10_back 30 rfl) ?_
      refine j_aload_n hC 0 rfl rfl (dOk_at dt_X10_back 31 rfl) ?_
      refine j_getI hC flX10_560 (show shp 107 = (10, 88) from rfl) (Nat.lt_of_lt_of_le (Nat.le_of_ble_eq_true rfl : 107 < 152) hN) (by decide) (by decide) (fun _ _ _ => rfl) (dOk_at dt_X10_back 32 rfl) ?_
      refine j_iast hC St_SP (show shp 142 = (21, 2) from rfl) (Nat.lt_of_lt_of_le (Nat.le_of_ble_eq_true rfl : 142 < 152) hN) (dOk_at dt_X10_back 33 rfl) ?_
      refine j_aload_n hC 0 rfl rfl (dOk_at dt_X10_back 34 rfl) ?_
      refine j_getR hC flX10_121 (show shp 107 = (10, 88) from rfl) (Nat.lt_of_lt_of_le (Nat.le_of_ble_eq_true rfl : 107 < 152) hN) (by decide) (by decide) (fun _ _ _ => rfl) (fun hs => hs 107 66 143 rfl) (dOk_at dt_X10_back 35 rfl) ?_
      refine j_iconst hC (v := (0 : Int32)) rfl (dOk_at dt_X10_back 36 rfl) ?_
      refine j_aload_n hC 0 rfl rfl (dOk_at dt_X10_back 37 rfl) ?_
      refine j_getI hC flX10_563 (show shp 107 = (10, 88) from rfl) (Nat.lt_of_lt_of_le (Nat.le_of_ble_eq_true rfl : 107 < 152) hN) (by decide) (by decide) (fun _ _ _ => rfl) (dOk_at dt_X10_back 38 rfl) ?_
      refine j_iast hC St_SP (show shp 143 = (21, 2) from rfl) (Nat.lt_of_lt_of_le (Nat.le_of_ble_eq_true rfl : 143 < 152) hN) (dOk_at dt_X10_back 39 rfl) ?_
      refine j_aload_n hC 0 rfl rfl (dOk_at dt_X10_back 40 rfl) ?_
      refine j_aload_n hC 0 rfl rfl (dOk_at dt_X10_back 41 rfl) ?_
      refine j_getJ hC flX10_566 (show shp 107 = (10, 88) from rfl) (Nat.lt_of_lt_of_le (Nat.le_of_ble_eq_true rfl : 107 < 152) hN) (by decide) (by decide) (fun _ _ _ => rfl) (dOk_at dt_X10_back 42 rfl) ?_
      refine j_putJ hC St_SP flX10_388 (show shp 107 = (10, 88) from rfl) (Nat.lt_of_lt_of_le (Nat.le_of_ble_eq_true rfl : 107 < 152) hN) (by decide) (by decide) rfl rfl (dOk_at dt_X10_back 43 rfl) ?_
      refine j_aload_n hC 0 rfl rfl (dOk_at dt_X10_back 44 rfl) ?_
      refine j_iconst hC (v := (0 : Int32)) rfl (dOk_at dt_X10_back 45 rfl) ?_
      refine j_putI hC St_SP flX10_398 (show shp 107 = (10, 88) from rfl) (Nat.lt_of_lt_of_le (Nat.le_of_ble_eq_true rfl : 107 < 152) hN) (by decide) (by decide) rfl rfl (dOk_at dt_X10_back 46 rfl) ?_
      refine j_aload_n hC 0 rfl rfl (dOk_at dt_X10_back 47 rfl) ?_
      refine j_getR hC flX10_121 (show shp 107 = (10, 88) from rfl) (Nat.lt_of_lt_of_le (Nat.le_of_ble_eq_true rfl : 107 < 152) hN) (by decide) (by decide) (fun _ _ _ => rfl) (fun hs => hs 107 66 143 rfl) (dOk_at dt_X10_back 48 rfl) ?_
      refine j_iconst hC (v := (0 : Int32)) rfl (dOk_at dt_X10_back 49 rfl) ?_
      refine j_iald hC (show shp 143 = (21, 2) from rfl) (Nat.lt_of_lt_of_le (Nat.le_of_ble_eq_true rfl : 143 < 152) hN) (dOk_at dt_X10_back 50 rfl) ?_
      exact j_iret hC hret (dOk_at dt_X10_back 51 rfl)
    · refine j_aload_n hC 0 rfl rfl (dOk_at dt_X10_back 18 rfl) ?_
      refine j_getR hC flX10_106 (show shp 107 = (10, 88) from rfl) (Nat.lt_of_lt_of_le (Nat.le_of_ble_eq_true rfl : 107 < 152) hN) (by decide) (by decide) (fun _ _ _ => rfl) (fun hs => hs 107 61 138 rfl) (dOk_at dt_X10_back 19 rfl) ?_
      refine j_iload_n hC 1 rfl rfl (dOk_at dt_X10_back 20 rfl) ?_
      refine j_aload_n hC 0 rfl rfl (dOk_at dt_X10_back 21 rfl) ?_
      refine j_getR hC flX10_148 (show shp 107 = (10, 88) from rfl) (Nat.lt_of_lt_of_le (Nat.le_of_ble_eq_true rfl : 107 < 152) hN) (by decide) (by decide) (fun _ _ _ => rfl) (fun hs => hs 107 84 151 rfl) (dOk_at dt_X10_back 22 rfl) ?_
      refine j_iload_n hC 1 rfl rfl (dOk_at dt_X10_back 23 rfl) ?_
      refine j_zald hC (show shp 151 = (23, 5) from rfl) (Nat.lt_of_lt_of_le (Nat.le_of_ble_eq_true rfl : 151 < 152) hN) (dOk_at dt_X10_back 24 rfl) ?_
      refine j_ite (P := isZ (hI h 151 (Int32.toNatClampNeg x1)) = true) (fun hz_5 => ?_) (fun _ => j_none)
      refine j_zast hC St_SP (show shp 138 = (23, 10) from rfl) (Nat.lt_of_lt_of_le (Nat.le_of_ble_eq_true rfl : 138 < 152) hN) hz_5 (dOk_at dt_X10_back 25 rfl) ?_
      refine j_iinc hC (v := (x1 + (1 : Int32))) (lv' := [(1, .int (x1 + (1 : Int32))), (0, .ref 107)]) 1 rfl (congrArg (fun z => x1 + z) (show Int32.ofInt (1) = (1 : Int32) from by decide)) (by decide) rfl (dOk_at dt_X10_back 26 rfl) ?_
      refine j_goto hC (tgt := 25) (by decide) (dOk_at dt_X10_back 27 rfl) ?_
      refine j_sub [1, 0] rfl ?_
      exact ih (uI h 138 (Int32.toNatClampNeg x1) (hI h 151 (Int32.toNatClampNeg x1))) (x1 + (1 : Int32)) 
  unfold fX10_back
  refine j_aload_n hC 0 rfl rfl (dOk_at dt_X10_back 0 rfl) ?_
  refine j_iconst hC (v := (0 : Int32)) rfl (dOk_at dt_X10_back 1 rfl) ?_
  refine j_putI hC St_SP flX10_157 (show shp 107 = (10, 88) from rfl) (Nat.lt_of_lt_of_le (Nat.le_of_ble_eq_true rfl : 107 < 152) hN) (by decide) (by decide) rfl rfl (dOk_at dt_X10_back 2 rfl) ?_
  refine j_aload_n hC 0 rfl rfl (dOk_at dt_X10_back 3 rfl) ?_
  refine j_getI hC flX10_401 (show shp 107 = (10, 88) from rfl) (Nat.lt_of_lt_of_le (Nat.le_of_ble_eq_true rfl : 107 < 152) hN) (by decide) (by decide) (fun _ _ _ => rfl) (dOk_at dt_X10_back 4 rfl) ?_
  refine j_if_ne hC (tgt := 14) (by decide) (dOk_at dt_X10_back 5 rfl) (fun q_1 => ?_) (fun q_1 => ?_)
  · refine j_aload_n hC 0 rfl rfl (dOk_at dt_X10_back 8 rfl) ?_
    refine j_aload_n hC 0 rfl rfl (dOk_at dt_X10_back 9 rfl) ?_
    refine j_getR hC flX10_145 (show shp 107 = (10, 88) from rfl) (Nat.lt_of_lt_of_le (Nat.le_of_ble_eq_true rfl : 107 < 152) hN) (by decide) (by decide) (fun _ _ _ => rfl) (fun hs => hs 107 83 150 rfl) (dOk_at dt_X10_back 10 rfl) ?_
    refine j_iconst hC (v := (0 : Int32)) rfl (dOk_at dt_X10_back 11 rfl) ?_
    refine j_callVv hC clX10_557 (fun rz hrz => c_X10_bringBack hN ((show shp 150 = (21, 20) from rfl)) _ _ rz hrz) (show shp 107 = (10, 88) from rfl) (Nat.lt_of_lt_of_le (Nat.le_of_ble_eq_true rfl : 107 < 152) hN) (by decide) rfl rfl ⟨Nat.le_of_ble_eq_true rfl, Nat.le_of_ble_eq_true rfl⟩ ⟨Nat.le_refl 0, Nat.le_refl 0⟩ (As := [.ref 150, .int (0 : Int32)]) (st := []) rfl (Nat.le_of_ble_eq_true rfl) (dOk_at dt_X10_back 12 rfl) (fun h_3 _ => ?_)
    refine j_iconst hC (v := (0 : Int32)) rfl (dOk_at dt_X10_back 13 rfl) ?_
    refine j_istore_n hC rfl (lv' := [(1, .int (0 : Int32)), (0, .ref 107)]) (by decide) rfl (dOk_at dt_X10_back 14 rfl) ?_
    refine j_sub [1, 0] rfl ?_
    exact b25 FU h_3 (0 : Int32) 
  · refine j_iconst hC (v := (-1 : Int32)) rfl (dOk_at dt_X10_back 6 rfl) ?_
    exact j_iret hC hret (dOk_at dt_X10_back 7 rfl)
def tb_X10_count : List (Nat × Instr × Nat) := [(0, .aload_n 0, 1), (1, .iconst 0, 1), (2, .putfield 157, 3), (5, .iconst 0, 1), (6, .istore_n 2, 1), (7, .iload_n 1, 1), (8, .tableswitch 220 0 15 #[80, 85, 90, 95, 100, 105, 110, 117, 126, 135, 141, 148, 175, 205, 210, 215], 80), (88, .aload_n 0, 1), (89, .getfield 243, 3), (92, .ireturn, 1), (93, .aload_n 0, 1), (94, .getfield 246, 3), (97, .ireturn, 1), (98, .aload_n 0, 1), (99, .getfield 249, 3), (102, .ireturn, 1), (103, .aload_n 0, 1), (104, .getfield 252, 3), (107, .ireturn, 1), (108, .aload_n 0, 1), (109, .getfield 255, 3), (112, .ireturn, 1), (113, .aload_n 0, 1), (114, .getfield 261, 3), (117, .ireturn, 1), (118, .aload_n 0, 1), (119, .getfield 121, 3), (122, .iconst 0, 1), (123, .iaload, 1), (124, .ireturn, 1), (125, .aload_n 0, 1), (126, .getfield 112, 3), (129, .iconst 0, 1), (130, .invokestatic 494, 3), (133, .ireturn, 1), (134, .aload_n 0, 1), (135, .getfield 115, 3), (138, .iconst 0, 1), (139, .invokestatic 494, 3), (142, .ireturn, 1), (143, .aload_n 0, 1), (144, .iconst 0, 1), (145, .invokevirtual 498, 3), (148, .ireturn, 1), (149, .aload_n 0, 1), (150, .getfield 118, 3), (153, .iconst 0, 1), (154, .iaload, 1), (155, .ireturn, 1), (156, .iconst 0, 1), (157, .istore_n 3, 1), (158, .iload_n 3, 1), (159, .aload_n 0, 1), (160, .getfield 249, 3), (163, .if_icmp .ge 18, 3), (166, .iload_n 2, 1), (167, .aload_n 0, 1), (168, .getfield 103, 3), (171, .iload_n 3, 1), (172, .iaload, 1), (173, .iadd, 1), (174, .istore_n 2, 1), (175, .iinc 3 1, 3), (178, .goto (-20), 3), (181, .iload_n 2, 1), (182, .ireturn, 1), (183, .iconst 0, 1), (184, .istore_n 3, 1), (185, .iload_n 3, 1), (186, .aload_n 0, 1), (187, .getfield 252, 3), (190, .if_icmp .ge 21, 3), (193, .iload_n 2, 1), (194, .aload_n 0, 1), (195, .getfield 109, 3), (198, .iload_n 3, 1), (199, .iaload, 1), (200, .invokestatic 423, 3), (203, .iadd, 1), (204, .istore_n 2, 1), (205, .iinc 3 1, 3), (208, .goto (-23), 3), (211, .iload_n 2, 1), (212, .ireturn, 1), (213, .aload_n 0, 1), (214, .getfield 395, 3), (217, .ireturn, 1), (218, .aload_n 0, 1), (219, .invokevirtual 542, 3), (222, .ireturn, 1), (223, .aload_n 0, 1), (224, .getfield 398, 3), (227, .ireturn, 1), (228, .iconst (-1), 1), (229, .ireturn, 1)]
theorem dt_X10_count : dOk cX10_count tb_X10_count = true := by decide +kernel
def fX10_count_158 : Nat → Hp → Int32 → Int32 → Option (Int32 × Hp)
  | 0, _, _, _ => none
  | fu + 1, h, x2, x3 => if (hI h 107 14) ≤ x3 then (some (x2, h)) else (if inb x3 10 then ((fX10_count_158 fu) h (x2 + (hI h 137 (Int32.toNatClampNeg x3))) (x3 + (1 : Int32))) else none)
def fX10_count_185 : Nat → Hp → Int32 → Int32 → Option (Int32 × Hp)
  | 0, _, _, _ => none
  | fu + 1, h, x2, x3 => if (hI h 107 15) ≤ x3 then (some (x2, h)) else (if inb x3 10 then (bnd (fX10_manyOf h (hI h 139 (Int32.toNatClampNeg x3))) (fun v_27 h_28 => (fX10_count_185 fu) h_28 (x2 + v_27) (x3 + (1 : Int32)))) else none)
def fX10_count (h : Hp) (x1 : Int32) : Option (Int32 × Hp) := if inT x1 0 15 then (if x1 = (0 : Int32) then (some ((hI (uI h 107 2 (0 : Int32)) 107 12), (uI h 107 2 (0 : Int32)))) else (if x1 = (1 : Int32) then (some ((hI (uI h 107 2 (0 : Int32)) 107 13), (uI h 107 2 (0 : Int32)))) else (if x1 = (2 : Int32) then (some ((hI (uI h 107 2 (0 : Int32)) 107 14), (uI h 107 2 (0 : Int32)))) else (if x1 = (3 : Int32) then (some ((hI (uI h 107 2 (0 : Int32)) 107 15), (uI h 107 2 (0 : Int32)))) else (if x1 = (4 : Int32) then (some ((hI (uI h 107 2 (0 : Int32)) 107 16), (uI h 107 2 (0 : Int32)))) else (if x1 = (5 : Int32) then (some ((hI (uI h 107 2 (0 : Int32)) 107 18), (uI h 107 2 (0 : Int32)))) else (if x1 = (6 : Int32) then (if inb (0 : Int32) 2 then (some ((hI (uI h 107 2 (0 : Int32)) 143 (Int32.toNatClampNeg (0 : Int32))), (uI h 107 2 (0 : Int32)))) else none) else (if x1 = (7 : Int32) then (bnd (fX10_sumOf 140 10 (uI h 107 2 (0 : Int32)) (0 : Int32)) (fun v_9 h_10 => some (v_9, h_10))) else (if x1 = (8 : Int32) then (bnd (fX10_sumOf 141 10 (uI h 107 2 (0 : Int32)) (0 : Int32)) (fun v_12 h_13 => some (v_12, h_13))) else (if x1 = (9 : Int32) then (bnd (fX10_shedMany (uI h 107 2 (0 : Int32)) (0 : Int32)) (fun v_15 h_16 => some (v_15, h_16))) else (if x1 = (10 : Int32) then (if inb (0 : Int32) 2 then (some ((hI (uI h 107 2 (0 : Int32)) 142 (Int32.toNatClampNeg (0 : Int32))), (uI h 107 2 (0 : Int32)))) else none) else (if x1 = (11 : Int32) then (fX10_count_158 FU (uI h 107 2 (0 : Int32)) (0 : Int32) (0 : Int32)) else (if x1 = (12 : Int32) then (fX10_count_185 FU (uI h 107 2 (0 : Int32)) (0 : Int32) (0 : Int32)) else (if x1 = (13 : Int32) then (some ((hI (uI h 107 2 (0 : Int32)) 107 76), (uI h 107 2 (0 : Int32)))) else (if x1 = (14 : Int32) then (bnd (fX10_knownBy (uI h 107 2 (0 : Int32))) (fun v_22 h_23 => some (v_22, h_23))) else (if x1 = (15 : Int32) then (some ((hI (uI h 107 2 (0 : Int32)) 107 80), (uI h 107 2 (0 : Int32)))) else none)))))))))))))))) else (some ((-1 : Int32), (uI h 107 2 (0 : Int32))))
set_option maxRecDepth 100000 in
set_option maxHeartbeats 4000000 in
theorem c_X10_count {l : Launch} {sb : State} {D : va_G} {ids : Nat → ClassId} {n : Nat} (hN : 152 ≤ n) (h : Hp) (x1 : Int32) (r : Int32 × Hp) (hr : fX10_count h x1 = some r) : jM l yX10_count cX10_count 4 (some .int) 1 sb D ids shp St n [.ref 107, .int x1] h (jQi sb D ids shp St n r) := by
  refine jM_of hr rfl (Nat.le_of_ble_eq_true rfl) ?_
  intro p e s m args below meth c hC hret
  have b158 : ∀ (fu : Nat) (h : Hp) (x2 : Int32) (x3 : Int32) , jJ p l e (rmD 1) s m args below meth c 4 sb D ids shp St (fun r => MQ below (jQi sb D ids shp St n r) args s 0 0 (jA sb)) n 0 0 h 158 [(0, .ref 107), (2, .int x2), (3, .int x3)] [] (fX10_count_158 fu h x2 x3) := by
    intro fu 
    induction fu with
    | zero => intro h x2 x3 ; exact j_none
    | succ fu ih =>
    intro h x2 x3 
    rw [fX10_count_158]
    refine j_iload_n hC 2 rfl rfl (dOk_at dt_X10_count 51 rfl) ?_
    refine j_aload_n hC 0 rfl rfl (dOk_at dt_X10_count 52 rfl) ?_
    refine j_getI hC flX10_249 (show shp 107 = (10, 88) from rfl) (Nat.lt_of_lt_of_le (Nat.le_of_ble_eq_true rfl : 107 < 152) hN) (by decide) (by decide) (fun _ _ _ => rfl) (dOk_at dt_X10_count 53 rfl) ?_
    refine j_icmp_ge hC (tgt := 181) (by decide) (dOk_at dt_X10_count 54 rfl) (fun q_25 => ?_) (fun q_25 => ?_)
    · refine j_iload_n hC 1 rfl rfl (dOk_at dt_X10_count 64 rfl) ?_
      exact j_iret hC hret (dOk_at dt_X10_count 65 rfl)
    · refine j_iload_n hC 1 rfl rfl (dOk_at dt_X10_count 55 rfl) ?_
      refine j_aload_n hC 0 rfl rfl (dOk_at dt_X10_count 56 rfl) ?_
      refine j_getR hC flX10_103 (show shp 107 = (10, 88) from rfl) (Nat.lt_of_lt_of_le (Nat.le_of_ble_eq_true rfl : 107 < 152) hN) (by decide) (by decide) (fun _ _ _ => rfl) (fun hs => hs 107 60 137 rfl) (dOk_at dt_X10_count 57 rfl) ?_
      refine j_iload_n hC 2 rfl rfl (dOk_at dt_X10_count 58 rfl) ?_
      refine j_iald hC (show shp 137 = (21, 10) from rfl) (Nat.lt_of_lt_of_le (Nat.le_of_ble_eq_true rfl : 137 < 152) hN) (dOk_at dt_X10_count 59 rfl) ?_
      refine j_iadd hC (dOk_at dt_X10_count 60 rfl) ?_
      refine j_istore_n hC rfl (lv' := [(2, .int (x2 + (hI h 137 (Int32.toNatClampNeg x3)))), (0, .ref 107), (3, .int x3)]) (by decide) rfl (dOk_at dt_X10_count 61 rfl) ?_
      refine j_iinc hC (v := (x3 + (1 : Int32))) (lv' := [(3, .int (x3 + (1 : Int32))), (2, .int (x2 + (hI h 137 (Int32.toNatClampNeg x3)))), (0, .ref 107)]) 2 rfl (congrArg (fun z => x3 + z) (show Int32.ofInt (1) = (1 : Int32) from by decide)) (by decide) rfl (dOk_at dt_X10_count 62 rfl) ?_
      refine j_goto hC (tgt := 158) (by decide) (dOk_at dt_X10_count 63 rfl) ?_
      refine j_sub [2, 1, 0] rfl ?_
      exact ih h (x2 + (hI h 137 (Int32.toNatClampNeg x3))) (x3 + (1 : Int32)) 
  have b185 : ∀ (fu : Nat) (h : Hp) (x2 : Int32) (x3 : Int32) , jJ p l e (rmD 1) s m args below meth c 4 sb D ids shp St (fun r => MQ below (jQi sb D ids shp St n r) args s 0 0 (jA sb)) n 0 0 h 185 [(0, .ref 107), (2, .int x2), (3, .int x3)] [] (fX10_count_185 fu h x2 x3) := by
    intro fu 
    induction fu with
    | zero => intro h x2 x3 ; exact j_none
    | succ fu ih =>
    intro h x2 x3 
    rw [fX10_count_185]
    refine j_iload_n hC 2 rfl rfl (dOk_at dt_X10_count 68 rfl) ?_
    refine j_aload_n hC 0 rfl rfl (dOk_at dt_X10_count 69 rfl) ?_
    refine j_getI hC flX10_252 (show shp 107 = (10, 88) from rfl) (Nat.lt_of_lt_of_le (Nat.le_of_ble_eq_true rfl : 107 < 152) hN) (by decide) (by decide) (fun _ _ _ => rfl) (dOk_at dt_X10_count 70 rfl) ?_
    refine j_icmp_ge hC (tgt := 211) (by decide) (dOk_at dt_X10_count 71 rfl) (fun q_26 => ?_) (fun q_26 => ?_)
    · refine j_iload_n hC 1 rfl rfl (dOk_at dt_X10_count 82 rfl) ?_
      exact j_iret hC hret (dOk_at dt_X10_count 83 rfl)
    · refine j_iload_n hC 1 rfl rfl (dOk_at dt_X10_count 72 rfl) ?_
      refine j_aload_n hC 0 rfl rfl (dOk_at dt_X10_count 73 rfl) ?_
      refine j_getR hC flX10_109 (show shp 107 = (10, 88) from rfl) (Nat.lt_of_lt_of_le (Nat.le_of_ble_eq_true rfl : 107 < 152) hN) (by decide) (by decide) (fun _ _ _ => rfl) (fun hs => hs 107 62 139 rfl) (dOk_at dt_X10_count 74 rfl) ?_
      refine j_iload_n hC 2 rfl rfl (dOk_at dt_X10_count 75 rfl) ?_
      refine j_iald hC (show shp 139 = (21, 10) from rfl) (Nat.lt_of_lt_of_le (Nat.le_of_ble_eq_true rfl : 139 < 152) hN) (dOk_at dt_X10_count 76 rfl) ?_
      refine j_callSi hC clX10_423 (fun rz hrz => c_X10_manyOf hN _ _ rz hrz) rfl ⟨Nat.le_of_ble_eq_true rfl, Nat.le_of_ble_eq_true rfl⟩ ⟨Nat.le_refl 0, Nat.le_refl 0⟩ (As := [.int (hI h 139 (Int32.toNatClampNeg x3))]) (st := [.int x2]) rfl (Nat.le_of_ble_eq_true rfl) (dOk_at dt_X10_count 77 rfl) (fun v_27 h_28 _ => ?_)
      refine j_iadd hC (dOk_at dt_X10_count 78 rfl) ?_
      refine j_istore_n hC rfl (lv' := [(2, .int (x2 + v_27)), (0, .ref 107), (3, .int x3)]) (by decide) rfl (dOk_at dt_X10_count 79 rfl) ?_
      refine j_iinc hC (v := (x3 + (1 : Int32))) (lv' := [(3, .int (x3 + (1 : Int32))), (2, .int (x2 + v_27)), (0, .ref 107)]) 2 rfl (congrArg (fun z => x3 + z) (show Int32.ofInt (1) = (1 : Int32) from by decide)) (by decide) rfl (dOk_at dt_X10_count 80 rfl) ?_
      refine j_goto hC (tgt := 185) (by decide) (dOk_at dt_X10_count 81 rfl) ?_
      refine j_sub [2, 1, 0] rfl ?_
      exact ih h_28 (x2 + v_27) (x3 + (1 : Int32)) 
  unfold fX10_count
  refine j_aload_n hC 0 rfl rfl (dOk_at dt_X10_count 0 rfl) ?_
  refine j_iconst hC (v := (0 : Int32)) rfl (dOk_at dt_X10_count 1 rfl) ?_
  refine j_putI hC St_SP flX10_157 (show shp 107 = (10, 88) from rfl) (Nat.lt_of_lt_of_le (Nat.le_of_ble_eq_true rfl : 107 < 152) hN) (by decide) (by decide) rfl rfl (dOk_at dt_X10_count 2 rfl) ?_
  refine j_iconst hC (v := (0 : Int32)) rfl (dOk_at dt_X10_count 3 rfl) ?_
  refine j_istore_n hC rfl (lv' := [(2, .int (0 : Int32)), (0, .ref 107), (1, .int x1)]) (by decide) rfl (dOk_at dt_X10_count 4 rfl) ?_
  refine j_iload_n hC 2 rfl rfl (dOk_at dt_X10_count 5 rfl) ?_
  refine j_ite (P := inT x1 0 15 = true) (fun _ => ?_) (fun q => ?_)
  · refine j_ite (P := x1 = (0 : Int32)) (fun q_1 => ?_) (fun _ => ?_)
    · refine j_tswIn hC (tgt := 88) q_1 (by decide) (by decide) rfl (by decide) (dOk_at dt_X10_count 6 rfl) ?_
      refine j_aload_n hC 1 rfl rfl (dOk_at dt_X10_count 7 rfl) ?_
      refine j_getI hC flX10_243 (show shp 107 = (10, 88) from rfl) (Nat.lt_of_lt_of_le (Nat.le_of_ble_eq_true rfl : 107 < 152) hN) (by decide) (by decide) (fun _ _ _ => rfl) (dOk_at dt_X10_count 8 rfl) ?_
      exact j_iret hC hret (dOk_at dt_X10_count 9 rfl)
    refine j_ite (P := x1 = (1 : Int32)) (fun q_2 => ?_) (fun _ => ?_)
    · refine j_tswIn hC (tgt := 93) q_2 (by decide) (by decide) rfl (by decide) (dOk_at dt_X10_count 6 rfl) ?_
      refine j_aload_n hC 1 rfl rfl (dOk_at dt_X10_count 10 rfl) ?_
      refine j_getI hC flX10_246 (show shp 107 = (10, 88) from rfl) (Nat.lt_of_lt_of_le (Nat.le_of_ble_eq_true rfl : 107 < 152) hN) (by decide) (by decide) (fun _ _ _ => rfl) (dOk_at dt_X10_count 11 rfl) ?_
      exact j_iret hC hret (dOk_at dt_X10_count 12 rfl)
    refine j_ite (P := x1 = (2 : Int32)) (fun q_3 => ?_) (fun _ => ?_)
    · refine j_tswIn hC (tgt := 98) q_3 (by decide) (by decide) rfl (by decide) (dOk_at dt_X10_count 6 rfl) ?_
      refine j_aload_n hC 1 rfl rfl (dOk_at dt_X10_count 13 rfl) ?_
      refine j_getI hC flX10_249 (show shp 107 = (10, 88) from rfl) (Nat.lt_of_lt_of_le (Nat.le_of_ble_eq_true rfl : 107 < 152) hN) (by decide) (by decide) (fun _ _ _ => rfl) (dOk_at dt_X10_count 14 rfl) ?_
      exact j_iret hC hret (dOk_at dt_X10_count 15 rfl)
    refine j_ite (P := x1 = (3 : Int32)) (fun q_4 => ?_) (fun _ => ?_)
    · refine j_tswIn hC (tgt := 103) q_4 (by decide) (by decide) rfl (by decide) (dOk_at dt_X10_count 6 rfl) ?_
      refine j_aload_n hC 1 rfl rfl (dOk_at dt_X10_count 16 rfl) ?_
      refine j_getI hC flX10_252 (show shp 107 = (10, 88) from rfl) (Nat.lt_of_lt_of_le (Nat.le_of_ble_eq_true rfl : 107 < 152) hN) (by decide) (by decide) (fun _ _ _ => rfl) (dOk_at dt_X10_count 17 rfl) ?_
      exact j_iret hC hret (dOk_at dt_X10_count 18 rfl)
    refine j_ite (P := x1 = (4 : Int32)) (fun q_5 => ?_) (fun _ => ?_)
    · refine j_tswIn hC (tgt := 108) q_5 (by decide) (by decide) rfl (by decide) (dOk_at dt_X10_count 6 rfl) ?_
      refine j_aload_n hC 1 rfl rfl (dOk_at dt_X10_count 19 rfl) ?_
      refine j_getI hC flX10_255 (show shp 107 = (10, 88) from rfl) (Nat.lt_of_lt_of_le (Nat.le_of_ble_eq_true rfl : 107 < 152) hN) (by decide) (by decide) (fun _ _ _ => rfl) (dOk_at dt_X10_count 20 rfl) ?_
      exact j_iret hC hret (dOk_at dt_X10_count 21 rfl)
    refine j_ite (P := x1 = (5 : Int32)) (fun q_6 => ?_) (fun _ => ?_)
    · refine j_tswIn hC (tgt := 113) q_6 (by decide) (by decide) rfl (by decide) (dOk_at dt_X10_count 6 rfl) ?_
      refine j_aload_n hC 1 rfl rfl (dOk_at dt_X10_count 22 rfl) ?_
      refine j_getI hC flX10_261 (show shp 107 = (10, 88) from rfl) (Nat.lt_of_lt_of_le (Nat.le_of_ble_eq_true rfl : 107 < 152) hN) (by decide) (by decide) (fun _ _ _ => rfl) (dOk_at dt_X10_count 23 rfl) ?_
      exact j_iret hC hret (dOk_at dt_X10_count 24 rfl)
    refine j_ite (P := x1 = (6 : Int32)) (fun q_7 => ?_) (fun _ => ?_)
    · refine j_tswIn hC (tgt := 118) q_7 (by decide) (by decide) rfl (by decide) (dOk_at dt_X10_count 6 rfl) ?_
      refine j_aload_n hC 1 rfl rfl (dOk_at dt_X10_count 25 rfl) ?_
      refine j_getR hC flX10_121 (show shp 107 = (10, 88) from rfl) (Nat.lt_of_lt_of_le (Nat.le_of_ble_eq_true rfl : 107 < 152) hN) (by decide) (by decide) (fun _ _ _ => rfl) (fun hs => hs 107 66 143 rfl) (dOk_at dt_X10_count 26 rfl) ?_
      refine j_iconst hC (v := (0 : Int32)) rfl (dOk_at dt_X10_count 27 rfl) ?_
      refine j_iald hC (show shp 143 = (21, 2) from rfl) (Nat.lt_of_lt_of_le (Nat.le_of_ble_eq_true rfl : 143 < 152) hN) (dOk_at dt_X10_count 28 rfl) ?_
      exact j_iret hC hret (dOk_at dt_X10_count 29 rfl)
    refine j_ite (P := x1 = (7 : Int32)) (fun q_8 => ?_) (fun _ => ?_)
    · refine j_tswIn hC (tgt := 125) q_8 (by decide) (by decide) rfl (by decide) (dOk_at dt_X10_count 6 rfl) ?_
      refine j_aload_n hC 1 rfl rfl (dOk_at dt_X10_count 30 rfl) ?_
      refine j_getR hC flX10_112 (show shp 107 = (10, 88) from rfl) (Nat.lt_of_lt_of_le (Nat.le_of_ble_eq_true rfl : 107 < 152) hN) (by decide) (by decide) (fun _ _ _ => rfl) (fun hs => hs 107 63 140 rfl) (dOk_at dt_X10_count 31 rfl) ?_
      refine j_iconst hC (v := (0 : Int32)) rfl (dOk_at dt_X10_count 32 rfl) ?_
      refine j_callSi hC clX10_494 (fun rz hrz => c_X10_sumOf hN ((show shp 140 = (21, 10) from rfl)) _ _ rz hrz) rfl ⟨Nat.le_of_ble_eq_true rfl, Nat.le_of_ble_eq_true rfl⟩ ⟨Nat.le_refl 0, Nat.le_refl 0⟩ (As := [.ref 140, .int (0 : Int32)]) (st := []) rfl (Nat.le_of_ble_eq_true rfl) (dOk_at dt_X10_count 33 rfl) (fun v_9 h_10 _ => ?_)
      exact j_iret hC hret (dOk_at dt_X10_count 34 rfl)
    refine j_ite (P := x1 = (8 : Int32)) (fun q_11 => ?_) (fun _ => ?_)
    · refine j_tswIn hC (tgt := 134) q_11 (by decide) (by decide) rfl (by decide) (dOk_at dt_X10_count 6 rfl) ?_
      refine j_aload_n hC 1 rfl rfl (dOk_at dt_X10_count 35 rfl) ?_
      refine j_getR hC flX10_115 (show shp 107 = (10, 88) from rfl) (Nat.lt_of_lt_of_le (Nat.le_of_ble_eq_true rfl : 107 < 152) hN) (by decide) (by decide) (fun _ _ _ => rfl) (fun hs => hs 107 64 141 rfl) (dOk_at dt_X10_count 36 rfl) ?_
      refine j_iconst hC (v := (0 : Int32)) rfl (dOk_at dt_X10_count 37 rfl) ?_
      refine j_callSi hC clX10_494 (fun rz hrz => c_X10_sumOf hN ((show shp 141 = (21, 10) from rfl)) _ _ rz hrz) rfl ⟨Nat.le_of_ble_eq_true rfl, Nat.le_of_ble_eq_true rfl⟩ ⟨Nat.le_refl 0, Nat.le_refl 0⟩ (As := [.ref 141, .int (0 : Int32)]) (st := []) rfl (Nat.le_of_ble_eq_true rfl) (dOk_at dt_X10_count 38 rfl) (fun v_12 h_13 _ => ?_)
      exact j_iret hC hret (dOk_at dt_X10_count 39 rfl)
    refine j_ite (P := x1 = (9 : Int32)) (fun q_14 => ?_) (fun _ => ?_)
    · refine j_tswIn hC (tgt := 143) q_14 (by decide) (by decide) rfl (by decide) (dOk_at dt_X10_count 6 rfl) ?_
      refine j_aload_n hC 1 rfl rfl (dOk_at dt_X10_count 40 rfl) ?_
      refine j_iconst hC (v := (0 : Int32)) rfl (dOk_at dt_X10_count 41 rfl) ?_
      refine j_callVi hC clX10_498 (fun rz hrz => c_X10_shedMany hN _ _ rz hrz) (show shp 107 = (10, 88) from rfl) (Nat.lt_of_lt_of_le (Nat.le_of_ble_eq_true rfl : 107 < 152) hN) (by decide) rfl rfl ⟨Nat.le_of_ble_eq_true rfl, Nat.le_of_ble_eq_true rfl⟩ ⟨Nat.le_refl 0, Nat.le_refl 0⟩ (As := [.int (0 : Int32)]) (st := []) rfl (Nat.le_of_ble_eq_true rfl) (dOk_at dt_X10_count 42 rfl) (fun v_15 h_16 _ => ?_)
      exact j_iret hC hret (dOk_at dt_X10_count 43 rfl)
    refine j_ite (P := x1 = (10 : Int32)) (fun q_17 => ?_) (fun _ => ?_)
    · refine j_tswIn hC (tgt := 149) q_17 (by decide) (by decide) rfl (by decide) (dOk_at dt_X10_count 6 rfl) ?_
      refine j_aload_n hC 1 rfl rfl (dOk_at dt_X10_count 44 rfl) ?_
      refine j_getR hC flX10_118 (show shp 107 = (10, 88) from rfl) (Nat.lt_of_lt_of_le (Nat.le_of_ble_eq_true rfl : 107 < 152) hN) (by decide) (by decide) (fun _ _ _ => rfl) (fun hs => hs 107 65 142 rfl) (dOk_at dt_X10_count 45 rfl) ?_
      refine j_iconst hC (v := (0 : Int32)) rfl (dOk_at dt_X10_count 46 rfl) ?_
      refine j_iald hC (show shp 142 = (21, 2) from rfl) (Nat.lt_of_lt_of_le (Nat.le_of_ble_eq_true rfl : 142 < 152) hN) (dOk_at dt_X10_count 47 rfl) ?_
      exact j_iret hC hret (dOk_at dt_X10_count 48 rfl)
    refine j_ite (P := x1 = (11 : Int32)) (fun q_18 => ?_) (fun _ => ?_)
    · refine j_tswIn hC (tgt := 156) q_18 (by decide) (by decide) rfl (by decide) (dOk_at dt_X10_count 6 rfl) ?_
      refine j_iconst hC (v := (0 : Int32)) rfl (dOk_at dt_X10_count 49 rfl) ?_
      refine j_istore_n hC rfl (lv' := [(3, .int (0 : Int32)), (2, .int (0 : Int32)), (0, .ref 107), (1, .int x1)]) (by decide) rfl (dOk_at dt_X10_count 50 rfl) ?_
      refine j_sub [2, 1, 0] rfl ?_
      exact b158 FU (uI h 107 2 (0 : Int32)) (0 : Int32) (0 : Int32) 
    refine j_ite (P := x1 = (12 : Int32)) (fun q_19 => ?_) (fun _ => ?_)
    · refine j_tswIn hC (tgt := 183) q_19 (by decide) (by decide) rfl (by decide) (dOk_at dt_X10_count 6 rfl) ?_
      refine j_iconst hC (v := (0 : Int32)) rfl (dOk_at dt_X10_count 66 rfl) ?_
      refine j_istore_n hC rfl (lv' := [(3, .int (0 : Int32)), (2, .int (0 : Int32)), (0, .ref 107), (1, .int x1)]) (by decide) rfl (dOk_at dt_X10_count 67 rfl) ?_
      refine j_sub [2, 1, 0] rfl ?_
      exact b185 FU (uI h 107 2 (0 : Int32)) (0 : Int32) (0 : Int32) 
    refine j_ite (P := x1 = (13 : Int32)) (fun q_20 => ?_) (fun _ => ?_)
    · refine j_tswIn hC (tgt := 213) q_20 (by decide) (by decide) rfl (by decide) (dOk_at dt_X10_count 6 rfl) ?_
      refine j_aload_n hC 1 rfl rfl (dOk_at dt_X10_count 84 rfl) ?_
      refine j_getI hC flX10_395 (show shp 107 = (10, 88) from rfl) (Nat.lt_of_lt_of_le (Nat.le_of_ble_eq_true rfl : 107 < 152) hN) (by decide) (by decide) (fun _ _ _ => rfl) (dOk_at dt_X10_count 85 rfl) ?_
      exact j_iret hC hret (dOk_at dt_X10_count 86 rfl)
    refine j_ite (P := x1 = (14 : Int32)) (fun q_21 => ?_) (fun _ => ?_)
    · refine j_tswIn hC (tgt := 218) q_21 (by decide) (by decide) rfl (by decide) (dOk_at dt_X10_count 6 rfl) ?_
      refine j_aload_n hC 1 rfl rfl (dOk_at dt_X10_count 87 rfl) ?_
      refine j_callVi hC clX10_542 (fun rz hrz => c_X10_knownBy hN _ rz hrz) (show shp 107 = (10, 88) from rfl) (Nat.lt_of_lt_of_le (Nat.le_of_ble_eq_true rfl : 107 < 152) hN) (by decide) rfl rfl ⟨Nat.le_of_ble_eq_true rfl, Nat.le_of_ble_eq_true rfl⟩ ⟨Nat.le_refl 0, Nat.le_refl 0⟩ (As := []) (st := []) rfl (Nat.le_of_ble_eq_true rfl) (dOk_at dt_X10_count 88 rfl) (fun v_22 h_23 _ => ?_)
      exact j_iret hC hret (dOk_at dt_X10_count 89 rfl)
    refine j_ite (P := x1 = (15 : Int32)) (fun q_24 => ?_) (fun _ => ?_)
    · refine j_tswIn hC (tgt := 223) q_24 (by decide) (by decide) rfl (by decide) (dOk_at dt_X10_count 6 rfl) ?_
      refine j_aload_n hC 1 rfl rfl (dOk_at dt_X10_count 90 rfl) ?_
      refine j_getI hC flX10_398 (show shp 107 = (10, 88) from rfl) (Nat.lt_of_lt_of_le (Nat.le_of_ble_eq_true rfl : 107 < 152) hN) (by decide) (by decide) (fun _ _ _ => rfl) (dOk_at dt_X10_count 91 rfl) ?_
      exact j_iret hC hret (dOk_at dt_X10_count 92 rfl)
    exact j_none
  · refine j_tswOut hC (tgt := 228) q (by decide) (dOk_at dt_X10_count 6 rfl) ?_
    refine j_iconst hC (v := (-1 : Int32)) rfl (dOk_at dt_X10_count 93 rfl) ?_
    exact j_iret hC hret (dOk_at dt_X10_count 94 rfl)
