def tb_X10_thrown : List (Nat × Instr × Nat) := [(0, .aload_n 0, 1), (1, .getfield 157, 3), (4, .ireturn, 1)]
theorem dt_X10_thrown : dOk cX10_thrown tb_X10_thrown = true := by decide +kernel
def fX10_thrown (h : Hp) : Option (Int32 × Hp) := some ((hI h 107 2), h)
set_option maxRecDepth 100000 in
set_option maxHeartbeats 4000000 in
theorem c_X10_thrown {l : Launch} {sb : State} {D : va_G} {ids : Nat → ClassId} {n : Nat} (hN : 152 ≤ n) (h : Hp) (r : Int32 × Hp) (hr : fX10_thrown h = some r) : jM l yX10_thrown cX10_thrown 1 (some .int) 0 sb D ids shp St n [.ref 107] h (jQi sb D ids shp St n r) := by
  refine jM_of hr rfl (Nat.le_of_ble_eq_true rfl) ?_
  intro p e s m args below meth c hC hret
  unfold fX10_thrown
  refine j_aload_n hC 0 rfl rfl (dOk_at dt_X10_thrown 0 rfl) ?_
  refine j_getI hC flX10_157 (show shp 107 = (10, 88) from rfl) (Nat.lt_of_lt_of_le (Nat.le_of_ble_eq_true rfl : 107 < 152) hN) (by decide) (by decide) (fun _ _ _ => rfl) (dOk_at dt_X10_thrown 1 rfl) ?_
  exact j_iret hC hret (dOk_at dt_X10_thrown 2 rfl)
def tb_X10_feed : List (Nat × Instr × Nat) := [(0, .aload_n 0, 1), (1, .iconst 0, 1), (2, .putfield 157, 3), (5, .aload_n 0, 1), (6, .getfield 160, 3), (9, .bipush 20, 2), (11, .iadd, 1), (12, .sipush 700, 3), (15, .if_icmp .le 5, 3), (18, .iconst (-1), 1), (19, .ireturn, 1), (20, .iconst 0, 1), (21, .istore 6, 2), (23, .iload 6, 2), (25, .bipush 20, 2), (27, .if_icmp .ge 86, 3), (30, .iload 6, 2), (32, .iconst 4, 1), (33, .if_icmp .ge 7, 3), (36, .iload_n 1, 1), (37, .goto 39, 3), (40, .iload 6, 2), (42, .bipush 8, 2), (44, .if_icmp .ge 7, 3), (47, .iload_n 2, 1), (48, .goto 28, 3), (51, .iload 6, 2), (53, .bipush 12, 2), (55, .if_icmp .ge 7, 3), (58, .iload_n 3, 1), (59, .goto 17, 3), (62, .iload 6, 2), (64, .bipush 16, 2), (66, .if_icmp .ge 8, 3), (69, .iload 4, 2), (71, .goto 5, 3), (74, .iload 5, 2), (76, .istore 7, 2), (78, .aload_n 0, 1), (79, .getfield 7, 3), (82, .aload_n 0, 1), (83, .getfield 160, 3), (86, .iload 6, 2), (88, .iadd, 1), (89, .iload 7, 2), (91, .bipush 24, 2), (93, .bipush 8, 2), (95, .iload 6, 2), (97, .iconst 4, 1), (98, .irem, 1), (99, .imul, 1), (100, .isub, 1), (101, .ishr, 1), (102, .sipush 255, 3), (105, .iand, 1), (106, .iastore, 1), (107, .iinc 6 1, 3), (110, .goto (-87), 3), (113, .aload_n 0, 1), (114, .dup, 1), (115, .getfield 160, 3), (118, .bipush 20, 2), (120, .iadd, 1), (121, .putfield 160, 3), (124, .aload_n 0, 1), (125, .getfield 160, 3), (128, .ireturn, 1)]
theorem dt_X10_feed : dOk cX10_feed tb_X10_feed = true := by decide +kernel
def fX10_feed_76 (rec23 : Hp → Int32 → Int32 → Int32 → Int32 → Int32 → Int32 → Option (Int32 × Hp)) (h : Hp) (x1 : Int32) (x2 : Int32) (x3 : Int32) (x4 : Int32) (x5 : Int32) (x6 : Int32) (s0 : Int32) : Option (Int32 × Hp) := if inb ((hI h 107 1) + x6) 700 then (rec23 (uI h 108 (Int32.toNatClampNeg ((hI h 107 1) + x6)) ((s0 >>> (((24 : Int32) - ((8 : Int32) * (x6 - x6 / (4 : Int32) * (4 : Int32)))) &&& 31)) &&& (255 : Int32))) x1 x2 x3 x4 x5 (x6 + (1 : Int32))) else none
def fX10_feed_23 : Nat → Hp → Int32 → Int32 → Int32 → Int32 → Int32 → Int32 → Option (Int32 × Hp)
  | 0, _, _, _, _, _, _, _ => none
  | fu + 1, h, x1, x2, x3, x4, x5, x6 => if (20 : Int32) ≤ x6 then (some ((hI (uI h 107 1 ((hI h 107 1) + (20 : Int32))) 107 1), (uI h 107 1 ((hI h 107 1) + (20 : Int32))))) else (if (4 : Int32) ≤ x6 then (if (8 : Int32) ≤ x6 then (if (12 : Int32) ≤ x6 then (if (16 : Int32) ≤ x6 then (fX10_feed_76 (fX10_feed_23 fu) h x1 x2 x3 x4 x5 x6 x5) else (fX10_feed_76 (fX10_feed_23 fu) h x1 x2 x3 x4 x5 x6 x4)) else (fX10_feed_76 (fX10_feed_23 fu) h x1 x2 x3 x4 x5 x6 x3)) else (fX10_feed_76 (fX10_feed_23 fu) h x1 x2 x3 x4 x5 x6 x2)) else (fX10_feed_76 (fX10_feed_23 fu) h x1 x2 x3 x4 x5 x6 x1))
def fX10_feed (h : Hp) (x1 : Int32) (x2 : Int32) (x3 : Int32) (x4 : Int32) (x5 : Int32) : Option (Int32 × Hp) := if ((hI (uI h 107 2 (0 : Int32)) 107 1) + (20 : Int32)) ≤ (700 : Int32) then (fX10_feed_23 FU (uI h 107 2 (0 : Int32)) x1 x2 x3 x4 x5 (0 : Int32)) else (some ((-1 : Int32), (uI h 107 2 (0 : Int32))))
set_option maxRecDepth 100000 in
set_option maxHeartbeats 4000000 in
theorem c_X10_feed {l : Launch} {sb : State} {D : va_G} {ids : Nat → ClassId} {n : Nat} (hN : 152 ≤ n) (h : Hp) (x1 : Int32) (x2 : Int32) (x3 : Int32) (x4 : Int32) (x5 : Int32) (r : Int32 × Hp) (hr : fX10_feed h x1 x2 x3 x4 x5 = some r) : jM l yX10_feed cX10_feed 8 (some .int) 0 sb D ids shp St n [.ref 107, .int x1, .int x2, .int x3, .int x4, .int x5] h (jQi sb D ids shp St n r) := by
  refine jM_of hr rfl (Nat.le_of_ble_eq_true rfl) ?_
  intro p e s m args below meth c hC hret
  have b76 : ∀ (rec23 : Hp → Int32 → Int32 → Int32 → Int32 → Int32 → Int32 → Option (Int32 × Hp)) (hrec23 : ∀ (h : Hp) (x1 : Int32) (x2 : Int32) (x3 : Int32) (x4 : Int32) (x5 : Int32) (x6 : Int32) , jJ p l e (rmD 0) s m args below meth c 8 sb D ids shp St (fun r => MQ below (jQi sb D ids shp St n r) args s 0 0 (jA sb)) n 0 0 h 23 [(0, .ref 107), (1, .int x1), (2, .int x2), (3, .int x3), (4, .int x4), (5, .int x5), (6, .int x6)] [] (rec23 h x1 x2 x3 x4 x5 x6)) (h : Hp) (x1 : Int32) (x2 : Int32) (x3 : Int32) (x4 : Int32) (x5 : Int32) (x6 : Int32) (s0 : Int32) , jJ p l e (rmD 0) s m args below meth c 8 sb D ids shp St (fun r => MQ below (jQi sb D ids shp St n r) args s 0 0 (jA sb)) n 0 0 h 76 [(0, .ref 107), (1, .int x1), (2, .int x2), (3, .int x3), (4, .int x4), (5, .int x5), (6, .int x6)] [.int s0] (fX10_feed_76 rec23 h x1 x2 x3 x4 x5 x6 s0) := by
    intro rec23 hrec23 h x1 x2 x3 x4 x5 x6 s0 
    unfold fX10_feed_76
    refine j_istore hC (lv' := [(7, .int s0), (0, .ref 107), (1, .int x1), (2, .int x2), (3, .int x3), (4, .int x4), (5, .int x5), (6, .int x6)]) (by decide) rfl (dOk_at dt_X10_feed 37 rfl) ?_
    refine j_aload_n hC 1 rfl rfl (dOk_at dt_X10_feed 38 rfl) ?_
    refine j_getR hC flX10_7 (show shp 107 = (10, 88) from rfl) (Nat.lt_of_lt_of_le (Nat.le_of_ble_eq_true rfl : 107 < 152) hN) (by decide) (by decide) (fun _ _ _ => rfl) (fun hs => hs 107 0 108 rfl) (dOk_at dt_X10_feed 39 rfl) ?_
    refine j_aload_n hC 1 rfl rfl (dOk_at dt_X10_feed 40 rfl) ?_
    refine j_getI hC flX10_160 (show shp 107 = (10, 88) from rfl) (Nat.lt_of_lt_of_le (Nat.le_of_ble_eq_true rfl : 107 < 152) hN) (by decide) (by decide) (fun _ _ _ => rfl) (dOk_at dt_X10_feed 41 rfl) ?_
    refine j_iload hC 7 rfl (dOk_at dt_X10_feed 42 rfl) ?_
    refine j_iadd hC (dOk_at dt_X10_feed 43 rfl) ?_
    refine j_iload hC 0 rfl (dOk_at dt_X10_feed 44 rfl) ?_
    refine j_bipush hC (v := (24 : Int32)) rfl (dOk_at dt_X10_feed 45 rfl) ?_
    refine j_bipush hC (v := (8 : Int32)) rfl (dOk_at dt_X10_feed 46 rfl) ?_
    refine j_iload hC 7 rfl (dOk_at dt_X10_feed 47 rfl) ?_
    refine j_iconst hC (v := (4 : Int32)) rfl (dOk_at dt_X10_feed 48 rfl) ?_
    refine j_iremK hC (by decide) (dOk_at dt_X10_feed 49 rfl) ?_
    refine j_imul hC (dOk_at dt_X10_feed 50 rfl) ?_
    refine j_isub hC (dOk_at dt_X10_feed 51 rfl) ?_
    refine j_ishr hC (dOk_at dt_X10_feed 52 rfl) ?_
    refine j_sipush hC (v := (255 : Int32)) rfl (dOk_at dt_X10_feed 53 rfl) ?_
    refine j_iand hC (dOk_at dt_X10_feed 54 rfl) ?_
    refine j_iast hC St_SP (show shp 108 = (21, 700) from rfl) (Nat.lt_of_lt_of_le (Nat.le_of_ble_eq_true rfl : 108 < 152) hN) (dOk_at dt_X10_feed 55 rfl) ?_
    refine j_iinc hC (v := (x6 + (1 : Int32))) (lv' := [(6, .int (x6 + (1 : Int32))), (7, .int s0), (0, .ref 107), (1, .int x1), (2, .int x2), (3, .int x3), (4, .int x4), (5, .int x5)]) 7 rfl (congrArg (fun z => x6 + z) (show Int32.ofInt (1) = (1 : Int32) from by decide)) (by decide) rfl (dOk_at dt_X10_feed 56 rfl) ?_
    refine j_goto hC (tgt := 23) (by decide) (dOk_at dt_X10_feed 57 rfl) ?_
    refine j_sub [2, 3, 4, 5, 6, 7, 0] rfl ?_
    exact hrec23 (uI h 108 (Int32.toNatClampNeg ((hI h 107 1) + x6)) ((s0 >>> (((24 : Int32) - ((8 : Int32) * (x6 - x6 / (4 : Int32) * (4 : Int32)))) &&& 31)) &&& (255 : Int32))) x1 x2 x3 x4 x5 (x6 + (1 : Int32)) 
  have b23 : ∀ (fu : Nat) (h : Hp) (x1 : Int32) (x2 : Int32) (x3 : Int32) (x4 : Int32) (x5 : Int32) (x6 : Int32) , jJ p l e (rmD 0) s m args below meth c 8 sb D ids shp St (fun r => MQ below (jQi sb D ids shp St n r) args s 0 0 (jA sb)) n 0 0 h 23 [(0, .ref 107), (1, .int x1), (2, .int x2), (3, .int x3), (4, .int x4), (5, .int x5), (6, .int x6)] [] (fX10_feed_23 fu h x1 x2 x3 x4 x5 x6) := by
    intro fu 
    induction fu with
    | zero => intro h x1 x2 x3 x4 x5 x6 ; exact j_none
    | succ fu ih =>
    intro h x1 x2 x3 x4 x5 x6 
    rw [fX10_feed_23]
    refine j_iload hC 6 rfl (dOk_at dt_X10_feed 13 rfl) ?_
    refine j_bipush hC (v := (20 : Int32)) rfl (dOk_at dt_X10_feed 14 rfl) ?_
    refine j_icmp_ge hC (tgt := 113) (by decide) (dOk_at dt_X10_feed 15 rfl) (fun q_2 => ?_) (fun q_2 => ?_)
    · refine j_aload_n hC 0 rfl rfl (dOk_at dt_X10_feed 58 rfl) ?_
      refine j_dupr hC (dOk_at dt_X10_feed 59 rfl) ?_
      refine j_getI hC flX10_160 (show shp 107 = (10, 88) from rfl) (Nat.lt_of_lt_of_le (Nat.le_of_ble_eq_true rfl : 107 < 152) hN) (by decide) (by decide) (fun _ _ _ => rfl) (dOk_at dt_X10_feed 60 rfl) ?_
      refine j_bipush hC (v := (20 : Int32)) rfl (dOk_at dt_X10_feed 61 rfl) ?_
      refine j_iadd hC (dOk_at dt_X10_feed 62 rfl) ?_
      refine j_putI hC St_SP flX10_160 (show shp 107 = (10, 88) from rfl) (Nat.lt_of_lt_of_le (Nat.le_of_ble_eq_true rfl : 107 < 152) hN) (by decide) (by decide) rfl rfl (dOk_at dt_X10_feed 63 rfl) ?_
      refine j_aload_n hC 0 rfl rfl (dOk_at dt_X10_feed 64 rfl) ?_
      refine j_getI hC flX10_160 (show shp 107 = (10, 88) from rfl) (Nat.lt_of_lt_of_le (Nat.le_of_ble_eq_true rfl : 107 < 152) hN) (by decide) (by decide) (fun _ _ _ => rfl) (dOk_at dt_X10_feed 65 rfl) ?_
      exact j_iret hC hret (dOk_at dt_X10_feed 66 rfl)
    · refine j_iload hC 6 rfl (dOk_at dt_X10_feed 16 rfl) ?_
      refine j_iconst hC (v := (4 : Int32)) rfl (dOk_at dt_X10_feed 17 rfl) ?_
      refine j_icmp_ge hC (tgt := 40) (by decide) (dOk_at dt_X10_feed 18 rfl) (fun q_3 => ?_) (fun q_3 => ?_)
      · refine j_iload hC 6 rfl (dOk_at dt_X10_feed 21 rfl) ?_
        refine j_bipush hC (v := (8 : Int32)) rfl (dOk_at dt_X10_feed 22 rfl) ?_
        refine j_icmp_ge hC (tgt := 51) (by decide) (dOk_at dt_X10_feed 23 rfl) (fun q_4 => ?_) (fun q_4 => ?_)
        · refine j_iload hC 6 rfl (dOk_at dt_X10_feed 26 rfl) ?_
          refine j_bipush hC (v := (12 : Int32)) rfl (dOk_at dt_X10_feed 27 rfl) ?_
          refine j_icmp_ge hC (tgt := 62) (by decide) (dOk_at dt_X10_feed 28 rfl) (fun q_5 => ?_) (fun q_5 => ?_)
          · refine j_iload hC 6 rfl (dOk_at dt_X10_feed 31 rfl) ?_
            refine j_bipush hC (v := (16 : Int32)) rfl (dOk_at dt_X10_feed 32 rfl) ?_
            refine j_icmp_ge hC (tgt := 74) (by decide) (dOk_at dt_X10_feed 33 rfl) (fun q_6 => ?_) (fun q_6 => ?_)
            · refine j_iload hC 5 rfl (dOk_at dt_X10_feed 36 rfl) ?_
              exact b76 (fX10_feed_23 fu) ih h x1 x2 x3 x4 x5 x6 x5 
            · refine j_iload hC 4 rfl (dOk_at dt_X10_feed 34 rfl) ?_
              refine j_goto hC (tgt := 76) (by decide) (dOk_at dt_X10_feed 35 rfl) ?_
              exact b76 (fX10_feed_23 fu) ih h x1 x2 x3 x4 x5 x6 x4 
          · refine j_iload_n hC 3 rfl rfl (dOk_at dt_X10_feed 29 rfl) ?_
            refine j_goto hC (tgt := 76) (by decide) (dOk_at dt_X10_feed 30 rfl) ?_
            exact b76 (fX10_feed_23 fu) ih h x1 x2 x3 x4 x5 x6 x3 
        · refine j_iload_n hC 2 rfl rfl (dOk_at dt_X10_feed 24 rfl) ?_
          refine j_goto hC (tgt := 76) (by decide) (dOk_at dt_X10_feed 25 rfl) ?_
          exact b76 (fX10_feed_23 fu) ih h x1 x2 x3 x4 x5 x6 x2 
      · refine j_iload_n hC 1 rfl rfl (dOk_at dt_X10_feed 19 rfl) ?_
        refine j_goto hC (tgt := 76) (by decide) (dOk_at dt_X10_feed 20 rfl) ?_
        exact b76 (fX10_feed_23 fu) ih h x1 x2 x3 x4 x5 x6 x1 
  unfold fX10_feed
  refine j_aload_n hC 0 rfl rfl (dOk_at dt_X10_feed 0 rfl) ?_
  refine j_iconst hC (v := (0 : Int32)) rfl (dOk_at dt_X10_feed 1 rfl) ?_
  refine j_putI hC St_SP flX10_157 (show shp 107 = (10, 88) from rfl) (Nat.lt_of_lt_of_le (Nat.le_of_ble_eq_true rfl : 107 < 152) hN) (by decide) (by decide) rfl rfl (dOk_at dt_X10_feed 2 rfl) ?_
  refine j_aload_n hC 0 rfl rfl (dOk_at dt_X10_feed 3 rfl) ?_
  refine j_getI hC flX10_160 (show shp 107 = (10, 88) from rfl) (Nat.lt_of_lt_of_le (Nat.le_of_ble_eq_true rfl : 107 < 152) hN) (by decide) (by decide) (fun _ _ _ => rfl) (dOk_at dt_X10_feed 4 rfl) ?_
  refine j_bipush hC (v := (20 : Int32)) rfl (dOk_at dt_X10_feed 5 rfl) ?_
  refine j_iadd hC (dOk_at dt_X10_feed 6 rfl) ?_
  refine j_sipush hC (v := (700 : Int32)) rfl (dOk_at dt_X10_feed 7 rfl) ?_
  refine j_icmp_le hC (tgt := 20) (by decide) (dOk_at dt_X10_feed 8 rfl) (fun q_1 => ?_) (fun q_1 => ?_)
  · refine j_iconst hC (v := (0 : Int32)) rfl (dOk_at dt_X10_feed 11 rfl) ?_
    refine j_istore hC (lv' := [(6, .int (0 : Int32)), (0, .ref 107), (1, .int x1), (2, .int x2), (3, .int x3), (4, .int x4), (5, .int x5)]) (by decide) rfl (dOk_at dt_X10_feed 12 rfl) ?_
    refine j_sub [1, 2, 3, 4, 5, 6, 0] rfl ?_
    exact b23 FU (uI h 107 2 (0 : Int32)) x1 x2 x3 x4 x5 (0 : Int32) 
  · refine j_iconst hC (v := (-1 : Int32)) rfl (dOk_at dt_X10_feed 9 rfl) ?_
    exact j_iret hC hret (dOk_at dt_X10_feed 10 rfl)
def tb_X10_isIn : List (Nat × Instr × Nat) := [(0, .iload_n 0, 1), (1, .iload_n 1, 1), (2, .if_icmp .lt 12, 3), (5, .iload_n 0, 1), (6, .iload_n 2, 1), (7, .if_icmp .gt 7, 3), (10, .iconst 1, 1), (11, .goto 4, 3), (14, .iconst 0, 1), (15, .ireturn, 1)]
theorem dt_X10_isIn : dOk cX10_isIn tb_X10_isIn = true := by decide +kernel
def fX10_isIn (h : Hp) (x0 : Int32) (x1 : Int32) (x2 : Int32) : Option (Int32 × Hp) := if x0 < x1 then (some ((0 : Int32), h)) else (if x2 < x0 then (some ((0 : Int32), h)) else (some ((1 : Int32), h)))
set_option maxRecDepth 100000 in
set_option maxHeartbeats 4000000 in
theorem c_X10_isIn {l : Launch} {sb : State} {D : va_G} {ids : Nat → ClassId} {n : Nat} (hN : 152 ≤ n) (h : Hp) (x0 : Int32) (x1 : Int32) (x2 : Int32) (r : Int32 × Hp) (hr : fX10_isIn h x0 x1 x2 = some r) : jM l yX10_isIn cX10_isIn 3 (some .boolean) 0 sb D ids shp St n [.int x0, .int x1, .int x2] h (jQi sb D ids shp St n r) := by
  refine jM_of hr rfl (Nat.le_of_ble_eq_true rfl) ?_
  intro p e s m args below meth c hC hret
  unfold fX10_isIn
  refine j_iload_n hC 0 rfl rfl (dOk_at dt_X10_isIn 0 rfl) ?_
  refine j_iload_n hC 1 rfl rfl (dOk_at dt_X10_isIn 1 rfl) ?_
  refine j_icmp_lt hC (tgt := 14) (by decide) (dOk_at dt_X10_isIn 2 rfl) (fun q_1 => ?_) (fun q_1 => ?_)
  · refine j_iconst hC (v := (0 : Int32)) rfl (dOk_at dt_X10_isIn 8 rfl) ?_
    exact j_zretK hC hret rfl (dOk_at dt_X10_isIn 9 rfl)
  · refine j_iload_n hC 0 rfl rfl (dOk_at dt_X10_isIn 3 rfl) ?_
    refine j_iload_n hC 2 rfl rfl (dOk_at dt_X10_isIn 4 rfl) ?_
    refine j_icmp_gt hC (tgt := 14) (by decide) (dOk_at dt_X10_isIn 5 rfl) (fun q_2 => ?_) (fun q_2 => ?_)
    · refine j_iconst hC (v := (0 : Int32)) rfl (dOk_at dt_X10_isIn 8 rfl) ?_
      exact j_zretK hC hret rfl (dOk_at dt_X10_isIn 9 rfl)
    · refine j_iconst hC (v := (1 : Int32)) rfl (dOk_at dt_X10_isIn 6 rfl) ?_
      refine j_goto hC (tgt := 15) (by decide) (dOk_at dt_X10_isIn 7 rfl) ?_
      exact j_zretK hC hret rfl (dOk_at dt_X10_isIn 9 rfl)
def tb_X10_isOf : List (Nat × Instr × Nat) := [(0, .iload_n 0, 1), (1, .iload_n 1, 1), (2, .ishr, 1), (3, .iconst 1, 1), (4, .iand, 1), (5, .iconst 1, 1), (6, .if_icmp .ne 7, 3), (9, .iconst 1, 1), (10, .goto 4, 3), (13, .iconst 0, 1), (14, .ireturn, 1)]
theorem dt_X10_isOf : dOk cX10_isOf tb_X10_isOf = true := by decide +kernel
def fX10_isOf (h : Hp) (x0 : Int32) (x1 : Int32) : Option (Int32 × Hp) := if ((x0 >>> (x1 &&& 31)) &&& (1 : Int32)) = (1 : Int32) then (some ((1 : Int32), h)) else (some ((0 : Int32), h))
set_option maxRecDepth 100000 in
set_option maxHeartbeats 4000000 in
theorem c_X10_isOf {l : Launch} {sb : State} {D : va_G} {ids : Nat → ClassId} {n : Nat} (hN : 152 ≤ n) (h : Hp) (x0 : Int32) (x1 : Int32) (r : Int32 × Hp) (hr : fX10_isOf h x0 x1 = some r) : jM l yX10_isOf cX10_isOf 2 (some .boolean) 0 sb D ids shp St n [.int x0, .int x1] h (jQi sb D ids shp St n r) := by
  refine jM_of hr rfl (Nat.le_of_ble_eq_true rfl) ?_
  intro p e s m args below meth c hC hret
  unfold fX10_isOf
  refine j_iload_n hC 0 rfl rfl (dOk_at dt_X10_isOf 0 rfl) ?_
  refine j_iload_n hC 1 rfl rfl (dOk_at dt_X10_isOf 1 rfl) ?_
  refine j_ishr hC (dOk_at dt_X10_isOf 2 rfl) ?_
  refine j_iconst hC (v := (1 : Int32)) rfl (dOk_at dt_X10_isOf 3 rfl) ?_
  refine j_iand hC (dOk_at dt_X10_isOf 4 rfl) ?_
  refine j_iconst hC (v := (1 : Int32)) rfl (dOk_at dt_X10_isOf 5 rfl) ?_
  refine j_icmp_ne hC (tgt := 13) (by decide) (dOk_at dt_X10_isOf 6 rfl) (fun q_1 => ?_) (fun q_1 => ?_)
  · refine j_iconst hC (v := (0 : Int32)) rfl (dOk_at dt_X10_isOf 9 rfl) ?_
    exact j_zretK hC hret rfl (dOk_at dt_X10_isOf 10 rfl)
  · refine j_iconst hC (v := (1 : Int32)) rfl (dOk_at dt_X10_isOf 7 rfl) ?_
    refine j_goto hC (tgt := 14) (by decide) (dOk_at dt_X10_isOf 8 rfl) ?_
    exact j_zretK hC hret rfl (dOk_at dt_X10_isOf 10 rfl)
def tb_X10_wrong : List (Nat × Instr × Nat) := [(0, .aload_n 0, 1), (1, .iload_n 1, 1), (2, .putfield 163, 3), (5, .aload_n 0, 1), (6, .aload_n 0, 1), (7, .getfield 166, 3), (10, .putfield 16, 3), (13, .iconst 0, 1), (14, .ireturn, 1)]
theorem dt_X10_wrong : dOk cX10_wrong tb_X10_wrong = true := by decide +kernel
def fX10_wrong (h : Hp) (x1 : Int32) : Option (Int32 × Hp) := some ((0 : Int32), (uI (uI h 107 4 x1) 107 5 (hI (uI h 107 4 x1) 107 10)))
set_option maxRecDepth 100000 in
set_option maxHeartbeats 4000000 in
theorem c_X10_wrong {l : Launch} {sb : State} {D : va_G} {ids : Nat → ClassId} {n : Nat} (hN : 152 ≤ n) (h : Hp) (x1 : Int32) (r : Int32 × Hp) (hr : fX10_wrong h x1 = some r) : jM l yX10_wrong cX10_wrong 2 (some .boolean) 0 sb D ids shp St n [.ref 107, .int x1] h (jQi sb D ids shp St n r) := by
  refine jM_of hr rfl (Nat.le_of_ble_eq_true rfl) ?_
  intro p e s m args below meth c hC hret
  unfold fX10_wrong
  refine j_aload_n hC 0 rfl rfl (dOk_at dt_X10_wrong 0 rfl) ?_
  refine j_iload_n hC 1 rfl rfl (dOk_at dt_X10_wrong 1 rfl) ?_
  refine j_putI hC St_SP flX10_163 (show shp 107 = (10, 88) from rfl) (Nat.lt_of_lt_of_le (Nat.le_of_ble_eq_true rfl : 107 < 152) hN) (by decide) (by decide) rfl rfl (dOk_at dt_X10_wrong 2 rfl) ?_
  refine j_aload_n hC 0 rfl rfl (dOk_at dt_X10_wrong 3 rfl) ?_
  refine j_aload_n hC 0 rfl rfl (dOk_at dt_X10_wrong 4 rfl) ?_
  refine j_getI hC flX10_166 (show shp 107 = (10, 88) from rfl) (Nat.lt_of_lt_of_le (Nat.le_of_ble_eq_true rfl : 107 < 152) hN) (by decide) (by decide) (fun _ _ _ => rfl) (dOk_at dt_X10_wrong 5 rfl) ?_
  refine j_putI hC St_SP flX10_16 (show shp 107 = (10, 88) from rfl) (Nat.lt_of_lt_of_le (Nat.le_of_ble_eq_true rfl : 107 < 152) hN) (by decide) (by decide) rfl rfl (dOk_at dt_X10_wrong 6 rfl) ?_
  refine j_iconst hC (v := (0 : Int32)) rfl (dOk_at dt_X10_wrong 7 rfl) ?_
  exact j_zretK hC hret rfl (dOk_at dt_X10_wrong 8 rfl)
def tb_X10_wordAt : List (Nat × Instr × Nat) := [(0, .iconst 0, 1), (1, .istore_n 3, 1), (2, .iconst 0, 1), (3, .istore 4, 2), (5, .iload 4, 2), (7, .aload_n 0, 1), (8, .getfield 13, 3), (11, .arraylength, 1), (12, .if_icmp .ge 114, 3), (15, .iconst 0, 1), (16, .istore 5, 2), (18, .aload_n 0, 1), (19, .getfield 13, 3), (22, .iload 4, 2), (24, .iload 5, 2), (26, .iadd, 1), (27, .iaload, 1), (28, .bipush 32, 2), (30, .if_icmp .eq 9, 3), (33, .iinc 5 1, 3), (36, .goto (-18), 3), (39, .iload 5, 2), (41, .iload_n 2, 1), (42, .iload_n 1, 1), (43, .isub, 1), (44, .if_icmp .ne 7, 3), (47, .iconst 1, 1), (48, .goto 4, 3), (51, .iconst 0, 1), (52, .istore 6, 2), (54, .iconst 0, 1), (55, .istore 7, 2), (57, .iload 7, 2), (59, .iload 5, 2), (61, .if_icmp .ge 43, 3), (64, .iload 6, 2), (66, .ifCond .eq 38, 3), (69, .aload_n 0, 1), (70, .getfield 13, 3), (73, .iload 4, 2), (75, .iload 7, 2), (77, .iadd, 1), (78, .iaload, 1), (79, .aload_n 0, 1), (80, .getfield 7, 3), (83, .iload_n 1, 1), (84, .iload 7, 2), (86, .iadd, 1), (87, .iaload, 1), (88, .if_icmp .ne 7, 3), (91, .iconst 1, 1), (92, .goto 4, 3), (95, .iconst 0, 1), (96, .istore 6, 2), (98, .iinc 7 1, 3), (101, .goto (-44), 3), (104, .iload 6, 2), (106, .ifCond .eq 5, 3), (109, .iload_n 3, 1), (110, .ireturn, 1), (111, .iload 4, 2), (113, .iload 5, 2), (115, .iconst 1, 1), (116, .iadd, 1), (117, .iadd, 1), (118, .istore 4, 2), (120, .iinc 3 1, 3), (123, .goto (-118), 3), (126, .iconst (-1), 1), (127, .ireturn, 1)]
theorem dt_X10_wordAt : dOk cX10_wordAt tb_X10_wordAt = true := by decide +kernel
def fX10_wordAt_104 (rec5 : Hp → Int32 → Int32 → Int32 → Int32 → Option (Int32 × Hp)) (h : Hp) (x1 : Int32) (x2 : Int32) (x3 : Int32) (x4 : Int32) (x5 : Int32) (x6 : Int32) : Option (Int32 × Hp) := if x6 = 0 then (rec5 h x1 x2 (x3 + (1 : Int32)) (x4 + (x5 + (1 : Int32)))) else (some (x3, h))
def fX10_wordAt_96 (rec5 : Hp → Int32 → Int32 → Int32 → Int32 → Option (Int32 × Hp)) (rec57 : Hp → Int32 → Int32 → Int32 → Int32 → Int32 → Int32 → Int32 → Option (Int32 × Hp)) (h : Hp) (x1 : Int32) (x2 : Int32) (x3 : Int32) (x4 : Int32) (x5 : Int32) (x7 : Int32) (s0 : Int32) : Option (Int32 × Hp) := rec57 h x1 x2 x3 x4 x5 s0 (x7 + (1 : Int32))
def fX10_wordAt_57 : Nat → (Hp → Int32 → Int32 → Int32 → Int32 → Option (Int32 × Hp)) → Hp → Int32 → Int32 → Int32 → Int32 → Int32 → Int32 → Int32 → Option (Int32 × Hp)
  | 0, _, _, _, _, _, _, _, _, _ => none
  | fu + 1, rec5, h, x1, x2, x3, x4, x5, x6, x7 => if x5 ≤ x7 then (fX10_wordAt_104 rec5 h x1 x2 x3 x4 x5 x6) else (if x6 = 0 then (fX10_wordAt_104 rec5 h x1 x2 x3 x4 x5 x6) else (if inb (x4 + x7) 126 then (if inb (x1 + x7) 700 then (if (hI h 109 (Int32.toNatClampNeg (x4 + x7))) = (hI h 108 (Int32.toNatClampNeg (x1 + x7))) then (fX10_wordAt_96 rec5 (fX10_wordAt_57 fu rec5) h x1 x2 x3 x4 x5 x7 (1 : Int32)) else (fX10_wordAt_96 rec5 (fX10_wordAt_57 fu rec5) h x1 x2 x3 x4 x5 x7 (0 : Int32))) else none) else none))
def fX10_wordAt_52 (rec5 : Hp → Int32 → Int32 → Int32 → Int32 → Option (Int32 × Hp)) (h : Hp) (x1 : Int32) (x2 : Int32) (x3 : Int32) (x4 : Int32) (x5 : Int32) (s0 : Int32) : Option (Int32 × Hp) := fX10_wordAt_57 FU rec5 h x1 x2 x3 x4 x5 s0 (0 : Int32)
def fX10_wordAt_18 : Nat → (Hp → Int32 → Int32 → Int32 → Int32 → Option (Int32 × Hp)) → Hp → Int32 → Int32 → Int32 → Int32 → Int32 → Option (Int32 × Hp)
  | 0, _, _, _, _, _, _, _ => none
  | fu + 1, rec5, h, x1, x2, x3, x4, x5 => if inb (x4 + x5) 126 then (if (hI h 109 (Int32.toNatClampNeg (x4 + x5))) = (32 : Int32) then (if x5 = (x2 - x1) then (fX10_wordAt_52 rec5 h x1 x2 x3 x4 x5 (1 : Int32)) else (fX10_wordAt_52 rec5 h x1 x2 x3 x4 x5 (0 : Int32))) else ((fX10_wordAt_18 fu rec5) h x1 x2 x3 x4 (x5 + (1 : Int32)))) else none
def fX10_wordAt_5 : Nat → Hp → Int32 → Int32 → Int32 → Int32 → Option (Int32 × Hp)
  | 0, _, _, _, _, _ => none
  | fu + 1, h, x1, x2, x3, x4 => if (126 : Int32) ≤ x4 then (some ((-1 : Int32), h)) else (fX10_wordAt_18 FU (fX10_wordAt_5 fu) h x1 x2 x3 x4 (0 : Int32))
def fX10_wordAt (h : Hp) (x1 : Int32) (x2 : Int32) : Option (Int32 × Hp) := fX10_wordAt_5 FU h x1 x2 (0 : Int32) (0 : Int32)
set_option maxRecDepth 100000 in
set_option maxHeartbeats 4000000 in
theorem c_X10_wordAt {l : Launch} {sb : State} {D : va_G} {ids : Nat → ClassId} {n : Nat} (hN : 152 ≤ n) (h : Hp) (x1 : Int32) (x2 : Int32) (r : Int32 × Hp) (hr : fX10_wordAt h x1 x2 = some r) : jM l yX10_wordAt cX10_wordAt 8 (some .int) 0 sb D ids shp St n [.ref 107, .int x1, .int x2] h (jQi sb D ids shp St n r) := by
  refine jM_of hr rfl (Nat.le_of_ble_eq_true rfl) ?_
  intro p e s m args below meth c hC hret
  have b104 : ∀ (rec5 : Hp → Int32 → Int32 → Int32 → Int32 → Option (Int32 × Hp)) (hrec5 : ∀ (h : Hp) (x1 : Int32) (x2 : Int32) (x3 : Int32) (x4 : Int32) , jJ p l e (rmD 0) s m args below meth c 8 sb D ids shp St (fun r => MQ below (jQi sb D ids shp St n r) args s 0 0 (jA sb)) n 0 0 h 5 [(0, .ref 107), (1, .int x1), (2, .int x2), (3, .int x3), (4, .int x4)] [] (rec5 h x1 x2 x3 x4)) (h : Hp) (x1 : Int32) (x2 : Int32) (x3 : Int32) (x4 : Int32) (x5 : Int32) (x6 : Int32) , jJ p l e (rmD 0) s m args below meth c 8 sb D ids shp St (fun r => MQ below (jQi sb D ids shp St n r) args s 0 0 (jA sb)) n 0 0 h 104 [(0, .ref 107), (1, .int x1), (2, .int x2), (3, .int x3), (4, .int x4), (5, .int x5), (6, .int x6)] [] (fX10_wordAt_104 rec5 h x1 x2 x3 x4 x5 x6) := by
    intro rec5 hrec5 h x1 x2 x3 x4 x5 x6 
    unfold fX10_wordAt_104
    refine j_iload hC 6 rfl (dOk_at dt_X10_wordAt 56 rfl) ?_
    refine j_if_eq hC (tgt := 111) (by decide) (dOk_at dt_X10_wordAt 57 rfl) (fun q_7 => ?_) (fun q_7 => ?_)
    · refine j_iload hC 4 rfl (dOk_at dt_X10_wordAt 60 rfl) ?_
      refine j_iload hC 5 rfl (dOk_at dt_X10_wordAt 61 rfl) ?_
      refine j_iconst hC (v := (1 : Int32)) rfl (dOk_at dt_X10_wordAt 62 rfl) ?_
      refine j_iadd hC (dOk_at dt_X10_wordAt 63 rfl) ?_
      refine j_iadd hC (dOk_at dt_X10_wordAt 64 rfl) ?_
      refine j_istore hC (lv' := [(4, .int (x4 + (x5 + (1 : Int32)))), (0, .ref 107), (1, .int x1), (2, .int x2), (3, .int x3), (5, .int x5), (6, .int x6)]) (by decide) rfl (dOk_at dt_X10_wordAt 65 rfl) ?_
      refine j_iinc hC (v := (x3 + (1 : Int32))) (lv' := [(3, .int (x3 + (1 : Int32))), (4, .int (x4 + (x5 + (1 : Int32)))), (0, .ref 107), (1, .int x1), (2, .int x2), (5, .int x5), (6, .int x6)]) 4 rfl (congrArg (fun z => x3 + z) (show Int32.ofInt (1) = (1 : Int32) from by decide)) (by decide) rfl (dOk_at dt_X10_wordAt 66 rfl) ?_
      refine j_goto hC (tgt := 5) (by decide) (dOk_at dt_X10_wordAt 67 rfl) ?_
      refine j_sub [2, 3, 4, 0, 1] rfl ?_
      exact hrec5 h x1 x2 (x3 + (1 : Int32)) (x4 + (x5 + (1 : Int32))) 
    · refine j_iload_n hC 3 rfl rfl (dOk_at dt_X10_wordAt 58 rfl) ?_
      exact j_iret hC hret (dOk_at dt_X10_wordAt 59 rfl)
  have b96 : ∀ (rec5 : Hp → Int32 → Int32 → Int32 → Int32 → Option (Int32 × Hp)) (hrec5 : ∀ (h : Hp) (x1 : Int32) (x2 : Int32) (x3 : Int32) (x4 : Int32) , jJ p l e (rmD 0) s m args below meth c 8 sb D ids shp St (fun r => MQ below (jQi sb D ids shp St n r) args s 0 0 (jA sb)) n 0 0 h 5 [(0, .ref 107), (1, .int x1), (2, .int x2), (3, .int x3), (4, .int x4)] [] (rec5 h x1 x2 x3 x4)) (rec57 : Hp → Int32 → Int32 → Int32 → Int32 → Int32 → Int32 → Int32 → Option (Int32 × Hp)) (hrec57 : ∀ (h : Hp) (x1 : Int32) (x2 : Int32) (x3 : Int32) (x4 : Int32) (x5 : Int32) (x6 : Int32) (x7 : Int32) , jJ p l e (rmD 0) s m args below meth c 8 sb D ids shp St (fun r => MQ below (jQi sb D ids shp St n r) args s 0 0 (jA sb)) n 0 0 h 57 [(0, .ref 107), (1, .int x1), (2, .int x2), (3, .int x3), (4, .int x4), (5, .int x5), (6, .int x6), (7, .int x7)] [] (rec57 h x1 x2 x3 x4 x5 x6 x7)) (h : Hp) (x1 : Int32) (x2 : Int32) (x3 : Int32) (x4 : Int32) (x5 : Int32) (x7 : Int32) (s0 : Int32) , jJ p l e (rmD 0) s m args below meth c 8 sb D ids shp St (fun r => MQ below (jQi sb D ids shp St n r) args s 0 0 (jA sb)) n 0 0 h 96 [(0, .ref 107), (1, .int x1), (2, .int x2), (3, .int x3), (4, .int x4), (5, .int x5), (7, .int x7)] [.int s0] (fX10_wordAt_96 rec5 rec57 h x1 x2 x3 x4 x5 x7 s0) := by
    intro rec5 hrec5 rec57 hrec57 h x1 x2 x3 x4 x5 x7 s0 
    unfold fX10_wordAt_96
    refine j_istore hC (lv' := [(6, .int s0), (0, .ref 107), (1, .int x1), (2, .int x2), (3, .int x3), (4, .int x4), (5, .int x5), (7, .int x7)]) (by decide) rfl (dOk_at dt_X10_wordAt 53 rfl) ?_
    refine j_iinc hC (v := (x7 + (1 : Int32))) (lv' := [(7, .int (x7 + (1 : Int32))), (6, .int s0), (0, .ref 107), (1, .int x1), (2, .int x2), (3, .int x3), (4, .int x4), (5, .int x5)]) 7 rfl (congrArg (fun z => x7 + z) (show Int32.ofInt (1) = (1 : Int32) from by decide)) (by decide) rfl (dOk_at dt_X10_wordAt 54 rfl) ?_
    refine j_goto hC (tgt := 57) (by decide) (dOk_at dt_X10_wordAt 55 rfl) ?_
    refine j_sub [2, 3, 4, 5, 6, 7, 1, 0] rfl ?_
    exact hrec57 h x1 x2 x3 x4 x5 s0 (x7 + (1 : Int32)) 
  have b57 : ∀ (fu : Nat) (rec5 : Hp → Int32 → Int32 → Int32 → Int32 → Option (Int32 × Hp)) (hrec5 : ∀ (h : Hp) (x1 : Int32) (x2 : Int32) (x3 : Int32) (x4 : Int32) , jJ p l e (rmD 0) s m args below meth c 8 sb D ids shp St (fun r => MQ below (jQi sb D ids shp St n r) args s 0 0 (jA sb)) n 0 0 h 5 [(0, .ref 107), (1, .int x1), (2, .int x2), (3, .int x3), (4, .int x4)] [] (rec5 h x1 x2 x3 x4)) (h : Hp) (x1 : Int32) (x2 : Int32) (x3 : Int32) (x4 : Int32) (x5 : Int32) (x6 : Int32) (x7 : Int32) , jJ p l e (rmD 0) s m args below meth c 8 sb D ids shp St (fun r => MQ below (jQi sb D ids shp St n r) args s 0 0 (jA sb)) n 0 0 h 57 [(0, .ref 107), (1, .int x1), (2, .int x2), (3, .int x3), (4, .int x4), (5, .int x5), (6, .int x6), (7, .int x7)] [] (fX10_wordAt_57 fu rec5 h x1 x2 x3 x4 x5 x6 x7) := by
    intro fu rec5 hrec5
    induction fu with
    | zero => intro h x1 x2 x3 x4 x5 x6 x7 ; exact j_none
    | succ fu ih =>
    intro h x1 x2 x3 x4 x5 x6 x7 
    rw [fX10_wordAt_57]
    refine j_iload hC 7 rfl (dOk_at dt_X10_wordAt 32 rfl) ?_
    refine j_iload hC 5 rfl (dOk_at dt_X10_wordAt 33 rfl) ?_
    refine j_icmp_ge hC (tgt := 104) (by decide) (dOk_at dt_X10_wordAt 34 rfl) (fun q_4 => ?_) (fun q_4 => ?_)
    · refine j_sub [0, 1, 2, 3, 4, 5, 6] rfl ?_
      exact b104 rec5 hrec5 h x1 x2 x3 x4 x5 x6 
    · refine j_iload hC 6 rfl (dOk_at dt_X10_wordAt 35 rfl) ?_
      refine j_if_eq hC (tgt := 104) (by decide) (dOk_at dt_X10_wordAt 36 rfl) (fun q_5 => ?_) (fun q_5 => ?_)
      · refine j_sub [0, 1, 2, 3, 4, 5, 6] rfl ?_
        exact b104 rec5 hrec5 h x1 x2 x3 x4 x5 x6 
      · refine j_aload_n hC 0 rfl rfl (dOk_at dt_X10_wordAt 37 rfl) ?_
        refine j_getR hC flX10_13 (show shp 107 = (10, 88) from rfl) (Nat.lt_of_lt_of_le (Nat.le_of_ble_eq_true rfl : 107 < 152) hN) (by decide) (by decide) (fun _ _ _ => rfl) (fun hs => hs 107 3 109 rfl) (dOk_at dt_X10_wordAt 38 rfl) ?_
        refine j_iload hC 4 rfl (dOk_at dt_X10_wordAt 39 rfl) ?_
        refine j_iload hC 7 rfl (dOk_at dt_X10_wordAt 40 rfl) ?_
        refine j_iadd hC (dOk_at dt_X10_wordAt 41 rfl) ?_
        refine j_iald hC (show shp 109 = (21, 126) from rfl) (Nat.lt_of_lt_of_le (Nat.le_of_ble_eq_true rfl : 109 < 152) hN) (dOk_at dt_X10_wordAt 42 rfl) ?_
        refine j_aload_n hC 0 rfl rfl (dOk_at dt_X10_wordAt 43 rfl) ?_
        refine j_getR hC flX10_7 (show shp 107 = (10, 88) from rfl) (Nat.lt_of_lt_of_le (Nat.le_of_ble_eq_true rfl : 107 < 152) hN) (by decide) (by decide) (fun _ _ _ => rfl) (fun hs => hs 107 0 108 rfl) (dOk_at dt_X10_wordAt 44 rfl) ?_
        refine j_iload_n hC 1 rfl rfl (dOk_at dt_X10_wordAt 45 rfl) ?_
        refine j_iload hC 7 rfl (dOk_at dt_X10_wordAt 46 rfl) ?_
        refine j_iadd hC (dOk_at dt_X10_wordAt 47 rfl) ?_
        refine j_iald hC (show shp 108 = (21, 700) from rfl) (Nat.lt_of_lt_of_le (Nat.le_of_ble_eq_true rfl : 108 < 152) hN) (dOk_at dt_X10_wordAt 48 rfl) ?_
        refine j_icmp_ne hC (tgt := 95) (by decide) (dOk_at dt_X10_wordAt 49 rfl) (fun q_6 => ?_) (fun q_6 => ?_)
        · refine j_iconst hC (v := (0 : Int32)) rfl (dOk_at dt_X10_wordAt 52 rfl) ?_
          refine j_sub [0, 1, 2, 3, 4, 5, 7] rfl ?_
          exact b96 rec5 hrec5 (fX10_wordAt_57 fu rec5) ih h x1 x2 x3 x4 x5 x7 (0 : Int32) 
        · refine j_iconst hC (v := (1 : Int32)) rfl (dOk_at dt_X10_wordAt 50 rfl) ?_
          refine j_goto hC (tgt := 96) (by decide) (dOk_at dt_X10_wordAt 51 rfl) ?_
          refine j_sub [0, 1, 2, 3, 4, 5, 7] rfl ?_
          exact b96 rec5 hrec5 (fX10_wordAt_57 fu rec5) ih h x1 x2 x3 x4 x5 x7 (1 : Int32) 
  have b52 : ∀ (rec5 : Hp → Int32 → Int32 → Int32 → Int32 → Option (Int32 × Hp)) (hrec5 : ∀ (h : Hp) (x1 : Int32) (x2 : Int32) (x3 : Int32) (x4 : Int32) , jJ p l e (rmD 0) s m args below meth c 8 sb D ids shp St (fun r => MQ below (jQi sb D ids shp St n r) args s 0 0 (jA sb)) n 0 0 h 5 [(0, .ref 107), (1, .int x1), (2, .int x2), (3, .int x3), (4, .int x4)] [] (rec5 h x1 x2 x3 x4)) (h : Hp) (x1 : Int32) (x2 : Int32) (x3 : Int32) (x4 : Int32) (x5 : Int32) (s0 : Int32) , jJ p l e (rmD 0) s m args below meth c 8 sb D ids shp St (fun r => MQ below (jQi sb D ids shp St n r) args s 0 0 (jA sb)) n 0 0 h 52 [(0, .ref 107), (1, .int x1), (2, .int x2), (3, .int x3), (4, .int x4), (5, .int x5)] [.int s0] (fX10_wordAt_52 rec5 h x1 x2 x3 x4 x5 s0) := by
    intro rec5 hrec5 h x1 x2 x3 x4 x5 s0 
    unfold fX10_wordAt_52
    refine j_istore hC (lv' := [(6, .int s0), (0, .ref 107), (1, .int x1), (2, .int x2), (3, .int x3), (4, .int x4), (5, .int x5)]) (by decide) rfl (dOk_at dt_X10_wordAt 29 rfl) ?_
    refine j_iconst hC (v := (0 : Int32)) rfl (dOk_at dt_X10_wordAt 30 rfl) ?_
    refine j_istore hC (lv' := [(7, .int (0 : Int32)), (6, .int s0), (0, .ref 107), (1, .int x1), (2, .int x2), (3, .int x3), (4, .int x4), (5, .int x5)]) (by decide) rfl (dOk_at dt_X10_wordAt 31 rfl) ?_
    refine j_sub [2, 3, 4, 5, 6, 7, 1, 0] rfl ?_
    exact b57 FU rec5 hrec5 h x1 x2 x3 x4 x5 s0 (0 : Int32) 
  have b18 : ∀ (fu : Nat) (rec5 : Hp → Int32 → Int32 → Int32 → Int32 → Option (Int32 × Hp)) (hrec5 : ∀ (h : Hp) (x1 : Int32) (x2 : Int32) (x3 : Int32) (x4 : Int32) , jJ p l e (rmD 0) s m args below meth c 8 sb D ids shp St (fun r => MQ below (jQi sb D ids shp St n r) args s 0 0 (jA sb)) n 0 0 h 5 [(0, .ref 107), (1, .int x1), (2, .int x2), (3, .int x3), (4, .int x4)] [] (rec5 h x1 x2 x3 x4)) (h : Hp) (x1 : Int32) (x2 : Int32) (x3 : Int32) (x4 : Int32) (x5 : Int32) , jJ p l e (rmD 0) s m args below meth c 8 sb D ids shp St (fun r => MQ below (jQi sb D ids shp St n r) args s 0 0 (jA sb)) n 0 0 h 18 [(0, .ref 107), (1, .int x1), (2, .int x2), (3, .int x3), (4, .int x4), (5, .int x5)] [] (fX10_wordAt_18 fu rec5 h x1 x2 x3 x4 x5) := by
    intro fu rec5 hrec5
    induction fu with
    | zero => intro h x1 x2 x3 x4 x5 ; exact j_none
    | succ fu ih =>
    intro h x1 x2 x3 x4 x5 
    rw [fX10_wordAt_18]
    refine j_aload_n hC 0 rfl rfl (dOk_at dt_X10_wordAt 11 rfl) ?_
    refine j_getR hC flX10_13 (show shp 107 = (10, 88) from rfl) (Nat.lt_of_lt_of_le (Nat.le_of_ble_eq_true rfl : 107 < 152) hN) (by decide) (by decide) (fun _ _ _ => rfl) (fun hs => hs 107 3 109 rfl) (dOk_at dt_X10_wordAt 12 rfl) ?_
    refine j_iload hC 4 rfl (dOk_at dt_X10_wordAt 13 rfl) ?_
    refine j_iload hC 5 rfl (dOk_at dt_X10_wordAt 14 rfl) ?_
    refine j_iadd hC (dOk_at dt_X10_wordAt 15 rfl) ?_
    refine j_iald hC (show shp 109 = (21, 126) from rfl) (Nat.lt_of_lt_of_le (Nat.le_of_ble_eq_true rfl : 109 < 152) hN) (dOk_at dt_X10_wordAt 16 rfl) ?_
    refine j_bipush hC (v := (32 : Int32)) rfl (dOk_at dt_X10_wordAt 17 rfl) ?_
    refine j_icmp_eq hC (tgt := 39) (by decide) (dOk_at dt_X10_wordAt 18 rfl) (fun q_2 => ?_) (fun q_2 => ?_)
    · refine j_iload hC 5 rfl (dOk_at dt_X10_wordAt 21 rfl) ?_
      refine j_iload_n hC 2 rfl rfl (dOk_at dt_X10_wordAt 22 rfl) ?_
      refine j_iload_n hC 1 rfl rfl (dOk_at dt_X10_wordAt 23 rfl) ?_
      refine j_isub hC (dOk_at dt_X10_wordAt 24 rfl) ?_
      refine j_icmp_ne hC (tgt := 51) (by decide) (dOk_at dt_X10_wordAt 25 rfl) (fun q_3 => ?_) (fun q_3 => ?_)
      · refine j_iconst hC (v := (0 : Int32)) rfl (dOk_at dt_X10_wordAt 28 rfl) ?_
        exact b52 rec5 hrec5 h x1 x2 x3 x4 x5 (0 : Int32) 
      · refine j_iconst hC (v := (1 : Int32)) rfl (dOk_at dt_X10_wordAt 26 rfl) ?_
        refine j_goto hC (tgt := 52) (by decide) (dOk_at dt_X10_wordAt 27 rfl) ?_
        exact b52 rec5 hrec5 h x1 x2 x3 x4 x5 (1 : Int32) 
    · refine j_iinc hC (v := (x5 + (1 : Int32))) (lv' := [(5, .int (x5 + (1 : Int32))), (0, .ref 107), (1, .int x1), (2, .int x2), (3, .int x3), (4, .int x4)]) 5 rfl (congrArg (fun z => x5 + z) (show Int32.ofInt (1) = (1 : Int32) from by decide)) (by decide) rfl (dOk_at dt_X10_wordAt 19 rfl) ?_
      refine j_goto hC (tgt := 18) (by decide) (dOk_at dt_X10_wordAt 20 rfl) ?_
      refine j_sub [1, 2, 3, 4, 5, 0] rfl ?_
      exact ih h x1 x2 x3 x4 (x5 + (1 : Int32)) 
  have b5 : ∀ (fu : Nat) (h : Hp) (x1 : Int32) (x2 : Int32) (x3 : Int32) (x4 : Int32) , jJ p l e (rmD 0) s m args below meth c 8 sb D ids shp St (fun r => MQ below (jQi sb D ids shp St n r) args s 0 0 (jA sb)) n 0 0 h 5 [(0, .ref 107), (1, .int x1), (2, .int x2), (3, .int x3), (4, .int x4)] [] (fX10_wordAt_5 fu h x1 x2 x3 x4) := by
    intro fu 
    induction fu with
    | zero => intro h x1 x2 x3 x4 ; exact j_none
    | succ fu ih =>
    intro h x1 x2 x3 x4 
    rw [fX10_wordAt_5]
    refine j_iload hC 4 rfl (dOk_at dt_X10_wordAt 4 rfl) ?_
    refine j_aload_n hC 0 rfl rfl (dOk_at dt_X10_wordAt 5 rfl) ?_
    refine j_getR hC flX10_13 (show shp 107 = (10, 88) from rfl) (Nat.lt_of_lt_of_le (Nat.le_of_ble_eq_true rfl : 107 < 152) hN) (by decide) (by decide) (fun _ _ _ => rfl) (fun hs => hs 107 3 109 rfl) (dOk_at dt_X10_wordAt 6 rfl) ?_
    refine j_alen hC (v := (126 : Int32)) (show shp 109 = (21, 126) from rfl) (Nat.lt_of_lt_of_le (Nat.le_of_ble_eq_true rfl : 109 < 152) hN) (by decide) rfl (dOk_at dt_X10_wordAt 7 rfl) ?_
    refine j_icmp_ge hC (tgt := 126) (by decide) (dOk_at dt_X10_wordAt 8 rfl) (fun q_1 => ?_) (fun q_1 => ?_)
    · refine j_iconst hC (v := (-1 : Int32)) rfl (dOk_at dt_X10_wordAt 68 rfl) ?_
      exact j_iret hC hret (dOk_at dt_X10_wordAt 69 rfl)
    · refine j_iconst hC (v := (0 : Int32)) rfl (dOk_at dt_X10_wordAt 9 rfl) ?_
      refine j_istore hC (lv' := [(5, .int (0 : Int32)), (0, .ref 107), (1, .int x1), (2, .int x2), (3, .int x3), (4, .int x4)]) (by decide) rfl (dOk_at dt_X10_wordAt 10 rfl) ?_
      refine j_sub [1, 2, 3, 4, 5, 0] rfl ?_
      exact b18 FU (fX10_wordAt_5 fu) ih h x1 x2 x3 x4 (0 : Int32) 
  unfold fX10_wordAt
  refine j_iconst hC (v := (0 : Int32)) rfl (dOk_at dt_X10_wordAt 0 rfl) ?_
  refine j_istore_n hC rfl (lv' := [(3, .int (0 : Int32)), (0, .ref 107), (1, .int x1), (2, .int x2)]) (by decide) rfl (dOk_at dt_X10_wordAt 1 rfl) ?_
  refine j_iconst hC (v := (0 : Int32)) rfl (dOk_at dt_X10_wordAt 2 rfl) ?_
  refine j_istore hC (lv' := [(4, .int (0 : Int32)), (3, .int (0 : Int32)), (0, .ref 107), (1, .int x1), (2, .int x2)]) (by decide) rfl (dOk_at dt_X10_wordAt 3 rfl) ?_
  refine j_sub [2, 3, 4, 1, 0] rfl ?_
  exact b5 FU h x1 x2 (0 : Int32) (0 : Int32) 
def tb_X10_isSmall : List (Nat × Instr × Nat) := [(0, .iload_n 1, 1), (1, .aload_n 0, 1), (2, .getfield 169, 3), (5, .if_icmp .ge 29, 3), (8, .aload_n 0, 1), (9, .getfield 7, 3), (12, .iload_n 1, 1), (13, .iaload, 1), (14, .bipush 97, 2), (16, .if_icmp .lt 18, 3), (19, .aload_n 0, 1), (20, .getfield 7, 3), (23, .iload_n 1, 1), (24, .iaload, 1), (25, .bipush 122, 2), (27, .if_icmp .gt 7, 3), (30, .iconst 1, 1), (31, .goto 4, 3), (34, .iconst 0, 1), (35, .ireturn, 1)]
theorem dt_X10_isSmall : dOk cX10_isSmall tb_X10_isSmall = true := by decide +kernel
def fX10_isSmall (h : Hp) (x1 : Int32) : Option (Int32 × Hp) := if (hI h 107 6) ≤ x1 then (some ((0 : Int32), h)) else (if inb x1 700 then (if (hI h 108 (Int32.toNatClampNeg x1)) < (97 : Int32) then (some ((0 : Int32), h)) else (if inb x1 700 then (if (122 : Int32) < (hI h 108 (Int32.toNatClampNeg x1)) then (some ((0 : Int32), h)) else (some ((1 : Int32), h))) else none)) else none)
set_option maxRecDepth 100000 in
set_option maxHeartbeats 4000000 in
theorem c_X10_isSmall {l : Launch} {sb : State} {D : va_G} {ids : Nat → ClassId} {n : Nat} (hN : 152 ≤ n) (h : Hp) (x1 : Int32) (r : Int32 × Hp) (hr : fX10_isSmall h x1 = some r) : jM l yX10_isSmall cX10_isSmall 2 (some .boolean) 0 sb D ids shp St n [.ref 107, .int x1] h (jQi sb D ids shp St n r) := by
  refine jM_of hr rfl (Nat.le_of_ble_eq_true rfl) ?_
  intro p e s m args below meth c hC hret
  unfold fX10_isSmall
  refine j_iload_n hC 1 rfl rfl (dOk_at dt_X10_isSmall 0 rfl) ?_
  refine j_aload_n hC 0 rfl rfl (dOk_at dt_X10_isSmall 1 rfl) ?_
  refine j_getI hC flX10_169 (show shp 107 = (10, 88) from rfl) (Nat.lt_of_lt_of_le (Nat.le_of_ble_eq_true rfl : 107 < 152) hN) (by decide) (by decide) (fun _ _ _ => rfl) (dOk_at dt_X10_isSmall 2 rfl) ?_
  refine j_icmp_ge hC (tgt := 34) (by decide) (dOk_at dt_X10_isSmall 3 rfl) (fun q_1 => ?_) (fun q_1 => ?_)
  · refine j_iconst hC (v := (0 : Int32)) rfl (dOk_at dt_X10_isSmall 18 rfl) ?_
    exact j_zretK hC hret rfl (dOk_at dt_X10_isSmall 19 rfl)
  · refine j_aload_n hC 0 rfl rfl (dOk_at dt_X10_isSmall 4 rfl) ?_
    refine j_getR hC flX10_7 (show shp 107 = (10, 88) from rfl) (Nat.lt_of_lt_of_le (Nat.le_of_ble_eq_true rfl : 107 < 152) hN) (by decide) (by decide) (fun _ _ _ => rfl) (fun hs => hs 107 0 108 rfl) (dOk_at dt_X10_isSmall 5 rfl) ?_
    refine j_iload_n hC 1 rfl rfl (dOk_at dt_X10_isSmall 6 rfl) ?_
    refine j_iald hC (show shp 108 = (21, 700) from rfl) (Nat.lt_of_lt_of_le (Nat.le_of_ble_eq_true rfl : 108 < 152) hN) (dOk_at dt_X10_isSmall 7 rfl) ?_
    refine j_bipush hC (v := (97 : Int32)) rfl (dOk_at dt_X10_isSmall 8 rfl) ?_
    refine j_icmp_lt hC (tgt := 34) (by decide) (dOk_at dt_X10_isSmall 9 rfl) (fun q_2 => ?_) (fun q_2 => ?_)
    · refine j_iconst hC (v := (0 : Int32)) rfl (dOk_at dt_X10_isSmall 18 rfl) ?_
      exact j_zretK hC hret rfl (dOk_at dt_X10_isSmall 19 rfl)
    · refine j_aload_n hC 0 rfl rfl (dOk_at dt_X10_isSmall 10 rfl) ?_
      refine j_getR hC flX10_7 (show shp 107 = (10, 88) from rfl) (Nat.lt_of_lt_of_le (Nat.le_of_ble_eq_true rfl : 107 < 152) hN) (by decide) (by decide) (fun _ _ _ => rfl) (fun hs => hs 107 0 108 rfl) (dOk_at dt_X10_isSmall 11 rfl) ?_
      refine j_iload_n hC 1 rfl rfl (dOk_at dt_X10_isSmall 12 rfl) ?_
      refine j_iald hC (show shp 108 = (21, 700) from rfl) (Nat.lt_of_lt_of_le (Nat.le_of_ble_eq_true rfl : 108 < 152) hN) (dOk_at dt_X10_isSmall 13 rfl) ?_
      refine j_bipush hC (v := (122 : Int32)) rfl (dOk_at dt_X10_isSmall 14 rfl) ?_
      refine j_icmp_gt hC (tgt := 34) (by decide) (dOk_at dt_X10_isSmall 15 rfl) (fun q_3 => ?_) (fun q_3 => ?_)
      · refine j_iconst hC (v := (0 : Int32)) rfl (dOk_at dt_X10_isSmall 18 rfl) ?_
        exact j_zretK hC hret rfl (dOk_at dt_X10_isSmall 19 rfl)
      · refine j_iconst hC (v := (1 : Int32)) rfl (dOk_at dt_X10_isSmall 16 rfl) ?_
        refine j_goto hC (tgt := 35) (by decide) (dOk_at dt_X10_isSmall 17 rfl) ?_
        exact j_zretK hC hret rfl (dOk_at dt_X10_isSmall 19 rfl)
def tb_X10_isDigit : List (Nat × Instr × Nat) := [(0, .iload_n 1, 1), (1, .aload_n 0, 1), (2, .getfield 169, 3), (5, .if_icmp .ge 29, 3), (8, .aload_n 0, 1), (9, .getfield 7, 3), (12, .iload_n 1, 1), (13, .iaload, 1), (14, .bipush 48, 2), (16, .if_icmp .lt 18, 3), (19, .aload_n 0, 1), (20, .getfield 7, 3), (23, .iload_n 1, 1), (24, .iaload, 1), (25, .bipush 57, 2), (27, .if_icmp .gt 7, 3), (30, .iconst 1, 1), (31, .goto 4, 3), (34, .iconst 0, 1), (35, .ireturn, 1)]
theorem dt_X10_isDigit : dOk cX10_isDigit tb_X10_isDigit = true := by decide +kernel
def fX10_isDigit (h : Hp) (x1 : Int32) : Option (Int32 × Hp) := if (hI h 107 6) ≤ x1 then (some ((0 : Int32), h)) else (if inb x1 700 then (if (hI h 108 (Int32.toNatClampNeg x1)) < (48 : Int32) then (some ((0 : Int32), h)) else (if inb x1 700 then (if (57 : Int32) < (hI h 108 (Int32.toNatClampNeg x1)) then (some ((0 : Int32), h)) else (some ((1 : Int32), h))) else none)) else none)
set_option maxRecDepth 100000 in
set_option maxHeartbeats 4000000 in
theorem c_X10_isDigit {l : Launch} {sb : State} {D : va_G} {ids : Nat → ClassId} {n : Nat} (hN : 152 ≤ n) (h : Hp) (x1 : Int32) (r : Int32 × Hp) (hr : fX10_isDigit h x1 = some r) : jM l yX10_isDigit cX10_isDigit 2 (some .boolean) 0 sb D ids shp St n [.ref 107, .int x1] h (jQi sb D ids shp St n r) := by
  refine jM_of hr rfl (Nat.le_of_ble_eq_true rfl) ?_
  intro p e s m args below meth c hC hret
  unfold fX10_isDigit
  refine j_iload_n hC 1 rfl rfl (dOk_at dt_X10_isDigit 0 rfl) ?_
  refine j_aload_n hC 0 rfl rfl (dOk_at dt_X10_isDigit 1 rfl) ?_
  refine j_getI hC flX10_169 (show shp 107 = (10, 88) from rfl) (Nat.lt_of_lt_of_le (Nat.le_of_ble_eq_true rfl : 107 < 152) hN) (by decide) (by decide) (fun _ _ _ => rfl) (dOk_at dt_X10_isDigit 2 rfl) ?_
  refine j_icmp_ge hC (tgt := 34) (by decide) (dOk_at dt_X10_isDigit 3 rfl) (fun q_1 => ?_) (fun q_1 => ?_)
  · refine j_iconst hC (v := (0 : Int32)) rfl (dOk_at dt_X10_isDigit 18 rfl) ?_
    exact j_zretK hC hret rfl (dOk_at dt_X10_isDigit 19 rfl)
  · refine j_aload_n hC 0 rfl rfl (dOk_at dt_X10_isDigit 4 rfl) ?_
    refine j_getR hC flX10_7 (show shp 107 = (10, 88) from rfl) (Nat.lt_of_lt_of_le (Nat.le_of_ble_eq_true rfl : 107 < 152) hN) (by decide) (by decide) (fun _ _ _ => rfl) (fun hs => hs 107 0 108 rfl) (dOk_at dt_X10_isDigit 5 rfl) ?_
    refine j_iload_n hC 1 rfl rfl (dOk_at dt_X10_isDigit 6 rfl) ?_
    refine j_iald hC (show shp 108 = (21, 700) from rfl) (Nat.lt_of_lt_of_le (Nat.le_of_ble_eq_true rfl : 108 < 152) hN) (dOk_at dt_X10_isDigit 7 rfl) ?_
    refine j_bipush hC (v := (48 : Int32)) rfl (dOk_at dt_X10_isDigit 8 rfl) ?_
    refine j_icmp_lt hC (tgt := 34) (by decide) (dOk_at dt_X10_isDigit 9 rfl) (fun q_2 => ?_) (fun q_2 => ?_)
    · refine j_iconst hC (v := (0 : Int32)) rfl (dOk_at dt_X10_isDigit 18 rfl) ?_
      exact j_zretK hC hret rfl (dOk_at dt_X10_isDigit 19 rfl)
    · refine j_aload_n hC 0 rfl rfl (dOk_at dt_X10_isDigit 10 rfl) ?_
      refine j_getR hC flX10_7 (show shp 107 = (10, 88) from rfl) (Nat.lt_of_lt_of_le (Nat.le_of_ble_eq_true rfl : 107 < 152) hN) (by decide) (by decide) (fun _ _ _ => rfl) (fun hs => hs 107 0 108 rfl) (dOk_at dt_X10_isDigit 11 rfl) ?_
      refine j_iload_n hC 1 rfl rfl (dOk_at dt_X10_isDigit 12 rfl) ?_
      refine j_iald hC (show shp 108 = (21, 700) from rfl) (Nat.lt_of_lt_of_le (Nat.le_of_ble_eq_true rfl : 108 < 152) hN) (dOk_at dt_X10_isDigit 13 rfl) ?_
      refine j_bipush hC (v := (57 : Int32)) rfl (dOk_at dt_X10_isDigit 14 rfl) ?_
      refine j_icmp_gt hC (tgt := 34) (by decide) (dOk_at dt_X10_isDigit 15 rfl) (fun q_3 => ?_) (fun q_3 => ?_)
      · refine j_iconst hC (v := (0 : Int32)) rfl (dOk_at dt_X10_isDigit 18 rfl) ?_
        exact j_zretK hC hret rfl (dOk_at dt_X10_isDigit 19 rfl)
      · refine j_iconst hC (v := (1 : Int32)) rfl (dOk_at dt_X10_isDigit 16 rfl) ?_
        refine j_goto hC (tgt := 35) (by decide) (dOk_at dt_X10_isDigit 17 rfl) ?_
        exact j_zretK hC hret rfl (dOk_at dt_X10_isDigit 19 rfl)
def tb_X10_packed : List (Nat × Instr × Nat) := [(0, .iconst 0, 1), (1, .istore_n 3, 1), (2, .iload_n 1, 1), (3, .istore 4, 2), (5, .iload 4, 2), (7, .iload_n 1, 1), (8, .bipush 6, 2), (10, .iadd, 1), (11, .if_icmp .ge 34, 3), (14, .iload_n 3, 1), (15, .iconst 5, 1), (16, .ishl, 1), (17, .iload 4, 2), (19, .iload_n 2, 1), (20, .if_icmp .ge 16, 3), (23, .aload_n 0, 1), (24, .getfield 7, 3), (27, .iload 4, 2), (29, .iaload, 1), (30, .bipush 96, 2), (32, .isub, 1), (33, .goto 4, 3), (36, .iconst 0, 1), (37, .ior, 1), (38, .istore_n 3, 1), (39, .iinc 4 1, 3), (42, .goto (-37), 3), (45, .iload_n 3, 1), (46, .ireturn, 1)]
theorem dt_X10_packed : dOk cX10_packed tb_X10_packed = true := by decide +kernel
def fX10_packed_37 (rec5 : Hp → Int32 → Int32 → Int32 → Int32 → Option (Int32 × Hp)) (h : Hp) (x1 : Int32) (x2 : Int32) (x4 : Int32) (s0 : Int32) (s1 : Int32) : Option (Int32 × Hp) := rec5 h x1 x2 (s0 ||| s1) (x4 + (1 : Int32))
def fX10_packed_5 : Nat → Hp → Int32 → Int32 → Int32 → Int32 → Option (Int32 × Hp)
  | 0, _, _, _, _, _ => none
  | fu + 1, h, x1, x2, x3, x4 => if (x1 + (6 : Int32)) ≤ x4 then (some (x3, h)) else (if x2 ≤ x4 then (fX10_packed_37 (fX10_packed_5 fu) h x1 x2 x4 (x3 <<< ((5 : Int32) &&& 31)) (0 : Int32)) else (if inb x4 700 then (fX10_packed_37 (fX10_packed_5 fu) h x1 x2 x4 (x3 <<< ((5 : Int32) &&& 31)) ((hI h 108 (Int32.toNatClampNeg x4)) - (96 : Int32))) else none))
def fX10_packed (h : Hp) (x1 : Int32) (x2 : Int32) : Option (Int32 × Hp) := fX10_packed_5 FU h x1 x2 (0 : Int32) x1
set_option maxRecDepth 100000 in
set_option maxHeartbeats 4000000 in
theorem c_X10_packed {l : Launch} {sb : State} {D : va_G} {ids : Nat → ClassId} {n : Nat} (hN : 152 ≤ n) (h : Hp) (x1 : Int32) (x2 : Int32) (r : Int32 × Hp) (hr : fX10_packed h x1 x2 = some r) : jM l yX10_packed cX10_packed 5 (some .int) 0 sb D ids shp St n [.ref 107, .int x1, .int x2] h (jQi sb D ids shp St n r) := by
  refine jM_of hr rfl (Nat.le_of_ble_eq_true rfl) ?_
  intro p e s m args below meth c hC hret
  have b37 : ∀ (rec5 : Hp → Int32 → Int32 → Int32 → Int32 → Option (Int32 × Hp)) (hrec5 : ∀ (h : Hp) (x1 : Int32) (x2 : Int32) (x3 : Int32) (x4 : Int32) , jJ p l e (rmD 0) s m args below meth c 5 sb D ids shp St (fun r => MQ below (jQi sb D ids shp St n r) args s 0 0 (jA sb)) n 0 0 h 5 [(0, .ref 107), (1, .int x1), (2, .int x2), (3, .int x3), (4, .int x4)] [] (rec5 h x1 x2 x3 x4)) (h : Hp) (x1 : Int32) (x2 : Int32) (x4 : Int32) (s0 : Int32) (s1 : Int32) , jJ p l e (rmD 0) s m args below meth c 5 sb D ids shp St (fun r => MQ below (jQi sb D ids shp St n r) args s 0 0 (jA sb)) n 0 0 h 37 [(0, .ref 107), (1, .int x1), (2, .int x2), (4, .int x4)] [.int s1, .int s0] (fX10_packed_37 rec5 h x1 x2 x4 s0 s1) := by
    intro rec5 hrec5 h x1 x2 x4 s0 s1 
    unfold fX10_packed_37
    refine j_ior hC (dOk_at dt_X10_packed 23 rfl) ?_
    refine j_istore_n hC rfl (lv' := [(3, .int (s0 ||| s1)), (0, .ref 107), (1, .int x1), (2, .int x2), (4, .int x4)]) (by decide) rfl (dOk_at dt_X10_packed 24 rfl) ?_
    refine j_iinc hC (v := (x4 + (1 : Int32))) (lv' := [(4, .int (x4 + (1 : Int32))), (3, .int (s0 ||| s1)), (0, .ref 107), (1, .int x1), (2, .int x2)]) 4 rfl (congrArg (fun z => x4 + z) (show Int32.ofInt (1) = (1 : Int32) from by decide)) (by decide) rfl (dOk_at dt_X10_packed 25 rfl) ?_
    refine j_goto hC (tgt := 5) (by decide) (dOk_at dt_X10_packed 26 rfl) ?_
    refine j_sub [2, 3, 4, 1, 0] rfl ?_
    exact hrec5 h x1 x2 (s0 ||| s1) (x4 + (1 : Int32)) 
  have b5 : ∀ (fu : Nat) (h : Hp) (x1 : Int32) (x2 : Int32) (x3 : Int32) (x4 : Int32) , jJ p l e (rmD 0) s m args below meth c 5 sb D ids shp St (fun r => MQ below (jQi sb D ids shp St n r) args s 0 0 (jA sb)) n 0 0 h 5 [(0, .ref 107), (1, .int x1), (2, .int x2), (3, .int x3), (4, .int x4)] [] (fX10_packed_5 fu h x1 x2 x3 x4) := by
    intro fu 
    induction fu with
    | zero => intro h x1 x2 x3 x4 ; exact j_none
    | succ fu ih =>
    intro h x1 x2 x3 x4 
    rw [fX10_packed_5]
    refine j_iload hC 4 rfl (dOk_at dt_X10_packed 4 rfl) ?_
    refine j_iload_n hC 1 rfl rfl (dOk_at dt_X10_packed 5 rfl) ?_
    refine j_bipush hC (v := (6 : Int32)) rfl (dOk_at dt_X10_packed 6 rfl) ?_
    refine j_iadd hC (dOk_at dt_X10_packed 7 rfl) ?_
    refine j_icmp_ge hC (tgt := 45) (by decide) (dOk_at dt_X10_packed 8 rfl) (fun q_1 => ?_) (fun q_1 => ?_)
    · refine j_iload_n hC 3 rfl rfl (dOk_at dt_X10_packed 27 rfl) ?_
      exact j_iret hC hret (dOk_at dt_X10_packed 28 rfl)
    · refine j_iload_n hC 3 rfl rfl (dOk_at dt_X10_packed 9 rfl) ?_
      refine j_iconst hC (v := (5 : Int32)) rfl (dOk_at dt_X10_packed 10 rfl) ?_
      refine j_ishl hC (dOk_at dt_X10_packed 11 rfl) ?_
      refine j_iload hC 4 rfl (dOk_at dt_X10_packed 12 rfl) ?_
      refine j_iload_n hC 2 rfl rfl (dOk_at dt_X10_packed 13 rfl) ?_
      refine j_icmp_ge hC (tgt := 36) (by decide) (dOk_at dt_X10_packed 14 rfl) (fun q_2 => ?_) (fun q_2 => ?_)
      · refine j_iconst hC (v := (0 : Int32)) rfl (dOk_at dt_X10_packed 22 rfl) ?_
        refine j_sub [0, 1, 2, 4] rfl ?_
        exact b37 (fX10_packed_5 fu) ih h x1 x2 x4 (x3 <<< ((5 : Int32) &&& 31)) (0 : Int32) 
      · refine j_aload_n hC 0 rfl rfl (dOk_at dt_X10_packed 15 rfl) ?_
        refine j_getR hC flX10_7 (show shp 107 = (10, 88) from rfl) (Nat.lt_of_lt_of_le (Nat.le_of_ble_eq_true rfl : 107 < 152) hN) (by decide) (by decide) (fun _ _ _ => rfl) (fun hs => hs 107 0 108 rfl) (dOk_at dt_X10_packed 16 rfl) ?_
        refine j_iload hC 4 rfl (dOk_at dt_X10_packed 17 rfl) ?_
        refine j_iald hC (show shp 108 = (21, 700) from rfl) (Nat.lt_of_lt_of_le (Nat.le_of_ble_eq_true rfl : 108 < 152) hN) (dOk_at dt_X10_packed 18 rfl) ?_
        refine j_bipush hC (v := (96 : Int32)) rfl (dOk_at dt_X10_packed 19 rfl) ?_
        refine j_isub hC (dOk_at dt_X10_packed 20 rfl) ?_
        refine j_goto hC (tgt := 37) (by decide) (dOk_at dt_X10_packed 21 rfl) ?_
        refine j_sub [0, 1, 2, 4] rfl ?_
        exact b37 (fX10_packed_5 fu) ih h x1 x2 x4 (x3 <<< ((5 : Int32) &&& 31)) ((hI h 108 (Int32.toNatClampNeg x4)) - (96 : Int32)) 
  unfold fX10_packed
  refine j_iconst hC (v := (0 : Int32)) rfl (dOk_at dt_X10_packed 0 rfl) ?_
  refine j_istore_n hC rfl (lv' := [(3, .int (0 : Int32)), (0, .ref 107), (1, .int x1), (2, .int x2)]) (by decide) rfl (dOk_at dt_X10_packed 1 rfl) ?_
  refine j_iload_n hC 2 rfl rfl (dOk_at dt_X10_packed 2 rfl) ?_
  refine j_istore hC (lv' := [(4, .int x1), (3, .int (0 : Int32)), (0, .ref 107), (1, .int x1), (2, .int x2)]) (by decide) rfl (dOk_at dt_X10_packed 3 rfl) ?_
  refine j_sub [2, 3, 4, 1, 0] rfl ?_
  exact b5 FU h x1 x2 (0 : Int32) x1 
def tb_X10_signToken : List (Nat × Instr × Nat) := [(0, .aload_n 0, 1), (1, .aload_n 0, 1), (2, .getfield 7, 3), (5, .aload_n 0, 1), (6, .getfield 172, 3), (9, .iaload, 1), (10, .putfield 186, 3), (13, .aload_n 0, 1), (14, .dup, 1), (15, .getfield 172, 3), (18, .iconst 1, 1), (19, .iadd, 1), (20, .putfield 172, 3), (23, .aload_n 0, 1), (24, .getfield 186, 3), (27, .bipush 60, 2), (29, .if_icmp .eq 21, 3), (32, .aload_n 0, 1), (33, .getfield 186, 3), (36, .bipush 62, 2), (38, .if_icmp .eq 12, 3), (41, .aload_n 0, 1), (42, .getfield 186, 3), (45, .bipush 61, 2), (47, .if_icmp .ne 151, 3), (50, .aload_n 0, 1), (51, .getfield 172, 3), (54, .aload_n 0, 1), (55, .getfield 169, 3), (58, .if_icmp .ge 15, 3), (61, .aload_n 0, 1), (62, .getfield 7, 3), (65, .aload_n 0, 1), (66, .getfield 172, 3), (69, .iaload, 1), (70, .goto 4, 3), (73, .iconst 0, 1), (74, .istore_n 1, 1), (75, .aload_n 0, 1), (76, .getfield 186, 3), (79, .bipush 61, 2), (81, .if_icmp .eq 13, 3), (84, .iload_n 1, 1), (85, .bipush 61, 2), (87, .if_icmp .ne 7, 3), (90, .iconst 1, 1), (91, .goto 4, 3), (94, .iconst 0, 1), (95, .istore_n 2, 1), (96, .aload_n 0, 1), (97, .getfield 186, 3), (100, .bipush 60, 2), (102, .if_icmp .ne 13, 3), (105, .iload_n 1, 1), (106, .bipush 62, 2), (108, .if_icmp .ne 7, 3), (111, .iconst 1, 1), (112, .goto 4, 3), (115, .iconst 0, 1), (116, .istore_n 3, 1), (117, .iload_n 2, 1), (118, .ifCond .ne 7, 3), (121, .iload_n 3, 1), (122, .ifCond .eq 13, 3), (125, .aload_n 0, 1), (126, .dup, 1), (127, .getfield 172, 3), (130, .iconst 1, 1), (131, .iadd, 1), (132, .putfield 172, 3), (135, .aload_n 0, 1), (136, .iconst 5, 1), (137, .putfield 175, 3), (140, .aload_n 0, 1), (141, .aload_n 0, 1), (142, .getfield 186, 3), (145, .bipush 61, 2), (147, .if_icmp .ne 7, 3), (150, .iconst 2, 1), (151, .goto 41, 3), (154, .aload_n 0, 1), (155, .getfield 186, 3), (158, .bipush 60, 2), (160, .if_icmp .ne 23, 3), (163, .iload_n 2, 1), (164, .ifCond .eq 7, 3), (167, .iconst 1, 1), (168, .goto 24, 3), (171, .iload_n 3, 1), (172, .ifCond .eq 7, 3), (175, .iconst 3, 1), (176, .goto 16, 3), (179, .iconst 0, 1), (180, .goto 12, 3), (183, .iload_n 2, 1), (184, .ifCond .eq 7, 3), (187, .iconst 4, 1), (188, .goto 4, 3), (191, .iconst 5, 1), (192, .putfield 186, 3), (195, .goto 95, 3), (198, .aload_n 0, 1), (199, .getfield 186, 3), (202, .bipush 59, 2), (204, .if_icmp .eq 66, 3), (207, .aload_n 0, 1), (208, .getfield 186, 3), (211, .bipush 40, 2), (213, .if_icmp .eq 57, 3), (216, .aload_n 0, 1), (217, .getfield 186, 3), (220, .bipush 41, 2), (222, .if_icmp .eq 48, 3), (225, .aload_n 0, 1), (226, .getfield 186, 3), (229, .bipush 43, 2), (231, .if_icmp .eq 39, 3), (234, .aload_n 0, 1), (235, .getfield 186, 3), (238, .bipush 45, 2), (240, .if_icmp .eq 30, 3), (243, .aload_n 0, 1), (244, .getfield 186, 3), (247, .bipush 42, 2), (249, .if_icmp .eq 21, 3), (252, .aload_n 0, 1), (253, .getfield 186, 3), (256, .bipush 47, 2), (258, .if_icmp .eq 12, 3), (261, .aload_n 0, 1), (262, .getfield 186, 3), (265, .bipush 37, 2), (267, .if_icmp .ne 7, 3), (270, .iconst 1, 1), (271, .goto 4, 3), (274, .iconst 0, 1), (275, .istore_n 1, 1), (276, .aload_n 0, 1), (277, .iload_n 1, 1), (278, .ifCond .eq 7, 3), (281, .iconst 4, 1), (282, .goto 5, 3), (285, .bipush 6, 2), (287, .putfield 175, 3), (290, .return_, 1)]
theorem dt_X10_signToken : dOk cX10_signToken tb_X10_signToken = true := by decide +kernel
def fX10_signToken_135 (h : Hp) (x2 : Int32) (x3 : Int32) : Option (Hp) := if (hI (uI h 107 8 (5 : Int32)) 107 9) = (61 : Int32) then (some (uI (uI h 107 8 (5 : Int32)) 107 9 (2 : Int32))) else (if (hI (uI h 107 8 (5 : Int32)) 107 9) = (60 : Int32) then (if x2 = 0 then (if x3 = 0 then (some (uI (uI h 107 8 (5 : Int32)) 107 9 (0 : Int32))) else (some (uI (uI h 107 8 (5 : Int32)) 107 9 (3 : Int32)))) else (some (uI (uI h 107 8 (5 : Int32)) 107 9 (1 : Int32)))) else (if x2 = 0 then (some (uI (uI h 107 8 (5 : Int32)) 107 9 (5 : Int32))) else (some (uI (uI h 107 8 (5 : Int32)) 107 9 (4 : Int32)))))
def fX10_signToken_125 (h : Hp) (x2 : Int32) (x3 : Int32) : Option (Hp) := fX10_signToken_135 (uI h 107 7 ((hI h 107 7) + (1 : Int32))) x2 x3
def fX10_signToken_116 (h : Hp) (x2 : Int32) (s0 : Int32) : Option (Hp) := if x2 = 0 then (if s0 = 0 then (fX10_signToken_135 h x2 s0) else (fX10_signToken_125 h x2 s0)) else (fX10_signToken_125 h x2 s0)
def fX10_signToken_115 (h : Hp) (x2 : Int32) : Option (Hp) := fX10_signToken_116 h x2 (0 : Int32)
def fX10_signToken_95 (h : Hp) (x1 : Int32) (s0 : Int32) : Option (Hp) := if (hI h 107 9) = (60 : Int32) then (if x1 = (62 : Int32) then (fX10_signToken_116 h s0 (1 : Int32)) else (fX10_signToken_115 h s0)) else (fX10_signToken_115 h s0)
def fX10_signToken_94 (h : Hp) (x1 : Int32) : Option (Hp) := fX10_signToken_95 h x1 (0 : Int32)
def fX10_signToken_74 (h : Hp) (s0 : Int32) : Option (Hp) := if (hI h 107 9) = (61 : Int32) then (fX10_signToken_94 h s0) else (if s0 = (61 : Int32) then (fX10_signToken_95 h s0 (1 : Int32)) else (fX10_signToken_94 h s0))
def fX10_signToken_50 (h : Hp) : Option (Hp) := if (hI h 107 6) ≤ (hI h 107 7) then (fX10_signToken_74 h (0 : Int32)) else (if inb (hI h 107 7) 700 then (fX10_signToken_74 h (hI h 108 (Int32.toNatClampNeg (hI h 107 7)))) else none)
def fX10_signToken_275 (h : Hp) (s0 : Int32) : Option (Hp) := if s0 = 0 then (some (uI h 107 8 (6 : Int32))) else (some (uI h 107 8 (4 : Int32)))
def fX10_signToken_270 (h : Hp) : Option (Hp) := fX10_signToken_275 h (1 : Int32)
def fX10_signToken (h : Hp) : Option (Hp) := if inb (hI h 107 7) 700 then (if (hI (uI (uI h 107 9 (hI h 108 (Int32.toNatClampNeg (hI h 107 7)))) 107 7 ((hI (uI h 107 9 (hI h 108 (Int32.toNatClampNeg (hI h 107 7)))) 107 7) + (1 : Int32))) 107 9) = (60 : Int32) then (fX10_signToken_50 (uI (uI h 107 9 (hI h 108 (Int32.toNatClampNeg (hI h 107 7)))) 107 7 ((hI (uI h 107 9 (hI h 108 (Int32.toNatClampNeg (hI h 107 7)))) 107 7) + (1 : Int32)))) else (if (hI (uI (uI h 107 9 (hI h 108 (Int32.toNatClampNeg (hI h 107 7)))) 107 7 ((hI (uI h 107 9 (hI h 108 (Int32.toNatClampNeg (hI h 107 7)))) 107 7) + (1 : Int32))) 107 9) = (62 : Int32) then (fX10_signToken_50 (uI (uI h 107 9 (hI h 108 (Int32.toNatClampNeg (hI h 107 7)))) 107 7 ((hI (uI h 107 9 (hI h 108 (Int32.toNatClampNeg (hI h 107 7)))) 107 7) + (1 : Int32)))) else (if (hI (uI (uI h 107 9 (hI h 108 (Int32.toNatClampNeg (hI h 107 7)))) 107 7 ((hI (uI h 107 9 (hI h 108 (Int32.toNatClampNeg (hI h 107 7)))) 107 7) + (1 : Int32))) 107 9) = (61 : Int32) then (fX10_signToken_50 (uI (uI h 107 9 (hI h 108 (Int32.toNatClampNeg (hI h 107 7)))) 107 7 ((hI (uI h 107 9 (hI h 108 (Int32.toNatClampNeg (hI h 107 7)))) 107 7) + (1 : Int32)))) else (if (hI (uI (uI h 107 9 (hI h 108 (Int32.toNatClampNeg (hI h 107 7)))) 107 7 ((hI (uI h 107 9 (hI h 108 (Int32.toNatClampNeg (hI h 107 7)))) 107 7) + (1 : Int32))) 107 9) = (59 : Int32) then (fX10_signToken_270 (uI (uI h 107 9 (hI h 108 (Int32.toNatClampNeg (hI h 107 7)))) 107 7 ((hI (uI h 107 9 (hI h 108 (Int32.toNatClampNeg (hI h 107 7)))) 107 7) + (1 : Int32)))) else (if (hI (uI (uI h 107 9 (hI h 108 (Int32.toNatClampNeg (hI h 107 7)))) 107 7 ((hI (uI h 107 9 (hI h 108 (Int32.toNatClampNeg (hI h 107 7)))) 107 7) + (1 : Int32))) 107 9) = (40 : Int32) then (fX10_signToken_270 (uI (uI h 107 9 (hI h 108 (Int32.toNatClampNeg (hI h 107 7)))) 107 7 ((hI (uI h 107 9 (hI h 108 (Int32.toNatClampNeg (hI h 107 7)))) 107 7) + (1 : Int32)))) else (if (hI (uI (uI h 107 9 (hI h 108 (Int32.toNatClampNeg (hI h 107 7)))) 107 7 ((hI (uI h 107 9 (hI h 108 (Int32.toNatClampNeg (hI h 107 7)))) 107 7) + (1 : Int32))) 107 9) = (41 : Int32) then (fX10_signToken_270 (uI (uI h 107 9 (hI h 108 (Int32.toNatClampNeg (hI h 107 7)))) 107 7 ((hI (uI h 107 9 (hI h 108 (Int32.toNatClampNeg (hI h 107 7)))) 107 7) + (1 : Int32)))) else (if (hI (uI (uI h 107 9 (hI h 108 (Int32.toNatClampNeg (hI h 107 7)))) 107 7 ((hI (uI h 107 9 (hI h 108 (Int32.toNatClampNeg (hI h 107 7)))) 107 7) + (1 : Int32))) 107 9) = (43 : Int32) then (fX10_signToken_270 (uI (uI h 107 9 (hI h 108 (Int32.toNatClampNeg (hI h 107 7)))) 107 7 ((hI (uI h 107 9 (hI h 108 (Int32.toNatClampNeg (hI h 107 7)))) 107 7) + (1 : Int32)))) else (if (hI (uI (uI h 107 9 (hI h 108 (Int32.toNatClampNeg (hI h 107 7)))) 107 7 ((hI (uI h 107 9 (hI h 108 (Int32.toNatClampNeg (hI h 107 7)))) 107 7) + (1 : Int32))) 107 9) = (45 : Int32) then (fX10_signToken_270 (uI (uI h 107 9 (hI h 108 (Int32.toNatClampNeg (hI h 107 7)))) 107 7 ((hI (uI h 107 9 (hI h 108 (Int32.toNatClampNeg (hI h 107 7)))) 107 7) + (1 : Int32)))) else (if (hI (uI (uI h 107 9 (hI h 108 (Int32.toNatClampNeg (hI h 107 7)))) 107 7 ((hI (uI h 107 9 (hI h 108 (Int32.toNatClampNeg (hI h 107 7)))) 107 7) + (1 : Int32))) 107 9) = (42 : Int32) then (fX10_signToken_270 (uI (uI h 107 9 (hI h 108 (Int32.toNatClampNeg (hI h 107 7)))) 107 7 ((hI (uI h 107 9 (hI h 108 (Int32.toNatClampNeg (hI h 107 7)))) 107 7) + (1 : Int32)))) else (if (hI (uI (uI h 107 9 (hI h 108 (Int32.toNatClampNeg (hI h 107 7)))) 107 7 ((hI (uI h 107 9 (hI h 108 (Int32.toNatClampNeg (hI h 107 7)))) 107 7) + (1 : Int32))) 107 9) = (47 : Int32) then (fX10_signToken_270 (uI (uI h 107 9 (hI h 108 (Int32.toNatClampNeg (hI h 107 7)))) 107 7 ((hI (uI h 107 9 (hI h 108 (Int32.toNatClampNeg (hI h 107 7)))) 107 7) + (1 : Int32)))) else (if (hI (uI (uI h 107 9 (hI h 108 (Int32.toNatClampNeg (hI h 107 7)))) 107 7 ((hI (uI h 107 9 (hI h 108 (Int32.toNatClampNeg (hI h 107 7)))) 107 7) + (1 : Int32))) 107 9) = (37 : Int32) then (fX10_signToken_270 (uI (uI h 107 9 (hI h 108 (Int32.toNatClampNeg (hI h 107 7)))) 107 7 ((hI (uI h 107 9 (hI h 108 (Int32.toNatClampNeg (hI h 107 7)))) 107 7) + (1 : Int32)))) else (fX10_signToken_275 (uI (uI h 107 9 (hI h 108 (Int32.toNatClampNeg (hI h 107 7)))) 107 7 ((hI (uI h 107 9 (hI h 108 (Int32.toNatClampNeg (hI h 107 7)))) 107 7) + (1 : Int32))) (0 : Int32))))))))))))) else none
set_option maxRecDepth 100000 in
set_option maxHeartbeats 4000000 in
theorem c_X10_signToken {l : Launch} {sb : State} {D : va_G} {ids : Nat → ClassId} {n : Nat} (hN : 152 ≤ n) (h : Hp) (r : Hp) (hr : fX10_signToken h = some r) : jM l yX10_signToken cX10_signToken 4 none 0 sb D ids shp St n [.ref 107] h (jQv sb D ids shp St n r) := by
  refine jM_of hr rfl (Nat.le_of_ble_eq_true rfl) ?_
  intro p e s m args below meth c hC hret
  have b135 : ∀ (h : Hp) (x2 : Int32) (x3 : Int32) , jJ p l e (rmD 0) s m args below meth c 4 sb D ids shp St (fun r => MQ below (jQv sb D ids shp St n r) args s 0 0 (jA sb)) n 0 0 h 135 [(0, .ref 107), (2, .int x2), (3, .int x3)] [] (fX10_signToken_135 h x2 x3) := by
    intro h x2 x3 
    unfold fX10_signToken_135
    refine j_aload_n hC 0 rfl rfl (dOk_at dt_X10_signToken 70 rfl) ?_
    refine j_iconst hC (v := (5 : Int32)) rfl (dOk_at dt_X10_signToken 71 rfl) ?_
    refine j_putI hC St_SP flX10_175 (show shp 107 = (10, 88) from rfl) (Nat.lt_of_lt_of_le (Nat.le_of_ble_eq_true rfl : 107 < 152) hN) (by decide) (by decide) rfl rfl (dOk_at dt_X10_signToken 72 rfl) ?_
    refine j_aload_n hC 0 rfl rfl (dOk_at dt_X10_signToken 73 rfl) ?_
    refine j_aload_n hC 0 rfl rfl (dOk_at dt_X10_signToken 74 rfl) ?_
    refine j_getI hC flX10_186 (show shp 107 = (10, 88) from rfl) (Nat.lt_of_lt_of_le (Nat.le_of_ble_eq_true rfl : 107 < 152) hN) (by decide) (by decide) (fun _ _ _ => rfl) (dOk_at dt_X10_signToken 75 rfl) ?_
    refine j_bipush hC (v := (61 : Int32)) rfl (dOk_at dt_X10_signToken 76 rfl) ?_
    refine j_icmp_ne hC (tgt := 154) (by decide) (dOk_at dt_X10_signToken 77 rfl) (fun q_20 => ?_) (fun q_20 => ?_)
    · refine j_aload_n hC 0 rfl rfl (dOk_at dt_X10_signToken 80 rfl) ?_
      refine j_getI hC flX10_186 (show shp 107 = (10, 88) from rfl) (Nat.lt_of_lt_of_le (Nat.le_of_ble_eq_true rfl : 107 < 152) hN) (by decide) (by decide) (fun _ _ _ => rfl) (dOk_at dt_X10_signToken 81 rfl) ?_
      refine j_bipush hC (v := (60 : Int32)) rfl (dOk_at dt_X10_signToken 82 rfl) ?_
      refine j_icmp_ne hC (tgt := 183) (by decide) (dOk_at dt_X10_signToken 83 rfl) (fun q_21 => ?_) (fun q_21 => ?_)
      · refine j_iload_n hC 1 rfl rfl (dOk_at dt_X10_signToken 94 rfl) ?_
        refine j_if_eq hC (tgt := 191) (by decide) (dOk_at dt_X10_signToken 95 rfl) (fun q_22 => ?_) (fun q_22 => ?_)
        · refine j_iconst hC (v := (5 : Int32)) rfl (dOk_at dt_X10_signToken 98 rfl) ?_
          refine j_putI hC St_SP flX10_186 (show shp 107 = (10, 88) from rfl) (Nat.lt_of_lt_of_le (Nat.le_of_ble_eq_true rfl : 107 < 152) hN) (by decide) (by decide) rfl rfl (dOk_at dt_X10_signToken 99 rfl) ?_
          refine j_goto hC (tgt := 290) (by decide) (dOk_at dt_X10_signToken 100 rfl) ?_
          exact j_vret hC hret (dOk_at dt_X10_signToken 144 rfl)
        · refine j_iconst hC (v := (4 : Int32)) rfl (dOk_at dt_X10_signToken 96 rfl) ?_
          refine j_goto hC (tgt := 192) (by decide) (dOk_at dt_X10_signToken 97 rfl) ?_
          refine j_putI hC St_SP flX10_186 (show shp 107 = (10, 88) from rfl) (Nat.lt_of_lt_of_le (Nat.le_of_ble_eq_true rfl : 107 < 152) hN) (by decide) (by decide) rfl rfl (dOk_at dt_X10_signToken 99 rfl) ?_
          refine j_goto hC (tgt := 290) (by decide) (dOk_at dt_X10_signToken 100 rfl) ?_
          exact j_vret hC hret (dOk_at dt_X10_signToken 144 rfl)
      · refine j_iload_n hC 1 rfl rfl (dOk_at dt_X10_signToken 84 rfl) ?_
        refine j_if_eq hC (tgt := 171) (by decide) (dOk_at dt_X10_signToken 85 rfl) (fun q_23 => ?_) (fun q_23 => ?_)
        · refine j_iload_n hC 2 rfl rfl (dOk_at dt_X10_signToken 88 rfl) ?_
          refine j_if_eq hC (tgt := 179) (by decide) (dOk_at dt_X10_signToken 89 rfl) (fun q_24 => ?_) (fun q_24 => ?_)
          · refine j_iconst hC (v := (0 : Int32)) rfl (dOk_at dt_X10_signToken 92 rfl) ?_
            refine j_goto hC (tgt := 192) (by decide) (dOk_at dt_X10_signToken 93 rfl) ?_
            refine j_putI hC St_SP flX10_186 (show shp 107 = (10, 88) from rfl) (Nat.lt_of_lt_of_le (Nat.le_of_ble_eq_true rfl : 107 < 152) hN) (by decide) (by decide) rfl rfl (dOk_at dt_X10_signToken 99 rfl) ?_
            refine j_goto hC (tgt := 290) (by decide) (dOk_at dt_X10_signToken 100 rfl) ?_
            exact j_vret hC hret (dOk_at dt_X10_signToken 144 rfl)
          · refine j_iconst hC (v := (3 : Int32)) rfl (dOk_at dt_X10_signToken 90 rfl) ?_
            refine j_goto hC (tgt := 192) (by decide) (dOk_at dt_X10_signToken 91 rfl) ?_
            refine j_putI hC St_SP flX10_186 (show shp 107 = (10, 88) from rfl) (Nat.lt_of_lt_of_le (Nat.le_of_ble_eq_true rfl : 107 < 152) hN) (by decide) (by decide) rfl rfl (dOk_at dt_X10_signToken 99 rfl) ?_
            refine j_goto hC (tgt := 290) (by decide) (dOk_at dt_X10_signToken 100 rfl) ?_
            exact j_vret hC hret (dOk_at dt_X10_signToken 144 rfl)
        · refine j_iconst hC (v := (1 : Int32)) rfl (dOk_at dt_X10_signToken 86 rfl) ?_
          refine j_goto hC (tgt := 192) (by decide) (dOk_at dt_X10_signToken 87 rfl) ?_
          refine j_putI hC St_SP flX10_186 (show shp 107 = (10, 88) from rfl) (Nat.lt_of_lt_of_le (Nat.le_of_ble_eq_true rfl : 107 < 152) hN) (by decide) (by decide) rfl rfl (dOk_at dt_X10_signToken 99 rfl) ?_
          refine j_goto hC (tgt := 290) (by decide) (dOk_at dt_X10_signToken 100 rfl) ?_
          exact j_vret hC hret (dOk_at dt_X10_signToken 144 rfl)
    · refine j_iconst hC (v := (2 : Int32)) rfl (dOk_at dt_X10_signToken 78 rfl) ?_
      refine j_goto hC (tgt := 192) (by decide) (dOk_at dt_X10_signToken 79 rfl) ?_
      refine j_putI hC St_SP flX10_186 (show shp 107 = (10, 88) from rfl) (Nat.lt_of_lt_of_le (Nat.le_of_ble_eq_true rfl : 107 < 152) hN) (by decide) (by decide) rfl rfl (dOk_at dt_X10_signToken 99 rfl) ?_
      refine j_goto hC (tgt := 290) (by decide) (dOk_at dt_X10_signToken 100 rfl) ?_
      exact j_vret hC hret (dOk_at dt_X10_signToken 144 rfl)
  have b125 : ∀ (h : Hp) (x2 : Int32) (x3 : Int32) , jJ p l e (rmD 0) s m args below meth c 4 sb D ids shp St (fun r => MQ below (jQv sb D ids shp St n r) args s 0 0 (jA sb)) n 0 0 h 125 [(0, .ref 107), (2, .int x2), (3, .int x3)] [] (fX10_signToken_125 h x2 x3) := by
    intro h x2 x3 
    unfold fX10_signToken_125
    refine j_aload_n hC 0 rfl rfl (dOk_at dt_X10_signToken 64 rfl) ?_
    refine j_dupr hC (dOk_at dt_X10_signToken 65 rfl) ?_
    refine j_getI hC flX10_172 (show shp 107 = (10, 88) from rfl) (Nat.lt_of_lt_of_le (Nat.le_of_ble_eq_true rfl : 107 < 152) hN) (by decide) (by decide) (fun _ _ _ => rfl) (dOk_at dt_X10_signToken 66 rfl) ?_
    refine j_iconst hC (v := (1 : Int32)) rfl (dOk_at dt_X10_signToken 67 rfl) ?_
    refine j_iadd hC (dOk_at dt_X10_signToken 68 rfl) ?_
    refine j_putI hC St_SP flX10_172 (show shp 107 = (10, 88) from rfl) (Nat.lt_of_lt_of_le (Nat.le_of_ble_eq_true rfl : 107 < 152) hN) (by decide) (by decide) rfl rfl (dOk_at dt_X10_signToken 69 rfl) ?_
    exact b135 (uI h 107 7 ((hI h 107 7) + (1 : Int32))) x2 x3 
  have b116 : ∀ (h : Hp) (x2 : Int32) (s0 : Int32) , jJ p l e (rmD 0) s m args below meth c 4 sb D ids shp St (fun r => MQ below (jQv sb D ids shp St n r) args s 0 0 (jA sb)) n 0 0 h 116 [(0, .ref 107), (2, .int x2)] [.int s0] (fX10_signToken_116 h x2 s0) := by
    intro h x2 s0 
    unfold fX10_signToken_116
    refine j_istore_n hC rfl (lv' := [(3, .int s0), (0, .ref 107), (2, .int x2)]) (by decide) rfl (dOk_at dt_X10_signToken 59 rfl) ?_
    refine j_iload_n hC 2 rfl rfl (dOk_at dt_X10_signToken 60 rfl) ?_
    refine j_if_ne hC (tgt := 125) (by decide) (dOk_at dt_X10_signToken 61 rfl) (fun q_18 => ?_) (fun q_18 => ?_)
    · refine j_sub [1, 2, 0] rfl ?_
      exact b125 h x2 s0 
    · refine j_iload_n hC 0 rfl rfl (dOk_at dt_X10_signToken 62 rfl) ?_
      refine j_if_eq hC (tgt := 135) (by decide) (dOk_at dt_X10_signToken 63 rfl) (fun q_19 => ?_) (fun q_19 => ?_)
      · refine j_sub [1, 2, 0] rfl ?_
        exact b135 h x2 s0 
      · refine j_sub [1, 2, 0] rfl ?_
        exact b125 h x2 s0 
  have b115 : ∀ (h : Hp) (x2 : Int32) , jJ p l e (rmD 0) s m args below meth c 4 sb D ids shp St (fun r => MQ below (jQv sb D ids shp St n r) args s 0 0 (jA sb)) n 0 0 h 115 [(0, .ref 107), (2, .int x2)] [] (fX10_signToken_115 h x2) := by
    intro h x2 
    unfold fX10_signToken_115
    refine j_iconst hC (v := (0 : Int32)) rfl (dOk_at dt_X10_signToken 58 rfl) ?_
    exact b116 h x2 (0 : Int32) 
  have b95 : ∀ (h : Hp) (x1 : Int32) (s0 : Int32) , jJ p l e (rmD 0) s m args below meth c 4 sb D ids shp St (fun r => MQ below (jQv sb D ids shp St n r) args s 0 0 (jA sb)) n 0 0 h 95 [(0, .ref 107), (1, .int x1)] [.int s0] (fX10_signToken_95 h x1 s0) := by
    intro h x1 s0 
    unfold fX10_signToken_95
    refine j_istore_n hC rfl (lv' := [(2, .int s0), (0, .ref 107), (1, .int x1)]) (by decide) rfl (dOk_at dt_X10_signToken 48 rfl) ?_
    refine j_aload_n hC 1 rfl rfl (dOk_at dt_X10_signToken 49 rfl) ?_
    refine j_getI hC flX10_186 (show shp 107 = (10, 88) from rfl) (Nat.lt_of_lt_of_le (Nat.le_of_ble_eq_true rfl : 107 < 152) hN) (by decide) (by decide) (fun _ _ _ => rfl) (dOk_at dt_X10_signToken 50 rfl) ?_
    refine j_bipush hC (v := (60 : Int32)) rfl (dOk_at dt_X10_signToken 51 rfl) ?_
    refine j_icmp_ne hC (tgt := 115) (by decide) (dOk_at dt_X10_signToken 52 rfl) (fun q_16 => ?_) (fun q_16 => ?_)
    · refine j_sub [1, 0] rfl ?_
      exact b115 h s0 
    · refine j_iload_n hC 2 rfl rfl (dOk_at dt_X10_signToken 53 rfl) ?_
      refine j_bipush hC (v := (62 : Int32)) rfl (dOk_at dt_X10_signToken 54 rfl) ?_
      refine j_icmp_ne hC (tgt := 115) (by decide) (dOk_at dt_X10_signToken 55 rfl) (fun q_17 => ?_) (fun q_17 => ?_)
      · refine j_sub [1, 0] rfl ?_
        exact b115 h s0 
      · refine j_iconst hC (v := (1 : Int32)) rfl (dOk_at dt_X10_signToken 56 rfl) ?_
        refine j_goto hC (tgt := 116) (by decide) (dOk_at dt_X10_signToken 57 rfl) ?_
        refine j_sub [1, 0] rfl ?_
        exact b116 h s0 (1 : Int32) 
  have b94 : ∀ (h : Hp) (x1 : Int32) , jJ p l e (rmD 0) s m args below meth c 4 sb D ids shp St (fun r => MQ below (jQv sb D ids shp St n r) args s 0 0 (jA sb)) n 0 0 h 94 [(0, .ref 107), (1, .int x1)] [] (fX10_signToken_94 h x1) := by
    intro h x1 
    unfold fX10_signToken_94
    refine j_iconst hC (v := (0 : Int32)) rfl (dOk_at dt_X10_signToken 47 rfl) ?_
    exact b95 h x1 (0 : Int32) 
  have b74 : ∀ (h : Hp) (s0 : Int32) , jJ p l e (rmD 0) s m args below meth c 4 sb D ids shp St (fun r => MQ below (jQv sb D ids shp St n r) args s 0 0 (jA sb)) n 0 0 h 74 [(0, .ref 107)] [.int s0] (fX10_signToken_74 h s0) := by
    intro h s0 
    unfold fX10_signToken_74
    refine j_istore_n hC rfl (lv' := [(1, .int s0), (0, .ref 107)]) (by decide) rfl (dOk_at dt_X10_signToken 37 rfl) ?_
    refine j_aload_n hC 1 rfl rfl (dOk_at dt_X10_signToken 38 rfl) ?_
    refine j_getI hC flX10_186 (show shp 107 = (10, 88) from rfl) (Nat.lt_of_lt_of_le (Nat.le_of_ble_eq_true rfl : 107 < 152) hN) (by decide) (by decide) (fun _ _ _ => rfl) (dOk_at dt_X10_signToken 39 rfl) ?_
    refine j_bipush hC (v := (61 : Int32)) rfl (dOk_at dt_X10_signToken 40 rfl) ?_
    refine j_icmp_eq hC (tgt := 94) (by decide) (dOk_at dt_X10_signToken 41 rfl) (fun q_14 => ?_) (fun q_14 => ?_)
    · refine j_sub [1, 0] rfl ?_
      exact b94 h s0 
    · refine j_iload_n hC 0 rfl rfl (dOk_at dt_X10_signToken 42 rfl) ?_
      refine j_bipush hC (v := (61 : Int32)) rfl (dOk_at dt_X10_signToken 43 rfl) ?_
      refine j_icmp_ne hC (tgt := 94) (by decide) (dOk_at dt_X10_signToken 44 rfl) (fun q_15 => ?_) (fun q_15 => ?_)
      · refine j_sub [1, 0] rfl ?_
        exact b94 h s0 
      · refine j_iconst hC (v := (1 : Int32)) rfl (dOk_at dt_X10_signToken 45 rfl) ?_
        refine j_goto hC (tgt := 95) (by decide) (dOk_at dt_X10_signToken 46 rfl) ?_
        refine j_sub [1, 0] rfl ?_
        exact b95 h s0 (1 : Int32) 
  have b50 : ∀ (h : Hp) , jJ p l e (rmD 0) s m args below meth c 4 sb D ids shp St (fun r => MQ below (jQv sb D ids shp St n r) args s 0 0 (jA sb)) n 0 0 h 50 [(0, .ref 107)] [] (fX10_signToken_50 h ) := by
    intro h 
    unfold fX10_signToken_50
    refine j_aload_n hC 0 rfl rfl (dOk_at dt_X10_signToken 25 rfl) ?_
    refine j_getI hC flX10_172 (show shp 107 = (10, 88) from rfl) (Nat.lt_of_lt_of_le (Nat.le_of_ble_eq_true rfl : 107 < 152) hN) (by decide) (by decide) (fun _ _ _ => rfl) (dOk_at dt_X10_signToken 26 rfl) ?_
    refine j_aload_n hC 0 rfl rfl (dOk_at dt_X10_signToken 27 rfl) ?_
    refine j_getI hC flX10_169 (show shp 107 = (10, 88) from rfl) (Nat.lt_of_lt_of_le (Nat.le_of_ble_eq_true rfl : 107 < 152) hN) (by decide) (by decide) (fun _ _ _ => rfl) (dOk_at dt_X10_signToken 28 rfl) ?_
    refine j_icmp_ge hC (tgt := 73) (by decide) (dOk_at dt_X10_signToken 29 rfl) (fun q_12 => ?_) (fun q_12 => ?_)
    · refine j_iconst hC (v := (0 : Int32)) rfl (dOk_at dt_X10_signToken 36 rfl) ?_
      exact b74 h (0 : Int32) 
    · refine j_aload_n hC 0 rfl rfl (dOk_at dt_X10_signToken 30 rfl) ?_
      refine j_getR hC flX10_7 (show shp 107 = (10, 88) from rfl) (Nat.lt_of_lt_of_le (Nat.le_of_ble_eq_true rfl : 107 < 152) hN) (by decide) (by decide) (fun _ _ _ => rfl) (fun hs => hs 107 0 108 rfl) (dOk_at dt_X10_signToken 31 rfl) ?_
      refine j_aload_n hC 0 rfl rfl (dOk_at dt_X10_signToken 32 rfl) ?_
      refine j_getI hC flX10_172 (show shp 107 = (10, 88) from rfl) (Nat.lt_of_lt_of_le (Nat.le_of_ble_eq_true rfl : 107 < 152) hN) (by decide) (by decide) (fun _ _ _ => rfl) (dOk_at dt_X10_signToken 33 rfl) ?_
      refine j_iald hC (show shp 108 = (21, 700) from rfl) (Nat.lt_of_lt_of_le (Nat.le_of_ble_eq_true rfl : 108 < 152) hN) (dOk_at dt_X10_signToken 34 rfl) ?_
      refine j_goto hC (tgt := 74) (by decide) (dOk_at dt_X10_signToken 35 rfl) ?_
      exact b74 h (hI h 108 (Int32.toNatClampNeg (hI h 107 7))) 
  have b275 : ∀ (h : Hp) (s0 : Int32) , jJ p l e (rmD 0) s m args below meth c 4 sb D ids shp St (fun r => MQ below (jQv sb D ids shp St n r) args s 0 0 (jA sb)) n 0 0 h 275 [(0, .ref 107)] [.int s0] (fX10_signToken_275 h s0) := by
    intro h s0 
    unfold fX10_signToken_275
    refine j_istore_n hC rfl (lv' := [(1, .int s0), (0, .ref 107)]) (by decide) rfl (dOk_at dt_X10_signToken 136 rfl) ?_
    refine j_aload_n hC 1 rfl rfl (dOk_at dt_X10_signToken 137 rfl) ?_
    refine j_iload_n hC 0 rfl rfl (dOk_at dt_X10_signToken 138 rfl) ?_
    refine j_if_eq hC (tgt := 285) (by decide) (dOk_at dt_X10_signToken 139 rfl) (fun q_13 => ?_) (fun q_13 => ?_)
    · refine j_bipush hC (v := (6 : Int32)) rfl (dOk_at dt_X10_signToken 142 rfl) ?_
      refine j_putI hC St_SP flX10_175 (show shp 107 = (10, 88) from rfl) (Nat.lt_of_lt_of_le (Nat.le_of_ble_eq_true rfl : 107 < 152) hN) (by decide) (by decide) rfl rfl (dOk_at dt_X10_signToken 143 rfl) ?_
      exact j_vret hC hret (dOk_at dt_X10_signToken 144 rfl)
    · refine j_iconst hC (v := (4 : Int32)) rfl (dOk_at dt_X10_signToken 140 rfl) ?_
      refine j_goto hC (tgt := 287) (by decide) (dOk_at dt_X10_signToken 141 rfl) ?_
      refine j_putI hC St_SP flX10_175 (show shp 107 = (10, 88) from rfl) (Nat.lt_of_lt_of_le (Nat.le_of_ble_eq_true rfl : 107 < 152) hN) (by decide) (by decide) rfl rfl (dOk_at dt_X10_signToken 143 rfl) ?_
      exact j_vret hC hret (dOk_at dt_X10_signToken 144 rfl)
  have b270 : ∀ (h : Hp) , jJ p l e (rmD 0) s m args below meth c 4 sb D ids shp St (fun r => MQ below (jQv sb D ids shp St n r) args s 0 0 (jA sb)) n 0 0 h 270 [(0, .ref 107)] [] (fX10_signToken_270 h ) := by
    intro h 
    unfold fX10_signToken_270
    refine j_iconst hC (v := (1 : Int32)) rfl (dOk_at dt_X10_signToken 133 rfl) ?_
    refine j_goto hC (tgt := 275) (by decide) (dOk_at dt_X10_signToken 134 rfl) ?_
    exact b275 h (1 : Int32) 
  unfold fX10_signToken
  refine j_aload_n hC 0 rfl rfl (dOk_at dt_X10_signToken 0 rfl) ?_
  refine j_aload_n hC 0 rfl rfl (dOk_at dt_X10_signToken 1 rfl) ?_
  refine j_getR hC flX10_7 (show shp 107 = (10, 88) from rfl) (Nat.lt_of_lt_of_le (Nat.le_of_ble_eq_true rfl : 107 < 152) hN) (by decide) (by decide) (fun _ _ _ => rfl) (fun hs => hs 107 0 108 rfl) (dOk_at dt_X10_signToken 2 rfl) ?_
  refine j_aload_n hC 0 rfl rfl (dOk_at dt_X10_signToken 3 rfl) ?_
  refine j_getI hC flX10_172 (show shp 107 = (10, 88) from rfl) (Nat.lt_of_lt_of_le (Nat.le_of_ble_eq_true rfl : 107 < 152) hN) (by decide) (by decide) (fun _ _ _ => rfl) (dOk_at dt_X10_signToken 4 rfl) ?_
  refine j_iald hC (show shp 108 = (21, 700) from rfl) (Nat.lt_of_lt_of_le (Nat.le_of_ble_eq_true rfl : 108 < 152) hN) (dOk_at dt_X10_signToken 5 rfl) ?_
  refine j_putI hC St_SP flX10_186 (show shp 107 = (10, 88) from rfl) (Nat.lt_of_lt_of_le (Nat.le_of_ble_eq_true rfl : 107 < 152) hN) (by decide) (by decide) rfl rfl (dOk_at dt_X10_signToken 6 rfl) ?_
  refine j_aload_n hC 0 rfl rfl (dOk_at dt_X10_signToken 7 rfl) ?_
  refine j_dupr hC (dOk_at dt_X10_signToken 8 rfl) ?_
  refine j_getI hC flX10_172 (show shp 107 = (10, 88) from rfl) (Nat.lt_of_lt_of_le (Nat.le_of_ble_eq_true rfl : 107 < 152) hN) (by decide) (by decide) (fun _ _ _ => rfl) (dOk_at dt_X10_signToken 9 rfl) ?_
  refine j_iconst hC (v := (1 : Int32)) rfl (dOk_at dt_X10_signToken 10 rfl) ?_
  refine j_iadd hC (dOk_at dt_X10_signToken 11 rfl) ?_
  refine j_putI hC St_SP flX10_172 (show shp 107 = (10, 88) from rfl) (Nat.lt_of_lt_of_le (Nat.le_of_ble_eq_true rfl : 107 < 152) hN) (by decide) (by decide) rfl rfl (dOk_at dt_X10_signToken 12 rfl) ?_
  refine j_aload_n hC 0 rfl rfl (dOk_at dt_X10_signToken 13 rfl) ?_
  refine j_getI hC flX10_186 (show shp 107 = (10, 88) from rfl) (Nat.lt_of_lt_of_le (Nat.le_of_ble_eq_true rfl : 107 < 152) hN) (by decide) (by decide) (fun _ _ _ => rfl) (dOk_at dt_X10_signToken 14 rfl) ?_
  refine j_bipush hC (v := (60 : Int32)) rfl (dOk_at dt_X10_signToken 15 rfl) ?_
  refine j_icmp_eq hC (tgt := 50) (by decide) (dOk_at dt_X10_signToken 16 rfl) (fun q_1 => ?_) (fun q_1 => ?_)
  · exact b50 (uI (uI h 107 9 (hI h 108 (Int32.toNatClampNeg (hI h 107 7)))) 107 7 ((hI (uI h 107 9 (hI h 108 (Int32.toNatClampNeg (hI h 107 7)))) 107 7) + (1 : Int32))) 
  · refine j_aload_n hC 0 rfl rfl (dOk_at dt_X10_signToken 17 rfl) ?_
    refine j_getI hC flX10_186 (show shp 107 = (10, 88) from rfl) (Nat.lt_of_lt_of_le (Nat.le_of_ble_eq_true rfl : 107 < 152) hN) (by decide) (by decide) (fun _ _ _ => rfl) (dOk_at dt_X10_signToken 18 rfl) ?_
    refine j_bipush hC (v := (62 : Int32)) rfl (dOk_at dt_X10_signToken 19 rfl) ?_
    refine j_icmp_eq hC (tgt := 50) (by decide) (dOk_at dt_X10_signToken 20 rfl) (fun q_2 => ?_) (fun q_2 => ?_)
    · exact b50 (uI (uI h 107 9 (hI h 108 (Int32.toNatClampNeg (hI h 107 7)))) 107 7 ((hI (uI h 107 9 (hI h 108 (Int32.toNatClampNeg (hI h 107 7)))) 107 7) + (1 : Int32))) 
    · refine j_aload_n hC 0 rfl rfl (dOk_at dt_X10_signToken 21 rfl) ?_
      refine j_getI hC flX10_186 (show shp 107 = (10, 88) from rfl) (Nat.lt_of_lt_of_le (Nat.le_of_ble_eq_true rfl : 107 < 152) hN) (by decide) (by decide) (fun _ _ _ => rfl) (dOk_at dt_X10_signToken 22 rfl) ?_
      refine j_bipush hC (v := (61 : Int32)) rfl (dOk_at dt_X10_signToken 23 rfl) ?_
      refine j_icmp_ne hC (tgt := 198) (by decide) (dOk_at dt_X10_signToken 24 rfl) (fun q_3 => ?_) (fun q_3 => ?_)
      · refine j_aload_n hC 0 rfl rfl (dOk_at dt_X10_signToken 101 rfl) ?_
        refine j_getI hC flX10_186 (show shp 107 = (10, 88) from rfl) (Nat.lt_of_lt_of_le (Nat.le_of_ble_eq_true rfl : 107 < 152) hN) (by decide) (by decide) (fun _ _ _ => rfl) (dOk_at dt_X10_signToken 102 rfl) ?_
        refine j_bipush hC (v := (59 : Int32)) rfl (dOk_at dt_X10_signToken 103 rfl) ?_
        refine j_icmp_eq hC (tgt := 270) (by decide) (dOk_at dt_X10_signToken 104 rfl) (fun q_4 => ?_) (fun q_4 => ?_)
        · exact b270 (uI (uI h 107 9 (hI h 108 (Int32.toNatClampNeg (hI h 107 7)))) 107 7 ((hI (uI h 107 9 (hI h 108 (Int32.toNatClampNeg (hI h 107 7)))) 107 7) + (1 : Int32))) 
        · refine j_aload_n hC 0 rfl rfl (dOk_at dt_X10_signToken 105 rfl) ?_
          refine j_getI hC flX10_186 (show shp 107 = (10, 88) from rfl) (Nat.lt_of_lt_of_le (Nat.le_of_ble_eq_true rfl : 107 < 152) hN) (by decide) (by decide) (fun _ _ _ => rfl) (dOk_at dt_X10_signToken 106 rfl) ?_
          refine j_bipush hC (v := (40 : Int32)) rfl (dOk_at dt_X10_signToken 107 rfl) ?_
          refine j_icmp_eq hC (tgt := 270) (by decide) (dOk_at dt_X10_signToken 108 rfl) (fun q_5 => ?_) (fun q_5 => ?_)
          · exact b270 (uI (uI h 107 9 (hI h 108 (Int32.toNatClampNeg (hI h 107 7)))) 107 7 ((hI (uI h 107 9 (hI h 108 (Int32.toNatClampNeg (hI h 107 7)))) 107 7) + (1 : Int32))) 
          · refine j_aload_n hC 0 rfl rfl (dOk_at dt_X10_signToken 109 rfl) ?_
            refine j_getI hC flX10_186 (show shp 107 = (10, 88) from rfl) (Nat.lt_of_lt_of_le (Nat.le_of_ble_eq_true rfl : 107 < 152) hN) (by decide) (by decide) (fun _ _ _ => rfl) (dOk_at dt_X10_signToken 110 rfl) ?_
            refine j_bipush hC (v := (41 : Int32)) rfl (dOk_at dt_X10_signToken 111 rfl) ?_
            refine j_icmp_eq hC (tgt := 270) (by decide) (dOk_at dt_X10_signToken 112 rfl) (fun q_6 => ?_) (fun q_6 => ?_)
            · exact b270 (uI (uI h 107 9 (hI h 108 (Int32.toNatClampNeg (hI h 107 7)))) 107 7 ((hI (uI h 107 9 (hI h 108 (Int32.toNatClampNeg (hI h 107 7)))) 107 7) + (1 : Int32))) 
            · refine j_aload_n hC 0 rfl rfl (dOk_at dt_X10_signToken 113 rfl) ?_
              refine j_getI hC flX10_186 (show shp 107 = (10, 88) from rfl) (Nat.lt_of_lt_of_le (Nat.le_of_ble_eq_true rfl : 107 < 152) hN) (by decide) (by decide) (fun _ _ _ => rfl) (dOk_at dt_X10_signToken 114 rfl) ?_
              refine j_bipush hC (v := (43 : Int32)) rfl (dOk_at dt_X10_signToken 115 rfl) ?_
              refine j_icmp_eq hC (tgt := 270) (by decide) (dOk_at dt_X10_signToken 116 rfl) (fun q_7 => ?_) (fun q_7 => ?_)
              · exact b270 (uI (uI h 107 9 (hI h 108 (Int32.toNatClampNeg (hI h 107 7)))) 107 7 ((hI (uI h 107 9 (hI h 108 (Int32.toNatClampNeg (hI h 107 7)))) 107 7) + (1 : Int32))) 
              · refine j_aload_n hC 0 rfl rfl (dOk_at dt_X10_signToken 117 rfl) ?_
                refine j_getI hC flX10_186 (show shp 107 = (10, 88) from rfl) (Nat.lt_of_lt_of_le (Nat.le_of_ble_eq_true rfl : 107 < 152) hN) (by decide) (by decide) (fun _ _ _ => rfl) (dOk_at dt_X10_signToken 118 rfl) ?_
                refine j_bipush hC (v := (45 : Int32)) rfl (dOk_at dt_X10_signToken 119 rfl) ?_
                refine j_icmp_eq hC (tgt := 270) (by decide) (dOk_at dt_X10_signToken 120 rfl) (fun q_8 => ?_) (fun q_8 => ?_)
                · exact b270 (uI (uI h 107 9 (hI h 108 (Int32.toNatClampNeg (hI h 107 7)))) 107 7 ((hI (uI h 107 9 (hI h 108 (Int32.toNatClampNeg (hI h 107 7)))) 107 7) + (1 : Int32))) 
                · refine j_aload_n hC 0 rfl rfl (dOk_at dt_X10_signToken 121 rfl) ?_
                  refine j_getI hC flX10_186 (show shp 107 = (10, 88) from rfl) (Nat.lt_of_lt_of_le (Nat.le_of_ble_eq_true rfl : 107 < 152) hN) (by decide) (by decide) (fun _ _ _ => rfl) (dOk_at dt_X10_signToken 122 rfl) ?_
                  refine j_bipush hC (v := (42 : Int32)) rfl (dOk_at dt_X10_signToken 123 rfl) ?_
                  refine j_icmp_eq hC (tgt := 270) (by decide) (dOk_at dt_X10_signToken 124 rfl) (fun q_9 => ?_) (fun q_9 => ?_)
                  · exact b270 (uI (uI h 107 9 (hI h 108 (Int32.toNatClampNeg (hI h 107 7)))) 107 7 ((hI (uI h 107 9 (hI h 108 (Int32.toNatClampNeg (hI h 107 7)))) 107 7) + (1 : Int32))) 
                  · refine j_aload_n hC 0 rfl rfl (dOk_at dt_X10_signToken 125 rfl) ?_
                    refine j_getI hC flX10_186 (show shp 107 = (10, 88) from rfl) (Nat.lt_of_lt_of_le (Nat.le_of_ble_eq_true rfl : 107 < 152) hN) (by decide) (by decide) (fun _ _ _ => rfl) (dOk_at dt_X10_signToken 126 rfl) ?_
                    refine j_bipush hC (v := (47 : Int32)) rfl (dOk_at dt_X10_signToken 127 rfl) ?_
                    refine j_icmp_eq hC (tgt := 270) (by decide) (dOk_at dt_X10_signToken 128 rfl) (fun q_10 => ?_) (fun q_10 => ?_)
                    · exact b270 (uI (uI h 107 9 (hI h 108 (Int32.toNatClampNeg (hI h 107 7)))) 107 7 ((hI (uI h 107 9 (hI h 108 (Int32.toNatClampNeg (hI h 107 7)))) 107 7) + (1 : Int32))) 
                    · refine j_aload_n hC 0 rfl rfl (dOk_at dt_X10_signToken 129 rfl) ?_
                      refine j_getI hC flX10_186 (show shp 107 = (10, 88) from rfl) (Nat.lt_of_lt_of_le (Nat.le_of_ble_eq_true rfl : 107 < 152) hN) (by decide) (by decide) (fun _ _ _ => rfl) (dOk_at dt_X10_signToken 130 rfl) ?_
                      refine j_bipush hC (v := (37 : Int32)) rfl (dOk_at dt_X10_signToken 131 rfl) ?_
                      refine j_icmp_ne hC (tgt := 274) (by decide) (dOk_at dt_X10_signToken 132 rfl) (fun q_11 => ?_) (fun q_11 => ?_)
                      · refine j_iconst hC (v := (0 : Int32)) rfl (dOk_at dt_X10_signToken 135 rfl) ?_
                        exact b275 (uI (uI h 107 9 (hI h 108 (Int32.toNatClampNeg (hI h 107 7)))) 107 7 ((hI (uI h 107 9 (hI h 108 (Int32.toNatClampNeg (hI h 107 7)))) 107 7) + (1 : Int32))) (0 : Int32) 
                      · exact b270 (uI (uI h 107 9 (hI h 108 (Int32.toNatClampNeg (hI h 107 7)))) 107 7 ((hI (uI h 107 9 (hI h 108 (Int32.toNatClampNeg (hI h 107 7)))) 107 7) + (1 : Int32))) 
      · exact b50 (uI (uI h 107 9 (hI h 108 (Int32.toNatClampNeg (hI h 107 7)))) 107 7 ((hI (uI h 107 9 (hI h 108 (Int32.toNatClampNeg (hI h 107 7)))) 107 7) + (1 : Int32))) 
def tb_X10_token : List (Nat × Instr × Nat) := [(0, .aload_n 0, 1), (1, .getfield 172, 3), (4, .aload_n 0, 1), (5, .getfield 169, 3), (8, .if_icmp .ge 44, 3), (11, .aload_n 0, 1), (12, .getfield 7, 3), (15, .aload_n 0, 1), (16, .getfield 172, 3), (19, .iaload, 1), (20, .bipush 10, 2), (22, .if_icmp .eq 17, 3), (25, .aload_n 0, 1), (26, .getfield 7, 3), (29, .aload_n 0, 1), (30, .getfield 172, 3), (33, .iaload, 1), (34, .bipush 32, 2), (36, .if_icmp .ne 16, 3), (39, .aload_n 0, 1), (40, .dup, 1), (41, .getfield 172, 3), (44, .iconst 1, 1), (45, .iadd, 1), (46, .putfield 172, 3), (49, .goto (-49), 3), (52, .aload_n 0, 1), (53, .aload_n 0, 1), (54, .getfield 172, 3), (57, .putfield 166, 3), (60, .aload_n 0, 1), (61, .getfield 172, 3), (64, .aload_n 0, 1), (65, .getfield 169, 3), (68, .if_icmp .ne 11, 3), (71, .aload_n 0, 1), (72, .iconst 0, 1), (73, .putfield 175, 3), (76, .goto 205, 3), (79, .aload_n 0, 1), (80, .aload_n 0, 1), (81, .getfield 172, 3), (84, .invokevirtual 178, 3), (87, .ifCond .eq 105, 3), (90, .aload_n 0, 1), (91, .aload_n 0, 1), (92, .getfield 172, 3), (95, .invokevirtual 178, 3), (98, .ifCond .eq 16, 3), (101, .aload_n 0, 1), (102, .dup, 1), (103, .getfield 172, 3), (106, .iconst 1, 1), (107, .iadd, 1), (108, .putfield 172, 3), (111, .goto (-21), 3), (114, .aload_n 0, 1), (115, .aload_n 0, 1), (116, .aload_n 0, 1), (117, .getfield 166, 3), (120, .aload_n 0, 1), (121, .getfield 172, 3), (124, .invokevirtual 182, 3), (127, .putfield 186, 3), (130, .aload_n 0, 1), (131, .aload_n 0, 1), (132, .getfield 186, 3), (135, .ifCond .lt 7, 3), (138, .iconst 1, 1), (139, .goto 23, 3), (142, .aload_n 0, 1), (143, .getfield 172, 3), (146, .aload_n 0, 1), (147, .getfield 166, 3), (150, .isub, 1), (151, .bipush 6, 2), (153, .if_icmp .le 8, 3), (156, .bipush 6, 2), (158, .goto 4, 3), (161, .iconst 2, 1), (162, .putfield 175, 3), (165, .aload_n 0, 1), (166, .getfield 175, 3), (169, .iconst 2, 1), (170, .if_icmp .ne 111, 3), (173, .aload_n 0, 1), (174, .aload_n 0, 1), (175, .aload_n 0, 1), (176, .getfield 166, 3), (179, .aload_n 0, 1), (180, .getfield 172, 3), (183, .invokevirtual 189, 3), (186, .putfield 186, 3), (189, .goto 92, 3), (192, .aload_n 0, 1), (193, .aload_n 0, 1), (194, .getfield 172, 3), (197, .invokevirtual 192, 3), (200, .ifCond .eq 77, 3), (203, .aload_n 0, 1), (204, .iconst 3, 1), (205, .putfield 175, 3), (208, .aload_n 0, 1), (209, .iconst 0, 1), (210, .putfield 186, 3), (213, .aload_n 0, 1), (214, .aload_n 0, 1), (215, .getfield 172, 3), (218, .invokevirtual 192, 3), (221, .ifCond .eq 60, 3), (224, .aload_n 0, 1), (225, .aload_n 0, 1), (226, .getfield 186, 3), (229, .ldc 195, 2), (231, .if_icmp .le 10, 3), (234, .aload_n 0, 1), (235, .getfield 186, 3), (238, .goto 23, 3), (241, .bipush 10, 2), (243, .aload_n 0, 1), (244, .getfield 186, 3), (247, .imul, 1), (248, .aload_n 0, 1), (249, .getfield 7, 3), (252, .aload_n 0, 1), (253, .getfield 172, 3), (256, .iaload, 1), (257, .iadd, 1), (258, .bipush 48, 2), (260, .isub, 1), (261, .putfield 186, 3), (264, .aload_n 0, 1), (265, .dup, 1), (266, .getfield 172, 3), (269, .iconst 1, 1), (270, .iadd, 1), (271, .putfield 172, 3), (274, .goto (-61), 3), (277, .aload_n 0, 1), (278, .invokevirtual 196, 3), (281, .return_, 1)]
theorem dt_X10_token : dOk cX10_token tb_X10_token = true := by decide +kernel
def fX10_token_261 (rec213 : Hp → Option (Hp)) (h : Hp) (s1 : Int32) : Option (Hp) := rec213 (uI (uI h 107 9 s1) 107 7 ((hI (uI h 107 9 s1) 107 7) + (1 : Int32)))
def fX10_token_213 : Nat → Hp → Option (Hp)
  | 0, _ => none
  | fu + 1, h => bnd (fX10_isDigit h (hI h 107 7)) (fun v_13 h_14 => if v_13 = 0 then (some h_14) else (if (hI h_14 107 9) ≤ (99999 : Int32) then (if inb (hI h_14 107 7) 700 then (fX10_token_261 (fX10_token_213 fu) h_14 ((((10 : Int32) * (hI h_14 107 9)) + (hI h_14 108 (Int32.toNatClampNeg (hI h_14 107 7)))) - (48 : Int32))) else none) else (fX10_token_261 (fX10_token_213 fu) h_14 (hI h_14 107 9))))
def fX10_token_162 (h : Hp) (s1 : Int32) : Option (Hp) := if (hI (uI h 107 8 s1) 107 8) = (2 : Int32) then (bnd (fX10_packed (uI h 107 8 s1) (hI (uI h 107 8 s1) 107 10) (hI (uI h 107 8 s1) 107 7)) (fun v_25 h_26 => some (uI h_26 107 9 v_25))) else (some (uI h 107 8 s1))
def fX10_token_90 : Nat → Hp → Option (Hp)
  | 0, _ => none
  | fu + 1, h => bnd (fX10_isSmall h (hI h 107 7)) (fun v_17 h_18 => if v_17 = 0 then (bnd (fX10_wordAt h_18 (hI h_18 107 10) (hI h_18 107 7)) (fun v_20 h_21 => if (hI (uI h_21 107 9 v_20) 107 9) < 0 then (if ((hI (uI h_21 107 9 v_20) 107 7) - (hI (uI h_21 107 9 v_20) 107 10)) ≤ (6 : Int32) then (fX10_token_162 (uI h_21 107 9 v_20) (2 : Int32)) else (fX10_token_162 (uI h_21 107 9 v_20) (6 : Int32))) else (fX10_token_162 (uI h_21 107 9 v_20) (1 : Int32)))) else ((fX10_token_90 fu) (uI h_18 107 7 ((hI h_18 107 7) + (1 : Int32)))))
def fX10_token_52 (h : Hp) : Option (Hp) := if (hI (uI h 107 10 (hI h 107 7)) 107 7) = (hI (uI h 107 10 (hI h 107 7)) 107 6) then (some (uI (uI h 107 10 (hI h 107 7)) 107 8 (0 : Int32))) else (bnd (fX10_isSmall (uI h 107 10 (hI h 107 7)) (hI (uI h 107 10 (hI h 107 7)) 107 7)) (fun v_5 h_6 => if v_5 = 0 then (bnd (fX10_isDigit h_6 (hI h_6 107 7)) (fun v_8 h_9 => if v_8 = 0 then ((fX10_signToken h_9).bind (fun h_12 => some h_12)) else (fX10_token_213 FU (uI (uI h_9 107 8 (3 : Int32)) 107 9 (0 : Int32))))) else (fX10_token_90 FU h_6)))
def fX10_token_39 (rec0 : Hp → Option (Hp)) (h : Hp) : Option (Hp) := rec0 (uI h 107 7 ((hI h 107 7) + (1 : Int32)))
def fX10_token_0 : Nat → Hp → Option (Hp)
  | 0, _ => none
  | fu + 1, h => if (hI h 107 6) ≤ (hI h 107 7) then (fX10_token_52 h) else (if inb (hI h 107 7) 700 then (if (hI h 108 (Int32.toNatClampNeg (hI h 107 7))) = (10 : Int32) then (fX10_token_39 (fX10_token_0 fu) h) else (if inb (hI h 107 7) 700 then (if (hI h 108 (Int32.toNatClampNeg (hI h 107 7))) = (32 : Int32) then (fX10_token_39 (fX10_token_0 fu) h) else (fX10_token_52 h)) else none)) else none)
def fX10_token (h : Hp) : Option (Hp) := fX10_token_0 FU h
set_option maxRecDepth 100000 in
set_option maxHeartbeats 4000000 in
theorem c_X10_token {l : Launch} {sb : State} {D : va_G} {ids : Nat → ClassId} {n : Nat} (hN : 152 ≤ n) (h : Hp) (r : Hp) (hr : fX10_token h = some r) : jM l yX10_token cX10_token 1 none 1 sb D ids shp St n [.ref 107] h (jQv sb D ids shp St n r) := by
  refine jM_of hr rfl (Nat.le_of_ble_eq_true rfl) ?_
  intro p e s m args below meth c hC hret
  have b261 : ∀ (rec213 : Hp → Option (Hp)) (hrec213 : ∀ (h : Hp) , jJ p l e (rmD 1) s m args below meth c 1 sb D ids shp St (fun r => MQ below (jQv sb D ids shp St n r) args s 0 0 (jA sb)) n 0 0 h 213 [(0, .ref 107)] [] (rec213 h )) (h : Hp) (s1 : Int32) , jJ p l e (rmD 1) s m args below meth c 1 sb D ids shp St (fun r => MQ below (jQv sb D ids shp St n r) args s 0 0 (jA sb)) n 0 0 h 261 [(0, .ref 107)] [.int s1, .ref 107] (fX10_token_261 rec213 h s1) := by
    intro rec213 hrec213 h s1 
    unfold fX10_token_261
    refine j_putI hC St_SP flX10_186 (show shp 107 = (10, 88) from rfl) (Nat.lt_of_lt_of_le (Nat.le_of_ble_eq_true rfl : 107 < 152) hN) (by decide) (by decide) rfl rfl (dOk_at dt_X10_token 130 rfl) ?_
    refine j_aload_n hC 0 rfl rfl (dOk_at dt_X10_token 131 rfl) ?_
    refine j_dupr hC (dOk_at dt_X10_token 132 rfl) ?_
    refine j_getI hC flX10_172 (show shp 107 = (10, 88) from rfl) (Nat.lt_of_lt_of_le (Nat.le_of_ble_eq_true rfl : 107 < 152) hN) (by decide) (by decide) (fun _ _ _ => rfl) (dOk_at dt_X10_token 133 rfl) ?_
    refine j_iconst hC (v := (1 : Int32)) rfl (dOk_at dt_X10_token 134 rfl) ?_
    refine j_iadd hC (dOk_at dt_X10_token 135 rfl) ?_
    refine j_putI hC St_SP flX10_172 (show shp 107 = (10, 88) from rfl) (Nat.lt_of_lt_of_le (Nat.le_of_ble_eq_true rfl : 107 < 152) hN) (by decide) (by decide) rfl rfl (dOk_at dt_X10_token 136 rfl) ?_
    refine j_goto hC (tgt := 213) (by decide) (dOk_at dt_X10_token 137 rfl) ?_
    exact hrec213 (uI (uI h 107 9 s1) 107 7 ((hI (uI h 107 9 s1) 107 7) + (1 : Int32))) 
  have b213 : ∀ (fu : Nat) (h : Hp) , jJ p l e (rmD 1) s m args below meth c 1 sb D ids shp St (fun r => MQ below (jQv sb D ids shp St n r) args s 0 0 (jA sb)) n 0 0 h 213 [(0, .ref 107)] [] (fX10_token_213 fu h ) := by
    intro fu 
    induction fu with
    | zero => intro h ; exact j_none
    | succ fu ih =>
    intro h 
    rw [fX10_token_213]
    refine j_aload_n hC 0 rfl rfl (dOk_at dt_X10_token 105 rfl) ?_
    refine j_aload_n hC 0 rfl rfl (dOk_at dt_X10_token 106 rfl) ?_
    refine j_getI hC flX10_172 (show shp 107 = (10, 88) from rfl) (Nat.lt_of_lt_of_le (Nat.le_of_ble_eq_true rfl : 107 < 152) hN) (by decide) (by decide) (fun _ _ _ => rfl) (dOk_at dt_X10_token 107 rfl) ?_
    refine j_callVi hC clX10_192 (fun rz hrz => c_X10_isDigit hN _ _ rz hrz) (show shp 107 = (10, 88) from rfl) (Nat.lt_of_lt_of_le (Nat.le_of_ble_eq_true rfl : 107 < 152) hN) (by decide) rfl rfl ⟨Nat.le_of_ble_eq_true rfl, Nat.le_of_ble_eq_true rfl⟩ ⟨Nat.le_refl 0, Nat.le_refl 0⟩ (As := [.int (hI h 107 7)]) (st := []) rfl (Nat.le_of_ble_eq_true rfl) (dOk_at dt_X10_token 108 rfl) (fun v_13 h_14 _ => ?_)
    refine j_if_eq hC (tgt := 281) (by decide) (dOk_at dt_X10_token 109 rfl) (fun q_15 => ?_) (fun q_15 => ?_)
    · exact j_vret hC hret (dOk_at dt_X10_token 140 rfl)
    · refine j_aload_n hC 0 rfl rfl (dOk_at dt_X10_token 110 rfl) ?_
      refine j_aload_n hC 0 rfl rfl (dOk_at dt_X10_token 111 rfl) ?_
      refine j_getI hC flX10_186 (show shp 107 = (10, 88) from rfl) (Nat.lt_of_lt_of_le (Nat.le_of_ble_eq_true rfl : 107 < 152) hN) (by decide) (by decide) (fun _ _ _ => rfl) (dOk_at dt_X10_token 112 rfl) ?_
      refine j_ldc hC kcX10_195 (dOk_at dt_X10_token 113 rfl) ?_
      refine j_icmp_le hC (tgt := 241) (by decide) (dOk_at dt_X10_token 114 rfl) (fun q_16 => ?_) (fun q_16 => ?_)
      · refine j_bipush hC (v := (10 : Int32)) rfl (dOk_at dt_X10_token 118 rfl) ?_
        refine j_aload_n hC 0 rfl rfl (dOk_at dt_X10_token 119 rfl) ?_
        refine j_getI hC flX10_186 (show shp 107 = (10, 88) from rfl) (Nat.lt_of_lt_of_le (Nat.le_of_ble_eq_true rfl : 107 < 152) hN) (by decide) (by decide) (fun _ _ _ => rfl) (dOk_at dt_X10_token 120 rfl) ?_
        refine j_imul hC (dOk_at dt_X10_token 121 rfl) ?_
        refine j_aload_n hC 0 rfl rfl (dOk_at dt_X10_token 122 rfl) ?_
        refine j_getR hC flX10_7 (show shp 107 = (10, 88) from rfl) (Nat.lt_of_lt_of_le (Nat.le_of_ble_eq_true rfl : 107 < 152) hN) (by decide) (by decide) (fun _ _ _ => rfl) (fun hs => hs 107 0 108 rfl) (dOk_at dt_X10_token 123 rfl) ?_
        refine j_aload_n hC 0 rfl rfl (dOk_at dt_X10_token 124 rfl) ?_
        refine j_getI hC flX10_172 (show shp 107 = (10, 88) from rfl) (Nat.lt_of_lt_of_le (Nat.le_of_ble_eq_true rfl : 107 < 152) hN) (by decide) (by decide) (fun _ _ _ => rfl) (dOk_at dt_X10_token 125 rfl) ?_
        refine j_iald hC (show shp 108 = (21, 700) from rfl) (Nat.lt_of_lt_of_le (Nat.le_of_ble_eq_true rfl : 108 < 152) hN) (dOk_at dt_X10_token 126 rfl) ?_
        refine j_iadd hC (dOk_at dt_X10_token 127 rfl) ?_
        refine j_bipush hC (v := (48 : Int32)) rfl (dOk_at dt_X10_token 128 rfl) ?_
        refine j_isub hC (dOk_at dt_X10_token 129 rfl) ?_
        exact b261 (fX10_token_213 fu) ih h_14 ((((10 : Int32) * (hI h_14 107 9)) + (hI h_14 108 (Int32.toNatClampNeg (hI h_14 107 7)))) - (48 : Int32)) 
      · refine j_aload_n hC 0 rfl rfl (dOk_at dt_X10_token 115 rfl) ?_
        refine j_getI hC flX10_186 (show shp 107 = (10, 88) from rfl) (Nat.lt_of_lt_of_le (Nat.le_of_ble_eq_true rfl : 107 < 152) hN) (by decide) (by decide) (fun _ _ _ => rfl) (dOk_at dt_X10_token 116 rfl) ?_
        refine j_goto hC (tgt := 261) (by decide) (dOk_at dt_X10_token 117 rfl) ?_
        exact b261 (fX10_token_213 fu) ih h_14 (hI h_14 107 9) 
  have b162 : ∀ (h : Hp) (s1 : Int32) , jJ p l e (rmD 1) s m args below meth c 1 sb D ids shp St (fun r => MQ below (jQv sb D ids shp St n r) args s 0 0 (jA sb)) n 0 0 h 162 [(0, .ref 107)] [.int s1, .ref 107] (fX10_token_162 h s1) := by
    intro h s1 
    unfold fX10_token_162
    refine j_putI hC St_SP flX10_175 (show shp 107 = (10, 88) from rfl) (Nat.lt_of_lt_of_le (Nat.le_of_ble_eq_true rfl : 107 < 152) hN) (by decide) (by decide) rfl rfl (dOk_at dt_X10_token 80 rfl) ?_
    refine j_aload_n hC 0 rfl rfl (dOk_at dt_X10_token 81 rfl) ?_
    refine j_getI hC flX10_175 (show shp 107 = (10, 88) from rfl) (Nat.lt_of_lt_of_le (Nat.le_of_ble_eq_true rfl : 107 < 152) hN) (by decide) (by decide) (fun _ _ _ => rfl) (dOk_at dt_X10_token 82 rfl) ?_
    refine j_iconst hC (v := (2 : Int32)) rfl (dOk_at dt_X10_token 83 rfl) ?_
    refine j_icmp_ne hC (tgt := 281) (by decide) (dOk_at dt_X10_token 84 rfl) (fun q_24 => ?_) (fun q_24 => ?_)
    · exact j_vret hC hret (dOk_at dt_X10_token 140 rfl)
    · refine j_aload_n hC 0 rfl rfl (dOk_at dt_X10_token 85 rfl) ?_
      refine j_aload_n hC 0 rfl rfl (dOk_at dt_X10_token 86 rfl) ?_
      refine j_aload_n hC 0 rfl rfl (dOk_at dt_X10_token 87 rfl) ?_
      refine j_getI hC flX10_166 (show shp 107 = (10, 88) from rfl) (Nat.lt_of_lt_of_le (Nat.le_of_ble_eq_true rfl : 107 < 152) hN) (by decide) (by decide) (fun _ _ _ => rfl) (dOk_at dt_X10_token 88 rfl) ?_
      refine j_aload_n hC 0 rfl rfl (dOk_at dt_X10_token 89 rfl) ?_
      refine j_getI hC flX10_172 (show shp 107 = (10, 88) from rfl) (Nat.lt_of_lt_of_le (Nat.le_of_ble_eq_true rfl : 107 < 152) hN) (by decide) (by decide) (fun _ _ _ => rfl) (dOk_at dt_X10_token 90 rfl) ?_
      refine j_callVi hC clX10_189 (fun rz hrz => c_X10_packed hN _ _ _ rz hrz) (show shp 107 = (10, 88) from rfl) (Nat.lt_of_lt_of_le (Nat.le_of_ble_eq_true rfl : 107 < 152) hN) (by decide) rfl rfl ⟨Nat.le_of_ble_eq_true rfl, Nat.le_of_ble_eq_true rfl⟩ ⟨Nat.le_refl 0, Nat.le_refl 0⟩ (As := [.int (hI (uI h 107 8 s1) 107 10), .int (hI (uI h 107 8 s1) 107 7)]) (st := [.ref 107]) rfl (Nat.le_of_ble_eq_true rfl) (dOk_at dt_X10_token 91 rfl) (fun v_25 h_26 _ => ?_)
      refine j_putI hC St_SP flX10_186 (show shp 107 = (10, 88) from rfl) (Nat.lt_of_lt_of_le (Nat.le_of_ble_eq_true rfl : 107 < 152) hN) (by decide) (by decide) rfl rfl (dOk_at dt_X10_token 92 rfl) ?_
      refine j_goto hC (tgt := 281) (by decide) (dOk_at dt_X10_token 93 rfl) ?_
      exact j_vret hC hret (dOk_at dt_X10_token 140 rfl)
  have b90 : ∀ (fu : Nat) (h : Hp) , jJ p l e (rmD 1) s m args below meth c 1 sb D ids shp St (fun r => MQ below (jQv sb D ids shp St n r) args s 0 0 (jA sb)) n 0 0 h 90 [(0, .ref 107)] [] (fX10_token_90 fu h ) := by
    intro fu 
    induction fu with
    | zero => intro h ; exact j_none
    | succ fu ih =>
    intro h 
    rw [fX10_token_90]
    refine j_aload_n hC 0 rfl rfl (dOk_at dt_X10_token 44 rfl) ?_
    refine j_aload_n hC 0 rfl rfl (dOk_at dt_X10_token 45 rfl) ?_
    refine j_getI hC flX10_172 (show shp 107 = (10, 88) from rfl) (Nat.lt_of_lt_of_le (Nat.le_of_ble_eq_true rfl : 107 < 152) hN) (by decide) (by decide) (fun _ _ _ => rfl) (dOk_at dt_X10_token 46 rfl) ?_
    refine j_callVi hC clX10_178 (fun rz hrz => c_X10_isSmall hN _ _ rz hrz) (show shp 107 = (10, 88) from rfl) (Nat.lt_of_lt_of_le (Nat.le_of_ble_eq_true rfl : 107 < 152) hN) (by decide) rfl rfl ⟨Nat.le_of_ble_eq_true rfl, Nat.le_of_ble_eq_true rfl⟩ ⟨Nat.le_refl 0, Nat.le_refl 0⟩ (As := [.int (hI h 107 7)]) (st := []) rfl (Nat.le_of_ble_eq_true rfl) (dOk_at dt_X10_token 47 rfl) (fun v_17 h_18 _ => ?_)
    refine j_if_eq hC (tgt := 114) (by decide) (dOk_at dt_X10_token 48 rfl) (fun q_19 => ?_) (fun q_19 => ?_)
    · refine j_aload_n hC 0 rfl rfl (dOk_at dt_X10_token 56 rfl) ?_
      refine j_aload_n hC 0 rfl rfl (dOk_at dt_X10_token 57 rfl) ?_
      refine j_aload_n hC 0 rfl rfl (dOk_at dt_X10_token 58 rfl) ?_
      refine j_getI hC flX10_166 (show shp 107 = (10, 88) from rfl) (Nat.lt_of_lt_of_le (Nat.le_of_ble_eq_true rfl : 107 < 152) hN) (by decide) (by decide) (fun _ _ _ => rfl) (dOk_at dt_X10_token 59 rfl) ?_
      refine j_aload_n hC 0 rfl rfl (dOk_at dt_X10_token 60 rfl) ?_
      refine j_getI hC flX10_172 (show shp 107 = (10, 88) from rfl) (Nat.lt_of_lt_of_le (Nat.le_of_ble_eq_true rfl : 107 < 152) hN) (by decide) (by decide) (fun _ _ _ => rfl) (dOk_at dt_X10_token 61 rfl) ?_
      refine j_callVi hC clX10_182 (fun rz hrz => c_X10_wordAt hN _ _ _ rz hrz) (show shp 107 = (10, 88) from rfl) (Nat.lt_of_lt_of_le (Nat.le_of_ble_eq_true rfl : 107 < 152) hN) (by decide) rfl rfl ⟨Nat.le_of_ble_eq_true rfl, Nat.le_of_ble_eq_true rfl⟩ ⟨Nat.le_refl 0, Nat.le_refl 0⟩ (As := [.int (hI h_18 107 10), .int (hI h_18 107 7)]) (st := [.ref 107]) rfl (Nat.le_of_ble_eq_true rfl) (dOk_at dt_X10_token 62 rfl) (fun v_20 h_21 _ => ?_)
      refine j_putI hC St_SP flX10_186 (show shp 107 = (10, 88) from rfl) (Nat.lt_of_lt_of_le (Nat.le_of_ble_eq_true rfl : 107 < 152) hN) (by decide) (by decide) rfl rfl (dOk_at dt_X10_token 63 rfl) ?_
      refine j_aload_n hC 0 rfl rfl (dOk_at dt_X10_token 64 rfl) ?_
      refine j_aload_n hC 0 rfl rfl (dOk_at dt_X10_token 65 rfl) ?_
      refine j_getI hC flX10_186 (show shp 107 = (10, 88) from rfl) (Nat.lt_of_lt_of_le (Nat.le_of_ble_eq_true rfl : 107 < 152) hN) (by decide) (by decide) (fun _ _ _ => rfl) (dOk_at dt_X10_token 66 rfl) ?_
      refine j_if_lt hC (tgt := 142) (by decide) (dOk_at dt_X10_token 67 rfl) (fun q_22 => ?_) (fun q_22 => ?_)
      · refine j_aload_n hC 0 rfl rfl (dOk_at dt_X10_token 70 rfl) ?_
        refine j_getI hC flX10_172 (show shp 107 = (10, 88) from rfl) (Nat.lt_of_lt_of_le (Nat.le_of_ble_eq_true rfl : 107 < 152) hN) (by decide) (by decide) (fun _ _ _ => rfl) (dOk_at dt_X10_token 71 rfl) ?_
        refine j_aload_n hC 0 rfl rfl (dOk_at dt_X10_token 72 rfl) ?_
        refine j_getI hC flX10_166 (show shp 107 = (10, 88) from rfl) (Nat.lt_of_lt_of_le (Nat.le_of_ble_eq_true rfl : 107 < 152) hN) (by decide) (by decide) (fun _ _ _ => rfl) (dOk_at dt_X10_token 73 rfl) ?_
        refine j_isub hC (dOk_at dt_X10_token 74 rfl) ?_
        refine j_bipush hC (v := (6 : Int32)) rfl (dOk_at dt_X10_token 75 rfl) ?_
        refine j_icmp_le hC (tgt := 161) (by decide) (dOk_at dt_X10_token 76 rfl) (fun q_23 => ?_) (fun q_23 => ?_)
        · refine j_iconst hC (v := (2 : Int32)) rfl (dOk_at dt_X10_token 79 rfl) ?_
          exact b162 (uI h_21 107 9 v_20) (2 : Int32) 
        · refine j_bipush hC (v := (6 : Int32)) rfl (dOk_at dt_X10_token 77 rfl) ?_
          refine j_goto hC (tgt := 162) (by decide) (dOk_at dt_X10_token 78 rfl) ?_
          exact b162 (uI h_21 107 9 v_20) (6 : Int32) 
      · refine j_iconst hC (v := (1 : Int32)) rfl (dOk_at dt_X10_token 68 rfl) ?_
        refine j_goto hC (tgt := 162) (by decide) (dOk_at dt_X10_token 69 rfl) ?_
        exact b162 (uI h_21 107 9 v_20) (1 : Int32) 
    · refine j_aload_n hC 0 rfl rfl (dOk_at dt_X10_token 49 rfl) ?_
      refine j_dupr hC (dOk_at dt_X10_token 50 rfl) ?_
      refine j_getI hC flX10_172 (show shp 107 = (10, 88) from rfl) (Nat.lt_of_lt_of_le (Nat.le_of_ble_eq_true rfl : 107 < 152) hN) (by decide) (by decide) (fun _ _ _ => rfl) (dOk_at dt_X10_token 51 rfl) ?_
      refine j_iconst hC (v := (1 : Int32)) rfl (dOk_at dt_X10_token 52 rfl) ?_
      refine j_iadd hC (dOk_at dt_X10_token 53 rfl) ?_
      refine j_putI hC St_SP flX10_172 (show shp 107 = (10, 88) from rfl) (Nat.lt_of_lt_of_le (Nat.le_of_ble_eq_true rfl : 107 < 152) hN) (by decide) (by decide) rfl rfl (dOk_at dt_X10_token 54 rfl) ?_
      refine j_goto hC (tgt := 90) (by decide) (dOk_at dt_X10_token 55 rfl) ?_
      exact ih (uI h_18 107 7 ((hI h_18 107 7) + (1 : Int32))) 
  have b52 : ∀ (h : Hp) , jJ p l e (rmD 1) s m args below meth c 1 sb D ids shp St (fun r => MQ below (jQv sb D ids shp St n r) args s 0 0 (jA sb)) n 0 0 h 52 [(0, .ref 107)] [] (fX10_token_52 h ) := by
    intro h 
    unfold fX10_token_52
    refine j_aload_n hC 0 rfl rfl (dOk_at dt_X10_token 26 rfl) ?_
    refine j_aload_n hC 0 rfl rfl (dOk_at dt_X10_token 27 rfl) ?_
    refine j_getI hC flX10_172 (show shp 107 = (10, 88) from rfl) (Nat.lt_of_lt_of_le (Nat.le_of_ble_eq_true rfl : 107 < 152) hN) (by decide) (by decide) (fun _ _ _ => rfl) (dOk_at dt_X10_token 28 rfl) ?_
    refine j_putI hC St_SP flX10_166 (show shp 107 = (10, 88) from rfl) (Nat.lt_of_lt_of_le (Nat.le_of_ble_eq_true rfl : 107 < 152) hN) (by decide) (by decide) rfl rfl (dOk_at dt_X10_token 29 rfl) ?_
    refine j_aload_n hC 0 rfl rfl (dOk_at dt_X10_token 30 rfl) ?_
    refine j_getI hC flX10_172 (show shp 107 = (10, 88) from rfl) (Nat.lt_of_lt_of_le (Nat.le_of_ble_eq_true rfl : 107 < 152) hN) (by decide) (by decide) (fun _ _ _ => rfl) (dOk_at dt_X10_token 31 rfl) ?_
    refine j_aload_n hC 0 rfl rfl (dOk_at dt_X10_token 32 rfl) ?_
    refine j_getI hC flX10_169 (show shp 107 = (10, 88) from rfl) (Nat.lt_of_lt_of_le (Nat.le_of_ble_eq_true rfl : 107 < 152) hN) (by decide) (by decide) (fun _ _ _ => rfl) (dOk_at dt_X10_token 33 rfl) ?_
    refine j_icmp_ne hC (tgt := 79) (by decide) (dOk_at dt_X10_token 34 rfl) (fun q_4 => ?_) (fun q_4 => ?_)
    · refine j_aload_n hC 0 rfl rfl (dOk_at dt_X10_token 39 rfl) ?_
      refine j_aload_n hC 0 rfl rfl (dOk_at dt_X10_token 40 rfl) ?_
      refine j_getI hC flX10_172 (show shp 107 = (10, 88) from rfl) (Nat.lt_of_lt_of_le (Nat.le_of_ble_eq_true rfl : 107 < 152) hN) (by decide) (by decide) (fun _ _ _ => rfl) (dOk_at dt_X10_token 41 rfl) ?_
      refine j_callVi hC clX10_178 (fun rz hrz => c_X10_isSmall hN _ _ rz hrz) (show shp 107 = (10, 88) from rfl) (Nat.lt_of_lt_of_le (Nat.le_of_ble_eq_true rfl : 107 < 152) hN) (by decide) rfl rfl ⟨Nat.le_of_ble_eq_true rfl, Nat.le_of_ble_eq_true rfl⟩ ⟨Nat.le_refl 0, Nat.le_refl 0⟩ (As := [.int (hI (uI h 107 10 (hI h 107 7)) 107 7)]) (st := []) rfl (Nat.le_of_ble_eq_true rfl) (dOk_at dt_X10_token 42 rfl) (fun v_5 h_6 _ => ?_)
      refine j_if_eq hC (tgt := 192) (by decide) (dOk_at dt_X10_token 43 rfl) (fun q_7 => ?_) (fun q_7 => ?_)
      · refine j_aload_n hC 0 rfl rfl (dOk_at dt_X10_token 94 rfl) ?_
        refine j_aload_n hC 0 rfl rfl (dOk_at dt_X10_token 95 rfl) ?_
        refine j_getI hC flX10_172 (show shp 107 = (10, 88) from rfl) (Nat.lt_of_lt_of_le (Nat.le_of_ble_eq_true rfl : 107 < 152) hN) (by decide) (by decide) (fun _ _ _ => rfl) (dOk_at dt_X10_token 96 rfl) ?_
        refine j_callVi hC clX10_192 (fun rz hrz => c_X10_isDigit hN _ _ rz hrz) (show shp 107 = (10, 88) from rfl) (Nat.lt_of_lt_of_le (Nat.le_of_ble_eq_true rfl : 107 < 152) hN) (by decide) rfl rfl ⟨Nat.le_of_ble_eq_true rfl, Nat.le_of_ble_eq_true rfl⟩ ⟨Nat.le_refl 0, Nat.le_refl 0⟩ (As := [.int (hI h_6 107 7)]) (st := []) rfl (Nat.le_of_ble_eq_true rfl) (dOk_at dt_X10_token 97 rfl) (fun v_8 h_9 _ => ?_)
        refine j_if_eq hC (tgt := 277) (by decide) (dOk_at dt_X10_token 98 rfl) (fun q_10 => ?_) (fun q_10 => ?_)
        · refine j_aload_n hC 0 rfl rfl (dOk_at dt_X10_token 138 rfl) ?_
          refine j_callVv hC clX10_196 (fun rz hrz => c_X10_signToken hN _ rz hrz) (show shp 107 = (10, 88) from rfl) (Nat.lt_of_lt_of_le (Nat.le_of_ble_eq_true rfl : 107 < 152) hN) (by decide) rfl rfl ⟨Nat.le_of_ble_eq_true rfl, Nat.le_of_ble_eq_true rfl⟩ ⟨Nat.le_refl 0, Nat.le_refl 0⟩ (As := []) (st := []) rfl (Nat.le_of_ble_eq_true rfl) (dOk_at dt_X10_token 139 rfl) (fun h_12 _ => ?_)
          exact j_vret hC hret (dOk_at dt_X10_token 140 rfl)
        · refine j_aload_n hC 0 rfl rfl (dOk_at dt_X10_token 99 rfl) ?_
          refine j_iconst hC (v := (3 : Int32)) rfl (dOk_at dt_X10_token 100 rfl) ?_
          refine j_putI hC St_SP flX10_175 (show shp 107 = (10, 88) from rfl) (Nat.lt_of_lt_of_le (Nat.le_of_ble_eq_true rfl : 107 < 152) hN) (by decide) (by decide) rfl rfl (dOk_at dt_X10_token 101 rfl) ?_
          refine j_aload_n hC 0 rfl rfl (dOk_at dt_X10_token 102 rfl) ?_
          refine j_iconst hC (v := (0 : Int32)) rfl (dOk_at dt_X10_token 103 rfl) ?_
          refine j_putI hC St_SP flX10_186 (show shp 107 = (10, 88) from rfl) (Nat.lt_of_lt_of_le (Nat.le_of_ble_eq_true rfl : 107 < 152) hN) (by decide) (by decide) rfl rfl (dOk_at dt_X10_token 104 rfl) ?_
          exact b213 FU (uI (uI h_9 107 8 (3 : Int32)) 107 9 (0 : Int32)) 
      · exact b90 FU h_6 
    · refine j_aload_n hC 0 rfl rfl (dOk_at dt_X10_token 35 rfl) ?_
      refine j_iconst hC (v := (0 : Int32)) rfl (dOk_at dt_X10_token 36 rfl) ?_
      refine j_putI hC St_SP flX10_175 (show shp 107 = (10, 88) from rfl) (Nat.lt_of_lt_of_le (Nat.le_of_ble_eq_true rfl : 107 < 152) hN) (by decide) (by decide) rfl rfl (dOk_at dt_X10_token 37 rfl) ?_
      refine j_goto hC (tgt := 281) (by decide) (dOk_at dt_X10_token 38 rfl) ?_
      exact j_vret hC hret (dOk_at dt_X10_token 140 rfl)
  have b39 : ∀ (rec0 : Hp → Option (Hp)) (hrec0 : ∀ (h : Hp) , jJ p l e (rmD 1) s m args below meth c 1 sb D ids shp St (fun r => MQ below (jQv sb D ids shp St n r) args s 0 0 (jA sb)) n 0 0 h 0 [(0, .ref 107)] [] (rec0 h )) (h : Hp) , jJ p l e (rmD 1) s m args below meth c 1 sb D ids shp St (fun r => MQ below (jQv sb D ids shp St n r) args s 0 0 (jA sb)) n 0 0 h 39 [(0, .ref 107)] [] (fX10_token_39 rec0 h ) := by
    intro rec0 hrec0 h 
    unfold fX10_token_39
    refine j_aload_n hC 0 rfl rfl (dOk_at dt_X10_token 19 rfl) ?_
    refine j_dupr hC (dOk_at dt_X10_token 20 rfl) ?_
    refine j_getI hC flX10_172 (show shp 107 = (10, 88) from rfl) (Nat.lt_of_lt_of_le (Nat.le_of_ble_eq_true rfl : 107 < 152) hN) (by decide) (by decide) (fun _ _ _ => rfl) (dOk_at dt_X10_token 21 rfl) ?_
    refine j_iconst hC (v := (1 : Int32)) rfl (dOk_at dt_X10_token 22 rfl) ?_
    refine j_iadd hC (dOk_at dt_X10_token 23 rfl) ?_
    refine j_putI hC St_SP flX10_172 (show shp 107 = (10, 88) from rfl) (Nat.lt_of_lt_of_le (Nat.le_of_ble_eq_true rfl : 107 < 152) hN) (by decide) (by decide) rfl rfl (dOk_at dt_X10_token 24 rfl) ?_
    refine j_goto hC (tgt := 0) (by decide) (dOk_at dt_X10_token 25 rfl) ?_
    exact hrec0 (uI h 107 7 ((hI h 107 7) + (1 : Int32))) 
  have b0 : ∀ (fu : Nat) (h : Hp) , jJ p l e (rmD 1) s m args below meth c 1 sb D ids shp St (fun r => MQ below (jQv sb D ids shp St n r) args s 0 0 (jA sb)) n 0 0 h 0 [(0, .ref 107)] [] (fX10_token_0 fu h ) := by
    intro fu 
    induction fu with
    | zero => intro h ; exact j_none
    | succ fu ih =>
    intro h 
    rw [fX10_token_0]
    refine j_aload_n hC 0 rfl rfl (dOk_at dt_X10_token 0 rfl) ?_
    refine j_getI hC flX10_172 (show shp 107 = (10, 88) from rfl) (Nat.lt_of_lt_of_le (Nat.le_of_ble_eq_true rfl : 107 < 152) hN) (by decide) (by decide) (fun _ _ _ => rfl) (dOk_at dt_X10_token 1 rfl) ?_
    refine j_aload_n hC 0 rfl rfl (dOk_at dt_X10_token 2 rfl) ?_
    refine j_getI hC flX10_169 (show shp 107 = (10, 88) from rfl) (Nat.lt_of_lt_of_le (Nat.le_of_ble_eq_true rfl : 107 < 152) hN) (by decide) (by decide) (fun _ _ _ => rfl) (dOk_at dt_X10_token 3 rfl) ?_
    refine j_icmp_ge hC (tgt := 52) (by decide) (dOk_at dt_X10_token 4 rfl) (fun q_1 => ?_) (fun q_1 => ?_)
    · exact b52 h 
    · refine j_aload_n hC 0 rfl rfl (dOk_at dt_X10_token 5 rfl) ?_
      refine j_getR hC flX10_7 (show shp 107 = (10, 88) from rfl) (Nat.lt_of_lt_of_le (Nat.le_of_ble_eq_true rfl : 107 < 152) hN) (by decide) (by decide) (fun _ _ _ => rfl) (fun hs => hs 107 0 108 rfl) (dOk_at dt_X10_token 6 rfl) ?_
      refine j_aload_n hC 0 rfl rfl (dOk_at dt_X10_token 7 rfl) ?_
      refine j_getI hC flX10_172 (show shp 107 = (10, 88) from rfl) (Nat.lt_of_lt_of_le (Nat.le_of_ble_eq_true rfl : 107 < 152) hN) (by decide) (by decide) (fun _ _ _ => rfl) (dOk_at dt_X10_token 8 rfl) ?_
      refine j_iald hC (show shp 108 = (21, 700) from rfl) (Nat.lt_of_lt_of_le (Nat.le_of_ble_eq_true rfl : 108 < 152) hN) (dOk_at dt_X10_token 9 rfl) ?_
      refine j_bipush hC (v := (10 : Int32)) rfl (dOk_at dt_X10_token 10 rfl) ?_
      refine j_icmp_eq hC (tgt := 39) (by decide) (dOk_at dt_X10_token 11 rfl) (fun q_2 => ?_) (fun q_2 => ?_)
      · exact b39 (fX10_token_0 fu) ih h 
      · refine j_aload_n hC 0 rfl rfl (dOk_at dt_X10_token 12 rfl) ?_
        refine j_getR hC flX10_7 (show shp 107 = (10, 88) from rfl) (Nat.lt_of_lt_of_le (Nat.le_of_ble_eq_true rfl : 107 < 152) hN) (by decide) (by decide) (fun _ _ _ => rfl) (fun hs => hs 107 0 108 rfl) (dOk_at dt_X10_token 13 rfl) ?_
        refine j_aload_n hC 0 rfl rfl (dOk_at dt_X10_token 14 rfl) ?_
        refine j_getI hC flX10_172 (show shp 107 = (10, 88) from rfl) (Nat.lt_of_lt_of_le (Nat.le_of_ble_eq_true rfl : 107 < 152) hN) (by decide) (by decide) (fun _ _ _ => rfl) (dOk_at dt_X10_token 15 rfl) ?_
        refine j_iald hC (show shp 108 = (21, 700) from rfl) (Nat.lt_of_lt_of_le (Nat.le_of_ble_eq_true rfl : 108 < 152) hN) (dOk_at dt_X10_token 16 rfl) ?_
        refine j_bipush hC (v := (32 : Int32)) rfl (dOk_at dt_X10_token 17 rfl) ?_
        refine j_icmp_ne hC (tgt := 52) (by decide) (dOk_at dt_X10_token 18 rfl) (fun q_3 => ?_) (fun q_3 => ?_)
        · exact b52 h 
        · exact b39 (fX10_token_0 fu) ih h 
  unfold fX10_token
  exact b0 FU h 
def tb_X10_isKey : List (Nat × Instr × Nat) := [(0, .aload_n 0, 1), (1, .getfield 175, 3), (4, .iconst 1, 1), (5, .if_icmp .ne 15, 3), (8, .aload_n 0, 1), (9, .getfield 186, 3), (12, .iload_n 1, 1), (13, .if_icmp .ne 7, 3), (16, .iconst 1, 1), (17, .goto 4, 3), (20, .iconst 0, 1), (21, .ireturn, 1)]
theorem dt_X10_isKey : dOk cX10_isKey tb_X10_isKey = true := by decide +kernel
def fX10_isKey (h : Hp) (x1 : Int32) : Option (Int32 × Hp) := if (hI h 107 8) = (1 : Int32) then (if (hI h 107 9) = x1 then (some ((1 : Int32), h)) else (some ((0 : Int32), h))) else (some ((0 : Int32), h))
set_option maxRecDepth 100000 in
set_option maxHeartbeats 4000000 in
theorem c_X10_isKey {l : Launch} {sb : State} {D : va_G} {ids : Nat → ClassId} {n : Nat} (hN : 152 ≤ n) (h : Hp) (x1 : Int32) (r : Int32 × Hp) (hr : fX10_isKey h x1 = some r) : jM l yX10_isKey cX10_isKey 2 (some .boolean) 0 sb D ids shp St n [.ref 107, .int x1] h (jQi sb D ids shp St n r) := by
  refine jM_of hr rfl (Nat.le_of_ble_eq_true rfl) ?_
  intro p e s m args below meth c hC hret
  unfold fX10_isKey
  refine j_aload_n hC 0 rfl rfl (dOk_at dt_X10_isKey 0 rfl) ?_
  refine j_getI hC flX10_175 (show shp 107 = (10, 88) from rfl) (Nat.lt_of_lt_of_le (Nat.le_of_ble_eq_true rfl : 107 < 152) hN) (by decide) (by decide) (fun _ _ _ => rfl) (dOk_at dt_X10_isKey 1 rfl) ?_
  refine j_iconst hC (v := (1 : Int32)) rfl (dOk_at dt_X10_isKey 2 rfl) ?_
  refine j_icmp_ne hC (tgt := 20) (by decide) (dOk_at dt_X10_isKey 3 rfl) (fun q_1 => ?_) (fun q_1 => ?_)
  · refine j_iconst hC (v := (0 : Int32)) rfl (dOk_at dt_X10_isKey 10 rfl) ?_
    exact j_zretK hC hret rfl (dOk_at dt_X10_isKey 11 rfl)
  · refine j_aload_n hC 0 rfl rfl (dOk_at dt_X10_isKey 4 rfl) ?_
    refine j_getI hC flX10_186 (show shp 107 = (10, 88) from rfl) (Nat.lt_of_lt_of_le (Nat.le_of_ble_eq_true rfl : 107 < 152) hN) (by decide) (by decide) (fun _ _ _ => rfl) (dOk_at dt_X10_isKey 5 rfl) ?_
    refine j_iload_n hC 1 rfl rfl (dOk_at dt_X10_isKey 6 rfl) ?_
    refine j_icmp_ne hC (tgt := 20) (by decide) (dOk_at dt_X10_isKey 7 rfl) (fun q_2 => ?_) (fun q_2 => ?_)
    · refine j_iconst hC (v := (0 : Int32)) rfl (dOk_at dt_X10_isKey 10 rfl) ?_
      exact j_zretK hC hret rfl (dOk_at dt_X10_isKey 11 rfl)
    · refine j_iconst hC (v := (1 : Int32)) rfl (dOk_at dt_X10_isKey 8 rfl) ?_
      refine j_goto hC (tgt := 21) (by decide) (dOk_at dt_X10_isKey 9 rfl) ?_
      exact j_zretK hC hret rfl (dOk_at dt_X10_isKey 11 rfl)
def tb_X10_isSign : List (Nat × Instr × Nat) := [(0, .aload_n 0, 1), (1, .getfield 175, 3), (4, .iconst 4, 1), (5, .if_icmp .ne 15, 3), (8, .aload_n 0, 1), (9, .getfield 186, 3), (12, .iload_n 1, 1), (13, .if_icmp .ne 7, 3), (16, .iconst 1, 1), (17, .goto 4, 3), (20, .iconst 0, 1), (21, .ireturn, 1)]
theorem dt_X10_isSign : dOk cX10_isSign tb_X10_isSign = true := by decide +kernel
def fX10_isSign (h : Hp) (x1 : Int32) : Option (Int32 × Hp) := if (hI h 107 8) = (4 : Int32) then (if (hI h 107 9) = x1 then (some ((1 : Int32), h)) else (some ((0 : Int32), h))) else (some ((0 : Int32), h))
set_option maxRecDepth 100000 in
set_option maxHeartbeats 4000000 in
theorem c_X10_isSign {l : Launch} {sb : State} {D : va_G} {ids : Nat → ClassId} {n : Nat} (hN : 152 ≤ n) (h : Hp) (x1 : Int32) (r : Int32 × Hp) (hr : fX10_isSign h x1 = some r) : jM l yX10_isSign cX10_isSign 2 (some .boolean) 0 sb D ids shp St n [.ref 107, .int x1] h (jQi sb D ids shp St n r) := by
  refine jM_of hr rfl (Nat.le_of_ble_eq_true rfl) ?_
  intro p e s m args below meth c hC hret
  unfold fX10_isSign
  refine j_aload_n hC 0 rfl rfl (dOk_at dt_X10_isSign 0 rfl) ?_
  refine j_getI hC flX10_175 (show shp 107 = (10, 88) from rfl) (Nat.lt_of_lt_of_le (Nat.le_of_ble_eq_true rfl : 107 < 152) hN) (by decide) (by decide) (fun _ _ _ => rfl) (dOk_at dt_X10_isSign 1 rfl) ?_
  refine j_iconst hC (v := (4 : Int32)) rfl (dOk_at dt_X10_isSign 2 rfl) ?_
  refine j_icmp_ne hC (tgt := 20) (by decide) (dOk_at dt_X10_isSign 3 rfl) (fun q_1 => ?_) (fun q_1 => ?_)
  · refine j_iconst hC (v := (0 : Int32)) rfl (dOk_at dt_X10_isSign 10 rfl) ?_
    exact j_zretK hC hret rfl (dOk_at dt_X10_isSign 11 rfl)
  · refine j_aload_n hC 0 rfl rfl (dOk_at dt_X10_isSign 4 rfl) ?_
    refine j_getI hC flX10_186 (show shp 107 = (10, 88) from rfl) (Nat.lt_of_lt_of_le (Nat.le_of_ble_eq_true rfl : 107 < 152) hN) (by decide) (by decide) (fun _ _ _ => rfl) (dOk_at dt_X10_isSign 5 rfl) ?_
    refine j_iload_n hC 1 rfl rfl (dOk_at dt_X10_isSign 6 rfl) ?_
    refine j_icmp_ne hC (tgt := 20) (by decide) (dOk_at dt_X10_isSign 7 rfl) (fun q_2 => ?_) (fun q_2 => ?_)
    · refine j_iconst hC (v := (0 : Int32)) rfl (dOk_at dt_X10_isSign 10 rfl) ?_
      exact j_zretK hC hret rfl (dOk_at dt_X10_isSign 11 rfl)
    · refine j_iconst hC (v := (1 : Int32)) rfl (dOk_at dt_X10_isSign 8 rfl) ?_
      refine j_goto hC (tgt := 21) (by decide) (dOk_at dt_X10_isSign 9 rfl) ?_
      exact j_zretK hC hret rfl (dOk_at dt_X10_isSign 11 rfl)
def tb_X10_number : List (Nat × Instr × Nat) := [(0, .aload_n 0, 1), (1, .getfield 175, 3), (4, .iconst 3, 1), (5, .if_icmp .eq 9, 3), (8, .aload_n 0, 1), (9, .iconst 1, 1), (10, .invokevirtual 199, 3), (13, .ireturn, 1), (14, .aload_n 0, 1), (15, .getfield 186, 3), (18, .iload_n 1, 1), (19, .iload_n 2, 1), (20, .invokestatic 202, 3), (23, .ifCond .ne 9, 3), (26, .aload_n 0, 1), (27, .iconst 2, 1), (28, .invokevirtual 199, 3), (31, .ireturn, 1), (32, .aload_n 0, 1), (33, .aload_n 0, 1), (34, .getfield 186, 3), (37, .putfield 206, 3), (40, .aload_n 0, 1), (41, .invokevirtual 209, 3), (44, .iconst 1, 1), (45, .ireturn, 1)]
theorem dt_X10_number : dOk cX10_number tb_X10_number = true := by decide +kernel
def fX10_number (h : Hp) (x1 : Int32) (x2 : Int32) : Option (Int32 × Hp) := if (hI h 107 8) = (3 : Int32) then (bnd (fX10_isIn h (hI h 107 9) x1 x2) (fun v_2 h_3 => if v_2 = 0 then (bnd (fX10_wrong h_3 (2 : Int32)) (fun v_7 h_8 => if isZ v_7 then some (v_7, h_8) else none)) else ((fX10_token (uI h_3 107 11 (hI h_3 107 9))).bind (fun h_6 => some ((1 : Int32), h_6))))) else (bnd (fX10_wrong h (1 : Int32)) (fun v_9 h_10 => if isZ v_9 then some (v_9, h_10) else none))
set_option maxRecDepth 100000 in
set_option maxHeartbeats 4000000 in
theorem c_X10_number {l : Launch} {sb : State} {D : va_G} {ids : Nat → ClassId} {n : Nat} (hN : 152 ≤ n) (h : Hp) (x1 : Int32) (x2 : Int32) (r : Int32 × Hp) (hr : fX10_number h x1 x2 = some r) : jM l yX10_number cX10_number 3 (some .boolean) 2 sb D ids shp St n [.ref 107, .int x1, .int x2] h (jQi sb D ids shp St n r) := by
  refine jM_of hr rfl (Nat.le_of_ble_eq_true rfl) ?_
  intro p e s m args below meth c hC hret
  unfold fX10_number
  refine j_aload_n hC 0 rfl rfl (dOk_at dt_X10_number 0 rfl) ?_
  refine j_getI hC flX10_175 (show shp 107 = (10, 88) from rfl) (Nat.lt_of_lt_of_le (Nat.le_of_ble_eq_true rfl : 107 < 152) hN) (by decide) (by decide) (fun _ _ _ => rfl) (dOk_at dt_X10_number 1 rfl) ?_
  refine j_iconst hC (v := (3 : Int32)) rfl (dOk_at dt_X10_number 2 rfl) ?_
  refine j_icmp_eq hC (tgt := 14) (by decide) (dOk_at dt_X10_number 3 rfl) (fun q_1 => ?_) (fun q_1 => ?_)
  · refine j_aload_n hC 0 rfl rfl (dOk_at dt_X10_number 8 rfl) ?_
    refine j_getI hC flX10_186 (show shp 107 = (10, 88) from rfl) (Nat.lt_of_lt_of_le (Nat.le_of_ble_eq_true rfl : 107 < 152) hN) (by decide) (by decide) (fun _ _ _ => rfl) (dOk_at dt_X10_number 9 rfl) ?_
    refine j_iload_n hC 1 rfl rfl (dOk_at dt_X10_number 10 rfl) ?_
    refine j_iload_n hC 2 rfl rfl (dOk_at dt_X10_number 11 rfl) ?_
    refine j_callSi hC clX10_202 (fun rz hrz => c_X10_isIn hN _ _ _ _ rz hrz) rfl ⟨Nat.le_of_ble_eq_true rfl, Nat.le_of_ble_eq_true rfl⟩ ⟨Nat.le_refl 0, Nat.le_refl 0⟩ (As := [.int (hI h 107 9), .int x1, .int x2]) (st := []) rfl (Nat.le_of_ble_eq_true rfl) (dOk_at dt_X10_number 12 rfl) (fun v_2 h_3 _ => ?_)
    refine j_if_ne hC (tgt := 32) (by decide) (dOk_at dt_X10_number 13 rfl) (fun q_4 => ?_) (fun q_4 => ?_)
    · refine j_aload_n hC 0 rfl rfl (dOk_at dt_X10_number 18 rfl) ?_
      refine j_aload_n hC 0 rfl rfl (dOk_at dt_X10_number 19 rfl) ?_
      refine j_getI hC flX10_186 (show shp 107 = (10, 88) from rfl) (Nat.lt_of_lt_of_le (Nat.le_of_ble_eq_true rfl : 107 < 152) hN) (by decide) (by decide) (fun _ _ _ => rfl) (dOk_at dt_X10_number 20 rfl) ?_
      refine j_putI hC St_SP flX10_206 (show shp 107 = (10, 88) from rfl) (Nat.lt_of_lt_of_le (Nat.le_of_ble_eq_true rfl : 107 < 152) hN) (by decide) (by decide) rfl rfl (dOk_at dt_X10_number 21 rfl) ?_
      refine j_aload_n hC 0 rfl rfl (dOk_at dt_X10_number 22 rfl) ?_
      refine j_callVv hC clX10_209 (fun rz hrz => c_X10_token hN _ rz hrz) (show shp 107 = (10, 88) from rfl) (Nat.lt_of_lt_of_le (Nat.le_of_ble_eq_true rfl : 107 < 152) hN) (by decide) rfl rfl ⟨Nat.le_of_ble_eq_true rfl, Nat.le_of_ble_eq_true rfl⟩ ⟨Nat.le_refl 0, Nat.le_refl 0⟩ (As := []) (st := []) rfl (Nat.le_of_ble_eq_true rfl) (dOk_at dt_X10_number 23 rfl) (fun h_6 _ => ?_)
      refine j_iconst hC (v := (1 : Int32)) rfl (dOk_at dt_X10_number 24 rfl) ?_
      exact j_zretK hC hret rfl (dOk_at dt_X10_number 25 rfl)
    · refine j_aload_n hC 0 rfl rfl (dOk_at dt_X10_number 14 rfl) ?_
      refine j_iconst hC (v := (2 : Int32)) rfl (dOk_at dt_X10_number 15 rfl) ?_
      refine j_callVi hC clX10_199 (fun rz hrz => c_X10_wrong hN _ _ rz hrz) (show shp 107 = (10, 88) from rfl) (Nat.lt_of_lt_of_le (Nat.le_of_ble_eq_true rfl : 107 < 152) hN) (by decide) rfl rfl ⟨Nat.le_of_ble_eq_true rfl, Nat.le_of_ble_eq_true rfl⟩ ⟨Nat.le_refl 0, Nat.le_refl 0⟩ (As := [.int (2 : Int32)]) (st := []) rfl (Nat.le_of_ble_eq_true rfl) (dOk_at dt_X10_number 16 rfl) (fun v_7 h_8 _ => ?_)
      exact j_zret hC hret (dOk_at dt_X10_number 17 rfl)
  · refine j_aload_n hC 0 rfl rfl (dOk_at dt_X10_number 4 rfl) ?_
    refine j_iconst hC (v := (1 : Int32)) rfl (dOk_at dt_X10_number 5 rfl) ?_
    refine j_callVi hC clX10_199 (fun rz hrz => c_X10_wrong hN _ _ rz hrz) (show shp 107 = (10, 88) from rfl) (Nat.lt_of_lt_of_le (Nat.le_of_ble_eq_true rfl : 107 < 152) hN) (by decide) rfl rfl ⟨Nat.le_of_ble_eq_true rfl, Nat.le_of_ble_eq_true rfl⟩ ⟨Nat.le_refl 0, Nat.le_refl 0⟩ (As := [.int (1 : Int32)]) (st := []) rfl (Nat.le_of_ble_eq_true rfl) (dOk_at dt_X10_number 6 rfl) (fun v_9 h_10 _ => ?_)
    exact j_zret hC hret (dOk_at dt_X10_number 7 rfl)
def tb_X10_plain : List (Nat × Instr × Nat) := [(0, .aload_n 0, 1), (1, .iconst 0, 1), (2, .putfield 219, 3), (5, .aload_n 0, 1), (6, .iconst 0, 1), (7, .putfield 222, 3), (10, .aload_n 0, 1), (11, .iconst 0, 1), (12, .putfield 225, 3), (15, .aload_n 0, 1), (16, .iconst 0, 1), (17, .putfield 228, 3), (20, .aload_n 0, 1), (21, .iconst 0, 1), (22, .putfield 231, 3), (25, .aload_n 0, 1), (26, .iconst 0, 1), (27, .putfield 234, 3), (30, .aload_n 0, 1), (31, .iconst 0, 1), (32, .putfield 237, 3), (35, .aload_n 0, 1), (36, .iconst 0, 1), (37, .putfield 240, 3), (40, .iconst 0, 1), (41, .istore_n 1, 1), (42, .iload_n 1, 1), (43, .iconst 2, 1), (44, .if_icmp .ge 25, 3), (47, .aload_n 0, 1), (48, .getfield 20, 3), (51, .iload_n 1, 1), (52, .iconst 0, 1), (53, .bastore, 1), (54, .aload_n 0, 1), (55, .getfield 24, 3), (58, .iconst 2, 1), (59, .iload_n 1, 1), (60, .iadd, 1), (61, .iconst 0, 1), (62, .iastore, 1), (63, .iinc 1 1, 3), (66, .goto (-24), 3), (69, .iconst 5, 1), (70, .istore_n 1, 1), (71, .iload_n 1, 1), (72, .bipush 10, 2), (74, .if_icmp .ge 16, 3), (77, .aload_n 0, 1), (78, .getfield 54, 3), (81, .iload_n 1, 1), (82, .iconst 0, 1), (83, .iastore, 1), (84, .iinc 1 1, 3), (87, .goto (-16), 3), (90, .iconst 3, 1), (91, .istore_n 1, 1), (92, .iload_n 1, 1), (93, .bipush 6, 2), (95, .if_icmp .ge 16, 3), (98, .aload_n 0, 1), (99, .getfield 72, 3), (102, .iload_n 1, 1), (103, .iconst 0, 1), (104, .bastore, 1), (105, .iinc 1 1, 3), (108, .goto (-16), 3), (111, .return_, 1)]
theorem dt_X10_plain : dOk cX10_plain tb_X10_plain = true := by decide +kernel
def fX10_plain_92 : Nat → Hp → Int32 → Option (Hp)
  | 0, _, _ => none
  | fu + 1, h, x1 => if (6 : Int32) ≤ x1 then (some h) else (if inb x1 6 then ((fX10_plain_92 fu) (uI h 127 (Int32.toNatClampNeg x1) (0 : Int32)) (x1 + (1 : Int32))) else none)
def fX10_plain_71 : Nat → Hp → Int32 → Option (Hp)
  | 0, _, _ => none
  | fu + 1, h, x1 => if (10 : Int32) ≤ x1 then (fX10_plain_92 FU h (3 : Int32)) else (if inb x1 10 then ((fX10_plain_71 fu) (uI h 121 (Int32.toNatClampNeg x1) (0 : Int32)) (x1 + (1 : Int32))) else none)
def fX10_plain_42 : Nat → Hp → Int32 → Option (Hp)
  | 0, _, _ => none
  | fu + 1, h, x1 => if (2 : Int32) ≤ x1 then (fX10_plain_71 FU h (5 : Int32)) else (if inb x1 2 then (if inb ((2 : Int32) + x1) 4 then ((fX10_plain_42 fu) (uI (uI h 110 (Int32.toNatClampNeg x1) (0 : Int32)) 111 (Int32.toNatClampNeg ((2 : Int32) + x1)) (0 : Int32)) (x1 + (1 : Int32))) else none) else none)
def fX10_plain (h : Hp) : Option (Hp) := fX10_plain_42 FU (uI (uI (uI (uI (uI (uI (uI (uI h 107 19 (0 : Int32)) 107 20 (0 : Int32)) 107 21 (0 : Int32)) 107 22 (0 : Int32)) 107 23 (0 : Int32)) 107 24 (0 : Int32)) 107 25 (0 : Int32)) 107 54 (0 : Int32)) (0 : Int32)
set_option maxRecDepth 100000 in
set_option maxHeartbeats 4000000 in
theorem c_X10_plain {l : Launch} {sb : State} {D : va_G} {ids : Nat → ClassId} {n : Nat} (hN : 152 ≤ n) (h : Hp) (r : Hp) (hr : fX10_plain h = some r) : jM l yX10_plain cX10_plain 2 none 0 sb D ids shp St n [.ref 107] h (jQv sb D ids shp St n r) := by
  refine jM_of hr rfl (Nat.le_of_ble_eq_true rfl) ?_
  intro p e s m args below meth c hC hret
  have b92 : ∀ (fu : Nat) (h : Hp) (x1 : Int32) , jJ p l e (rmD 0) s m args below meth c 2 sb D ids shp St (fun r => MQ below (jQv sb D ids shp St n r) args s 0 0 (jA sb)) n 0 0 h 92 [(0, .ref 107), (1, .int x1)] [] (fX10_plain_92 fu h x1) := by
    intro fu 
    induction fu with
    | zero => intro h x1 ; exact j_none
    | succ fu ih =>
    intro h x1 
    rw [fX10_plain_92]
    refine j_iload_n hC 1 rfl rfl (dOk_at dt_X10_plain 57 rfl) ?_
    refine j_bipush hC (v := (6 : Int32)) rfl (dOk_at dt_X10_plain 58 rfl) ?_
    refine j_icmp_ge hC (tgt := 111) (by decide) (dOk_at dt_X10_plain 59 rfl) (fun q_3 => ?_) (fun q_3 => ?_)
    · exact j_vret hC hret (dOk_at dt_X10_plain 67 rfl)
    · refine j_aload_n hC 0 rfl rfl (dOk_at dt_X10_plain 60 rfl) ?_
      refine j_getR hC flX10_72 (show shp 107 = (10, 88) from rfl) (Nat.lt_of_lt_of_le (Nat.le_of_ble_eq_true rfl : 107 < 152) hN) (by decide) (by decide) (fun _ _ _ => rfl) (fun hs => hs 107 43 127 rfl) (dOk_at dt_X10_plain 61 rfl) ?_
      refine j_iload_n hC 1 rfl rfl (dOk_at dt_X10_plain 62 rfl) ?_
      refine j_iconst hC (v := (0 : Int32)) rfl (dOk_at dt_X10_plain 63 rfl) ?_
      refine j_zast hC St_SP (show shp 127 = (23, 6) from rfl) (Nat.lt_of_lt_of_le (Nat.le_of_ble_eq_true rfl : 127 < 152) hN) rfl (dOk_at dt_X10_plain 64 rfl) ?_
      refine j_iinc hC (v := (x1 + (1 : Int32))) (lv' := [(1, .int (x1 + (1 : Int32))), (0, .ref 107)]) 1 rfl (congrArg (fun z => x1 + z) (show Int32.ofInt (1) = (1 : Int32) from by decide)) (by decide) rfl (dOk_at dt_X10_plain 65 rfl) ?_
      refine j_goto hC (tgt := 92) (by decide) (dOk_at dt_X10_plain 66 rfl) ?_
      refine j_sub [1, 0] rfl ?_
      exact ih (uI h 127 (Int32.toNatClampNeg x1) (0 : Int32)) (x1 + (1 : Int32)) 
  have b71 : ∀ (fu : Nat) (h : Hp) (x1 : Int32) , jJ p l e (rmD 0) s m args below meth c 2 sb D ids shp St (fun r => MQ below (jQv sb D ids shp St n r) args s 0 0 (jA sb)) n 0 0 h 71 [(0, .ref 107), (1, .int x1)] [] (fX10_plain_71 fu h x1) := by
    intro fu 
    induction fu with
    | zero => intro h x1 ; exact j_none
    | succ fu ih =>
    intro h x1 
    rw [fX10_plain_71]
    refine j_iload_n hC 1 rfl rfl (dOk_at dt_X10_plain 45 rfl) ?_
    refine j_bipush hC (v := (10 : Int32)) rfl (dOk_at dt_X10_plain 46 rfl) ?_
    refine j_icmp_ge hC (tgt := 90) (by decide) (dOk_at dt_X10_plain 47 rfl) (fun q_2 => ?_) (fun q_2 => ?_)
    · refine j_iconst hC (v := (3 : Int32)) rfl (dOk_at dt_X10_plain 55 rfl) ?_
      refine j_istore_n hC rfl (lv' := [(1, .int (3 : Int32)), (0, .ref 107)]) (by decide) rfl (dOk_at dt_X10_plain 56 rfl) ?_
      refine j_sub [1, 0] rfl ?_
      exact b92 FU h (3 : Int32) 
    · refine j_aload_n hC 0 rfl rfl (dOk_at dt_X10_plain 48 rfl) ?_
      refine j_getR hC flX10_54 (show shp 107 = (10, 88) from rfl) (Nat.lt_of_lt_of_le (Nat.le_of_ble_eq_true rfl : 107 < 152) hN) (by decide) (by decide) (fun _ _ _ => rfl) (fun hs => hs 107 37 121 rfl) (dOk_at dt_X10_plain 49 rfl) ?_
      refine j_iload_n hC 1 rfl rfl (dOk_at dt_X10_plain 50 rfl) ?_
      refine j_iconst hC (v := (0 : Int32)) rfl (dOk_at dt_X10_plain 51 rfl) ?_
      refine j_iast hC St_SP (show shp 121 = (21, 10) from rfl) (Nat.lt_of_lt_of_le (Nat.le_of_ble_eq_true rfl : 121 < 152) hN) (dOk_at dt_X10_plain 52 rfl) ?_
      refine j_iinc hC (v := (x1 + (1 : Int32))) (lv' := [(1, .int (x1 + (1 : Int32))), (0, .ref 107)]) 1 rfl (congrArg (fun z => x1 + z) (show Int32.ofInt (1) = (1 : Int32) from by decide)) (by decide) rfl (dOk_at dt_X10_plain 53 rfl) ?_
      refine j_goto hC (tgt := 71) (by decide) (dOk_at dt_X10_plain 54 rfl) ?_
      refine j_sub [1, 0] rfl ?_
      exact ih (uI h 121 (Int32.toNatClampNeg x1) (0 : Int32)) (x1 + (1 : Int32)) 
  have b42 : ∀ (fu : Nat) (h : Hp) (x1 : Int32) , jJ p l e (rmD 0) s m args below meth c 2 sb D ids shp St (fun r => MQ below (jQv sb D ids shp St n r) args s 0 0 (jA sb)) n 0 0 h 42 [(0, .ref 107), (1, .int x1)] [] (fX10_plain_42 fu h x1) := by
    intro fu 
    induction fu with
    | zero => intro h x1 ; exact j_none
    | succ fu ih =>
    intro h x1 
    rw [fX10_plain_42]
    refine j_iload_n hC 1 rfl rfl (dOk_at dt_X10_plain 26 rfl) ?_
    refine j_iconst hC (v := (2 : Int32)) rfl (dOk_at dt_X10_plain 27 rfl) ?_
    refine j_icmp_ge hC (tgt := 69) (by decide) (dOk_at dt_X10_plain 28 rfl) (fun q_1 => ?_) (fun q_1 => ?_)
    · refine j_iconst hC (v := (5 : Int32)) rfl (dOk_at dt_X10_plain 43 rfl) ?_
      refine j_istore_n hC rfl (lv' := [(1, .int (5 : Int32)), (0, .ref 107)]) (by decide) rfl (dOk_at dt_X10_plain 44 rfl) ?_
      refine j_sub [1, 0] rfl ?_
      exact b71 FU h (5 : Int32) 
    · refine j_aload_n hC 0 rfl rfl (dOk_at dt_X10_plain 29 rfl) ?_
      refine j_getR hC flX10_20 (show shp 107 = (10, 88) from rfl) (Nat.lt_of_lt_of_le (Nat.le_of_ble_eq_true rfl : 107 < 152) hN) (by decide) (by decide) (fun _ _ _ => rfl) (fun hs => hs 107 26 110 rfl) (dOk_at dt_X10_plain 30 rfl) ?_
      refine j_iload_n hC 1 rfl rfl (dOk_at dt_X10_plain 31 rfl) ?_
      refine j_iconst hC (v := (0 : Int32)) rfl (dOk_at dt_X10_plain 32 rfl) ?_
      refine j_zast hC St_SP (show shp 110 = (23, 2) from rfl) (Nat.lt_of_lt_of_le (Nat.le_of_ble_eq_true rfl : 110 < 152) hN) rfl (dOk_at dt_X10_plain 33 rfl) ?_
      refine j_aload_n hC 0 rfl rfl (dOk_at dt_X10_plain 34 rfl) ?_
      refine j_getR hC flX10_24 (show shp 107 = (10, 88) from rfl) (Nat.lt_of_lt_of_le (Nat.le_of_ble_eq_true rfl : 107 < 152) hN) (by decide) (by decide) (fun _ _ _ => rfl) (fun hs => hs 107 27 111 rfl) (dOk_at dt_X10_plain 35 rfl) ?_
      refine j_iconst hC (v := (2 : Int32)) rfl (dOk_at dt_X10_plain 36 rfl) ?_
      refine j_iload_n hC 1 rfl rfl (dOk_at dt_X10_plain 37 rfl) ?_
      refine j_iadd hC (dOk_at dt_X10_plain 38 rfl) ?_
      refine j_iconst hC (v := (0 : Int32)) rfl (dOk_at dt_X10_plain 39 rfl) ?_
      refine j_iast hC St_SP (show shp 111 = (21, 4) from rfl) (Nat.lt_of_lt_of_le (Nat.le_of_ble_eq_true rfl : 111 < 152) hN) (dOk_at dt_X10_plain 40 rfl) ?_
      refine j_iinc hC (v := (x1 + (1 : Int32))) (lv' := [(1, .int (x1 + (1 : Int32))), (0, .ref 107)]) 1 rfl (congrArg (fun z => x1 + z) (show Int32.ofInt (1) = (1 : Int32) from by decide)) (by decide) rfl (dOk_at dt_X10_plain 41 rfl) ?_
      refine j_goto hC (tgt := 42) (by decide) (dOk_at dt_X10_plain 42 rfl) ?_
      refine j_sub [1, 0] rfl ?_
      exact ih (uI (uI h 110 (Int32.toNatClampNeg x1) (0 : Int32)) 111 (Int32.toNatClampNeg ((2 : Int32) + x1)) (0 : Int32)) (x1 + (1 : Int32)) 
  unfold fX10_plain
  refine j_aload_n hC 0 rfl rfl (dOk_at dt_X10_plain 0 rfl) ?_
  refine j_iconst hC (v := (0 : Int32)) rfl (dOk_at dt_X10_plain 1 rfl) ?_
  refine j_putI hC St_SP flX10_219 (show shp 107 = (10, 88) from rfl) (Nat.lt_of_lt_of_le (Nat.le_of_ble_eq_true rfl : 107 < 152) hN) (by decide) (by decide) rfl rfl (dOk_at dt_X10_plain 2 rfl) ?_
  refine j_aload_n hC 0 rfl rfl (dOk_at dt_X10_plain 3 rfl) ?_
  refine j_iconst hC (v := (0 : Int32)) rfl (dOk_at dt_X10_plain 4 rfl) ?_
  refine j_putI hC St_SP flX10_222 (show shp 107 = (10, 88) from rfl) (Nat.lt_of_lt_of_le (Nat.le_of_ble_eq_true rfl : 107 < 152) hN) (by decide) (by decide) rfl rfl (dOk_at dt_X10_plain 5 rfl) ?_
  refine j_aload_n hC 0 rfl rfl (dOk_at dt_X10_plain 6 rfl) ?_
  refine j_iconst hC (v := (0 : Int32)) rfl (dOk_at dt_X10_plain 7 rfl) ?_
  refine j_putI hC St_SP flX10_225 (show shp 107 = (10, 88) from rfl) (Nat.lt_of_lt_of_le (Nat.le_of_ble_eq_true rfl : 107 < 152) hN) (by decide) (by decide) rfl rfl (dOk_at dt_X10_plain 8 rfl) ?_
  refine j_aload_n hC 0 rfl rfl (dOk_at dt_X10_plain 9 rfl) ?_
  refine j_iconst hC (v := (0 : Int32)) rfl (dOk_at dt_X10_plain 10 rfl) ?_
  refine j_putI hC St_SP flX10_228 (show shp 107 = (10, 88) from rfl) (Nat.lt_of_lt_of_le (Nat.le_of_ble_eq_true rfl : 107 < 152) hN) (by decide) (by decide) rfl rfl (dOk_at dt_X10_plain 11 rfl) ?_
  refine j_aload_n hC 0 rfl rfl (dOk_at dt_X10_plain 12 rfl) ?_
  refine j_iconst hC (v := (0 : Int32)) rfl (dOk_at dt_X10_plain 13 rfl) ?_
  refine j_putI hC St_SP flX10_231 (show shp 107 = (10, 88) from rfl) (Nat.lt_of_lt_of_le (Nat.le_of_ble_eq_true rfl : 107 < 152) hN) (by decide) (by decide) rfl rfl (dOk_at dt_X10_plain 14 rfl) ?_
  refine j_aload_n hC 0 rfl rfl (dOk_at dt_X10_plain 15 rfl) ?_
  refine j_iconst hC (v := (0 : Int32)) rfl (dOk_at dt_X10_plain 16 rfl) ?_
  refine j_putI hC St_SP flX10_234 (show shp 107 = (10, 88) from rfl) (Nat.lt_of_lt_of_le (Nat.le_of_ble_eq_true rfl : 107 < 152) hN) (by decide) (by decide) rfl rfl (dOk_at dt_X10_plain 17 rfl) ?_
  refine j_aload_n hC 0 rfl rfl (dOk_at dt_X10_plain 18 rfl) ?_
  refine j_iconst hC (v := (0 : Int32)) rfl (dOk_at dt_X10_plain 19 rfl) ?_
  refine j_putI hC St_SP flX10_237 (show shp 107 = (10, 88) from rfl) (Nat.lt_of_lt_of_le (Nat.le_of_ble_eq_true rfl : 107 < 152) hN) (by decide) (by decide) rfl rfl (dOk_at dt_X10_plain 20 rfl) ?_
  refine j_aload_n hC 0 rfl rfl (dOk_at dt_X10_plain 21 rfl) ?_
  refine j_iconst hC (v := (0 : Int32)) rfl (dOk_at dt_X10_plain 22 rfl) ?_
  refine j_putI hC St_SP flX10_240 (show shp 107 = (10, 88) from rfl) (Nat.lt_of_lt_of_le (Nat.le_of_ble_eq_true rfl : 107 < 152) hN) (by decide) (by decide) rfl rfl (dOk_at dt_X10_plain 23 rfl) ?_
  refine j_iconst hC (v := (0 : Int32)) rfl (dOk_at dt_X10_plain 24 rfl) ?_
  refine j_istore_n hC rfl (lv' := [(1, .int (0 : Int32)), (0, .ref 107)]) (by decide) rfl (dOk_at dt_X10_plain 25 rfl) ?_
  refine j_sub [1, 0] rfl ?_
  exact b42 FU (uI (uI (uI (uI (uI (uI (uI (uI h 107 19 (0 : Int32)) 107 20 (0 : Int32)) 107 21 (0 : Int32)) 107 22 (0 : Int32)) 107 23 (0 : Int32)) 107 24 (0 : Int32)) 107 25 (0 : Int32)) 107 54 (0 : Int32)) (0 : Int32) 
def tb_X10_copies : List (Nat × Instr × Nat) := [(0, .iconst 0, 1), (1, .istore_n 2, 1), (2, .iload_n 2, 1), (3, .iload_n 1, 1), (4, .if_icmp .ge 17, 3), (7, .aload_n 0, 1), (8, .iload_n 2, 1), (9, .aload_n 0, 1), (10, .iload_n 1, 1), (11, .iload_n 2, 1), (12, .iadd, 1), (13, .iaload, 1), (14, .iastore, 1), (15, .iinc 2 1, 3), (18, .goto (-16), 3), (21, .return_, 1)]
theorem dt_X10_copies : dOk cX10_copies tb_X10_copies = true := by decide +kernel
def fX10_copies_2 : Nat → (Nat) → (Nat) → Hp → Int32 → Int32 → Option (Hp)
  | 0, _, _, _, _, _ => none
  | fu + 1, r0, n0, h, x1, x2 => if x1 ≤ x2 then (some h) else (if inb (x1 + x2) n0 then (if inb x2 n0 then ((fX10_copies_2 fu r0 n0) (uI h r0 (Int32.toNatClampNeg x2) (hI h r0 (Int32.toNatClampNeg (x1 + x2)))) x1 (x2 + (1 : Int32))) else none) else none)
def fX10_copies (r0 : Nat) (n0 : Nat) (h : Hp) (x1 : Int32) : Option (Hp) := fX10_copies_2 FU r0 n0 h x1 (0 : Int32)
set_option maxRecDepth 100000 in
set_option maxHeartbeats 4000000 in
theorem c_X10_copies {l : Launch} {sb : State} {D : va_G} {ids : Nat → ClassId} {n : Nat} (hN : 152 ≤ n) {r0 : Nat} {n0 : Nat} (h0 : shp r0 = (21, n0)) (h : Hp) (x1 : Int32) (r : Hp) (hr : fX10_copies r0 n0 h x1 = some r) : jM l yX10_copies cX10_copies 3 none 0 sb D ids shp St n [.ref r0, .int x1] h (jQv sb D ids shp St n r) := by
  refine jM_of hr rfl (Nat.le_of_ble_eq_true rfl) ?_
  intro p e s m args below meth c hC hret
  have b2 : ∀ (fu : Nat) (h : Hp) (x1 : Int32) (x2 : Int32) , jJ p l e (rmD 0) s m args below meth c 3 sb D ids shp St (fun r => MQ below (jQv sb D ids shp St n r) args s 0 0 (jA sb)) n 0 0 h 2 [(0, .ref r0), (1, .int x1), (2, .int x2)] [] (fX10_copies_2 fu r0 n0 h x1 x2) := by
    intro fu 
    induction fu with
    | zero => intro h x1 x2 ; exact j_none
    | succ fu ih =>
    intro h x1 x2 
    rw [fX10_copies_2]
    refine j_iload_n hC 2 rfl rfl (dOk_at dt_X10_copies 2 rfl) ?_
    refine j_iload_n hC 1 rfl rfl (dOk_at dt_X10_copies 3 rfl) ?_
    refine j_icmp_ge hC (tgt := 21) (by decide) (dOk_at dt_X10_copies 4 rfl) (fun q_1 => ?_) (fun q_1 => ?_)
    · exact j_vret hC hret (dOk_at dt_X10_copies 15 rfl)
    · refine j_aload_n hC 0 rfl rfl (dOk_at dt_X10_copies 5 rfl) ?_
      refine j_iload_n hC 2 rfl rfl (dOk_at dt_X10_copies 6 rfl) ?_
      refine j_aload_n hC 0 rfl rfl (dOk_at dt_X10_copies 7 rfl) ?_
      refine j_iload_n hC 1 rfl rfl (dOk_at dt_X10_copies 8 rfl) ?_
      refine j_iload_n hC 2 rfl rfl (dOk_at dt_X10_copies 9 rfl) ?_
      refine j_iadd hC (dOk_at dt_X10_copies 10 rfl) ?_
      refine j_iald hC h0 (jlt hN h0 (by decide)) (dOk_at dt_X10_copies 11 rfl) ?_
      refine j_iast hC St_SP h0 (jlt hN h0 (by decide)) (dOk_at dt_X10_copies 12 rfl) ?_
      refine j_iinc hC (v := (x2 + (1 : Int32))) (lv' := [(2, .int (x2 + (1 : Int32))), (0, .ref r0), (1, .int x1)]) 2 rfl (congrArg (fun z => x2 + z) (show Int32.ofInt (1) = (1 : Int32) from by decide)) (by decide) rfl (dOk_at dt_X10_copies 13 rfl) ?_
      refine j_goto hC (tgt := 2) (by decide) (dOk_at dt_X10_copies 14 rfl) ?_
      refine j_sub [1, 2, 0] rfl ?_
      exact ih (uI h r0 (Int32.toNatClampNeg x2) (hI h r0 (Int32.toNatClampNeg (x1 + x2)))) x1 (x2 + (1 : Int32)) 
  unfold fX10_copies
  refine j_iconst hC (v := (0 : Int32)) rfl (dOk_at dt_X10_copies 0 rfl) ?_
  refine j_istore_n hC rfl (lv' := [(2, .int (0 : Int32)), (0, .ref r0), (1, .int x1)]) (by decide) rfl (dOk_at dt_X10_copies 1 rfl) ?_
  refine j_sub [1, 2, 0] rfl ?_
  exact b2 FU h x1 (0 : Int32) 
def tb_X10_atFirst : List (Nat × Instr × Nat) := [(0, .iconst 0, 1), (1, .istore_n 2, 1), (2, .iload_n 2, 1), (3, .iconst 5, 1), (4, .if_icmp .ge 74, 3), (7, .aload_n 0, 1), (8, .getfield 103, 3), (11, .iconst 5, 1), (12, .iload_n 1, 1), (13, .imul, 1), (14, .iload_n 2, 1), (15, .iadd, 1), (16, .aload_n 0, 1), (17, .getfield 48, 3), (20, .iload_n 2, 1), (21, .iaload, 1), (22, .iastore, 1), (23, .aload_n 0, 1), (24, .getfield 106, 3), (27, .iconst 5, 1), (28, .iload_n 1, 1), (29, .imul, 1), (30, .iload_n 2, 1), (31, .iadd, 1), (32, .iconst 0, 1), (33, .bastore, 1), (34, .aload_n 0, 1), (35, .getfield 109, 3), (38, .iconst 5, 1), (39, .iload_n 1, 1), (40, .imul, 1), (41, .iload_n 2, 1), (42, .iadd, 1), (43, .aload_n 0, 1), (44, .getfield 54, 3), (47, .iload_n 2, 1), (48, .iaload, 1), (49, .iastore, 1), (50, .aload_n 0, 1), (51, .getfield 112, 3), (54, .iconst 5, 1), (55, .iload_n 1, 1), (56, .imul, 1), (57, .iload_n 2, 1), (58, .iadd, 1), (59, .iconst 0, 1), (60, .iastore, 1), (61, .aload_n 0, 1), (62, .getfield 115, 3), (65, .iconst 5, 1), (66, .iload_n 1, 1), (67, .imul, 1), (68, .iload_n 2, 1), (69, .iadd, 1), (70, .iconst 0, 1), (71, .iastore, 1), (72, .iinc 2 1, 3), (75, .goto (-73), 3), (78, .aload_n 0, 1), (79, .getfield 118, 3), (82, .iload_n 1, 1), (83, .iconst 0, 1), (84, .iastore, 1), (85, .aload_n 0, 1), (86, .getfield 121, 3), (89, .iload_n 1, 1), (90, .iconst 0, 1), (91, .iastore, 1), (92, .return_, 1)]
theorem dt_X10_atFirst : dOk cX10_atFirst tb_X10_atFirst = true := by decide +kernel
def fX10_atFirst_2 : Nat → Hp → Int32 → Int32 → Option (Hp)
  | 0, _, _, _ => none
  | fu + 1, h, x1, x2 => if (5 : Int32) ≤ x2 then (if inb x1 2 then (if inb x1 2 then (some (uI (uI h 142 (Int32.toNatClampNeg x1) (0 : Int32)) 143 (Int32.toNatClampNeg x1) (0 : Int32))) else none) else none) else (if inb x2 10 then (if inb (((5 : Int32) * x1) + x2) 10 then (if inb (((5 : Int32) * x1) + x2) 10 then (if inb x2 10 then (if inb (((5 : Int32) * x1) + x2) 10 then (if inb (((5 : Int32) * x1) + x2) 10 then (if inb (((5 : Int32) * x1) + x2) 10 then ((fX10_atFirst_2 fu) (uI (uI (uI (uI (uI h 137 (Int32.toNatClampNeg (((5 : Int32) * x1) + x2)) (hI h 119 (Int32.toNatClampNeg x2))) 138 (Int32.toNatClampNeg (((5 : Int32) * x1) + x2)) (0 : Int32)) 139 (Int32.toNatClampNeg (((5 : Int32) * x1) + x2)) (hI (uI (uI h 137 (Int32.toNatClampNeg (((5 : Int32) * x1) + x2)) (hI h 119 (Int32.toNatClampNeg x2))) 138 (Int32.toNatClampNeg (((5 : Int32) * x1) + x2)) (0 : Int32)) 121 (Int32.toNatClampNeg x2))) 140 (Int32.toNatClampNeg (((5 : Int32) * x1) + x2)) (0 : Int32)) 141 (Int32.toNatClampNeg (((5 : Int32) * x1) + x2)) (0 : Int32)) x1 (x2 + (1 : Int32))) else none) else none) else none) else none) else none) else none) else none)
def fX10_atFirst (h : Hp) (x1 : Int32) : Option (Hp) := fX10_atFirst_2 FU h x1 (0 : Int32)
set_option maxRecDepth 100000 in
set_option maxHeartbeats 4000000 in
theorem c_X10_atFirst {l : Launch} {sb : State} {D : va_G} {ids : Nat → ClassId} {n : Nat} (hN : 152 ≤ n) (h : Hp) (x1 : Int32) (r : Hp) (hr : fX10_atFirst h x1 = some r) : jM l yX10_atFirst cX10_atFirst 3 none 0 sb D ids shp St n [.ref 107, .int x1] h (jQv sb D ids shp St n r) := by
  refine jM_of hr rfl (Nat.le_of_ble_eq_true rfl) ?_
  intro p e s m args below meth c hC hret
  have b2 : ∀ (fu : Nat) (h : Hp) (x1 : Int32) (x2 : Int32) , jJ p l e (rmD 0) s m args below meth c 3 sb D ids shp St (fun r => MQ below (jQv sb D ids shp St n r) args s 0 0 (jA sb)) n 0 0 h 2 [(0, .ref 107), (1, .int x1), (2, .int x2)] [] (fX10_atFirst_2 fu h x1 x2) := by
    intro fu 
    induction fu with
    | zero => intro h x1 x2 ; exact j_none
    | succ fu ih =>
    intro h x1 x2 
    rw [fX10_atFirst_2]
    refine j_iload_n hC 2 rfl rfl (dOk_at dt_X10_atFirst 2 rfl) ?_
    refine j_iconst hC (v := (5 : Int32)) rfl (dOk_at dt_X10_atFirst 3 rfl) ?_
    refine j_icmp_ge hC (tgt := 78) (by decide) (dOk_at dt_X10_atFirst 4 rfl) (fun q_1 => ?_) (fun q_1 => ?_)
    · refine j_aload_n hC 0 rfl rfl (dOk_at dt_X10_atFirst 58 rfl) ?_
      refine j_getR hC flX10_118 (show shp 107 = (10, 88) from rfl) (Nat.lt_of_lt_of_le (Nat.le_of_ble_eq_true rfl : 107 < 152) hN) (by decide) (by decide) (fun _ _ _ => rfl) (fun hs => hs 107 65 142 rfl) (dOk_at dt_X10_atFirst 59 rfl) ?_
      refine j_iload_n hC 1 rfl rfl (dOk_at dt_X10_atFirst 60 rfl) ?_
      refine j_iconst hC (v := (0 : Int32)) rfl (dOk_at dt_X10_atFirst 61 rfl) ?_
      refine j_iast hC St_SP (show shp 142 = (21, 2) from rfl) (Nat.lt_of_lt_of_le (Nat.le_of_ble_eq_true rfl : 142 < 152) hN) (dOk_at dt_X10_atFirst 62 rfl) ?_
      refine j_aload_n hC 0 rfl rfl (dOk_at dt_X10_atFirst 63 rfl) ?_
      refine j_getR hC flX10_121 (show shp 107 = (10, 88) from rfl) (Nat.lt_of_lt_of_le (Nat.le_of_ble_eq_true rfl : 107 < 152) hN) (by decide) (by decide) (fun _ _ _ => rfl) (fun hs => hs 107 66 143 rfl) (dOk_at dt_X10_atFirst 64 rfl) ?_
      refine j_iload_n hC 1 rfl rfl (dOk_at dt_X10_atFirst 65 rfl) ?_
      refine j_iconst hC (v := (0 : Int32)) rfl (dOk_at dt_X10_atFirst 66 rfl) ?_
      refine j_iast hC St_SP (show shp 143 = (21, 2) from rfl) (Nat.lt_of_lt_of_le (Nat.le_of_ble_eq_true rfl : 143 < 152) hN) (dOk_at dt_X10_atFirst 67 rfl) ?_
      exact j_vret hC hret (dOk_at dt_X10_atFirst 68 rfl)
    · refine j_aload_n hC 0 rfl rfl (dOk_at dt_X10_atFirst 5 rfl) ?_
      refine j_getR hC flX10_103 (show shp 107 = (10, 88) from rfl) (Nat.lt_of_lt_of_le (Nat.le_of_ble_eq_true rfl : 107 < 152) hN) (by decide) (by decide) (fun _ _ _ => rfl) (fun hs => hs 107 60 137 rfl) (dOk_at dt_X10_atFirst 6 rfl) ?_
      refine j_iconst hC (v := (5 : Int32)) rfl (dOk_at dt_X10_atFirst 7 rfl) ?_
      refine j_iload_n hC 1 rfl rfl (dOk_at dt_X10_atFirst 8 rfl) ?_
      refine j_imul hC (dOk_at dt_X10_atFirst 9 rfl) ?_
      refine j_iload_n hC 2 rfl rfl (dOk_at dt_X10_atFirst 10 rfl) ?_
      refine j_iadd hC (dOk_at dt_X10_atFirst 11 rfl) ?_
      refine j_aload_n hC 0 rfl rfl (dOk_at dt_X10_atFirst 12 rfl) ?_
      refine j_getR hC flX10_48 (show shp 107 = (10, 88) from rfl) (Nat.lt_of_lt_of_le (Nat.le_of_ble_eq_true rfl : 107 < 152) hN) (by decide) (by decide) (fun _ _ _ => rfl) (fun hs => hs 107 35 119 rfl) (dOk_at dt_X10_atFirst 13 rfl) ?_
      refine j_iload_n hC 2 rfl rfl (dOk_at dt_X10_atFirst 14 rfl) ?_
      refine j_iald hC (show shp 119 = (21, 10) from rfl) (Nat.lt_of_lt_of_le (Nat.le_of_ble_eq_true rfl : 119 < 152) hN) (dOk_at dt_X10_atFirst 15 rfl) ?_
      refine j_iast hC St_SP (show shp 137 = (21, 10) from rfl) (Nat.lt_of_lt_of_le (Nat.le_of_ble_eq_true rfl : 137 < 152) hN) (dOk_at dt_X10_atFirst 16 rfl) ?_
      refine j_aload_n hC 0 rfl rfl (dOk_at dt_X10_atFirst 17 rfl) ?_
      refine j_getR hC flX10_106 (show shp 107 = (10, 88) from rfl) (Nat.lt_of_lt_of_le (Nat.le_of_ble_eq_true rfl : 107 < 152) hN) (by decide) (by decide) (fun _ _ _ => rfl) (fun hs => hs 107 61 138 rfl) (dOk_at dt_X10_atFirst 18 rfl) ?_
      refine j_iconst hC (v := (5 : Int32)) rfl (dOk_at dt_X10_atFirst 19 rfl) ?_
      refine j_iload_n hC 1 rfl rfl (dOk_at dt_X10_atFirst 20 rfl) ?_
      refine j_imul hC (dOk_at dt_X10_atFirst 21 rfl) ?_
      refine j_iload_n hC 2 rfl rfl (dOk_at dt_X10_atFirst 22 rfl) ?_
      refine j_iadd hC (dOk_at dt_X10_atFirst 23 rfl) ?_
      refine j_iconst hC (v := (0 : Int32)) rfl (dOk_at dt_X10_atFirst 24 rfl) ?_
      refine j_zast hC St_SP (show shp 138 = (23, 10) from rfl) (Nat.lt_of_lt_of_le (Nat.le_of_ble_eq_true rfl : 138 < 152) hN) rfl (dOk_at dt_X10_atFirst 25 rfl) ?_
      refine j_aload_n hC 0 rfl rfl (dOk_at dt_X10_atFirst 26 rfl) ?_
      refine j_getR hC flX10_109 (show shp 107 = (10, 88) from rfl) (Nat.lt_of_lt_of_le (Nat.le_of_ble_eq_true rfl : 107 < 152) hN) (by decide) (by decide) (fun _ _ _ => rfl) (fun hs => hs 107 62 139 rfl) (dOk_at dt_X10_atFirst 27 rfl) ?_
      refine j_iconst hC (v := (5 : Int32)) rfl (dOk_at dt_X10_atFirst 28 rfl) ?_
      refine j_iload_n hC 1 rfl rfl (dOk_at dt_X10_atFirst 29 rfl) ?_
      refine j_imul hC (dOk_at dt_X10_atFirst 30 rfl) ?_
      refine j_iload_n hC 2 rfl rfl (dOk_at dt_X10_atFirst 31 rfl) ?_
      refine j_iadd hC (dOk_at dt_X10_atFirst 32 rfl) ?_
      refine j_aload_n hC 0 rfl rfl (dOk_at dt_X10_atFirst 33 rfl) ?_
      refine j_getR hC flX10_54 (show shp 107 = (10, 88) from rfl) (Nat.lt_of_lt_of_le (Nat.le_of_ble_eq_true rfl : 107 < 152) hN) (by decide) (by decide) (fun _ _ _ => rfl) (fun hs => hs 107 37 121 rfl) (dOk_at dt_X10_atFirst 34 rfl) ?_
      refine j_iload_n hC 2 rfl rfl (dOk_at dt_X10_atFirst 35 rfl) ?_
      refine j_iald hC (show shp 121 = (21, 10) from rfl) (Nat.lt_of_lt_of_le (Nat.le_of_ble_eq_true rfl : 121 < 152) hN) (dOk_at dt_X10_atFirst 36 rfl) ?_
      refine j_iast hC St_SP (show shp 139 = (21, 10) from rfl) (Nat.lt_of_lt_of_le (Nat.le_of_ble_eq_true rfl : 139 < 152) hN) (dOk_at dt_X10_atFirst 37 rfl) ?_
      refine j_aload_n hC 0 rfl rfl (dOk_at dt_X10_atFirst 38 rfl) ?_
      refine j_getR hC flX10_112 (show shp 107 = (10, 88) from rfl) (Nat.lt_of_lt_of_le (Nat.le_of_ble_eq_true rfl : 107 < 152) hN) (by decide) (by decide) (fun _ _ _ => rfl) (fun hs => hs 107 63 140 rfl) (dOk_at dt_X10_atFirst 39 rfl) ?_
      refine j_iconst hC (v := (5 : Int32)) rfl (dOk_at dt_X10_atFirst 40 rfl) ?_
      refine j_iload_n hC 1 rfl rfl (dOk_at dt_X10_atFirst 41 rfl) ?_
      refine j_imul hC (dOk_at dt_X10_atFirst 42 rfl) ?_
      refine j_iload_n hC 2 rfl rfl (dOk_at dt_X10_atFirst 43 rfl) ?_
      refine j_iadd hC (dOk_at dt_X10_atFirst 44 rfl) ?_
      refine j_iconst hC (v := (0 : Int32)) rfl (dOk_at dt_X10_atFirst 45 rfl) ?_
      refine j_iast hC St_SP (show shp 140 = (21, 10) from rfl) (Nat.lt_of_lt_of_le (Nat.le_of_ble_eq_true rfl : 140 < 152) hN) (dOk_at dt_X10_atFirst 46 rfl) ?_
      refine j_aload_n hC 0 rfl rfl (dOk_at dt_X10_atFirst 47 rfl) ?_
      refine j_getR hC flX10_115 (show shp 107 = (10, 88) from rfl) (Nat.lt_of_lt_of_le (Nat.le_of_ble_eq_true rfl : 107 < 152) hN) (by decide) (by decide) (fun _ _ _ => rfl) (fun hs => hs 107 64 141 rfl) (dOk_at dt_X10_atFirst 48 rfl) ?_
      refine j_iconst hC (v := (5 : Int32)) rfl (dOk_at dt_X10_atFirst 49 rfl) ?_
      refine j_iload_n hC 1 rfl rfl (dOk_at dt_X10_atFirst 50 rfl) ?_
      refine j_imul hC (dOk_at dt_X10_atFirst 51 rfl) ?_
      refine j_iload_n hC 2 rfl rfl (dOk_at dt_X10_atFirst 52 rfl) ?_
      refine j_iadd hC (dOk_at dt_X10_atFirst 53 rfl) ?_
      refine j_iconst hC (v := (0 : Int32)) rfl (dOk_at dt_X10_atFirst 54 rfl) ?_
      refine j_iast hC St_SP (show shp 141 = (21, 10) from rfl) (Nat.lt_of_lt_of_le (Nat.le_of_ble_eq_true rfl : 141 < 152) hN) (dOk_at dt_X10_atFirst 55 rfl) ?_
      refine j_iinc hC (v := (x2 + (1 : Int32))) (lv' := [(2, .int (x2 + (1 : Int32))), (0, .ref 107), (1, .int x1)]) 2 rfl (congrArg (fun z => x2 + z) (show Int32.ofInt (1) = (1 : Int32) from by decide)) (by decide) rfl (dOk_at dt_X10_atFirst 56 rfl) ?_
      refine j_goto hC (tgt := 2) (by decide) (dOk_at dt_X10_atFirst 57 rfl) ?_
      refine j_sub [1, 2, 0] rfl ?_
      exact ih (uI (uI (uI (uI (uI h 137 (Int32.toNatClampNeg (((5 : Int32) * x1) + x2)) (hI h 119 (Int32.toNatClampNeg x2))) 138 (Int32.toNatClampNeg (((5 : Int32) * x1) + x2)) (0 : Int32)) 139 (Int32.toNatClampNeg (((5 : Int32) * x1) + x2)) (hI (uI (uI h 137 (Int32.toNatClampNeg (((5 : Int32) * x1) + x2)) (hI h 119 (Int32.toNatClampNeg x2))) 138 (Int32.toNatClampNeg (((5 : Int32) * x1) + x2)) (0 : Int32)) 121 (Int32.toNatClampNeg x2))) 140 (Int32.toNatClampNeg (((5 : Int32) * x1) + x2)) (0 : Int32)) 141 (Int32.toNatClampNeg (((5 : Int32) * x1) + x2)) (0 : Int32)) x1 (x2 + (1 : Int32)) 
  unfold fX10_atFirst
  refine j_iconst hC (v := (0 : Int32)) rfl (dOk_at dt_X10_atFirst 0 rfl) ?_
  refine j_istore_n hC rfl (lv' := [(2, .int (0 : Int32)), (0, .ref 107), (1, .int x1)]) (by decide) rfl (dOk_at dt_X10_atFirst 1 rfl) ?_
  refine j_sub [1, 2, 0] rfl ?_
  exact b2 FU h x1 (0 : Int32) 
def tb_X10_plainTried : List (Nat × Instr × Nat) := [(0, .aload_n 0, 1), (1, .iconst 0, 1), (2, .putfield 404, 3), (5, .aload_n 0, 1), (6, .iconst 0, 1), (7, .putfield 407, 3), (10, .aload_n 0, 1), (11, .iconst 0, 1), (12, .putfield 410, 3), (15, .aload_n 0, 1), (16, .iconst 0, 1), (17, .putfield 413, 3), (20, .aload_n 0, 1), (21, .iconst (-1), 1), (22, .putfield 416, 3), (25, .return_, 1)]
theorem dt_X10_plainTried : dOk cX10_plainTried tb_X10_plainTried = true := by decide +kernel
def fX10_plainTried (h : Hp) : Option (Hp) := some (uI (uI (uI (uI (uI h 107 68 (0 : Int32)) 107 69 (0 : Int32)) 107 70 (0 : Int32)) 107 71 (0 : Int32)) 107 72 (-1 : Int32))
set_option maxRecDepth 100000 in
set_option maxHeartbeats 4000000 in
theorem c_X10_plainTried {l : Launch} {sb : State} {D : va_G} {ids : Nat → ClassId} {n : Nat} (hN : 152 ≤ n) (h : Hp) (r : Hp) (hr : fX10_plainTried h = some r) : jM l yX10_plainTried cX10_plainTried 1 none 0 sb D ids shp St n [.ref 107] h (jQv sb D ids shp St n r) := by
  refine jM_of hr rfl (Nat.le_of_ble_eq_true rfl) ?_
  intro p e s m args below meth c hC hret
  unfold fX10_plainTried
  refine j_aload_n hC 0 rfl rfl (dOk_at dt_X10_plainTried 0 rfl) ?_
  refine j_iconst hC (v := (0 : Int32)) rfl (dOk_at dt_X10_plainTried 1 rfl) ?_
  refine j_putZ hC St_SP flX10_404 (show shp 107 = (10, 88) from rfl) (Nat.lt_of_lt_of_le (Nat.le_of_ble_eq_true rfl : 107 < 152) hN) (by decide) (by decide) rfl rfl rfl (dOk_at dt_X10_plainTried 2 rfl) ?_
  refine j_aload_n hC 0 rfl rfl (dOk_at dt_X10_plainTried 3 rfl) ?_
  refine j_iconst hC (v := (0 : Int32)) rfl (dOk_at dt_X10_plainTried 4 rfl) ?_
  refine j_putZ hC St_SP flX10_407 (show shp 107 = (10, 88) from rfl) (Nat.lt_of_lt_of_le (Nat.le_of_ble_eq_true rfl : 107 < 152) hN) (by decide) (by decide) rfl rfl rfl (dOk_at dt_X10_plainTried 5 rfl) ?_
  refine j_aload_n hC 0 rfl rfl (dOk_at dt_X10_plainTried 6 rfl) ?_
  refine j_iconst hC (v := (0 : Int32)) rfl (dOk_at dt_X10_plainTried 7 rfl) ?_
  refine j_putZ hC St_SP flX10_410 (show shp 107 = (10, 88) from rfl) (Nat.lt_of_lt_of_le (Nat.le_of_ble_eq_true rfl : 107 < 152) hN) (by decide) (by decide) rfl rfl rfl (dOk_at dt_X10_plainTried 8 rfl) ?_
  refine j_aload_n hC 0 rfl rfl (dOk_at dt_X10_plainTried 9 rfl) ?_
  refine j_iconst hC (v := (0 : Int32)) rfl (dOk_at dt_X10_plainTried 10 rfl) ?_
  refine j_putZ hC St_SP flX10_413 (show shp 107 = (10, 88) from rfl) (Nat.lt_of_lt_of_le (Nat.le_of_ble_eq_true rfl : 107 < 152) hN) (by decide) (by decide) rfl rfl rfl (dOk_at dt_X10_plainTried 11 rfl) ?_
  refine j_aload_n hC 0 rfl rfl (dOk_at dt_X10_plainTried 12 rfl) ?_
  refine j_iconst hC (v := (-1 : Int32)) rfl (dOk_at dt_X10_plainTried 13 rfl) ?_
  refine j_putI hC St_SP flX10_416 (show shp 107 = (10, 88) from rfl) (Nat.lt_of_lt_of_le (Nat.le_of_ble_eq_true rfl : 107 < 152) hN) (by decide) (by decide) rfl rfl (dOk_at dt_X10_plainTried 14 rfl) ?_
  exact j_vret hC hret (dOk_at dt_X10_plainTried 15 rfl)
def tb_X10_begin : List (Nat × Instr × Nat) := [(0, .aload_n 0, 1), (1, .iconst 0, 1), (2, .invokevirtual 385, 3), (5, .aload_n 0, 1), (6, .aload_n 0, 1), (7, .getfield 24, 3), (10, .iconst 1, 1), (11, .iaload, 1), (12, .i2l, 1), (13, .putfield 388, 3), (16, .aload_n 0, 1), (17, .invokevirtual 392, 3), (20, .aload_n 0, 1), (21, .iconst 0, 1), (22, .putfield 395, 3), (25, .aload_n 0, 1), (26, .iconst (-1), 1), (27, .putfield 133, 3), (30, .aload_n 0, 1), (31, .iconst 0, 1), (32, .putfield 398, 3), (35, .aload_n 0, 1), (36, .iconst 0, 1), (37, .putfield 401, 3), (40, .return_, 1)]
theorem dt_X10_begin : dOk cX10_begin tb_X10_begin = true := by decide +kernel
def fX10_begin (h : Hp) : Option (Hp) := (fX10_atFirst h (0 : Int32)).bind (fun h_2 => if inb (1 : Int32) 4 then ((fX10_plainTried (uJ h_2 107 67 (Int32.toInt64 (hI h_2 111 (Int32.toNatClampNeg (1 : Int32)))))).bind (fun h_4 => some (uI (uI (uI (uI h_4 107 76 (0 : Int32)) 107 77 (-1 : Int32)) 107 80 (0 : Int32)) 107 82 (0 : Int32)))) else none)
set_option maxRecDepth 100000 in
set_option maxHeartbeats 4000000 in
theorem c_X10_begin {l : Launch} {sb : State} {D : va_G} {ids : Nat → ClassId} {n : Nat} (hN : 152 ≤ n) (h : Hp) (r : Hp) (hr : fX10_begin h = some r) : jM l yX10_begin cX10_begin 1 none 1 sb D ids shp St n [.ref 107] h (jQv sb D ids shp St n r) := by
  refine jM_of hr rfl (Nat.le_of_ble_eq_true rfl) ?_
  intro p e s m args below meth c hC hret
  unfold fX10_begin
  refine j_aload_n hC 0 rfl rfl (dOk_at dt_X10_begin 0 rfl) ?_
  refine j_iconst hC (v := (0 : Int32)) rfl (dOk_at dt_X10_begin 1 rfl) ?_
  refine j_callVv hC clX10_385 (fun rz hrz => c_X10_atFirst hN _ _ rz hrz) (show shp 107 = (10, 88) from rfl) (Nat.lt_of_lt_of_le (Nat.le_of_ble_eq_true rfl : 107 < 152) hN) (by decide) rfl rfl ⟨Nat.le_of_ble_eq_true rfl, Nat.le_of_ble_eq_true rfl⟩ ⟨Nat.le_refl 0, Nat.le_refl 0⟩ (As := [.int (0 : Int32)]) (st := []) rfl (Nat.le_of_ble_eq_true rfl) (dOk_at dt_X10_begin 2 rfl) (fun h_2 _ => ?_)
  refine j_aload_n hC 0 rfl rfl (dOk_at dt_X10_begin 3 rfl) ?_
  refine j_aload_n hC 0 rfl rfl (dOk_at dt_X10_begin 4 rfl) ?_
  refine j_getR hC flX10_24 (show shp 107 = (10, 88) from rfl) (Nat.lt_of_lt_of_le (Nat.le_of_ble_eq_true rfl : 107 < 152) hN) (by decide) (by decide) (fun _ _ _ => rfl) (fun hs => hs 107 27 111 rfl) (dOk_at dt_X10_begin 5 rfl) ?_
  refine j_iconst hC (v := (1 : Int32)) rfl (dOk_at dt_X10_begin 6 rfl) ?_
  refine j_iald hC (show shp 111 = (21, 4) from rfl) (Nat.lt_of_lt_of_le (Nat.le_of_ble_eq_true rfl : 111 < 152) hN) (dOk_at dt_X10_begin 7 rfl) ?_
  refine j_i2l hC (dOk_at dt_X10_begin 8 rfl) ?_
  refine j_putJ hC St_SP flX10_388 (show shp 107 = (10, 88) from rfl) (Nat.lt_of_lt_of_le (Nat.le_of_ble_eq_true rfl : 107 < 152) hN) (by decide) (by decide) rfl rfl (dOk_at dt_X10_begin 9 rfl) ?_
  refine j_aload_n hC 0 rfl rfl (dOk_at dt_X10_begin 10 rfl) ?_
  refine j_callVv hC clX10_392 (fun rz hrz => c_X10_plainTried hN _ rz hrz) (show shp 107 = (10, 88) from rfl) (Nat.lt_of_lt_of_le (Nat.le_of_ble_eq_true rfl : 107 < 152) hN) (by decide) rfl rfl ⟨Nat.le_of_ble_eq_true rfl, Nat.le_of_ble_eq_true rfl⟩ ⟨Nat.le_refl 0, Nat.le_refl 0⟩ (As := []) (st := []) rfl (Nat.le_of_ble_eq_true rfl) (dOk_at dt_X10_begin 11 rfl) (fun h_4 _ => ?_)
  refine j_aload_n hC 0 rfl rfl (dOk_at dt_X10_begin 12 rfl) ?_
  refine j_iconst hC (v := (0 : Int32)) rfl (dOk_at dt_X10_begin 13 rfl) ?_
  refine j_putI hC St_SP flX10_395 (show shp 107 = (10, 88) from rfl) (Nat.lt_of_lt_of_le (Nat.le_of_ble_eq_true rfl : 107 < 152) hN) (by decide) (by decide) rfl rfl (dOk_at dt_X10_begin 14 rfl) ?_
  refine j_aload_n hC 0 rfl rfl (dOk_at dt_X10_begin 15 rfl) ?_
  refine j_iconst hC (v := (-1 : Int32)) rfl (dOk_at dt_X10_begin 16 rfl) ?_
  refine j_putI hC St_SP flX10_133 (show shp 107 = (10, 88) from rfl) (Nat.lt_of_lt_of_le (Nat.le_of_ble_eq_true rfl : 107 < 152) hN) (by decide) (by decide) rfl rfl (dOk_at dt_X10_begin 17 rfl) ?_
  refine j_aload_n hC 0 rfl rfl (dOk_at dt_X10_begin 18 rfl) ?_
  refine j_iconst hC (v := (0 : Int32)) rfl (dOk_at dt_X10_begin 19 rfl) ?_
  refine j_putI hC St_SP flX10_398 (show shp 107 = (10, 88) from rfl) (Nat.lt_of_lt_of_le (Nat.le_of_ble_eq_true rfl : 107 < 152) hN) (by decide) (by decide) rfl rfl (dOk_at dt_X10_begin 20 rfl) ?_
  refine j_aload_n hC 0 rfl rfl (dOk_at dt_X10_begin 21 rfl) ?_
  refine j_iconst hC (v := (0 : Int32)) rfl (dOk_at dt_X10_begin 22 rfl) ?_
  refine j_putZ hC St_SP flX10_401 (show shp 107 = (10, 88) from rfl) (Nat.lt_of_lt_of_le (Nat.le_of_ble_eq_true rfl : 107 < 152) hN) (by decide) (by decide) rfl rfl rfl (dOk_at dt_X10_begin 23 rfl) ?_
  exact j_vret hC hret (dOk_at dt_X10_begin 24 rfl)
def tb_X10_keepText : List (Nat × Instr × Nat) := [(0, .aload_n 0, 1), (1, .aload_n 0, 1), (2, .getfield 219, 3), (5, .putfield 243, 3), (8, .aload_n 0, 1), (9, .aload_n 0, 1), (10, .getfield 222, 3), (13, .putfield 246, 3), (16, .aload_n 0, 1), (17, .aload_n 0, 1), (18, .getfield 225, 3), (21, .putfield 249, 3), (24, .aload_n 0, 1), (25, .aload_n 0, 1), (26, .getfield 228, 3), (29, .putfield 252, 3), (32, .aload_n 0, 1), (33, .aload_n 0, 1), (34, .getfield 231, 3), (37, .putfield 255, 3), (40, .aload_n 0, 1), (41, .aload_n 0, 1), (42, .getfield 234, 3), (45, .putfield 258, 3), (48, .aload_n 0, 1), (49, .aload_n 0, 1), (50, .getfield 237, 3), (53, .putfield 261, 3), (56, .aload_n 0, 1), (57, .getfield 24, 3), (60, .iconst 2, 1), (61, .invokestatic 264, 3), (64, .aload_n 0, 1), (65, .getfield 27, 3), (68, .bipush 8, 2), (70, .invokestatic 264, 3), (73, .aload_n 0, 1), (74, .getfield 30, 3), (77, .bipush 8, 2), (79, .invokestatic 264, 3), (82, .aload_n 0, 1), (83, .getfield 33, 3), (86, .bipush 8, 2), (88, .invokestatic 264, 3), (91, .aload_n 0, 1), (92, .getfield 36, 3), (95, .bipush 16, 2), (97, .invokestatic 264, 3), (100, .aload_n 0, 1), (101, .getfield 39, 3), (104, .bipush 16, 2), (106, .invokestatic 264, 3), (109, .aload_n 0, 1), (110, .getfield 42, 3), (113, .iconst 5, 1), (114, .invokestatic 264, 3), (117, .aload_n 0, 1), (118, .getfield 45, 3), (121, .iconst 5, 1), (122, .invokestatic 264, 3), (125, .aload_n 0, 1), (126, .getfield 48, 3), (129, .iconst 5, 1), (130, .invokestatic 264, 3), (133, .aload_n 0, 1), (134, .getfield 51, 3), (137, .iconst 5, 1), (138, .invokestatic 264, 3), (141, .aload_n 0, 1), (142, .getfield 54, 3), (145, .iconst 5, 1), (146, .invokestatic 264, 3), (149, .aload_n 0, 1), (150, .getfield 57, 3), (153, .bipush 12, 2), (155, .invokestatic 264, 3), (158, .aload_n 0, 1), (159, .getfield 60, 3), (162, .bipush 12, 2), (164, .invokestatic 264, 3), (167, .aload_n 0, 1), (168, .getfield 63, 3), (171, .bipush 12, 2), (173, .invokestatic 264, 3), (176, .aload_n 0, 1), (177, .getfield 66, 3), (180, .bipush 6, 2), (182, .invokestatic 264, 3), (185, .aload_n 0, 1), (186, .getfield 69, 3), (189, .bipush 6, 2), (191, .invokestatic 264, 3), (194, .iconst 0, 1), (195, .istore_n 1, 1), (196, .iload_n 1, 1), (197, .iconst 3, 1), (198, .if_icmp .ge 23, 3), (201, .aload_n 0, 1), (202, .getfield 72, 3), (205, .iload_n 1, 1), (206, .aload_n 0, 1), (207, .getfield 72, 3), (210, .iconst 3, 1), (211, .iload_n 1, 1), (212, .iadd, 1), (213, .baload, 1), (214, .bastore, 1), (215, .iinc 1 1, 3), (218, .goto (-22), 3), (221, .aload_n 0, 1), (222, .getfield 75, 3), (225, .iconst 3, 1), (226, .invokestatic 264, 3), (229, .aload_n 0, 1), (230, .getfield 78, 3), (233, .iconst 3, 1), (234, .invokestatic 264, 3), (237, .aload_n 0, 1), (238, .getfield 81, 3), (241, .bipush 64, 2), (243, .invokestatic 264, 3), (246, .aload_n 0, 1), (247, .getfield 84, 3), (250, .bipush 64, 2), (252, .invokestatic 264, 3), (255, .aload_n 0, 1), (256, .getfield 87, 3), (259, .bipush 64, 2), (261, .invokestatic 264, 3), (264, .aload_n 0, 1), (265, .invokevirtual 268, 3), (268, .return_, 1)]
theorem dt_X10_keepText : dOk cX10_keepText tb_X10_keepText = true := by decide +kernel
def fX10_keepText_196 : Nat → Hp → Int32 → Option (Hp)
  | 0, _, _ => none
  | fu + 1, h, x1 => if (3 : Int32) ≤ x1 then ((fX10_copies 128 6 h (3 : Int32)).bind (fun h_35 => (fX10_copies 129 6 h_35 (3 : Int32)).bind (fun h_37 => (fX10_copies 130 128 h_37 (64 : Int32)).bind (fun h_39 => (fX10_copies 131 128 h_39 (64 : Int32)).bind (fun h_41 => (fX10_copies 132 128 h_41 (64 : Int32)).bind (fun h_43 => (fX10_begin h_43).bind (fun h_45 => some h_45))))))) else (if inb ((3 : Int32) + x1) 6 then (if isZ (hI h 127 (Int32.toNatClampNeg ((3 : Int32) + x1))) then (if inb x1 6 then ((fX10_keepText_196 fu) (uI h 127 (Int32.toNatClampNeg x1) (hI h 127 (Int32.toNatClampNeg ((3 : Int32) + x1)))) (x1 + (1 : Int32))) else none) else none) else none)
def fX10_keepText (h : Hp) : Option (Hp) := (fX10_copies 111 4 (uI (uI (uI (uI (uI (uI (uI h 107 12 (hI h 107 19)) 107 13 (hI (uI h 107 12 (hI h 107 19)) 107 20)) 107 14 (hI (uI (uI h 107 12 (hI h 107 19)) 107 13 (hI (uI h 107 12 (hI h 107 19)) 107 20)) 107 21)) 107 15 (hI (uI (uI (uI h 107 12 (hI h 107 19)) 107 13 (hI (uI h 107 12 (hI h 107 19)) 107 20)) 107 14 (hI (uI (uI h 107 12 (hI h 107 19)) 107 13 (hI (uI h 107 12 (hI h 107 19)) 107 20)) 107 21)) 107 22)) 107 16 (hI (uI (uI (uI (uI h 107 12 (hI h 107 19)) 107 13 (hI (uI h 107 12 (hI h 107 19)) 107 20)) 107 14 (hI (uI (uI h 107 12 (hI h 107 19)) 107 13 (hI (uI h 107 12 (hI h 107 19)) 107 20)) 107 21)) 107 15 (hI (uI (uI (uI h 107 12 (hI h 107 19)) 107 13 (hI (uI h 107 12 (hI h 107 19)) 107 20)) 107 14 (hI (uI (uI h 107 12 (hI h 107 19)) 107 13 (hI (uI h 107 12 (hI h 107 19)) 107 20)) 107 21)) 107 22)) 107 23)) 107 17 (hI (uI (uI (uI (uI (uI h 107 12 (hI h 107 19)) 107 13 (hI (uI h 107 12 (hI h 107 19)) 107 20)) 107 14 (hI (uI (uI h 107 12 (hI h 107 19)) 107 13 (hI (uI h 107 12 (hI h 107 19)) 107 20)) 107 21)) 107 15 (hI (uI (uI (uI h 107 12 (hI h 107 19)) 107 13 (hI (uI h 107 12 (hI h 107 19)) 107 20)) 107 14 (hI (uI (uI h 107 12 (hI h 107 19)) 107 13 (hI (uI h 107 12 (hI h 107 19)) 107 20)) 107 21)) 107 22)) 107 16 (hI (uI (uI (uI (uI h 107 12 (hI h 107 19)) 107 13 (hI (uI h 107 12 (hI h 107 19)) 107 20)) 107 14 (hI (uI (uI h 107 12 (hI h 107 19)) 107 13 (hI (uI h 107 12 (hI h 107 19)) 107 20)) 107 21)) 107 15 (hI (uI (uI (uI h 107 12 (hI h 107 19)) 107 13 (hI (uI h 107 12 (hI h 107 19)) 107 20)) 107 14 (hI (uI (uI h 107 12 (hI h 107 19)) 107 13 (hI (uI h 107 12 (hI h 107 19)) 107 20)) 107 21)) 107 22)) 107 23)) 107 24)) 107 18 (hI (uI (uI (uI (uI (uI (uI h 107 12 (hI h 107 19)) 107 13 (hI (uI h 107 12 (hI h 107 19)) 107 20)) 107 14 (hI (uI (uI h 107 12 (hI h 107 19)) 107 13 (hI (uI h 107 12 (hI h 107 19)) 107 20)) 107 21)) 107 15 (hI (uI (uI (uI h 107 12 (hI h 107 19)) 107 13 (hI (uI h 107 12 (hI h 107 19)) 107 20)) 107 14 (hI (uI (uI h 107 12 (hI h 107 19)) 107 13 (hI (uI h 107 12 (hI h 107 19)) 107 20)) 107 21)) 107 22)) 107 16 (hI (uI (uI (uI (uI h 107 12 (hI h 107 19)) 107 13 (hI (uI h 107 12 (hI h 107 19)) 107 20)) 107 14 (hI (uI (uI h 107 12 (hI h 107 19)) 107 13 (hI (uI h 107 12 (hI h 107 19)) 107 20)) 107 21)) 107 15 (hI (uI (uI (uI h 107 12 (hI h 107 19)) 107 13 (hI (uI h 107 12 (hI h 107 19)) 107 20)) 107 14 (hI (uI (uI h 107 12 (hI h 107 19)) 107 13 (hI (uI h 107 12 (hI h 107 19)) 107 20)) 107 21)) 107 22)) 107 23)) 107 17 (hI (uI (uI (uI (uI (uI h 107 12 (hI h 107 19)) 107 13 (hI (uI h 107 12 (hI h 107 19)) 107 20)) 107 14 (hI (uI (uI h 107 12 (hI h 107 19)) 107 13 (hI (uI h 107 12 (hI h 107 19)) 107 20)) 107 21)) 107 15 (hI (uI (uI (uI h 107 12 (hI h 107 19)) 107 13 (hI (uI h 107 12 (hI h 107 19)) 107 20)) 107 14 (hI (uI (uI h 107 12 (hI h 107 19)) 107 13 (hI (uI h 107 12 (hI h 107 19)) 107 20)) 107 21)) 107 22)) 107 16 (hI (uI (uI (uI (uI h 107 12 (hI h 107 19)) 107 13 (hI (uI h 107 12 (hI h 107 19)) 107 20)) 107 14 (hI (uI (uI h 107 12 (hI h 107 19)) 107 13 (hI (uI h 107 12 (hI h 107 19)) 107 20)) 107 21)) 107 15 (hI (uI (uI (uI h 107 12 (hI h 107 19)) 107 13 (hI (uI h 107 12 (hI h 107 19)) 107 20)) 107 14 (hI (uI (uI h 107 12 (hI h 107 19)) 107 13 (hI (uI h 107 12 (hI h 107 19)) 107 20)) 107 21)) 107 22)) 107 23)) 107 24)) 107 25)) (2 : Int32)).bind (fun h_2 => (fX10_copies 112 16 h_2 (8 : Int32)).bind (fun h_4 => (fX10_copies 113 16 h_4 (8 : Int32)).bind (fun h_6 => (fX10_copies 114 16 h_6 (8 : Int32)).bind (fun h_8 => (fX10_copies 115 32 h_8 (16 : Int32)).bind (fun h_10 => (fX10_copies 116 32 h_10 (16 : Int32)).bind (fun h_12 => (fX10_copies 117 10 h_12 (5 : Int32)).bind (fun h_14 => (fX10_copies 118 10 h_14 (5 : Int32)).bind (fun h_16 => (fX10_copies 119 10 h_16 (5 : Int32)).bind (fun h_18 => (fX10_copies 120 10 h_18 (5 : Int32)).bind (fun h_20 => (fX10_copies 121 10 h_20 (5 : Int32)).bind (fun h_22 => (fX10_copies 122 24 h_22 (12 : Int32)).bind (fun h_24 => (fX10_copies 123 24 h_24 (12 : Int32)).bind (fun h_26 => (fX10_copies 124 24 h_26 (12 : Int32)).bind (fun h_28 => (fX10_copies 125 12 h_28 (6 : Int32)).bind (fun h_30 => (fX10_copies 126 12 h_30 (6 : Int32)).bind (fun h_32 => fX10_keepText_196 FU h_32 (0 : Int32)))))))))))))))))
set_option maxRecDepth 100000 in
set_option maxHeartbeats 4000000 in
theorem c_X10_keepText {l : Launch} {sb : State} {D : va_G} {ids : Nat → ClassId} {n : Nat} (hN : 152 ≤ n) (h : Hp) (r : Hp) (hr : fX10_keepText h = some r) : jM l yX10_keepText cX10_keepText 2 none 2 sb D ids shp St n [.ref 107] h (jQv sb D ids shp St n r) := by
  refine jM_of hr rfl (Nat.le_of_ble_eq_true rfl) ?_
  intro p e s m args below meth c hC hret
  have b196 : ∀ (fu : Nat) (h : Hp) (x1 : Int32) , jJ p l e (rmD 2) s m args below meth c 2 sb D ids shp St (fun r => MQ below (jQv sb D ids shp St n r) args s 0 0 (jA sb)) n 0 0 h 196 [(0, .ref 107), (1, .int x1)] [] (fX10_keepText_196 fu h x1) := by
    intro fu 
    induction fu with
    | zero => intro h x1 ; exact j_none
    | succ fu ih =>
    intro h x1 
    rw [fX10_keepText_196]
    refine j_iload_n hC 1 rfl rfl (dOk_at dt_X10_keepText 94 rfl) ?_
    refine j_iconst hC (v := (3 : Int32)) rfl (dOk_at dt_X10_keepText 95 rfl) ?_
    refine j_icmp_ge hC (tgt := 221) (by decide) (dOk_at dt_X10_keepText 96 rfl) (fun q_33 => ?_) (fun q_33 => ?_)
    · refine j_aload_n hC 0 rfl rfl (dOk_at dt_X10_keepText 109 rfl) ?_
      refine j_getR hC flX10_75 (show shp 107 = (10, 88) from rfl) (Nat.lt_of_lt_of_le (Nat.le_of_ble_eq_true rfl : 107 < 152) hN) (by decide) (by decide) (fun _ _ _ => rfl) (fun hs => hs 107 44 128 rfl) (dOk_at dt_X10_keepText 110 rfl) ?_
      refine j_iconst hC (v := (3 : Int32)) rfl (dOk_at dt_X10_keepText 111 rfl) ?_
      refine j_callSv hC clX10_264 (fun rz hrz => c_X10_copies hN ((show shp 128 = (21, 6) from rfl)) _ _ rz hrz) rfl ⟨Nat.le_of_ble_eq_true rfl, Nat.le_of_ble_eq_true rfl⟩ ⟨Nat.le_refl 0, Nat.le_refl 0⟩ (As := [.ref 128, .int (3 : Int32)]) (st := []) rfl (Nat.le_of_ble_eq_true rfl) (dOk_at dt_X10_keepText 112 rfl) (fun h_35 _ => ?_)
      refine j_aload_n hC 0 rfl rfl (dOk_at dt_X10_keepText 113 rfl) ?_
      refine j_getR hC flX10_78 (show shp 107 = (10, 88) from rfl) (Nat.lt_of_lt_of_le (Nat.le_of_ble_eq_true rfl : 107 < 152) hN) (by decide) (by decide) (fun _ _ _ => rfl) (fun hs => hs 107 45 129 rfl) (dOk_at dt_X10_keepText 114 rfl) ?_
      refine j_iconst hC (v := (3 : Int32)) rfl (dOk_at dt_X10_keepText 115 rfl) ?_
      refine j_callSv hC clX10_264 (fun rz hrz => c_X10_copies hN ((show shp 129 = (21, 6) from rfl)) _ _ rz hrz) rfl ⟨Nat.le_of_ble_eq_true rfl, Nat.le_of_ble_eq_true rfl⟩ ⟨Nat.le_refl 0, Nat.le_refl 0⟩ (As := [.ref 129, .int (3 : Int32)]) (st := []) rfl (Nat.le_of_ble_eq_true rfl) (dOk_at dt_X10_keepText 116 rfl) (fun h_37 _ => ?_)
      refine j_aload_n hC 0 rfl rfl (dOk_at dt_X10_keepText 117 rfl) ?_
      refine j_getR hC flX10_81 (show shp 107 = (10, 88) from rfl) (Nat.lt_of_lt_of_le (Nat.le_of_ble_eq_true rfl : 107 < 152) hN) (by decide) (by decide) (fun _ _ _ => rfl) (fun hs => hs 107 46 130 rfl) (dOk_at dt_X10_keepText 118 rfl) ?_
      refine j_bipush hC (v := (64 : Int32)) rfl (dOk_at dt_X10_keepText 119 rfl) ?_
      refine j_callSv hC clX10_264 (fun rz hrz => c_X10_copies hN ((show shp 130 = (21, 128) from rfl)) _ _ rz hrz) rfl ⟨Nat.le_of_ble_eq_true rfl, Nat.le_of_ble_eq_true rfl⟩ ⟨Nat.le_refl 0, Nat.le_refl 0⟩ (As := [.ref 130, .int (64 : Int32)]) (st := []) rfl (Nat.le_of_ble_eq_true rfl) (dOk_at dt_X10_keepText 120 rfl) (fun h_39 _ => ?_)
      refine j_aload_n hC 0 rfl rfl (dOk_at dt_X10_keepText 121 rfl) ?_
      refine j_getR hC flX10_84 (show shp 107 = (10, 88) from rfl) (Nat.lt_of_lt_of_le (Nat.le_of_ble_eq_true rfl : 107 < 152) hN) (by decide) (by decide) (fun _ _ _ => rfl) (fun hs => hs 107 47 131 rfl) (dOk_at dt_X10_keepText 122 rfl) ?_
      refine j_bipush hC (v := (64 : Int32)) rfl (dOk_at dt_X10_keepText 123 rfl) ?_
      refine j_callSv hC clX10_264 (fun rz hrz => c_X10_copies hN ((show shp 131 = (21, 128) from rfl)) _ _ rz hrz) rfl ⟨Nat.le_of_ble_eq_true rfl, Nat.le_of_ble_eq_true rfl⟩ ⟨Nat.le_refl 0, Nat.le_refl 0⟩ (As := [.ref 131, .int (64 : Int32)]) (st := []) rfl (Nat.le_of_ble_eq_true rfl) (dOk_at dt_X10_keepText 124 rfl) (fun h_41 _ => ?_)
      refine j_aload_n hC 0 rfl rfl (dOk_at dt_X10_keepText 125 rfl) ?_
      refine j_getR hC flX10_87 (show shp 107 = (10, 88) from rfl) (Nat.lt_of_lt_of_le (Nat.le_of_ble_eq_true rfl : 107 < 152) hN) (by decide) (by decide) (fun _ _ _ => rfl) (fun hs => hs 107 48 132 rfl) (dOk_at dt_X10_keepText 126 rfl) ?_
      refine j_bipush hC (v := (64 : Int32)) rfl (dOk_at dt_X10_keepText 127 rfl) ?_
      refine j_callSv hC clX10_264 (fun rz hrz => c_X10_copies hN ((show shp 132 = (21, 128) from rfl)) _ _ rz hrz) rfl ⟨Nat.le_of_ble_eq_true rfl, Nat.le_of_ble_eq_true rfl⟩ ⟨Nat.le_refl 0, Nat.le_refl 0⟩ (As := [.ref 132, .int (64 : Int32)]) (st := []) rfl (Nat.le_of_ble_eq_true rfl) (dOk_at dt_X10_keepText 128 rfl) (fun h_43 _ => ?_)
      refine j_aload_n hC 0 rfl rfl (dOk_at dt_X10_keepText 129 rfl) ?_
      refine j_callVv hC clX10_268 (fun rz hrz => c_X10_begin hN _ rz hrz) (show shp 107 = (10, 88) from rfl) (Nat.lt_of_lt_of_le (Nat.le_of_ble_eq_true rfl : 107 < 152) hN) (by decide) rfl rfl ⟨Nat.le_of_ble_eq_true rfl, Nat.le_of_ble_eq_true rfl⟩ ⟨Nat.le_refl 0, Nat.le_refl 0⟩ (As := []) (st := []) rfl (Nat.le_of_ble_eq_true rfl) (dOk_at dt_X10_keepText 130 rfl) (fun h_45 _ => ?_)
      exact j_vret hC hret (dOk_at dt_X10_keepText 131 rfl)
    · refine j_aload_n hC 0 rfl rfl (dOk_at dt_X10_keepText 97 rfl) ?_
      refine j_getR hC flX10_72 (show shp 107 = (10, 88) from rfl) (Nat.lt_of_lt_of_le (Nat.le_of_ble_eq_true rfl : 107 < 152) hN) (by decide) (by decide) (fun _ _ _ => rfl) (fun hs => hs 107 43 127 rfl) (dOk_at dt_X10_keepText 98 rfl) ?_
      refine j_iload_n hC 1 rfl rfl (dOk_at dt_X10_keepText 99 rfl) ?_
      refine j_aload_n hC 0 rfl rfl (dOk_at dt_X10_keepText 100 rfl) ?_
      refine j_getR hC flX10_72 (show shp 107 = (10, 88) from rfl) (Nat.lt_of_lt_of_le (Nat.le_of_ble_eq_true rfl : 107 < 152) hN) (by decide) (by decide) (fun _ _ _ => rfl) (fun hs => hs 107 43 127 rfl) (dOk_at dt_X10_keepText 101 rfl) ?_
      refine j_iconst hC (v := (3 : Int32)) rfl (dOk_at dt_X10_keepText 102 rfl) ?_
      refine j_iload_n hC 1 rfl rfl (dOk_at dt_X10_keepText 103 rfl) ?_
      refine j_iadd hC (dOk_at dt_X10_keepText 104 rfl) ?_
      refine j_zald hC (show shp 127 = (23, 6) from rfl) (Nat.lt_of_lt_of_le (Nat.le_of_ble_eq_true rfl : 127 < 152) hN) (dOk_at dt_X10_keepText 105 rfl) ?_
      refine j_ite (P := isZ (hI h 127 (Int32.toNatClampNeg ((3 : Int32) + x1))) = true) (fun hz_46 => ?_) (fun _ => j_none)
      refine j_zast hC St_SP (show shp 127 = (23, 6) from rfl) (Nat.lt_of_lt_of_le (Nat.le_of_ble_eq_true rfl : 127 < 152) hN) hz_46 (dOk_at dt_X10_keepText 106 rfl) ?_
      refine j_iinc hC (v := (x1 + (1 : Int32))) (lv' := [(1, .int (x1 + (1 : Int32))), (0, .ref 107)]) 1 rfl (congrArg (fun z => x1 + z) (show Int32.ofInt (1) = (1 : Int32) from by decide)) (by decide) rfl (dOk_at dt_X10_keepText 107 rfl) ?_
      refine j_goto hC (tgt := 196) (by decide) (dOk_at dt_X10_keepText 108 rfl) ?_
      refine j_sub [1, 0] rfl ?_
      exact ih (uI h 127 (Int32.toNatClampNeg x1) (hI h 127 (Int32.toNatClampNeg ((3 : Int32) + x1)))) (x1 + (1 : Int32)) 
  unfold fX10_keepText
  refine j_aload_n hC 0 rfl rfl (dOk_at dt_X10_keepText 0 rfl) ?_
  refine j_aload_n hC 0 rfl rfl (dOk_at dt_X10_keepText 1 rfl) ?_
  refine j_getI hC flX10_219 (show shp 107 = (10, 88) from rfl) (Nat.lt_of_lt_of_le (Nat.le_of_ble_eq_true rfl : 107 < 152) hN) (by decide) (by decide) (fun _ _ _ => rfl) (dOk_at dt_X10_keepText 2 rfl) ?_
  refine j_putI hC St_SP flX10_243 (show shp 107 = (10, 88) from rfl) (Nat.lt_of_lt_of_le (Nat.le_of_ble_eq_true rfl : 107 < 152) hN) (by decide) (by decide) rfl rfl (dOk_at dt_X10_keepText 3 rfl) ?_
  refine j_aload_n hC 0 rfl rfl (dOk_at dt_X10_keepText 4 rfl) ?_
  refine j_aload_n hC 0 rfl rfl (dOk_at dt_X10_keepText 5 rfl) ?_
  refine j_getI hC flX10_222 (show shp 107 = (10, 88) from rfl) (Nat.lt_of_lt_of_le (Nat.le_of_ble_eq_true rfl : 107 < 152) hN) (by decide) (by decide) (fun _ _ _ => rfl) (dOk_at dt_X10_keepText 6 rfl) ?_
  refine j_putI hC St_SP flX10_246 (show shp 107 = (10, 88) from rfl) (Nat.lt_of_lt_of_le (Nat.le_of_ble_eq_true rfl : 107 < 152) hN) (by decide) (by decide) rfl rfl (dOk_at dt_X10_keepText 7 rfl) ?_
  refine j_aload_n hC 0 rfl rfl (dOk_at dt_X10_keepText 8 rfl) ?_
  refine j_aload_n hC 0 rfl rfl (dOk_at dt_X10_keepText 9 rfl) ?_
  refine j_getI hC flX10_225 (show shp 107 = (10, 88) from rfl) (Nat.lt_of_lt_of_le (Nat.le_of_ble_eq_true rfl : 107 < 152) hN) (by decide) (by decide) (fun _ _ _ => rfl) (dOk_at dt_X10_keepText 10 rfl) ?_
  refine j_putI hC St_SP flX10_249 (show shp 107 = (10, 88) from rfl) (Nat.lt_of_lt_of_le (Nat.le_of_ble_eq_true rfl : 107 < 152) hN) (by decide) (by decide) rfl rfl (dOk_at dt_X10_keepText 11 rfl) ?_
  refine j_aload_n hC 0 rfl rfl (dOk_at dt_X10_keepText 12 rfl) ?_
  refine j_aload_n hC 0 rfl rfl (dOk_at dt_X10_keepText 13 rfl) ?_
  refine j_getI hC flX10_228 (show shp 107 = (10, 88) from rfl) (Nat.lt_of_lt_of_le (Nat.le_of_ble_eq_true rfl : 107 < 152) hN) (by decide) (by decide) (fun _ _ _ => rfl) (dOk_at dt_X10_keepText 14 rfl) ?_
  refine j_putI hC St_SP flX10_252 (show shp 107 = (10, 88) from rfl) (Nat.lt_of_lt_of_le (Nat.le_of_ble_eq_true rfl : 107 < 152) hN) (by decide) (by decide) rfl rfl (dOk_at dt_X10_keepText 15 rfl) ?_
  refine j_aload_n hC 0 rfl rfl (dOk_at dt_X10_keepText 16 rfl) ?_
  refine j_aload_n hC 0 rfl rfl (dOk_at dt_X10_keepText 17 rfl) ?_
  refine j_getI hC flX10_231 (show shp 107 = (10, 88) from rfl) (Nat.lt_of_lt_of_le (Nat.le_of_ble_eq_true rfl : 107 < 152) hN) (by decide) (by decide) (fun _ _ _ => rfl) (dOk_at dt_X10_keepText 18 rfl) ?_
  refine j_putI hC St_SP flX10_255 (show shp 107 = (10, 88) from rfl) (Nat.lt_of_lt_of_le (Nat.le_of_ble_eq_true rfl : 107 < 152) hN) (by decide) (by decide) rfl rfl (dOk_at dt_X10_keepText 19 rfl) ?_
  refine j_aload_n hC 0 rfl rfl (dOk_at dt_X10_keepText 20 rfl) ?_
  refine j_aload_n hC 0 rfl rfl (dOk_at dt_X10_keepText 21 rfl) ?_
  refine j_getI hC flX10_234 (show shp 107 = (10, 88) from rfl) (Nat.lt_of_lt_of_le (Nat.le_of_ble_eq_true rfl : 107 < 152) hN) (by decide) (by decide) (fun _ _ _ => rfl) (dOk_at dt_X10_keepText 22 rfl) ?_
  refine j_putI hC St_SP flX10_258 (show shp 107 = (10, 88) from rfl) (Nat.lt_of_lt_of_le (Nat.le_of_ble_eq_true rfl : 107 < 152) hN) (by decide) (by decide) rfl rfl (dOk_at dt_X10_keepText 23 rfl) ?_
  refine j_aload_n hC 0 rfl rfl (dOk_at dt_X10_keepText 24 rfl) ?_
  refine j_aload_n hC 0 rfl rfl (dOk_at dt_X10_keepText 25 rfl) ?_
  refine j_getI hC flX10_237 (show shp 107 = (10, 88) from rfl) (Nat.lt_of_lt_of_le (Nat.le_of_ble_eq_true rfl : 107 < 152) hN) (by decide) (by decide) (fun _ _ _ => rfl) (dOk_at dt_X10_keepText 26 rfl) ?_
  refine j_putI hC St_SP flX10_261 (show shp 107 = (10, 88) from rfl) (Nat.lt_of_lt_of_le (Nat.le_of_ble_eq_true rfl : 107 < 152) hN) (by decide) (by decide) rfl rfl (dOk_at dt_X10_keepText 27 rfl) ?_
  refine j_aload_n hC 0 rfl rfl (dOk_at dt_X10_keepText 28 rfl) ?_
  refine j_getR hC flX10_24 (show shp 107 = (10, 88) from rfl) (Nat.lt_of_lt_of_le (Nat.le_of_ble_eq_true rfl : 107 < 152) hN) (by decide) (by decide) (fun _ _ _ => rfl) (fun hs => hs 107 27 111 rfl) (dOk_at dt_X10_keepText 29 rfl) ?_
  refine j_iconst hC (v := (2 : Int32)) rfl (dOk_at dt_X10_keepText 30 rfl) ?_
  refine j_callSv hC clX10_264 (fun rz hrz => c_X10_copies hN ((show shp 111 = (21, 4) from rfl)) _ _ rz hrz) rfl ⟨Nat.le_of_ble_eq_true rfl, Nat.le_of_ble_eq_true rfl⟩ ⟨Nat.le_refl 0, Nat.le_refl 0⟩ (As := [.ref 111, .int (2 : Int32)]) (st := []) rfl (Nat.le_of_ble_eq_true rfl) (dOk_at dt_X10_keepText 31 rfl) (fun h_2 _ => ?_)
  refine j_aload_n hC 0 rfl rfl (dOk_at dt_X10_keepText 32 rfl) ?_
  refine j_getR hC flX10_27 (show shp 107 = (10, 88) from rfl) (Nat.lt_of_lt_of_le (Nat.le_of_ble_eq_true rfl : 107 < 152) hN) (by decide) (by decide) (fun _ _ _ => rfl) (fun hs => hs 107 28 112 rfl) (dOk_at dt_X10_keepText 33 rfl) ?_
  refine j_bipush hC (v := (8 : Int32)) rfl (dOk_at dt_X10_keepText 34 rfl) ?_
  refine j_callSv hC clX10_264 (fun rz hrz => c_X10_copies hN ((show shp 112 = (21, 16) from rfl)) _ _ rz hrz) rfl ⟨Nat.le_of_ble_eq_true rfl, Nat.le_of_ble_eq_true rfl⟩ ⟨Nat.le_refl 0, Nat.le_refl 0⟩ (As := [.ref 112, .int (8 : Int32)]) (st := []) rfl (Nat.le_of_ble_eq_true rfl) (dOk_at dt_X10_keepText 35 rfl) (fun h_4 _ => ?_)
  refine j_aload_n hC 0 rfl rfl (dOk_at dt_X10_keepText 36 rfl) ?_
  refine j_getR hC flX10_30 (show shp 107 = (10, 88) from rfl) (Nat.lt_of_lt_of_le (Nat.le_of_ble_eq_true rfl : 107 < 152) hN) (by decide) (by decide) (fun _ _ _ => rfl) (fun hs => hs 107 29 113 rfl) (dOk_at dt_X10_keepText 37 rfl) ?_
  refine j_bipush hC (v := (8 : Int32)) rfl (dOk_at dt_X10_keepText 38 rfl) ?_
  refine j_callSv hC clX10_264 (fun rz hrz => c_X10_copies hN ((show shp 113 = (21, 16) from rfl)) _ _ rz hrz) rfl ⟨Nat.le_of_ble_eq_true rfl, Nat.le_of_ble_eq_true rfl⟩ ⟨Nat.le_refl 0, Nat.le_refl 0⟩ (As := [.ref 113, .int (8 : Int32)]) (st := []) rfl (Nat.le_of_ble_eq_true rfl) (dOk_at dt_X10_keepText 39 rfl) (fun h_6 _ => ?_)
  refine j_aload_n hC 0 rfl rfl (dOk_at dt_X10_keepText 40 rfl) ?_
  refine j_getR hC flX10_33 (show shp 107 = (10, 88) from rfl) (Nat.lt_of_lt_of_le (Nat.le_of_ble_eq_true rfl : 107 < 152) hN) (by decide) (by decide) (fun _ _ _ => rfl) (fun hs => hs 107 30 114 rfl) (dOk_at dt_X10_keepText 41 rfl) ?_
  refine j_bipush hC (v := (8 : Int32)) rfl (dOk_at dt_X10_keepText 42 rfl) ?_
  refine j_callSv hC clX10_264 (fun rz hrz => c_X10_copies hN ((show shp 114 = (21, 16) from rfl)) _ _ rz hrz) rfl ⟨Nat.le_of_ble_eq_true rfl, Nat.le_of_ble_eq_true rfl⟩ ⟨Nat.le_refl 0, Nat.le_refl 0⟩ (As := [.ref 114, .int (8 : Int32)]) (st := []) rfl (Nat.le_of_ble_eq_true rfl) (dOk_at dt_X10_keepText 43 rfl) (fun h_8 _ => ?_)
  refine j_aload_n hC 0 rfl rfl (dOk_at dt_X10_keepText 44 rfl) ?_
  refine j_getR hC flX10_36 (show shp 107 = (10, 88) from rfl) (Nat.lt_of_lt_of_le (Nat.le_of_ble_eq_true rfl : 107 < 152) hN) (by decide) (by decide) (fun _ _ _ => rfl) (fun hs => hs 107 31 115 rfl) (dOk_at dt_X10_keepText 45 rfl) ?_
  refine j_bipush hC (v := (16 : Int32)) rfl (dOk_at dt_X10_keepText 46 rfl) ?_
  refine j_callSv hC clX10_264 (fun rz hrz => c_X10_copies hN ((show shp 115 = (21, 32) from rfl)) _ _ rz hrz) rfl ⟨Nat.le_of_ble_eq_true rfl, Nat.le_of_ble_eq_true rfl⟩ ⟨Nat.le_refl 0, Nat.le_refl 0⟩ (As := [.ref 115, .int (16 : Int32)]) (st := []) rfl (Nat.le_of_ble_eq_true rfl) (dOk_at dt_X10_keepText 47 rfl) (fun h_10 _ => ?_)
  refine j_aload_n hC 0 rfl rfl (dOk_at dt_X10_keepText 48 rfl) ?_
  refine j_getR hC flX10_39 (show shp 107 = (10, 88) from rfl) (Nat.lt_of_lt_of_le (Nat.le_of_ble_eq_true rfl : 107 < 152) hN) (by decide) (by decide) (fun _ _ _ => rfl) (fun hs => hs 107 32 116 rfl) (dOk_at dt_X10_keepText 49 rfl) ?_
  refine j_bipush hC (v := (16 : Int32)) rfl (dOk_at dt_X10_keepText 50 rfl) ?_
  refine j_callSv hC clX10_264 (fun rz hrz => c_X10_copies hN ((show shp 116 = (21, 32) from rfl)) _ _ rz hrz) rfl ⟨Nat.le_of_ble_eq_true rfl, Nat.le_of_ble_eq_true rfl⟩ ⟨Nat.le_refl 0, Nat.le_refl 0⟩ (As := [.ref 116, .int (16 : Int32)]) (st := []) rfl (Nat.le_of_ble_eq_true rfl) (dOk_at dt_X10_keepText 51 rfl) (fun h_12 _ => ?_)
  refine j_aload_n hC 0 rfl rfl (dOk_at dt_X10_keepText 52 rfl) ?_
  refine j_getR hC flX10_42 (show shp 107 = (10, 88) from rfl) (Nat.lt_of_lt_of_le (Nat.le_of_ble_eq_true rfl : 107 < 152) hN) (by decide) (by decide) (fun _ _ _ => rfl) (fun hs => hs 107 33 117 rfl) (dOk_at dt_X10_keepText 53 rfl) ?_
  refine j_iconst hC (v := (5 : Int32)) rfl (dOk_at dt_X10_keepText 54 rfl) ?_
  refine j_callSv hC clX10_264 (fun rz hrz => c_X10_copies hN ((show shp 117 = (21, 10) from rfl)) _ _ rz hrz) rfl ⟨Nat.le_of_ble_eq_true rfl, Nat.le_of_ble_eq_true rfl⟩ ⟨Nat.le_refl 0, Nat.le_refl 0⟩ (As := [.ref 117, .int (5 : Int32)]) (st := []) rfl (Nat.le_of_ble_eq_true rfl) (dOk_at dt_X10_keepText 55 rfl) (fun h_14 _ => ?_)
  refine j_aload_n hC 0 rfl rfl (dOk_at dt_X10_keepText 56 rfl) ?_
  refine j_getR hC flX10_45 (show shp 107 = (10, 88) from rfl) (Nat.lt_of_lt_of_le (Nat.le_of_ble_eq_true rfl : 107 < 152) hN) (by decide) (by decide) (fun _ _ _ => rfl) (fun hs => hs 107 34 118 rfl) (dOk_at dt_X10_keepText 57 rfl) ?_
  refine j_iconst hC (v := (5 : Int32)) rfl (dOk_at dt_X10_keepText 58 rfl) ?_
  refine j_callSv hC clX10_264 (fun rz hrz => c_X10_copies hN ((show shp 118 = (21, 10) from rfl)) _ _ rz hrz) rfl ⟨Nat.le_of_ble_eq_true rfl, Nat.le_of_ble_eq_true rfl⟩ ⟨Nat.le_refl 0, Nat.le_refl 0⟩ (As := [.ref 118, .int (5 : Int32)]) (st := []) rfl (Nat.le_of_ble_eq_true rfl) (dOk_at dt_X10_keepText 59 rfl) (fun h_16 _ => ?_)
  refine j_aload_n hC 0 rfl rfl (dOk_at dt_X10_keepText 60 rfl) ?_
  refine j_getR hC flX10_48 (show shp 107 = (10, 88) from rfl) (Nat.lt_of_lt_of_le (Nat.le_of_ble_eq_true rfl : 107 < 152) hN) (by decide) (by decide) (fun _ _ _ => rfl) (fun hs => hs 107 35 119 rfl) (dOk_at dt_X10_keepText 61 rfl) ?_
  refine j_iconst hC (v := (5 : Int32)) rfl (dOk_at dt_X10_keepText 62 rfl) ?_
  refine j_callSv hC clX10_264 (fun rz hrz => c_X10_copies hN ((show shp 119 = (21, 10) from rfl)) _ _ rz hrz) rfl ⟨Nat.le_of_ble_eq_true rfl, Nat.le_of_ble_eq_true rfl⟩ ⟨Nat.le_refl 0, Nat.le_refl 0⟩ (As := [.ref 119, .int (5 : Int32)]) (st := []) rfl (Nat.le_of_ble_eq_true rfl) (dOk_at dt_X10_keepText 63 rfl) (fun h_18 _ => ?_)
  refine j_aload_n hC 0 rfl rfl (dOk_at dt_X10_keepText 64 rfl) ?_
  refine j_getR hC flX10_51 (show shp 107 = (10, 88) from rfl) (Nat.lt_of_lt_of_le (Nat.le_of_ble_eq_true rfl : 107 < 152) hN) (by decide) (by decide) (fun _ _ _ => rfl) (fun hs => hs 107 36 120 rfl) (dOk_at dt_X10_keepText 65 rfl) ?_
  refine j_iconst hC (v := (5 : Int32)) rfl (dOk_at dt_X10_keepText 66 rfl) ?_
  refine j_callSv hC clX10_264 (fun rz hrz => c_X10_copies hN ((show shp 120 = (21, 10) from rfl)) _ _ rz hrz) rfl ⟨Nat.le_of_ble_eq_true rfl, Nat.le_of_ble_eq_true rfl⟩ ⟨Nat.le_refl 0, Nat.le_refl 0⟩ (As := [.ref 120, .int (5 : Int32)]) (st := []) rfl (Nat.le_of_ble_eq_true rfl) (dOk_at dt_X10_keepText 67 rfl) (fun h_20 _ => ?_)
  refine j_aload_n hC 0 rfl rfl (dOk_at dt_X10_keepText 68 rfl) ?_
  refine j_getR hC flX10_54 (show shp 107 = (10, 88) from rfl) (Nat.lt_of_lt_of_le (Nat.le_of_ble_eq_true rfl : 107 < 152) hN) (by decide) (by decide) (fun _ _ _ => rfl) (fun hs => hs 107 37 121 rfl) (dOk_at dt_X10_keepText 69 rfl) ?_
  refine j_iconst hC (v := (5 : Int32)) rfl (dOk_at dt_X10_keepText 70 rfl) ?_
  refine j_callSv hC clX10_264 (fun rz hrz => c_X10_copies hN ((show shp 121 = (21, 10) from rfl)) _ _ rz hrz) rfl ⟨Nat.le_of_ble_eq_true rfl, Nat.le_of_ble_eq_true rfl⟩ ⟨Nat.le_refl 0, Nat.le_refl 0⟩ (As := [.ref 121, .int (5 : Int32)]) (st := []) rfl (Nat.le_of_ble_eq_true rfl) (dOk_at dt_X10_keepText 71 rfl) (fun h_22 _ => ?_)
  refine j_aload_n hC 0 rfl rfl (dOk_at dt_X10_keepText 72 rfl) ?_
  refine j_getR hC flX10_57 (show shp 107 = (10, 88) from rfl) (Nat.lt_of_lt_of_le (Nat.le_of_ble_eq_true rfl : 107 < 152) hN) (by decide) (by decide) (fun _ _ _ => rfl) (fun hs => hs 107 38 122 rfl) (dOk_at dt_X10_keepText 73 rfl) ?_
  refine j_bipush hC (v := (12 : Int32)) rfl (dOk_at dt_X10_keepText 74 rfl) ?_
  refine j_callSv hC clX10_264 (fun rz hrz => c_X10_copies hN ((show shp 122 = (21, 24) from rfl)) _ _ rz hrz) rfl ⟨Nat.le_of_ble_eq_true rfl, Nat.le_of_ble_eq_true rfl⟩ ⟨Nat.le_refl 0, Nat.le_refl 0⟩ (As := [.ref 122, .int (12 : Int32)]) (st := []) rfl (Nat.le_of_ble_eq_true rfl) (dOk_at dt_X10_keepText 75 rfl) (fun h_24 _ => ?_)
  refine j_aload_n hC 0 rfl rfl (dOk_at dt_X10_keepText 76 rfl) ?_
  refine j_getR hC flX10_60 (show shp 107 = (10, 88) from rfl) (Nat.lt_of_lt_of_le (Nat.le_of_ble_eq_true rfl : 107 < 152) hN) (by decide) (by decide) (fun _ _ _ => rfl) (fun hs => hs 107 39 123 rfl) (dOk_at dt_X10_keepText 77 rfl) ?_
  refine j_bipush hC (v := (12 : Int32)) rfl (dOk_at dt_X10_keepText 78 rfl) ?_
  refine j_callSv hC clX10_264 (fun rz hrz => c_X10_copies hN ((show shp 123 = (21, 24) from rfl)) _ _ rz hrz) rfl ⟨Nat.le_of_ble_eq_true rfl, Nat.le_of_ble_eq_true rfl⟩ ⟨Nat.le_refl 0, Nat.le_refl 0⟩ (As := [.ref 123, .int (12 : Int32)]) (st := []) rfl (Nat.le_of_ble_eq_true rfl) (dOk_at dt_X10_keepText 79 rfl) (fun h_26 _ => ?_)
  refine j_aload_n hC 0 rfl rfl (dOk_at dt_X10_keepText 80 rfl) ?_
  refine j_getR hC flX10_63 (show shp 107 = (10, 88) from rfl) (Nat.lt_of_lt_of_le (Nat.le_of_ble_eq_true rfl : 107 < 152) hN) (by decide) (by decide) (fun _ _ _ => rfl) (fun hs => hs 107 40 124 rfl) (dOk_at dt_X10_keepText 81 rfl) ?_
  refine j_bipush hC (v := (12 : Int32)) rfl (dOk_at dt_X10_keepText 82 rfl) ?_
  refine j_callSv hC clX10_264 (fun rz hrz => c_X10_copies hN ((show shp 124 = (21, 24) from rfl)) _ _ rz hrz) rfl ⟨Nat.le_of_ble_eq_true rfl, Nat.le_of_ble_eq_true rfl⟩ ⟨Nat.le_refl 0, Nat.le_refl 0⟩ (As := [.ref 124, .int (12 : Int32)]) (st := []) rfl (Nat.le_of_ble_eq_true rfl) (dOk_at dt_X10_keepText 83 rfl) (fun h_28 _ => ?_)
  refine j_aload_n hC 0 rfl rfl (dOk_at dt_X10_keepText 84 rfl) ?_
  refine j_getR hC flX10_66 (show shp 107 = (10, 88) from rfl) (Nat.lt_of_lt_of_le (Nat.le_of_ble_eq_true rfl : 107 < 152) hN) (by decide) (by decide) (fun _ _ _ => rfl) (fun hs => hs 107 41 125 rfl) (dOk_at dt_X10_keepText 85 rfl) ?_
  refine j_bipush hC (v := (6 : Int32)) rfl (dOk_at dt_X10_keepText 86 rfl) ?_
  refine j_callSv hC clX10_264 (fun rz hrz => c_X10_copies hN ((show shp 125 = (21, 12) from rfl)) _ _ rz hrz) rfl ⟨Nat.le_of_ble_eq_true rfl, Nat.le_of_ble_eq_true rfl⟩ ⟨Nat.le_refl 0, Nat.le_refl 0⟩ (As := [.ref 125, .int (6 : Int32)]) (st := []) rfl (Nat.le_of_ble_eq_true rfl) (dOk_at dt_X10_keepText 87 rfl) (fun h_30 _ => ?_)
  refine j_aload_n hC 0 rfl rfl (dOk_at dt_X10_keepText 88 rfl) ?_
  refine j_getR hC flX10_69 (show shp 107 = (10, 88) from rfl) (Nat.lt_of_lt_of_le (Nat.le_of_ble_eq_true rfl : 107 < 152) hN) (by decide) (by decide) (fun _ _ _ => rfl) (fun hs => hs 107 42 126 rfl) (dOk_at dt_X10_keepText 89 rfl) ?_
  refine j_bipush hC (v := (6 : Int32)) rfl (dOk_at dt_X10_keepText 90 rfl) ?_
  refine j_callSv hC clX10_264 (fun rz hrz => c_X10_copies hN ((show shp 126 = (21, 12) from rfl)) _ _ rz hrz) rfl ⟨Nat.le_of_ble_eq_true rfl, Nat.le_of_ble_eq_true rfl⟩ ⟨Nat.le_refl 0, Nat.le_refl 0⟩ (As := [.ref 126, .int (6 : Int32)]) (st := []) rfl (Nat.le_of_ble_eq_true rfl) (dOk_at dt_X10_keepText 91 rfl) (fun h_32 _ => ?_)
  refine j_iconst hC (v := (0 : Int32)) rfl (dOk_at dt_X10_keepText 92 rfl) ?_
  refine j_istore_n hC rfl (lv' := [(1, .int (0 : Int32)), (0, .ref 107)]) (by decide) rfl (dOk_at dt_X10_keepText 93 rfl) ?_
  refine j_sub [1, 0] rfl ?_
  exact b196 FU h_32 (0 : Int32) 
def tb_X10_find : List (Nat × Instr × Nat) := [(0, .iconst 0, 1), (1, .istore 4, 2), (3, .iload 4, 2), (5, .iload_n 2, 1), (6, .if_icmp .ge 22, 3), (9, .aload_n 0, 1), (10, .iload_n 1, 1), (11, .iload 4, 2), (13, .iadd, 1), (14, .iaload, 1), (15, .iload_n 3, 1), (16, .if_icmp .ne 6, 3), (19, .iload 4, 2), (21, .ireturn, 1), (22, .iinc 4 1, 3), (25, .goto (-22), 3), (28, .iconst (-1), 1), (29, .ireturn, 1)]
theorem dt_X10_find : dOk cX10_find tb_X10_find = true := by decide +kernel
def fX10_find_3 : Nat → (Nat) → (Nat) → Hp → Int32 → Int32 → Int32 → Int32 → Option (Int32 × Hp)
  | 0, _, _, _, _, _, _, _ => none
  | fu + 1, r0, n0, h, x1, x2, x3, x4 => if x2 ≤ x4 then (some ((-1 : Int32), h)) else (if inb (x1 + x4) n0 then (if (hI h r0 (Int32.toNatClampNeg (x1 + x4))) = x3 then (some (x4, h)) else ((fX10_find_3 fu r0 n0) h x1 x2 x3 (x4 + (1 : Int32)))) else none)
def fX10_find (r0 : Nat) (n0 : Nat) (h : Hp) (x1 : Int32) (x2 : Int32) (x3 : Int32) : Option (Int32 × Hp) := fX10_find_3 FU r0 n0 h x1 x2 x3 (0 : Int32)
set_option maxRecDepth 100000 in
set_option maxHeartbeats 4000000 in
theorem c_X10_find {l : Launch} {sb : State} {D : va_G} {ids : Nat → ClassId} {n : Nat} (hN : 152 ≤ n) {r0 : Nat} {n0 : Nat} (h0 : shp r0 = (21, n0)) (h : Hp) (x1 : Int32) (x2 : Int32) (x3 : Int32) (r : Int32 × Hp) (hr : fX10_find r0 n0 h x1 x2 x3 = some r) : jM l yX10_find cX10_find 5 (some .int) 0 sb D ids shp St n [.ref r0, .int x1, .int x2, .int x3] h (jQi sb D ids shp St n r) := by
  refine jM_of hr rfl (Nat.le_of_ble_eq_true rfl) ?_
  intro p e s m args below meth c hC hret
  have b3 : ∀ (fu : Nat) (h : Hp) (x1 : Int32) (x2 : Int32) (x3 : Int32) (x4 : Int32) , jJ p l e (rmD 0) s m args below meth c 5 sb D ids shp St (fun r => MQ below (jQi sb D ids shp St n r) args s 0 0 (jA sb)) n 0 0 h 3 [(0, .ref r0), (1, .int x1), (2, .int x2), (3, .int x3), (4, .int x4)] [] (fX10_find_3 fu r0 n0 h x1 x2 x3 x4) := by
    intro fu 
    induction fu with
    | zero => intro h x1 x2 x3 x4 ; exact j_none
    | succ fu ih =>
    intro h x1 x2 x3 x4 
    rw [fX10_find_3]
    refine j_iload hC 4 rfl (dOk_at dt_X10_find 2 rfl) ?_
    refine j_iload_n hC 2 rfl rfl (dOk_at dt_X10_find 3 rfl) ?_
    refine j_icmp_ge hC (tgt := 28) (by decide) (dOk_at dt_X10_find 4 rfl) (fun q_1 => ?_) (fun q_1 => ?_)
    · refine j_iconst hC (v := (-1 : Int32)) rfl (dOk_at dt_X10_find 16 rfl) ?_
      exact j_iret hC hret (dOk_at dt_X10_find 17 rfl)
    · refine j_aload_n hC 0 rfl rfl (dOk_at dt_X10_find 5 rfl) ?_
      refine j_iload_n hC 1 rfl rfl (dOk_at dt_X10_find 6 rfl) ?_
      refine j_iload hC 4 rfl (dOk_at dt_X10_find 7 rfl) ?_
      refine j_iadd hC (dOk_at dt_X10_find 8 rfl) ?_
      refine j_iald hC h0 (jlt hN h0 (by decide)) (dOk_at dt_X10_find 9 rfl) ?_
      refine j_iload_n hC 3 rfl rfl (dOk_at dt_X10_find 10 rfl) ?_
      refine j_icmp_ne hC (tgt := 22) (by decide) (dOk_at dt_X10_find 11 rfl) (fun q_2 => ?_) (fun q_2 => ?_)
      · refine j_iinc hC (v := (x4 + (1 : Int32))) (lv' := [(4, .int (x4 + (1 : Int32))), (0, .ref r0), (1, .int x1), (2, .int x2), (3, .int x3)]) 4 rfl (congrArg (fun z => x4 + z) (show Int32.ofInt (1) = (1 : Int32) from by decide)) (by decide) rfl (dOk_at dt_X10_find 14 rfl) ?_
        refine j_goto hC (tgt := 3) (by decide) (dOk_at dt_X10_find 15 rfl) ?_
        refine j_sub [1, 2, 3, 4, 0] rfl ?_
        exact ih h x1 x2 x3 (x4 + (1 : Int32)) 
      · refine j_iload hC 4 rfl (dOk_at dt_X10_find 12 rfl) ?_
        exact j_iret hC hret (dOk_at dt_X10_find 13 rfl)
  unfold fX10_find
  refine j_iconst hC (v := (0 : Int32)) rfl (dOk_at dt_X10_find 0 rfl) ?_
  refine j_istore hC (lv' := [(4, .int (0 : Int32)), (0, .ref r0), (1, .int x1), (2, .int x2), (3, .int x3)]) (by decide) rfl (dOk_at dt_X10_find 1 rfl) ?_
  refine j_sub [1, 2, 3, 4, 0] rfl ?_
  exact b3 FU h x1 x2 x3 (0 : Int32) 
def tb_X10_newName : List (Nat × Instr × Nat) := [(0, .aload_n 0, 1), (1, .getfield 175, 3), (4, .iconst 2, 1), (5, .if_icmp .eq 9, 3), (8, .aload_n 0, 1), (9, .iconst 1, 1), (10, .invokevirtual 199, 3), (13, .ireturn, 1), (14, .aload_n 1, 1), (15, .iload_n 2, 1), (16, .iload_n 3, 1), (17, .aload_n 0, 1), (18, .getfield 186, 3), (21, .invokestatic 271, 3), (24, .ifCond .lt 9, 3), (27, .aload_n 0, 1), (28, .iconst 3, 1), (29, .invokevirtual 199, 3), (32, .ireturn, 1), (33, .aload_n 1, 1), (34, .iload_n 2, 1), (35, .iload_n 3, 1), (36, .iadd, 1), (37, .aload_n 0, 1), (38, .getfield 186, 3), (41, .iastore, 1), (42, .aload_n 0, 1), (43, .invokevirtual 209, 3), (46, .iconst 1, 1), (47, .ireturn, 1)]
theorem dt_X10_newName : dOk cX10_newName tb_X10_newName = true := by decide +kernel
def fX10_newName (r1 : Nat) (n1 : Nat) (h : Hp) (x2 : Int32) (x3 : Int32) : Option (Int32 × Hp) := if (hI h 107 8) = (2 : Int32) then (bnd (fX10_find r1 n1 h x2 x3 (hI h 107 9)) (fun v_2 h_3 => if v_2 < 0 then (if inb (x2 + x3) n1 then ((fX10_token (uI h_3 r1 (Int32.toNatClampNeg (x2 + x3)) (hI h_3 107 9))).bind (fun h_6 => some ((1 : Int32), h_6))) else none) else (bnd (fX10_wrong h_3 (3 : Int32)) (fun v_7 h_8 => if isZ v_7 then some (v_7, h_8) else none)))) else (bnd (fX10_wrong h (1 : Int32)) (fun v_9 h_10 => if isZ v_9 then some (v_9, h_10) else none))
set_option maxRecDepth 100000 in
set_option maxHeartbeats 4000000 in
theorem c_X10_newName {l : Launch} {sb : State} {D : va_G} {ids : Nat → ClassId} {n : Nat} (hN : 152 ≤ n) {r1 : Nat} {n1 : Nat} (h1 : shp r1 = (21, n1)) (h : Hp) (x2 : Int32) (x3 : Int32) (r : Int32 × Hp) (hr : fX10_newName r1 n1 h x2 x3 = some r) : jM l yX10_newName cX10_newName 4 (some .boolean) 2 sb D ids shp St n [.ref 107, .ref r1, .int x2, .int x3] h (jQi sb D ids shp St n r) := by
  refine jM_of hr rfl (Nat.le_of_ble_eq_true rfl) ?_
  intro p e s m args below meth c hC hret
  unfold fX10_newName
  refine j_aload_n hC 0 rfl rfl (dOk_at dt_X10_newName 0 rfl) ?_
  refine j_getI hC flX10_175 (show shp 107 = (10, 88) from rfl) (Nat.lt_of_lt_of_le (Nat.le_of_ble_eq_true rfl : 107 < 152) hN) (by decide) (by decide) (fun _ _ _ => rfl) (dOk_at dt_X10_newName 1 rfl) ?_
  refine j_iconst hC (v := (2 : Int32)) rfl (dOk_at dt_X10_newName 2 rfl) ?_
  refine j_icmp_eq hC (tgt := 14) (by decide) (dOk_at dt_X10_newName 3 rfl) (fun q_1 => ?_) (fun q_1 => ?_)
  · refine j_aload_n hC 1 rfl rfl (dOk_at dt_X10_newName 8 rfl) ?_
    refine j_iload_n hC 2 rfl rfl (dOk_at dt_X10_newName 9 rfl) ?_
    refine j_iload_n hC 3 rfl rfl (dOk_at dt_X10_newName 10 rfl) ?_
    refine j_aload_n hC 0 rfl rfl (dOk_at dt_X10_newName 11 rfl) ?_
    refine j_getI hC flX10_186 (show shp 107 = (10, 88) from rfl) (Nat.lt_of_lt_of_le (Nat.le_of_ble_eq_true rfl : 107 < 152) hN) (by decide) (by decide) (fun _ _ _ => rfl) (dOk_at dt_X10_newName 12 rfl) ?_
    refine j_callSi hC clX10_271 (fun rz hrz => c_X10_find hN (h1) _ _ _ _ rz hrz) rfl ⟨Nat.le_of_ble_eq_true rfl, Nat.le_of_ble_eq_true rfl⟩ ⟨Nat.le_refl 0, Nat.le_refl 0⟩ (As := [.ref r1, .int x2, .int x3, .int (hI h 107 9)]) (st := []) rfl (Nat.le_of_ble_eq_true rfl) (dOk_at dt_X10_newName 13 rfl) (fun v_2 h_3 _ => ?_)
    refine j_if_lt hC (tgt := 33) (by decide) (dOk_at dt_X10_newName 14 rfl) (fun q_4 => ?_) (fun q_4 => ?_)
    · refine j_aload_n hC 1 rfl rfl (dOk_at dt_X10_newName 19 rfl) ?_
      refine j_iload_n hC 2 rfl rfl (dOk_at dt_X10_newName 20 rfl) ?_
      refine j_iload_n hC 3 rfl rfl (dOk_at dt_X10_newName 21 rfl) ?_
      refine j_iadd hC (dOk_at dt_X10_newName 22 rfl) ?_
      refine j_aload_n hC 0 rfl rfl (dOk_at dt_X10_newName 23 rfl) ?_
      refine j_getI hC flX10_186 (show shp 107 = (10, 88) from rfl) (Nat.lt_of_lt_of_le (Nat.le_of_ble_eq_true rfl : 107 < 152) hN) (by decide) (by decide) (fun _ _ _ => rfl) (dOk_at dt_X10_newName 24 rfl) ?_
      refine j_iast hC St_SP h1 (jlt hN h1 (by decide)) (dOk_at dt_X10_newName 25 rfl) ?_
      refine j_aload_n hC 0 rfl rfl (dOk_at dt_X10_newName 26 rfl) ?_
      refine j_callVv hC clX10_209 (fun rz hrz => c_X10_token hN _ rz hrz) (show shp 107 = (10, 88) from rfl) (Nat.lt_of_lt_of_le (Nat.le_of_ble_eq_true rfl : 107 < 152) hN) (by decide) rfl rfl ⟨Nat.le_of_ble_eq_true rfl, Nat.le_of_ble_eq_true rfl⟩ ⟨Nat.le_refl 0, Nat.le_refl 0⟩ (As := []) (st := []) rfl (Nat.le_of_ble_eq_true rfl) (dOk_at dt_X10_newName 27 rfl) (fun h_6 _ => ?_)
      refine j_iconst hC (v := (1 : Int32)) rfl (dOk_at dt_X10_newName 28 rfl) ?_
      exact j_zretK hC hret rfl (dOk_at dt_X10_newName 29 rfl)
    · refine j_aload_n hC 0 rfl rfl (dOk_at dt_X10_newName 15 rfl) ?_
      refine j_iconst hC (v := (3 : Int32)) rfl (dOk_at dt_X10_newName 16 rfl) ?_
      refine j_callVi hC clX10_199 (fun rz hrz => c_X10_wrong hN _ _ rz hrz) (show shp 107 = (10, 88) from rfl) (Nat.lt_of_lt_of_le (Nat.le_of_ble_eq_true rfl : 107 < 152) hN) (by decide) rfl rfl ⟨Nat.le_of_ble_eq_true rfl, Nat.le_of_ble_eq_true rfl⟩ ⟨Nat.le_refl 0, Nat.le_refl 0⟩ (As := [.int (3 : Int32)]) (st := []) rfl (Nat.le_of_ble_eq_true rfl) (dOk_at dt_X10_newName 17 rfl) (fun v_7 h_8 _ => ?_)
      exact j_zret hC hret (dOk_at dt_X10_newName 18 rfl)
  · refine j_aload_n hC 0 rfl rfl (dOk_at dt_X10_newName 4 rfl) ?_
    refine j_iconst hC (v := (1 : Int32)) rfl (dOk_at dt_X10_newName 5 rfl) ?_
    refine j_callVi hC clX10_199 (fun rz hrz => c_X10_wrong hN _ _ rz hrz) (show shp 107 = (10, 88) from rfl) (Nat.lt_of_lt_of_le (Nat.le_of_ble_eq_true rfl : 107 < 152) hN) (by decide) rfl rfl ⟨Nat.le_of_ble_eq_true rfl, Nat.le_of_ble_eq_true rfl⟩ ⟨Nat.le_refl 0, Nat.le_refl 0⟩ (As := [.int (1 : Int32)]) (st := []) rfl (Nat.le_of_ble_eq_true rfl) (dOk_at dt_X10_newName 6 rfl) (fun v_9 h_10 _ => ?_)
    exact j_zret hC hret (dOk_at dt_X10_newName 7 rfl)
