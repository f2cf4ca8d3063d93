def tb_X10_standing : List (Nat × Instr × Nat) := [(0, .aload_n 0, 1), (1, .iconst 0, 1), (2, .putfield 157, 3), (5, .iload_n 1, 1), (6, .iconst 0, 1), (7, .iconst 2, 1), (8, .invokestatic 202, 3), (11, .ifCond .ne 5, 3), (14, .iconst (-1), 1), (15, .ireturn, 1), (16, .iconst 0, 1), (17, .istore_n 2, 1), (18, .iconst 1, 1), (19, .aload_n 0, 1), (20, .getfield 243, 3), (23, .ishl, 1), (24, .iconst 1, 1), (25, .isub, 1), (26, .istore_n 3, 1), (27, .iconst 0, 1), (28, .istore 4, 2), (30, .iconst 0, 1), (31, .istore 5, 2), (33, .iload 5, 2), (35, .iconst 1, 1), (36, .aload_n 0, 1), (37, .getfield 243, 3), (40, .ishl, 1), (41, .if_icmp .ge 36, 3), (44, .aload_n 0, 1), (45, .iload 5, 2), (47, .invokevirtual 504, 3), (50, .ifCond .ne 6, 3), (53, .goto 18, 3), (56, .iinc 2 1, 3), (59, .iload_n 3, 1), (60, .iload 5, 2), (62, .iand, 1), (63, .istore_n 3, 1), (64, .iload 4, 2), (66, .iload 5, 2), (68, .ior, 1), (69, .istore 4, 2), (71, .iinc 5 1, 3), (74, .goto (-41), 3), (77, .iload_n 1, 1), (78, .ifCond .ne 7, 3), (81, .iload_n 2, 1), (82, .goto 22, 3), (85, .iload_n 2, 1), (86, .ifCond .ne 7, 3), (89, .iconst 0, 1), (90, .goto 14, 3), (93, .iload_n 1, 1), (94, .iconst 1, 1), (95, .if_icmp .ne 7, 3), (98, .iload_n 3, 1), (99, .goto 5, 3), (102, .iload 4, 2), (104, .ireturn, 1)]
theorem dt_X10_standing : dOk cX10_standing tb_X10_standing = true := by decide +kernel
def fX10_standing_71 (rec33 : Hp → Int32 → Int32 → Int32 → Int32 → Int32 → Option (Int32 × Hp)) (h : Hp) (x1 : Int32) (x2 : Int32) (x3 : Int32) (x4 : Int32) (x5 : Int32) : Option (Int32 × Hp) := rec33 h x1 x2 x3 x4 (x5 + (1 : Int32))
def fX10_standing_33 : Nat → Hp → Int32 → Int32 → Int32 → Int32 → Int32 → Option (Int32 × Hp)
  | 0, _, _, _, _, _, _ => none
  | fu + 1, h, x1, x2, x3, x4, x5 => if ((1 : Int32) <<< ((hI h 107 12) &&& 31)) ≤ x5 then (if x1 = 0 then (some (x2, h)) else (if x2 = 0 then (some ((0 : Int32), h)) else (if x1 = (1 : Int32) then (some (x3, h)) else (some (x4, h))))) else (bnd (fX10_isStanding h x5) (fun v_8 h_9 => if v_8 = 0 then (fX10_standing_71 (fX10_standing_33 fu) h_9 x1 x2 x3 x4 x5) else (fX10_standing_71 (fX10_standing_33 fu) h_9 x1 (x2 + (1 : Int32)) (x3 &&& x5) (x4 ||| x5) x5)))
def fX10_standing (h : Hp) (x1 : Int32) : Option (Int32 × Hp) := bnd (fX10_isIn (uI h 107 2 (0 : Int32)) x1 (0 : Int32) (2 : Int32)) (fun v_1 h_2 => if v_1 = 0 then (some ((-1 : Int32), h_2)) else (fX10_standing_33 FU h_2 x1 (0 : Int32) (((1 : Int32) <<< ((hI h_2 107 12) &&& 31)) - (1 : Int32)) (0 : Int32) (0 : Int32)))
set_option maxRecDepth 100000 in
set_option maxHeartbeats 4000000 in
theorem c_X10_standing {l : Launch} {sb : State} {D : va_G} {ids : Nat → ClassId} {n : Nat} (hN : 152 ≤ n) (h : Hp) (x1 : Int32) (r : Int32 × Hp) (hr : fX10_standing h x1 = some r) : jM l yX10_standing cX10_standing 6 (some .int) 3 sb D ids shp St n [.ref 107, .int x1] h (jQi sb D ids shp St n r) := by
  refine jM_of hr rfl (Nat.le_of_ble_eq_true rfl) ?_
  intro p e s m args below meth c hC hret
  have b71 : ∀ (rec33 : Hp → Int32 → Int32 → Int32 → Int32 → Int32 → Option (Int32 × Hp)) (hrec33 : ∀ (h : Hp) (x1 : Int32) (x2 : Int32) (x3 : Int32) (x4 : Int32) (x5 : Int32) , jJ p l e (rmD 3) s m args below meth c 6 sb D ids shp St (fun r => MQ below (jQi sb D ids shp St n r) args s 0 0 (jA sb)) n 0 0 h 33 [(0, .ref 107), (1, .int x1), (2, .int x2), (3, .int x3), (4, .int x4), (5, .int x5)] [] (rec33 h x1 x2 x3 x4 x5)) (h : Hp) (x1 : Int32) (x2 : Int32) (x3 : Int32) (x4 : Int32) (x5 : Int32) , jJ p l e (rmD 3) s m args below meth c 6 sb D ids shp St (fun r => MQ below (jQi sb D ids shp St n r) args s 0 0 (jA sb)) n 0 0 h 71 [(0, .ref 107), (1, .int x1), (2, .int x2), (3, .int x3), (4, .int x4), (5, .int x5)] [] (fX10_standing_71 rec33 h x1 x2 x3 x4 x5) := by
    intro rec33 hrec33 h x1 x2 x3 x4 x5 
    unfold fX10_standing_71
    refine j_iinc hC (v := (x5 + (1 : Int32))) (lv' := [(5, .int (x5 + (1 : Int32))), (0, .ref 107), (1, .int x1), (2, .int x2), (3, .int x3), (4, .int x4)]) 5 rfl (congrArg (fun z => x5 + z) (show Int32.ofInt (1) = (1 : Int32) from by decide)) (by decide) rfl (dOk_at dt_X10_standing 43 rfl) ?_
    refine j_goto hC (tgt := 33) (by decide) (dOk_at dt_X10_standing 44 rfl) ?_
    refine j_sub [1, 2, 3, 4, 5, 0] rfl ?_
    exact hrec33 h x1 x2 x3 x4 (x5 + (1 : Int32)) 
  have b33 : ∀ (fu : Nat) (h : Hp) (x1 : Int32) (x2 : Int32) (x3 : Int32) (x4 : Int32) (x5 : Int32) , jJ p l e (rmD 3) s m args below meth c 6 sb D ids shp St (fun r => MQ below (jQi sb D ids shp St n r) args s 0 0 (jA sb)) n 0 0 h 33 [(0, .ref 107), (1, .int x1), (2, .int x2), (3, .int x3), (4, .int x4), (5, .int x5)] [] (fX10_standing_33 fu h x1 x2 x3 x4 x5) := by
    intro fu 
    induction fu with
    | zero => intro h x1 x2 x3 x4 x5 ; exact j_none
    | succ fu ih =>
    intro h x1 x2 x3 x4 x5 
    rw [fX10_standing_33]
    refine j_iload hC 5 rfl (dOk_at dt_X10_standing 23 rfl) ?_
    refine j_iconst hC (v := (1 : Int32)) rfl (dOk_at dt_X10_standing 24 rfl) ?_
    refine j_aload_n hC 0 rfl rfl (dOk_at dt_X10_standing 25 rfl) ?_
    refine j_getI hC flX10_243 (show shp 107 = (10, 88) from rfl) (Nat.lt_of_lt_of_le (Nat.le_of_ble_eq_true rfl : 107 < 152) hN) (by decide) (by decide) (fun _ _ _ => rfl) (dOk_at dt_X10_standing 26 rfl) ?_
    refine j_ishl hC (dOk_at dt_X10_standing 27 rfl) ?_
    refine j_icmp_ge hC (tgt := 77) (by decide) (dOk_at dt_X10_standing 28 rfl) (fun q_4 => ?_) (fun q_4 => ?_)
    · refine j_iload_n hC 1 rfl rfl (dOk_at dt_X10_standing 45 rfl) ?_
      refine j_if_ne hC (tgt := 85) (by decide) (dOk_at dt_X10_standing 46 rfl) (fun q_5 => ?_) (fun q_5 => ?_)
      · refine j_iload_n hC 2 rfl rfl (dOk_at dt_X10_standing 49 rfl) ?_
        refine j_if_ne hC (tgt := 93) (by decide) (dOk_at dt_X10_standing 50 rfl) (fun q_6 => ?_) (fun q_6 => ?_)
        · refine j_iload_n hC 1 rfl rfl (dOk_at dt_X10_standing 53 rfl) ?_
          refine j_iconst hC (v := (1 : Int32)) rfl (dOk_at dt_X10_standing 54 rfl) ?_
          refine j_icmp_ne hC (tgt := 102) (by decide) (dOk_at dt_X10_standing 55 rfl) (fun q_7 => ?_) (fun q_7 => ?_)
          · refine j_iload hC 4 rfl (dOk_at dt_X10_standing 58 rfl) ?_
            exact j_iret hC hret (dOk_at dt_X10_standing 59 rfl)
          · refine j_iload_n hC 3 rfl rfl (dOk_at dt_X10_standing 56 rfl) ?_
            refine j_goto hC (tgt := 104) (by decide) (dOk_at dt_X10_standing 57 rfl) ?_
            exact j_iret hC hret (dOk_at dt_X10_standing 59 rfl)
        · refine j_iconst hC (v := (0 : Int32)) rfl (dOk_at dt_X10_standing 51 rfl) ?_
          refine j_goto hC (tgt := 104) (by decide) (dOk_at dt_X10_standing 52 rfl) ?_
          exact j_iret hC hret (dOk_at dt_X10_standing 59 rfl)
      · refine j_iload_n hC 2 rfl rfl (dOk_at dt_X10_standing 47 rfl) ?_
        refine j_goto hC (tgt := 104) (by decide) (dOk_at dt_X10_standing 48 rfl) ?_
        exact j_iret hC hret (dOk_at dt_X10_standing 59 rfl)
    · refine j_aload_n hC 0 rfl rfl (dOk_at dt_X10_standing 29 rfl) ?_
      refine j_iload hC 5 rfl (dOk_at dt_X10_standing 30 rfl) ?_
      refine j_callVi hC clX10_504 (fun rz hrz => c_X10_isStanding hN _ _ rz hrz) (show shp 107 = (10, 88) from rfl) (Nat.lt_of_lt_of_le (Nat.le_of_ble_eq_true rfl : 107 < 152) hN) (by decide) rfl rfl ⟨Nat.le_of_ble_eq_true rfl, Nat.le_of_ble_eq_true rfl⟩ ⟨Nat.le_refl 0, Nat.le_refl 0⟩ (As := [.int x5]) (st := []) rfl (Nat.le_of_ble_eq_true rfl) (dOk_at dt_X10_standing 31 rfl) (fun v_8 h_9 _ => ?_)
      refine j_if_ne hC (tgt := 56) (by decide) (dOk_at dt_X10_standing 32 rfl) (fun q_10 => ?_) (fun q_10 => ?_)
      · refine j_iinc hC (v := (x2 + (1 : Int32))) (lv' := [(2, .int (x2 + (1 : Int32))), (0, .ref 107), (1, .int x1), (3, .int x3), (4, .int x4), (5, .int x5)]) 2 rfl (congrArg (fun z => x2 + z) (show Int32.ofInt (1) = (1 : Int32) from by decide)) (by decide) rfl (dOk_at dt_X10_standing 34 rfl) ?_
        refine j_iload_n hC 3 rfl rfl (dOk_at dt_X10_standing 35 rfl) ?_
        refine j_iload hC 5 rfl (dOk_at dt_X10_standing 36 rfl) ?_
        refine j_iand hC (dOk_at dt_X10_standing 37 rfl) ?_
        refine j_istore_n hC rfl (lv' := [(3, .int (x3 &&& x5)), (2, .int (x2 + (1 : Int32))), (0, .ref 107), (1, .int x1), (4, .int x4), (5, .int x5)]) (by decide) rfl (dOk_at dt_X10_standing 38 rfl) ?_
        refine j_iload hC 4 rfl (dOk_at dt_X10_standing 39 rfl) ?_
        refine j_iload hC 5 rfl (dOk_at dt_X10_standing 40 rfl) ?_
        refine j_ior hC (dOk_at dt_X10_standing 41 rfl) ?_
        refine j_istore hC (lv' := [(4, .int (x4 ||| x5)), (3, .int (x3 &&& x5)), (2, .int (x2 + (1 : Int32))), (0, .ref 107), (1, .int x1), (5, .int x5)]) (by decide) rfl (dOk_at dt_X10_standing 42 rfl) ?_
        refine j_sub [3, 4, 2, 1, 0, 5] rfl ?_
        exact b71 (fX10_standing_33 fu) ih h_9 x1 (x2 + (1 : Int32)) (x3 &&& x5) (x4 ||| x5) x5 
      · refine j_goto hC (tgt := 71) (by decide) (dOk_at dt_X10_standing 33 rfl) ?_
        exact b71 (fX10_standing_33 fu) ih h_9 x1 x2 x3 x4 x5 
  unfold fX10_standing
  refine j_aload_n hC 0 rfl rfl (dOk_at dt_X10_standing 0 rfl) ?_
  refine j_iconst hC (v := (0 : Int32)) rfl (dOk_at dt_X10_standing 1 rfl) ?_
  refine j_putI hC St_SP flX10_157 (show shp 107 = (10, 88) from rfl) (Nat.lt_of_lt_of_le (Nat.le_of_ble_eq_true rfl : 107 < 152) hN) (by decide) (by decide) rfl rfl (dOk_at dt_X10_standing 2 rfl) ?_
  refine j_iload_n hC 1 rfl rfl (dOk_at dt_X10_standing 3 rfl) ?_
  refine j_iconst hC (v := (0 : Int32)) rfl (dOk_at dt_X10_standing 4 rfl) ?_
  refine j_iconst hC (v := (2 : Int32)) rfl (dOk_at dt_X10_standing 5 rfl) ?_
  refine j_callSi hC clX10_202 (fun rz hrz => c_X10_isIn hN _ _ _ _ rz hrz) rfl ⟨Nat.le_of_ble_eq_true rfl, Nat.le_of_ble_eq_true rfl⟩ ⟨Nat.le_refl 0, Nat.le_refl 0⟩ (As := [.int x1, .int (0 : Int32), .int (2 : Int32)]) (st := []) rfl (Nat.le_of_ble_eq_true rfl) (dOk_at dt_X10_standing 6 rfl) (fun v_1 h_2 _ => ?_)
  refine j_if_ne hC (tgt := 16) (by decide) (dOk_at dt_X10_standing 7 rfl) (fun q_3 => ?_) (fun q_3 => ?_)
  · refine j_iconst hC (v := (0 : Int32)) rfl (dOk_at dt_X10_standing 10 rfl) ?_
    refine j_istore_n hC rfl (lv' := [(2, .int (0 : Int32)), (0, .ref 107), (1, .int x1)]) (by decide) rfl (dOk_at dt_X10_standing 11 rfl) ?_
    refine j_iconst hC (v := (1 : Int32)) rfl (dOk_at dt_X10_standing 12 rfl) ?_
    refine j_aload_n hC 1 rfl rfl (dOk_at dt_X10_standing 13 rfl) ?_
    refine j_getI hC flX10_243 (show shp 107 = (10, 88) from rfl) (Nat.lt_of_lt_of_le (Nat.le_of_ble_eq_true rfl : 107 < 152) hN) (by decide) (by decide) (fun _ _ _ => rfl) (dOk_at dt_X10_standing 14 rfl) ?_
    refine j_ishl hC (dOk_at dt_X10_standing 15 rfl) ?_
    refine j_iconst hC (v := (1 : Int32)) rfl (dOk_at dt_X10_standing 16 rfl) ?_
    refine j_isub hC (dOk_at dt_X10_standing 17 rfl) ?_
    refine j_istore_n hC rfl (lv' := [(3, .int (((1 : Int32) <<< ((hI h_2 107 12) &&& 31)) - (1 : Int32))), (2, .int (0 : Int32)), (0, .ref 107), (1, .int x1)]) (by decide) rfl (dOk_at dt_X10_standing 18 rfl) ?_
    refine j_iconst hC (v := (0 : Int32)) rfl (dOk_at dt_X10_standing 19 rfl) ?_
    refine j_istore hC (lv' := [(4, .int (0 : Int32)), (3, .int (((1 : Int32) <<< ((hI h_2 107 12) &&& 31)) - (1 : Int32))), (2, .int (0 : Int32)), (0, .ref 107), (1, .int x1)]) (by decide) rfl (dOk_at dt_X10_standing 20 rfl) ?_
    refine j_iconst hC (v := (0 : Int32)) rfl (dOk_at dt_X10_standing 21 rfl) ?_
    refine j_istore hC (lv' := [(5, .int (0 : Int32)), (4, .int (0 : Int32)), (3, .int (((1 : Int32) <<< ((hI h_2 107 12) &&& 31)) - (1 : Int32))), (2, .int (0 : Int32)), (0, .ref 107), (1, .int x1)]) (by decide) rfl (dOk_at dt_X10_standing 22 rfl) ?_
    refine j_sub [4, 5, 3, 2, 1, 0] rfl ?_
    exact b33 FU h_2 x1 (0 : Int32) (((1 : Int32) <<< ((hI h_2 107 12) &&& 31)) - (1 : Int32)) (0 : Int32) (0 : Int32) 
  · refine j_iconst hC (v := (-1 : Int32)) rfl (dOk_at dt_X10_standing 8 rfl) ?_
    exact j_iret hC hret (dOk_at dt_X10_standing 9 rfl)
def tb_X10_stand : List (Nat × Instr × Nat) := [(0, .aload_n 0, 1), (1, .iconst 0, 1), (2, .putfield 157, 3), (5, .iload_n 1, 1), (6, .ifCond .ge 5, 3), (9, .iconst (-1), 1), (10, .ireturn, 1), (11, .iconst 0, 1), (12, .istore_n 2, 1), (13, .iconst 0, 1), (14, .istore_n 3, 1), (15, .iload_n 3, 1), (16, .iconst 1, 1), (17, .aload_n 0, 1), (18, .getfield 243, 3), (21, .ishl, 1), (22, .if_icmp .ge 30, 3), (25, .aload_n 0, 1), (26, .iload_n 3, 1), (27, .invokevirtual 504, 3), (30, .ifCond .ne 6, 3), (33, .goto 13, 3), (36, .iload_n 2, 1), (37, .iload_n 1, 1), (38, .if_icmp .ne 5, 3), (41, .iload_n 3, 1), (42, .ireturn, 1), (43, .iinc 2 1, 3), (46, .iinc 3 1, 3), (49, .goto (-34), 3), (52, .bipush (-2), 2), (54, .ireturn, 1)]
theorem dt_X10_stand : dOk cX10_stand tb_X10_stand = true := by decide +kernel
def fX10_stand_46 (rec15 : Hp → Int32 → Int32 → Int32 → Option (Int32 × Hp)) (h : Hp) (x1 : Int32) (x2 : Int32) (x3 : Int32) : Option (Int32 × Hp) := rec15 h x1 x2 (x3 + (1 : Int32))
def fX10_stand_15 : Nat → Hp → Int32 → Int32 → Int32 → Option (Int32 × Hp)
  | 0, _, _, _, _ => none
  | fu + 1, h, x1, x2, x3 => if ((1 : Int32) <<< ((hI h 107 12) &&& 31)) ≤ x3 then (some ((-2 : Int32), h)) else (bnd (fX10_isStanding h x3) (fun v_3 h_4 => if v_3 = 0 then (fX10_stand_46 (fX10_stand_15 fu) h_4 x1 x2 x3) else (if x2 = x1 then (some (x3, h_4)) else (fX10_stand_46 (fX10_stand_15 fu) h_4 x1 (x2 + (1 : Int32)) x3))))
def fX10_stand (h : Hp) (x1 : Int32) : Option (Int32 × Hp) := if 0 ≤ x1 then (fX10_stand_15 FU (uI h 107 2 (0 : Int32)) x1 (0 : Int32) (0 : Int32)) else (some ((-1 : Int32), (uI h 107 2 (0 : Int32))))
set_option maxRecDepth 100000 in
set_option maxHeartbeats 4000000 in
theorem c_X10_stand {l : Launch} {sb : State} {D : va_G} {ids : Nat → ClassId} {n : Nat} (hN : 152 ≤ n) (h : Hp) (x1 : Int32) (r : Int32 × Hp) (hr : fX10_stand h x1 = some r) : jM l yX10_stand cX10_stand 4 (some .int) 3 sb D ids shp St n [.ref 107, .int x1] h (jQi sb D ids shp St n r) := by
  refine jM_of hr rfl (Nat.le_of_ble_eq_true rfl) ?_
  intro p e s m args below meth c hC hret
  have b46 : ∀ (rec15 : Hp → Int32 → Int32 → Int32 → Option (Int32 × Hp)) (hrec15 : ∀ (h : Hp) (x1 : Int32) (x2 : Int32) (x3 : Int32) , jJ p l e (rmD 3) s m args below meth c 4 sb D ids shp St (fun r => MQ below (jQi sb D ids shp St n r) args s 0 0 (jA sb)) n 0 0 h 15 [(0, .ref 107), (1, .int x1), (2, .int x2), (3, .int x3)] [] (rec15 h x1 x2 x3)) (h : Hp) (x1 : Int32) (x2 : Int32) (x3 : Int32) , jJ p l e (rmD 3) s m args below meth c 4 sb D ids shp St (fun r => MQ below (jQi sb D ids shp St n r) args s 0 0 (jA sb)) n 0 0 h 46 [(0, .ref 107), (1, .int x1), (2, .int x2), (3, .int x3)] [] (fX10_stand_46 rec15 h x1 x2 x3) := by
    intro rec15 hrec15 h x1 x2 x3 
    unfold fX10_stand_46
    refine j_iinc hC (v := (x3 + (1 : Int32))) (lv' := [(3, .int (x3 + (1 : Int32))), (0, .ref 107), (1, .int x1), (2, .int x2)]) 3 rfl (congrArg (fun z => x3 + z) (show Int32.ofInt (1) = (1 : Int32) from by decide)) (by decide) rfl (dOk_at dt_X10_stand 28 rfl) ?_
    refine j_goto hC (tgt := 15) (by decide) (dOk_at dt_X10_stand 29 rfl) ?_
    refine j_sub [1, 2, 3, 0] rfl ?_
    exact hrec15 h x1 x2 (x3 + (1 : Int32)) 
  have b15 : ∀ (fu : Nat) (h : Hp) (x1 : Int32) (x2 : Int32) (x3 : Int32) , jJ p l e (rmD 3) s m args below meth c 4 sb D ids shp St (fun r => MQ below (jQi sb D ids shp St n r) args s 0 0 (jA sb)) n 0 0 h 15 [(0, .ref 107), (1, .int x1), (2, .int x2), (3, .int x3)] [] (fX10_stand_15 fu h x1 x2 x3) := by
    intro fu 
    induction fu with
    | zero => intro h x1 x2 x3 ; exact j_none
    | succ fu ih =>
    intro h x1 x2 x3 
    rw [fX10_stand_15]
    refine j_iload_n hC 3 rfl rfl (dOk_at dt_X10_stand 11 rfl) ?_
    refine j_iconst hC (v := (1 : Int32)) rfl (dOk_at dt_X10_stand 12 rfl) ?_
    refine j_aload_n hC 0 rfl rfl (dOk_at dt_X10_stand 13 rfl) ?_
    refine j_getI hC flX10_243 (show shp 107 = (10, 88) from rfl) (Nat.lt_of_lt_of_le (Nat.le_of_ble_eq_true rfl : 107 < 152) hN) (by decide) (by decide) (fun _ _ _ => rfl) (dOk_at dt_X10_stand 14 rfl) ?_
    refine j_ishl hC (dOk_at dt_X10_stand 15 rfl) ?_
    refine j_icmp_ge hC (tgt := 52) (by decide) (dOk_at dt_X10_stand 16 rfl) (fun q_2 => ?_) (fun q_2 => ?_)
    · refine j_bipush hC (v := (-2 : Int32)) rfl (dOk_at dt_X10_stand 30 rfl) ?_
      exact j_iret hC hret (dOk_at dt_X10_stand 31 rfl)
    · refine j_aload_n hC 0 rfl rfl (dOk_at dt_X10_stand 17 rfl) ?_
      refine j_iload_n hC 3 rfl rfl (dOk_at dt_X10_stand 18 rfl) ?_
      refine j_callVi hC clX10_504 (fun rz hrz => c_X10_isStanding hN _ _ rz hrz) (show shp 107 = (10, 88) from rfl) (Nat.lt_of_lt_of_le (Nat.le_of_ble_eq_true rfl : 107 < 152) hN) (by decide) rfl rfl ⟨Nat.le_of_ble_eq_true rfl, Nat.le_of_ble_eq_true rfl⟩ ⟨Nat.le_refl 0, Nat.le_refl 0⟩ (As := [.int x3]) (st := []) rfl (Nat.le_of_ble_eq_true rfl) (dOk_at dt_X10_stand 19 rfl) (fun v_3 h_4 _ => ?_)
      refine j_if_ne hC (tgt := 36) (by decide) (dOk_at dt_X10_stand 20 rfl) (fun q_5 => ?_) (fun q_5 => ?_)
      · refine j_iload_n hC 2 rfl rfl (dOk_at dt_X10_stand 22 rfl) ?_
        refine j_iload_n hC 1 rfl rfl (dOk_at dt_X10_stand 23 rfl) ?_
        refine j_icmp_ne hC (tgt := 43) (by decide) (dOk_at dt_X10_stand 24 rfl) (fun q_6 => ?_) (fun q_6 => ?_)
        · refine j_iinc hC (v := (x2 + (1 : Int32))) (lv' := [(2, .int (x2 + (1 : Int32))), (0, .ref 107), (1, .int x1), (3, .int x3)]) 2 rfl (congrArg (fun z => x2 + z) (show Int32.ofInt (1) = (1 : Int32) from by decide)) (by decide) rfl (dOk_at dt_X10_stand 27 rfl) ?_
          refine j_sub [1, 2, 0, 3] rfl ?_
          exact b46 (fX10_stand_15 fu) ih h_4 x1 (x2 + (1 : Int32)) x3 
        · refine j_iload_n hC 3 rfl rfl (dOk_at dt_X10_stand 25 rfl) ?_
          exact j_iret hC hret (dOk_at dt_X10_stand 26 rfl)
      · refine j_goto hC (tgt := 46) (by decide) (dOk_at dt_X10_stand 21 rfl) ?_
        exact b46 (fX10_stand_15 fu) ih h_4 x1 x2 x3 
  unfold fX10_stand
  refine j_aload_n hC 0 rfl rfl (dOk_at dt_X10_stand 0 rfl) ?_
  refine j_iconst hC (v := (0 : Int32)) rfl (dOk_at dt_X10_stand 1 rfl) ?_
  refine j_putI hC St_SP flX10_157 (show shp 107 = (10, 88) from rfl) (Nat.lt_of_lt_of_le (Nat.le_of_ble_eq_true rfl : 107 < 152) hN) (by decide) (by decide) rfl rfl (dOk_at dt_X10_stand 2 rfl) ?_
  refine j_iload_n hC 1 rfl rfl (dOk_at dt_X10_stand 3 rfl) ?_
  refine j_if_ge hC (tgt := 11) (by decide) (dOk_at dt_X10_stand 4 rfl) (fun q_1 => ?_) (fun q_1 => ?_)
  · refine j_iconst hC (v := (0 : Int32)) rfl (dOk_at dt_X10_stand 7 rfl) ?_
    refine j_istore_n hC rfl (lv' := [(2, .int (0 : Int32)), (0, .ref 107), (1, .int x1)]) (by decide) rfl (dOk_at dt_X10_stand 8 rfl) ?_
    refine j_iconst hC (v := (0 : Int32)) rfl (dOk_at dt_X10_stand 9 rfl) ?_
    refine j_istore_n hC rfl (lv' := [(3, .int (0 : Int32)), (2, .int (0 : Int32)), (0, .ref 107), (1, .int x1)]) (by decide) rfl (dOk_at dt_X10_stand 10 rfl) ?_
    refine j_sub [2, 3, 1, 0] rfl ?_
    exact b15 FU (uI h 107 2 (0 : Int32)) x1 (0 : Int32) (0 : Int32) 
  · refine j_iconst hC (v := (-1 : Int32)) rfl (dOk_at dt_X10_stand 5 rfl) ?_
    exact j_iret hC hret (dOk_at dt_X10_stand 6 rfl)
def tb_X10_groundOf : List (Nat × Instr × Nat) := [(0, .iconst 0, 1), (1, .istore_n 3, 1), (2, .iconst 0, 1), (3, .istore 4, 2), (5, .iload 4, 2), (7, .bipush 8, 2), (9, .if_icmp .ge 101, 3), (12, .iconst 0, 1), (13, .istore 5, 2), (15, .iconst 0, 1), (16, .istore 6, 2), (18, .iload 6, 2), (20, .aload_n 0, 1), (21, .getfield 243, 3), (24, .if_icmp .ge 35, 3), (27, .iload 5, 2), (29, .aload_n 0, 1), (30, .iload 6, 2), (32, .iload_n 1, 1), (33, .iload_n 2, 1), (34, .invokevirtual 474, 3), (37, .iload_n 3, 1), (38, .iand, 1), (39, .ifCond .eq 10, 3), (42, .iconst 1, 1), (43, .iload 6, 2), (45, .ishl, 1), (46, .goto 4, 3), (49, .iconst 0, 1), (50, .ior, 1), (51, .istore 5, 2), (53, .iinc 6 1, 3), (56, .goto (-38), 3), (59, .iconst 0, 1), (60, .istore 6, 2), (62, .iload 6, 2), (64, .aload_n 0, 1), (65, .getfield 243, 3), (68, .if_icmp .ge 36, 3), (71, .iload_n 3, 1), (72, .aload_n 0, 1), (73, .iload 6, 2), (75, .iload_n 1, 1), (76, .iload_n 2, 1), (77, .invokevirtual 474, 3), (80, .iload 5, 2), (82, .iconst (-1), 1), (83, .ixor, 1), (84, .iand, 1), (85, .ifCond .ne 10, 3), (88, .iconst 1, 1), (89, .iload 6, 2), (91, .ishl, 1), (92, .goto 4, 3), (95, .iconst 0, 1), (96, .ior, 1), (97, .istore_n 3, 1), (98, .iinc 6 1, 3), (101, .goto (-39), 3), (104, .iinc 4 1, 3), (107, .goto (-102), 3), (110, .iload_n 3, 1), (111, .ireturn, 1)]
theorem dt_X10_groundOf : dOk cX10_groundOf tb_X10_groundOf = true := by decide +kernel
def fX10_groundOf_96 (rec5 : Hp → Int32 → Int32 → Int32 → Int32 → Option (Int32 × Hp)) (rec62 : Hp → Int32 → Int32 → Int32 → Int32 → Int32 → Int32 → Option (Int32 × Hp)) (h : Hp) (x1 : Int32) (x2 : Int32) (x4 : Int32) (x5 : Int32) (x6 : Int32) (s0 : Int32) (s1 : Int32) : Option (Int32 × Hp) := rec62 h x1 x2 (s0 ||| s1) x4 x5 (x6 + (1 : Int32))
def fX10_groundOf_62 : Nat → (Hp → Int32 → Int32 → Int32 → Int32 → Option (Int32 × Hp)) → Hp → Int32 → Int32 → Int32 → Int32 → Int32 → Int32 → Option (Int32 × Hp)
  | 0, _, _, _, _, _, _, _, _ => none
  | fu + 1, rec5, h, x1, x2, x3, x4, x5, x6 => if (hI h 107 12) ≤ x6 then (rec5 h x1 x2 x3 (x4 + (1 : Int32))) else (bnd (fX10_againstIt h x6 x1 x2) (fun v_7 h_8 => if (v_7 &&& (x5 ^^^ (-1 : Int32))) = 0 then (fX10_groundOf_96 rec5 (fX10_groundOf_62 fu rec5) h_8 x1 x2 x4 x5 x6 x3 ((1 : Int32) <<< (x6 &&& 31))) else (fX10_groundOf_96 rec5 (fX10_groundOf_62 fu rec5) h_8 x1 x2 x4 x5 x6 x3 (0 : Int32))))
def fX10_groundOf_50 (rec5 : Hp → Int32 → Int32 → Int32 → Int32 → Option (Int32 × Hp)) (rec18 : Hp → Int32 → Int32 → Int32 → Int32 → Int32 → Int32 → Option (Int32 × Hp)) (h : Hp) (x1 : Int32) (x2 : Int32) (x3 : Int32) (x4 : Int32) (x6 : Int32) (s0 : Int32) (s1 : Int32) : Option (Int32 × Hp) := rec18 h x1 x2 x3 x4 (s0 ||| s1) (x6 + (1 : Int32))
def fX10_groundOf_18 : Nat → (Hp → Int32 → Int32 → Int32 → Int32 → Option (Int32 × Hp)) → Hp → Int32 → Int32 → Int32 → Int32 → Int32 → Int32 → Option (Int32 × Hp)
  | 0, _, _, _, _, _, _, _, _ => none
  | fu + 1, rec5, h, x1, x2, x3, x4, x5, x6 => if (hI h 107 12) ≤ x6 then (fX10_groundOf_62 FU rec5 h x1 x2 x3 x4 x5 (0 : Int32)) else (bnd (fX10_againstIt h x6 x1 x2) (fun v_3 h_4 => if (v_3 &&& x3) = 0 then (fX10_groundOf_50 rec5 (fX10_groundOf_18 fu rec5) h_4 x1 x2 x3 x4 x6 x5 (0 : Int32)) else (fX10_groundOf_50 rec5 (fX10_groundOf_18 fu rec5) h_4 x1 x2 x3 x4 x6 x5 ((1 : Int32) <<< (x6 &&& 31)))))
def fX10_groundOf_5 : Nat → Hp → Int32 → Int32 → Int32 → Int32 → Option (Int32 × Hp)
  | 0, _, _, _, _, _ => none
  | fu + 1, h, x1, x2, x3, x4 => if (8 : Int32) ≤ x4 then (some (x3, h)) else (fX10_groundOf_18 FU (fX10_groundOf_5 fu) h x1 x2 x3 x4 (0 : Int32) (0 : Int32))
def fX10_groundOf (h : Hp) (x1 : Int32) (x2 : Int32) : Option (Int32 × Hp) := fX10_groundOf_5 FU h x1 x2 (0 : Int32) (0 : Int32)
set_option maxRecDepth 100000 in
set_option maxHeartbeats 4000000 in
theorem c_X10_groundOf {l : Launch} {sb : State} {D : va_G} {ids : Nat → ClassId} {n : Nat} (hN : 152 ≤ n) (h : Hp) (x1 : Int32) (x2 : Int32) (r : Int32 × Hp) (hr : fX10_groundOf h x1 x2 = some r) : jM l yX10_groundOf cX10_groundOf 7 (some .int) 1 sb D ids shp St n [.ref 107, .int x1, .int x2] h (jQi sb D ids shp St n r) := by
  refine jM_of hr rfl (Nat.le_of_ble_eq_true rfl) ?_
  intro p e s m args below meth c hC hret
  have b96 : ∀ (rec5 : Hp → Int32 → Int32 → Int32 → Int32 → Option (Int32 × Hp)) (hrec5 : ∀ (h : Hp) (x1 : Int32) (x2 : Int32) (x3 : Int32) (x4 : Int32) , jJ p l e (rmD 1) s m args below meth c 7 sb D ids shp St (fun r => MQ below (jQi sb D ids shp St n r) args s 0 0 (jA sb)) n 0 0 h 5 [(0, .ref 107), (1, .int x1), (2, .int x2), (3, .int x3), (4, .int x4)] [] (rec5 h x1 x2 x3 x4)) (rec62 : Hp → Int32 → Int32 → Int32 → Int32 → Int32 → Int32 → Option (Int32 × Hp)) (hrec62 : ∀ (h : Hp) (x1 : Int32) (x2 : Int32) (x3 : Int32) (x4 : Int32) (x5 : Int32) (x6 : Int32) , jJ p l e (rmD 1) s m args below meth c 7 sb D ids shp St (fun r => MQ below (jQi sb D ids shp St n r) args s 0 0 (jA sb)) n 0 0 h 62 [(0, .ref 107), (1, .int x1), (2, .int x2), (3, .int x3), (4, .int x4), (5, .int x5), (6, .int x6)] [] (rec62 h x1 x2 x3 x4 x5 x6)) (h : Hp) (x1 : Int32) (x2 : Int32) (x4 : Int32) (x5 : Int32) (x6 : Int32) (s0 : Int32) (s1 : Int32) , jJ p l e (rmD 1) s m args below meth c 7 sb D ids shp St (fun r => MQ below (jQi sb D ids shp St n r) args s 0 0 (jA sb)) n 0 0 h 96 [(0, .ref 107), (1, .int x1), (2, .int x2), (4, .int x4), (5, .int x5), (6, .int x6)] [.int s1, .int s0] (fX10_groundOf_96 rec5 rec62 h x1 x2 x4 x5 x6 s0 s1) := by
    intro rec5 hrec5 rec62 hrec62 h x1 x2 x4 x5 x6 s0 s1 
    unfold fX10_groundOf_96
    refine j_ior hC (dOk_at dt_X10_groundOf 55 rfl) ?_
    refine j_istore_n hC rfl (lv' := [(3, .int (s0 ||| s1)), (0, .ref 107), (1, .int x1), (2, .int x2), (4, .int x4), (5, .int x5), (6, .int x6)]) (by decide) rfl (dOk_at dt_X10_groundOf 56 rfl) ?_
    refine j_iinc hC (v := (x6 + (1 : Int32))) (lv' := [(6, .int (x6 + (1 : Int32))), (3, .int (s0 ||| s1)), (0, .ref 107), (1, .int x1), (2, .int x2), (4, .int x4), (5, .int x5)]) 6 rfl (congrArg (fun z => x6 + z) (show Int32.ofInt (1) = (1 : Int32) from by decide)) (by decide) rfl (dOk_at dt_X10_groundOf 57 rfl) ?_
    refine j_goto hC (tgt := 62) (by decide) (dOk_at dt_X10_groundOf 58 rfl) ?_
    refine j_sub [2, 3, 4, 1, 5, 6, 0] rfl ?_
    exact hrec62 h x1 x2 (s0 ||| s1) x4 x5 (x6 + (1 : Int32)) 
  have b62 : ∀ (fu : Nat) (rec5 : Hp → Int32 → Int32 → Int32 → Int32 → Option (Int32 × Hp)) (hrec5 : ∀ (h : Hp) (x1 : Int32) (x2 : Int32) (x3 : Int32) (x4 : Int32) , jJ p l e (rmD 1) s m args below meth c 7 sb D ids shp St (fun r => MQ below (jQi sb D ids shp St n r) args s 0 0 (jA sb)) n 0 0 h 5 [(0, .ref 107), (1, .int x1), (2, .int x2), (3, .int x3), (4, .int x4)] [] (rec5 h x1 x2 x3 x4)) (h : Hp) (x1 : Int32) (x2 : Int32) (x3 : Int32) (x4 : Int32) (x5 : Int32) (x6 : Int32) , jJ p l e (rmD 1) s m args below meth c 7 sb D ids shp St (fun r => MQ below (jQi sb D ids shp St n r) args s 0 0 (jA sb)) n 0 0 h 62 [(0, .ref 107), (1, .int x1), (2, .int x2), (3, .int x3), (4, .int x4), (5, .int x5), (6, .int x6)] [] (fX10_groundOf_62 fu rec5 h x1 x2 x3 x4 x5 x6) := by
    intro fu rec5 hrec5
    induction fu with
    | zero => intro h x1 x2 x3 x4 x5 x6 ; exact j_none
    | succ fu ih =>
    intro h x1 x2 x3 x4 x5 x6 
    rw [fX10_groundOf_62]
    refine j_iload hC 6 rfl (dOk_at dt_X10_groundOf 35 rfl) ?_
    refine j_aload_n hC 0 rfl rfl (dOk_at dt_X10_groundOf 36 rfl) ?_
    refine j_getI hC flX10_243 (show shp 107 = (10, 88) from rfl) (Nat.lt_of_lt_of_le (Nat.le_of_ble_eq_true rfl : 107 < 152) hN) (by decide) (by decide) (fun _ _ _ => rfl) (dOk_at dt_X10_groundOf 37 rfl) ?_
    refine j_icmp_ge hC (tgt := 104) (by decide) (dOk_at dt_X10_groundOf 38 rfl) (fun q_6 => ?_) (fun q_6 => ?_)
    · refine j_iinc hC (v := (x4 + (1 : Int32))) (lv' := [(4, .int (x4 + (1 : Int32))), (0, .ref 107), (1, .int x1), (2, .int x2), (3, .int x3), (5, .int x5), (6, .int x6)]) 4 rfl (congrArg (fun z => x4 + z) (show Int32.ofInt (1) = (1 : Int32) from by decide)) (by decide) rfl (dOk_at dt_X10_groundOf 59 rfl) ?_
      refine j_goto hC (tgt := 5) (by decide) (dOk_at dt_X10_groundOf 60 rfl) ?_
      refine j_sub [1, 2, 3, 4, 0] rfl ?_
      exact hrec5 h x1 x2 x3 (x4 + (1 : Int32)) 
    · refine j_iload_n hC 3 rfl rfl (dOk_at dt_X10_groundOf 39 rfl) ?_
      refine j_aload_n hC 0 rfl rfl (dOk_at dt_X10_groundOf 40 rfl) ?_
      refine j_iload hC 6 rfl (dOk_at dt_X10_groundOf 41 rfl) ?_
      refine j_iload_n hC 1 rfl rfl (dOk_at dt_X10_groundOf 42 rfl) ?_
      refine j_iload_n hC 2 rfl rfl (dOk_at dt_X10_groundOf 43 rfl) ?_
      refine j_callVi hC clX10_474 (fun rz hrz => c_X10_againstIt hN _ _ _ _ rz hrz) (show shp 107 = (10, 88) from rfl) (Nat.lt_of_lt_of_le (Nat.le_of_ble_eq_true rfl : 107 < 152) hN) (by decide) rfl rfl ⟨Nat.le_of_ble_eq_true rfl, Nat.le_of_ble_eq_true rfl⟩ ⟨Nat.le_refl 0, Nat.le_refl 0⟩ (As := [.int x6, .int x1, .int x2]) (st := [.int x3]) rfl (Nat.le_of_ble_eq_true rfl) (dOk_at dt_X10_groundOf 44 rfl) (fun v_7 h_8 _ => ?_)
      refine j_iload hC 5 rfl (dOk_at dt_X10_groundOf 45 rfl) ?_
      refine j_iconst hC (v := (-1 : Int32)) rfl (dOk_at dt_X10_groundOf 46 rfl) ?_
      refine j_ixor hC (dOk_at dt_X10_groundOf 47 rfl) ?_
      refine j_iand hC (dOk_at dt_X10_groundOf 48 rfl) ?_
      refine j_if_ne hC (tgt := 95) (by decide) (dOk_at dt_X10_groundOf 49 rfl) (fun q_9 => ?_) (fun q_9 => ?_)
      · refine j_iconst hC (v := (0 : Int32)) rfl (dOk_at dt_X10_groundOf 54 rfl) ?_
        refine j_sub [0, 1, 2, 4, 5, 6] rfl ?_
        exact b96 rec5 hrec5 (fX10_groundOf_62 fu rec5) ih h_8 x1 x2 x4 x5 x6 x3 (0 : Int32) 
      · refine j_iconst hC (v := (1 : Int32)) rfl (dOk_at dt_X10_groundOf 50 rfl) ?_
        refine j_iload hC 6 rfl (dOk_at dt_X10_groundOf 51 rfl) ?_
        refine j_ishl hC (dOk_at dt_X10_groundOf 52 rfl) ?_
        refine j_goto hC (tgt := 96) (by decide) (dOk_at dt_X10_groundOf 53 rfl) ?_
        refine j_sub [0, 1, 2, 4, 5, 6] rfl ?_
        exact b96 rec5 hrec5 (fX10_groundOf_62 fu rec5) ih h_8 x1 x2 x4 x5 x6 x3 ((1 : Int32) <<< (x6 &&& 31)) 
  have b50 : ∀ (rec5 : Hp → Int32 → Int32 → Int32 → Int32 → Option (Int32 × Hp)) (hrec5 : ∀ (h : Hp) (x1 : Int32) (x2 : Int32) (x3 : Int32) (x4 : Int32) , jJ p l e (rmD 1) s m args below meth c 7 sb D ids shp St (fun r => MQ below (jQi sb D ids shp St n r) args s 0 0 (jA sb)) n 0 0 h 5 [(0, .ref 107), (1, .int x1), (2, .int x2), (3, .int x3), (4, .int x4)] [] (rec5 h x1 x2 x3 x4)) (rec18 : Hp → Int32 → Int32 → Int32 → Int32 → Int32 → Int32 → Option (Int32 × Hp)) (hrec18 : ∀ (h : Hp) (x1 : Int32) (x2 : Int32) (x3 : Int32) (x4 : Int32) (x5 : Int32) (x6 : Int32) , jJ p l e (rmD 1) s m args below meth c 7 sb D ids shp St (fun r => MQ below (jQi sb D ids shp St n r) args s 0 0 (jA sb)) n 0 0 h 18 [(0, .ref 107), (1, .int x1), (2, .int x2), (3, .int x3), (4, .int x4), (5, .int x5), (6, .int x6)] [] (rec18 h x1 x2 x3 x4 x5 x6)) (h : Hp) (x1 : Int32) (x2 : Int32) (x3 : Int32) (x4 : Int32) (x6 : Int32) (s0 : Int32) (s1 : Int32) , jJ p l e (rmD 1) s m args below meth c 7 sb D ids shp St (fun r => MQ below (jQi sb D ids shp St n r) args s 0 0 (jA sb)) n 0 0 h 50 [(0, .ref 107), (1, .int x1), (2, .int x2), (3, .int x3), (4, .int x4), (6, .int x6)] [.int s1, .int s0] (fX10_groundOf_50 rec5 rec18 h x1 x2 x3 x4 x6 s0 s1) := by
    intro rec5 hrec5 rec18 hrec18 h x1 x2 x3 x4 x6 s0 s1 
    unfold fX10_groundOf_50
    refine j_ior hC (dOk_at dt_X10_groundOf 29 rfl) ?_
    refine j_istore hC (lv' := [(5, .int (s0 ||| s1)), (0, .ref 107), (1, .int x1), (2, .int x2), (3, .int x3), (4, .int x4), (6, .int x6)]) (by decide) rfl (dOk_at dt_X10_groundOf 30 rfl) ?_
    refine j_iinc hC (v := (x6 + (1 : Int32))) (lv' := [(6, .int (x6 + (1 : Int32))), (5, .int (s0 ||| s1)), (0, .ref 107), (1, .int x1), (2, .int x2), (3, .int x3), (4, .int x4)]) 6 rfl (congrArg (fun z => x6 + z) (show Int32.ofInt (1) = (1 : Int32) from by decide)) (by decide) rfl (dOk_at dt_X10_groundOf 31 rfl) ?_
    refine j_goto hC (tgt := 18) (by decide) (dOk_at dt_X10_groundOf 32 rfl) ?_
    refine j_sub [2, 3, 4, 5, 6, 1, 0] rfl ?_
    exact hrec18 h x1 x2 x3 x4 (s0 ||| s1) (x6 + (1 : Int32)) 
  have b18 : ∀ (fu : Nat) (rec5 : Hp → Int32 → Int32 → Int32 → Int32 → Option (Int32 × Hp)) (hrec5 : ∀ (h : Hp) (x1 : Int32) (x2 : Int32) (x3 : Int32) (x4 : Int32) , jJ p l e (rmD 1) s m args below meth c 7 sb D ids shp St (fun r => MQ below (jQi sb D ids shp St n r) args s 0 0 (jA sb)) n 0 0 h 5 [(0, .ref 107), (1, .int x1), (2, .int x2), (3, .int x3), (4, .int x4)] [] (rec5 h x1 x2 x3 x4)) (h : Hp) (x1 : Int32) (x2 : Int32) (x3 : Int32) (x4 : Int32) (x5 : Int32) (x6 : Int32) , jJ p l e (rmD 1) s m args below meth c 7 sb D ids shp St (fun r => MQ below (jQi sb D ids shp St n r) args s 0 0 (jA sb)) n 0 0 h 18 [(0, .ref 107), (1, .int x1), (2, .int x2), (3, .int x3), (4, .int x4), (5, .int x5), (6, .int x6)] [] (fX10_groundOf_18 fu rec5 h x1 x2 x3 x4 x5 x6) := by
    intro fu rec5 hrec5
    induction fu with
    | zero => intro h x1 x2 x3 x4 x5 x6 ; exact j_none
    | succ fu ih =>
    intro h x1 x2 x3 x4 x5 x6 
    rw [fX10_groundOf_18]
    refine j_iload hC 6 rfl (dOk_at dt_X10_groundOf 11 rfl) ?_
    refine j_aload_n hC 0 rfl rfl (dOk_at dt_X10_groundOf 12 rfl) ?_
    refine j_getI hC flX10_243 (show shp 107 = (10, 88) from rfl) (Nat.lt_of_lt_of_le (Nat.le_of_ble_eq_true rfl : 107 < 152) hN) (by decide) (by decide) (fun _ _ _ => rfl) (dOk_at dt_X10_groundOf 13 rfl) ?_
    refine j_icmp_ge hC (tgt := 59) (by decide) (dOk_at dt_X10_groundOf 14 rfl) (fun q_2 => ?_) (fun q_2 => ?_)
    · refine j_iconst hC (v := (0 : Int32)) rfl (dOk_at dt_X10_groundOf 33 rfl) ?_
      refine j_istore hC (lv' := [(6, .int (0 : Int32)), (0, .ref 107), (1, .int x1), (2, .int x2), (3, .int x3), (4, .int x4), (5, .int x5)]) (by decide) rfl (dOk_at dt_X10_groundOf 34 rfl) ?_
      refine j_sub [1, 2, 3, 4, 5, 6, 0] rfl ?_
      exact b62 FU rec5 hrec5 h x1 x2 x3 x4 x5 (0 : Int32) 
    · refine j_iload hC 5 rfl (dOk_at dt_X10_groundOf 15 rfl) ?_
      refine j_aload_n hC 0 rfl rfl (dOk_at dt_X10_groundOf 16 rfl) ?_
      refine j_iload hC 6 rfl (dOk_at dt_X10_groundOf 17 rfl) ?_
      refine j_iload_n hC 1 rfl rfl (dOk_at dt_X10_groundOf 18 rfl) ?_
      refine j_iload_n hC 2 rfl rfl (dOk_at dt_X10_groundOf 19 rfl) ?_
      refine j_callVi hC clX10_474 (fun rz hrz => c_X10_againstIt hN _ _ _ _ rz hrz) (show shp 107 = (10, 88) from rfl) (Nat.lt_of_lt_of_le (Nat.le_of_ble_eq_true rfl : 107 < 152) hN) (by decide) rfl rfl ⟨Nat.le_of_ble_eq_true rfl, Nat.le_of_ble_eq_true rfl⟩ ⟨Nat.le_refl 0, Nat.le_refl 0⟩ (As := [.int x6, .int x1, .int x2]) (st := [.int x5]) rfl (Nat.le_of_ble_eq_true rfl) (dOk_at dt_X10_groundOf 20 rfl) (fun v_3 h_4 _ => ?_)
      refine j_iload_n hC 3 rfl rfl (dOk_at dt_X10_groundOf 21 rfl) ?_
      refine j_iand hC (dOk_at dt_X10_groundOf 22 rfl) ?_
      refine j_if_eq hC (tgt := 49) (by decide) (dOk_at dt_X10_groundOf 23 rfl) (fun q_5 => ?_) (fun q_5 => ?_)
      · refine j_iconst hC (v := (0 : Int32)) rfl (dOk_at dt_X10_groundOf 28 rfl) ?_
        refine j_sub [0, 1, 2, 3, 4, 6] rfl ?_
        exact b50 rec5 hrec5 (fX10_groundOf_18 fu rec5) ih h_4 x1 x2 x3 x4 x6 x5 (0 : Int32) 
      · refine j_iconst hC (v := (1 : Int32)) rfl (dOk_at dt_X10_groundOf 24 rfl) ?_
        refine j_iload hC 6 rfl (dOk_at dt_X10_groundOf 25 rfl) ?_
        refine j_ishl hC (dOk_at dt_X10_groundOf 26 rfl) ?_
        refine j_goto hC (tgt := 50) (by decide) (dOk_at dt_X10_groundOf 27 rfl) ?_
        refine j_sub [0, 1, 2, 3, 4, 6] rfl ?_
        exact b50 rec5 hrec5 (fX10_groundOf_18 fu rec5) ih h_4 x1 x2 x3 x4 x6 x5 ((1 : Int32) <<< (x6 &&& 31)) 
  have b5 : ∀ (fu : Nat) (h : Hp) (x1 : Int32) (x2 : Int32) (x3 : Int32) (x4 : Int32) , jJ p l e (rmD 1) s m args below meth c 7 sb D ids shp St (fun r => MQ below (jQi sb D ids shp St n r) args s 0 0 (jA sb)) n 0 0 h 5 [(0, .ref 107), (1, .int x1), (2, .int x2), (3, .int x3), (4, .int x4)] [] (fX10_groundOf_5 fu h x1 x2 x3 x4) := by
    intro fu 
    induction fu with
    | zero => intro h x1 x2 x3 x4 ; exact j_none
    | succ fu ih =>
    intro h x1 x2 x3 x4 
    rw [fX10_groundOf_5]
    refine j_iload hC 4 rfl (dOk_at dt_X10_groundOf 4 rfl) ?_
    refine j_bipush hC (v := (8 : Int32)) rfl (dOk_at dt_X10_groundOf 5 rfl) ?_
    refine j_icmp_ge hC (tgt := 110) (by decide) (dOk_at dt_X10_groundOf 6 rfl) (fun q_1 => ?_) (fun q_1 => ?_)
    · refine j_iload_n hC 3 rfl rfl (dOk_at dt_X10_groundOf 61 rfl) ?_
      exact j_iret hC hret (dOk_at dt_X10_groundOf 62 rfl)
    · refine j_iconst hC (v := (0 : Int32)) rfl (dOk_at dt_X10_groundOf 7 rfl) ?_
      refine j_istore hC (lv' := [(5, .int (0 : Int32)), (0, .ref 107), (1, .int x1), (2, .int x2), (3, .int x3), (4, .int x4)]) (by decide) rfl (dOk_at dt_X10_groundOf 8 rfl) ?_
      refine j_iconst hC (v := (0 : Int32)) rfl (dOk_at dt_X10_groundOf 9 rfl) ?_
      refine j_istore hC (lv' := [(6, .int (0 : Int32)), (5, .int (0 : Int32)), (0, .ref 107), (1, .int x1), (2, .int x2), (3, .int x3), (4, .int x4)]) (by decide) rfl (dOk_at dt_X10_groundOf 10 rfl) ?_
      refine j_sub [2, 3, 4, 5, 6, 1, 0] rfl ?_
      exact b18 FU (fX10_groundOf_5 fu) ih h x1 x2 x3 x4 (0 : Int32) (0 : Int32) 
  unfold fX10_groundOf
  refine j_iconst hC (v := (0 : Int32)) rfl (dOk_at dt_X10_groundOf 0 rfl) ?_
  refine j_istore_n hC rfl (lv' := [(3, .int (0 : Int32)), (0, .ref 107), (1, .int x1), (2, .int x2)]) (by decide) rfl (dOk_at dt_X10_groundOf 1 rfl) ?_
  refine j_iconst hC (v := (0 : Int32)) rfl (dOk_at dt_X10_groundOf 2 rfl) ?_
  refine j_istore hC (lv' := [(4, .int (0 : Int32)), (3, .int (0 : Int32)), (0, .ref 107), (1, .int x1), (2, .int x2)]) (by decide) rfl (dOk_at dt_X10_groundOf 3 rfl) ?_
  refine j_sub [2, 3, 4, 1, 0] rfl ?_
  exact b5 FU h x1 x2 (0 : Int32) (0 : Int32) 
def tb_X10_ground : List (Nat × Instr × Nat) := [(0, .aload_n 0, 1), (1, .iconst 0, 1), (2, .putfield 157, 3), (5, .aload_n 0, 1), (6, .iconst (-1), 1), (7, .iconst (-1), 1), (8, .invokevirtual 510, 3), (11, .ireturn, 1)]
theorem dt_X10_ground : dOk cX10_ground tb_X10_ground = true := by decide +kernel
def fX10_ground (h : Hp) : Option (Int32 × Hp) := bnd (fX10_groundOf (uI h 107 2 (0 : Int32)) (-1 : Int32) (-1 : Int32)) (fun v_1 h_2 => some (v_1, h_2))
set_option maxRecDepth 100000 in
set_option maxHeartbeats 4000000 in
theorem c_X10_ground {l : Launch} {sb : State} {D : va_G} {ids : Nat → ClassId} {n : Nat} (hN : 152 ≤ n) (h : Hp) (r : Int32 × Hp) (hr : fX10_ground h = some r) : jM l yX10_ground cX10_ground 1 (some .int) 2 sb D ids shp St n [.ref 107] h (jQi sb D ids shp St n r) := by
  refine jM_of hr rfl (Nat.le_of_ble_eq_true rfl) ?_
  intro p e s m args below meth c hC hret
  unfold fX10_ground
  refine j_aload_n hC 0 rfl rfl (dOk_at dt_X10_ground 0 rfl) ?_
  refine j_iconst hC (v := (0 : Int32)) rfl (dOk_at dt_X10_ground 1 rfl) ?_
  refine j_putI hC St_SP flX10_157 (show shp 107 = (10, 88) from rfl) (Nat.lt_of_lt_of_le (Nat.le_of_ble_eq_true rfl : 107 < 152) hN) (by decide) (by decide) rfl rfl (dOk_at dt_X10_ground 2 rfl) ?_
  refine j_aload_n hC 0 rfl rfl (dOk_at dt_X10_ground 3 rfl) ?_
  refine j_iconst hC (v := (-1 : Int32)) rfl (dOk_at dt_X10_ground 4 rfl) ?_
  refine j_iconst hC (v := (-1 : Int32)) rfl (dOk_at dt_X10_ground 5 rfl) ?_
  refine j_callVi hC clX10_510 (fun rz hrz => c_X10_groundOf hN _ _ _ rz hrz) (show shp 107 = (10, 88) from rfl) (Nat.lt_of_lt_of_le (Nat.le_of_ble_eq_true rfl : 107 < 152) hN) (by decide) rfl rfl ⟨Nat.le_of_ble_eq_true rfl, Nat.le_of_ble_eq_true rfl⟩ ⟨Nat.le_refl 0, Nat.le_refl 0⟩ (As := [.int (-1 : Int32), .int (-1 : Int32)]) (st := []) rfl (Nat.le_of_ble_eq_true rfl) (dOk_at dt_X10_ground 6 rfl) (fun v_1 h_2 _ => ?_)
  exact j_iret hC hret (dOk_at dt_X10_ground 7 rfl)
def tb_X10_largest : List (Nat × Instr × Nat) := [(0, .aload_n 0, 1), (1, .iconst 0, 1), (2, .putfield 157, 3), (5, .iconst 0, 1), (6, .istore_n 1, 1), (7, .iconst 1, 1), (8, .istore_n 2, 1), (9, .iload_n 2, 1), (10, .iconst 1, 1), (11, .aload_n 0, 1), (12, .getfield 243, 3), (15, .ishl, 1), (16, .if_icmp .ge 34, 3), (19, .iload_n 2, 1), (20, .invokestatic 423, 3), (23, .iload_n 1, 1), (24, .invokestatic 423, 3), (27, .if_icmp .le 15, 3), (30, .aload_n 0, 1), (31, .iload_n 2, 1), (32, .invokevirtual 507, 3), (35, .ifCond .eq 7, 3), (38, .iload_n 2, 1), (39, .goto 4, 3), (42, .iload_n 1, 1), (43, .istore_n 1, 1), (44, .iinc 2 1, 3), (47, .goto (-38), 3), (50, .iload_n 1, 1), (51, .ireturn, 1)]
theorem dt_X10_largest : dOk cX10_largest tb_X10_largest = true := by decide +kernel
def fX10_largest_43 (rec9 : Hp → Int32 → Int32 → Option (Int32 × Hp)) (h : Hp) (x2 : Int32) (s0 : Int32) : Option (Int32 × Hp) := rec9 h s0 (x2 + (1 : Int32))
def fX10_largest_42 (rec9 : Hp → Int32 → Int32 → Option (Int32 × Hp)) (h : Hp) (x1 : Int32) (x2 : Int32) : Option (Int32 × Hp) := fX10_largest_43 rec9 h x2 x1
def fX10_largest_9 : Nat → Hp → Int32 → Int32 → Option (Int32 × Hp)
  | 0, _, _, _ => none
  | fu + 1, h, x1, x2 => if ((1 : Int32) <<< ((hI h 107 12) &&& 31)) ≤ x2 then (some (x1, h)) else (bnd (fX10_manyOf h x2) (fun v_2 h_3 => bnd (fX10_manyOf h_3 x1) (fun v_4 h_5 => if v_2 ≤ v_4 then (fX10_largest_42 (fX10_largest_9 fu) h_5 x1 x2) else (bnd (fX10_isDefended h_5 x2) (fun v_7 h_8 => if v_7 = 0 then (fX10_largest_42 (fX10_largest_9 fu) h_8 x1 x2) else (fX10_largest_43 (fX10_largest_9 fu) h_8 x2 x2))))))
def fX10_largest (h : Hp) : Option (Int32 × Hp) := fX10_largest_9 FU (uI h 107 2 (0 : Int32)) (0 : Int32) (1 : Int32)
set_option maxRecDepth 100000 in
set_option maxHeartbeats 4000000 in
theorem c_X10_largest {l : Launch} {sb : State} {D : va_G} {ids : Nat → ClassId} {n : Nat} (hN : 152 ≤ n) (h : Hp) (r : Int32 × Hp) (hr : fX10_largest h = some r) : jM l yX10_largest cX10_largest 3 (some .int) 3 sb D ids shp St n [.ref 107] h (jQi sb D ids shp St n r) := by
  refine jM_of hr rfl (Nat.le_of_ble_eq_true rfl) ?_
  intro p e s m args below meth c hC hret
  have b43 : ∀ (rec9 : Hp → Int32 → Int32 → Option (Int32 × Hp)) (hrec9 : ∀ (h : Hp) (x1 : Int32) (x2 : Int32) , jJ p l e (rmD 3) s m args below meth c 3 sb D ids shp St (fun r => MQ below (jQi sb D ids shp St n r) args s 0 0 (jA sb)) n 0 0 h 9 [(0, .ref 107), (1, .int x1), (2, .int x2)] [] (rec9 h x1 x2)) (h : Hp) (x2 : Int32) (s0 : Int32) , jJ p l e (rmD 3) s m args below meth c 3 sb D ids shp St (fun r => MQ below (jQi sb D ids shp St n r) args s 0 0 (jA sb)) n 0 0 h 43 [(0, .ref 107), (2, .int x2)] [.int s0] (fX10_largest_43 rec9 h x2 s0) := by
    intro rec9 hrec9 h x2 s0 
    unfold fX10_largest_43
    refine j_istore_n hC rfl (lv' := [(1, .int s0), (0, .ref 107), (2, .int x2)]) (by decide) rfl (dOk_at dt_X10_largest 25 rfl) ?_
    refine j_iinc hC (v := (x2 + (1 : Int32))) (lv' := [(2, .int (x2 + (1 : Int32))), (1, .int s0), (0, .ref 107)]) 2 rfl (congrArg (fun z => x2 + z) (show Int32.ofInt (1) = (1 : Int32) from by decide)) (by decide) rfl (dOk_at dt_X10_largest 26 rfl) ?_
    refine j_goto hC (tgt := 9) (by decide) (dOk_at dt_X10_largest 27 rfl) ?_
    refine j_sub [2, 1, 0] rfl ?_
    exact hrec9 h s0 (x2 + (1 : Int32)) 
  have b42 : ∀ (rec9 : Hp → Int32 → Int32 → Option (Int32 × Hp)) (hrec9 : ∀ (h : Hp) (x1 : Int32) (x2 : Int32) , jJ p l e (rmD 3) s m args below meth c 3 sb D ids shp St (fun r => MQ below (jQi sb D ids shp St n r) args s 0 0 (jA sb)) n 0 0 h 9 [(0, .ref 107), (1, .int x1), (2, .int x2)] [] (rec9 h x1 x2)) (h : Hp) (x1 : Int32) (x2 : Int32) , jJ p l e (rmD 3) s m args below meth c 3 sb D ids shp St (fun r => MQ below (jQi sb D ids shp St n r) args s 0 0 (jA sb)) n 0 0 h 42 [(0, .ref 107), (1, .int x1), (2, .int x2)] [] (fX10_largest_42 rec9 h x1 x2) := by
    intro rec9 hrec9 h x1 x2 
    unfold fX10_largest_42
    refine j_iload_n hC 1 rfl rfl (dOk_at dt_X10_largest 24 rfl) ?_
    refine j_sub [0, 2] rfl ?_
    exact b43 rec9 hrec9 h x2 x1 
  have b9 : ∀ (fu : Nat) (h : Hp) (x1 : Int32) (x2 : Int32) , jJ p l e (rmD 3) s m args below meth c 3 sb D ids shp St (fun r => MQ below (jQi sb D ids shp St n r) args s 0 0 (jA sb)) n 0 0 h 9 [(0, .ref 107), (1, .int x1), (2, .int x2)] [] (fX10_largest_9 fu h x1 x2) := by
    intro fu 
    induction fu with
    | zero => intro h x1 x2 ; exact j_none
    | succ fu ih =>
    intro h x1 x2 
    rw [fX10_largest_9]
    refine j_iload_n hC 2 rfl rfl (dOk_at dt_X10_largest 7 rfl) ?_
    refine j_iconst hC (v := (1 : Int32)) rfl (dOk_at dt_X10_largest 8 rfl) ?_
    refine j_aload_n hC 0 rfl rfl (dOk_at dt_X10_largest 9 rfl) ?_
    refine j_getI hC flX10_243 (show shp 107 = (10, 88) from rfl) (Nat.lt_of_lt_of_le (Nat.le_of_ble_eq_true rfl : 107 < 152) hN) (by decide) (by decide) (fun _ _ _ => rfl) (dOk_at dt_X10_largest 10 rfl) ?_
    refine j_ishl hC (dOk_at dt_X10_largest 11 rfl) ?_
    refine j_icmp_ge hC (tgt := 50) (by decide) (dOk_at dt_X10_largest 12 rfl) (fun q_1 => ?_) (fun q_1 => ?_)
    · refine j_iload_n hC 1 rfl rfl (dOk_at dt_X10_largest 28 rfl) ?_
      exact j_iret hC hret (dOk_at dt_X10_largest 29 rfl)
    · refine j_iload_n hC 2 rfl rfl (dOk_at dt_X10_largest 13 rfl) ?_
      refine j_callSi hC clX10_423 (fun rz hrz => c_X10_manyOf hN _ _ rz hrz) rfl ⟨Nat.le_of_ble_eq_true rfl, Nat.le_of_ble_eq_true rfl⟩ ⟨Nat.le_refl 0, Nat.le_refl 0⟩ (As := [.int x2]) (st := []) rfl (Nat.le_of_ble_eq_true rfl) (dOk_at dt_X10_largest 14 rfl) (fun v_2 h_3 _ => ?_)
      refine j_iload_n hC 1 rfl rfl (dOk_at dt_X10_largest 15 rfl) ?_
      refine j_callSi hC clX10_423 (fun rz hrz => c_X10_manyOf hN _ _ rz hrz) rfl ⟨Nat.le_of_ble_eq_true rfl, Nat.le_of_ble_eq_true rfl⟩ ⟨Nat.le_refl 0, Nat.le_refl 0⟩ (As := [.int x1]) (st := [.int v_2]) rfl (Nat.le_of_ble_eq_true rfl) (dOk_at dt_X10_largest 16 rfl) (fun v_4 h_5 _ => ?_)
      refine j_icmp_le hC (tgt := 42) (by decide) (dOk_at dt_X10_largest 17 rfl) (fun q_6 => ?_) (fun q_6 => ?_)
      · exact b42 (fX10_largest_9 fu) ih h_5 x1 x2 
      · refine j_aload_n hC 0 rfl rfl (dOk_at dt_X10_largest 18 rfl) ?_
        refine j_iload_n hC 2 rfl rfl (dOk_at dt_X10_largest 19 rfl) ?_
        refine j_callVi hC clX10_507 (fun rz hrz => c_X10_isDefended hN _ _ rz hrz) (show shp 107 = (10, 88) from rfl) (Nat.lt_of_lt_of_le (Nat.le_of_ble_eq_true rfl : 107 < 152) hN) (by decide) rfl rfl ⟨Nat.le_of_ble_eq_true rfl, Nat.le_of_ble_eq_true rfl⟩ ⟨Nat.le_refl 0, Nat.le_refl 0⟩ (As := [.int x2]) (st := []) rfl (Nat.le_of_ble_eq_true rfl) (dOk_at dt_X10_largest 20 rfl) (fun v_7 h_8 _ => ?_)
        refine j_if_eq hC (tgt := 42) (by decide) (dOk_at dt_X10_largest 21 rfl) (fun q_9 => ?_) (fun q_9 => ?_)
        · exact b42 (fX10_largest_9 fu) ih h_8 x1 x2 
        · refine j_iload_n hC 2 rfl rfl (dOk_at dt_X10_largest 22 rfl) ?_
          refine j_goto hC (tgt := 43) (by decide) (dOk_at dt_X10_largest 23 rfl) ?_
          refine j_sub [0, 2] rfl ?_
          exact b43 (fX10_largest_9 fu) ih h_8 x2 x2 
  unfold fX10_largest
  refine j_aload_n hC 0 rfl rfl (dOk_at dt_X10_largest 0 rfl) ?_
  refine j_iconst hC (v := (0 : Int32)) rfl (dOk_at dt_X10_largest 1 rfl) ?_
  refine j_putI hC St_SP flX10_157 (show shp 107 = (10, 88) from rfl) (Nat.lt_of_lt_of_le (Nat.le_of_ble_eq_true rfl : 107 < 152) hN) (by decide) (by decide) rfl rfl (dOk_at dt_X10_largest 2 rfl) ?_
  refine j_iconst hC (v := (0 : Int32)) rfl (dOk_at dt_X10_largest 3 rfl) ?_
  refine j_istore_n hC rfl (lv' := [(1, .int (0 : Int32)), (0, .ref 107)]) (by decide) rfl (dOk_at dt_X10_largest 4 rfl) ?_
  refine j_iconst hC (v := (1 : Int32)) rfl (dOk_at dt_X10_largest 5 rfl) ?_
  refine j_istore_n hC rfl (lv' := [(2, .int (1 : Int32)), (1, .int (0 : Int32)), (0, .ref 107)]) (by decide) rfl (dOk_at dt_X10_largest 6 rfl) ?_
  refine j_sub [2, 1, 0] rfl ?_
  exact b9 FU (uI h 107 2 (0 : Int32)) (0 : Int32) (1 : Int32) 
def tb_X10_replyBy : List (Nat × Instr × Nat) := [(0, .aload_n 0, 1), (1, .iload_n 2, 1), (2, .iconst (-1), 1), (3, .iconst (-1), 1), (4, .invokevirtual 474, 3), (7, .istore_n 3, 1), (8, .iconst 0, 1), (9, .istore 4, 2), (11, .iload 4, 2), (13, .aload_n 0, 1), (14, .getfield 243, 3), (17, .if_icmp .ge 50, 3), (20, .iload_n 3, 1), (21, .iload 4, 2), (23, .invokestatic 282, 3), (26, .ifCond .eq 35, 3), (29, .iload_n 1, 1), (30, .iload 4, 2), (32, .invokestatic 282, 3), (35, .ifCond .ne 26, 3), (38, .aload_n 0, 1), (39, .getfield 124, 3), (42, .bipush 8, 2), (44, .iload_n 1, 1), (45, .iconst 1, 1), (46, .iload 4, 2), (48, .ishl, 1), (49, .ior, 1), (50, .imul, 1), (51, .iload 4, 2), (53, .iadd, 1), (54, .baload, 1), (55, .ifCond .ne 6, 3), (58, .iload 4, 2), (60, .ireturn, 1), (61, .iinc 4 1, 3), (64, .goto (-53), 3), (67, .iconst (-1), 1), (68, .ireturn, 1)]
theorem dt_X10_replyBy : dOk cX10_replyBy tb_X10_replyBy = true := by decide +kernel
def fX10_replyBy_61 (rec11 : Hp → Int32 → Int32 → Int32 → Option (Int32 × Hp)) (h : Hp) (x1 : Int32) (x3 : Int32) (x4 : Int32) : Option (Int32 × Hp) := rec11 h x1 x3 (x4 + (1 : Int32))
def fX10_replyBy_11 : Nat → Hp → Int32 → Int32 → Int32 → Option (Int32 × Hp)
  | 0, _, _, _, _ => none
  | fu + 1, h, x1, x3, x4 => if (hI h 107 12) ≤ x4 then (some ((-1 : Int32), h)) else (bnd (fX10_isOf h x3 x4) (fun v_4 h_5 => if v_4 = 0 then (fX10_replyBy_61 (fX10_replyBy_11 fu) h_5 x1 x3 x4) else (bnd (fX10_isOf h_5 x1 x4) (fun v_7 h_8 => if v_7 = 0 then (if inb (((8 : Int32) * (x1 ||| ((1 : Int32) <<< (x4 &&& 31)))) + x4) 2048 then (if (hI h_8 144 (Int32.toNatClampNeg (((8 : Int32) * (x1 ||| ((1 : Int32) <<< (x4 &&& 31)))) + x4))) = 0 then (some (x4, h_8)) else (fX10_replyBy_61 (fX10_replyBy_11 fu) h_8 x1 x3 x4)) else none) else (fX10_replyBy_61 (fX10_replyBy_11 fu) h_8 x1 x3 x4)))))
def fX10_replyBy (h : Hp) (x1 : Int32) (x2 : Int32) : Option (Int32 × Hp) := bnd (fX10_againstIt h x2 (-1 : Int32) (-1 : Int32)) (fun v_1 h_2 => fX10_replyBy_11 FU h_2 x1 v_1 (0 : Int32))
set_option maxRecDepth 100000 in
set_option maxHeartbeats 4000000 in
theorem c_X10_replyBy {l : Launch} {sb : State} {D : va_G} {ids : Nat → ClassId} {n : Nat} (hN : 152 ≤ n) (h : Hp) (x1 : Int32) (x2 : Int32) (r : Int32 × Hp) (hr : fX10_replyBy h x1 x2 = some r) : jM l yX10_replyBy cX10_replyBy 5 (some .int) 1 sb D ids shp St n [.ref 107, .int x1, .int x2] h (jQi sb D ids shp St n r) := by
  refine jM_of hr rfl (Nat.le_of_ble_eq_true rfl) ?_
  intro p e s m args below meth c hC hret
  have b61 : ∀ (rec11 : Hp → Int32 → Int32 → Int32 → Option (Int32 × Hp)) (hrec11 : ∀ (h : Hp) (x1 : Int32) (x3 : Int32) (x4 : Int32) , jJ p l e (rmD 1) s m args below meth c 5 sb D ids shp St (fun r => MQ below (jQi sb D ids shp St n r) args s 0 0 (jA sb)) n 0 0 h 11 [(0, .ref 107), (1, .int x1), (3, .int x3), (4, .int x4)] [] (rec11 h x1 x3 x4)) (h : Hp) (x1 : Int32) (x3 : Int32) (x4 : Int32) , jJ p l e (rmD 1) s m args below meth c 5 sb D ids shp St (fun r => MQ below (jQi sb D ids shp St n r) args s 0 0 (jA sb)) n 0 0 h 61 [(0, .ref 107), (1, .int x1), (3, .int x3), (4, .int x4)] [] (fX10_replyBy_61 rec11 h x1 x3 x4) := by
    intro rec11 hrec11 h x1 x3 x4 
    unfold fX10_replyBy_61
    refine j_iinc hC (v := (x4 + (1 : Int32))) (lv' := [(4, .int (x4 + (1 : Int32))), (0, .ref 107), (1, .int x1), (3, .int x3)]) 3 rfl (congrArg (fun z => x4 + z) (show Int32.ofInt (1) = (1 : Int32) from by decide)) (by decide) rfl (dOk_at dt_X10_replyBy 35 rfl) ?_
    refine j_goto hC (tgt := 11) (by decide) (dOk_at dt_X10_replyBy 36 rfl) ?_
    refine j_sub [1, 2, 3, 0] rfl ?_
    exact hrec11 h x1 x3 (x4 + (1 : Int32)) 
  have b11 : ∀ (fu : Nat) (h : Hp) (x1 : Int32) (x3 : Int32) (x4 : Int32) , jJ p l e (rmD 1) s m args below meth c 5 sb D ids shp St (fun r => MQ below (jQi sb D ids shp St n r) args s 0 0 (jA sb)) n 0 0 h 11 [(0, .ref 107), (1, .int x1), (3, .int x3), (4, .int x4)] [] (fX10_replyBy_11 fu h x1 x3 x4) := by
    intro fu 
    induction fu with
    | zero => intro h x1 x3 x4 ; exact j_none
    | succ fu ih =>
    intro h x1 x3 x4 
    rw [fX10_replyBy_11]
    refine j_iload hC 3 rfl (dOk_at dt_X10_replyBy 8 rfl) ?_
    refine j_aload_n hC 0 rfl rfl (dOk_at dt_X10_replyBy 9 rfl) ?_
    refine j_getI hC flX10_243 (show shp 107 = (10, 88) from rfl) (Nat.lt_of_lt_of_le (Nat.le_of_ble_eq_true rfl : 107 < 152) hN) (by decide) (by decide) (fun _ _ _ => rfl) (dOk_at dt_X10_replyBy 10 rfl) ?_
    refine j_icmp_ge hC (tgt := 67) (by decide) (dOk_at dt_X10_replyBy 11 rfl) (fun q_3 => ?_) (fun q_3 => ?_)
    · refine j_iconst hC (v := (-1 : Int32)) rfl (dOk_at dt_X10_replyBy 37 rfl) ?_
      exact j_iret hC hret (dOk_at dt_X10_replyBy 38 rfl)
    · refine j_iload_n hC 2 rfl rfl (dOk_at dt_X10_replyBy 12 rfl) ?_
      refine j_iload hC 3 rfl (dOk_at dt_X10_replyBy 13 rfl) ?_
      refine j_callSi hC clX10_282 (fun rz hrz => c_X10_isOf hN _ _ _ rz hrz) rfl ⟨Nat.le_of_ble_eq_true rfl, Nat.le_of_ble_eq_true rfl⟩ ⟨Nat.le_refl 0, Nat.le_refl 0⟩ (As := [.int x3, .int x4]) (st := []) rfl (Nat.le_of_ble_eq_true rfl) (dOk_at dt_X10_replyBy 14 rfl) (fun v_4 h_5 _ => ?_)
      refine j_if_eq hC (tgt := 61) (by decide) (dOk_at dt_X10_replyBy 15 rfl) (fun q_6 => ?_) (fun q_6 => ?_)
      · exact b61 (fX10_replyBy_11 fu) ih h_5 x1 x3 x4 
      · refine j_iload_n hC 1 rfl rfl (dOk_at dt_X10_replyBy 16 rfl) ?_
        refine j_iload hC 3 rfl (dOk_at dt_X10_replyBy 17 rfl) ?_
        refine j_callSi hC clX10_282 (fun rz hrz => c_X10_isOf hN _ _ _ rz hrz) rfl ⟨Nat.le_of_ble_eq_true rfl, Nat.le_of_ble_eq_true rfl⟩ ⟨Nat.le_refl 0, Nat.le_refl 0⟩ (As := [.int x1, .int x4]) (st := []) rfl (Nat.le_of_ble_eq_true rfl) (dOk_at dt_X10_replyBy 18 rfl) (fun v_7 h_8 _ => ?_)
        refine j_if_ne hC (tgt := 61) (by decide) (dOk_at dt_X10_replyBy 19 rfl) (fun q_9 => ?_) (fun q_9 => ?_)
        · exact b61 (fX10_replyBy_11 fu) ih h_8 x1 x3 x4 
        · refine j_aload_n hC 0 rfl rfl (dOk_at dt_X10_replyBy 20 rfl) ?_
          refine j_getR hC flX10_124 (show shp 107 = (10, 88) from rfl) (Nat.lt_of_lt_of_le (Nat.le_of_ble_eq_true rfl : 107 < 152) hN) (by decide) (by decide) (fun _ _ _ => rfl) (fun hs => hs 107 73 144 rfl) (dOk_at dt_X10_replyBy 21 rfl) ?_
          refine j_bipush hC (v := (8 : Int32)) rfl (dOk_at dt_X10_replyBy 22 rfl) ?_
          refine j_iload_n hC 1 rfl rfl (dOk_at dt_X10_replyBy 23 rfl) ?_
          refine j_iconst hC (v := (1 : Int32)) rfl (dOk_at dt_X10_replyBy 24 rfl) ?_
          refine j_iload hC 3 rfl (dOk_at dt_X10_replyBy 25 rfl) ?_
          refine j_ishl hC (dOk_at dt_X10_replyBy 26 rfl) ?_
          refine j_ior hC (dOk_at dt_X10_replyBy 27 rfl) ?_
          refine j_imul hC (dOk_at dt_X10_replyBy 28 rfl) ?_
          refine j_iload hC 3 rfl (dOk_at dt_X10_replyBy 29 rfl) ?_
          refine j_iadd hC (dOk_at dt_X10_replyBy 30 rfl) ?_
          refine j_zald hC (show shp 144 = (23, 2048) from rfl) (Nat.lt_of_lt_of_le (Nat.le_of_ble_eq_true rfl : 144 < 152) hN) (dOk_at dt_X10_replyBy 31 rfl) ?_
          refine j_if_ne hC (tgt := 61) (by decide) (dOk_at dt_X10_replyBy 32 rfl) (fun q_10 => ?_) (fun q_10 => ?_)
          · exact b61 (fX10_replyBy_11 fu) ih h_8 x1 x3 x4 
          · refine j_iload hC 3 rfl (dOk_at dt_X10_replyBy 33 rfl) ?_
            exact j_iret hC hret (dOk_at dt_X10_replyBy 34 rfl)
  unfold fX10_replyBy
  refine j_aload_n hC 0 rfl rfl (dOk_at dt_X10_replyBy 0 rfl) ?_
  refine j_iload_n hC 2 rfl rfl (dOk_at dt_X10_replyBy 1 rfl) ?_
  refine j_iconst hC (v := (-1 : Int32)) rfl (dOk_at dt_X10_replyBy 2 rfl) ?_
  refine j_iconst hC (v := (-1 : Int32)) rfl (dOk_at dt_X10_replyBy 3 rfl) ?_
  refine j_callVi hC clX10_474 (fun rz hrz => c_X10_againstIt hN _ _ _ _ rz hrz) (show shp 107 = (10, 88) from rfl) (Nat.lt_of_lt_of_le (Nat.le_of_ble_eq_true rfl : 107 < 152) hN) (by decide) rfl rfl ⟨Nat.le_of_ble_eq_true rfl, Nat.le_of_ble_eq_true rfl⟩ ⟨Nat.le_refl 0, Nat.le_refl 0⟩ (As := [.int x2, .int (-1 : Int32), .int (-1 : Int32)]) (st := []) rfl (Nat.le_of_ble_eq_true rfl) (dOk_at dt_X10_replyBy 4 rfl) (fun v_1 h_2 _ => ?_)
  refine j_istore_n hC rfl (lv' := [(3, .int v_1), (0, .ref 107), (1, .int x1), (2, .int x2)]) (by decide) rfl (dOk_at dt_X10_replyBy 5 rfl) ?_
  refine j_iconst hC (v := (0 : Int32)) rfl (dOk_at dt_X10_replyBy 6 rfl) ?_
  refine j_istore hC (lv' := [(4, .int (0 : Int32)), (3, .int v_1), (0, .ref 107), (1, .int x1), (2, .int x2)]) (by decide) rfl (dOk_at dt_X10_replyBy 7 rfl) ?_
  refine j_sub [2, 3, 1, 0] rfl ?_
  exact b11 FU h_2 x1 v_1 (0 : Int32) 
def tb_X10_replies : List (Nat × Instr × Nat) := [(0, .aload_n 0, 1), (1, .iconst 0, 1), (2, .putfield 157, 3), (5, .aload_n 0, 1), (6, .iload_n 1, 1), (7, .invokevirtual 465, 3), (10, .ifCond .eq 12, 3), (13, .iload_n 2, 1), (14, .iconst 0, 1), (15, .iconst 1, 1), (16, .invokestatic 202, 3), (19, .ifCond .ne 5, 3), (22, .iconst (-1), 1), (23, .ireturn, 1), (24, .iconst 1, 1), (25, .aload_n 0, 1), (26, .getfield 243, 3), (29, .ishl, 1), (30, .iconst 1, 1), (31, .isub, 1), (32, .istore_n 3, 1), (33, .iload_n 3, 1), (34, .ifCond .le 63, 3), (37, .iconst 0, 1), (38, .istore 4, 2), (40, .iload 4, 2), (42, .aload_n 0, 1), (43, .getfield 243, 3), (46, .if_icmp .ge 45, 3), (49, .aload_n 0, 1), (50, .getfield 124, 3), (53, .bipush 8, 2), (55, .iload_n 3, 1), (56, .imul, 1), (57, .iload 4, 2), (59, .iadd, 1), (60, .iload_n 3, 1), (61, .iload 4, 2), (63, .invokestatic 282, 3), (66, .ifCond .eq 17, 3), (69, .aload_n 0, 1), (70, .iload_n 3, 1), (71, .iload 4, 2), (73, .invokevirtual 513, 3), (76, .ifCond .lt 7, 3), (79, .iconst 1, 1), (80, .goto 4, 3), (83, .iconst 0, 1), (84, .bastore, 1), (85, .iinc 4 1, 3), (88, .goto (-48), 3), (91, .iinc 3 (-1), 3), (94, .goto (-61), 3), (97, .aload_n 0, 1), (98, .iconst 1, 1), (99, .iload_n 1, 1), (100, .ishl, 1), (101, .iload_n 1, 1), (102, .invokevirtual 513, 3), (105, .istore_n 3, 1), (106, .iload_n 2, 1), (107, .ifCond .ne 13, 3), (110, .iload_n 3, 1), (111, .ifCond .ge 7, 3), (114, .iconst 0, 1), (115, .goto 4, 3), (118, .iconst 1, 1), (119, .ireturn, 1), (120, .iload_n 3, 1), (121, .ifCond .ge 8, 3), (124, .bipush (-2), 2), (126, .goto 4, 3), (129, .iload_n 3, 1), (130, .ireturn, 1)]
theorem dt_X10_replies : dOk cX10_replies tb_X10_replies = true := by decide +kernel
def fX10_replies_84 (rec33 : Hp → Int32 → Int32 → Int32 → Option (Int32 × Hp)) (rec40 : Hp → Int32 → Int32 → Int32 → Int32 → Option (Int32 × Hp)) (h : Hp) (x1 : Int32) (x2 : Int32) (x3 : Int32) (x4 : Int32) (s1 : Int32) (s2 : Int32) : Option (Int32 × Hp) := if isZ s2 then (if inb s1 2048 then (rec40 (uI h 144 (Int32.toNatClampNeg s1) s2) x1 x2 x3 (x4 + (1 : Int32))) else none) else none
def fX10_replies_83 (rec33 : Hp → Int32 → Int32 → Int32 → Option (Int32 × Hp)) (rec40 : Hp → Int32 → Int32 → Int32 → Int32 → Option (Int32 × Hp)) (h : Hp) (x1 : Int32) (x2 : Int32) (x3 : Int32) (x4 : Int32) (s1 : Int32) : Option (Int32 × Hp) := fX10_replies_84 rec33 rec40 h x1 x2 x3 x4 s1 (0 : Int32)
def fX10_replies_40 : Nat → (Hp → Int32 → Int32 → Int32 → Option (Int32 × Hp)) → Hp → Int32 → Int32 → Int32 → Int32 → Option (Int32 × Hp)
  | 0, _, _, _, _, _, _ => none
  | fu + 1, rec33, h, x1, x2, x3, x4 => if (hI h 107 12) ≤ x4 then (rec33 h x1 x2 (x3 + (-1 : Int32))) else (bnd (fX10_isOf h x3 x4) (fun v_14 h_15 => if v_14 = 0 then (fX10_replies_83 rec33 (fX10_replies_40 fu rec33) h_15 x1 x2 x3 x4 (((8 : Int32) * x3) + x4)) else (bnd (fX10_replyBy h_15 x3 x4) (fun v_17 h_18 => if v_17 < 0 then (fX10_replies_83 rec33 (fX10_replies_40 fu rec33) h_18 x1 x2 x3 x4 (((8 : Int32) * x3) + x4)) else (fX10_replies_84 rec33 (fX10_replies_40 fu rec33) h_18 x1 x2 x3 x4 (((8 : Int32) * x3) + x4) (1 : Int32))))))
def fX10_replies_33 : Nat → Hp → Int32 → Int32 → Int32 → Option (Int32 × Hp)
  | 0, _, _, _, _ => none
  | fu + 1, h, x1, x2, x3 => if x3 ≤ 0 then (bnd (fX10_replyBy h ((1 : Int32) <<< (x1 &&& 31)) x1) (fun v_8 h_9 => if x2 = 0 then (if 0 ≤ v_8 then (some ((1 : Int32), h_9)) else (some ((0 : Int32), h_9))) else (if 0 ≤ v_8 then (some (v_8, h_9)) else (some ((-2 : Int32), h_9))))) else (fX10_replies_40 FU (fX10_replies_33 fu) h x1 x2 x3 (0 : Int32))
def fX10_replies (h : Hp) (x1 : Int32) (x2 : Int32) : Option (Int32 × Hp) := bnd (fX10_isClaim (uI h 107 2 (0 : Int32)) x1) (fun v_1 h_2 => if v_1 = 0 then (some ((-1 : Int32), h_2)) else (bnd (fX10_isIn h_2 x2 (0 : Int32) (1 : Int32)) (fun v_4 h_5 => if v_4 = 0 then (some ((-1 : Int32), h_5)) else (fX10_replies_33 FU h_5 x1 x2 (((1 : Int32) <<< ((hI h_5 107 12) &&& 31)) - (1 : Int32))))))
set_option maxRecDepth 100000 in
set_option maxHeartbeats 4000000 in
theorem c_X10_replies {l : Launch} {sb : State} {D : va_G} {ids : Nat → ClassId} {n : Nat} (hN : 152 ≤ n) (h : Hp) (x1 : Int32) (x2 : Int32) (r : Int32 × Hp) (hr : fX10_replies h x1 x2 = some r) : jM l yX10_replies cX10_replies 5 (some .int) 2 sb D ids shp St n [.ref 107, .int x1, .int x2] h (jQi sb D ids shp St n r) := by
  refine jM_of hr rfl (Nat.le_of_ble_eq_true rfl) ?_
  intro p e s m args below meth c hC hret
  have b84 : ∀ (rec33 : Hp → Int32 → Int32 → Int32 → Option (Int32 × Hp)) (hrec33 : ∀ (h : Hp) (x1 : Int32) (x2 : Int32) (x3 : Int32) , jJ p l e (rmD 2) s m args below meth c 5 sb D ids shp St (fun r => MQ below (jQi sb D ids shp St n r) args s 0 0 (jA sb)) n 0 0 h 33 [(0, .ref 107), (1, .int x1), (2, .int x2), (3, .int x3)] [] (rec33 h x1 x2 x3)) (rec40 : Hp → Int32 → Int32 → Int32 → Int32 → Option (Int32 × Hp)) (hrec40 : ∀ (h : Hp) (x1 : Int32) (x2 : Int32) (x3 : Int32) (x4 : Int32) , jJ p l e (rmD 2) s m args below meth c 5 sb D ids shp St (fun r => MQ below (jQi sb D ids shp St n r) args s 0 0 (jA sb)) n 0 0 h 40 [(0, .ref 107), (1, .int x1), (2, .int x2), (3, .int x3), (4, .int x4)] [] (rec40 h x1 x2 x3 x4)) (h : Hp) (x1 : Int32) (x2 : Int32) (x3 : Int32) (x4 : Int32) (s1 : Int32) (s2 : Int32) , jJ p l e (rmD 2) s m args below meth c 5 sb D ids shp St (fun r => MQ below (jQi sb D ids shp St n r) args s 0 0 (jA sb)) n 0 0 h 84 [(0, .ref 107), (1, .int x1), (2, .int x2), (3, .int x3), (4, .int x4)] [.int s2, .int s1, .ref 144] (fX10_replies_84 rec33 rec40 h x1 x2 x3 x4 s1 s2) := by
    intro rec33 hrec33 rec40 hrec40 h x1 x2 x3 x4 s1 s2 
    unfold fX10_replies_84
    refine j_ite (P := isZ s2 = true) (fun hz_20 => ?_) (fun _ => j_none)
    refine j_zast hC St_SP (show shp 144 = (23, 2048) from rfl) (Nat.lt_of_lt_of_le (Nat.le_of_ble_eq_true rfl : 144 < 152) hN) hz_20 (dOk_at dt_X10_replies 48 rfl) ?_
    refine j_iinc hC (v := (x4 + (1 : Int32))) (lv' := [(4, .int (x4 + (1 : Int32))), (0, .ref 107), (1, .int x1), (2, .int x2), (3, .int x3)]) 4 rfl (congrArg (fun z => x4 + z) (show Int32.ofInt (1) = (1 : Int32) from by decide)) (by decide) rfl (dOk_at dt_X10_replies 49 rfl) ?_
    refine j_goto hC (tgt := 40) (by decide) (dOk_at dt_X10_replies 50 rfl) ?_
    refine j_sub [1, 2, 3, 4, 0] rfl ?_
    exact hrec40 (uI h 144 (Int32.toNatClampNeg s1) s2) x1 x2 x3 (x4 + (1 : Int32)) 
  have b83 : ∀ (rec33 : Hp → Int32 → Int32 → Int32 → Option (Int32 × Hp)) (hrec33 : ∀ (h : Hp) (x1 : Int32) (x2 : Int32) (x3 : Int32) , jJ p l e (rmD 2) s m args below meth c 5 sb D ids shp St (fun r => MQ below (jQi sb D ids shp St n r) args s 0 0 (jA sb)) n 0 0 h 33 [(0, .ref 107), (1, .int x1), (2, .int x2), (3, .int x3)] [] (rec33 h x1 x2 x3)) (rec40 : Hp → Int32 → Int32 → Int32 → Int32 → Option (Int32 × Hp)) (hrec40 : ∀ (h : Hp) (x1 : Int32) (x2 : Int32) (x3 : Int32) (x4 : Int32) , jJ p l e (rmD 2) s m args below meth c 5 sb D ids shp St (fun r => MQ below (jQi sb D ids shp St n r) args s 0 0 (jA sb)) n 0 0 h 40 [(0, .ref 107), (1, .int x1), (2, .int x2), (3, .int x3), (4, .int x4)] [] (rec40 h x1 x2 x3 x4)) (h : Hp) (x1 : Int32) (x2 : Int32) (x3 : Int32) (x4 : Int32) (s1 : Int32) , jJ p l e (rmD 2) s m args below meth c 5 sb D ids shp St (fun r => MQ below (jQi sb D ids shp St n r) args s 0 0 (jA sb)) n 0 0 h 83 [(0, .ref 107), (1, .int x1), (2, .int x2), (3, .int x3), (4, .int x4)] [.int s1, .ref 144] (fX10_replies_83 rec33 rec40 h x1 x2 x3 x4 s1) := by
    intro rec33 hrec33 rec40 hrec40 h x1 x2 x3 x4 s1 
    unfold fX10_replies_83
    refine j_iconst hC (v := (0 : Int32)) rfl (dOk_at dt_X10_replies 47 rfl) ?_
    exact b84 rec33 hrec33 rec40 hrec40 h x1 x2 x3 x4 s1 (0 : Int32) 
  have b40 : ∀ (fu : Nat) (rec33 : Hp → Int32 → Int32 → Int32 → Option (Int32 × Hp)) (hrec33 : ∀ (h : Hp) (x1 : Int32) (x2 : Int32) (x3 : Int32) , jJ p l e (rmD 2) s m args below meth c 5 sb D ids shp St (fun r => MQ below (jQi sb D ids shp St n r) args s 0 0 (jA sb)) n 0 0 h 33 [(0, .ref 107), (1, .int x1), (2, .int x2), (3, .int x3)] [] (rec33 h x1 x2 x3)) (h : Hp) (x1 : Int32) (x2 : Int32) (x3 : Int32) (x4 : Int32) , jJ p l e (rmD 2) s m args below meth c 5 sb D ids shp St (fun r => MQ below (jQi sb D ids shp St n r) args s 0 0 (jA sb)) n 0 0 h 40 [(0, .ref 107), (1, .int x1), (2, .int x2), (3, .int x3), (4, .int x4)] [] (fX10_replies_40 fu rec33 h x1 x2 x3 x4) := by
    intro fu rec33 hrec33
    induction fu with
    | zero => intro h x1 x2 x3 x4 ; exact j_none
    | succ fu ih =>
    intro h x1 x2 x3 x4 
    rw [fX10_replies_40]
    refine j_iload hC 4 rfl (dOk_at dt_X10_replies 25 rfl) ?_
    refine j_aload_n hC 0 rfl rfl (dOk_at dt_X10_replies 26 rfl) ?_
    refine j_getI hC flX10_243 (show shp 107 = (10, 88) from rfl) (Nat.lt_of_lt_of_le (Nat.le_of_ble_eq_true rfl : 107 < 152) hN) (by decide) (by decide) (fun _ _ _ => rfl) (dOk_at dt_X10_replies 27 rfl) ?_
    refine j_icmp_ge hC (tgt := 91) (by decide) (dOk_at dt_X10_replies 28 rfl) (fun q_13 => ?_) (fun q_13 => ?_)
    · refine j_iinc hC (v := (x3 + (-1 : Int32))) (lv' := [(3, .int (x3 + (-1 : Int32))), (0, .ref 107), (1, .int x1), (2, .int x2), (4, .int x4)]) 3 rfl (congrArg (fun z => x3 + z) (show Int32.ofInt (-1) = (-1 : Int32) from by decide)) (by decide) rfl (dOk_at dt_X10_replies 51 rfl) ?_
      refine j_goto hC (tgt := 33) (by decide) (dOk_at dt_X10_replies 52 rfl) ?_
      refine j_sub [1, 2, 3, 0] rfl ?_
      exact hrec33 h x1 x2 (x3 + (-1 : Int32)) 
    · refine j_aload_n hC 0 rfl rfl (dOk_at dt_X10_replies 29 rfl) ?_
      refine j_getR hC flX10_124 (show shp 107 = (10, 88) from rfl) (Nat.lt_of_lt_of_le (Nat.le_of_ble_eq_true rfl : 107 < 152) hN) (by decide) (by decide) (fun _ _ _ => rfl) (fun hs => hs 107 73 144 rfl) (dOk_at dt_X10_replies 30 rfl) ?_
      refine j_bipush hC (v := (8 : Int32)) rfl (dOk_at dt_X10_replies 31 rfl) ?_
      refine j_iload_n hC 3 rfl rfl (dOk_at dt_X10_replies 32 rfl) ?_
      refine j_imul hC (dOk_at dt_X10_replies 33 rfl) ?_
      refine j_iload hC 4 rfl (dOk_at dt_X10_replies 34 rfl) ?_
      refine j_iadd hC (dOk_at dt_X10_replies 35 rfl) ?_
      refine j_iload_n hC 3 rfl rfl (dOk_at dt_X10_replies 36 rfl) ?_
      refine j_iload hC 4 rfl (dOk_at dt_X10_replies 37 rfl) ?_
      refine j_callSi hC clX10_282 (fun rz hrz => c_X10_isOf hN _ _ _ rz hrz) rfl ⟨Nat.le_of_ble_eq_true rfl, Nat.le_of_ble_eq_true rfl⟩ ⟨Nat.le_refl 0, Nat.le_refl 0⟩ (As := [.int x3, .int x4]) (st := [.int (((8 : Int32) * x3) + x4), .ref 144]) rfl (Nat.le_of_ble_eq_true rfl) (dOk_at dt_X10_replies 38 rfl) (fun v_14 h_15 _ => ?_)
      refine j_if_eq hC (tgt := 83) (by decide) (dOk_at dt_X10_replies 39 rfl) (fun q_16 => ?_) (fun q_16 => ?_)
      · exact b83 rec33 hrec33 (fX10_replies_40 fu rec33) ih h_15 x1 x2 x3 x4 (((8 : Int32) * x3) + x4) 
      · refine j_aload_n hC 0 rfl rfl (dOk_at dt_X10_replies 40 rfl) ?_
        refine j_iload_n hC 3 rfl rfl (dOk_at dt_X10_replies 41 rfl) ?_
        refine j_iload hC 4 rfl (dOk_at dt_X10_replies 42 rfl) ?_
        refine j_callVi hC clX10_513 (fun rz hrz => c_X10_replyBy hN _ _ _ rz hrz) (show shp 107 = (10, 88) from rfl) (Nat.lt_of_lt_of_le (Nat.le_of_ble_eq_true rfl : 107 < 152) hN) (by decide) rfl rfl ⟨Nat.le_of_ble_eq_true rfl, Nat.le_of_ble_eq_true rfl⟩ ⟨Nat.le_refl 0, Nat.le_refl 0⟩ (As := [.int x3, .int x4]) (st := [.int (((8 : Int32) * x3) + x4), .ref 144]) rfl (Nat.le_of_ble_eq_true rfl) (dOk_at dt_X10_replies 43 rfl) (fun v_17 h_18 _ => ?_)
        refine j_if_lt hC (tgt := 83) (by decide) (dOk_at dt_X10_replies 44 rfl) (fun q_19 => ?_) (fun q_19 => ?_)
        · exact b83 rec33 hrec33 (fX10_replies_40 fu rec33) ih h_18 x1 x2 x3 x4 (((8 : Int32) * x3) + x4) 
        · refine j_iconst hC (v := (1 : Int32)) rfl (dOk_at dt_X10_replies 45 rfl) ?_
          refine j_goto hC (tgt := 84) (by decide) (dOk_at dt_X10_replies 46 rfl) ?_
          exact b84 rec33 hrec33 (fX10_replies_40 fu rec33) ih h_18 x1 x2 x3 x4 (((8 : Int32) * x3) + x4) (1 : Int32) 
  have b33 : ∀ (fu : Nat) (h : Hp) (x1 : Int32) (x2 : Int32) (x3 : Int32) , jJ p l e (rmD 2) s m args below meth c 5 sb D ids shp St (fun r => MQ below (jQi sb D ids shp St n r) args s 0 0 (jA sb)) n 0 0 h 33 [(0, .ref 107), (1, .int x1), (2, .int x2), (3, .int x3)] [] (fX10_replies_33 fu h x1 x2 x3) := by
    intro fu 
    induction fu with
    | zero => intro h x1 x2 x3 ; exact j_none
    | succ fu ih =>
    intro h x1 x2 x3 
    rw [fX10_replies_33]
    refine j_iload_n hC 3 rfl rfl (dOk_at dt_X10_replies 21 rfl) ?_
    refine j_if_le hC (tgt := 97) (by decide) (dOk_at dt_X10_replies 22 rfl) (fun q_7 => ?_) (fun q_7 => ?_)
    · refine j_aload_n hC 0 rfl rfl (dOk_at dt_X10_replies 53 rfl) ?_
      refine j_iconst hC (v := (1 : Int32)) rfl (dOk_at dt_X10_replies 54 rfl) ?_
      refine j_iload_n hC 1 rfl rfl (dOk_at dt_X10_replies 55 rfl) ?_
      refine j_ishl hC (dOk_at dt_X10_replies 56 rfl) ?_
      refine j_iload_n hC 1 rfl rfl (dOk_at dt_X10_replies 57 rfl) ?_
      refine j_callVi hC clX10_513 (fun rz hrz => c_X10_replyBy hN _ _ _ rz hrz) (show shp 107 = (10, 88) from rfl) (Nat.lt_of_lt_of_le (Nat.le_of_ble_eq_true rfl : 107 < 152) hN) (by decide) rfl rfl ⟨Nat.le_of_ble_eq_true rfl, Nat.le_of_ble_eq_true rfl⟩ ⟨Nat.le_refl 0, Nat.le_refl 0⟩ (As := [.int ((1 : Int32) <<< (x1 &&& 31)), .int x1]) (st := []) rfl (Nat.le_of_ble_eq_true rfl) (dOk_at dt_X10_replies 58 rfl) (fun v_8 h_9 _ => ?_)
      refine j_istore_n hC rfl (lv' := [(3, .int v_8), (0, .ref 107), (1, .int x1), (2, .int x2)]) (by decide) rfl (dOk_at dt_X10_replies 59 rfl) ?_
      refine j_iload_n hC 3 rfl rfl (dOk_at dt_X10_replies 60 rfl) ?_
      refine j_if_ne hC (tgt := 120) (by decide) (dOk_at dt_X10_replies 61 rfl) (fun q_10 => ?_) (fun q_10 => ?_)
      · refine j_iload_n hC 0 rfl rfl (dOk_at dt_X10_replies 68 rfl) ?_
        refine j_if_ge hC (tgt := 129) (by decide) (dOk_at dt_X10_replies 69 rfl) (fun q_11 => ?_) (fun q_11 => ?_)
        · refine j_iload_n hC 0 rfl rfl (dOk_at dt_X10_replies 72 rfl) ?_
          exact j_iret hC hret (dOk_at dt_X10_replies 73 rfl)
        · refine j_bipush hC (v := (-2 : Int32)) rfl (dOk_at dt_X10_replies 70 rfl) ?_
          refine j_goto hC (tgt := 130) (by decide) (dOk_at dt_X10_replies 71 rfl) ?_
          exact j_iret hC hret (dOk_at dt_X10_replies 73 rfl)
      · refine j_iload_n hC 0 rfl rfl (dOk_at dt_X10_replies 62 rfl) ?_
        refine j_if_ge hC (tgt := 118) (by decide) (dOk_at dt_X10_replies 63 rfl) (fun q_12 => ?_) (fun q_12 => ?_)
        · refine j_iconst hC (v := (1 : Int32)) rfl (dOk_at dt_X10_replies 66 rfl) ?_
          exact j_iret hC hret (dOk_at dt_X10_replies 67 rfl)
        · refine j_iconst hC (v := (0 : Int32)) rfl (dOk_at dt_X10_replies 64 rfl) ?_
          refine j_goto hC (tgt := 119) (by decide) (dOk_at dt_X10_replies 65 rfl) ?_
          exact j_iret hC hret (dOk_at dt_X10_replies 67 rfl)
    · refine j_iconst hC (v := (0 : Int32)) rfl (dOk_at dt_X10_replies 23 rfl) ?_
      refine j_istore hC (lv' := [(4, .int (0 : Int32)), (0, .ref 107), (1, .int x1), (2, .int x2), (3, .int x3)]) (by decide) rfl (dOk_at dt_X10_replies 24 rfl) ?_
      refine j_sub [1, 2, 3, 4, 0] rfl ?_
      exact b40 FU (fX10_replies_33 fu) ih h x1 x2 x3 (0 : Int32) 
  unfold fX10_replies
  refine j_aload_n hC 0 rfl rfl (dOk_at dt_X10_replies 0 rfl) ?_
  refine j_iconst hC (v := (0 : Int32)) rfl (dOk_at dt_X10_replies 1 rfl) ?_
  refine j_putI hC St_SP flX10_157 (show shp 107 = (10, 88) from rfl) (Nat.lt_of_lt_of_le (Nat.le_of_ble_eq_true rfl : 107 < 152) hN) (by decide) (by decide) rfl rfl (dOk_at dt_X10_replies 2 rfl) ?_
  refine j_aload_n hC 0 rfl rfl (dOk_at dt_X10_replies 3 rfl) ?_
  refine j_iload_n hC 1 rfl rfl (dOk_at dt_X10_replies 4 rfl) ?_
  refine j_callVi hC clX10_465 (fun rz hrz => c_X10_isClaim hN _ _ rz hrz) (show shp 107 = (10, 88) from rfl) (Nat.lt_of_lt_of_le (Nat.le_of_ble_eq_true rfl : 107 < 152) hN) (by decide) rfl rfl ⟨Nat.le_of_ble_eq_true rfl, Nat.le_of_ble_eq_true rfl⟩ ⟨Nat.le_refl 0, Nat.le_refl 0⟩ (As := [.int x1]) (st := []) rfl (Nat.le_of_ble_eq_true rfl) (dOk_at dt_X10_replies 5 rfl) (fun v_1 h_2 _ => ?_)
  refine j_if_eq hC (tgt := 22) (by decide) (dOk_at dt_X10_replies 6 rfl) (fun q_3 => ?_) (fun q_3 => ?_)
  · refine j_iconst hC (v := (-1 : Int32)) rfl (dOk_at dt_X10_replies 12 rfl) ?_
    exact j_iret hC hret (dOk_at dt_X10_replies 13 rfl)
  · refine j_iload_n hC 2 rfl rfl (dOk_at dt_X10_replies 7 rfl) ?_
    refine j_iconst hC (v := (0 : Int32)) rfl (dOk_at dt_X10_replies 8 rfl) ?_
    refine j_iconst hC (v := (1 : Int32)) rfl (dOk_at dt_X10_replies 9 rfl) ?_
    refine j_callSi hC clX10_202 (fun rz hrz => c_X10_isIn hN _ _ _ _ rz hrz) rfl ⟨Nat.le_of_ble_eq_true rfl, Nat.le_of_ble_eq_true rfl⟩ ⟨Nat.le_refl 0, Nat.le_refl 0⟩ (As := [.int x2, .int (0 : Int32), .int (1 : Int32)]) (st := []) rfl (Nat.le_of_ble_eq_true rfl) (dOk_at dt_X10_replies 10 rfl) (fun v_4 h_5 _ => ?_)
    refine j_if_ne hC (tgt := 24) (by decide) (dOk_at dt_X10_replies 11 rfl) (fun q_6 => ?_) (fun q_6 => ?_)
    · refine j_iconst hC (v := (1 : Int32)) rfl (dOk_at dt_X10_replies 14 rfl) ?_
      refine j_aload_n hC 0 rfl rfl (dOk_at dt_X10_replies 15 rfl) ?_
      refine j_getI hC flX10_243 (show shp 107 = (10, 88) from rfl) (Nat.lt_of_lt_of_le (Nat.le_of_ble_eq_true rfl : 107 < 152) hN) (by decide) (by decide) (fun _ _ _ => rfl) (dOk_at dt_X10_replies 16 rfl) ?_
      refine j_ishl hC (dOk_at dt_X10_replies 17 rfl) ?_
      refine j_iconst hC (v := (1 : Int32)) rfl (dOk_at dt_X10_replies 18 rfl) ?_
      refine j_isub hC (dOk_at dt_X10_replies 19 rfl) ?_
      refine j_istore_n hC rfl (lv' := [(3, .int (((1 : Int32) <<< ((hI h_5 107 12) &&& 31)) - (1 : Int32))), (0, .ref 107), (1, .int x1), (2, .int x2)]) (by decide) rfl (dOk_at dt_X10_replies 20 rfl) ?_
      refine j_sub [1, 2, 3, 0] rfl ?_
      exact b33 FU h_5 x1 x2 (((1 : Int32) <<< ((hI h_5 107 12) &&& 31)) - (1 : Int32)) 
    · refine j_iconst hC (v := (-1 : Int32)) rfl (dOk_at dt_X10_replies 12 rfl) ?_
      exact j_iret hC hret (dOk_at dt_X10_replies 13 rfl)
def tb_X10_weaker : List (Nat × Instr × Nat) := [(0, .aload_n 0, 1), (1, .iconst 0, 1), (2, .putfield 157, 3), (5, .aload_n 0, 1), (6, .iload_n 1, 1), (7, .invokevirtual 465, 3), (10, .ifCond .ne 5, 3), (13, .iconst (-1), 1), (14, .ireturn, 1), (15, .bipush (-2), 2), (17, .istore_n 2, 1), (18, .iconst 0, 1), (19, .istore_n 3, 1), (20, .iload_n 3, 1), (21, .aload_n 0, 1), (22, .getfield 243, 3), (25, .if_icmp .ge 54, 3), (28, .iload_n 3, 1), (29, .iload_n 1, 1), (30, .if_icmp .eq 43, 3), (33, .aload_n 0, 1), (34, .iload_n 1, 1), (35, .invokevirtual 471, 3), (38, .aload_n 0, 1), (39, .iload_n 3, 1), (40, .invokevirtual 471, 3), (43, .iconst (-1), 1), (44, .ixor, 1), (45, .iand, 1), (46, .ifCond .eq 6, 3), (49, .goto 24, 3), (52, .iload_n 2, 1), (53, .ifCond .lt 18, 3), (56, .aload_n 0, 1), (57, .getfield 30, 3), (60, .iload_n 3, 1), (61, .iaload, 1), (62, .aload_n 0, 1), (63, .getfield 30, 3), (66, .iload_n 2, 1), (67, .iaload, 1), (68, .if_icmp .ge 5, 3), (71, .iload_n 3, 1), (72, .istore_n 2, 1), (73, .iinc 3 1, 3), (76, .goto (-56), 3), (79, .iload_n 2, 1), (80, .ireturn, 1)]
theorem dt_X10_weaker : dOk cX10_weaker tb_X10_weaker = true := by decide +kernel
def fX10_weaker_73 (rec20 : Hp → Int32 → Int32 → Int32 → Option (Int32 × Hp)) (h : Hp) (x1 : Int32) (x2 : Int32) (x3 : Int32) : Option (Int32 × Hp) := rec20 h x1 x2 (x3 + (1 : Int32))
def fX10_weaker_71 (rec20 : Hp → Int32 → Int32 → Int32 → Option (Int32 × Hp)) (h : Hp) (x1 : Int32) (x3 : Int32) : Option (Int32 × Hp) := fX10_weaker_73 rec20 h x1 x3 x3
def fX10_weaker_20 : Nat → Hp → Int32 → Int32 → Int32 → Option (Int32 × Hp)
  | 0, _, _, _, _ => none
  | fu + 1, h, x1, x2, x3 => if (hI h 107 12) ≤ x3 then (some (x2, h)) else (if x3 = x1 then (fX10_weaker_73 (fX10_weaker_20 fu) h x1 x2 x3) else (bnd (fX10_againstBy h x1) (fun v_6 h_7 => bnd (fX10_againstBy h_7 x3) (fun v_8 h_9 => if (v_6 &&& (v_8 ^^^ (-1 : Int32))) = 0 then (if x2 < 0 then (fX10_weaker_71 (fX10_weaker_20 fu) h_9 x1 x3) else (if inb x3 16 then (if inb x2 16 then (if (hI h_9 113 (Int32.toNatClampNeg x2)) ≤ (hI h_9 113 (Int32.toNatClampNeg x3)) then (fX10_weaker_73 (fX10_weaker_20 fu) h_9 x1 x2 x3) else (fX10_weaker_71 (fX10_weaker_20 fu) h_9 x1 x3)) else none) else none)) else (fX10_weaker_73 (fX10_weaker_20 fu) h_9 x1 x2 x3)))))
def fX10_weaker (h : Hp) (x1 : Int32) : Option (Int32 × Hp) := bnd (fX10_isClaim (uI h 107 2 (0 : Int32)) x1) (fun v_1 h_2 => if v_1 = 0 then (some ((-1 : Int32), h_2)) else (fX10_weaker_20 FU h_2 x1 (-2 : Int32) (0 : Int32)))
set_option maxRecDepth 100000 in
set_option maxHeartbeats 4000000 in
theorem c_X10_weaker {l : Launch} {sb : State} {D : va_G} {ids : Nat → ClassId} {n : Nat} (hN : 152 ≤ n) (h : Hp) (x1 : Int32) (r : Int32 × Hp) (hr : fX10_weaker h x1 = some r) : jM l yX10_weaker cX10_weaker 4 (some .int) 1 sb D ids shp St n [.ref 107, .int x1] h (jQi sb D ids shp St n r) := by
  refine jM_of hr rfl (Nat.le_of_ble_eq_true rfl) ?_
  intro p e s m args below meth c hC hret
  have b73 : ∀ (rec20 : Hp → Int32 → Int32 → Int32 → Option (Int32 × Hp)) (hrec20 : ∀ (h : Hp) (x1 : Int32) (x2 : Int32) (x3 : Int32) , jJ p l e (rmD 1) s m args below meth c 4 sb D ids shp St (fun r => MQ below (jQi sb D ids shp St n r) args s 0 0 (jA sb)) n 0 0 h 20 [(0, .ref 107), (1, .int x1), (2, .int x2), (3, .int x3)] [] (rec20 h x1 x2 x3)) (h : Hp) (x1 : Int32) (x2 : Int32) (x3 : Int32) , jJ p l e (rmD 1) s m args below meth c 4 sb D ids shp St (fun r => MQ below (jQi sb D ids shp St n r) args s 0 0 (jA sb)) n 0 0 h 73 [(0, .ref 107), (1, .int x1), (2, .int x2), (3, .int x3)] [] (fX10_weaker_73 rec20 h x1 x2 x3) := by
    intro rec20 hrec20 h x1 x2 x3 
    unfold fX10_weaker_73
    refine j_iinc hC (v := (x3 + (1 : Int32))) (lv' := [(3, .int (x3 + (1 : Int32))), (0, .ref 107), (1, .int x1), (2, .int x2)]) 3 rfl (congrArg (fun z => x3 + z) (show Int32.ofInt (1) = (1 : Int32) from by decide)) (by decide) rfl (dOk_at dt_X10_weaker 44 rfl) ?_
    refine j_goto hC (tgt := 20) (by decide) (dOk_at dt_X10_weaker 45 rfl) ?_
    refine j_sub [1, 2, 3, 0] rfl ?_
    exact hrec20 h x1 x2 (x3 + (1 : Int32)) 
  have b71 : ∀ (rec20 : Hp → Int32 → Int32 → Int32 → Option (Int32 × Hp)) (hrec20 : ∀ (h : Hp) (x1 : Int32) (x2 : Int32) (x3 : Int32) , jJ p l e (rmD 1) s m args below meth c 4 sb D ids shp St (fun r => MQ below (jQi sb D ids shp St n r) args s 0 0 (jA sb)) n 0 0 h 20 [(0, .ref 107), (1, .int x1), (2, .int x2), (3, .int x3)] [] (rec20 h x1 x2 x3)) (h : Hp) (x1 : Int32) (x3 : Int32) , jJ p l e (rmD 1) s m args below meth c 4 sb D ids shp St (fun r => MQ below (jQi sb D ids shp St n r) args s 0 0 (jA sb)) n 0 0 h 71 [(0, .ref 107), (1, .int x1), (3, .int x3)] [] (fX10_weaker_71 rec20 h x1 x3) := by
    intro rec20 hrec20 h x1 x3 
    unfold fX10_weaker_71
    refine j_iload_n hC 2 rfl rfl (dOk_at dt_X10_weaker 42 rfl) ?_
    refine j_istore_n hC rfl (lv' := [(2, .int x3), (0, .ref 107), (1, .int x1), (3, .int x3)]) (by decide) rfl (dOk_at dt_X10_weaker 43 rfl) ?_
    refine j_sub [1, 2, 0, 3] rfl ?_
    exact b73 rec20 hrec20 h x1 x3 x3 
  have b20 : ∀ (fu : Nat) (h : Hp) (x1 : Int32) (x2 : Int32) (x3 : Int32) , jJ p l e (rmD 1) s m args below meth c 4 sb D ids shp St (fun r => MQ below (jQi sb D ids shp St n r) args s 0 0 (jA sb)) n 0 0 h 20 [(0, .ref 107), (1, .int x1), (2, .int x2), (3, .int x3)] [] (fX10_weaker_20 fu h x1 x2 x3) := by
    intro fu 
    induction fu with
    | zero => intro h x1 x2 x3 ; exact j_none
    | succ fu ih =>
    intro h x1 x2 x3 
    rw [fX10_weaker_20]
    refine j_iload_n hC 3 rfl rfl (dOk_at dt_X10_weaker 13 rfl) ?_
    refine j_aload_n hC 0 rfl rfl (dOk_at dt_X10_weaker 14 rfl) ?_
    refine j_getI hC flX10_243 (show shp 107 = (10, 88) from rfl) (Nat.lt_of_lt_of_le (Nat.le_of_ble_eq_true rfl : 107 < 152) hN) (by decide) (by decide) (fun _ _ _ => rfl) (dOk_at dt_X10_weaker 15 rfl) ?_
    refine j_icmp_ge hC (tgt := 79) (by decide) (dOk_at dt_X10_weaker 16 rfl) (fun q_4 => ?_) (fun q_4 => ?_)
    · refine j_iload_n hC 2 rfl rfl (dOk_at dt_X10_weaker 46 rfl) ?_
      exact j_iret hC hret (dOk_at dt_X10_weaker 47 rfl)
    · refine j_iload_n hC 3 rfl rfl (dOk_at dt_X10_weaker 17 rfl) ?_
      refine j_iload_n hC 1 rfl rfl (dOk_at dt_X10_weaker 18 rfl) ?_
      refine j_icmp_eq hC (tgt := 73) (by decide) (dOk_at dt_X10_weaker 19 rfl) (fun q_5 => ?_) (fun q_5 => ?_)
      · exact b73 (fX10_weaker_20 fu) ih h x1 x2 x3 
      · refine j_aload_n hC 0 rfl rfl (dOk_at dt_X10_weaker 20 rfl) ?_
        refine j_iload_n hC 1 rfl rfl (dOk_at dt_X10_weaker 21 rfl) ?_
        refine j_callVi hC clX10_471 (fun rz hrz => c_X10_againstBy hN _ _ rz hrz) (show shp 107 = (10, 88) from rfl) (Nat.lt_of_lt_of_le (Nat.le_of_ble_eq_true rfl : 107 < 152) hN) (by decide) rfl rfl ⟨Nat.le_of_ble_eq_true rfl, Nat.le_of_ble_eq_true rfl⟩ ⟨Nat.le_refl 0, Nat.le_refl 0⟩ (As := [.int x1]) (st := []) rfl (Nat.le_of_ble_eq_true rfl) (dOk_at dt_X10_weaker 22 rfl) (fun v_6 h_7 _ => ?_)
        refine j_aload_n hC 0 rfl rfl (dOk_at dt_X10_weaker 23 rfl) ?_
        refine j_iload_n hC 3 rfl rfl (dOk_at dt_X10_weaker 24 rfl) ?_
        refine j_callVi hC clX10_471 (fun rz hrz => c_X10_againstBy hN _ _ rz hrz) (show shp 107 = (10, 88) from rfl) (Nat.lt_of_lt_of_le (Nat.le_of_ble_eq_true rfl : 107 < 152) hN) (by decide) rfl rfl ⟨Nat.le_of_ble_eq_true rfl, Nat.le_of_ble_eq_true rfl⟩ ⟨Nat.le_refl 0, Nat.le_refl 0⟩ (As := [.int x3]) (st := [.int v_6]) rfl (Nat.le_of_ble_eq_true rfl) (dOk_at dt_X10_weaker 25 rfl) (fun v_8 h_9 _ => ?_)
        refine j_iconst hC (v := (-1 : Int32)) rfl (dOk_at dt_X10_weaker 26 rfl) ?_
        refine j_ixor hC (dOk_at dt_X10_weaker 27 rfl) ?_
        refine j_iand hC (dOk_at dt_X10_weaker 28 rfl) ?_
        refine j_if_eq hC (tgt := 52) (by decide) (dOk_at dt_X10_weaker 29 rfl) (fun q_10 => ?_) (fun q_10 => ?_)
        · refine j_iload_n hC 2 rfl rfl (dOk_at dt_X10_weaker 31 rfl) ?_
          refine j_if_lt hC (tgt := 71) (by decide) (dOk_at dt_X10_weaker 32 rfl) (fun q_11 => ?_) (fun q_11 => ?_)
          · refine j_sub [0, 1, 3] rfl ?_
            exact b71 (fX10_weaker_20 fu) ih h_9 x1 x3 
          · refine j_aload_n hC 0 rfl rfl (dOk_at dt_X10_weaker 33 rfl) ?_
            refine j_getR hC flX10_30 (show shp 107 = (10, 88) from rfl) (Nat.lt_of_lt_of_le (Nat.le_of_ble_eq_true rfl : 107 < 152) hN) (by decide) (by decide) (fun _ _ _ => rfl) (fun hs => hs 107 29 113 rfl) (dOk_at dt_X10_weaker 34 rfl) ?_
            refine j_iload_n hC 3 rfl rfl (dOk_at dt_X10_weaker 35 rfl) ?_
            refine j_iald hC (show shp 113 = (21, 16) from rfl) (Nat.lt_of_lt_of_le (Nat.le_of_ble_eq_true rfl : 113 < 152) hN) (dOk_at dt_X10_weaker 36 rfl) ?_
            refine j_aload_n hC 0 rfl rfl (dOk_at dt_X10_weaker 37 rfl) ?_
            refine j_getR hC flX10_30 (show shp 107 = (10, 88) from rfl) (Nat.lt_of_lt_of_le (Nat.le_of_ble_eq_true rfl : 107 < 152) hN) (by decide) (by decide) (fun _ _ _ => rfl) (fun hs => hs 107 29 113 rfl) (dOk_at dt_X10_weaker 38 rfl) ?_
            refine j_iload_n hC 2 rfl rfl (dOk_at dt_X10_weaker 39 rfl) ?_
            refine j_iald hC (show shp 113 = (21, 16) from rfl) (Nat.lt_of_lt_of_le (Nat.le_of_ble_eq_true rfl : 113 < 152) hN) (dOk_at dt_X10_weaker 40 rfl) ?_
            refine j_icmp_ge hC (tgt := 73) (by decide) (dOk_at dt_X10_weaker 41 rfl) (fun q_12 => ?_) (fun q_12 => ?_)
            · exact b73 (fX10_weaker_20 fu) ih h_9 x1 x2 x3 
            · refine j_sub [0, 1, 3] rfl ?_
              exact b71 (fX10_weaker_20 fu) ih h_9 x1 x3 
        · refine j_goto hC (tgt := 73) (by decide) (dOk_at dt_X10_weaker 30 rfl) ?_
          exact b73 (fX10_weaker_20 fu) ih h_9 x1 x2 x3 
  unfold fX10_weaker
  refine j_aload_n hC 0 rfl rfl (dOk_at dt_X10_weaker 0 rfl) ?_
  refine j_iconst hC (v := (0 : Int32)) rfl (dOk_at dt_X10_weaker 1 rfl) ?_
  refine j_putI hC St_SP flX10_157 (show shp 107 = (10, 88) from rfl) (Nat.lt_of_lt_of_le (Nat.le_of_ble_eq_true rfl : 107 < 152) hN) (by decide) (by decide) rfl rfl (dOk_at dt_X10_weaker 2 rfl) ?_
  refine j_aload_n hC 0 rfl rfl (dOk_at dt_X10_weaker 3 rfl) ?_
  refine j_iload_n hC 1 rfl rfl (dOk_at dt_X10_weaker 4 rfl) ?_
  refine j_callVi hC clX10_465 (fun rz hrz => c_X10_isClaim hN _ _ rz hrz) (show shp 107 = (10, 88) from rfl) (Nat.lt_of_lt_of_le (Nat.le_of_ble_eq_true rfl : 107 < 152) hN) (by decide) rfl rfl ⟨Nat.le_of_ble_eq_true rfl, Nat.le_of_ble_eq_true rfl⟩ ⟨Nat.le_refl 0, Nat.le_refl 0⟩ (As := [.int x1]) (st := []) rfl (Nat.le_of_ble_eq_true rfl) (dOk_at dt_X10_weaker 5 rfl) (fun v_1 h_2 _ => ?_)
  refine j_if_ne hC (tgt := 15) (by decide) (dOk_at dt_X10_weaker 6 rfl) (fun q_3 => ?_) (fun q_3 => ?_)
  · refine j_bipush hC (v := (-2 : Int32)) rfl (dOk_at dt_X10_weaker 9 rfl) ?_
    refine j_istore_n hC rfl (lv' := [(2, .int (-2 : Int32)), (0, .ref 107), (1, .int x1)]) (by decide) rfl (dOk_at dt_X10_weaker 10 rfl) ?_
    refine j_iconst hC (v := (0 : Int32)) rfl (dOk_at dt_X10_weaker 11 rfl) ?_
    refine j_istore_n hC rfl (lv' := [(3, .int (0 : Int32)), (2, .int (-2 : Int32)), (0, .ref 107), (1, .int x1)]) (by decide) rfl (dOk_at dt_X10_weaker 12 rfl) ?_
    refine j_sub [2, 3, 1, 0] rfl ?_
    exact b20 FU h_2 x1 (-2 : Int32) (0 : Int32) 
  · refine j_iconst hC (v := (-1 : Int32)) rfl (dOk_at dt_X10_weaker 7 rfl) ?_
    exact j_iret hC hret (dOk_at dt_X10_weaker 8 rfl)
def tb_X10_dropsFor : List (Nat × Instr × Nat) := [(0, .aload_n 0, 1), (1, .getfield 127, 3), (4, .iconst 0, 1), (5, .bipush (-2), 2), (7, .iastore, 1), (8, .aload_n 0, 1), (9, .getfield 127, 3), (12, .iconst 1, 1), (13, .bipush (-2), 2), (15, .iastore, 1), (16, .aload_n 0, 1), (17, .iconst (-1), 1), (18, .iconst (-1), 1), (19, .invokevirtual 510, 3), (22, .iload_n 1, 1), (23, .invokestatic 282, 3), (26, .ifCond .eq 5, 3), (29, .iconst 0, 1), (30, .ireturn, 1), (31, .iconst 0, 1), (32, .istore_n 2, 1), (33, .iload_n 2, 1), (34, .aload_n 0, 1), (35, .getfield 246, 3), (38, .if_icmp .ge 34, 3), (41, .aload_n 0, 1), (42, .iload_n 2, 1), (43, .iconst (-1), 1), (44, .invokevirtual 510, 3), (47, .iload_n 1, 1), (48, .invokestatic 282, 3), (51, .ifCond .ne 6, 3), (54, .goto 12, 3), (57, .aload_n 0, 1), (58, .getfield 127, 3), (61, .iconst 0, 1), (62, .iload_n 2, 1), (63, .iastore, 1), (64, .iconst 1, 1), (65, .ireturn, 1), (66, .iinc 2 1, 3), (69, .goto (-36), 3), (72, .iconst 0, 1), (73, .istore_n 2, 1), (74, .iload_n 2, 1), (75, .aload_n 0, 1), (76, .getfield 246, 3), (79, .if_icmp .ge 59, 3), (82, .iload_n 2, 1), (83, .iconst 1, 1), (84, .iadd, 1), (85, .istore_n 3, 1), (86, .iload_n 3, 1), (87, .aload_n 0, 1), (88, .getfield 246, 3), (91, .if_icmp .ge 41, 3), (94, .aload_n 0, 1), (95, .iload_n 2, 1), (96, .iload_n 3, 1), (97, .invokevirtual 510, 3), (100, .iload_n 1, 1), (101, .invokestatic 282, 3), (104, .ifCond .ne 6, 3), (107, .goto 19, 3), (110, .aload_n 0, 1), (111, .getfield 127, 3), (114, .iconst 0, 1), (115, .iload_n 2, 1), (116, .iastore, 1), (117, .aload_n 0, 1), (118, .getfield 127, 3), (121, .iconst 1, 1), (122, .iload_n 3, 1), (123, .iastore, 1), (124, .iconst 2, 1), (125, .ireturn, 1), (126, .iinc 3 1, 3), (129, .goto (-43), 3), (132, .iinc 2 1, 3), (135, .goto (-61), 3), (138, .bipush (-2), 2), (140, .ireturn, 1)]
theorem dt_X10_dropsFor : dOk cX10_dropsFor tb_X10_dropsFor = true := by decide +kernel
def fX10_dropsFor_86 : Nat → (Hp → Int32 → Int32 → Option (Int32 × Hp)) → Hp → Int32 → Int32 → Int32 → Option (Int32 × Hp)
  | 0, _, _, _, _, _ => none
  | fu + 1, rec74, h, x1, x2, x3 => if (hI h 107 13) ≤ x3 then (rec74 h x1 (x2 + (1 : Int32))) else (bnd (fX10_groundOf h x2 x3) (fun v_14 h_15 => bnd (fX10_isOf h_15 v_14 x1) (fun v_16 h_17 => if v_16 = 0 then ((fX10_dropsFor_86 fu rec74) h_17 x1 x2 (x3 + (1 : Int32))) else (if inb (0 : Int32) 2 then (if inb (1 : Int32) 2 then (some ((2 : Int32), (uI (uI h_17 145 (Int32.toNatClampNeg (0 : Int32)) x2) 145 (Int32.toNatClampNeg (1 : Int32)) x3))) else none) else none))))
def fX10_dropsFor_74 : Nat → Hp → Int32 → Int32 → Option (Int32 × Hp)
  | 0, _, _, _ => none
  | fu + 1, h, x1, x2 => if (hI h 107 13) ≤ x2 then (some ((-2 : Int32), h)) else (fX10_dropsFor_86 FU (fX10_dropsFor_74 fu) h x1 x2 (x2 + (1 : Int32)))
def fX10_dropsFor_33 : Nat → Hp → Int32 → Int32 → Option (Int32 × Hp)
  | 0, _, _, _ => none
  | fu + 1, h, x1, x2 => if (hI h 107 13) ≤ x2 then (fX10_dropsFor_74 FU h x1 (0 : Int32)) else (bnd (fX10_groundOf h x2 (-1 : Int32)) (fun v_7 h_8 => bnd (fX10_isOf h_8 v_7 x1) (fun v_9 h_10 => if v_9 = 0 then ((fX10_dropsFor_33 fu) h_10 x1 (x2 + (1 : Int32))) else (if inb (0 : Int32) 2 then (some ((1 : Int32), (uI h_10 145 (Int32.toNatClampNeg (0 : Int32)) x2))) else none))))
def fX10_dropsFor (h : Hp) (x1 : Int32) : Option (Int32 × Hp) := if inb (0 : Int32) 2 then (if inb (1 : Int32) 2 then (bnd (fX10_groundOf (uI (uI h 145 (Int32.toNatClampNeg (0 : Int32)) (-2 : Int32)) 145 (Int32.toNatClampNeg (1 : Int32)) (-2 : Int32)) (-1 : Int32) (-1 : Int32)) (fun v_1 h_2 => bnd (fX10_isOf h_2 v_1 x1) (fun v_3 h_4 => if v_3 = 0 then (fX10_dropsFor_33 FU h_4 x1 (0 : Int32)) else (some ((0 : Int32), h_4))))) else none) else none
set_option maxRecDepth 100000 in
set_option maxHeartbeats 4000000 in
theorem c_X10_dropsFor {l : Launch} {sb : State} {D : va_G} {ids : Nat → ClassId} {n : Nat} (hN : 152 ≤ n) (h : Hp) (x1 : Int32) (r : Int32 × Hp) (hr : fX10_dropsFor h x1 = some r) : jM l yX10_dropsFor cX10_dropsFor 4 (some .int) 2 sb D ids shp St n [.ref 107, .int x1] h (jQi sb D ids shp St n r) := by
  refine jM_of hr rfl (Nat.le_of_ble_eq_true rfl) ?_
  intro p e s m args below meth c hC hret
  have b86 : ∀ (fu : Nat) (rec74 : Hp → Int32 → Int32 → Option (Int32 × Hp)) (hrec74 : ∀ (h : Hp) (x1 : Int32) (x2 : Int32) , jJ p l e (rmD 2) s m args below meth c 4 sb D ids shp St (fun r => MQ below (jQi sb D ids shp St n r) args s 0 0 (jA sb)) n 0 0 h 74 [(0, .ref 107), (1, .int x1), (2, .int x2)] [] (rec74 h x1 x2)) (h : Hp) (x1 : Int32) (x2 : Int32) (x3 : Int32) , jJ p l e (rmD 2) s m args below meth c 4 sb D ids shp St (fun r => MQ below (jQi sb D ids shp St n r) args s 0 0 (jA sb)) n 0 0 h 86 [(0, .ref 107), (1, .int x1), (2, .int x2), (3, .int x3)] [] (fX10_dropsFor_86 fu rec74 h x1 x2 x3) := by
    intro fu rec74 hrec74
    induction fu with
    | zero => intro h x1 x2 x3 ; exact j_none
    | succ fu ih =>
    intro h x1 x2 x3 
    rw [fX10_dropsFor_86]
    refine j_iload_n hC 3 rfl rfl (dOk_at dt_X10_dropsFor 52 rfl) ?_
    refine j_aload_n hC 0 rfl rfl (dOk_at dt_X10_dropsFor 53 rfl) ?_
    refine j_getI hC flX10_246 (show shp 107 = (10, 88) from rfl) (Nat.lt_of_lt_of_le (Nat.le_of_ble_eq_true rfl : 107 < 152) hN) (by decide) (by decide) (fun _ _ _ => rfl) (dOk_at dt_X10_dropsFor 54 rfl) ?_
    refine j_icmp_ge hC (tgt := 132) (by decide) (dOk_at dt_X10_dropsFor 55 rfl) (fun q_13 => ?_) (fun q_13 => ?_)
    · refine j_iinc hC (v := (x2 + (1 : Int32))) (lv' := [(2, .int (x2 + (1 : Int32))), (0, .ref 107), (1, .int x1), (3, .int x3)]) 2 rfl (congrArg (fun z => x2 + z) (show Int32.ofInt (1) = (1 : Int32) from by decide)) (by decide) rfl (dOk_at dt_X10_dropsFor 78 rfl) ?_
      refine j_goto hC (tgt := 74) (by decide) (dOk_at dt_X10_dropsFor 79 rfl) ?_
      refine j_sub [1, 2, 0] rfl ?_
      exact hrec74 h x1 (x2 + (1 : Int32)) 
    · refine j_aload_n hC 0 rfl rfl (dOk_at dt_X10_dropsFor 56 rfl) ?_
      refine j_iload_n hC 2 rfl rfl (dOk_at dt_X10_dropsFor 57 rfl) ?_
      refine j_iload_n hC 3 rfl rfl (dOk_at dt_X10_dropsFor 58 rfl) ?_
      refine j_callVi hC clX10_510 (fun rz hrz => c_X10_groundOf hN _ _ _ rz hrz) (show shp 107 = (10, 88) from rfl) (Nat.lt_of_lt_of_le (Nat.le_of_ble_eq_true rfl : 107 < 152) hN) (by decide) rfl rfl ⟨Nat.le_of_ble_eq_true rfl, Nat.le_of_ble_eq_true rfl⟩ ⟨Nat.le_refl 0, Nat.le_refl 0⟩ (As := [.int x2, .int x3]) (st := []) rfl (Nat.le_of_ble_eq_true rfl) (dOk_at dt_X10_dropsFor 59 rfl) (fun v_14 h_15 _ => ?_)
      refine j_iload_n hC 1 rfl rfl (dOk_at dt_X10_dropsFor 60 rfl) ?_
      refine j_callSi hC clX10_282 (fun rz hrz => c_X10_isOf hN _ _ _ rz hrz) rfl ⟨Nat.le_of_ble_eq_true rfl, Nat.le_of_ble_eq_true rfl⟩ ⟨Nat.le_refl 0, Nat.le_refl 0⟩ (As := [.int v_14, .int x1]) (st := []) rfl (Nat.le_of_ble_eq_true rfl) (dOk_at dt_X10_dropsFor 61 rfl) (fun v_16 h_17 _ => ?_)
      refine j_if_ne hC (tgt := 110) (by decide) (dOk_at dt_X10_dropsFor 62 rfl) (fun q_18 => ?_) (fun q_18 => ?_)
      · refine j_aload_n hC 0 rfl rfl (dOk_at dt_X10_dropsFor 64 rfl) ?_
        refine j_getR hC flX10_127 (show shp 107 = (10, 88) from rfl) (Nat.lt_of_lt_of_le (Nat.le_of_ble_eq_true rfl : 107 < 152) hN) (by decide) (by decide) (fun _ _ _ => rfl) (fun hs => hs 107 74 145 rfl) (dOk_at dt_X10_dropsFor 65 rfl) ?_
        refine j_iconst hC (v := (0 : Int32)) rfl (dOk_at dt_X10_dropsFor 66 rfl) ?_
        refine j_iload_n hC 2 rfl rfl (dOk_at dt_X10_dropsFor 67 rfl) ?_
        refine j_iast hC St_SP (show shp 145 = (21, 2) from rfl) (Nat.lt_of_lt_of_le (Nat.le_of_ble_eq_true rfl : 145 < 152) hN) (dOk_at dt_X10_dropsFor 68 rfl) ?_
        refine j_aload_n hC 0 rfl rfl (dOk_at dt_X10_dropsFor 69 rfl) ?_
        refine j_getR hC flX10_127 (show shp 107 = (10, 88) from rfl) (Nat.lt_of_lt_of_le (Nat.le_of_ble_eq_true rfl : 107 < 152) hN) (by decide) (by decide) (fun _ _ _ => rfl) (fun hs => hs 107 74 145 rfl) (dOk_at dt_X10_dropsFor 70 rfl) ?_
        refine j_iconst hC (v := (1 : Int32)) rfl (dOk_at dt_X10_dropsFor 71 rfl) ?_
        refine j_iload_n hC 3 rfl rfl (dOk_at dt_X10_dropsFor 72 rfl) ?_
        refine j_iast hC St_SP (show shp 145 = (21, 2) from rfl) (Nat.lt_of_lt_of_le (Nat.le_of_ble_eq_true rfl : 145 < 152) hN) (dOk_at dt_X10_dropsFor 73 rfl) ?_
        refine j_iconst hC (v := (2 : Int32)) rfl (dOk_at dt_X10_dropsFor 74 rfl) ?_
        exact j_iret hC hret (dOk_at dt_X10_dropsFor 75 rfl)
      · refine j_goto hC (tgt := 126) (by decide) (dOk_at dt_X10_dropsFor 63 rfl) ?_
        refine j_iinc hC (v := (x3 + (1 : Int32))) (lv' := [(3, .int (x3 + (1 : Int32))), (0, .ref 107), (1, .int x1), (2, .int x2)]) 3 rfl (congrArg (fun z => x3 + z) (show Int32.ofInt (1) = (1 : Int32) from by decide)) (by decide) rfl (dOk_at dt_X10_dropsFor 76 rfl) ?_
        refine j_goto hC (tgt := 86) (by decide) (dOk_at dt_X10_dropsFor 77 rfl) ?_
        refine j_sub [1, 2, 3, 0] rfl ?_
        exact ih h_17 x1 x2 (x3 + (1 : Int32)) 
  have b74 : ∀ (fu : Nat) (h : Hp) (x1 : Int32) (x2 : Int32) , jJ p l e (rmD 2) s m args below meth c 4 sb D ids shp St (fun r => MQ below (jQi sb D ids shp St n r) args s 0 0 (jA sb)) n 0 0 h 74 [(0, .ref 107), (1, .int x1), (2, .int x2)] [] (fX10_dropsFor_74 fu h x1 x2) := by
    intro fu 
    induction fu with
    | zero => intro h x1 x2 ; exact j_none
    | succ fu ih =>
    intro h x1 x2 
    rw [fX10_dropsFor_74]
    refine j_iload_n hC 2 rfl rfl (dOk_at dt_X10_dropsFor 44 rfl) ?_
    refine j_aload_n hC 0 rfl rfl (dOk_at dt_X10_dropsFor 45 rfl) ?_
    refine j_getI hC flX10_246 (show shp 107 = (10, 88) from rfl) (Nat.lt_of_lt_of_le (Nat.le_of_ble_eq_true rfl : 107 < 152) hN) (by decide) (by decide) (fun _ _ _ => rfl) (dOk_at dt_X10_dropsFor 46 rfl) ?_
    refine j_icmp_ge hC (tgt := 138) (by decide) (dOk_at dt_X10_dropsFor 47 rfl) (fun q_12 => ?_) (fun q_12 => ?_)
    · refine j_bipush hC (v := (-2 : Int32)) rfl (dOk_at dt_X10_dropsFor 80 rfl) ?_
      exact j_iret hC hret (dOk_at dt_X10_dropsFor 81 rfl)
    · refine j_iload_n hC 2 rfl rfl (dOk_at dt_X10_dropsFor 48 rfl) ?_
      refine j_iconst hC (v := (1 : Int32)) rfl (dOk_at dt_X10_dropsFor 49 rfl) ?_
      refine j_iadd hC (dOk_at dt_X10_dropsFor 50 rfl) ?_
      refine j_istore_n hC rfl (lv' := [(3, .int (x2 + (1 : Int32))), (0, .ref 107), (1, .int x1), (2, .int x2)]) (by decide) rfl (dOk_at dt_X10_dropsFor 51 rfl) ?_
      refine j_sub [1, 2, 3, 0] rfl ?_
      exact b86 FU (fX10_dropsFor_74 fu) ih h x1 x2 (x2 + (1 : Int32)) 
  have b33 : ∀ (fu : Nat) (h : Hp) (x1 : Int32) (x2 : Int32) , jJ p l e (rmD 2) s m args below meth c 4 sb D ids shp St (fun r => MQ below (jQi sb D ids shp St n r) args s 0 0 (jA sb)) n 0 0 h 33 [(0, .ref 107), (1, .int x1), (2, .int x2)] [] (fX10_dropsFor_33 fu h x1 x2) := by
    intro fu 
    induction fu with
    | zero => intro h x1 x2 ; exact j_none
    | succ fu ih =>
    intro h x1 x2 
    rw [fX10_dropsFor_33]
    refine j_iload_n hC 2 rfl rfl (dOk_at dt_X10_dropsFor 21 rfl) ?_
    refine j_aload_n hC 0 rfl rfl (dOk_at dt_X10_dropsFor 22 rfl) ?_
    refine j_getI hC flX10_246 (show shp 107 = (10, 88) from rfl) (Nat.lt_of_lt_of_le (Nat.le_of_ble_eq_true rfl : 107 < 152) hN) (by decide) (by decide) (fun _ _ _ => rfl) (dOk_at dt_X10_dropsFor 23 rfl) ?_
    refine j_icmp_ge hC (tgt := 72) (by decide) (dOk_at dt_X10_dropsFor 24 rfl) (fun q_6 => ?_) (fun q_6 => ?_)
    · refine j_iconst hC (v := (0 : Int32)) rfl (dOk_at dt_X10_dropsFor 42 rfl) ?_
      refine j_istore_n hC rfl (lv' := [(2, .int (0 : Int32)), (0, .ref 107), (1, .int x1)]) (by decide) rfl (dOk_at dt_X10_dropsFor 43 rfl) ?_
      refine j_sub [1, 2, 0] rfl ?_
      exact b74 FU h x1 (0 : Int32) 
    · refine j_aload_n hC 0 rfl rfl (dOk_at dt_X10_dropsFor 25 rfl) ?_
      refine j_iload_n hC 2 rfl rfl (dOk_at dt_X10_dropsFor 26 rfl) ?_
      refine j_iconst hC (v := (-1 : Int32)) rfl (dOk_at dt_X10_dropsFor 27 rfl) ?_
      refine j_callVi hC clX10_510 (fun rz hrz => c_X10_groundOf hN _ _ _ rz hrz) (show shp 107 = (10, 88) from rfl) (Nat.lt_of_lt_of_le (Nat.le_of_ble_eq_true rfl : 107 < 152) hN) (by decide) rfl rfl ⟨Nat.le_of_ble_eq_true rfl, Nat.le_of_ble_eq_true rfl⟩ ⟨Nat.le_refl 0, Nat.le_refl 0⟩ (As := [.int x2, .int (-1 : Int32)]) (st := []) rfl (Nat.le_of_ble_eq_true rfl) (dOk_at dt_X10_dropsFor 28 rfl) (fun v_7 h_8 _ => ?_)
      refine j_iload_n hC 1 rfl rfl (dOk_at dt_X10_dropsFor 29 rfl) ?_
      refine j_callSi hC clX10_282 (fun rz hrz => c_X10_isOf hN _ _ _ rz hrz) rfl ⟨Nat.le_of_ble_eq_true rfl, Nat.le_of_ble_eq_true rfl⟩ ⟨Nat.le_refl 0, Nat.le_refl 0⟩ (As := [.int v_7, .int x1]) (st := []) rfl (Nat.le_of_ble_eq_true rfl) (dOk_at dt_X10_dropsFor 30 rfl) (fun v_9 h_10 _ => ?_)
      refine j_if_ne hC (tgt := 57) (by decide) (dOk_at dt_X10_dropsFor 31 rfl) (fun q_11 => ?_) (fun q_11 => ?_)
      · refine j_aload_n hC 0 rfl rfl (dOk_at dt_X10_dropsFor 33 rfl) ?_
        refine j_getR hC flX10_127 (show shp 107 = (10, 88) from rfl) (Nat.lt_of_lt_of_le (Nat.le_of_ble_eq_true rfl : 107 < 152) hN) (by decide) (by decide) (fun _ _ _ => rfl) (fun hs => hs 107 74 145 rfl) (dOk_at dt_X10_dropsFor 34 rfl) ?_
        refine j_iconst hC (v := (0 : Int32)) rfl (dOk_at dt_X10_dropsFor 35 rfl) ?_
        refine j_iload_n hC 2 rfl rfl (dOk_at dt_X10_dropsFor 36 rfl) ?_
        refine j_iast hC St_SP (show shp 145 = (21, 2) from rfl) (Nat.lt_of_lt_of_le (Nat.le_of_ble_eq_true rfl : 145 < 152) hN) (dOk_at dt_X10_dropsFor 37 rfl) ?_
        refine j_iconst hC (v := (1 : Int32)) rfl (dOk_at dt_X10_dropsFor 38 rfl) ?_
        exact j_iret hC hret (dOk_at dt_X10_dropsFor 39 rfl)
      · refine j_goto hC (tgt := 66) (by decide) (dOk_at dt_X10_dropsFor 32 rfl) ?_
        refine j_iinc hC (v := (x2 + (1 : Int32))) (lv' := [(2, .int (x2 + (1 : Int32))), (0, .ref 107), (1, .int x1)]) 2 rfl (congrArg (fun z => x2 + z) (show Int32.ofInt (1) = (1 : Int32) from by decide)) (by decide) rfl (dOk_at dt_X10_dropsFor 40 rfl) ?_
        refine j_goto hC (tgt := 33) (by decide) (dOk_at dt_X10_dropsFor 41 rfl) ?_
        refine j_sub [1, 2, 0] rfl ?_
        exact ih h_10 x1 (x2 + (1 : Int32)) 
  unfold fX10_dropsFor
  refine j_aload_n hC 0 rfl rfl (dOk_at dt_X10_dropsFor 0 rfl) ?_
  refine j_getR hC flX10_127 (show shp 107 = (10, 88) from rfl) (Nat.lt_of_lt_of_le (Nat.le_of_ble_eq_true rfl : 107 < 152) hN) (by decide) (by decide) (fun _ _ _ => rfl) (fun hs => hs 107 74 145 rfl) (dOk_at dt_X10_dropsFor 1 rfl) ?_
  refine j_iconst hC (v := (0 : Int32)) rfl (dOk_at dt_X10_dropsFor 2 rfl) ?_
  refine j_bipush hC (v := (-2 : Int32)) rfl (dOk_at dt_X10_dropsFor 3 rfl) ?_
  refine j_iast hC St_SP (show shp 145 = (21, 2) from rfl) (Nat.lt_of_lt_of_le (Nat.le_of_ble_eq_true rfl : 145 < 152) hN) (dOk_at dt_X10_dropsFor 4 rfl) ?_
  refine j_aload_n hC 0 rfl rfl (dOk_at dt_X10_dropsFor 5 rfl) ?_
  refine j_getR hC flX10_127 (show shp 107 = (10, 88) from rfl) (Nat.lt_of_lt_of_le (Nat.le_of_ble_eq_true rfl : 107 < 152) hN) (by decide) (by decide) (fun _ _ _ => rfl) (fun hs => hs 107 74 145 rfl) (dOk_at dt_X10_dropsFor 6 rfl) ?_
  refine j_iconst hC (v := (1 : Int32)) rfl (dOk_at dt_X10_dropsFor 7 rfl) ?_
  refine j_bipush hC (v := (-2 : Int32)) rfl (dOk_at dt_X10_dropsFor 8 rfl) ?_
  refine j_iast hC St_SP (show shp 145 = (21, 2) from rfl) (Nat.lt_of_lt_of_le (Nat.le_of_ble_eq_true rfl : 145 < 152) hN) (dOk_at dt_X10_dropsFor 9 rfl) ?_
  refine j_aload_n hC 0 rfl rfl (dOk_at dt_X10_dropsFor 10 rfl) ?_
  refine j_iconst hC (v := (-1 : Int32)) rfl (dOk_at dt_X10_dropsFor 11 rfl) ?_
  refine j_iconst hC (v := (-1 : Int32)) rfl (dOk_at dt_X10_dropsFor 12 rfl) ?_
  refine j_callVi hC clX10_510 (fun rz hrz => c_X10_groundOf hN _ _ _ rz hrz) (show shp 107 = (10, 88) from rfl) (Nat.lt_of_lt_of_le (Nat.le_of_ble_eq_true rfl : 107 < 152) hN) (by decide) rfl rfl ⟨Nat.le_of_ble_eq_true rfl, Nat.le_of_ble_eq_true rfl⟩ ⟨Nat.le_refl 0, Nat.le_refl 0⟩ (As := [.int (-1 : Int32), .int (-1 : Int32)]) (st := []) rfl (Nat.le_of_ble_eq_true rfl) (dOk_at dt_X10_dropsFor 13 rfl) (fun v_1 h_2 _ => ?_)
  refine j_iload_n hC 1 rfl rfl (dOk_at dt_X10_dropsFor 14 rfl) ?_
  refine j_callSi hC clX10_282 (fun rz hrz => c_X10_isOf hN _ _ _ rz hrz) rfl ⟨Nat.le_of_ble_eq_true rfl, Nat.le_of_ble_eq_true rfl⟩ ⟨Nat.le_refl 0, Nat.le_refl 0⟩ (As := [.int v_1, .int x1]) (st := []) rfl (Nat.le_of_ble_eq_true rfl) (dOk_at dt_X10_dropsFor 15 rfl) (fun v_3 h_4 _ => ?_)
  refine j_if_eq hC (tgt := 31) (by decide) (dOk_at dt_X10_dropsFor 16 rfl) (fun q_5 => ?_) (fun q_5 => ?_)
  · refine j_iconst hC (v := (0 : Int32)) rfl (dOk_at dt_X10_dropsFor 19 rfl) ?_
    refine j_istore_n hC rfl (lv' := [(2, .int (0 : Int32)), (0, .ref 107), (1, .int x1)]) (by decide) rfl (dOk_at dt_X10_dropsFor 20 rfl) ?_
    refine j_sub [1, 2, 0] rfl ?_
    exact b33 FU h_4 x1 (0 : Int32) 
  · refine j_iconst hC (v := (0 : Int32)) rfl (dOk_at dt_X10_dropsFor 17 rfl) ?_
    exact j_iret hC hret (dOk_at dt_X10_dropsFor 18 rfl)
def tb_X10_dropFor : List (Nat × Instr × Nat) := [(0, .aload_n 0, 1), (1, .iconst 0, 1), (2, .putfield 157, 3), (5, .aload_n 0, 1), (6, .iload_n 1, 1), (7, .invokevirtual 465, 3), (10, .ifCond .eq 12, 3), (13, .iload_n 2, 1), (14, .iconst 0, 1), (15, .iconst 2, 1), (16, .invokestatic 202, 3), (19, .ifCond .ne 5, 3), (22, .iconst (-1), 1), (23, .ireturn, 1), (24, .aload_n 0, 1), (25, .iload_n 1, 1), (26, .invokevirtual 516, 3), (29, .istore_n 3, 1), (30, .iload_n 2, 1), (31, .ifCond .ne 7, 3), (34, .iload_n 3, 1), (35, .goto 11, 3), (38, .aload_n 0, 1), (39, .getfield 127, 3), (42, .iload_n 2, 1), (43, .iconst 1, 1), (44, .isub, 1), (45, .iaload, 1), (46, .ireturn, 1)]
theorem dt_X10_dropFor : dOk cX10_dropFor tb_X10_dropFor = true := by decide +kernel
def fX10_dropFor (h : Hp) (x1 : Int32) (x2 : Int32) : Option (Int32 × Hp) := bnd (fX10_isClaim (uI h 107 2 (0 : Int32)) x1) (fun v_1 h_2 => if v_1 = 0 then (some ((-1 : Int32), h_2)) else (bnd (fX10_isIn h_2 x2 (0 : Int32) (2 : Int32)) (fun v_4 h_5 => if v_4 = 0 then (some ((-1 : Int32), h_5)) else (bnd (fX10_dropsFor h_5 x1) (fun v_7 h_8 => if x2 = 0 then (some (v_7, h_8)) else (if inb (x2 - (1 : Int32)) 2 then (some ((hI h_8 145 (Int32.toNatClampNeg (x2 - (1 : Int32)))), h_8)) else none))))))
set_option maxRecDepth 100000 in
set_option maxHeartbeats 4000000 in
theorem c_X10_dropFor {l : Launch} {sb : State} {D : va_G} {ids : Nat → ClassId} {n : Nat} (hN : 152 ≤ n) (h : Hp) (x1 : Int32) (x2 : Int32) (r : Int32 × Hp) (hr : fX10_dropFor h x1 x2 = some r) : jM l yX10_dropFor cX10_dropFor 4 (some .int) 3 sb D ids shp St n [.ref 107, .int x1, .int x2] h (jQi sb D ids shp St n r) := by
  refine jM_of hr rfl (Nat.le_of_ble_eq_true rfl) ?_
  intro p e s m args below meth c hC hret
  unfold fX10_dropFor
  refine j_aload_n hC 0 rfl rfl (dOk_at dt_X10_dropFor 0 rfl) ?_
  refine j_iconst hC (v := (0 : Int32)) rfl (dOk_at dt_X10_dropFor 1 rfl) ?_
  refine j_putI hC St_SP flX10_157 (show shp 107 = (10, 88) from rfl) (Nat.lt_of_lt_of_le (Nat.le_of_ble_eq_true rfl : 107 < 152) hN) (by decide) (by decide) rfl rfl (dOk_at dt_X10_dropFor 2 rfl) ?_
  refine j_aload_n hC 0 rfl rfl (dOk_at dt_X10_dropFor 3 rfl) ?_
  refine j_iload_n hC 1 rfl rfl (dOk_at dt_X10_dropFor 4 rfl) ?_
  refine j_callVi hC clX10_465 (fun rz hrz => c_X10_isClaim hN _ _ rz hrz) (show shp 107 = (10, 88) from rfl) (Nat.lt_of_lt_of_le (Nat.le_of_ble_eq_true rfl : 107 < 152) hN) (by decide) rfl rfl ⟨Nat.le_of_ble_eq_true rfl, Nat.le_of_ble_eq_true rfl⟩ ⟨Nat.le_refl 0, Nat.le_refl 0⟩ (As := [.int x1]) (st := []) rfl (Nat.le_of_ble_eq_true rfl) (dOk_at dt_X10_dropFor 5 rfl) (fun v_1 h_2 _ => ?_)
  refine j_if_eq hC (tgt := 22) (by decide) (dOk_at dt_X10_dropFor 6 rfl) (fun q_3 => ?_) (fun q_3 => ?_)
  · refine j_iconst hC (v := (-1 : Int32)) rfl (dOk_at dt_X10_dropFor 12 rfl) ?_
    exact j_iret hC hret (dOk_at dt_X10_dropFor 13 rfl)
  · refine j_iload_n hC 2 rfl rfl (dOk_at dt_X10_dropFor 7 rfl) ?_
    refine j_iconst hC (v := (0 : Int32)) rfl (dOk_at dt_X10_dropFor 8 rfl) ?_
    refine j_iconst hC (v := (2 : Int32)) rfl (dOk_at dt_X10_dropFor 9 rfl) ?_
    refine j_callSi hC clX10_202 (fun rz hrz => c_X10_isIn hN _ _ _ _ rz hrz) rfl ⟨Nat.le_of_ble_eq_true rfl, Nat.le_of_ble_eq_true rfl⟩ ⟨Nat.le_refl 0, Nat.le_refl 0⟩ (As := [.int x2, .int (0 : Int32), .int (2 : Int32)]) (st := []) rfl (Nat.le_of_ble_eq_true rfl) (dOk_at dt_X10_dropFor 10 rfl) (fun v_4 h_5 _ => ?_)
    refine j_if_ne hC (tgt := 24) (by decide) (dOk_at dt_X10_dropFor 11 rfl) (fun q_6 => ?_) (fun q_6 => ?_)
    · refine j_aload_n hC 0 rfl rfl (dOk_at dt_X10_dropFor 14 rfl) ?_
      refine j_iload_n hC 1 rfl rfl (dOk_at dt_X10_dropFor 15 rfl) ?_
      refine j_callVi hC clX10_516 (fun rz hrz => c_X10_dropsFor hN _ _ rz hrz) (show shp 107 = (10, 88) from rfl) (Nat.lt_of_lt_of_le (Nat.le_of_ble_eq_true rfl : 107 < 152) hN) (by decide) rfl rfl ⟨Nat.le_of_ble_eq_true rfl, Nat.le_of_ble_eq_true rfl⟩ ⟨Nat.le_refl 0, Nat.le_refl 0⟩ (As := [.int x1]) (st := []) rfl (Nat.le_of_ble_eq_true rfl) (dOk_at dt_X10_dropFor 16 rfl) (fun v_7 h_8 _ => ?_)
      refine j_istore_n hC rfl (lv' := [(3, .int v_7), (0, .ref 107), (1, .int x1), (2, .int x2)]) (by decide) rfl (dOk_at dt_X10_dropFor 17 rfl) ?_
      refine j_iload_n hC 3 rfl rfl (dOk_at dt_X10_dropFor 18 rfl) ?_
      refine j_if_ne hC (tgt := 38) (by decide) (dOk_at dt_X10_dropFor 19 rfl) (fun q_9 => ?_) (fun q_9 => ?_)
      · refine j_aload_n hC 1 rfl rfl (dOk_at dt_X10_dropFor 22 rfl) ?_
        refine j_getR hC flX10_127 (show shp 107 = (10, 88) from rfl) (Nat.lt_of_lt_of_le (Nat.le_of_ble_eq_true rfl : 107 < 152) hN) (by decide) (by decide) (fun _ _ _ => rfl) (fun hs => hs 107 74 145 rfl) (dOk_at dt_X10_dropFor 23 rfl) ?_
        refine j_iload_n hC 3 rfl rfl (dOk_at dt_X10_dropFor 24 rfl) ?_
        refine j_iconst hC (v := (1 : Int32)) rfl (dOk_at dt_X10_dropFor 25 rfl) ?_
        refine j_isub hC (dOk_at dt_X10_dropFor 26 rfl) ?_
        refine j_iald hC (show shp 145 = (21, 2) from rfl) (Nat.lt_of_lt_of_le (Nat.le_of_ble_eq_true rfl : 145 < 152) hN) (dOk_at dt_X10_dropFor 27 rfl) ?_
        exact j_iret hC hret (dOk_at dt_X10_dropFor 28 rfl)
      · refine j_iload_n hC 0 rfl rfl (dOk_at dt_X10_dropFor 20 rfl) ?_
        refine j_goto hC (tgt := 46) (by decide) (dOk_at dt_X10_dropFor 21 rfl) ?_
        exact j_iret hC hret (dOk_at dt_X10_dropFor 28 rfl)
    · refine j_iconst hC (v := (-1 : Int32)) rfl (dOk_at dt_X10_dropFor 12 rfl) ?_
      exact j_iret hC hret (dOk_at dt_X10_dropFor 13 rfl)
def tb_X10_areTwo : List (Nat × Instr × Nat) := [(0, .aload_n 0, 1), (1, .iload_n 1, 1), (2, .invokevirtual 480, 3), (5, .ifCond .eq 20, 3), (8, .aload_n 0, 1), (9, .iload_n 2, 1), (10, .invokevirtual 480, 3), (13, .ifCond .eq 12, 3), (16, .iload_n 1, 1), (17, .iload_n 2, 1), (18, .if_icmp .eq 7, 3), (21, .iconst 1, 1), (22, .goto 4, 3), (25, .iconst 0, 1), (26, .ireturn, 1)]
theorem dt_X10_areTwo : dOk cX10_areTwo tb_X10_areTwo = true := by decide +kernel
def fX10_areTwo (h : Hp) (x1 : Int32) (x2 : Int32) : Option (Int32 × Hp) := bnd (fX10_isMember h x1) (fun v_1 h_2 => if v_1 = 0 then (some ((0 : Int32), h_2)) else (bnd (fX10_isMember h_2 x2) (fun v_4 h_5 => if v_4 = 0 then (some ((0 : Int32), h_5)) else (if x1 = x2 then (some ((0 : Int32), h_5)) else (some ((1 : Int32), h_5))))))
set_option maxRecDepth 100000 in
set_option maxHeartbeats 4000000 in
theorem c_X10_areTwo {l : Launch} {sb : State} {D : va_G} {ids : Nat → ClassId} {n : Nat} (hN : 152 ≤ n) (h : Hp) (x1 : Int32) (x2 : Int32) (r : Int32 × Hp) (hr : fX10_areTwo h x1 x2 = some r) : jM l yX10_areTwo cX10_areTwo 3 (some .boolean) 1 sb D ids shp St n [.ref 107, .int x1, .int x2] h (jQi sb D ids shp St n r) := by
  refine jM_of hr rfl (Nat.le_of_ble_eq_true rfl) ?_
  intro p e s m args below meth c hC hret
  unfold fX10_areTwo
  refine j_aload_n hC 0 rfl rfl (dOk_at dt_X10_areTwo 0 rfl) ?_
  refine j_iload_n hC 1 rfl rfl (dOk_at dt_X10_areTwo 1 rfl) ?_
  refine j_callVi hC clX10_480 (fun rz hrz => c_X10_isMember hN _ _ rz hrz) (show shp 107 = (10, 88) from rfl) (Nat.lt_of_lt_of_le (Nat.le_of_ble_eq_true rfl : 107 < 152) hN) (by decide) rfl rfl ⟨Nat.le_of_ble_eq_true rfl, Nat.le_of_ble_eq_true rfl⟩ ⟨Nat.le_refl 0, Nat.le_refl 0⟩ (As := [.int x1]) (st := []) rfl (Nat.le_of_ble_eq_true rfl) (dOk_at dt_X10_areTwo 2 rfl) (fun v_1 h_2 _ => ?_)
  refine j_if_eq hC (tgt := 25) (by decide) (dOk_at dt_X10_areTwo 3 rfl) (fun q_3 => ?_) (fun q_3 => ?_)
  · refine j_iconst hC (v := (0 : Int32)) rfl (dOk_at dt_X10_areTwo 13 rfl) ?_
    exact j_zretK hC hret rfl (dOk_at dt_X10_areTwo 14 rfl)
  · refine j_aload_n hC 0 rfl rfl (dOk_at dt_X10_areTwo 4 rfl) ?_
    refine j_iload_n hC 2 rfl rfl (dOk_at dt_X10_areTwo 5 rfl) ?_
    refine j_callVi hC clX10_480 (fun rz hrz => c_X10_isMember hN _ _ rz hrz) (show shp 107 = (10, 88) from rfl) (Nat.lt_of_lt_of_le (Nat.le_of_ble_eq_true rfl : 107 < 152) hN) (by decide) rfl rfl ⟨Nat.le_of_ble_eq_true rfl, Nat.le_of_ble_eq_true rfl⟩ ⟨Nat.le_refl 0, Nat.le_refl 0⟩ (As := [.int x2]) (st := []) rfl (Nat.le_of_ble_eq_true rfl) (dOk_at dt_X10_areTwo 6 rfl) (fun v_4 h_5 _ => ?_)
    refine j_if_eq hC (tgt := 25) (by decide) (dOk_at dt_X10_areTwo 7 rfl) (fun q_6 => ?_) (fun q_6 => ?_)
    · refine j_iconst hC (v := (0 : Int32)) rfl (dOk_at dt_X10_areTwo 13 rfl) ?_
      exact j_zretK hC hret rfl (dOk_at dt_X10_areTwo 14 rfl)
    · refine j_iload_n hC 1 rfl rfl (dOk_at dt_X10_areTwo 8 rfl) ?_
      refine j_iload_n hC 2 rfl rfl (dOk_at dt_X10_areTwo 9 rfl) ?_
      refine j_icmp_eq hC (tgt := 25) (by decide) (dOk_at dt_X10_areTwo 10 rfl) (fun q_7 => ?_) (fun q_7 => ?_)
      · refine j_iconst hC (v := (0 : Int32)) rfl (dOk_at dt_X10_areTwo 13 rfl) ?_
        exact j_zretK hC hret rfl (dOk_at dt_X10_areTwo 14 rfl)
      · refine j_iconst hC (v := (1 : Int32)) rfl (dOk_at dt_X10_areTwo 11 rfl) ?_
        refine j_goto hC (tgt := 26) (by decide) (dOk_at dt_X10_areTwo 12 rfl) ?_
        exact j_zretK hC hret rfl (dOk_at dt_X10_areTwo 14 rfl)
def tb_X10_pointsOf : List (Nat × Instr × Nat) := [(0, .iconst 0, 1), (1, .istore_n 3, 1), (2, .iconst 0, 1), (3, .istore 4, 2), (5, .iload 4, 2), (7, .aload_n 0, 1), (8, .getfield 246, 3), (11, .if_icmp .ge 117, 3), (14, .aload_n 0, 1), (15, .getfield 109, 3), (18, .iload_n 1, 1), (19, .iaload, 1), (20, .aload_n 0, 1), (21, .getfield 36, 3), (24, .iload 4, 2), (26, .iaload, 1), (27, .invokestatic 282, 3), (30, .ifCond .eq 26, 3), (33, .aload_n 0, 1), (34, .getfield 109, 3), (37, .iload_n 2, 1), (38, .iaload, 1), (39, .aload_n 0, 1), (40, .getfield 39, 3), (43, .iload 4, 2), (45, .iaload, 1), (46, .invokestatic 282, 3), (49, .ifCond .eq 7, 3), (52, .iconst 1, 1), (53, .goto 4, 3), (56, .iconst 0, 1), (57, .istore 5, 2), (59, .aload_n 0, 1), (60, .getfield 109, 3), (63, .iload_n 2, 1), (64, .iaload, 1), (65, .aload_n 0, 1), (66, .getfield 36, 3), (69, .iload 4, 2), (71, .iaload, 1), (72, .invokestatic 282, 3), (75, .ifCond .eq 26, 3), (78, .aload_n 0, 1), (79, .getfield 109, 3), (82, .iload_n 1, 1), (83, .iaload, 1), (84, .aload_n 0, 1), (85, .getfield 39, 3), (88, .iload 4, 2), (90, .iaload, 1), (91, .invokestatic 282, 3), (94, .ifCond .eq 7, 3), (97, .iconst 1, 1), (98, .goto 4, 3), (101, .iconst 0, 1), (102, .istore 6, 2), (104, .iload_n 3, 1), (105, .iload 5, 2), (107, .ifCond .ne 8, 3), (110, .iload 6, 2), (112, .ifCond .eq 7, 3), (115, .iconst 1, 1), (116, .goto 4, 3), (119, .iconst 0, 1), (120, .iadd, 1), (121, .istore_n 3, 1), (122, .iinc 4 1, 3), (125, .goto (-120), 3), (128, .iload_n 3, 1), (129, .ireturn, 1)]
theorem dt_X10_pointsOf : dOk cX10_pointsOf tb_X10_pointsOf = true := by decide +kernel
def fX10_pointsOf_120 (rec5 : Hp → Int32 → Int32 → Int32 → Int32 → Option (Int32 × Hp)) (h : Hp) (x1 : Int32) (x2 : Int32) (x4 : Int32) (s0 : Int32) (s1 : Int32) : Option (Int32 × Hp) := rec5 h x1 x2 (s0 + s1) (x4 + (1 : Int32))
def fX10_pointsOf_115 (rec5 : Hp → Int32 → Int32 → Int32 → Int32 → Option (Int32 × Hp)) (h : Hp) (x1 : Int32) (x2 : Int32) (x4 : Int32) (s0 : Int32) : Option (Int32 × Hp) := fX10_pointsOf_120 rec5 h x1 x2 x4 s0 (1 : Int32)
def fX10_pointsOf_102 (rec5 : Hp → Int32 → Int32 → Int32 → Int32 → Option (Int32 × Hp)) (h : Hp) (x1 : Int32) (x2 : Int32) (x3 : Int32) (x4 : Int32) (x5 : Int32) (s0 : Int32) : Option (Int32 × Hp) := if x5 = 0 then (if s0 = 0 then (fX10_pointsOf_120 rec5 h x1 x2 x4 x3 (0 : Int32)) else (fX10_pointsOf_115 rec5 h x1 x2 x4 x3)) else (fX10_pointsOf_115 rec5 h x1 x2 x4 x3)
def fX10_pointsOf_101 (rec5 : Hp → Int32 → Int32 → Int32 → Int32 → Option (Int32 × Hp)) (h : Hp) (x1 : Int32) (x2 : Int32) (x3 : Int32) (x4 : Int32) (x5 : Int32) : Option (Int32 × Hp) := fX10_pointsOf_102 rec5 h x1 x2 x3 x4 x5 (0 : Int32)
def fX10_pointsOf_57 (rec5 : Hp → Int32 → Int32 → Int32 → Int32 → Option (Int32 × Hp)) (h : Hp) (x1 : Int32) (x2 : Int32) (x3 : Int32) (x4 : Int32) (s0 : Int32) : Option (Int32 × Hp) := if inb x2 10 then (if inb x4 32 then (bnd (fX10_isOf h (hI h 139 (Int32.toNatClampNeg x2)) (hI h 115 (Int32.toNatClampNeg x4))) (fun v_8 h_9 => if v_8 = 0 then (fX10_pointsOf_101 rec5 h_9 x1 x2 x3 x4 s0) else (if inb x1 10 then (if inb x4 32 then (bnd (fX10_isOf h_9 (hI h_9 139 (Int32.toNatClampNeg x1)) (hI h_9 116 (Int32.toNatClampNeg x4))) (fun v_11 h_12 => if v_11 = 0 then (fX10_pointsOf_101 rec5 h_12 x1 x2 x3 x4 s0) else (fX10_pointsOf_102 rec5 h_12 x1 x2 x3 x4 s0 (1 : Int32)))) else none) else none))) else none) else none
def fX10_pointsOf_56 (rec5 : Hp → Int32 → Int32 → Int32 → Int32 → Option (Int32 × Hp)) (h : Hp) (x1 : Int32) (x2 : Int32) (x3 : Int32) (x4 : Int32) : Option (Int32 × Hp) := fX10_pointsOf_57 rec5 h x1 x2 x3 x4 (0 : Int32)
def fX10_pointsOf_5 : Nat → Hp → Int32 → Int32 → Int32 → Int32 → Option (Int32 × Hp)
  | 0, _, _, _, _, _ => none
  | fu + 1, h, x1, x2, x3, x4 => if (hI h 107 13) ≤ x4 then (some (x3, h)) else (if inb x1 10 then (if inb x4 32 then (bnd (fX10_isOf h (hI h 139 (Int32.toNatClampNeg x1)) (hI h 115 (Int32.toNatClampNeg x4))) (fun v_2 h_3 => if v_2 = 0 then (fX10_pointsOf_56 (fX10_pointsOf_5 fu) h_3 x1 x2 x3 x4) else (if inb x2 10 then (if inb x4 32 then (bnd (fX10_isOf h_3 (hI h_3 139 (Int32.toNatClampNeg x2)) (hI h_3 116 (Int32.toNatClampNeg x4))) (fun v_5 h_6 => if v_5 = 0 then (fX10_pointsOf_56 (fX10_pointsOf_5 fu) h_6 x1 x2 x3 x4) else (fX10_pointsOf_57 (fX10_pointsOf_5 fu) h_6 x1 x2 x3 x4 (1 : Int32)))) else none) else none))) else none) else none)
def fX10_pointsOf (h : Hp) (x1 : Int32) (x2 : Int32) : Option (Int32 × Hp) := fX10_pointsOf_5 FU h x1 x2 (0 : Int32) (0 : Int32)
set_option maxRecDepth 100000 in
set_option maxHeartbeats 4000000 in
theorem c_X10_pointsOf {l : Launch} {sb : State} {D : va_G} {ids : Nat → ClassId} {n : Nat} (hN : 152 ≤ n) (h : Hp) (x1 : Int32) (x2 : Int32) (r : Int32 × Hp) (hr : fX10_pointsOf h x1 x2 = some r) : jM l yX10_pointsOf cX10_pointsOf 7 (some .int) 1 sb D ids shp St n [.ref 107, .int x1, .int x2] h (jQi sb D ids shp St n r) := by
  refine jM_of hr rfl (Nat.le_of_ble_eq_true rfl) ?_
  intro p e s m args below meth c hC hret
  have b120 : ∀ (rec5 : Hp → Int32 → Int32 → Int32 → Int32 → Option (Int32 × Hp)) (hrec5 : ∀ (h : Hp) (x1 : Int32) (x2 : Int32) (x3 : Int32) (x4 : Int32) , jJ p l e (rmD 1) s m args below meth c 7 sb D ids shp St (fun r => MQ below (jQi sb D ids shp St n r) args s 0 0 (jA sb)) n 0 0 h 5 [(0, .ref 107), (1, .int x1), (2, .int x2), (3, .int x3), (4, .int x4)] [] (rec5 h x1 x2 x3 x4)) (h : Hp) (x1 : Int32) (x2 : Int32) (x4 : Int32) (s0 : Int32) (s1 : Int32) , jJ p l e (rmD 1) s m args below meth c 7 sb D ids shp St (fun r => MQ below (jQi sb D ids shp St n r) args s 0 0 (jA sb)) n 0 0 h 120 [(0, .ref 107), (1, .int x1), (2, .int x2), (4, .int x4)] [.int s1, .int s0] (fX10_pointsOf_120 rec5 h x1 x2 x4 s0 s1) := by
    intro rec5 hrec5 h x1 x2 x4 s0 s1 
    unfold fX10_pointsOf_120
    refine j_iadd hC (dOk_at dt_X10_pointsOf 64 rfl) ?_
    refine j_istore_n hC rfl (lv' := [(3, .int (s0 + s1)), (0, .ref 107), (1, .int x1), (2, .int x2), (4, .int x4)]) (by decide) rfl (dOk_at dt_X10_pointsOf 65 rfl) ?_
    refine j_iinc hC (v := (x4 + (1 : Int32))) (lv' := [(4, .int (x4 + (1 : Int32))), (3, .int (s0 + s1)), (0, .ref 107), (1, .int x1), (2, .int x2)]) 4 rfl (congrArg (fun z => x4 + z) (show Int32.ofInt (1) = (1 : Int32) from by decide)) (by decide) rfl (dOk_at dt_X10_pointsOf 66 rfl) ?_
    refine j_goto hC (tgt := 5) (by decide) (dOk_at dt_X10_pointsOf 67 rfl) ?_
    refine j_sub [2, 3, 4, 1, 0] rfl ?_
    exact hrec5 h x1 x2 (s0 + s1) (x4 + (1 : Int32)) 
  have b115 : ∀ (rec5 : Hp → Int32 → Int32 → Int32 → Int32 → Option (Int32 × Hp)) (hrec5 : ∀ (h : Hp) (x1 : Int32) (x2 : Int32) (x3 : Int32) (x4 : Int32) , jJ p l e (rmD 1) s m args below meth c 7 sb D ids shp St (fun r => MQ below (jQi sb D ids shp St n r) args s 0 0 (jA sb)) n 0 0 h 5 [(0, .ref 107), (1, .int x1), (2, .int x2), (3, .int x3), (4, .int x4)] [] (rec5 h x1 x2 x3 x4)) (h : Hp) (x1 : Int32) (x2 : Int32) (x4 : Int32) (s0 : Int32) , jJ p l e (rmD 1) s m args below meth c 7 sb D ids shp St (fun r => MQ below (jQi sb D ids shp St n r) args s 0 0 (jA sb)) n 0 0 h 115 [(0, .ref 107), (1, .int x1), (2, .int x2), (4, .int x4)] [.int s0] (fX10_pointsOf_115 rec5 h x1 x2 x4 s0) := by
    intro rec5 hrec5 h x1 x2 x4 s0 
    unfold fX10_pointsOf_115
    refine j_iconst hC (v := (1 : Int32)) rfl (dOk_at dt_X10_pointsOf 61 rfl) ?_
    refine j_goto hC (tgt := 120) (by decide) (dOk_at dt_X10_pointsOf 62 rfl) ?_
    exact b120 rec5 hrec5 h x1 x2 x4 s0 (1 : Int32) 
  have b102 : ∀ (rec5 : Hp → Int32 → Int32 → Int32 → Int32 → Option (Int32 × Hp)) (hrec5 : ∀ (h : Hp) (x1 : Int32) (x2 : Int32) (x3 : Int32) (x4 : Int32) , jJ p l e (rmD 1) s m args below meth c 7 sb D ids shp St (fun r => MQ below (jQi sb D ids shp St n r) args s 0 0 (jA sb)) n 0 0 h 5 [(0, .ref 107), (1, .int x1), (2, .int x2), (3, .int x3), (4, .int x4)] [] (rec5 h x1 x2 x3 x4)) (h : Hp) (x1 : Int32) (x2 : Int32) (x3 : Int32) (x4 : Int32) (x5 : Int32) (s0 : Int32) , jJ p l e (rmD 1) s m args below meth c 7 sb D ids shp St (fun r => MQ below (jQi sb D ids shp St n r) args s 0 0 (jA sb)) n 0 0 h 102 [(0, .ref 107), (1, .int x1), (2, .int x2), (3, .int x3), (4, .int x4), (5, .int x5)] [.int s0] (fX10_pointsOf_102 rec5 h x1 x2 x3 x4 x5 s0) := by
    intro rec5 hrec5 h x1 x2 x3 x4 x5 s0 
    unfold fX10_pointsOf_102
    refine j_istore hC (lv' := [(6, .int s0), (0, .ref 107), (1, .int x1), (2, .int x2), (3, .int x3), (4, .int x4), (5, .int x5)]) (by decide) rfl (dOk_at dt_X10_pointsOf 55 rfl) ?_
    refine j_iload_n hC 4 rfl rfl (dOk_at dt_X10_pointsOf 56 rfl) ?_
    refine j_iload hC 6 rfl (dOk_at dt_X10_pointsOf 57 rfl) ?_
    refine j_if_ne hC (tgt := 115) (by decide) (dOk_at dt_X10_pointsOf 58 rfl) (fun q_14 => ?_) (fun q_14 => ?_)
    · refine j_sub [1, 2, 3, 5] rfl ?_
      exact b115 rec5 hrec5 h x1 x2 x4 x3 
    · refine j_iload hC 0 rfl (dOk_at dt_X10_pointsOf 59 rfl) ?_
      refine j_if_eq hC (tgt := 119) (by decide) (dOk_at dt_X10_pointsOf 60 rfl) (fun q_15 => ?_) (fun q_15 => ?_)
      · refine j_iconst hC (v := (0 : Int32)) rfl (dOk_at dt_X10_pointsOf 63 rfl) ?_
        refine j_sub [1, 2, 3, 5] rfl ?_
        exact b120 rec5 hrec5 h x1 x2 x4 x3 (0 : Int32) 
      · refine j_sub [1, 2, 3, 5] rfl ?_
        exact b115 rec5 hrec5 h x1 x2 x4 x3 
  have b101 : ∀ (rec5 : Hp → Int32 → Int32 → Int32 → Int32 → Option (Int32 × Hp)) (hrec5 : ∀ (h : Hp) (x1 : Int32) (x2 : Int32) (x3 : Int32) (x4 : Int32) , jJ p l e (rmD 1) s m args below meth c 7 sb D ids shp St (fun r => MQ below (jQi sb D ids shp St n r) args s 0 0 (jA sb)) n 0 0 h 5 [(0, .ref 107), (1, .int x1), (2, .int x2), (3, .int x3), (4, .int x4)] [] (rec5 h x1 x2 x3 x4)) (h : Hp) (x1 : Int32) (x2 : Int32) (x3 : Int32) (x4 : Int32) (x5 : Int32) , jJ p l e (rmD 1) s m args below meth c 7 sb D ids shp St (fun r => MQ below (jQi sb D ids shp St n r) args s 0 0 (jA sb)) n 0 0 h 101 [(0, .ref 107), (1, .int x1), (2, .int x2), (3, .int x3), (4, .int x4), (5, .int x5)] [] (fX10_pointsOf_101 rec5 h x1 x2 x3 x4 x5) := by
    intro rec5 hrec5 h x1 x2 x3 x4 x5 
    unfold fX10_pointsOf_101
    refine j_iconst hC (v := (0 : Int32)) rfl (dOk_at dt_X10_pointsOf 54 rfl) ?_
    exact b102 rec5 hrec5 h x1 x2 x3 x4 x5 (0 : Int32) 
  have b57 : ∀ (rec5 : Hp → Int32 → Int32 → Int32 → Int32 → Option (Int32 × Hp)) (hrec5 : ∀ (h : Hp) (x1 : Int32) (x2 : Int32) (x3 : Int32) (x4 : Int32) , jJ p l e (rmD 1) s m args below meth c 7 sb D ids shp St (fun r => MQ below (jQi sb D ids shp St n r) args s 0 0 (jA sb)) n 0 0 h 5 [(0, .ref 107), (1, .int x1), (2, .int x2), (3, .int x3), (4, .int x4)] [] (rec5 h x1 x2 x3 x4)) (h : Hp) (x1 : Int32) (x2 : Int32) (x3 : Int32) (x4 : Int32) (s0 : Int32) , jJ p l e (rmD 1) s m args below meth c 7 sb D ids shp St (fun r => MQ below (jQi sb D ids shp St n r) args s 0 0 (jA sb)) n 0 0 h 57 [(0, .ref 107), (1, .int x1), (2, .int x2), (3, .int x3), (4, .int x4)] [.int s0] (fX10_pointsOf_57 rec5 h x1 x2 x3 x4 s0) := by
    intro rec5 hrec5 h x1 x2 x3 x4 s0 
    unfold fX10_pointsOf_57
    refine j_istore hC (lv' := [(5, .int s0), (0, .ref 107), (1, .int x1), (2, .int x2), (3, .int x3), (4, .int x4)]) (by decide) rfl (dOk_at dt_X10_pointsOf 31 rfl) ?_
    refine j_aload_n hC 1 rfl rfl (dOk_at dt_X10_pointsOf 32 rfl) ?_
    refine j_getR hC flX10_109 (show shp 107 = (10, 88) from rfl) (Nat.lt_of_lt_of_le (Nat.le_of_ble_eq_true rfl : 107 < 152) hN) (by decide) (by decide) (fun _ _ _ => rfl) (fun hs => hs 107 62 139 rfl) (dOk_at dt_X10_pointsOf 33 rfl) ?_
    refine j_iload_n hC 3 rfl rfl (dOk_at dt_X10_pointsOf 34 rfl) ?_
    refine j_iald hC (show shp 139 = (21, 10) from rfl) (Nat.lt_of_lt_of_le (Nat.le_of_ble_eq_true rfl : 139 < 152) hN) (dOk_at dt_X10_pointsOf 35 rfl) ?_
    refine j_aload_n hC 1 rfl rfl (dOk_at dt_X10_pointsOf 36 rfl) ?_
    refine j_getR hC flX10_36 (show shp 107 = (10, 88) from rfl) (Nat.lt_of_lt_of_le (Nat.le_of_ble_eq_true rfl : 107 < 152) hN) (by decide) (by decide) (fun _ _ _ => rfl) (fun hs => hs 107 31 115 rfl) (dOk_at dt_X10_pointsOf 37 rfl) ?_
    refine j_iload hC 5 rfl (dOk_at dt_X10_pointsOf 38 rfl) ?_
    refine j_iald hC (show shp 115 = (21, 32) from rfl) (Nat.lt_of_lt_of_le (Nat.le_of_ble_eq_true rfl : 115 < 152) hN) (dOk_at dt_X10_pointsOf 39 rfl) ?_
    refine j_callSi hC clX10_282 (fun rz hrz => c_X10_isOf hN _ _ _ rz hrz) rfl ⟨Nat.le_of_ble_eq_true rfl, Nat.le_of_ble_eq_true rfl⟩ ⟨Nat.le_refl 0, Nat.le_refl 0⟩ (As := [.int (hI h 139 (Int32.toNatClampNeg x2)), .int (hI h 115 (Int32.toNatClampNeg x4))]) (st := []) rfl (Nat.le_of_ble_eq_true rfl) (dOk_at dt_X10_pointsOf 40 rfl) (fun v_8 h_9 _ => ?_)
    refine j_if_eq hC (tgt := 101) (by decide) (dOk_at dt_X10_pointsOf 41 rfl) (fun q_10 => ?_) (fun q_10 => ?_)
    · refine j_sub [1, 2, 3, 4, 5, 0] rfl ?_
      exact b101 rec5 hrec5 h_9 x1 x2 x3 x4 s0 
    · refine j_aload_n hC 1 rfl rfl (dOk_at dt_X10_pointsOf 42 rfl) ?_
      refine j_getR hC flX10_109 (show shp 107 = (10, 88) from rfl) (Nat.lt_of_lt_of_le (Nat.le_of_ble_eq_true rfl : 107 < 152) hN) (by decide) (by decide) (fun _ _ _ => rfl) (fun hs => hs 107 62 139 rfl) (dOk_at dt_X10_pointsOf 43 rfl) ?_
      refine j_iload_n hC 2 rfl rfl (dOk_at dt_X10_pointsOf 44 rfl) ?_
      refine j_iald hC (show shp 139 = (21, 10) from rfl) (Nat.lt_of_lt_of_le (Nat.le_of_ble_eq_true rfl : 139 < 152) hN) (dOk_at dt_X10_pointsOf 45 rfl) ?_
      refine j_aload_n hC 1 rfl rfl (dOk_at dt_X10_pointsOf 46 rfl) ?_
      refine j_getR hC flX10_39 (show shp 107 = (10, 88) from rfl) (Nat.lt_of_lt_of_le (Nat.le_of_ble_eq_true rfl : 107 < 152) hN) (by decide) (by decide) (fun _ _ _ => rfl) (fun hs => hs 107 32 116 rfl) (dOk_at dt_X10_pointsOf 47 rfl) ?_
      refine j_iload hC 5 rfl (dOk_at dt_X10_pointsOf 48 rfl) ?_
      refine j_iald hC (show shp 116 = (21, 32) from rfl) (Nat.lt_of_lt_of_le (Nat.le_of_ble_eq_true rfl : 116 < 152) hN) (dOk_at dt_X10_pointsOf 49 rfl) ?_
      refine j_callSi hC clX10_282 (fun rz hrz => c_X10_isOf hN _ _ _ rz hrz) rfl ⟨Nat.le_of_ble_eq_true rfl, Nat.le_of_ble_eq_true rfl⟩ ⟨Nat.le_refl 0, Nat.le_refl 0⟩ (As := [.int (hI h_9 139 (Int32.toNatClampNeg x1)), .int (hI h_9 116 (Int32.toNatClampNeg x4))]) (st := []) rfl (Nat.le_of_ble_eq_true rfl) (dOk_at dt_X10_pointsOf 50 rfl) (fun v_11 h_12 _ => ?_)
      refine j_if_eq hC (tgt := 101) (by decide) (dOk_at dt_X10_pointsOf 51 rfl) (fun q_13 => ?_) (fun q_13 => ?_)
      · refine j_sub [1, 2, 3, 4, 5, 0] rfl ?_
        exact b101 rec5 hrec5 h_12 x1 x2 x3 x4 s0 
      · refine j_iconst hC (v := (1 : Int32)) rfl (dOk_at dt_X10_pointsOf 52 rfl) ?_
        refine j_goto hC (tgt := 102) (by decide) (dOk_at dt_X10_pointsOf 53 rfl) ?_
        refine j_sub [1, 2, 3, 4, 5, 0] rfl ?_
        exact b102 rec5 hrec5 h_12 x1 x2 x3 x4 s0 (1 : Int32) 
  have b56 : ∀ (rec5 : Hp → Int32 → Int32 → Int32 → Int32 → Option (Int32 × Hp)) (hrec5 : ∀ (h : Hp) (x1 : Int32) (x2 : Int32) (x3 : Int32) (x4 : Int32) , jJ p l e (rmD 1) s m args below meth c 7 sb D ids shp St (fun r => MQ below (jQi sb D ids shp St n r) args s 0 0 (jA sb)) n 0 0 h 5 [(0, .ref 107), (1, .int x1), (2, .int x2), (3, .int x3), (4, .int x4)] [] (rec5 h x1 x2 x3 x4)) (h : Hp) (x1 : Int32) (x2 : Int32) (x3 : Int32) (x4 : Int32) , jJ p l e (rmD 1) s m args below meth c 7 sb D ids shp St (fun r => MQ below (jQi sb D ids shp St n r) args s 0 0 (jA sb)) n 0 0 h 56 [(0, .ref 107), (1, .int x1), (2, .int x2), (3, .int x3), (4, .int x4)] [] (fX10_pointsOf_56 rec5 h x1 x2 x3 x4) := by
    intro rec5 hrec5 h x1 x2 x3 x4 
    unfold fX10_pointsOf_56
    refine j_iconst hC (v := (0 : Int32)) rfl (dOk_at dt_X10_pointsOf 30 rfl) ?_
    exact b57 rec5 hrec5 h x1 x2 x3 x4 (0 : Int32) 
  have b5 : ∀ (fu : Nat) (h : Hp) (x1 : Int32) (x2 : Int32) (x3 : Int32) (x4 : Int32) , jJ p l e (rmD 1) s m args below meth c 7 sb D ids shp St (fun r => MQ below (jQi sb D ids shp St n r) args s 0 0 (jA sb)) n 0 0 h 5 [(0, .ref 107), (1, .int x1), (2, .int x2), (3, .int x3), (4, .int x4)] [] (fX10_pointsOf_5 fu h x1 x2 x3 x4) := by
    intro fu 
    induction fu with
    | zero => intro h x1 x2 x3 x4 ; exact j_none
    | succ fu ih =>
    intro h x1 x2 x3 x4 
    rw [fX10_pointsOf_5]
    refine j_iload hC 4 rfl (dOk_at dt_X10_pointsOf 4 rfl) ?_
    refine j_aload_n hC 0 rfl rfl (dOk_at dt_X10_pointsOf 5 rfl) ?_
    refine j_getI hC flX10_246 (show shp 107 = (10, 88) from rfl) (Nat.lt_of_lt_of_le (Nat.le_of_ble_eq_true rfl : 107 < 152) hN) (by decide) (by decide) (fun _ _ _ => rfl) (dOk_at dt_X10_pointsOf 6 rfl) ?_
    refine j_icmp_ge hC (tgt := 128) (by decide) (dOk_at dt_X10_pointsOf 7 rfl) (fun q_1 => ?_) (fun q_1 => ?_)
    · refine j_iload_n hC 3 rfl rfl (dOk_at dt_X10_pointsOf 68 rfl) ?_
      exact j_iret hC hret (dOk_at dt_X10_pointsOf 69 rfl)
    · refine j_aload_n hC 0 rfl rfl (dOk_at dt_X10_pointsOf 8 rfl) ?_
      refine j_getR hC flX10_109 (show shp 107 = (10, 88) from rfl) (Nat.lt_of_lt_of_le (Nat.le_of_ble_eq_true rfl : 107 < 152) hN) (by decide) (by decide) (fun _ _ _ => rfl) (fun hs => hs 107 62 139 rfl) (dOk_at dt_X10_pointsOf 9 rfl) ?_
      refine j_iload_n hC 1 rfl rfl (dOk_at dt_X10_pointsOf 10 rfl) ?_
      refine j_iald hC (show shp 139 = (21, 10) from rfl) (Nat.lt_of_lt_of_le (Nat.le_of_ble_eq_true rfl : 139 < 152) hN) (dOk_at dt_X10_pointsOf 11 rfl) ?_
      refine j_aload_n hC 0 rfl rfl (dOk_at dt_X10_pointsOf 12 rfl) ?_
      refine j_getR hC flX10_36 (show shp 107 = (10, 88) from rfl) (Nat.lt_of_lt_of_le (Nat.le_of_ble_eq_true rfl : 107 < 152) hN) (by decide) (by decide) (fun _ _ _ => rfl) (fun hs => hs 107 31 115 rfl) (dOk_at dt_X10_pointsOf 13 rfl) ?_
      refine j_iload hC 4 rfl (dOk_at dt_X10_pointsOf 14 rfl) ?_
      refine j_iald hC (show shp 115 = (21, 32) from rfl) (Nat.lt_of_lt_of_le (Nat.le_of_ble_eq_true rfl : 115 < 152) hN) (dOk_at dt_X10_pointsOf 15 rfl) ?_
      refine j_callSi hC clX10_282 (fun rz hrz => c_X10_isOf hN _ _ _ rz hrz) rfl ⟨Nat.le_of_ble_eq_true rfl, Nat.le_of_ble_eq_true rfl⟩ ⟨Nat.le_refl 0, Nat.le_refl 0⟩ (As := [.int (hI h 139 (Int32.toNatClampNeg x1)), .int (hI h 115 (Int32.toNatClampNeg x4))]) (st := []) rfl (Nat.le_of_ble_eq_true rfl) (dOk_at dt_X10_pointsOf 16 rfl) (fun v_2 h_3 _ => ?_)
      refine j_if_eq hC (tgt := 56) (by decide) (dOk_at dt_X10_pointsOf 17 rfl) (fun q_4 => ?_) (fun q_4 => ?_)
      · exact b56 (fX10_pointsOf_5 fu) ih h_3 x1 x2 x3 x4 
      · refine j_aload_n hC 0 rfl rfl (dOk_at dt_X10_pointsOf 18 rfl) ?_
        refine j_getR hC flX10_109 (show shp 107 = (10, 88) from rfl) (Nat.lt_of_lt_of_le (Nat.le_of_ble_eq_true rfl : 107 < 152) hN) (by decide) (by decide) (fun _ _ _ => rfl) (fun hs => hs 107 62 139 rfl) (dOk_at dt_X10_pointsOf 19 rfl) ?_
        refine j_iload_n hC 2 rfl rfl (dOk_at dt_X10_pointsOf 20 rfl) ?_
        refine j_iald hC (show shp 139 = (21, 10) from rfl) (Nat.lt_of_lt_of_le (Nat.le_of_ble_eq_true rfl : 139 < 152) hN) (dOk_at dt_X10_pointsOf 21 rfl) ?_
        refine j_aload_n hC 0 rfl rfl (dOk_at dt_X10_pointsOf 22 rfl) ?_
        refine j_getR hC flX10_39 (show shp 107 = (10, 88) from rfl) (Nat.lt_of_lt_of_le (Nat.le_of_ble_eq_true rfl : 107 < 152) hN) (by decide) (by decide) (fun _ _ _ => rfl) (fun hs => hs 107 32 116 rfl) (dOk_at dt_X10_pointsOf 23 rfl) ?_
        refine j_iload hC 4 rfl (dOk_at dt_X10_pointsOf 24 rfl) ?_
        refine j_iald hC (show shp 116 = (21, 32) from rfl) (Nat.lt_of_lt_of_le (Nat.le_of_ble_eq_true rfl : 116 < 152) hN) (dOk_at dt_X10_pointsOf 25 rfl) ?_
        refine j_callSi hC clX10_282 (fun rz hrz => c_X10_isOf hN _ _ _ rz hrz) rfl ⟨Nat.le_of_ble_eq_true rfl, Nat.le_of_ble_eq_true rfl⟩ ⟨Nat.le_refl 0, Nat.le_refl 0⟩ (As := [.int (hI h_3 139 (Int32.toNatClampNeg x2)), .int (hI h_3 116 (Int32.toNatClampNeg x4))]) (st := []) rfl (Nat.le_of_ble_eq_true rfl) (dOk_at dt_X10_pointsOf 26 rfl) (fun v_5 h_6 _ => ?_)
        refine j_if_eq hC (tgt := 56) (by decide) (dOk_at dt_X10_pointsOf 27 rfl) (fun q_7 => ?_) (fun q_7 => ?_)
        · exact b56 (fX10_pointsOf_5 fu) ih h_6 x1 x2 x3 x4 
        · refine j_iconst hC (v := (1 : Int32)) rfl (dOk_at dt_X10_pointsOf 28 rfl) ?_
          refine j_goto hC (tgt := 57) (by decide) (dOk_at dt_X10_pointsOf 29 rfl) ?_
          exact b57 (fX10_pointsOf_5 fu) ih h_6 x1 x2 x3 x4 (1 : Int32) 
  unfold fX10_pointsOf
  refine j_iconst hC (v := (0 : Int32)) rfl (dOk_at dt_X10_pointsOf 0 rfl) ?_
  refine j_istore_n hC rfl (lv' := [(3, .int (0 : Int32)), (0, .ref 107), (1, .int x1), (2, .int x2)]) (by decide) rfl (dOk_at dt_X10_pointsOf 1 rfl) ?_
  refine j_iconst hC (v := (0 : Int32)) rfl (dOk_at dt_X10_pointsOf 2 rfl) ?_
  refine j_istore hC (lv' := [(4, .int (0 : Int32)), (3, .int (0 : Int32)), (0, .ref 107), (1, .int x1), (2, .int x2)]) (by decide) rfl (dOk_at dt_X10_pointsOf 3 rfl) ?_
  refine j_sub [2, 3, 4, 1, 0] rfl ?_
  exact b5 FU h x1 x2 (0 : Int32) (0 : Int32) 
def tb_X10_points : List (Nat × Instr × Nat) := [(0, .aload_n 0, 1), (1, .iconst 0, 1), (2, .putfield 157, 3), (5, .aload_n 0, 1), (6, .iload_n 1, 1), (7, .iload_n 2, 1), (8, .invokevirtual 519, 3), (11, .ifCond .eq 12, 3), (14, .aload_n 0, 1), (15, .iload_n 1, 1), (16, .iload_n 2, 1), (17, .invokevirtual 522, 3), (20, .goto 4, 3), (23, .iconst (-1), 1), (24, .ireturn, 1)]
theorem dt_X10_points : dOk cX10_points tb_X10_points = true := by decide +kernel
def fX10_points (h : Hp) (x1 : Int32) (x2 : Int32) : Option (Int32 × Hp) := bnd (fX10_areTwo (uI h 107 2 (0 : Int32)) x1 x2) (fun v_1 h_2 => if v_1 = 0 then (some ((-1 : Int32), h_2)) else (bnd (fX10_pointsOf h_2 x1 x2) (fun v_4 h_5 => some (v_4, h_5))))
set_option maxRecDepth 100000 in
set_option maxHeartbeats 4000000 in
theorem c_X10_points {l : Launch} {sb : State} {D : va_G} {ids : Nat → ClassId} {n : Nat} (hN : 152 ≤ n) (h : Hp) (x1 : Int32) (x2 : Int32) (r : Int32 × Hp) (hr : fX10_points h x1 x2 = some r) : jM l yX10_points cX10_points 3 (some .int) 2 sb D ids shp St n [.ref 107, .int x1, .int x2] h (jQi sb D ids shp St n r) := by
  refine jM_of hr rfl (Nat.le_of_ble_eq_true rfl) ?_
  intro p e s m args below meth c hC hret
  unfold fX10_points
  refine j_aload_n hC 0 rfl rfl (dOk_at dt_X10_points 0 rfl) ?_
  refine j_iconst hC (v := (0 : Int32)) rfl (dOk_at dt_X10_points 1 rfl) ?_
  refine j_putI hC St_SP flX10_157 (show shp 107 = (10, 88) from rfl) (Nat.lt_of_lt_of_le (Nat.le_of_ble_eq_true rfl : 107 < 152) hN) (by decide) (by decide) rfl rfl (dOk_at dt_X10_points 2 rfl) ?_
  refine j_aload_n hC 0 rfl rfl (dOk_at dt_X10_points 3 rfl) ?_
  refine j_iload_n hC 1 rfl rfl (dOk_at dt_X10_points 4 rfl) ?_
  refine j_iload_n hC 2 rfl rfl (dOk_at dt_X10_points 5 rfl) ?_
  refine j_callVi hC clX10_519 (fun rz hrz => c_X10_areTwo hN _ _ _ rz hrz) (show shp 107 = (10, 88) from rfl) (Nat.lt_of_lt_of_le (Nat.le_of_ble_eq_true rfl : 107 < 152) hN) (by decide) rfl rfl ⟨Nat.le_of_ble_eq_true rfl, Nat.le_of_ble_eq_true rfl⟩ ⟨Nat.le_refl 0, Nat.le_refl 0⟩ (As := [.int x1, .int x2]) (st := []) rfl (Nat.le_of_ble_eq_true rfl) (dOk_at dt_X10_points 6 rfl) (fun v_1 h_2 _ => ?_)
  refine j_if_eq hC (tgt := 23) (by decide) (dOk_at dt_X10_points 7 rfl) (fun q_3 => ?_) (fun q_3 => ?_)
  · refine j_iconst hC (v := (-1 : Int32)) rfl (dOk_at dt_X10_points 13 rfl) ?_
    exact j_iret hC hret (dOk_at dt_X10_points 14 rfl)
  · refine j_aload_n hC 0 rfl rfl (dOk_at dt_X10_points 8 rfl) ?_
    refine j_iload_n hC 1 rfl rfl (dOk_at dt_X10_points 9 rfl) ?_
    refine j_iload_n hC 2 rfl rfl (dOk_at dt_X10_points 10 rfl) ?_
    refine j_callVi hC clX10_522 (fun rz hrz => c_X10_pointsOf hN _ _ _ rz hrz) (show shp 107 = (10, 88) from rfl) (Nat.lt_of_lt_of_le (Nat.le_of_ble_eq_true rfl : 107 < 152) hN) (by decide) rfl rfl ⟨Nat.le_of_ble_eq_true rfl, Nat.le_of_ble_eq_true rfl⟩ ⟨Nat.le_refl 0, Nat.le_refl 0⟩ (As := [.int x1, .int x2]) (st := []) rfl (Nat.le_of_ble_eq_true rfl) (dOk_at dt_X10_points 11 rfl) (fun v_4 h_5 _ => ?_)
    refine j_goto hC (tgt := 24) (by decide) (dOk_at dt_X10_points 12 rfl) ?_
    exact j_iret hC hret (dOk_at dt_X10_points 14 rfl)
def tb_X10_agreed : List (Nat × Instr × Nat) := [(0, .aload_n 0, 1), (1, .iconst 0, 1), (2, .putfield 157, 3), (5, .aload_n 0, 1), (6, .iload_n 1, 1), (7, .iload_n 2, 1), (8, .invokevirtual 519, 3), (11, .ifCond .eq 19, 3), (14, .aload_n 0, 1), (15, .getfield 109, 3), (18, .iload_n 1, 1), (19, .iaload, 1), (20, .aload_n 0, 1), (21, .getfield 109, 3), (24, .iload_n 2, 1), (25, .iaload, 1), (26, .iand, 1), (27, .goto 4, 3), (30, .iconst (-1), 1), (31, .ireturn, 1)]
theorem dt_X10_agreed : dOk cX10_agreed tb_X10_agreed = true := by decide +kernel
def fX10_agreed (h : Hp) (x1 : Int32) (x2 : Int32) : Option (Int32 × Hp) := bnd (fX10_areTwo (uI h 107 2 (0 : Int32)) x1 x2) (fun v_1 h_2 => if v_1 = 0 then (some ((-1 : Int32), h_2)) else (if inb x1 10 then (if inb x2 10 then (some (((hI h_2 139 (Int32.toNatClampNeg x1)) &&& (hI h_2 139 (Int32.toNatClampNeg x2))), h_2)) else none) else none))
set_option maxRecDepth 100000 in
set_option maxHeartbeats 4000000 in
theorem c_X10_agreed {l : Launch} {sb : State} {D : va_G} {ids : Nat → ClassId} {n : Nat} (hN : 152 ≤ n) (h : Hp) (x1 : Int32) (x2 : Int32) (r : Int32 × Hp) (hr : fX10_agreed h x1 x2 = some r) : jM l yX10_agreed cX10_agreed 3 (some .int) 2 sb D ids shp St n [.ref 107, .int x1, .int x2] h (jQi sb D ids shp St n r) := by
  refine jM_of hr rfl (Nat.le_of_ble_eq_true rfl) ?_
  intro p e s m args below meth c hC hret
  unfold fX10_agreed
  refine j_aload_n hC 0 rfl rfl (dOk_at dt_X10_agreed 0 rfl) ?_
  refine j_iconst hC (v := (0 : Int32)) rfl (dOk_at dt_X10_agreed 1 rfl) ?_
  refine j_putI hC St_SP flX10_157 (show shp 107 = (10, 88) from rfl) (Nat.lt_of_lt_of_le (Nat.le_of_ble_eq_true rfl : 107 < 152) hN) (by decide) (by decide) rfl rfl (dOk_at dt_X10_agreed 2 rfl) ?_
  refine j_aload_n hC 0 rfl rfl (dOk_at dt_X10_agreed 3 rfl) ?_
  refine j_iload_n hC 1 rfl rfl (dOk_at dt_X10_agreed 4 rfl) ?_
  refine j_iload_n hC 2 rfl rfl (dOk_at dt_X10_agreed 5 rfl) ?_
  refine j_callVi hC clX10_519 (fun rz hrz => c_X10_areTwo hN _ _ _ rz hrz) (show shp 107 = (10, 88) from rfl) (Nat.lt_of_lt_of_le (Nat.le_of_ble_eq_true rfl : 107 < 152) hN) (by decide) rfl rfl ⟨Nat.le_of_ble_eq_true rfl, Nat.le_of_ble_eq_true rfl⟩ ⟨Nat.le_refl 0, Nat.le_refl 0⟩ (As := [.int x1, .int x2]) (st := []) rfl (Nat.le_of_ble_eq_true rfl) (dOk_at dt_X10_agreed 6 rfl) (fun v_1 h_2 _ => ?_)
  refine j_if_eq hC (tgt := 30) (by decide) (dOk_at dt_X10_agreed 7 rfl) (fun q_3 => ?_) (fun q_3 => ?_)
  · refine j_iconst hC (v := (-1 : Int32)) rfl (dOk_at dt_X10_agreed 18 rfl) ?_
    exact j_iret hC hret (dOk_at dt_X10_agreed 19 rfl)
  · refine j_aload_n hC 0 rfl rfl (dOk_at dt_X10_agreed 8 rfl) ?_
    refine j_getR hC flX10_109 (show shp 107 = (10, 88) from rfl) (Nat.lt_of_lt_of_le (Nat.le_of_ble_eq_true rfl : 107 < 152) hN) (by decide) (by decide) (fun _ _ _ => rfl) (fun hs => hs 107 62 139 rfl) (dOk_at dt_X10_agreed 9 rfl) ?_
    refine j_iload_n hC 1 rfl rfl (dOk_at dt_X10_agreed 10 rfl) ?_
    refine j_iald hC (show shp 139 = (21, 10) from rfl) (Nat.lt_of_lt_of_le (Nat.le_of_ble_eq_true rfl : 139 < 152) hN) (dOk_at dt_X10_agreed 11 rfl) ?_
    refine j_aload_n hC 0 rfl rfl (dOk_at dt_X10_agreed 12 rfl) ?_
    refine j_getR hC flX10_109 (show shp 107 = (10, 88) from rfl) (Nat.lt_of_lt_of_le (Nat.le_of_ble_eq_true rfl : 107 < 152) hN) (by decide) (by decide) (fun _ _ _ => rfl) (fun hs => hs 107 62 139 rfl) (dOk_at dt_X10_agreed 13 rfl) ?_
    refine j_iload_n hC 2 rfl rfl (dOk_at dt_X10_agreed 14 rfl) ?_
    refine j_iald hC (show shp 139 = (21, 10) from rfl) (Nat.lt_of_lt_of_le (Nat.le_of_ble_eq_true rfl : 139 < 152) hN) (dOk_at dt_X10_agreed 15 rfl) ?_
    refine j_iand hC (dOk_at dt_X10_agreed 16 rfl) ?_
    refine j_goto hC (tgt := 31) (by decide) (dOk_at dt_X10_agreed 17 rfl) ?_
    exact j_iret hC hret (dOk_at dt_X10_agreed 19 rfl)
def tb_X10_hasBy : List (Nat × Instr × Nat) := [(0, .aload_n 0, 1), (1, .getfield 109, 3), (4, .iload_n 1, 1), (5, .iaload, 1), (6, .aload_n 0, 1), (7, .getfield 109, 3), (10, .iload_n 2, 1), (11, .iaload, 1), (12, .iand, 1), (13, .invokestatic 423, 3), (16, .istore 5, 2), (18, .iload_n 3, 1), (19, .ifCond .ne 34, 3), (22, .iload 4, 2), (24, .ifCond .ne 22, 3), (27, .aload_n 0, 1), (28, .getfield 109, 3), (31, .iload_n 1, 1), (32, .iaload, 1), (33, .invokestatic 423, 3), (36, .aload_n 0, 1), (37, .iload_n 1, 1), (38, .iload_n 2, 1), (39, .invokevirtual 522, 3), (42, .isub, 1), (43, .goto 9, 3), (46, .aload_n 0, 1), (47, .iload_n 1, 1), (48, .iload_n 2, 1), (49, .invokevirtual 522, 3), (52, .ireturn, 1), (53, .iload 4, 2), (55, .ifCond .ne 8, 3), (58, .iload 5, 2), (60, .goto 7, 3), (63, .iconst 2, 1), (64, .iload 5, 2), (66, .imul, 1), (67, .ireturn, 1)]
theorem dt_X10_hasBy : dOk cX10_hasBy tb_X10_hasBy = true := by decide +kernel
def fX10_hasBy (h : Hp) (x1 : Int32) (x2 : Int32) (x3 : Int32) (x4 : Int32) : Option (Int32 × Hp) := if inb x1 10 then (if inb x2 10 then (bnd (fX10_manyOf h ((hI h 139 (Int32.toNatClampNeg x1)) &&& (hI h 139 (Int32.toNatClampNeg x2)))) (fun v_1 h_2 => if x3 = 0 then (if x4 = 0 then (if inb x1 10 then (bnd (fX10_manyOf h_2 (hI h_2 139 (Int32.toNatClampNeg x1))) (fun v_8 h_9 => bnd (fX10_pointsOf h_9 x1 x2) (fun v_10 h_11 => some ((v_8 - v_10), h_11)))) else none) else (bnd (fX10_pointsOf h_2 x1 x2) (fun v_6 h_7 => some (v_6, h_7)))) else (if x4 = 0 then (some (v_1, h_2)) else (some (((2 : Int32) * v_1), h_2))))) else none) else none
set_option maxRecDepth 100000 in
set_option maxHeartbeats 4000000 in
theorem c_X10_hasBy {l : Launch} {sb : State} {D : va_G} {ids : Nat → ClassId} {n : Nat} (hN : 152 ≤ n) (h : Hp) (x1 : Int32) (x2 : Int32) (x3 : Int32) (x4 : Int32) (r : Int32 × Hp) (hr : fX10_hasBy h x1 x2 x3 x4 = some r) : jM l yX10_hasBy cX10_hasBy 6 (some .int) 2 sb D ids shp St n [.ref 107, .int x1, .int x2, .int x3, .int x4] h (jQi sb D ids shp St n r) := by
  refine jM_of hr rfl (Nat.le_of_ble_eq_true rfl) ?_
  intro p e s m args below meth c hC hret
  unfold fX10_hasBy
  refine j_aload_n hC 0 rfl rfl (dOk_at dt_X10_hasBy 0 rfl) ?_
  refine j_getR hC flX10_109 (show shp 107 = (10, 88) from rfl) (Nat.lt_of_lt_of_le (Nat.le_of_ble_eq_true rfl : 107 < 152) hN) (by decide) (by decide) (fun _ _ _ => rfl) (fun hs => hs 107 62 139 rfl) (dOk_at dt_X10_hasBy 1 rfl) ?_
  refine j_iload_n hC 1 rfl rfl (dOk_at dt_X10_hasBy 2 rfl) ?_
  refine j_iald hC (show shp 139 = (21, 10) from rfl) (Nat.lt_of_lt_of_le (Nat.le_of_ble_eq_true rfl : 139 < 152) hN) (dOk_at dt_X10_hasBy 3 rfl) ?_
  refine j_aload_n hC 0 rfl rfl (dOk_at dt_X10_hasBy 4 rfl) ?_
  refine j_getR hC flX10_109 (show shp 107 = (10, 88) from rfl) (Nat.lt_of_lt_of_le (Nat.le_of_ble_eq_true rfl : 107 < 152) hN) (by decide) (by decide) (fun _ _ _ => rfl) (fun hs => hs 107 62 139 rfl) (dOk_at dt_X10_hasBy 5 rfl) ?_
  refine j_iload_n hC 2 rfl rfl (dOk_at dt_X10_hasBy 6 rfl) ?_
  refine j_iald hC (show shp 139 = (21, 10) from rfl) (Nat.lt_of_lt_of_le (Nat.le_of_ble_eq_true rfl : 139 < 152) hN) (dOk_at dt_X10_hasBy 7 rfl) ?_
  refine j_iand hC (dOk_at dt_X10_hasBy 8 rfl) ?_
  refine j_callSi hC clX10_423 (fun rz hrz => c_X10_manyOf hN _ _ rz hrz) rfl ⟨Nat.le_of_ble_eq_true rfl, Nat.le_of_ble_eq_true rfl⟩ ⟨Nat.le_refl 0, Nat.le_refl 0⟩ (As := [.int ((hI h 139 (Int32.toNatClampNeg x1)) &&& (hI h 139 (Int32.toNatClampNeg x2)))]) (st := []) rfl (Nat.le_of_ble_eq_true rfl) (dOk_at dt_X10_hasBy 9 rfl) (fun v_1 h_2 _ => ?_)
  refine j_istore hC (lv' := [(5, .int v_1), (0, .ref 107), (1, .int x1), (2, .int x2), (3, .int x3), (4, .int x4)]) (by decide) rfl (dOk_at dt_X10_hasBy 10 rfl) ?_
  refine j_iload_n hC 4 rfl rfl (dOk_at dt_X10_hasBy 11 rfl) ?_
  refine j_if_ne hC (tgt := 53) (by decide) (dOk_at dt_X10_hasBy 12 rfl) (fun q_3 => ?_) (fun q_3 => ?_)
  · refine j_iload hC 5 rfl (dOk_at dt_X10_hasBy 31 rfl) ?_
    refine j_if_ne hC (tgt := 63) (by decide) (dOk_at dt_X10_hasBy 32 rfl) (fun q_4 => ?_) (fun q_4 => ?_)
    · refine j_iconst hC (v := (2 : Int32)) rfl (dOk_at dt_X10_hasBy 35 rfl) ?_
      refine j_iload hC 0 rfl (dOk_at dt_X10_hasBy 36 rfl) ?_
      refine j_imul hC (dOk_at dt_X10_hasBy 37 rfl) ?_
      exact j_iret hC hret (dOk_at dt_X10_hasBy 38 rfl)
    · refine j_iload hC 0 rfl (dOk_at dt_X10_hasBy 33 rfl) ?_
      refine j_goto hC (tgt := 67) (by decide) (dOk_at dt_X10_hasBy 34 rfl) ?_
      exact j_iret hC hret (dOk_at dt_X10_hasBy 38 rfl)
  · refine j_iload hC 5 rfl (dOk_at dt_X10_hasBy 13 rfl) ?_
    refine j_if_ne hC (tgt := 46) (by decide) (dOk_at dt_X10_hasBy 14 rfl) (fun q_5 => ?_) (fun q_5 => ?_)
    · refine j_aload_n hC 1 rfl rfl (dOk_at dt_X10_hasBy 26 rfl) ?_
      refine j_iload_n hC 2 rfl rfl (dOk_at dt_X10_hasBy 27 rfl) ?_
      refine j_iload_n hC 3 rfl rfl (dOk_at dt_X10_hasBy 28 rfl) ?_
      refine j_callVi hC clX10_522 (fun rz hrz => c_X10_pointsOf hN _ _ _ rz hrz) (show shp 107 = (10, 88) from rfl) (Nat.lt_of_lt_of_le (Nat.le_of_ble_eq_true rfl : 107 < 152) hN) (by decide) rfl rfl ⟨Nat.le_of_ble_eq_true rfl, Nat.le_of_ble_eq_true rfl⟩ ⟨Nat.le_refl 0, Nat.le_refl 0⟩ (As := [.int x1, .int x2]) (st := []) rfl (Nat.le_of_ble_eq_true rfl) (dOk_at dt_X10_hasBy 29 rfl) (fun v_6 h_7 _ => ?_)
      exact j_iret hC hret (dOk_at dt_X10_hasBy 30 rfl)
    · refine j_aload_n hC 1 rfl rfl (dOk_at dt_X10_hasBy 15 rfl) ?_
      refine j_getR hC flX10_109 (show shp 107 = (10, 88) from rfl) (Nat.lt_of_lt_of_le (Nat.le_of_ble_eq_true rfl : 107 < 152) hN) (by decide) (by decide) (fun _ _ _ => rfl) (fun hs => hs 107 62 139 rfl) (dOk_at dt_X10_hasBy 16 rfl) ?_
      refine j_iload_n hC 2 rfl rfl (dOk_at dt_X10_hasBy 17 rfl) ?_
      refine j_iald hC (show shp 139 = (21, 10) from rfl) (Nat.lt_of_lt_of_le (Nat.le_of_ble_eq_true rfl : 139 < 152) hN) (dOk_at dt_X10_hasBy 18 rfl) ?_
      refine j_callSi hC clX10_423 (fun rz hrz => c_X10_manyOf hN _ _ rz hrz) rfl ⟨Nat.le_of_ble_eq_true rfl, Nat.le_of_ble_eq_true rfl⟩ ⟨Nat.le_refl 0, Nat.le_refl 0⟩ (As := [.int (hI h_2 139 (Int32.toNatClampNeg x1))]) (st := []) rfl (Nat.le_of_ble_eq_true rfl) (dOk_at dt_X10_hasBy 19 rfl) (fun v_8 h_9 _ => ?_)
      refine j_aload_n hC 1 rfl rfl (dOk_at dt_X10_hasBy 20 rfl) ?_
      refine j_iload_n hC 2 rfl rfl (dOk_at dt_X10_hasBy 21 rfl) ?_
      refine j_iload_n hC 3 rfl rfl (dOk_at dt_X10_hasBy 22 rfl) ?_
      refine j_callVi hC clX10_522 (fun rz hrz => c_X10_pointsOf hN _ _ _ rz hrz) (show shp 107 = (10, 88) from rfl) (Nat.lt_of_lt_of_le (Nat.le_of_ble_eq_true rfl : 107 < 152) hN) (by decide) rfl rfl ⟨Nat.le_of_ble_eq_true rfl, Nat.le_of_ble_eq_true rfl⟩ ⟨Nat.le_refl 0, Nat.le_refl 0⟩ (As := [.int x1, .int x2]) (st := [.int v_8]) rfl (Nat.le_of_ble_eq_true rfl) (dOk_at dt_X10_hasBy 23 rfl) (fun v_10 h_11 _ => ?_)
      refine j_isub hC (dOk_at dt_X10_hasBy 24 rfl) ?_
      refine j_goto hC (tgt := 52) (by decide) (dOk_at dt_X10_hasBy 25 rfl) ?_
      exact j_iret hC hret (dOk_at dt_X10_hasBy 30 rfl)
def tb_X10_restAt : List (Nat × Instr × Nat) := [(0, .iconst 0, 1), (1, .istore 4, 2), (3, .iconst 0, 1), (4, .istore 5, 2), (6, .iload 5, 2), (8, .iconst 4, 1), (9, .if_icmp .ge 92, 3), (12, .iload 5, 2), (14, .iconst 2, 1), (15, .idiv, 1), (16, .istore 6, 2), (18, .iload 5, 2), (20, .iconst 2, 1), (21, .irem, 1), (22, .istore 7, 2), (24, .aload_n 0, 1), (25, .iload_n 1, 1), (26, .iload_n 2, 1), (27, .iconst 1, 1), (28, .iload 6, 2), (30, .isub, 1), (31, .iload 7, 2), (33, .invokevirtual 525, 3), (36, .aload_n 0, 1), (37, .iload_n 1, 1), (38, .iload_n 2, 1), (39, .iload 6, 2), (41, .iload 7, 2), (43, .invokevirtual 525, 3), (46, .if_icmp .gt 49, 3), (49, .aload_n 0, 1), (50, .iload_n 2, 1), (51, .iload_n 1, 1), (52, .iconst 1, 1), (53, .iload 7, 2), (55, .isub, 1), (56, .iload 6, 2), (58, .invokevirtual 525, 3), (61, .aload_n 0, 1), (62, .iload_n 2, 1), (63, .iload_n 1, 1), (64, .iload 7, 2), (66, .iload 6, 2), (68, .invokevirtual 525, 3), (71, .if_icmp .le 6, 3), (74, .goto 21, 3), (77, .iload 4, 2), (79, .iload_n 3, 1), (80, .if_icmp .ne 12, 3), (83, .bipush 10, 2), (85, .iload 6, 2), (87, .imul, 1), (88, .iload 7, 2), (90, .iadd, 1), (91, .ireturn, 1), (92, .iinc 4 1, 3), (95, .iinc 5 1, 3), (98, .goto (-92), 3), (101, .iload_n 3, 1), (102, .ifCond .ge 8, 3), (105, .iload 4, 2), (107, .goto 5, 3), (110, .bipush (-2), 2), (112, .ireturn, 1)]
theorem dt_X10_restAt : dOk cX10_restAt tb_X10_restAt = true := by decide +kernel
def fX10_restAt_95 (rec6 : Hp → Int32 → Int32 → Int32 → Int32 → Int32 → Option (Int32 × Hp)) (h : Hp) (x1 : Int32) (x2 : Int32) (x3 : Int32) (x4 : Int32) (x5 : Int32) : Option (Int32 × Hp) := rec6 h x1 x2 x3 x4 (x5 + (1 : Int32))
def fX10_restAt_6 : Nat → Hp → Int32 → Int32 → Int32 → Int32 → Int32 → Option (Int32 × Hp)
  | 0, _, _, _, _, _, _ => none
  | fu + 1, h, x1, x2, x3, x4, x5 => if (4 : Int32) ≤ x5 then (if 0 ≤ x3 then (some ((-2 : Int32), h)) else (some (x4, h))) else (bnd (fX10_hasBy h x1 x2 ((1 : Int32) - (x5 / (2 : Int32))) (x5 - x5 / (2 : Int32) * (2 : Int32))) (fun v_3 h_4 => bnd (fX10_hasBy h_4 x1 x2 (x5 / (2 : Int32)) (x5 - x5 / (2 : Int32) * (2 : Int32))) (fun v_5 h_6 => if v_5 < v_3 then (fX10_restAt_95 (fX10_restAt_6 fu) h_6 x1 x2 x3 x4 x5) else (bnd (fX10_hasBy h_6 x2 x1 ((1 : Int32) - (x5 - x5 / (2 : Int32) * (2 : Int32))) (x5 / (2 : Int32))) (fun v_8 h_9 => bnd (fX10_hasBy h_9 x2 x1 (x5 - x5 / (2 : Int32) * (2 : Int32)) (x5 / (2 : Int32))) (fun v_10 h_11 => if v_8 ≤ v_10 then (if x4 = x3 then (some ((((10 : Int32) * (x5 / (2 : Int32))) + (x5 - x5 / (2 : Int32) * (2 : Int32))), h_11)) else (fX10_restAt_95 (fX10_restAt_6 fu) h_11 x1 x2 x3 (x4 + (1 : Int32)) x5)) else (fX10_restAt_95 (fX10_restAt_6 fu) h_11 x1 x2 x3 x4 x5)))))))
def fX10_restAt (h : Hp) (x1 : Int32) (x2 : Int32) (x3 : Int32) : Option (Int32 × Hp) := fX10_restAt_6 FU h x1 x2 x3 (0 : Int32) (0 : Int32)
set_option maxRecDepth 100000 in
set_option maxHeartbeats 4000000 in
theorem c_X10_restAt {l : Launch} {sb : State} {D : va_G} {ids : Nat → ClassId} {n : Nat} (hN : 152 ≤ n) (h : Hp) (x1 : Int32) (x2 : Int32) (x3 : Int32) (r : Int32 × Hp) (hr : fX10_restAt h x1 x2 x3 = some r) : jM l yX10_restAt cX10_restAt 8 (some .int) 3 sb D ids shp St n [.ref 107, .int x1, .int x2, .int x3] h (jQi sb D ids shp St n r) := by
  refine jM_of hr rfl (Nat.le_of_ble_eq_true rfl) ?_
  intro p e s m args below meth c hC hret
  have b95 : ∀ (rec6 : Hp → Int32 → Int32 → Int32 → Int32 → Int32 → Option (Int32 × Hp)) (hrec6 : ∀ (h : Hp) (x1 : Int32) (x2 : Int32) (x3 : Int32) (x4 : Int32) (x5 : Int32) , jJ p l e (rmD 3) s m args below meth c 8 sb D ids shp St (fun r => MQ below (jQi sb D ids shp St n r) args s 0 0 (jA sb)) n 0 0 h 6 [(0, .ref 107), (1, .int x1), (2, .int x2), (3, .int x3), (4, .int x4), (5, .int x5)] [] (rec6 h x1 x2 x3 x4 x5)) (h : Hp) (x1 : Int32) (x2 : Int32) (x3 : Int32) (x4 : Int32) (x5 : Int32) , jJ p l e (rmD 3) s m args below meth c 8 sb D ids shp St (fun r => MQ below (jQi sb D ids shp St n r) args s 0 0 (jA sb)) n 0 0 h 95 [(0, .ref 107), (1, .int x1), (2, .int x2), (3, .int x3), (4, .int x4), (5, .int x5)] [] (fX10_restAt_95 rec6 h x1 x2 x3 x4 x5) := by
    intro rec6 hrec6 h x1 x2 x3 x4 x5 
    unfold fX10_restAt_95
    refine j_iinc hC (v := (x5 + (1 : Int32))) (lv' := [(5, .int (x5 + (1 : Int32))), (0, .ref 107), (1, .int x1), (2, .int x2), (3, .int x3), (4, .int x4)]) 5 rfl (congrArg (fun z => x5 + z) (show Int32.ofInt (1) = (1 : Int32) from by decide)) (by decide) rfl (dOk_at dt_X10_restAt 56 rfl) ?_
    refine j_goto hC (tgt := 6) (by decide) (dOk_at dt_X10_restAt 57 rfl) ?_
    refine j_sub [1, 2, 3, 4, 5, 0] rfl ?_
    exact hrec6 h x1 x2 x3 x4 (x5 + (1 : Int32)) 
  have b6 : ∀ (fu : Nat) (h : Hp) (x1 : Int32) (x2 : Int32) (x3 : Int32) (x4 : Int32) (x5 : Int32) , jJ p l e (rmD 3) s m args below meth c 8 sb D ids shp St (fun r => MQ below (jQi sb D ids shp St n r) args s 0 0 (jA sb)) n 0 0 h 6 [(0, .ref 107), (1, .int x1), (2, .int x2), (3, .int x3), (4, .int x4), (5, .int x5)] [] (fX10_restAt_6 fu h x1 x2 x3 x4 x5) := by
    intro fu 
    induction fu with
    | zero => intro h x1 x2 x3 x4 x5 ; exact j_none
    | succ fu ih =>
    intro h x1 x2 x3 x4 x5 
    rw [fX10_restAt_6]
    refine j_iload hC 5 rfl (dOk_at dt_X10_restAt 4 rfl) ?_
    refine j_iconst hC (v := (4 : Int32)) rfl (dOk_at dt_X10_restAt 5 rfl) ?_
    refine j_icmp_ge hC (tgt := 101) (by decide) (dOk_at dt_X10_restAt 6 rfl) (fun q_1 => ?_) (fun q_1 => ?_)
    · refine j_iload_n hC 3 rfl rfl (dOk_at dt_X10_restAt 58 rfl) ?_
      refine j_if_ge hC (tgt := 110) (by decide) (dOk_at dt_X10_restAt 59 rfl) (fun q_2 => ?_) (fun q_2 => ?_)
      · refine j_bipush hC (v := (-2 : Int32)) rfl (dOk_at dt_X10_restAt 62 rfl) ?_
        exact j_iret hC hret (dOk_at dt_X10_restAt 63 rfl)
      · refine j_iload hC 4 rfl (dOk_at dt_X10_restAt 60 rfl) ?_
        refine j_goto hC (tgt := 112) (by decide) (dOk_at dt_X10_restAt 61 rfl) ?_
        exact j_iret hC hret (dOk_at dt_X10_restAt 63 rfl)
    · refine j_iload hC 5 rfl (dOk_at dt_X10_restAt 7 rfl) ?_
      refine j_iconst hC (v := (2 : Int32)) rfl (dOk_at dt_X10_restAt 8 rfl) ?_
      refine j_idivK hC (by decide) (dOk_at dt_X10_restAt 9 rfl) ?_
      refine j_istore hC (lv' := [(6, .int (x5 / (2 : Int32))), (0, .ref 107), (1, .int x1), (2, .int x2), (3, .int x3), (4, .int x4), (5, .int x5)]) (by decide) rfl (dOk_at dt_X10_restAt 10 rfl) ?_
      refine j_iload hC 6 rfl (dOk_at dt_X10_restAt 11 rfl) ?_
      refine j_iconst hC (v := (2 : Int32)) rfl (dOk_at dt_X10_restAt 12 rfl) ?_
      refine j_iremK hC (by decide) (dOk_at dt_X10_restAt 13 rfl) ?_
      refine j_istore hC (lv' := [(7, .int (x5 - x5 / (2 : Int32) * (2 : Int32))), (6, .int (x5 / (2 : Int32))), (0, .ref 107), (1, .int x1), (2, .int x2), (3, .int x3), (4, .int x4), (5, .int x5)]) (by decide) rfl (dOk_at dt_X10_restAt 14 rfl) ?_
      refine j_aload_n hC 2 rfl rfl (dOk_at dt_X10_restAt 15 rfl) ?_
      refine j_iload_n hC 3 rfl rfl (dOk_at dt_X10_restAt 16 rfl) ?_
      refine j_iload_n hC 4 rfl rfl (dOk_at dt_X10_restAt 17 rfl) ?_
      refine j_iconst hC (v := (1 : Int32)) rfl (dOk_at dt_X10_restAt 18 rfl) ?_
      refine j_iload hC 1 rfl (dOk_at dt_X10_restAt 19 rfl) ?_
      refine j_isub hC (dOk_at dt_X10_restAt 20 rfl) ?_
      refine j_iload hC 0 rfl (dOk_at dt_X10_restAt 21 rfl) ?_
      refine j_callVi hC clX10_525 (fun rz hrz => c_X10_hasBy hN _ _ _ _ _ rz hrz) (show shp 107 = (10, 88) from rfl) (Nat.lt_of_lt_of_le (Nat.le_of_ble_eq_true rfl : 107 < 152) hN) (by decide) rfl rfl ⟨Nat.le_of_ble_eq_true rfl, Nat.le_of_ble_eq_true rfl⟩ ⟨Nat.le_refl 0, Nat.le_refl 0⟩ (As := [.int x1, .int x2, .int ((1 : Int32) - (x5 / (2 : Int32))), .int (x5 - x5 / (2 : Int32) * (2 : Int32))]) (st := []) rfl (Nat.le_of_ble_eq_true rfl) (dOk_at dt_X10_restAt 22 rfl) (fun v_3 h_4 _ => ?_)
      refine j_aload_n hC 2 rfl rfl (dOk_at dt_X10_restAt 23 rfl) ?_
      refine j_iload_n hC 3 rfl rfl (dOk_at dt_X10_restAt 24 rfl) ?_
      refine j_iload_n hC 4 rfl rfl (dOk_at dt_X10_restAt 25 rfl) ?_
      refine j_iload hC 1 rfl (dOk_at dt_X10_restAt 26 rfl) ?_
      refine j_iload hC 0 rfl (dOk_at dt_X10_restAt 27 rfl) ?_
      refine j_callVi hC clX10_525 (fun rz hrz => c_X10_hasBy hN _ _ _ _ _ rz hrz) (show shp 107 = (10, 88) from rfl) (Nat.lt_of_lt_of_le (Nat.le_of_ble_eq_true rfl : 107 < 152) hN) (by decide) rfl rfl ⟨Nat.le_of_ble_eq_true rfl, Nat.le_of_ble_eq_true rfl⟩ ⟨Nat.le_refl 0, Nat.le_refl 0⟩ (As := [.int x1, .int x2, .int (x5 / (2 : Int32)), .int (x5 - x5 / (2 : Int32) * (2 : Int32))]) (st := [.int v_3]) rfl (Nat.le_of_ble_eq_true rfl) (dOk_at dt_X10_restAt 28 rfl) (fun v_5 h_6 _ => ?_)
      refine j_icmp_gt hC (tgt := 95) (by decide) (dOk_at dt_X10_restAt 29 rfl) (fun q_7 => ?_) (fun q_7 => ?_)
      · refine j_sub [2, 3, 4, 5, 6, 7] rfl ?_
        exact b95 (fX10_restAt_6 fu) ih h_6 x1 x2 x3 x4 x5 
      · refine j_aload_n hC 2 rfl rfl (dOk_at dt_X10_restAt 30 rfl) ?_
        refine j_iload_n hC 4 rfl rfl (dOk_at dt_X10_restAt 31 rfl) ?_
        refine j_iload_n hC 3 rfl rfl (dOk_at dt_X10_restAt 32 rfl) ?_
        refine j_iconst hC (v := (1 : Int32)) rfl (dOk_at dt_X10_restAt 33 rfl) ?_
        refine j_iload hC 0 rfl (dOk_at dt_X10_restAt 34 rfl) ?_
        refine j_isub hC (dOk_at dt_X10_restAt 35 rfl) ?_
        refine j_iload hC 1 rfl (dOk_at dt_X10_restAt 36 rfl) ?_
        refine j_callVi hC clX10_525 (fun rz hrz => c_X10_hasBy hN _ _ _ _ _ rz hrz) (show shp 107 = (10, 88) from rfl) (Nat.lt_of_lt_of_le (Nat.le_of_ble_eq_true rfl : 107 < 152) hN) (by decide) rfl rfl ⟨Nat.le_of_ble_eq_true rfl, Nat.le_of_ble_eq_true rfl⟩ ⟨Nat.le_refl 0, Nat.le_refl 0⟩ (As := [.int x2, .int x1, .int ((1 : Int32) - (x5 - x5 / (2 : Int32) * (2 : Int32))), .int (x5 / (2 : Int32))]) (st := []) rfl (Nat.le_of_ble_eq_true rfl) (dOk_at dt_X10_restAt 37 rfl) (fun v_8 h_9 _ => ?_)
        refine j_aload_n hC 2 rfl rfl (dOk_at dt_X10_restAt 38 rfl) ?_
        refine j_iload_n hC 4 rfl rfl (dOk_at dt_X10_restAt 39 rfl) ?_
        refine j_iload_n hC 3 rfl rfl (dOk_at dt_X10_restAt 40 rfl) ?_
        refine j_iload hC 0 rfl (dOk_at dt_X10_restAt 41 rfl) ?_
        refine j_iload hC 1 rfl (dOk_at dt_X10_restAt 42 rfl) ?_
        refine j_callVi hC clX10_525 (fun rz hrz => c_X10_hasBy hN _ _ _ _ _ rz hrz) (show shp 107 = (10, 88) from rfl) (Nat.lt_of_lt_of_le (Nat.le_of_ble_eq_true rfl : 107 < 152) hN) (by decide) rfl rfl ⟨Nat.le_of_ble_eq_true rfl, Nat.le_of_ble_eq_true rfl⟩ ⟨Nat.le_refl 0, Nat.le_refl 0⟩ (As := [.int x2, .int x1, .int (x5 - x5 / (2 : Int32) * (2 : Int32)), .int (x5 / (2 : Int32))]) (st := [.int v_8]) rfl (Nat.le_of_ble_eq_true rfl) (dOk_at dt_X10_restAt 43 rfl) (fun v_10 h_11 _ => ?_)
        refine j_icmp_le hC (tgt := 77) (by decide) (dOk_at dt_X10_restAt 44 rfl) (fun q_12 => ?_) (fun q_12 => ?_)
        · refine j_iload hC 6 rfl (dOk_at dt_X10_restAt 46 rfl) ?_
          refine j_iload_n hC 5 rfl rfl (dOk_at dt_X10_restAt 47 rfl) ?_
          refine j_icmp_ne hC (tgt := 92) (by decide) (dOk_at dt_X10_restAt 48 rfl) (fun q_13 => ?_) (fun q_13 => ?_)
          · refine j_iinc hC (v := (x4 + (1 : Int32))) (lv' := [(4, .int (x4 + (1 : Int32))), (7, .int (x5 - x5 / (2 : Int32) * (2 : Int32))), (6, .int (x5 / (2 : Int32))), (0, .ref 107), (1, .int x1), (2, .int x2), (3, .int x3), (5, .int x5)]) 6 rfl (congrArg (fun z => x4 + z) (show Int32.ofInt (1) = (1 : Int32) from by decide)) (by decide) rfl (dOk_at dt_X10_restAt 55 rfl) ?_
            refine j_sub [3, 4, 5, 6, 0, 7] rfl ?_
            exact b95 (fX10_restAt_6 fu) ih h_11 x1 x2 x3 (x4 + (1 : Int32)) x5 
          · refine j_bipush hC (v := (10 : Int32)) rfl (dOk_at dt_X10_restAt 49 rfl) ?_
            refine j_iload hC 1 rfl (dOk_at dt_X10_restAt 50 rfl) ?_
            refine j_imul hC (dOk_at dt_X10_restAt 51 rfl) ?_
            refine j_iload hC 0 rfl (dOk_at dt_X10_restAt 52 rfl) ?_
            refine j_iadd hC (dOk_at dt_X10_restAt 53 rfl) ?_
            exact j_iret hC hret (dOk_at dt_X10_restAt 54 rfl)
        · refine j_goto hC (tgt := 95) (by decide) (dOk_at dt_X10_restAt 45 rfl) ?_
          refine j_sub [2, 3, 4, 5, 6, 7] rfl ?_
          exact b95 (fX10_restAt_6 fu) ih h_11 x1 x2 x3 x4 x5 
  unfold fX10_restAt
  refine j_iconst hC (v := (0 : Int32)) rfl (dOk_at dt_X10_restAt 0 rfl) ?_
  refine j_istore hC (lv' := [(4, .int (0 : Int32)), (0, .ref 107), (1, .int x1), (2, .int x2), (3, .int x3)]) (by decide) rfl (dOk_at dt_X10_restAt 1 rfl) ?_
  refine j_iconst hC (v := (0 : Int32)) rfl (dOk_at dt_X10_restAt 2 rfl) ?_
  refine j_istore hC (lv' := [(5, .int (0 : Int32)), (4, .int (0 : Int32)), (0, .ref 107), (1, .int x1), (2, .int x2), (3, .int x3)]) (by decide) rfl (dOk_at dt_X10_restAt 3 rfl) ?_
  refine j_sub [2, 3, 4, 5, 1, 0] rfl ?_
  exact b6 FU h x1 x2 x3 (0 : Int32) (0 : Int32) 
def tb_X10_rests : List (Nat × Instr × Nat) := [(0, .aload_n 0, 1), (1, .iconst 0, 1), (2, .putfield 157, 3), (5, .aload_n 0, 1), (6, .iload_n 1, 1), (7, .iload_n 2, 1), (8, .invokevirtual 519, 3), (11, .ifCond .eq 13, 3), (14, .aload_n 0, 1), (15, .iload_n 1, 1), (16, .iload_n 2, 1), (17, .iconst (-1), 1), (18, .invokevirtual 529, 3), (21, .goto 4, 3), (24, .iconst (-1), 1), (25, .ireturn, 1)]
theorem dt_X10_rests : dOk cX10_rests tb_X10_rests = true := by decide +kernel
def fX10_rests (h : Hp) (x1 : Int32) (x2 : Int32) : Option (Int32 × Hp) := bnd (fX10_areTwo (uI h 107 2 (0 : Int32)) x1 x2) (fun v_1 h_2 => if v_1 = 0 then (some ((-1 : Int32), h_2)) else (bnd (fX10_restAt h_2 x1 x2 (-1 : Int32)) (fun v_4 h_5 => some (v_4, h_5))))
set_option maxRecDepth 100000 in
set_option maxHeartbeats 4000000 in
theorem c_X10_rests {l : Launch} {sb : State} {D : va_G} {ids : Nat → ClassId} {n : Nat} (hN : 152 ≤ n) (h : Hp) (x1 : Int32) (x2 : Int32) (r : Int32 × Hp) (hr : fX10_rests h x1 x2 = some r) : jM l yX10_rests cX10_rests 3 (some .int) 4 sb D ids shp St n [.ref 107, .int x1, .int x2] h (jQi sb D ids shp St n r) := by
  refine jM_of hr rfl (Nat.le_of_ble_eq_true rfl) ?_
  intro p e s m args below meth c hC hret
  unfold fX10_rests
  refine j_aload_n hC 0 rfl rfl (dOk_at dt_X10_rests 0 rfl) ?_
  refine j_iconst hC (v := (0 : Int32)) rfl (dOk_at dt_X10_rests 1 rfl) ?_
  refine j_putI hC St_SP flX10_157 (show shp 107 = (10, 88) from rfl) (Nat.lt_of_lt_of_le (Nat.le_of_ble_eq_true rfl : 107 < 152) hN) (by decide) (by decide) rfl rfl (dOk_at dt_X10_rests 2 rfl) ?_
  refine j_aload_n hC 0 rfl rfl (dOk_at dt_X10_rests 3 rfl) ?_
  refine j_iload_n hC 1 rfl rfl (dOk_at dt_X10_rests 4 rfl) ?_
  refine j_iload_n hC 2 rfl rfl (dOk_at dt_X10_rests 5 rfl) ?_
  refine j_callVi hC clX10_519 (fun rz hrz => c_X10_areTwo hN _ _ _ rz hrz) (show shp 107 = (10, 88) from rfl) (Nat.lt_of_lt_of_le (Nat.le_of_ble_eq_true rfl : 107 < 152) hN) (by decide) rfl rfl ⟨Nat.le_of_ble_eq_true rfl, Nat.le_of_ble_eq_true rfl⟩ ⟨Nat.le_refl 0, Nat.le_refl 0⟩ (As := [.int x1, .int x2]) (st := []) rfl (Nat.le_of_ble_eq_true rfl) (dOk_at dt_X10_rests 6 rfl) (fun v_1 h_2 _ => ?_)
  refine j_if_eq hC (tgt := 24) (by decide) (dOk_at dt_X10_rests 7 rfl) (fun q_3 => ?_) (fun q_3 => ?_)
  · refine j_iconst hC (v := (-1 : Int32)) rfl (dOk_at dt_X10_rests 14 rfl) ?_
    exact j_iret hC hret (dOk_at dt_X10_rests 15 rfl)
  · refine j_aload_n hC 0 rfl rfl (dOk_at dt_X10_rests 8 rfl) ?_
    refine j_iload_n hC 1 rfl rfl (dOk_at dt_X10_rests 9 rfl) ?_
    refine j_iload_n hC 2 rfl rfl (dOk_at dt_X10_rests 10 rfl) ?_
    refine j_iconst hC (v := (-1 : Int32)) rfl (dOk_at dt_X10_rests 11 rfl) ?_
    refine j_callVi hC clX10_529 (fun rz hrz => c_X10_restAt hN _ _ _ _ rz hrz) (show shp 107 = (10, 88) from rfl) (Nat.lt_of_lt_of_le (Nat.le_of_ble_eq_true rfl : 107 < 152) hN) (by decide) rfl rfl ⟨Nat.le_of_ble_eq_true rfl, Nat.le_of_ble_eq_true rfl⟩ ⟨Nat.le_refl 0, Nat.le_refl 0⟩ (As := [.int x1, .int x2, .int (-1 : Int32)]) (st := []) rfl (Nat.le_of_ble_eq_true rfl) (dOk_at dt_X10_rests 12 rfl) (fun v_4 h_5 _ => ?_)
    refine j_goto hC (tgt := 25) (by decide) (dOk_at dt_X10_rests 13 rfl) ?_
    exact j_iret hC hret (dOk_at dt_X10_rests 15 rfl)
def tb_X10_rest : List (Nat × Instr × Nat) := [(0, .aload_n 0, 1), (1, .iconst 0, 1), (2, .putfield 157, 3), (5, .aload_n 0, 1), (6, .iload_n 1, 1), (7, .iload_n 2, 1), (8, .invokevirtual 519, 3), (11, .ifCond .eq 17, 3), (14, .iload_n 3, 1), (15, .ifCond .lt 13, 3), (18, .aload_n 0, 1), (19, .iload_n 1, 1), (20, .iload_n 2, 1), (21, .iload_n 3, 1), (22, .invokevirtual 529, 3), (25, .goto 4, 3), (28, .iconst (-1), 1), (29, .ireturn, 1)]
theorem dt_X10_rest : dOk cX10_rest tb_X10_rest = true := by decide +kernel
def fX10_rest (h : Hp) (x1 : Int32) (x2 : Int32) (x3 : Int32) : Option (Int32 × Hp) := bnd (fX10_areTwo (uI h 107 2 (0 : Int32)) x1 x2) (fun v_1 h_2 => if v_1 = 0 then (some ((-1 : Int32), h_2)) else (if x3 < 0 then (some ((-1 : Int32), h_2)) else (bnd (fX10_restAt h_2 x1 x2 x3) (fun v_5 h_6 => some (v_5, h_6)))))
set_option maxRecDepth 100000 in
set_option maxHeartbeats 4000000 in
theorem c_X10_rest {l : Launch} {sb : State} {D : va_G} {ids : Nat → ClassId} {n : Nat} (hN : 152 ≤ n) (h : Hp) (x1 : Int32) (x2 : Int32) (x3 : Int32) (r : Int32 × Hp) (hr : fX10_rest h x1 x2 x3 = some r) : jM l yX10_rest cX10_rest 4 (some .int) 4 sb D ids shp St n [.ref 107, .int x1, .int x2, .int x3] h (jQi sb D ids shp St n r) := by
  refine jM_of hr rfl (Nat.le_of_ble_eq_true rfl) ?_
  intro p e s m args below meth c hC hret
  unfold fX10_rest
  refine j_aload_n hC 0 rfl rfl (dOk_at dt_X10_rest 0 rfl) ?_
  refine j_iconst hC (v := (0 : Int32)) rfl (dOk_at dt_X10_rest 1 rfl) ?_
  refine j_putI hC St_SP flX10_157 (show shp 107 = (10, 88) from rfl) (Nat.lt_of_lt_of_le (Nat.le_of_ble_eq_true rfl : 107 < 152) hN) (by decide) (by decide) rfl rfl (dOk_at dt_X10_rest 2 rfl) ?_
  refine j_aload_n hC 0 rfl rfl (dOk_at dt_X10_rest 3 rfl) ?_
  refine j_iload_n hC 1 rfl rfl (dOk_at dt_X10_rest 4 rfl) ?_
  refine j_iload_n hC 2 rfl rfl (dOk_at dt_X10_rest 5 rfl) ?_
  refine j_callVi hC clX10_519 (fun rz hrz => c_X10_areTwo hN _ _ _ rz hrz) (show shp 107 = (10, 88) from rfl) (Nat.lt_of_lt_of_le (Nat.le_of_ble_eq_true rfl : 107 < 152) hN) (by decide) rfl rfl ⟨Nat.le_of_ble_eq_true rfl, Nat.le_of_ble_eq_true rfl⟩ ⟨Nat.le_refl 0, Nat.le_refl 0⟩ (As := [.int x1, .int x2]) (st := []) rfl (Nat.le_of_ble_eq_true rfl) (dOk_at dt_X10_rest 6 rfl) (fun v_1 h_2 _ => ?_)
  refine j_if_eq hC (tgt := 28) (by decide) (dOk_at dt_X10_rest 7 rfl) (fun q_3 => ?_) (fun q_3 => ?_)
  · refine j_iconst hC (v := (-1 : Int32)) rfl (dOk_at dt_X10_rest 16 rfl) ?_
    exact j_iret hC hret (dOk_at dt_X10_rest 17 rfl)
  · refine j_iload_n hC 3 rfl rfl (dOk_at dt_X10_rest 8 rfl) ?_
    refine j_if_lt hC (tgt := 28) (by decide) (dOk_at dt_X10_rest 9 rfl) (fun q_4 => ?_) (fun q_4 => ?_)
    · refine j_iconst hC (v := (-1 : Int32)) rfl (dOk_at dt_X10_rest 16 rfl) ?_
      exact j_iret hC hret (dOk_at dt_X10_rest 17 rfl)
    · refine j_aload_n hC 0 rfl rfl (dOk_at dt_X10_rest 10 rfl) ?_
      refine j_iload_n hC 1 rfl rfl (dOk_at dt_X10_rest 11 rfl) ?_
      refine j_iload_n hC 2 rfl rfl (dOk_at dt_X10_rest 12 rfl) ?_
      refine j_iload_n hC 3 rfl rfl (dOk_at dt_X10_rest 13 rfl) ?_
      refine j_callVi hC clX10_529 (fun rz hrz => c_X10_restAt hN _ _ _ _ rz hrz) (show shp 107 = (10, 88) from rfl) (Nat.lt_of_lt_of_le (Nat.le_of_ble_eq_true rfl : 107 < 152) hN) (by decide) rfl rfl ⟨Nat.le_of_ble_eq_true rfl, Nat.le_of_ble_eq_true rfl⟩ ⟨Nat.le_refl 0, Nat.le_refl 0⟩ (As := [.int x1, .int x2, .int x3]) (st := []) rfl (Nat.le_of_ble_eq_true rfl) (dOk_at dt_X10_rest 14 rfl) (fun v_5 h_6 _ => ?_)
      refine j_goto hC (tgt := 29) (by decide) (dOk_at dt_X10_rest 15 rfl) ?_
      exact j_iret hC hret (dOk_at dt_X10_rest 17 rfl)
def tb_X10_havingBy : List (Nat × Instr × Nat) := [(0, .iload_n 1, 1), (1, .istore_n 2, 1), (2, .iconst 0, 1), (3, .istore_n 3, 1), (4, .aload_n 0, 1), (5, .getfield 252, 3), (8, .iconst 1, 1), (9, .isub, 1), (10, .istore 4, 2), (12, .iload 4, 2), (14, .ifCond .lt 33, 3), (17, .aload_n 0, 1), (18, .getfield 130, 3), (21, .iload 4, 2), (23, .iload_n 2, 1), (24, .aload_n 0, 1), (25, .getfield 249, 3), (28, .iconst 1, 1), (29, .iadd, 1), (30, .irem, 1), (31, .iastore, 1), (32, .iload_n 2, 1), (33, .aload_n 0, 1), (34, .getfield 249, 3), (37, .iconst 1, 1), (38, .iadd, 1), (39, .idiv, 1), (40, .istore_n 2, 1), (41, .iinc 4 (-1), 3), (44, .goto (-32), 3), (47, .iconst 0, 1), (48, .istore 4, 2), (50, .iload 4, 2), (52, .aload_n 0, 1), (53, .getfield 252, 3), (56, .if_icmp .ge 70, 3), (59, .aload_n 0, 1), (60, .getfield 130, 3), (63, .iload 4, 2), (65, .iaload, 1), (66, .istore 5, 2), (68, .iload 5, 2), (70, .aload_n 0, 1), (71, .getfield 249, 3), (74, .if_icmp .ne 6, 3), (77, .goto 43, 3), (80, .iload_n 3, 1), (81, .iload 5, 2), (83, .invokestatic 282, 3), (86, .ifCond .ne 25, 3), (89, .aload_n 0, 1), (90, .getfield 106, 3), (93, .iload 5, 2), (95, .baload, 1), (96, .ifCond .ne 15, 3), (99, .aload_n 0, 1), (100, .iconst 0, 1), (101, .iload 4, 2), (103, .iload 5, 2), (105, .invokevirtual 442, 3), (108, .ifCond .ne 5, 3), (111, .iconst (-1), 1), (112, .ireturn, 1), (113, .iload_n 3, 1), (114, .iconst 1, 1), (115, .iload 5, 2), (117, .ishl, 1), (118, .ior, 1), (119, .istore_n 3, 1), (120, .iinc 4 1, 3), (123, .goto (-73), 3), (126, .iload_n 3, 1), (127, .invokestatic 423, 3), (130, .ireturn, 1)]
theorem dt_X10_havingBy : dOk cX10_havingBy tb_X10_havingBy = true := by decide +kernel
def fX10_havingBy_120 (rec50 : Hp → Int32 → Int32 → Option (Int32 × Hp)) (h : Hp) (x3 : Int32) (x4 : Int32) : Option (Int32 × Hp) := rec50 h x3 (x4 + (1 : Int32))
def fX10_havingBy_50 : Nat → Hp → Int32 → Int32 → Option (Int32 × Hp)
  | 0, _, _, _ => none
  | fu + 1, h, x3, x4 => if (hI h 107 15) ≤ x4 then (bnd (fX10_manyOf h x3) (fun v_3 h_4 => some (v_3, h_4))) else (if inb x4 5 then (if (hI h 146 (Int32.toNatClampNeg x4)) = (hI h 107 14) then (fX10_havingBy_120 (fX10_havingBy_50 fu) h x3 x4) else (bnd (fX10_isOf h x3 (hI h 146 (Int32.toNatClampNeg x4))) (fun v_6 h_7 => if v_6 = 0 then (if inb (hI h 146 (Int32.toNatClampNeg x4)) 10 then (if (hI h_7 138 (Int32.toNatClampNeg (hI h 146 (Int32.toNatClampNeg x4)))) = 0 then (bnd (fX10_winsBy h_7 (0 : Int32) x4 (hI h 146 (Int32.toNatClampNeg x4))) (fun v_10 h_11 => if v_10 = 0 then (some ((-1 : Int32), h_11)) else (fX10_havingBy_120 (fX10_havingBy_50 fu) h_11 (x3 ||| ((1 : Int32) <<< ((hI h 146 (Int32.toNatClampNeg x4)) &&& 31))) x4))) else (some ((-1 : Int32), h_7))) else none) else (some ((-1 : Int32), h_7))))) else none)
def fX10_havingBy_12 : Nat → Hp → Int32 → Int32 → Int32 → Option (Int32 × Hp)
  | 0, _, _, _, _ => none
  | fu + 1, h, x2, x3, x4 => if x4 < 0 then (fX10_havingBy_50 FU h x3 (0 : Int32)) else (if ((hI h 107 14) + (1 : Int32)) = 0 then none else if inb x4 5 then (if ((hI (uI h 146 (Int32.toNatClampNeg x4) (x2 - x2 / ((hI h 107 14) + (1 : Int32)) * ((hI h 107 14) + (1 : Int32)))) 107 14) + (1 : Int32)) = 0 then none else (fX10_havingBy_12 fu) (uI h 146 (Int32.toNatClampNeg x4) (x2 - x2 / ((hI h 107 14) + (1 : Int32)) * ((hI h 107 14) + (1 : Int32)))) (x2 / ((hI (uI h 146 (Int32.toNatClampNeg x4) (x2 - x2 / ((hI h 107 14) + (1 : Int32)) * ((hI h 107 14) + (1 : Int32)))) 107 14) + (1 : Int32))) x3 (x4 + (-1 : Int32))) else none)
def fX10_havingBy (h : Hp) (x1 : Int32) : Option (Int32 × Hp) := fX10_havingBy_12 FU h x1 (0 : Int32) ((hI h 107 15) - (1 : Int32))
set_option maxRecDepth 100000 in
set_option maxHeartbeats 4000000 in
theorem c_X10_havingBy {l : Launch} {sb : State} {D : va_G} {ids : Nat → ClassId} {n : Nat} (hN : 152 ≤ n) (h : Hp) (x1 : Int32) (r : Int32 × Hp) (hr : fX10_havingBy h x1 = some r) : jM l yX10_havingBy cX10_havingBy 6 (some .int) 6 sb D ids shp St n [.ref 107, .int x1] h (jQi sb D ids shp St n r) := by
  refine jM_of hr rfl (Nat.le_of_ble_eq_true rfl) ?_
  intro p e s m args below meth c hC hret
  have b120 : ∀ (rec50 : Hp → Int32 → Int32 → Option (Int32 × Hp)) (hrec50 : ∀ (h : Hp) (x3 : Int32) (x4 : Int32) , jJ p l e (rmD 6) s m args below meth c 6 sb D ids shp St (fun r => MQ below (jQi sb D ids shp St n r) args s 0 0 (jA sb)) n 0 0 h 50 [(0, .ref 107), (3, .int x3), (4, .int x4)] [] (rec50 h x3 x4)) (h : Hp) (x3 : Int32) (x4 : Int32) , jJ p l e (rmD 6) s m args below meth c 6 sb D ids shp St (fun r => MQ below (jQi sb D ids shp St n r) args s 0 0 (jA sb)) n 0 0 h 120 [(0, .ref 107), (3, .int x3), (4, .int x4)] [] (fX10_havingBy_120 rec50 h x3 x4) := by
    intro rec50 hrec50 h x3 x4 
    unfold fX10_havingBy_120
    refine j_iinc hC (v := (x4 + (1 : Int32))) (lv' := [(4, .int (x4 + (1 : Int32))), (0, .ref 107), (3, .int x3)]) 2 rfl (congrArg (fun z => x4 + z) (show Int32.ofInt (1) = (1 : Int32) from by decide)) (by decide) rfl (dOk_at dt_X10_havingBy 69 rfl) ?_
    refine j_goto hC (tgt := 50) (by decide) (dOk_at dt_X10_havingBy 70 rfl) ?_
    refine j_sub [1, 2, 0] rfl ?_
    exact hrec50 h x3 (x4 + (1 : Int32)) 
  have b50 : ∀ (fu : Nat) (h : Hp) (x3 : Int32) (x4 : Int32) , jJ p l e (rmD 6) s m args below meth c 6 sb D ids shp St (fun r => MQ below (jQi sb D ids shp St n r) args s 0 0 (jA sb)) n 0 0 h 50 [(0, .ref 107), (3, .int x3), (4, .int x4)] [] (fX10_havingBy_50 fu h x3 x4) := by
    intro fu 
    induction fu with
    | zero => intro h x3 x4 ; exact j_none
    | succ fu ih =>
    intro h x3 x4 
    rw [fX10_havingBy_50]
    refine j_iload hC 2 rfl (dOk_at dt_X10_havingBy 32 rfl) ?_
    refine j_aload_n hC 0 rfl rfl (dOk_at dt_X10_havingBy 33 rfl) ?_
    refine j_getI hC flX10_252 (show shp 107 = (10, 88) from rfl) (Nat.lt_of_lt_of_le (Nat.le_of_ble_eq_true rfl : 107 < 152) hN) (by decide) (by decide) (fun _ _ _ => rfl) (dOk_at dt_X10_havingBy 34 rfl) ?_
    refine j_icmp_ge hC (tgt := 126) (by decide) (dOk_at dt_X10_havingBy 35 rfl) (fun q_2 => ?_) (fun q_2 => ?_)
    · refine j_iload_n hC 1 rfl rfl (dOk_at dt_X10_havingBy 71 rfl) ?_
      refine j_callSi hC clX10_423 (fun rz hrz => c_X10_manyOf hN _ _ rz hrz) rfl ⟨Nat.le_of_ble_eq_true rfl, Nat.le_of_ble_eq_true rfl⟩ ⟨Nat.le_refl 0, Nat.le_refl 0⟩ (As := [.int x3]) (st := []) rfl (Nat.le_of_ble_eq_true rfl) (dOk_at dt_X10_havingBy 72 rfl) (fun v_3 h_4 _ => ?_)
      exact j_iret hC hret (dOk_at dt_X10_havingBy 73 rfl)
    · refine j_aload_n hC 0 rfl rfl (dOk_at dt_X10_havingBy 36 rfl) ?_
      refine j_getR hC flX10_130 (show shp 107 = (10, 88) from rfl) (Nat.lt_of_lt_of_le (Nat.le_of_ble_eq_true rfl : 107 < 152) hN) (by decide) (by decide) (fun _ _ _ => rfl) (fun hs => hs 107 75 146 rfl) (dOk_at dt_X10_havingBy 37 rfl) ?_
      refine j_iload hC 2 rfl (dOk_at dt_X10_havingBy 38 rfl) ?_
      refine j_iald hC (show shp 146 = (21, 5) from rfl) (Nat.lt_of_lt_of_le (Nat.le_of_ble_eq_true rfl : 146 < 152) hN) (dOk_at dt_X10_havingBy 39 rfl) ?_
      refine j_istore hC (lv' := [(5, .int (hI h 146 (Int32.toNatClampNeg x4))), (0, .ref 107), (3, .int x3), (4, .int x4)]) (by decide) rfl (dOk_at dt_X10_havingBy 40 rfl) ?_
      refine j_iload hC 0 rfl (dOk_at dt_X10_havingBy 41 rfl) ?_
      refine j_aload_n hC 1 rfl rfl (dOk_at dt_X10_havingBy 42 rfl) ?_
      refine j_getI hC flX10_249 (show shp 107 = (10, 88) from rfl) (Nat.lt_of_lt_of_le (Nat.le_of_ble_eq_true rfl : 107 < 152) hN) (by decide) (by decide) (fun _ _ _ => rfl) (dOk_at dt_X10_havingBy 43 rfl) ?_
      refine j_icmp_ne hC (tgt := 80) (by decide) (dOk_at dt_X10_havingBy 44 rfl) (fun q_5 => ?_) (fun q_5 => ?_)
      · refine j_iload_n hC 2 rfl rfl (dOk_at dt_X10_havingBy 46 rfl) ?_
        refine j_iload hC 0 rfl (dOk_at dt_X10_havingBy 47 rfl) ?_
        refine j_callSi hC clX10_282 (fun rz hrz => c_X10_isOf hN _ _ _ rz hrz) rfl ⟨Nat.le_of_ble_eq_true rfl, Nat.le_of_ble_eq_true rfl⟩ ⟨Nat.le_refl 0, Nat.le_refl 0⟩ (As := [.int x3, .int (hI h 146 (Int32.toNatClampNeg x4))]) (st := []) rfl (Nat.le_of_ble_eq_true rfl) (dOk_at dt_X10_havingBy 48 rfl) (fun v_6 h_7 _ => ?_)
        refine j_if_ne hC (tgt := 111) (by decide) (dOk_at dt_X10_havingBy 49 rfl) (fun q_8 => ?_) (fun q_8 => ?_)
        · refine j_iconst hC (v := (-1 : Int32)) rfl (dOk_at dt_X10_havingBy 61 rfl) ?_
          exact j_iret hC hret (dOk_at dt_X10_havingBy 62 rfl)
        · refine j_aload_n hC 1 rfl rfl (dOk_at dt_X10_havingBy 50 rfl) ?_
          refine j_getR hC flX10_106 (show shp 107 = (10, 88) from rfl) (Nat.lt_of_lt_of_le (Nat.le_of_ble_eq_true rfl : 107 < 152) hN) (by decide) (by decide) (fun _ _ _ => rfl) (fun hs => hs 107 61 138 rfl) (dOk_at dt_X10_havingBy 51 rfl) ?_
          refine j_iload hC 0 rfl (dOk_at dt_X10_havingBy 52 rfl) ?_
          refine j_zald hC (show shp 138 = (23, 10) from rfl) (Nat.lt_of_lt_of_le (Nat.le_of_ble_eq_true rfl : 138 < 152) hN) (dOk_at dt_X10_havingBy 53 rfl) ?_
          refine j_if_ne hC (tgt := 111) (by decide) (dOk_at dt_X10_havingBy 54 rfl) (fun q_9 => ?_) (fun q_9 => ?_)
          · refine j_iconst hC (v := (-1 : Int32)) rfl (dOk_at dt_X10_havingBy 61 rfl) ?_
            exact j_iret hC hret (dOk_at dt_X10_havingBy 62 rfl)
          · refine j_aload_n hC 1 rfl rfl (dOk_at dt_X10_havingBy 55 rfl) ?_
            refine j_iconst hC (v := (0 : Int32)) rfl (dOk_at dt_X10_havingBy 56 rfl) ?_
            refine j_iload hC 3 rfl (dOk_at dt_X10_havingBy 57 rfl) ?_
            refine j_iload hC 0 rfl (dOk_at dt_X10_havingBy 58 rfl) ?_
            refine j_callVi hC clX10_442 (fun rz hrz => c_X10_winsBy hN _ _ _ _ rz hrz) (show shp 107 = (10, 88) from rfl) (Nat.lt_of_lt_of_le (Nat.le_of_ble_eq_true rfl : 107 < 152) hN) (by decide) rfl rfl ⟨Nat.le_of_ble_eq_true rfl, Nat.le_of_ble_eq_true rfl⟩ ⟨Nat.le_refl 0, Nat.le_refl 0⟩ (As := [.int (0 : Int32), .int x4, .int (hI h 146 (Int32.toNatClampNeg x4))]) (st := []) rfl (Nat.le_of_ble_eq_true rfl) (dOk_at dt_X10_havingBy 59 rfl) (fun v_10 h_11 _ => ?_)
            refine j_if_ne hC (tgt := 113) (by decide) (dOk_at dt_X10_havingBy 60 rfl) (fun q_12 => ?_) (fun q_12 => ?_)
            · refine j_iload_n hC 2 rfl rfl (dOk_at dt_X10_havingBy 63 rfl) ?_
              refine j_iconst hC (v := (1 : Int32)) rfl (dOk_at dt_X10_havingBy 64 rfl) ?_
              refine j_iload hC 0 rfl (dOk_at dt_X10_havingBy 65 rfl) ?_
              refine j_ishl hC (dOk_at dt_X10_havingBy 66 rfl) ?_
              refine j_ior hC (dOk_at dt_X10_havingBy 67 rfl) ?_
              refine j_istore_n hC rfl (lv' := [(3, .int (x3 ||| ((1 : Int32) <<< ((hI h 146 (Int32.toNatClampNeg x4)) &&& 31)))), (5, .int (hI h 146 (Int32.toNatClampNeg x4))), (0, .ref 107), (4, .int x4)]) (by decide) rfl (dOk_at dt_X10_havingBy 68 rfl) ?_
              refine j_sub [2, 0, 3] rfl ?_
              exact b120 (fX10_havingBy_50 fu) ih h_11 (x3 ||| ((1 : Int32) <<< ((hI h 146 (Int32.toNatClampNeg x4)) &&& 31))) x4 
            · refine j_iconst hC (v := (-1 : Int32)) rfl (dOk_at dt_X10_havingBy 61 rfl) ?_
              exact j_iret hC hret (dOk_at dt_X10_havingBy 62 rfl)
      · refine j_goto hC (tgt := 120) (by decide) (dOk_at dt_X10_havingBy 45 rfl) ?_
        refine j_sub [1, 2, 3] rfl ?_
        exact b120 (fX10_havingBy_50 fu) ih h x3 x4 
  have b12 : ∀ (fu : Nat) (h : Hp) (x2 : Int32) (x3 : Int32) (x4 : Int32) , jJ p l e (rmD 6) s m args below meth c 6 sb D ids shp St (fun r => MQ below (jQi sb D ids shp St n r) args s 0 0 (jA sb)) n 0 0 h 12 [(0, .ref 107), (2, .int x2), (3, .int x3), (4, .int x4)] [] (fX10_havingBy_12 fu h x2 x3 x4) := by
    intro fu 
    induction fu with
    | zero => intro h x2 x3 x4 ; exact j_none
    | succ fu ih =>
    intro h x2 x3 x4 
    rw [fX10_havingBy_12]
    refine j_iload hC 3 rfl (dOk_at dt_X10_havingBy 9 rfl) ?_
    refine j_if_lt hC (tgt := 47) (by decide) (dOk_at dt_X10_havingBy 10 rfl) (fun q_1 => ?_) (fun q_1 => ?_)
    · refine j_iconst hC (v := (0 : Int32)) rfl (dOk_at dt_X10_havingBy 30 rfl) ?_
      refine j_istore hC (lv' := [(4, .int (0 : Int32)), (0, .ref 107), (2, .int x2), (3, .int x3)]) (by decide) rfl (dOk_at dt_X10_havingBy 31 rfl) ?_
      refine j_sub [1, 3, 0] rfl ?_
      exact b50 FU h x3 (0 : Int32) 
    · refine j_aload_n hC 0 rfl rfl (dOk_at dt_X10_havingBy 11 rfl) ?_
      refine j_getR hC flX10_130 (show shp 107 = (10, 88) from rfl) (Nat.lt_of_lt_of_le (Nat.le_of_ble_eq_true rfl : 107 < 152) hN) (by decide) (by decide) (fun _ _ _ => rfl) (fun hs => hs 107 75 146 rfl) (dOk_at dt_X10_havingBy 12 rfl) ?_
      refine j_iload hC 3 rfl (dOk_at dt_X10_havingBy 13 rfl) ?_
      refine j_iload_n hC 1 rfl rfl (dOk_at dt_X10_havingBy 14 rfl) ?_
      refine j_aload_n hC 0 rfl rfl (dOk_at dt_X10_havingBy 15 rfl) ?_
      refine j_getI hC flX10_249 (show shp 107 = (10, 88) from rfl) (Nat.lt_of_lt_of_le (Nat.le_of_ble_eq_true rfl : 107 < 152) hN) (by decide) (by decide) (fun _ _ _ => rfl) (dOk_at dt_X10_havingBy 16 rfl) ?_
      refine j_iconst hC (v := (1 : Int32)) rfl (dOk_at dt_X10_havingBy 17 rfl) ?_
      refine j_iadd hC (dOk_at dt_X10_havingBy 18 rfl) ?_
      refine j_irem hC (dOk_at dt_X10_havingBy 19 rfl) ?_
      refine j_iast hC St_SP (show shp 146 = (21, 5) from rfl) (Nat.lt_of_lt_of_le (Nat.le_of_ble_eq_true rfl : 146 < 152) hN) (dOk_at dt_X10_havingBy 20 rfl) ?_
      refine j_iload_n hC 1 rfl rfl (dOk_at dt_X10_havingBy 21 rfl) ?_
      refine j_aload_n hC 0 rfl rfl (dOk_at dt_X10_havingBy 22 rfl) ?_
      refine j_getI hC flX10_249 (show shp 107 = (10, 88) from rfl) (Nat.lt_of_lt_of_le (Nat.le_of_ble_eq_true rfl : 107 < 152) hN) (by decide) (by decide) (fun _ _ _ => rfl) (dOk_at dt_X10_havingBy 23 rfl) ?_
      refine j_iconst hC (v := (1 : Int32)) rfl (dOk_at dt_X10_havingBy 24 rfl) ?_
      refine j_iadd hC (dOk_at dt_X10_havingBy 25 rfl) ?_
      refine j_idiv hC (dOk_at dt_X10_havingBy 26 rfl) ?_
      refine j_istore_n hC rfl (lv' := [(2, .int (x2 / ((hI (uI h 146 (Int32.toNatClampNeg x4) (x2 - x2 / ((hI h 107 14) + (1 : Int32)) * ((hI h 107 14) + (1 : Int32)))) 107 14) + (1 : Int32)))), (0, .ref 107), (3, .int x3), (4, .int x4)]) (by decide) rfl (dOk_at dt_X10_havingBy 27 rfl) ?_
      refine j_iinc hC (v := (x4 + (-1 : Int32))) (lv' := [(4, .int (x4 + (-1 : Int32))), (2, .int (x2 / ((hI (uI h 146 (Int32.toNatClampNeg x4) (x2 - x2 / ((hI h 107 14) + (1 : Int32)) * ((hI h 107 14) + (1 : Int32)))) 107 14) + (1 : Int32)))), (0, .ref 107), (3, .int x3)]) 3 rfl (congrArg (fun z => x4 + z) (show Int32.ofInt (-1) = (-1 : Int32) from by decide)) (by decide) rfl (dOk_at dt_X10_havingBy 28 rfl) ?_
      refine j_goto hC (tgt := 12) (by decide) (dOk_at dt_X10_havingBy 29 rfl) ?_
      refine j_sub [2, 1, 3, 0] rfl ?_
      exact ih (uI h 146 (Int32.toNatClampNeg x4) (x2 - x2 / ((hI h 107 14) + (1 : Int32)) * ((hI h 107 14) + (1 : Int32)))) (x2 / ((hI (uI h 146 (Int32.toNatClampNeg x4) (x2 - x2 / ((hI h 107 14) + (1 : Int32)) * ((hI h 107 14) + (1 : Int32)))) 107 14) + (1 : Int32))) x3 (x4 + (-1 : Int32)) 
  unfold fX10_havingBy
  refine j_iload_n hC 1 rfl rfl (dOk_at dt_X10_havingBy 0 rfl) ?_
  refine j_istore_n hC rfl (lv' := [(2, .int x1), (0, .ref 107), (1, .int x1)]) (by decide) rfl (dOk_at dt_X10_havingBy 1 rfl) ?_
  refine j_iconst hC (v := (0 : Int32)) rfl (dOk_at dt_X10_havingBy 2 rfl) ?_
  refine j_istore_n hC rfl (lv' := [(3, .int (0 : Int32)), (2, .int x1), (0, .ref 107), (1, .int x1)]) (by decide) rfl (dOk_at dt_X10_havingBy 3 rfl) ?_
  refine j_aload_n hC 2 rfl rfl (dOk_at dt_X10_havingBy 4 rfl) ?_
  refine j_getI hC flX10_252 (show shp 107 = (10, 88) from rfl) (Nat.lt_of_lt_of_le (Nat.le_of_ble_eq_true rfl : 107 < 152) hN) (by decide) (by decide) (fun _ _ _ => rfl) (dOk_at dt_X10_havingBy 5 rfl) ?_
  refine j_iconst hC (v := (1 : Int32)) rfl (dOk_at dt_X10_havingBy 6 rfl) ?_
  refine j_isub hC (dOk_at dt_X10_havingBy 7 rfl) ?_
  refine j_istore hC (lv' := [(4, .int ((hI h 107 15) - (1 : Int32))), (3, .int (0 : Int32)), (2, .int x1), (0, .ref 107), (1, .int x1)]) (by decide) rfl (dOk_at dt_X10_havingBy 8 rfl) ?_
  refine j_sub [3, 2, 1, 0] rfl ?_
  exact b12 FU h x1 (0 : Int32) ((hI h 107 15) - (1 : Int32)) 
def tb_X10_match : List (Nat × Instr × Nat) := [(0, .aload_n 0, 1), (1, .iconst 0, 1), (2, .putfield 157, 3), (5, .iload_n 1, 1), (6, .iconst 0, 1), (7, .iconst 5, 1), (8, .invokestatic 202, 3), (11, .ifCond .ne 5, 3), (14, .iconst (-1), 1), (15, .ireturn, 1), (16, .iload_n 1, 1), (17, .iconst 5, 1), (18, .if_icmp .ge 14, 3), (21, .iload_n 1, 1), (22, .aload_n 0, 1), (23, .getfield 252, 3), (26, .if_icmp .lt 6, 3), (29, .bipush (-2), 2), (31, .ireturn, 1), (32, .aload_n 0, 1), (33, .invokevirtual 392, 3), (36, .iconst 1, 1), (37, .istore_n 2, 1), (38, .iconst 0, 1), (39, .istore_n 3, 1), (40, .iload_n 3, 1), (41, .aload_n 0, 1), (42, .getfield 252, 3), (45, .if_icmp .ge 18, 3), (48, .iload_n 2, 1), (49, .aload_n 0, 1), (50, .getfield 249, 3), (53, .iconst 1, 1), (54, .iadd, 1), (55, .imul, 1), (56, .istore_n 2, 1), (57, .iinc 3 1, 3), (60, .goto (-20), 3), (63, .iconst (-1), 1), (64, .istore_n 3, 1), (65, .iconst (-1), 1), (66, .istore 4, 2), (68, .iconst 0, 1), (69, .istore 5, 2), (71, .iload 5, 2), (73, .iload_n 2, 1), (74, .if_icmp .ge 34, 3), (77, .aload_n 0, 1), (78, .iload 5, 2), (80, .invokevirtual 532, 3), (83, .istore 6, 2), (85, .iload 6, 2), (87, .iload 4, 2), (89, .if_icmp .gt 6, 3), (92, .goto 10, 3), (95, .iload 5, 2), (97, .istore_n 3, 1), (98, .iload 6, 2), (100, .istore 4, 2), (102, .iinc 5 1, 3), (105, .goto (-34), 3), (108, .iload_n 1, 1), (109, .iconst 5, 1), (110, .if_icmp .ne 6, 3), (113, .iload 4, 2), (115, .ireturn, 1), (116, .aload_n 0, 1), (117, .iload_n 3, 1), (118, .invokevirtual 532, 3), (121, .istore 4, 2), (123, .aload_n 0, 1), (124, .getfield 130, 3), (127, .iload_n 1, 1), (128, .iaload, 1), (129, .aload_n 0, 1), (130, .getfield 249, 3), (133, .if_icmp .ne 8, 3), (136, .bipush (-2), 2), (138, .goto 9, 3), (141, .aload_n 0, 1), (142, .getfield 130, 3), (145, .iload_n 1, 1), (146, .iaload, 1), (147, .ireturn, 1)]
theorem dt_X10_match : dOk cX10_match tb_X10_match = true := by decide +kernel
def fX10_match_102 (rec71 : Hp → Int32 → Int32 → Int32 → Int32 → Int32 → Option (Int32 × Hp)) (h : Hp) (x1 : Int32) (x2 : Int32) (x3 : Int32) (x4 : Int32) (x5 : Int32) : Option (Int32 × Hp) := rec71 h x1 x2 x3 x4 (x5 + (1 : Int32))
def fX10_match_71 : Nat → Hp → Int32 → Int32 → Int32 → Int32 → Int32 → Option (Int32 × Hp)
  | 0, _, _, _, _, _, _ => none
  | fu + 1, h, x1, x2, x3, x4, x5 => if x2 ≤ x5 then (if x1 = (5 : Int32) then (some (x4, h)) else (bnd (fX10_havingBy h x3) (fun v_11 h_12 => if inb x1 5 then (if (hI h_12 146 (Int32.toNatClampNeg x1)) = (hI h_12 107 14) then (some ((-2 : Int32), h_12)) else (if inb x1 5 then (some ((hI h_12 146 (Int32.toNatClampNeg x1)), h_12)) else none)) else none))) else (bnd (fX10_havingBy h x5) (fun v_14 h_15 => if x4 < v_14 then (fX10_match_102 (fX10_match_71 fu) h_15 x1 x2 x5 v_14 x5) else (fX10_match_102 (fX10_match_71 fu) h_15 x1 x2 x3 x4 x5)))
def fX10_match_40 : Nat → Hp → Int32 → Int32 → Int32 → Option (Int32 × Hp)
  | 0, _, _, _, _ => none
  | fu + 1, h, x1, x2, x3 => if (hI h 107 15) ≤ x3 then (fX10_match_71 FU h x1 x2 (-1 : Int32) (-1 : Int32) (0 : Int32)) else ((fX10_match_40 fu) h x1 (x2 * ((hI h 107 14) + (1 : Int32))) (x3 + (1 : Int32)))
def fX10_match_32 (h : Hp) (x1 : Int32) : Option (Int32 × Hp) := (fX10_plainTried h).bind (fun h_7 => fX10_match_40 FU h_7 x1 (1 : Int32) (0 : Int32))
def fX10_match (h : Hp) (x1 : Int32) : Option (Int32 × Hp) := bnd (fX10_isIn (uI h 107 2 (0 : Int32)) x1 (0 : Int32) (5 : Int32)) (fun v_1 h_2 => if v_1 = 0 then (some ((-1 : Int32), h_2)) else (if (5 : Int32) ≤ x1 then (fX10_match_32 h_2 x1) else (if x1 < (hI h_2 107 15) then (fX10_match_32 h_2 x1) else (some ((-2 : Int32), h_2)))))
set_option maxRecDepth 100000 in
set_option maxHeartbeats 4000000 in
theorem c_X10_match {l : Launch} {sb : State} {D : va_G} {ids : Nat → ClassId} {n : Nat} (hN : 152 ≤ n) (h : Hp) (x1 : Int32) (r : Int32 × Hp) (hr : fX10_match h x1 = some r) : jM l yX10_match cX10_match 7 (some .int) 7 sb D ids shp St n [.ref 107, .int x1] h (jQi sb D ids shp St n r) := by
  refine jM_of hr rfl (Nat.le_of_ble_eq_true rfl) ?_
  intro p e s m args below meth c hC hret
  have b102 : ∀ (rec71 : Hp → Int32 → Int32 → Int32 → Int32 → Int32 → Option (Int32 × Hp)) (hrec71 : ∀ (h : Hp) (x1 : Int32) (x2 : Int32) (x3 : Int32) (x4 : Int32) (x5 : Int32) , jJ p l e (rmD 7) s m args below meth c 7 sb D ids shp St (fun r => MQ below (jQi sb D ids shp St n r) args s 0 0 (jA sb)) n 0 0 h 71 [(0, .ref 107), (1, .int x1), (2, .int x2), (3, .int x3), (4, .int x4), (5, .int x5)] [] (rec71 h x1 x2 x3 x4 x5)) (h : Hp) (x1 : Int32) (x2 : Int32) (x3 : Int32) (x4 : Int32) (x5 : Int32) , jJ p l e (rmD 7) s m args below meth c 7 sb D ids shp St (fun r => MQ below (jQi sb D ids shp St n r) args s 0 0 (jA sb)) n 0 0 h 102 [(0, .ref 107), (1, .int x1), (2, .int x2), (3, .int x3), (4, .int x4), (5, .int x5)] [] (fX10_match_102 rec71 h x1 x2 x3 x4 x5) := by
    intro rec71 hrec71 h x1 x2 x3 x4 x5 
    unfold fX10_match_102
    refine j_iinc hC (v := (x5 + (1 : Int32))) (lv' := [(5, .int (x5 + (1 : Int32))), (0, .ref 107), (1, .int x1), (2, .int x2), (3, .int x3), (4, .int x4)]) 5 rfl (congrArg (fun z => x5 + z) (show Int32.ofInt (1) = (1 : Int32) from by decide)) (by decide) rfl (dOk_at dt_X10_match 59 rfl) ?_
    refine j_goto hC (tgt := 71) (by decide) (dOk_at dt_X10_match 60 rfl) ?_
    refine j_sub [1, 2, 3, 4, 5, 0] rfl ?_
    exact hrec71 h x1 x2 x3 x4 (x5 + (1 : Int32)) 
  have b71 : ∀ (fu : Nat) (h : Hp) (x1 : Int32) (x2 : Int32) (x3 : Int32) (x4 : Int32) (x5 : Int32) , jJ p l e (rmD 7) s m args below meth c 7 sb D ids shp St (fun r => MQ below (jQi sb D ids shp St n r) args s 0 0 (jA sb)) n 0 0 h 71 [(0, .ref 107), (1, .int x1), (2, .int x2), (3, .int x3), (4, .int x4), (5, .int x5)] [] (fX10_match_71 fu h x1 x2 x3 x4 x5) := by
    intro fu 
    induction fu with
    | zero => intro h x1 x2 x3 x4 x5 ; exact j_none
    | succ fu ih =>
    intro h x1 x2 x3 x4 x5 
    rw [fX10_match_71]
    refine j_iload hC 5 rfl (dOk_at dt_X10_match 44 rfl) ?_
    refine j_iload_n hC 2 rfl rfl (dOk_at dt_X10_match 45 rfl) ?_
    refine j_icmp_ge hC (tgt := 108) (by decide) (dOk_at dt_X10_match 46 rfl) (fun q_9 => ?_) (fun q_9 => ?_)
    · refine j_iload_n hC 1 rfl rfl (dOk_at dt_X10_match 61 rfl) ?_
      refine j_iconst hC (v := (5 : Int32)) rfl (dOk_at dt_X10_match 62 rfl) ?_
      refine j_icmp_ne hC (tgt := 116) (by decide) (dOk_at dt_X10_match 63 rfl) (fun q_10 => ?_) (fun q_10 => ?_)
      · refine j_aload_n hC 0 rfl rfl (dOk_at dt_X10_match 66 rfl) ?_
        refine j_iload_n hC 3 rfl rfl (dOk_at dt_X10_match 67 rfl) ?_
        refine j_callVi hC clX10_532 (fun rz hrz => c_X10_havingBy hN _ _ rz hrz) (show shp 107 = (10, 88) from rfl) (Nat.lt_of_lt_of_le (Nat.le_of_ble_eq_true rfl : 107 < 152) hN) (by decide) rfl rfl ⟨Nat.le_of_ble_eq_true rfl, Nat.le_of_ble_eq_true rfl⟩ ⟨Nat.le_refl 0, Nat.le_refl 0⟩ (As := [.int x3]) (st := []) rfl (Nat.le_of_ble_eq_true rfl) (dOk_at dt_X10_match 68 rfl) (fun v_11 h_12 _ => ?_)
        refine j_istore hC (lv' := [(4, .int v_11), (0, .ref 107), (1, .int x1), (2, .int x2), (3, .int x3), (5, .int x5)]) (by decide) rfl (dOk_at dt_X10_match 69 rfl) ?_
        refine j_aload_n hC 1 rfl rfl (dOk_at dt_X10_match 70 rfl) ?_
        refine j_getR hC flX10_130 (show shp 107 = (10, 88) from rfl) (Nat.lt_of_lt_of_le (Nat.le_of_ble_eq_true rfl : 107 < 152) hN) (by decide) (by decide) (fun _ _ _ => rfl) (fun hs => hs 107 75 146 rfl) (dOk_at dt_X10_match 71 rfl) ?_
        refine j_iload_n hC 2 rfl rfl (dOk_at dt_X10_match 72 rfl) ?_
        refine j_iald hC (show shp 146 = (21, 5) from rfl) (Nat.lt_of_lt_of_le (Nat.le_of_ble_eq_true rfl : 146 < 152) hN) (dOk_at dt_X10_match 73 rfl) ?_
        refine j_aload_n hC 1 rfl rfl (dOk_at dt_X10_match 74 rfl) ?_
        refine j_getI hC flX10_249 (show shp 107 = (10, 88) from rfl) (Nat.lt_of_lt_of_le (Nat.le_of_ble_eq_true rfl : 107 < 152) hN) (by decide) (by decide) (fun _ _ _ => rfl) (dOk_at dt_X10_match 75 rfl) ?_
        refine j_icmp_ne hC (tgt := 141) (by decide) (dOk_at dt_X10_match 76 rfl) (fun q_13 => ?_) (fun q_13 => ?_)
        · refine j_aload_n hC 1 rfl rfl (dOk_at dt_X10_match 79 rfl) ?_
          refine j_getR hC flX10_130 (show shp 107 = (10, 88) from rfl) (Nat.lt_of_lt_of_le (Nat.le_of_ble_eq_true rfl : 107 < 152) hN) (by decide) (by decide) (fun _ _ _ => rfl) (fun hs => hs 107 75 146 rfl) (dOk_at dt_X10_match 80 rfl) ?_
          refine j_iload_n hC 2 rfl rfl (dOk_at dt_X10_match 81 rfl) ?_
          refine j_iald hC (show shp 146 = (21, 5) from rfl) (Nat.lt_of_lt_of_le (Nat.le_of_ble_eq_true rfl : 146 < 152) hN) (dOk_at dt_X10_match 82 rfl) ?_
          exact j_iret hC hret (dOk_at dt_X10_match 83 rfl)
        · refine j_bipush hC (v := (-2 : Int32)) rfl (dOk_at dt_X10_match 77 rfl) ?_
          refine j_goto hC (tgt := 147) (by decide) (dOk_at dt_X10_match 78 rfl) ?_
          exact j_iret hC hret (dOk_at dt_X10_match 83 rfl)
      · refine j_iload hC 4 rfl (dOk_at dt_X10_match 64 rfl) ?_
        exact j_iret hC hret (dOk_at dt_X10_match 65 rfl)
    · refine j_aload_n hC 0 rfl rfl (dOk_at dt_X10_match 47 rfl) ?_
      refine j_iload hC 5 rfl (dOk_at dt_X10_match 48 rfl) ?_
      refine j_callVi hC clX10_532 (fun rz hrz => c_X10_havingBy hN _ _ rz hrz) (show shp 107 = (10, 88) from rfl) (Nat.lt_of_lt_of_le (Nat.le_of_ble_eq_true rfl : 107 < 152) hN) (by decide) rfl rfl ⟨Nat.le_of_ble_eq_true rfl, Nat.le_of_ble_eq_true rfl⟩ ⟨Nat.le_refl 0, Nat.le_refl 0⟩ (As := [.int x5]) (st := []) rfl (Nat.le_of_ble_eq_true rfl) (dOk_at dt_X10_match 49 rfl) (fun v_14 h_15 _ => ?_)
      refine j_istore hC (lv' := [(6, .int v_14), (0, .ref 107), (1, .int x1), (2, .int x2), (3, .int x3), (4, .int x4), (5, .int x5)]) (by decide) rfl (dOk_at dt_X10_match 50 rfl) ?_
      refine j_iload hC 0 rfl (dOk_at dt_X10_match 51 rfl) ?_
      refine j_iload hC 5 rfl (dOk_at dt_X10_match 52 rfl) ?_
      refine j_icmp_gt hC (tgt := 95) (by decide) (dOk_at dt_X10_match 53 rfl) (fun q_16 => ?_) (fun q_16 => ?_)
      · refine j_iload hC 6 rfl (dOk_at dt_X10_match 55 rfl) ?_
        refine j_istore_n hC rfl (lv' := [(3, .int x5), (6, .int v_14), (0, .ref 107), (1, .int x1), (2, .int x2), (4, .int x4), (5, .int x5)]) (by decide) rfl (dOk_at dt_X10_match 56 rfl) ?_
        refine j_iload hC 1 rfl (dOk_at dt_X10_match 57 rfl) ?_
        refine j_istore hC (lv' := [(4, .int v_14), (3, .int x5), (6, .int v_14), (0, .ref 107), (1, .int x1), (2, .int x2), (5, .int x5)]) (by decide) rfl (dOk_at dt_X10_match 58 rfl) ?_
        refine j_sub [3, 4, 5, 1, 0, 6] rfl ?_
        exact b102 (fX10_match_71 fu) ih h_15 x1 x2 x5 v_14 x5 
      · refine j_goto hC (tgt := 102) (by decide) (dOk_at dt_X10_match 54 rfl) ?_
        refine j_sub [1, 2, 3, 4, 5, 6] rfl ?_
        exact b102 (fX10_match_71 fu) ih h_15 x1 x2 x3 x4 x5 
  have b40 : ∀ (fu : Nat) (h : Hp) (x1 : Int32) (x2 : Int32) (x3 : Int32) , jJ p l e (rmD 7) s m args below meth c 7 sb D ids shp St (fun r => MQ below (jQi sb D ids shp St n r) args s 0 0 (jA sb)) n 0 0 h 40 [(0, .ref 107), (1, .int x1), (2, .int x2), (3, .int x3)] [] (fX10_match_40 fu h x1 x2 x3) := by
    intro fu 
    induction fu with
    | zero => intro h x1 x2 x3 ; exact j_none
    | succ fu ih =>
    intro h x1 x2 x3 
    rw [fX10_match_40]
    refine j_iload_n hC 3 rfl rfl (dOk_at dt_X10_match 25 rfl) ?_
    refine j_aload_n hC 0 rfl rfl (dOk_at dt_X10_match 26 rfl) ?_
    refine j_getI hC flX10_252 (show shp 107 = (10, 88) from rfl) (Nat.lt_of_lt_of_le (Nat.le_of_ble_eq_true rfl : 107 < 152) hN) (by decide) (by decide) (fun _ _ _ => rfl) (dOk_at dt_X10_match 27 rfl) ?_
    refine j_icmp_ge hC (tgt := 63) (by decide) (dOk_at dt_X10_match 28 rfl) (fun q_8 => ?_) (fun q_8 => ?_)
    · refine j_iconst hC (v := (-1 : Int32)) rfl (dOk_at dt_X10_match 38 rfl) ?_
      refine j_istore_n hC rfl (lv' := [(3, .int (-1 : Int32)), (0, .ref 107), (1, .int x1), (2, .int x2)]) (by decide) rfl (dOk_at dt_X10_match 39 rfl) ?_
      refine j_iconst hC (v := (-1 : Int32)) rfl (dOk_at dt_X10_match 40 rfl) ?_
      refine j_istore hC (lv' := [(4, .int (-1 : Int32)), (3, .int (-1 : Int32)), (0, .ref 107), (1, .int x1), (2, .int x2)]) (by decide) rfl (dOk_at dt_X10_match 41 rfl) ?_
      refine j_iconst hC (v := (0 : Int32)) rfl (dOk_at dt_X10_match 42 rfl) ?_
      refine j_istore hC (lv' := [(5, .int (0 : Int32)), (4, .int (-1 : Int32)), (3, .int (-1 : Int32)), (0, .ref 107), (1, .int x1), (2, .int x2)]) (by decide) rfl (dOk_at dt_X10_match 43 rfl) ?_
      refine j_sub [3, 4, 5, 2, 1, 0] rfl ?_
      exact b71 FU h x1 x2 (-1 : Int32) (-1 : Int32) (0 : Int32) 
    · refine j_iload_n hC 2 rfl rfl (dOk_at dt_X10_match 29 rfl) ?_
      refine j_aload_n hC 0 rfl rfl (dOk_at dt_X10_match 30 rfl) ?_
      refine j_getI hC flX10_249 (show shp 107 = (10, 88) from rfl) (Nat.lt_of_lt_of_le (Nat.le_of_ble_eq_true rfl : 107 < 152) hN) (by decide) (by decide) (fun _ _ _ => rfl) (dOk_at dt_X10_match 31 rfl) ?_
      refine j_iconst hC (v := (1 : Int32)) rfl (dOk_at dt_X10_match 32 rfl) ?_
      refine j_iadd hC (dOk_at dt_X10_match 33 rfl) ?_
      refine j_imul hC (dOk_at dt_X10_match 34 rfl) ?_
      refine j_istore_n hC rfl (lv' := [(2, .int (x2 * ((hI h 107 14) + (1 : Int32)))), (0, .ref 107), (1, .int x1), (3, .int x3)]) (by decide) rfl (dOk_at dt_X10_match 35 rfl) ?_
      refine j_iinc hC (v := (x3 + (1 : Int32))) (lv' := [(3, .int (x3 + (1 : Int32))), (2, .int (x2 * ((hI h 107 14) + (1 : Int32)))), (0, .ref 107), (1, .int x1)]) 3 rfl (congrArg (fun z => x3 + z) (show Int32.ofInt (1) = (1 : Int32) from by decide)) (by decide) rfl (dOk_at dt_X10_match 36 rfl) ?_
      refine j_goto hC (tgt := 40) (by decide) (dOk_at dt_X10_match 37 rfl) ?_
      refine j_sub [2, 3, 1, 0] rfl ?_
      exact ih h x1 (x2 * ((hI h 107 14) + (1 : Int32))) (x3 + (1 : Int32)) 
  have b32 : ∀ (h : Hp) (x1 : Int32) , jJ p l e (rmD 7) s m args below meth c 7 sb D ids shp St (fun r => MQ below (jQi sb D ids shp St n r) args s 0 0 (jA sb)) n 0 0 h 32 [(0, .ref 107), (1, .int x1)] [] (fX10_match_32 h x1) := by
    intro h x1 
    unfold fX10_match_32
    refine j_aload_n hC 0 rfl rfl (dOk_at dt_X10_match 19 rfl) ?_
    refine j_callVv hC clX10_392 (fun rz hrz => c_X10_plainTried hN _ rz hrz) (show shp 107 = (10, 88) from rfl) (Nat.lt_of_lt_of_le (Nat.le_of_ble_eq_true rfl : 107 < 152) hN) (by decide) rfl rfl ⟨Nat.le_of_ble_eq_true rfl, Nat.le_of_ble_eq_true rfl⟩ ⟨Nat.le_refl 0, Nat.le_refl 0⟩ (As := []) (st := []) rfl (Nat.le_of_ble_eq_true rfl) (dOk_at dt_X10_match 20 rfl) (fun h_7 _ => ?_)
    refine j_iconst hC (v := (1 : Int32)) rfl (dOk_at dt_X10_match 21 rfl) ?_
    refine j_istore_n hC rfl (lv' := [(2, .int (1 : Int32)), (0, .ref 107), (1, .int x1)]) (by decide) rfl (dOk_at dt_X10_match 22 rfl) ?_
    refine j_iconst hC (v := (0 : Int32)) rfl (dOk_at dt_X10_match 23 rfl) ?_
    refine j_istore_n hC rfl (lv' := [(3, .int (0 : Int32)), (2, .int (1 : Int32)), (0, .ref 107), (1, .int x1)]) (by decide) rfl (dOk_at dt_X10_match 24 rfl) ?_
    refine j_sub [2, 3, 1, 0] rfl ?_
    exact b40 FU h_7 x1 (1 : Int32) (0 : Int32) 
  unfold fX10_match
  refine j_aload_n hC 0 rfl rfl (dOk_at dt_X10_match 0 rfl) ?_
  refine j_iconst hC (v := (0 : Int32)) rfl (dOk_at dt_X10_match 1 rfl) ?_
  refine j_putI hC St_SP flX10_157 (show shp 107 = (10, 88) from rfl) (Nat.lt_of_lt_of_le (Nat.le_of_ble_eq_true rfl : 107 < 152) hN) (by decide) (by decide) rfl rfl (dOk_at dt_X10_match 2 rfl) ?_
  refine j_iload_n hC 1 rfl rfl (dOk_at dt_X10_match 3 rfl) ?_
  refine j_iconst hC (v := (0 : Int32)) rfl (dOk_at dt_X10_match 4 rfl) ?_
  refine j_iconst hC (v := (5 : Int32)) rfl (dOk_at dt_X10_match 5 rfl) ?_
  refine j_callSi hC clX10_202 (fun rz hrz => c_X10_isIn hN _ _ _ _ rz hrz) rfl ⟨Nat.le_of_ble_eq_true rfl, Nat.le_of_ble_eq_true rfl⟩ ⟨Nat.le_refl 0, Nat.le_refl 0⟩ (As := [.int x1, .int (0 : Int32), .int (5 : Int32)]) (st := []) rfl (Nat.le_of_ble_eq_true rfl) (dOk_at dt_X10_match 6 rfl) (fun v_1 h_2 _ => ?_)
  refine j_if_ne hC (tgt := 16) (by decide) (dOk_at dt_X10_match 7 rfl) (fun q_3 => ?_) (fun q_3 => ?_)
  · refine j_iload_n hC 1 rfl rfl (dOk_at dt_X10_match 10 rfl) ?_
    refine j_iconst hC (v := (5 : Int32)) rfl (dOk_at dt_X10_match 11 rfl) ?_
    refine j_icmp_ge hC (tgt := 32) (by decide) (dOk_at dt_X10_match 12 rfl) (fun q_4 => ?_) (fun q_4 => ?_)
    · exact b32 h_2 x1 
    · refine j_iload_n hC 1 rfl rfl (dOk_at dt_X10_match 13 rfl) ?_
      refine j_aload_n hC 0 rfl rfl (dOk_at dt_X10_match 14 rfl) ?_
      refine j_getI hC flX10_252 (show shp 107 = (10, 88) from rfl) (Nat.lt_of_lt_of_le (Nat.le_of_ble_eq_true rfl : 107 < 152) hN) (by decide) (by decide) (fun _ _ _ => rfl) (dOk_at dt_X10_match 15 rfl) ?_
      refine j_icmp_lt hC (tgt := 32) (by decide) (dOk_at dt_X10_match 16 rfl) (fun q_5 => ?_) (fun q_5 => ?_)
      · exact b32 h_2 x1 
      · refine j_bipush hC (v := (-2 : Int32)) rfl (dOk_at dt_X10_match 17 rfl) ?_
        exact j_iret hC hret (dOk_at dt_X10_match 18 rfl)
  · refine j_iconst hC (v := (-1 : Int32)) rfl (dOk_at dt_X10_match 8 rfl) ?_
    exact j_iret hC hret (dOk_at dt_X10_match 9 rfl)
